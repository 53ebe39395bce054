/-! THE MODEL: make, divide -/
theorem isRl.fr {n m' : Nat} {h h' : xH} {S : Nat → Prop} {z : Nat} {x : UInt64} {b : Int} (t : isRl n h z x b) (e : hF S n h h') (hn : n ≤ m') (h0 : ¬ S z) : isRl m' h' z x b := by
  obtain ⟨t1, t2, t3, t4, t5⟩ := t
  have ee := e z t1
  have e0 := ee.2.2 h0
  exact ⟨by omega, t2, by rw [ee.1]; exact t3, by rw [e0]; exact t4, by rw [e0]; exact t5⟩
theorem sp_near {G : xG} {l : Launch} {n : Nat} {h : xH} {wl tl nm : Int} {za ra sa zb rb sb : Nat} {sg v w p : Int} {Po : UInt64 → xH → Prop} (tm : isM n h wl tl nm) (ta : isWh n h za ra sa sg v) (tb : isWh n h zb rb sb 1 w) (hv : 0 < v) (hw : 0 < w) (hv1 : v ≤ 2 ^ 63) (hw1 : w ≤ 2 ^ 63) (hp0 : -2000 ≤ p) (hp1 : p ≤ 2000) (hp : ∀ h' x e m, hE (fun i => 35 ≤ i ∧ i ≤ 39) h h' → isM n h' wl tl nm → nrR (v * 2 ^ p.toNat) (w * 2 ^ (-p).toNat) e m → isVl x false (m.toNat * 2 ^ (e + 1074).toNat) → Po x h') : S_X9_near G l 26 za p zb n h Po := by
  refine S_X9_near_of (fun k hl C E => ?_)
  obtain ⟨a1, a2, a3⟩ := ta.ln
  obtain ⟨b1, b2, b3⟩ := tb.ln
  have hra := ta.2.2.1
  have hrb := tb.2.2.1
  have hza := ta.2.1
  have hzb := tb.2.1
  have h63 : (2 : Int) ^ 63 < 10000 ^ 5 := by decide
  have hsa : sa ≤ 5 := ta.row.len (by omega)
  have hsb : sb ≤ 5 := tb.row.len (by omega)
  have fit : ∀ (x : Int) (j : Nat), 0 < x → x ≤ 2 ^ 63 → j ≤ 2000 → x * 2 ^ j < 10000 ^ 200 := by
    intro x j h0 h1 h2
    have h3 : x * 2 ^ j ≤ 2 ^ 63 * 2 ^ 2000 := Int.mul_le_mul h1 (pw_mono h2) (Int.le_of_lt (pw_pos _)) (by decide)
    have h4 : (2 : Int) ^ 63 * 2 ^ 2000 < 10000 ^ 200 := by decide +kernel
    omega
  let S : Nat → Prop := fun i => 35 ≤ i ∧ i ≤ 39
  have c38 : ∀ {h1 h2 : xH}, hE (sC 38) h1 h2 → hE S h1 h2 := fun e => e.mono (fun i hi => by have : i = 38 := hi; show 35 ≤ i ∧ i ≤ 39; omega)
  have c39 : ∀ {h1 h2 : xH}, hE (sC 39) h1 h2 → hE S h1 h2 := fun e => e.mono (fun i hi => by have : i = 39 := hi; show 35 ≤ i ∧ i ≤ 39; omega)
  have w85 : ∀ (an bn : Nat) (h1 : xH), hE S h h1 → isM n h1 wl tl nm → isT n h1 38 200 an (v * 2 ^ p.toNat) → isT n h1 39 200 bn (w * 2 ^ (-p).toNat) → X9_near_w85 G k 26 an bn n h1 := by
    intro an bn h1 e1 tm1 t1 u1
    refine X9_near_b85 C E 26 an bn n h1 rfl ?_
    rw [tm1.g11, tm1.g12]
    have han := t1.2.1
    have hbn := u1.2.1
    refine ⟨tm1.ok, by decide, tm1.ok, by decide, tm1.ok, sp_nearestM tm1 t1 u1 (Or.inr (by decide)) (Or.inr (by decide)) (by omega) (by omega) (Int.mul_pos hv (pw_pos _)) (Int.mul_pos hw (pw_pos _)) (fun h2 x e m e2 tm2 hn hx => hp h2 x e m (e1.tr (e2.mono (fun i hi => by show 35 ≤ i ∧ i ≤ 39; omega))) tm2 hn hx)⟩
  have w57 : ∀ (an : Nat) (h1 : xH), hE S h h1 → isM n h1 wl tl nm → isT n h1 38 200 an (v * 2 ^ p.toNat) → isT n h1 39 200 sb w → isWh n h1 zb rb sb 1 w → X9_near_w57 G k 26 p zb an n h1 := by
    intro an h1 e1 tm1 t1 u1 tb1
    obtain ⟨bb1, bb2, bb3⟩ := tb1.ln
    refine X9_near_b57 C E 26 p zb an n h1 rfl ⟨rgS (by omega) (by omega), fun g => ?_, fun g => ?_⟩
    · rw [tb1.f1, Int.toNat_natCast, bb1]
      refine ⟨tb1.ok, by omega, ⟨bb2, Or.inl bb3⟩, w85 an sb h1 e1 tm1 t1 ?_⟩
      rw [show (-p).toNat = 0 by omega, Int.pow_zero, Int.mul_one]; exact u1
    · obtain ⟨pn, hpn⟩ : ∃ pn : Nat, -p = (pn : Int) := ⟨(-p).toNat, by omega⟩
      rw [tb1.f1, Int.toNat_natCast, bb1, tm1.g12, hpn]
      refine ⟨tm1.ok, by decide, tb1.ok, by omega, ⟨bb2, Or.inl bb3⟩, sp_doubled u1 (by omega) (fit w pn hw hw1 (by omega)) (fun h2 s2 e2 t2 _ => ?_)⟩
      have e2' : hE (sC 39) h1 h2 := e2
      exact w85 an s2 h2 (e1.tr (c39 e2')) (tm1.mv e2' (by decide) (by decide)) (t1.mv e2' (by decide)) (by rw [hpn, Int.toNat_natCast]; exact t2)
  refine X9_near_b0 C E 26 za p zb n h rfl ?_
  rw [ta.f1, Int.toNat_natCast, a1, tm.g11]
  refine ⟨ta.ok, by omega, tm.ok, by decide, ta.ok, by omega, ⟨a2, Or.inl a3⟩, sp_copyW ta.row tm.t38 (by show ra ≠ 38; omega) (by omega) (fun h1 e1 t1 _ => ?_)⟩
  have e1' : hE (sC 38) h h1 := e1
  have tm1 := tm.mv e1' (by decide) (by decide)
  have ta1 := ta.mv e1' (show ¬ za = 38 by omega) (show ¬ ra = 38 by omega)
  have tb1 := tb.mv e1' (show ¬ zb = 38 by omega) (show ¬ rb = 38 by omega)
  obtain ⟨bb1, bb2, bb3⟩ := tb1.ln
  rw [tb1.f1, Int.toNat_natCast, bb1, tm1.g12]
  refine ⟨tb1.ok, by omega, tm1.ok, by decide, tb1.ok, by omega, ⟨bb2, Or.inl bb3⟩, sp_copyW tb1.row tm1.t39 (by show rb ≠ 39; omega) (by omega) (fun h2 e2 t2 _ => ?_)⟩
  have e2' : hE (sC 39) h1 h2 := e2
  have tm2 := tm1.mv e2' (by decide) (by decide)
  have ta2 := ta1.mv e2' (show ¬ za = 39 by omega) (show ¬ ra = 39 by omega)
  have tb2 := tb1.mv e2' (show ¬ zb = 39 by omega) (show ¬ rb = 39 by omega)
  have t12 : isT n h2 38 200 sa v := t1.mv e2' (by decide)
  obtain ⟨aa1, aa2, aa3⟩ := ta2.ln
  have e02 : hE S h h2 := (c38 e1').tr (c39 e2')
  refine ⟨rgS (by omega) (by omega), fun g => ?_, fun g => ?_⟩
  · rw [ta2.f1, Int.toNat_natCast, aa1]
    refine ⟨ta2.ok, by omega, ⟨aa2, Or.inl aa3⟩, w57 sa h2 e02 tm2 ?_ t2 tb2⟩
    rw [show p.toNat = 0 by omega, Int.pow_zero, Int.mul_one]; exact t12
  · obtain ⟨pn, hpn⟩ : ∃ pn : Nat, p = (pn : Int) := ⟨p.toNat, by omega⟩
    rw [ta2.f1, Int.toNat_natCast, aa1, tm2.g11]
    refine ⟨tm2.ok, by decide, ta2.ok, by omega, ⟨aa2, Or.inl aa3⟩, ?_⟩
    rw [hpn]
    refine sp_doubled t12 (by omega) (fit v pn hv hv1 (by omega)) (fun h3 s3 e3 t3 _ => ?_)
    have e3' : hE (sC 38) h2 h3 := e3
    rw [← hpn]
    exact w57 s3 h3 (e02.tr (c38 e3')) (tm2.mv e3' (by decide) (by decide)) (by rw [hpn, Int.toNat_natCast]; exact t3) (t2.mv e3' (by decide)) (tb2.mv e3' (show ¬ zb = 38 by omega) (show ¬ rb = 38 by omega))
/-- the number becomes a double -/
theorem isM.num {n : Nat} {h h' : xH} {wl tl nm z : Int} (t : isM n h wl tl nm) (e : h' = hS h 26 25 z) : isM n h' wl tl z := t.set e (by decide)
theorem hE26 {h h' : xH} {k : Nat} {z : Int} (e : h' = hS h 26 k z) : hE (sC 26) h h' := hE.put' (S := sC 26) e rfl
theorem sM26 {h h' : xH} (e : hE (sC 26) h h') : hE sM h h' := e.mono (fun i hi => Or.inl hi)
theorem sM35 {h h' : xH} (e : hE (fun i => 35 ≤ i ∧ i ≤ 39) h h') : hE sM h h' := e.mono (fun i hi => Or.inr ⟨by omega, by omega⟩)
theorem sp_makeM {G : xG} {l : Launch} {n : Nat} {h : xH} {wl tl nm sg u p : Int} {Po : Int → Nat → xH → Prop} (tm : isM n h wl tl nm) (hs : sg = 0 ∨ sg = 1) (hu : rgL u) (hpr : rg p) (hy : 0 ≤ u → -2000 ≤ p → p ≤ 2000 → ∀ h' n' z x e m, hF sM n h h' → n ≤ n' → n' ≤ n + 5 → isM n' h' wl tl (z : Nat) → nrR (u * 2 ^ p.toNat) (1 * 2 ^ (-p).toNat) e m → isRl n' h' z x 0 → isVl x (decide (sg ≠ 0)) (m.toNat * 2 ^ (e + 1074).toNat) → Po 1 n' h') (hn : ¬ (0 ≤ u ∧ -2000 ≤ p ∧ p ≤ 2000) → Po 0 n h) : S_X9_make G l 26 sg u p n h Po := by
  refine S_X9_make_of (fun k hl C E => ?_)
  have h47 : 47 < n := tm.1.1
  have w22 : ¬ (0 ≤ u ∧ -2000 ≤ p ∧ p ≤ 2000) → X9_make_w22 G k n h := fun g => X9_make_b22 (n0 := 0) C E n h ⟨Or.inl rfl, hn g⟩
  have r0 : rgL 0 := ⟨by decide, by decide⟩
  have w48 : 0 ≤ u → -2000 ≤ p → p ≤ 2000 → ∀ (x : UInt64) (n1 : Nat) (h1 : xH) (e m : Int), hF sM n h h1 → n ≤ n1 → n1 ≤ n + 4 → isM n1 h1 wl tl nm → nrR (u * 2 ^ p.toNat) (1 * 2 ^ (-p).toNat) e m → isVl x false (m.toNat * 2 ^ (e + 1074).toNat) → X9_make_w48 G k 26 sg x n1 h1 := by
    intro hu0 hp0 hp1 x n1 h1 e m e1 hn1 hn2 tm1 hnr hx
    have w63 : ∀ y, isVl y (decide (sg ≠ 0)) (m.toNat * 2 ^ (e + 1074).toNat) → X9_make_w63 G k y 26 n1 h1 := by
      intro y hyv
      refine X9_make_b63 (n0 := 0) C E y 26 n1 h1 (sp_of (by omega) (fun h2 k2 t2 => ?_))
      have tm2 : isM (n1 + 1) h2 wl tl nm := tm1.fr (S := fun _ => False) k2 (by omega) id id
      refine ⟨tm2.ok, fun h3 e3 => ⟨Or.inr rfl, hy hu0 hp0 hp1 h3 (n1 + 1) n1 y e m ?_ (by omega) (by omega) (tm2.num e3) hnr (t2.fr (hE26 e3).f (Nat.le_refl _) (show ¬ n1 = 26 by omega)) hyv⟩⟩
      exact (e1.tr (hK.f k2) hn1).tr ((sM26 (hE26 e3)).f (n := n1)) hn1
    refine X9_make_b48 (n0 := 0) C E 26 sg x n1 h1 ⟨by rcases hs with z | z <;> rw [z] <;> exact rgS (by decide) (by decide), fun g => w63 x ?_, fun g => w63 _ ?_⟩
    · rw [show decide (sg ≠ 0) = false by simp; exact g]; exact hx
    · rw [show decide (sg ≠ 0) = true by simp; exact g]; exact hx.neg
  refine X9_make_b0 (n0 := 0) C E 26 sg u p n h ⟨⟨hu, r0⟩, fun g => w22 (by have := (lC_lt u 0).mp g; omega), fun g => ⟨⟨hpr, rgS (by decide) (by decide)⟩, fun g2 => w22 (by omega), fun g2 => ⟨⟨hpr, rgS (by decide) (by decide)⟩, fun g3 => ⟨⟨hu, r0⟩, fun g4 => ?_, fun g4 => ?_⟩, fun g3 => w22 (by omega)⟩⟩⟩
  · have hu0 : 0 < u := by
      have h1 := mt (lC_lt u 0).mpr g
      have h2 := mt (lC_eq0 u 0).mpr g4
      omega
    refine sp_whole h47 hu (fun h1 za ra sa k1 hz1 hr1 t1 => sp_whole (by omega) ⟨by decide, by decide⟩ (fun h2 zb rb sb k2 hz2 hr2 t2 => ?_))
    have tm1 : isM (n + 2) h1 wl tl nm := tm.fr (S := fun _ => False) k1 (by omega) id id
    have tm2 : isM (n + 2 + 2) h2 wl tl nm := tm1.fr (S := fun _ => False) k2 (by omega) id id
    have t12 : isWh (n + 2 + 2) h2 za ra sa _ _ := t1.fr (S := fun _ => False) k2 (by omega) id id
    rw [show ((u.natAbs : Nat) : Int) = u by omega] at t12
    have t2' : isWh (n + 2 + 2) h2 zb rb sb 1 1 := t2
    refine ⟨tm2.ok, sp_near tm2 t12 t2' hu0 (by decide) (by have := hu.2; omega) (by decide) (by omega) (by omega) (fun h3 x e m e3 tm3 hnr hx => w48 (by omega) (by omega) g3 x (n + 2 + 2) h3 e m ?_ (by omega) (by omega) tm3 hnr hx)⟩
    exact ((hK.f k1).tr (hK.f k2) (by omega)).tr ((sM35 e3).f (n := n)) (Nat.le_refl _)
  · have hu0 : u = 0 := (lC_eq0 u 0).mp g4
    refine w48 (by omega) (by omega) g3 FP.dconst0 n h (-1074) 0 hF.rf (Nat.le_refl _) (by omega) tm ?_ (by rw [show (Int.toNat 0 * 2 ^ ((-1074 : Int) + 1074).toNat) = 0 from by decide]; exact vl0_isVl)
    rw [hu0, Int.zero_mul]
    exact nr_zero (by rw [Int.one_mul]; exact pw_pos _)
theorem sp_divideM {G : xG} {l : Launch} {n : Nat} {h : xH} {wl tl nm a d : Int} {Po : Int → Nat → xH → Prop} (tm : isM n h wl tl nm) (ha : rgL a) (hd : rgL d) (hy : 0 < d → ∀ h' n' z x e m, hF sM n h h' → n ≤ n' → n' ≤ n + 5 → isM n' h' wl tl (z : Nat) → nrR (if a < 0 then -a else a) d e m → isRl n' h' z x 0 → isVl x (decide (a < 0)) (m.toNat * 2 ^ (e + 1074).toNat) → Po 1 n' h') (hn : ¬ 0 < d → Po 0 n h) : S_X9_divide G l 26 a d n h Po := by
  refine S_X9_divide_of (fun k hl C E => ?_)
  have h47 : 47 < n := tm.1.1
  have r0 : rgL 0 := ⟨by decide, by decide⟩
  have w31 : 0 < d → ∀ (x : UInt64) (n1 : Nat) (h1 : xH) (e m : Int), hF sM n h h1 → n ≤ n1 → n1 ≤ n + 4 → isM n1 h1 wl tl nm → nrR (if a < 0 then -a else a) d e m → isVl x false (m.toNat * 2 ^ (e + 1074).toNat) → X9_divide_w31 G k 26 a x n1 h1 := by
    intro hd0 x n1 h1 e m e1 hn1 hn2 tm1 hnr hx
    have w48 : ∀ y, isVl y (decide (a < 0)) (m.toNat * 2 ^ (e + 1074).toNat) → X9_divide_w48 G k y 26 n1 h1 := by
      intro y hyv
      refine X9_divide_b48 (n0 := 0) C E y 26 n1 h1 (sp_of (by omega) (fun h2 k2 t2 => ?_))
      have tm2 : isM (n1 + 1) h2 wl tl nm := tm1.fr (S := fun _ => False) k2 (by omega) id id
      refine ⟨tm2.ok, fun h3 e3 => ⟨Or.inr rfl, hy hd0 h3 (n1 + 1) n1 y e m ?_ (by omega) (by omega) (tm2.num e3) hnr (t2.fr (hE26 e3).f (Nat.le_refl _) (show ¬ n1 = 26 by omega)) hyv⟩⟩
      exact (e1.tr (hK.f k2) hn1).tr ((sM26 (hE26 e3)).f (n := n1)) hn1
    refine X9_divide_b31 (n0 := 0) C E 26 a x n1 h1 ⟨⟨ha, r0⟩, fun g => w48 x ?_, fun g => w48 _ ?_⟩
    · have := mt (lC_lt a 0).mpr (by omega)
      rw [show decide (a < 0) = false by simp; omega]; exact hx
    · have := (lC_lt a 0).mp (by omega)
      rw [show decide (a < 0) = true by simp; omega]; exact hx.neg
  refine X9_divide_b0 (n0 := 0) C E 26 a d n h ⟨⟨hd, r0⟩, fun g => ?_, fun g => ⟨Or.inl rfl, hn (fun z => g ((lC_gt d 0).mpr z))⟩⟩
  have hd0 := (lC_gt d 0).mp g
  refine ⟨⟨ha, r0⟩, fun g4 => ?_, fun g4 => ?_⟩
  · have ha0 : a ≠ 0 := mt (lC_eq0 a 0).mpr g4
    have hab : ((a.natAbs : Nat) : Int) = if a < 0 then -a else a := by split <;> omega
    refine sp_whole h47 ha (fun h1 za ra sa k1 hz1 hr1 t1 => sp_whole (by omega) hd (fun h2 zb rb sb k2 hz2 hr2 t2 => ?_))
    have tm1 : isM (n + 2) h1 wl tl nm := tm.fr (S := fun _ => False) k1 (by omega) id id
    have tm2 : isM (n + 2 + 2) h2 wl tl nm := tm1.fr (S := fun _ => False) k2 (by omega) id id
    have t12 : isWh (n + 2 + 2) h2 za ra sa _ _ := t1.fr (S := fun _ => False) k2 (by omega) id id
    rw [if_neg (show d ≠ 0 by omega), if_pos hd0, show ((d.natAbs : Nat) : Int) = d by omega] at t2
    have h63 : (2 : Int) ^ 63 = 9223372036854775808 := by decide
    refine ⟨tm2.ok, sp_near tm2 t12 t2 (by omega) hd0 (by have := ha.1; have := ha.2; omega) (by have := hd.2; omega) (by decide) (by decide) (fun h3 x e m e3 tm3 hnr hx => w31 hd0 x (n + 2 + 2) h3 e m ?_ (by omega) (by omega) tm3 ?_ hx)⟩
    · exact ((hK.f k1).tr (hK.f k2) (by omega)).tr ((sM35 e3).f (n := n)) (Nat.le_refl _)
    · rw [← hab]
      have : nrR (((a.natAbs : Nat) : Int) * 2 ^ (0 : Int).toNat) (d * 2 ^ (-(0 : Int)).toNat) e m := hnr
      rw [show (0 : Int).toNat = 0 from rfl, show (-(0 : Int)).toNat = 0 from rfl, Int.pow_zero, Int.mul_one, Int.mul_one] at this
      exact this
  · have ha0 : a = 0 := (lC_eq0 a 0).mp g4
    refine w31 hd0 FP.dconst0 n h (-1074) 0 hF.rf (Nat.le_refl _) (by omega) tm ?_ (by rw [show (Int.toNat 0 * 2 ^ ((-1074 : Int) + 1074).toNat) = 0 from by decide]; exact vl0_isVl)
    rw [ha0]
    exact nr_zero hd0
