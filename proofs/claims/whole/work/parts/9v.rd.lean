/-! THE MODEL READS -/
theorem fin_vl {n : Nat} {h : xH} {N D e m sg : Int} (hn : nrR N D e m) (hf : finD n h sg m e) (hsg : sg = 0 ∨ sg = 1) : ∃ kd un pl, isD n h kd sg un pl ∧ (kd = 2 ∨ kd = 3) ∧ (kd = 2 → ∃ c : Nat, un = (c : Int) ∧ cnD c pl) ∧ ∀ (n' : Nat) (h' : xH) (y : Nat) (x : UInt64) (v w : Int), isRl n' h' y x 0 → isVl x (sgB sg) (m.toNat * 2 ^ (e + 1074).toNat) → nuM n' h' y kd sg un pl v w := by
  obtain ⟨he, f, r, h1, h2, h3, h4, h5, h6, h7⟩ := hn
  have hm : f ≤ m ∧ m ≤ 9007199254740992 := by omega
  generalize hZ : m.toNat * 2 ^ (e + 1074).toNat = Z
  have fin : ∀ (c : Nat) (q : Int), cnD c q → zv c q = Z → ∀ (n' : Nat) (h' : xH) (y : Nat) (x : UInt64) (v w : Int), isRl n' h' y x 0 → isVl x (sgB sg) Z → nuM n' h' y 2 sg (c : Int) q v w := by
    intro c q hc hz n' h' y x v w hx hv
    rcases hv with ⟨a1, c', q', a2, a3⟩ | ⟨a1, a2⟩
    · obtain ⟨u1, u2⟩ := cn_u hc (fin_cn a2) (by omega)
      exact Or.inr ⟨y, rfl, hsg, Or.inr (Or.inl ⟨rfl, x, c', q', hx, a2, by rw [u1], u2⟩)⟩
    · have b1 := zv_max hc
      have b2 := big_lt
      omega
  have inf : 2 ^ 2098 ≤ Z → ∀ (n' : Nat) (h' : xH) (y : Nat) (x : UInt64) (un pl v w : Int), isRl n' h' y x 0 → isVl x (sgB sg) Z → nuM n' h' y 3 sg un pl v w := by
    intro hz n' h' y x un pl v w hx hv
    rcases hv with ⟨a1, _⟩ | ⟨a1, a2⟩
    · omega
    · exact Or.inr ⟨y, rfl, hsg, Or.inr (Or.inr (Or.inl ⟨rfl, x, hx, a2⟩))⟩
  by_cases g : m = 9007199254740992
  · unfold finD at hf
    rw [if_pos g, if_pos g] at hf
    have hmt : m.toNat = 9007199254740992 := by omega
    have e53 : (9007199254740992 : Nat) = 2 ^ 53 := by decide
    have e52 : (4503599627370496 : Nat) = 2 ^ 52 := by decide
    rw [hmt] at hZ
    rcases hf with ⟨f1, f2⟩ | ⟨f1, un, pl, f2⟩
    · have hc : cnD 4503599627370496 (e + 1) := ⟨by decide, by omega, f1, Or.inr (by decide)⟩
      refine ⟨2, _, _, f2, Or.inl rfl, fun _ => ⟨4503599627370496, rfl, hc⟩, fin 4503599627370496 (e + 1) hc ?_⟩
      unfold zv
      rw [← hZ, e53, e52, ← Nat.pow_add, ← Nat.pow_add, show 52 + (e + 1 + 1074).toNat = 53 + (e + 1074).toNat by omega]
    · refine ⟨3, un, pl, f2, Or.inr rfl, fun y => absurd y (by decide), fun n' h' y x v w => inf ?_ n' h' y x un pl v w⟩
      rw [← hZ, e53, ← Nat.pow_add]
      exact Nat.pow_le_pow_right (by decide) (by omega)
  · unfold finD at hf
    rw [if_neg g, if_neg g] at hf
    obtain ⟨c, hc⟩ : ∃ c : Nat, m = (c : Int) := ⟨m.toNat, by omega⟩
    have hmt : m.toNat = c := by omega
    rw [hmt] at hZ
    rcases hf with ⟨f1, f2⟩ | ⟨f1, un, pl, f2⟩
    · have hcn : cnD c e := ⟨by omega, by omega, f1, by omega⟩
      rw [hc] at f2
      exact ⟨2, _, _, f2, Or.inl rfl, fun _ => ⟨c, rfl, hcn⟩, fin c e hcn hZ⟩
    · refine ⟨3, un, pl, f2, Or.inr rfl, fun y => absurd y (by decide), fun n' h' y x v w => inf ?_ n' h' y x un pl v w⟩
      rw [← hZ]
      have a1 : 2 ^ 52 ≤ c := by
        have e52 : (2 : Nat) ^ 52 = 4503599627370496 := by decide
        omega
      have a2 : (2 : Nat) ^ 2046 ≤ 2 ^ (e + 1074).toNat := Nat.pow_le_pow_right (by decide) (by omega)
      have a3 := Nat.mul_le_mul a1 a2
      rw [← Nat.pow_add] at a3
      exact a3
theorem sp_isExactN {G : xG} {l : Launch} {n : Nat} {h : xH} {z : Nat} {x : UInt64} {b : Int} {Po : Int → xH → Prop} (t : isRl n h z x b) (hp : Po 0 h) : S_X9_isExact G l z n h Po := by
  refine S_X9_isExact_of (fun k hl C E => X9_isExact_b0 C E z n h rfl ?_)
  have e7 : xI h 7 (z : Int) = 0 := by rw [xI_at, t.2.2.1, if_neg (by decide)]
  have e5 : xI h 5 (z : Int) = 0 := by rw [xI_at, t.2.2.1, if_neg (by decide)]
  exact ⟨t.any, rg_xI, fun y => absurd e7 y, fun _ => ⟨t.any, rg_xI, fun _ => X9_isExact_b19 C E 0 n h rfl ⟨Or.inl rfl, hp⟩, fun y => absurd e5 y⟩⟩
theorem nuM.cell {n : Nat} {h h' : xH} {z kd mn un pl v w : Int} (t : nuM n h z kd mn un pl v w) (e : hE (sC 26) h h') : nuM n h' z kd mn un pl v w := t.fr (e.f) (Nat.le_refl _) (fun i hi => show ¬ i = 26 by omega)
theorem sp_readM {G : xG} {l : Launch} {n : Nat} {h : xH} {T : List Int} {wl z ret v0 w0 : Int} {Po : Int → Nat → xH → Prop} (tm : isM n h wl (T.length : Int) z) (tt : isTx h T) (hT : ∀ x, x ∈ T → 0 ≤ x ∧ x ≤ 127) (hr : rdR n h T ret) (q6 : isN n h 6 v0) (q8 : isN n h 8 w0)
    (hp : ∀ h' n' z' kd mn un pl v w, hF sM n h h' → n ≤ n' → n' ≤ n + 11 → isM n' h' wl (T.length : Int) z' → isD n h kd mn un pl → isN n h 6 v → isN n h 8 w → nuM n' h' z' kd mn un pl v w → Po ret n' h') :
    S_X9_read G l 26 n h Po := by
  obtain ⟨fm, mn, ex, tn, v, w, hprs, hc⟩ := hr
  refine S_X9_read_of (fun k hl C E => X9_read_b0 (n0 := 0) C E 26 n h ?_)
  have w45 : ∀ s n' h', Po s n' h' → X9_read_w45 G k s n' h' := fun s n' h' y => X9_read_b45 (n0 := 0) C E s n' h' y
  have hmn01 : mn = 0 ∨ mn = 1 := by
    obtain ⟨_, _, _, _, _, _, _, _, _, a, _⟩ := hprs
    rw [a]; split; exact Or.inr rfl; exact Or.inl rfl
  rw [tm.g23, tm.g24]
  -- how it ends
  let Q : Int → Nat → xH → Prop := fun z5 n7 h6 => okO n7 h6 26 8 ∧ (∀ h9 : xH, h9 = hS h6 26 25 z5 → okO n7 h9 26 8 ∧ ((¬ (hG h9 26 25) < 0 → okO n7 h9 26 8 ∧ S_X9_isExact G (kl k) (hG h9 26 25) n7 h9 (fun z13 h14 => rg z13 ∧ ((z13 = 0 → X9_read_w45 G k 2 n7 h14) ∧ (¬ z13 = 0 → X9_read_w45 G k 1 n7 h14)))) ∧ ((hG h9 26 25) < 0 → X9_read_w45 G k 0 n7 h9)))
  have no : ret = 0 → (∃ un pl, isD n h 0 0 un pl) → ∀ h' n', hF sM n h h' → n ≤ n' → n' ≤ n + 11 → isM n' h' wl (T.length : Int) z → Q (-1) n' h' := by
    rintro y ⟨un, pl, hd⟩ h' n' a1 a2 a3 a4
    refine ⟨a4.ok, fun h9 e9 => ?_⟩
    have t9 := a4.num e9
    rw [t9.g25]
    refine ⟨t9.ok, fun y2 => absurd (by decide) y2, fun _ => w45 _ _ _ ?_⟩
    have := hp h9 n' (-1) 0 0 un pl v0 w0 (a1.tr ((sM26 (hE26 e9)).f (n := n)) (Nat.le_refl _)) a2 a3 t9 hd q6 q8 (Or.inl ⟨rfl, rfl, rfl⟩)
    rwa [y] at this
  have ex1 : ret = 1 → ∀ V W, lowR v w V W ∨ lowR (v * 10 ^ tn.toNat) (10 ^ (-tn).toNat) V W → (∃ un pl, isD n h 1 (if V = 0 then 0 else mn) un pl) → isN n h 6 V → isN n h 8 W → bl V ≤ 4096 → bl W ≤ 4096 → ∀ h' n' (y : Int), hF sM n h h' → n ≤ n' → n' ≤ n + 11 → isM n' h' wl (T.length : Int) z → exS n' h' y mn V W → Q y n' h' := by
    rintro y0 V W hlw ⟨un, pl, hd⟩ i6 i8 b1 b2 h' n' y a1 a2 a3 a4 a5
    rcases a5 with ⟨_, a5⟩ | ⟨_, _, zn, rfl, a7⟩
    · omega
    refine ⟨a4.ok, fun h9 e9 => ?_⟩
    have t9 := a4.num e9
    have x9 := a7.mv (hE26 e9) (fun i hi => show ¬ i = 26 by omega)
    rw [t9.g25]
    refine ⟨t9.ok, fun _ => ⟨t9.ok, sp_isExactY x9 ⟨rgS (by decide) (by decide), fun y => absurd y (by decide), fun _ => w45 _ _ _ ?_⟩⟩, fun y2 => by omega⟩
    have hVW : 0 ≤ V ∧ 0 < W ∧ (V = 0 → W = 1) := by
      have : ∀ {N D : Int}, lowR N D V W → 0 ≤ V ∧ 0 < W ∧ (V = 0 → W = 1) := by
        rintro N D ⟨V', W', d, l1, l2, l3, l4, l5, l6⟩
        refine ⟨by omega, by omega, fun y => ?_⟩
        have : V' = 0 := by omega
        rw [this, Nat.gcd_zero_left] at l5
        omega
      rcases hlw with y | y <;> exact this y
    have := hp h9 n' zn 1 (if V = 0 then 0 else mn) un pl V W (a1.tr ((sM26 (hE26 e9)).f (n := n)) (Nat.le_refl _)) a2 a3 t9 hd i6 i8 (Or.inr ⟨zn, rfl, by split; exact Or.inl rfl; exact hmn01, Or.inl ⟨rfl, ?_, hVW.1, hVW.2.1, fun y => ⟨by rw [if_pos y], hVW.2.2 y⟩, b1, b2⟩⟩)
    · rwa [y0] at this
    · by_cases gV : V = 0
      · rw [if_pos gV] at x9 ⊢; exact x9
      · rw [if_neg gV] at x9 ⊢; rw [if_neg gV]; exact x9
  have dbl : ret = 2 → ∀ (kd mn' un pl : Int), isD n h kd mn' un pl → ∀ h' n' (y : Nat) x b, hF sM n h h' → n ≤ n' → n' ≤ n + 11 → isM n' h' wl (T.length : Int) z → isRl n' h' y x b → nuM n' h' y kd mn' un pl v0 w0 → Q y n' h' := by
    intro y0 kd mn' un pl hd h' n' y x b a1 a2 a3 a4 a5 a6
    refine ⟨a4.ok, fun h9 e9 => ?_⟩
    have t9 := a4.num e9
    have h47 := a5.2.1
    have x9 := a5.fr (m' := n') (hE26 e9).f (Nat.le_refl _) (show ¬ y = 26 by omega)
    rw [t9.g25]
    refine ⟨t9.ok, fun _ => ⟨t9.ok, sp_isExactN x9 ⟨rg0, fun _ => w45 _ _ _ ?_, fun y => absurd rfl y⟩⟩, fun y2 => by omega⟩
    have := hp h9 n' y kd mn' un pl v0 w0 (a1.tr ((sM26 (hE26 e9)).f (n := n)) (Nat.le_refl _)) a2 a3 t9 hd q6 q8 (a6.cell (hE26 e9))
    rwa [y0] at this
  refine ⟨tm.ok, by decide, tm.ok, tm.ok, sp_numberM (Po := Q) tm tt hT hprs (fun f h' n' a1 a2 a3 a4 => ?_) (fun f y h' n' yz V W a1 a2 a3 a4 a5 a6 => ?_) (fun f y h' n' yz x e1 m1 a1 a2 a3 a4 a5 a6 a7 => ?_) (fun f y h' n' yz V W a1 a2 a3 a4 a5 a6 => ?_) (fun f y h' n' yz x e1 m1 a1 a2 a3 a4 a5 a6 a7 => ?_) (fun f h' n' yz x a1 a2 a3 a4 a5 a6 => ?_) (fun f h' n' yz x a1 a2 a3 a4 a5 => ?_)⟩
  · rcases hc with ⟨c1, c2, c3⟩ | ⟨c1, _⟩ | ⟨c1, _⟩ | ⟨c1, _⟩ | ⟨c1, _⟩ | ⟨c1, _⟩ | ⟨c1, _⟩ | ⟨c1, _⟩
    · exact no c2 c3 h' n' a1 a2 a3 a4
    all_goals omega
  · have pb := prs_bd tt.1 hprs (Or.inl f)
    rcases hc with ⟨c1, _⟩ | ⟨c1, _⟩ | ⟨c1, _⟩ | ⟨c1, c2, _⟩ | ⟨c1, c2, c3, V', W', un, pl, c4, c5, c6, c7⟩ | ⟨c1, _⟩ | ⟨c1, _⟩ | ⟨c1, _⟩
    · omega
    · omega
    · omega
    · exact absurd c2 y
    · obtain ⟨u1, u2⟩ := low_u pb.2.2.1 c4 a5
      subst u1 u2
      have hb : ∀ {q : Int}, q < 2 ^ 1600 → bl q ≤ 4096 := fun hq => by have := bl_le (t := 1600) hq; omega
      have hVb : V' ≤ v ∧ W' ≤ w := by
        obtain ⟨A, B, d, l1, l2, l3, l4, l5, l6⟩ := a5
        have hd : 0 < d := by
          rcases Nat.eq_zero_or_pos d with y5 | y5
          · rw [y5, Nat.mul_zero] at l4; have := pb.2.2.1; omega
          · exact y5
        have m1 := Nat.le_mul_of_pos_right A hd
        have m2 := Nat.le_mul_of_pos_right B hd
        omega
      exact ex1 c3 V' W' (Or.inl c4) ⟨un, pl, c5⟩ c6 c7 (hb (by have := pb.2.1; omega)) (hb (by have := pb.2.2.2.1; omega)) h' n' yz a1 a2 a3 a4 a6
    all_goals omega
  · have pb := prs_bd tt.1 hprs (Or.inl f)
    rcases hc with ⟨c1, _⟩ | ⟨c1, _⟩ | ⟨c1, _⟩ | ⟨c1, c2, c3, e, m, c4, c5⟩ | ⟨c1, c2, _⟩ | ⟨c1, _⟩ | ⟨c1, _⟩ | ⟨c1, _⟩
    · omega
    · omega
    · omega
    · obtain ⟨u1, u2⟩ := nr_u pb.2.2.1 c4 a5
      subst u1 u2
      obtain ⟨kd, un, pl, d1, d2, d3, d4⟩ := fin_vl c4 c5 hmn01
      exact dbl c3 kd mn un pl d1 h' n' yz x 0 a1 a2 a3 a4 a6 (d4 n' h' yz x v0 w0 a6 a7)
    · exact absurd y c2
    all_goals omega
  · have pb := prs_bd tt.1 hprs (Or.inr f)
    rcases hc with ⟨c1, _⟩ | ⟨c1, _⟩ | ⟨c1, _⟩ | ⟨c1, _⟩ | ⟨c1, _⟩ | ⟨c1, c2, c3, V', W', un, pl, c4, b1, b2, c5, c6, c7⟩ | ⟨c1, c2, c3, V', W', un, pl, c4, c5, c6⟩ | ⟨c1, c2, _⟩
    · omega
    · omega
    · omega
    · omega
    · omega
    · obtain ⟨u1, u2⟩ := low_u (Int.pow_pos (by decide)) c4 a5
      subst u1 u2
      exact ex1 c3 V' W' (Or.inr c4) ⟨un, pl, c5⟩ c6 c7 b1 b2 h' n' yz a1 a2 a3 a4 a6
    · obtain ⟨u1, u2⟩ := low_u (Int.pow_pos (by decide)) c4 a5
      subst u1 u2
      rcases a6 with ⟨d1, _⟩ | ⟨d1, d2, _⟩
      · rw [d1]; exact no c3 ⟨un, pl, c6⟩ h' n' a1 a2 a3 a4
      · omega
    · exact absurd y c2
  · have pb := prs_bd tt.1 hprs (Or.inr f)
    rcases hc with ⟨c1, _⟩ | ⟨c1, _⟩ | ⟨c1, _⟩ | ⟨c1, _⟩ | ⟨c1, _⟩ | ⟨c1, c2, _⟩ | ⟨c1, c2, _⟩ | ⟨c1, c2, c3, e, m, c4, c5⟩
    · omega
    · omega
    · omega
    · omega
    · omega
    · exact absurd c2 y
    · exact absurd c2 y
    · obtain ⟨u1, u2⟩ := nr_u (Int.pow_pos (by decide)) c4 a5
      subst u1 u2
      obtain ⟨kd, un, pl, d1, d2, d3, d4⟩ := fin_vl c4 c5 hmn01
      exact dbl c3 kd mn un pl d1 h' n' yz x 0 a1 a2 a3 a4 a6 (d4 n' h' yz x v0 w0 a6 a7)
  · rcases hc with ⟨c1, _⟩ | ⟨c1, c2, un, pl, c3⟩ | ⟨c1, _⟩ | ⟨c1, _⟩ | ⟨c1, _⟩ | ⟨c1, _⟩ | ⟨c1, _⟩ | ⟨c1, _⟩
    · omega
    · exact dbl c2 3 mn un pl c3 h' n' yz x 0 a1 a2 a3 a4 a5 (Or.inr ⟨yz, rfl, hmn01, Or.inr (Or.inr (Or.inl ⟨rfl, x, a5, a6⟩))⟩)
    all_goals omega
  · rcases hc with ⟨c1, _⟩ | ⟨c1, _⟩ | ⟨c1, c2, un, pl, c3⟩ | ⟨c1, _⟩ | ⟨c1, _⟩ | ⟨c1, _⟩ | ⟨c1, _⟩ | ⟨c1, _⟩
    · omega
    · omega
    · exact dbl c2 4 0 un pl c3 h' n' yz x 1 a1 a2 a3 a4 a5 (Or.inr ⟨yz, rfl, Or.inl rfl, Or.inr (Or.inr (Or.inr ⟨rfl, rfl, x, a5⟩))⟩)
    all_goals omega
