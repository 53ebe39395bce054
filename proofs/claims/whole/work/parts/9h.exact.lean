/-! THE MODEL: a double made exact, an exact number made a double -/
theorem odd_pow2 {m : Nat} (h : m % 2 = 1) (k : Nat) : Nat.gcd m (2 ^ k) = 1 := by
  have h2 : Nat.Coprime m 2 := by
    rw [Nat.coprime_comm]
    show Nat.gcd 2 m = 1
    rw [Nat.gcd_rec, h]
    rfl
  exact Nat.Coprime.pow_right k h2
theorem pw_same (m : Nat) {a b : Nat} (h : a = b) : m * 2 ^ a = m * 2 ^ b := by rw [h]
theorem hK.le {n m : Nat} {h h' : xH} (e : hK m h h') (hn : n ≤ m) : hK n h h' := fun i hi => e i (by omega)
theorem low_sg {c m : Nat} {q e : Int} (hq : -1074 ≤ q) (h : sgR (zv c q) m e) : lowR ((c : Int) * 2 ^ q.toNat) (2 ^ (-q).toNat) ((m * 2 ^ e.toNat : Nat) : Int) ((2 ^ (-e).toNat : Nat) : Int) := by
  obtain ⟨s1, s2, s3, s4, s5, s6, s7⟩ := h
  unfold zv at s1
  have c1 : (c : Int) * 2 ^ q.toNat = ((c * 2 ^ q.toNat : Nat) : Int) := by rw [Int.natCast_mul, Int.natCast_pow]; rfl
  have c2 : (2 : Int) ^ (-q).toNat = ((2 ^ (-q).toNat : Nat) : Int) := by rw [Int.natCast_pow]; rfl
  rw [c1, c2]
  have hgcd : Nat.gcd (m * 2 ^ e.toNat) (2 ^ (-e).toNat) = 1 := by
    rcases Int.lt_or_le e 0 with g | g
    · rw [show e.toNat = 0 by omega, Nat.pow_zero, Nat.mul_one]
      exact odd_pow2 (s6 g) _
    · rw [show (-e).toNat = 0 by omega, Nat.pow_zero]
      exact Nat.gcd_one_right _
  refine ⟨m * 2 ^ e.toNat, 2 ^ (-e).toNat, 2 ^ ((-q).toNat - (-e).toNat), rfl, rfl, ?_, ?_, hgcd, Nat.two_pow_pos _⟩
  · congr 1
    apply Nat.eq_of_mul_eq_mul_right (Nat.two_pow_pos 1074)
    rcases Int.lt_or_le q 0 with g | g
    · have hc : c * 2 ^ 1074 = m * 2 ^ (e + 1074).toNat * 2 ^ (-q).toNat := by
        rw [← s1, Nat.mul_assoc, ← Nat.pow_add, show (q + 1074).toNat + (-q).toNat = 1074 by omega]
      rw [show q.toNat = 0 by omega, Nat.pow_zero, Nat.mul_one, hc, Nat.mul_assoc, Nat.mul_assoc, Nat.mul_assoc, ← Nat.pow_add, ← Nat.pow_add, ← Nat.pow_add]
      refine pw_same _ ?_
      rcases Int.lt_or_le e 0 with g2 | g2
      · have hqe : q ≤ e := by
          rcases Int.lt_or_le e q with y | y
          · exfalso
            rw [show (q + 1074).toNat = (q - e - 1).toNat + 1 + (e + 1074).toNat by omega, Nat.pow_add, Nat.pow_succ, ← Nat.mul_assoc, ← Nat.mul_assoc] at s1
            have := Nat.eq_of_mul_eq_mul_right (Nat.two_pow_pos _) s1
            have := s6 g2
            omega
          · exact y
        omega
      · omega
    · have he : 0 ≤ e := by
        rcases Int.lt_or_le e 0 with y | y
        · exfalso
          rw [show (q + 1074).toNat = (q - e - 1).toNat + 1 + (e + 1074).toNat by omega, Nat.pow_add, Nat.pow_succ, ← Nat.mul_assoc, ← Nat.mul_assoc] at s1
          have := Nat.eq_of_mul_eq_mul_right (Nat.two_pow_pos _) s1
          have := s6 y
          omega
        · exact y
      rw [show (-q).toNat - (-e).toNat = 0 by omega, Nat.pow_zero, Nat.mul_one, Nat.mul_assoc, ← Nat.pow_add, Nat.mul_assoc, ← Nat.pow_add, show q.toNat + 1074 = (q + 1074).toNat by omega, show e.toNat + 1074 = (e + 1074).toNat by omega]
      exact s1
  · congr 1
    rw [← Nat.pow_add]
    congr 1
    rcases Int.lt_or_le e 0 with g2 | g2
    · have hqe : q ≤ e := by
        rcases Int.lt_or_le e q with y | y
        · exfalso
          rw [show (q + 1074).toNat = (q - e - 1).toNat + 1 + (e + 1074).toNat by omega, Nat.pow_add, Nat.pow_succ, ← Nat.mul_assoc, ← Nat.mul_assoc] at s1
          have := Nat.eq_of_mul_eq_mul_right (Nat.two_pow_pos _) s1
          have := s6 g2
          omega
        · exact y
      omega
    · omega
theorem low_0 {k : Nat} : lowR 0 (2 ^ k) 0 1 := ⟨0, 1, 2 ^ k, rfl, rfl, by rw [Nat.zero_mul]; rfl, by rw [Nat.one_mul, Int.natCast_pow]; rfl, by decide, by decide⟩
theorem sp_exactOf {G : xG} {l : Launch} {n : Nat} {h : xH} {wl tl nm : Int} {x : UInt64} {s : Bool} {c : Nat} {q : Int} {Po : Int → Nat → xH → Prop} (tm : isM n h wl tl nm) (hx : vl x = .fin s c q) (hp : ∀ h' n' (z : Nat) V W, hF sM n h h' → n ≤ n' → n' ≤ n + 5 → isM n' h' wl tl nm → lowR ((c : Int) * 2 ^ q.toNat) (2 ^ (-q).toNat) V W → 0 ≤ V → 0 < W → (V = 0 → W = 1) → isEx n' h' z (if V = 0 then 0 else if s then -1 else 1) V W → Po z n' h') : S_X9_exactOf G l 26 x n h Po := by
  refine S_X9_exactOf_of (fun k hl C E => ?_)
  have h47 : 47 < n := tm.1.1
  have hcn := fin_cn hx
  have hz := dC_z (op := .l) (nn_fin hx) nn_0
  have hzg := dC_z (op := .g) (nn_fin hx) nn_0
  rw [zD_fin hx, zD_0] at hz hzg
  have w28 : ∀ (m : Nat) (e : Int), 0 < c → sgR (zv c q) m e → X9_exactOf_w28 G k 26 x (if s then -(m : Int) else (m : Int)) n h := by
    intro m e hc hs
    have hs' := hs
    obtain ⟨s1, s2, s3, s4, s5, s6, s7⟩ := hs
    have hlow := low_sg hcn.2.1 hs'
    refine X9_exactOf_b28 (n0 := 0) C E 26 x _ n h (sp_whole h47 (by split <;> exact ⟨by omega, by omega⟩) (fun h1 z1 r1 d1 k1 hz1 hr1 t1 => ?_))
    have hsg : (if (if s then -(m : Int) else (m : Int)) = 0 then (0 : Int) else if 0 < (if s then -(m : Int) else (m : Int)) then 1 else -1) = if s then -1 else 1 := by
      cases s
      · simp; omega
      · simp; omega
    have hab : (((if s then -(m : Int) else (m : Int)).natAbs : Nat) : Int) = (m : Int) := by cases s <;> simp
    rw [hsg, hab] at t1
    have tm1 : isM (n + 2) h1 wl tl nm := tm.fr (S := fun _ => False) k1 (by omega) id id
    refine sp_exponent hx hc (fun m2 e2 hs2 => ?_)
    have hu := sgR_u hs2 hs'
    rw [hu.2]
    obtain ⟨l1, l2, l3⟩ := t1.ln
    have hd1 : d1 ≤ 5 := t1.row.len (by have : (10000 : Int) ^ 5 = 100000000000000000000 := by decide
                                        omega)
    have w162 : ∀ (z : Nat) (n2 : Nat) (h2 : xH) (V W : Int), hF sM n h h2 → n ≤ n2 → n2 ≤ n + 5 → isM n2 h2 wl tl nm → V = ((m * 2 ^ e.toNat : Nat) : Int) → W = ((2 ^ (-e).toNat : Nat) : Int) → isEx n2 h2 z (if s then -1 else 1) V W → Po (z : Int) n2 h2 := by
      intro z n2 h2 V W e2 hn1 hn2 tm2 hV hW hex
      have hV0 : 0 < V := by
        rw [hV]
        have := Nat.mul_pos s4 (Nat.two_pow_pos e.toNat)
        omega
      have hW0 : 0 < W := by
        rw [hW]
        have := Nat.two_pow_pos (-e).toNat
        omega
      refine hp h2 n2 z V W e2 hn1 hn2 tm2 (by rw [hV, hW]; exact hlow) (by omega) hW0 (fun y => by omega) ?_
      rw [if_neg (by omega)]; exact hex
    refine ⟨rgS (by omega) (by omega), fun g => ?_, fun g => ?_⟩
    · -- not 0
      have w131 : ∀ (nn : Nat) (sg : Int) (h3 : xH), hF sM n h h3 → isM (n + 2) h3 wl tl nm → isWh (n + 2) h3 z1 r1 d1 (if s then -1 else 1) (m : Int) → isT (n + 2) h3 29 440 nn (if 0 < e then (m : Int) * 2 ^ e.toNat else 2 ^ (-e).toNat) → sg = (if 0 < e then (if s then -1 else 1) else 1) → X9_exactOf_w131 G k 26 z1 e nn sg (n + 2) h3 := by
        intro nn sg h3 e3 tm3 t3 u3 hsg3
        refine X9_exactOf_b131 (n0 := 0) C E 26 z1 e nn sg (n + 2) h3 ?_
        rw [tm3.g2]
        have hvp : 0 < (if 0 < e then (m : Int) * 2 ^ e.toNat else 2 ^ (-e).toNat) := by
          split
          · exact Int.mul_pos (by omega) (pw_pos _)
          · exact pw_pos _
        refine ⟨tm3.ok, by decide, sp_wholeOf (by omega) u3 u3.2.1 (by rw [hsg3]; cases s <;> split <;> simp) (fun h4 z4 r4 d4 k4 hz4 hr4 t4 => ?_)⟩
        rw [if_neg (by omega)] at t4
        have tm4 : isM (n + 2 + 2) h4 wl tl nm := tm3.fr (S := fun _ => False) k4 (by omega) id id
        have t34 : isWh (n + 2 + 2) h4 z1 r1 d1 (if s then -1 else 1) (m : Int) := t3.fr (S := fun _ => False) k4 (by omega) id id
        have e04 : hF sM n h h4 := e3.tr (hK.f (hK.le k4 (by omega))) (Nat.le_refl _)
        refine ⟨rgS (by omega) (by omega), fun g2 => fun h5 e5 => ?_, fun g2 => X9_exactOf_b162 (n0 := 0) C E z4 (n + 2 + 2) h4 (w162 z4 _ h4 ((m * 2 ^ e.toNat : Nat) : Int) 1 e04 (by omega) (by omega) tm4 ?_ ?_ ?_)⟩
        · have k5 : hK (n + 2 + 2) h4 h5 := by rw [e5]; exact hK.nw
          have n5 : h5 (n + 2 + 2) = (5, 0, xZ 5) := by rw [e5, hN_self]
          have tm5 : isM (n + 2 + 2 + 1) h5 wl tl nm := tm4.fr (S := fun _ => False) k5 (by omega) id id
          have t35 : isWh (n + 2 + 2 + 1) h5 z1 r1 d1 _ _ := t34.fr (S := fun _ => False) k5 (by omega) id id
          have t45 : isWh (n + 2 + 2 + 1) h5 z4 r4 d4 sg _ := t4.fr (S := fun _ => False) k5 (by omega) id id
          have z1n := t1.1
          have r1n := t1.row.1.1
          have z4n := t4.1
          have r4n := t4.row.1.1
          refine sp_initR ⟨by omega, by rw [n5]⟩ (fun h6 e6 f0 f1 => X9_exactOf_b162 (n0 := 0) C E (n + 2 + 2) (n + 2 + 2 + 1) h6 (w162 (n + 2 + 2) _ h6 ((m * 2 ^ e.toNat : Nat) : Int) ((2 ^ (-e).toNat : Nat) : Int) ?_ (by omega) (by omega) (tm5.mv e6 (show ¬ 26 = n + 2 + 2 by omega) (show ¬ 27 = n + 2 + 2 by omega)) rfl rfl ?_))
          · exact (e04.tr (hK.f (hK.le k5 (by omega))) (Nat.le_refl _)).tr (hK.f (hK.sc (n := n) e6 (by omega))) (Nat.le_refl _)
          · right
            have he : e < 0 := by omega
            have e0 : e.toNat = 0 := by omega
            have hW1 : 1 < 2 ^ (-e).toNat := Nat.one_lt_two_pow (by omega)
            refine ⟨by omega, by rw [e0, Nat.pow_zero, Nat.mul_one]; omega, by omega, by omega, by rw [(e6 _).1, n5], z1, r1, d1, z4, r4, d4, f0, f1, ?_, ?_⟩
            · rw [e0, Nat.pow_zero, Nat.mul_one]
              exact t35.mv e6 (show ¬ z1 = n + 2 + 2 by omega) (show ¬ r1 = n + 2 + 2 by omega)
            · have := t45.mv e6 (show ¬ z4 = n + 2 + 2 by omega) (show ¬ r4 = n + 2 + 2 by omega)
              rw [hsg3, if_neg (by omega), if_neg (by omega)] at this
              rw [show ((2 ^ (-e).toNat : Nat) : Int) = (2 : Int) ^ (-e).toNat by rw [Int.natCast_pow]; rfl]
              exact this
        · rfl
        · rw [show (-e).toNat = 0 by omega]; rfl
        · have he0 : 0 < e := by omega
          simp only [if_pos he0] at t4 hsg3
          rw [hsg3] at t4
          rw [show ((m * 2 ^ e.toNat : Nat) : Int) = (m : Int) * 2 ^ e.toNat by rw [Int.natCast_mul, Int.natCast_pow]; rfl]
          exact isEx.ofW t4
      have w79 : ∀ (a m' sa : Nat) (v : Int), isT (n + 2) h1 a m' sa v → a ≠ 29 → sa ≤ 5 → v = (if 0 < e then (m : Int) else 1) → (0 < e → sa = d1) → (¬ 0 < e → sa = 1) → X9_exactOf_w79 G k 26 z1 e sa 29 a (n + 2) h1 := by
        intro a m' sa v ta ha hsa hv hsa1 hsa2
        refine X9_exactOf_b79 (n0 := 0) C E 26 z1 e sa 29 a (n + 2) h1 (sp_copyW ta tm1.t29 ha (by omega) (fun h2 e2 t2 _ => ?_))
        have tm2 := tm1.mv e2 (by decide) (by decide)
        have z1n := t1.2.1
        have r1n := t1.2.2.1
        have t12 := t1.mv e2 (show ¬ z1 = 29 by omega) (show ¬ r1 = 29 by omega)
        have e02 : hF sM n h h2 := (hK.f k1).tr ((e2.mono (fun i hi => by have : i = 29 := hi; exact Or.inr ⟨by omega, by omega⟩) : hE sM h1 h2).f) (Nat.le_refl _)
        obtain ⟨l1', l2', l3'⟩ := t12.ln
        rw [tm2.g2]
        have w113 : ∀ (en : Nat), (en : Int) = (if 0 < e then e else -e) → X9_exactOf_w113 G k 26 z1 e en sa 29 (n + 2) h2 := by
          intro en hen
          refine X9_exactOf_b113 (n0 := 0) C E 26 z1 e en sa 29 (n + 2) h2 (sp_doubled t2 (by split at hen <;> omega) ?_ (fun h3 s3 e3 t3 _ => ?_))
          · have h105 : (10000 : Int) ^ 5 = 100000000000000000000 := by decide
            have hv5 : v ≤ 10000 ^ 5 := by
              rw [hv, h105]
              split <;> omega
            have h1 : v * 2 ^ en ≤ 10000 ^ 5 * 2 ^ 1074 := Int.mul_le_mul hv5 (pw_mono (by split at hen <;> omega)) (Int.le_of_lt (pw_pos _)) (by decide)
            have h2 : (10000 : Int) ^ 5 * 2 ^ 1074 < 10000 ^ 440 := by decide +kernel
            omega
          · have tm3 := tm2.mv e3 (by decide) (by decide)
            have t13 := t12.mv e3 (show ¬ z1 = 29 by omega) (show ¬ r1 = 29 by omega)
            have e03 : hF sM n h h3 := e02.tr ((e3.mono (fun i hi => by have : i = 29 := hi; exact Or.inr ⟨by omega, by omega⟩) : hE sM h2 h3).f) (Nat.le_refl _)
            have hval : v * 2 ^ en = (if 0 < e then (m : Int) * 2 ^ e.toNat else 2 ^ (-e).toNat) := by
              rw [hv]
              split at hen
              · rename_i g2; rw [if_pos g2, if_pos g2, ← hen, Int.toNat_natCast]
              · rename_i g2; rw [if_neg g2, if_neg g2, ← hen, Int.toNat_natCast, Int.one_mul]
            rw [hval] at t3
            refine ⟨rgS (by omega) (by omega), fun g2 => w131 s3 1 h3 e03 tm3 t13 t3 (by rw [if_neg (by omega)]), fun g2 => ⟨t13.ok, ?_⟩⟩
            rw [t13.f0]
            exact w131 s3 _ h3 e03 tm3 t13 t3 (if_pos (show 0 < e by omega)).symm
        have w100 : X9_exactOf_w100 G k 26 z1 e sa 29 (n + 2) h2 := by
          refine X9_exactOf_b100 (n0 := 0) C E 26 z1 e sa 29 (n + 2) h2 ⟨rgS (by omega) (by omega), fun g2 => ?_, fun g2 => ?_⟩
          · have := w113 (-e).toNat (by rw [if_neg (by omega)]; omega)
            rwa [show (((-e).toNat : Nat) : Int) = -e by omega] at this
          · have := w113 e.toNat (by rw [if_pos (by omega)]; omega)
            rwa [show ((e.toNat : Nat) : Int) = e by omega] at this
        refine ⟨tm2.ok, by decide, rgS (by omega) (by omega), fun g2 => ?_, fun g2 => ?_⟩
        · rw [hsa2 (by omega)] at w100; exact w100
        · rw [t12.f1, Int.toNat_natCast, l1']
          rw [hsa1 (by omega)] at w100
          exact ⟨t12.ok, by omega, ⟨l2', Or.inl l3'⟩, w100⟩
      refine ⟨rgS (by omega) (by omega), fun g2 => ?_, fun g2 => ?_⟩
      · rw [tm1.g0]
        refine ⟨tm1.ok, by decide, X9_exactOf_b61 (n0 := 0) C E 26 z1 e 27 (n + 2) h1 ?_⟩
        rw [tm1.g2]
        refine ⟨tm1.ok, by decide, rgS (by omega) (by omega), fun _ => w79 27 1 1 1 tm1.one (by decide) (by decide) (by rw [if_neg (by omega)]) (fun y => by omega) (fun _ => rfl), fun y => by omega⟩
      · rw [t1.f1, Int.toNat_natCast]
        refine ⟨t1.ok, by omega, X9_exactOf_b61 (n0 := 0) C E 26 z1 e r1 (n + 2) h1 ?_⟩
        rw [tm1.g2, t1.f1, Int.toNat_natCast, l1]
        refine ⟨tm1.ok, by decide, rgS (by omega) (by omega), fun y => by omega, fun _ => ⟨t1.ok, by omega, ⟨l2, Or.inl l3⟩, w79 r1 d1 d1 m t1.row (by have := t1.2.2.1; omega) hd1 (by rw [if_pos (by omega)]) (fun _ => rfl) (fun y => by omega)⟩⟩
    · refine w162 z1 (n + 2) h1 (m : Int) 1 (hK.f k1) (by omega) (by omega) tm1 ?_ ?_ (isEx.ofW t1)
      · rw [g]; show (m : Int) = ((m * 2 ^ 0 : Nat) : Int); rw [Nat.pow_zero, Nat.mul_one]
      · rw [g]; rfl
  refine X9_exactOf_b0 (n0 := 0) C E 26 x n h ⟨fun g => ?_, fun g => ?_⟩
  · have hc : 0 < c := by
      rcases Nat.eq_zero_or_pos c with y | y
      · exact absurd (hz.2.1.mpr (by rw [y]; unfold sZ zv; simp)) g
      · exact y
    have hzp : 0 < zv c q := Nat.mul_pos hc (Nat.two_pow_pos _)
    refine ⟨fun g2 => sp_significand hx hc (fun m e hs => ?_), fun g2 => sp_significand hx hc (fun m e hs => ?_)⟩
    · have hsf : s = false := by
        cases s with
        | false => rfl
        | true =>
          have := hzg.1.mpr (by unfold sZ; simp; omega)
          omega
      have := w28 m e hc hs
      rw [hsf] at this
      exact this
    · have hst : s = true := by
        cases s with
        | true => rfl
        | false =>
          have := hzg.1.mp (by omega)
          unfold sZ at this; simp at this; omega
      have := w28 m e hc hs
      rw [hst] at this
      exact this
  · have hc : c = 0 := by
      have := hz.2.1.mp g
      have h2 : zv c q = 0 := by
        unfold sZ at this
        split at this <;> omega
      unfold zv at h2
      rcases Nat.mul_eq_zero.mp h2 with y | y
      · exact y
      · have := Nat.two_pow_pos (q + 1074).toNat; omega
    refine sp_zeroW h47 (fun h1 k1 t1 => hp h1 (n + 2) n 0 1 (hK.f k1) (by omega) (by omega) (tm.fr (S := fun _ => False) k1 (by omega) id id) ?_ (by decide) (by decide) (fun _ => rfl) ?_)
    · rw [hc]
      show lowR (0 * 2 ^ q.toNat) _ _ _
      rw [Int.zero_mul]; exact low_0
    · rw [if_pos rfl]; exact isEx.ofW t1
