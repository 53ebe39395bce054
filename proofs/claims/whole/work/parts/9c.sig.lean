/-! DOUBLES COMPARED; significand and exponent -/
abbrev zD (x : UInt64) : Int := FP.Core.zval FP.Core.b64 (FP.Core.val64 x)
theorem dC_z {op : CmpOp} {x y : UInt64} (hx : vl x ≠ .nan) (hy : vl y ≠ .nan) : (dC op x y < 0 ↔ zD x < zD y) ∧ (dC op x y = 0 ↔ zD x = zD y) ∧ (0 < dC op x y ↔ zD y < zD x) := by
  have hc : FP.dcmp x y = some (compare (zD x) (zD y)) := FP.Core.dcmp_zval hx hy
  unfold dC
  rw [hc]
  rcases Int.lt_trichotomy (zD x) (zD y) with g | g | g
  · rw [cmp_lt g]
    have : (Op.cmpValue (some Ordering.lt) op).toInt = -1 := by cases op <;> decide
    rw [this]
    exact ⟨⟨fun _ => g, fun _ => by decide⟩, ⟨fun z => absurd z (by decide), fun z => by omega⟩, ⟨fun z => absurd z (by decide), fun z => by omega⟩⟩
  · rw [g, FP.Core.compare_self_int]
    have : (Op.cmpValue (some Ordering.eq) op).toInt = 0 := by cases op <;> decide
    rw [this]
    exact ⟨⟨fun z => absurd z (by decide), fun z => by omega⟩, ⟨fun _ => rfl, fun _ => rfl⟩, ⟨fun z => absurd z (by decide), fun z => by omega⟩⟩
  · rw [cmp_gt g]
    have : (Op.cmpValue (some Ordering.gt) op).toInt = 1 := by cases op <;> decide
    rw [this]
    exact ⟨⟨fun z => absurd z (by decide), fun z => by omega⟩, ⟨fun z => absurd z (by decide), fun z => by omega⟩, ⟨fun _ => g, fun _ => by decide⟩⟩
def sZ (s : Bool) (Z : Nat) : Int := if s then -(Z : Int) else (Z : Int)
theorem zD_fin {x : UInt64} {s : Bool} {c : Nat} {q : Int} (h : vl x = .fin s c q) : zD x = sZ s (zv c q) := by
  show FP.Core.zval FP.Core.b64 (FP.Core.val64 x) = _
  rw [show FP.Core.val64 x = .fin s c q from h]
  show FP.Core.signed s (c * 2 ^ (q - FP.Core.Fmt.qmin FP.Core.b64).toNat) = _
  rw [qmin64, show q - -1074 = q + 1074 by omega]
  rfl
theorem zD_inf {x : UInt64} {s : Bool} (h : vl x = .inf s) : zD x = sZ s (2 ^ 2098) := by
  show FP.Core.zval FP.Core.b64 (FP.Core.val64 x) = _
  rw [show FP.Core.val64 x = .inf s from h]
  unfold FP.Core.zval FP.Core.sgn FP.Core.zmag FP.Core.signed sZ
  rw [tails64, exps64]
  have : 4503599627370496 * 2 ^ (2048 - 2) = 2 ^ 2098 := by decide +kernel
  rw [this]
theorem nn_fin {x : UInt64} {s : Bool} {c : Nat} {q : Int} (h : vl x = .fin s c q) : vl x ≠ .nan := by rw [h]; exact fun e => by cases e
theorem nn_inf {x : UInt64} {s : Bool} (h : vl x = .inf s) : vl x ≠ .nan := by rw [h]; exact fun e => by cases e
theorem isVl.nn {x : UInt64} {s : Bool} {Z : Nat} (h : isVl x s Z) : vl x ≠ .nan := by
  rcases h with ⟨_, c, q, h, _⟩ | ⟨_, h⟩
  · exact nn_fin h
  · exact nn_inf h
theorem isVl.z {x : UInt64} {s : Bool} {Z : Nat} (h : isVl x s Z) (hZ : Z < 2 ^ 2098) : zD x = sZ s Z := by
  rcases h with ⟨_, c, q, h, h2⟩ | ⟨h, _⟩
  · rw [zD_fin h, h2]
  · omega
theorem vl_0 : vl FP.dconst0 = .fin false 0 (-1074) := by decide +kernel
theorem zD_0 : zD FP.dconst0 = 0 := by rw [zD_fin vl_0]; decide
theorem nn_0 : vl FP.dconst0 ≠ .nan := nn_fin vl_0
theorem vl_53 : vl 4845873199050653696 = .fin false 4503599627370496 1 := by decide +kernel
theorem zD_53 : zD 4845873199050653696 = ((9007199254740992 * 2 ^ 1074 : Nat) : Int) := by
  rw [zD_fin vl_53]
  unfold sZ zv
  have : 4503599627370496 * 2 ^ ((1 : Int) + 1074).toNat = 9007199254740992 * 2 ^ 1074 := by decide +kernel
  rw [this]; rfl
theorem vl_neg {x : UInt64} {s : Bool} {c : Nat} {q : Int} (h : vl x = .fin s c q) : vl (FP.dneg x) = .fin (!s) c q := by
  have := FP.val64_dneg x
  rw [show FP.Core.val64 x = .fin s c q from h] at this
  exact this
theorem vl_negI {x : UInt64} {s : Bool} (h : vl x = .inf s) : vl (FP.dneg x) = .inf (!s) := by
  have := FP.val64_dneg x
  rw [show FP.Core.val64 x = .inf s from h] at this
  exact this
theorem isVl.neg {x : UInt64} {s : Bool} {Z : Nat} (h : isVl x s Z) : isVl (FP.dneg x) (!s) Z := by
  rcases h with ⟨h1, c, q, h2, h3⟩ | ⟨h1, h2⟩
  · exact Or.inl ⟨h1, c, q, vl_neg h2, h3⟩
  · exact Or.inr ⟨h1, vl_negI h2⟩
/-- a double without its fraction -/
theorem int_chk {y : UInt64} {Z : Nat} (h : isVl y false Z) (hZ : Z < 9007199254740992 * 2 ^ 1074) : (FP.d2l y).toInt = ((Z / 2 ^ 1074 : Nat) : Int) ∧ (∀ op, dC op y (FP.l2d (lz ((FP.d2l y).toInt))) = 0 ↔ Z / 2 ^ 1074 * 2 ^ 1074 = Z) := by
  have hb : 9007199254740992 * 2 ^ 1074 < 2 ^ 2098 := by decide +kernel
  have hz := h.z (by omega)
  have hzm : FP.Core.zmag FP.Core.b64 (FP.Core.val64 y) = Z ∧ FP.Core.sgn (FP.Core.val64 y) = false := by
    rcases h with ⟨_, c, q, h2, h3⟩ | ⟨h1, _⟩
    · rw [show FP.Core.val64 y = .fin false c q from h2]
      refine ⟨?_, rfl⟩
      show c * 2 ^ (q - FP.Core.Fmt.qmin FP.Core.b64).toNat = Z
      rw [qmin64, show q - -1074 = q + 1074 by omega, ← h3]; rfl
    · omega
  have hd : Z / 2 ^ 1074 < 9007199254740992 := Nat.div_lt_of_lt_mul (by rw [Nat.mul_comm]; exact hZ)
  have hv := FP.Core.d2l_val h.nn
  rw [hzm.1, hzm.2, show FP.Core.one64 = 2 ^ 1074 from rfl] at hv
  have e1 : (FP.d2l y).toInt = ((Z / 2 ^ 1074 : Nat) : Int) := by
    refine Eq.trans hv ?_
    generalize Z / 2 ^ 1074 = u at hd ⊢
    unfold FP.Core.signed
    simp only [Bool.false_eq_true, if_false]
    omega
  refine ⟨e1, fun op => ?_⟩
  rw [e1]
  have hm : Z / 2 ^ 1074 * 2 ^ 1074 ≤ Z := Nat.div_mul_le_self _ _
  obtain ⟨c, q, g1, g2⟩ := cn_ex 1074 (Z / 2 ^ 1074) (by omega) (by omega)
  have hl := l2d_cn (m := Z / 2 ^ 1074) (by omega) g1 g2
  rw [(dC_z h.nn (nn_fin hl)).2.1, hz, zD_fin hl, g2]
  unfold sZ
  simp only [Bool.false_eq_true, if_false]
  omega
/-- m * 2^e is the value of Z units: odd, or whole -/
def sgR (Z m : Nat) (e : Int) : Prop := Z = m * 2 ^ (e + 1074).toNat ∧ -1074 ≤ e ∧ e ≤ 971 ∧ 0 < m ∧ m < 9007199254740992 ∧ (e < 0 → m % 2 = 1) ∧ (0 < e → 4503599627370496 ≤ m)
theorem sgR_u {Z m m' : Nat} {e e' : Int} (h : sgR Z m e) (h' : sgR Z m' e') : m = m' ∧ e = e' := by
  have key : ∀ {m m' : Nat} {e e' : Int}, sgR Z m e → sgR Z m' e' → e ≤ e' → m = m' ∧ e = e' := by
    intro m m' e e' h h' hq
    obtain ⟨a1, a2, a3, a4, a5, a6, a7⟩ := h
    obtain ⟨b1, b2, b3, b4, b5, b6, b7⟩ := h'
    rw [a1, show (e' + 1074).toNat = (e' - e).toNat + (e + 1074).toNat by omega, Nat.pow_add, ← Nat.mul_assoc] at b1
    have e2 := Nat.eq_of_mul_eq_mul_right (Nat.two_pow_pos _) b1
    rcases Int.lt_or_eq_of_le hq with g | g
    · exfalso
      rw [show (e' - e).toNat = (e' - e - 1).toNat + 1 by omega, Nat.pow_succ, ← Nat.mul_assoc] at e2
      have hp := Nat.two_pow_pos (e' - e - 1).toNat
      have h3 : m' * 1 ≤ m' * 2 ^ (e' - e - 1).toNat := Nat.mul_le_mul_left _ hp
      rcases Int.lt_or_le e 0 with y | y
      · have := a6 y; omega
      · have := b7 (by omega); omega
    · subst g
      rw [Int.sub_self] at e2
      simp at e2
      exact ⟨e2, rfl⟩
  rcases Int.le_total e e' with g | g
  · exact key h h' g
  · have := key h' h g
    exact ⟨this.1.symm, this.2.symm⟩
theorem sp_significand {G : xG} {l : Launch} {n : Nat} {h : xH} {x : UInt64} {s : Bool} {c : Nat} {q : Int} {Po : Int → xH → Prop} (hx : vl x = .fin s c q) (hc : 0 < c) (hp : ∀ m e, sgR (zv c q) m e → Po (m : Int) h) : S_X9_significand G l x n h Po := by
  refine S_X9_significand_of (fun k hl C E => ?_)
  have hcn := fin_cn hx
  obtain ⟨c1, c2, c3, c4⟩ := hcn
  have t1074 := Nat.two_pow_pos 1074
  -- doubling
  have wd : ∀ (u K j : Nat) (y : UInt64), K + u = 1074 → isVl y false (c * 2 ^ K) → zv c q * 2 ^ j = c * 2 ^ K → (j = 0 ∨ ∃ K', K = K' + 1 ∧ c * 2 ^ K' / 2 ^ 1074 * 2 ^ 1074 ≠ c * 2 ^ K') → j ≤ 1074 → X9_significand_w30 G k y n h := by
    intro u
    induction u with
    | zero =>
      intro K j y hK hy hj hmin hj2
      have : K = 1074 := by omega
      subst this
      have hlt : c * 2 ^ 1074 < 9007199254740992 * 2 ^ 1074 := Nat.mul_lt_mul_of_pos_right c1 t1074
      obtain ⟨i1, i2⟩ := int_chk hy hlt
      rw [Nat.mul_div_cancel _ t1074] at i1 i2
      refine X9_significand_b30 C E y n h rfl ⟨fun _ => ?_, fun g => absurd ((i2 .l).mpr rfl) g⟩
      rw [i1]
      refine hp c (-(j : Int)) ⟨?_, by omega, by omega, hc, c1, fun z => ?_, fun z => by omega⟩
      · rw [show (-(j : Int) + 1074).toNat = 1074 - j by omega]
        apply Nat.eq_of_mul_eq_mul_right (Nat.two_pow_pos j)
        rw [hj, Nat.mul_assoc, ← Nat.pow_add, show 1074 - j + j = 1074 by omega]
      · rcases hmin with y0 | ⟨K', e1, e2⟩
        · omega
        · rcases Nat.mod_two_eq_zero_or_one c with z2 | z2
          · exfalso
            apply e2
            have e3 : c * 2 ^ K' = c / 2 * 2 ^ 1074 := by rw [e1, Nat.pow_succ, Nat.mul_comm (2 ^ K') 2, ← Nat.mul_assoc, show c / 2 * 2 = c by omega]
            rw [e3, Nat.mul_div_cancel _ t1074]
          · exact z2
    | succ u ih =>
      intro K j y hK hy hj hmin hj2
      have hle : c * 2 ^ K ≤ c * 2 ^ 1074 := Nat.mul_le_mul_left _ (Nat.pow_le_pow_right (by decide) (by omega))
      have hlt2 : c * 2 ^ 1074 < 9007199254740992 * 2 ^ 1074 := Nat.mul_lt_mul_of_pos_right c1 t1074
      obtain ⟨i1, i2⟩ := int_chk hy (by omega)
      refine X9_significand_b30 C E y n h rfl ⟨fun g => ?_, fun g => ?_⟩
      · have g2 := (i2 .l).mp g
        rw [i1]
        have hm0 : 0 < c * 2 ^ K / 2 ^ 1074 := by
          rcases Nat.eq_zero_or_pos (c * 2 ^ K / 2 ^ 1074) with z | z
          · rw [z, Nat.zero_mul] at g2
            have := Nat.mul_pos hc (Nat.two_pow_pos K)
            omega
          · exact z
        have hm1 : c * 2 ^ K / 2 ^ 1074 < 9007199254740992 := Nat.div_lt_of_lt_mul (Nat.lt_of_le_of_lt hle (by rw [Nat.mul_comm (2 ^ 1074)]; exact hlt2))
        refine hp (c * 2 ^ K / 2 ^ 1074) (-(j : Int)) ⟨?_, by omega, by omega, hm0, hm1, fun z => ?_, fun z => by omega⟩
        · rw [show (-(j : Int) + 1074).toNat = 1074 - j by omega]
          apply Nat.eq_of_mul_eq_mul_right (Nat.two_pow_pos j)
          rw [hj, Nat.mul_assoc, ← Nat.pow_add, show 1074 - j + j = 1074 by omega]
          exact g2.symm
        · rcases hmin with y0 | ⟨K', e1, e2⟩
          · omega
          · rcases Nat.mod_two_eq_zero_or_one (c * 2 ^ K / 2 ^ 1074) with z2 | z2
            · exfalso
              apply e2
              have e3 : c * 2 ^ K = 2 * (c * 2 ^ K') := by rw [e1, Nat.pow_succ, ← Nat.mul_assoc, Nat.mul_comm]
              generalize hd : c * 2 ^ K / 2 ^ 1074 = d at g2 z2
              have e4 : c * 2 ^ K' = d / 2 * 2 ^ 1074 := by
                have : d = 2 * (d / 2) := by omega
                rw [this, Nat.mul_assoc, e3] at g2
                omega
              rw [e4, Nat.mul_div_cancel _ t1074]
            · exact z2
      · have h2 := hy.two (by omega)
        refine ⟨h2.n64, ?_⟩
        have := ih (K + 1) (j + 1) _ (by omega) h2 (by rw [Nat.pow_succ, ← Nat.mul_assoc, hj, Nat.mul_assoc, ← Nat.pow_succ]) (Or.inr ⟨K, rfl, fun z => g ((i2 .l).mpr z)⟩) ?_
        · exact this
        · have h3 : zv c q * 2 ^ j = c * 2 ^ ((q + 1074).toNat + j) := by unfold zv; rw [Nat.mul_assoc, ← Nat.pow_add]
          rw [hj] at h3
          have h4 := Nat.eq_of_mul_eq_mul_left hc h3
          have h5 := (Nat.pow_right_inj (by decide : 1 < 2)).mp h4
          omega
  have hz53 : ∀ (y : UInt64) (Z : Nat), isVl y false Z → Z < 2 ^ 2098 → (dC .l y 4845873199050653696 < 0 ↔ Z < 9007199254740992 * 2 ^ 1074) := by
    intro y Z hy hZ
    rw [(dC_z hy.nn (nn_fin vl_53)).1, hy.z hZ, zD_53]
    unfold sZ
    simp only [Bool.false_eq_true, if_false]
    omega
  have hbz : ∀ r : Int, 0 ≤ r → r ≤ q → zv c r < 2 ^ 2098 := by
    intro r h0 h1
    unfold zv
    have h2 : c * 2 ^ (r + 1074).toNat ≤ 9007199254740991 * 2 ^ 2045 := Nat.mul_le_mul (by omega) (Nat.pow_le_pow_right (by decide) (by omega))
    have h3 : 9007199254740991 * 2 ^ 2045 < 2 ^ 2098 := by decide +kernel
    omega
  -- halving
  have wh : ∀ y, vl y = .fin false c q → X9_significand_w13 G k y n h := by
    intro y hy
    rcases Int.lt_or_le 0 q with g | g
    · have hc52 : 4503599627370496 ≤ c := by omega
      suffices K : ∀ (u : Nat) (r : Int) (y : UInt64), r = (u : Int) → r ≤ q → vl y = .fin false c r → X9_significand_w13 G k y n h by
        exact K q.toNat q y (by omega) (Int.le_refl _) hy
      intro u
      induction u with
      | zero =>
        intro r y hr hrq hy
        have hr0 : r = 0 := by omega
        subst hr0
        have hv : isVl y false (zv c 0) := Or.inl ⟨hbz 0 (by decide) hrq, c, 0, hy, rfl⟩
        have hz0 : zv c 0 = c * 2 ^ 1074 := rfl
        have hlt : zv c 0 < 9007199254740992 * 2 ^ 1074 := by rw [hz0]; exact Nat.mul_lt_mul_of_pos_right c1 t1074
        obtain ⟨i1, i2⟩ := int_chk hv hlt
        rw [hz0, Nat.mul_div_cancel _ t1074] at i1 i2
        refine X9_significand_b13 C E y n h rfl ⟨fun _ => X9_significand_b30 C E y n h rfl ⟨fun _ => ?_, fun g2 => absurd ((i2 .l).mpr rfl) g2⟩, fun g2 => absurd ((hz53 y _ hv (hbz 0 (by decide) hrq)).mpr hlt) g2⟩
        rw [i1]
        exact hp c q ⟨rfl, c2, c3, hc, c1, fun z => by omega, fun _ => hc52⟩
      | succ u ih =>
        intro r y hr hrq hy
        have hv : isVl y false (zv c r) := Or.inl ⟨hbz r (by omega) hrq, c, r, hy, rfl⟩
        have hge : 9007199254740992 * 2 ^ 1074 ≤ zv c r := by
          unfold zv
          have h2 : 4503599627370496 * 2 ^ 1075 ≤ c * 2 ^ (r + 1074).toNat := Nat.mul_le_mul hc52 (Nat.pow_le_pow_right (by decide) (by omega))
          have h3 : 9007199254740992 * 2 ^ 1074 = 4503599627370496 * 2 ^ 1075 := by decide +kernel
          omega
        have hh := mul_half hy (c' := c) (q' := r - 1) ⟨c1, by omega, by omega, Or.inr hc52⟩ (by unfold zv; rw [show (r + 1074).toNat = (r - 1 + 1074).toNat + 1 by omega, Nat.pow_succ, Nat.mul_comm (2 ^ _) 2, Nat.mul_left_comm])
        refine X9_significand_b13 C E y n h rfl ⟨fun g2 => ?_, fun g2 => ⟨fin_n64 hh, ?_⟩⟩
        · have := (hz53 y _ hv (hbz r (by omega) hrq)).mp g2
          omega
        · exact ih (r - 1) _ (by omega) (by omega) hh
    · have hb : zv c q ≤ c * 2 ^ 1074 := Nat.mul_le_mul_left _ (Nat.pow_le_pow_right (by decide) (by omega))
      have hlt : c * 2 ^ 1074 < 9007199254740992 * 2 ^ 1074 := Nat.mul_lt_mul_of_pos_right c1 t1074
      have hb2 : 9007199254740992 * 2 ^ 1074 < 2 ^ 2098 := by decide +kernel
      have hv : isVl y false (zv c q) := Or.inl ⟨by omega, c, q, hy, rfl⟩
      refine X9_significand_b13 C E y n h rfl ⟨fun _ => ?_, fun g2 => absurd ((hz53 y _ hv (by omega)).mpr (by omega)) g2⟩
      exact wd (1074 - (q + 1074).toNat) (q + 1074).toNat 0 y (by omega) hv (by rw [Nat.pow_zero, Nat.mul_one]; rfl) (Or.inl rfl) (by omega)
  have w12 : ∀ y, vl y = .fin false c q → X9_significand_w12 G k y n h := fun y hy => X9_significand_b12 C E y n h rfl (wh y hy)
  have hz := dC_z (op := .g) (nn_fin hx) nn_0
  rw [zD_fin hx, zD_0] at hz
  have hzp : 0 < zv c q := Nat.mul_pos hc (Nat.two_pow_pos _)
  refine X9_significand_b0 C E x n h rfl ⟨fun g => w12 x ?_, fun g => w12 _ ?_⟩
  · cases s with
    | false => exact hx
    | true =>
      have := hz.1.mpr (by unfold sZ; simp; omega)
      omega
  · cases s with
    | true => exact vl_neg hx
    | false =>
      have := hz.1.mp (by omega)
      unfold sZ at this
      simp at this
      omega
theorem sp_exponent {G : xG} {l : Launch} {n : Nat} {h : xH} {x : UInt64} {s : Bool} {c : Nat} {q : Int} {Po : Int → xH → Prop} (hx : vl x = .fin s c q) (hc : 0 < c) (hp : ∀ m e, sgR (zv c q) m e → Po e h) : S_X9_exponent G l x n h Po := by
  refine S_X9_exponent_of (fun k hl C E => ?_)
  have hcn := fin_cn hx
  obtain ⟨c1, c2, c3, c4⟩ := hcn
  have t1074 := Nat.two_pow_pos 1074
  -- doubling
  have wd : ∀ (u K j : Nat) (y : UInt64), K + u = 1074 → isVl y false (c * 2 ^ K) → zv c q * 2 ^ j = c * 2 ^ K → (j = 0 ∨ ∃ K', K = K' + 1 ∧ c * 2 ^ K' / 2 ^ 1074 * 2 ^ 1074 ≠ c * 2 ^ K') → j ≤ 1074 → X9_exponent_w36 G k y (-(j : Int)) n h := by
    intro u
    induction u with
    | zero =>
      intro K j y hK hy hj hmin hj2
      have : K = 1074 := by omega
      subst this
      have hlt : c * 2 ^ 1074 < 9007199254740992 * 2 ^ 1074 := Nat.mul_lt_mul_of_pos_right c1 t1074
      obtain ⟨i1, i2⟩ := int_chk hy hlt
      rw [Nat.mul_div_cancel _ t1074] at i1 i2
      refine X9_exponent_b36 C E y _ n h rfl ⟨fun _ => ?_, fun g => absurd ((i2 .l).mpr rfl) g⟩
      
      refine hp c (-(j : Int)) ⟨?_, by omega, by omega, hc, c1, fun z => ?_, fun z => by omega⟩
      · rw [show (-(j : Int) + 1074).toNat = 1074 - j by omega]
        apply Nat.eq_of_mul_eq_mul_right (Nat.two_pow_pos j)
        rw [hj, Nat.mul_assoc, ← Nat.pow_add, show 1074 - j + j = 1074 by omega]
      · rcases hmin with y0 | ⟨K', e1, e2⟩
        · omega
        · rcases Nat.mod_two_eq_zero_or_one c with z2 | z2
          · exfalso
            apply e2
            have e3 : c * 2 ^ K' = c / 2 * 2 ^ 1074 := by rw [e1, Nat.pow_succ, Nat.mul_comm (2 ^ K') 2, ← Nat.mul_assoc, show c / 2 * 2 = c by omega]
            rw [e3, Nat.mul_div_cancel _ t1074]
          · exact z2
    | succ u ih =>
      intro K j y hK hy hj hmin hj2
      have hle : c * 2 ^ K ≤ c * 2 ^ 1074 := Nat.mul_le_mul_left _ (Nat.pow_le_pow_right (by decide) (by omega))
      have hlt2 : c * 2 ^ 1074 < 9007199254740992 * 2 ^ 1074 := Nat.mul_lt_mul_of_pos_right c1 t1074
      obtain ⟨i1, i2⟩ := int_chk hy (by omega)
      refine X9_exponent_b36 C E y _ n h rfl ⟨fun g => ?_, fun g => ?_⟩
      · have g2 := (i2 .l).mp g
        
        have hm0 : 0 < c * 2 ^ K / 2 ^ 1074 := by
          rcases Nat.eq_zero_or_pos (c * 2 ^ K / 2 ^ 1074) with z | z
          · rw [z, Nat.zero_mul] at g2
            have := Nat.mul_pos hc (Nat.two_pow_pos K)
            omega
          · exact z
        have hm1 : c * 2 ^ K / 2 ^ 1074 < 9007199254740992 := Nat.div_lt_of_lt_mul (Nat.lt_of_le_of_lt hle (by rw [Nat.mul_comm (2 ^ 1074)]; exact hlt2))
        refine hp (c * 2 ^ K / 2 ^ 1074) (-(j : Int)) ⟨?_, by omega, by omega, hm0, hm1, fun z => ?_, fun z => by omega⟩
        · rw [show (-(j : Int) + 1074).toNat = 1074 - j by omega]
          apply Nat.eq_of_mul_eq_mul_right (Nat.two_pow_pos j)
          rw [hj, Nat.mul_assoc, ← Nat.pow_add, show 1074 - j + j = 1074 by omega]
          exact g2.symm
        · rcases hmin with y0 | ⟨K', e1, e2⟩
          · omega
          · rcases Nat.mod_two_eq_zero_or_one (c * 2 ^ K / 2 ^ 1074) with z2 | z2
            · exfalso
              apply e2
              have e3 : c * 2 ^ K = 2 * (c * 2 ^ K') := by rw [e1, Nat.pow_succ, ← Nat.mul_assoc, Nat.mul_comm]
              generalize hd : c * 2 ^ K / 2 ^ 1074 = d at g2 z2
              have e4 : c * 2 ^ K' = d / 2 * 2 ^ 1074 := by
                have : d = 2 * (d / 2) := by omega
                rw [this, Nat.mul_assoc, e3] at g2
                omega
              rw [e4, Nat.mul_div_cancel _ t1074]
            · exact z2
      · have h2 := hy.two (by omega)
        refine ⟨h2.n64, ?_⟩
        have := ih (K + 1) (j + 1) _ (by omega) h2 (by rw [Nat.pow_succ, ← Nat.mul_assoc, hj, Nat.mul_assoc, ← Nat.pow_succ]) (Or.inr ⟨K, rfl, fun z => g ((i2 .l).mpr z)⟩) ?_
        · rw [show -(j : Int) + (-1) = -((j + 1 : Nat) : Int) by omega]; exact this
        · have h3 : zv c q * 2 ^ j = c * 2 ^ ((q + 1074).toNat + j) := by unfold zv; rw [Nat.mul_assoc, ← Nat.pow_add]
          rw [hj] at h3
          have h4 := Nat.eq_of_mul_eq_mul_left hc h3
          have h5 := (Nat.pow_right_inj (by decide : 1 < 2)).mp h4
          omega
  have hz53 : ∀ (y : UInt64) (Z : Nat), isVl y false Z → Z < 2 ^ 2098 → (dC .l y 4845873199050653696 < 0 ↔ Z < 9007199254740992 * 2 ^ 1074) := by
    intro y Z hy hZ
    rw [(dC_z hy.nn (nn_fin vl_53)).1, hy.z hZ, zD_53]
    unfold sZ
    simp only [Bool.false_eq_true, if_false]
    omega
  have hbz : ∀ r : Int, 0 ≤ r → r ≤ q → zv c r < 2 ^ 2098 := by
    intro r h0 h1
    unfold zv
    have h2 : c * 2 ^ (r + 1074).toNat ≤ 9007199254740991 * 2 ^ 2045 := Nat.mul_le_mul (by omega) (Nat.pow_le_pow_right (by decide) (by omega))
    have h3 : 9007199254740991 * 2 ^ 2045 < 2 ^ 2098 := by decide +kernel
    omega
  -- halving
  have wh : ∀ y, vl y = .fin false c q → X9_exponent_w16 G k y 0 n h := by
    intro y hy
    rcases Int.lt_or_le 0 q with g | g
    · have hc52 : 4503599627370496 ≤ c := by omega
      suffices K : ∀ (u : Nat) (r : Int) (y : UInt64), r = (u : Int) → r ≤ q → vl y = .fin false c r → X9_exponent_w16 G k y (q - r) n h by
        have := K q.toNat q y (by omega) (Int.le_refl _) hy; rwa [Int.sub_self] at this
      intro u
      induction u with
      | zero =>
        intro r y hr hrq hy
        have hr0 : r = 0 := by omega
        subst hr0
        have hv : isVl y false (zv c 0) := Or.inl ⟨hbz 0 (by decide) hrq, c, 0, hy, rfl⟩
        have hz0 : zv c 0 = c * 2 ^ 1074 := rfl
        have hlt : zv c 0 < 9007199254740992 * 2 ^ 1074 := by rw [hz0]; exact Nat.mul_lt_mul_of_pos_right c1 t1074
        obtain ⟨i1, i2⟩ := int_chk hv hlt
        rw [hz0, Nat.mul_div_cancel _ t1074] at i1 i2
        refine X9_exponent_b16 C E y _ n h rfl ⟨fun _ => X9_exponent_b36 C E y _ n h rfl ⟨fun _ => ?_, fun g2 => absurd ((i2 .l).mpr rfl) g2⟩, fun g2 => absurd ((hz53 y _ hv (hbz 0 (by decide) hrq)).mpr hlt) g2⟩
        rw [Int.sub_zero]
        exact hp c q ⟨rfl, c2, c3, hc, c1, fun z => by omega, fun _ => hc52⟩
      | succ u ih =>
        intro r y hr hrq hy
        have hv : isVl y false (zv c r) := Or.inl ⟨hbz r (by omega) hrq, c, r, hy, rfl⟩
        have hge : 9007199254740992 * 2 ^ 1074 ≤ zv c r := by
          unfold zv
          have h2 : 4503599627370496 * 2 ^ 1075 ≤ c * 2 ^ (r + 1074).toNat := Nat.mul_le_mul hc52 (Nat.pow_le_pow_right (by decide) (by omega))
          have h3 : 9007199254740992 * 2 ^ 1074 = 4503599627370496 * 2 ^ 1075 := by decide +kernel
          omega
        have hh := mul_half hy (c' := c) (q' := r - 1) ⟨c1, by omega, by omega, Or.inr hc52⟩ (by unfold zv; rw [show (r + 1074).toNat = (r - 1 + 1074).toNat + 1 by omega, Nat.pow_succ, Nat.mul_comm (2 ^ _) 2, Nat.mul_left_comm])
        refine X9_exponent_b16 C E y _ n h rfl ⟨fun g2 => ?_, fun g2 => ⟨fin_n64 hh, ?_⟩⟩
        · have := (hz53 y _ hv (hbz r (by omega) hrq)).mp g2
          omega
        · have := ih (r - 1) _ (by omega) (by omega) hh; rwa [show q - (r - 1) = q - r + 1 by omega] at this
    · have hb : zv c q ≤ c * 2 ^ 1074 := Nat.mul_le_mul_left _ (Nat.pow_le_pow_right (by decide) (by omega))
      have hlt : c * 2 ^ 1074 < 9007199254740992 * 2 ^ 1074 := Nat.mul_lt_mul_of_pos_right c1 t1074
      have hb2 : 9007199254740992 * 2 ^ 1074 < 2 ^ 2098 := by decide +kernel
      have hv : isVl y false (zv c q) := Or.inl ⟨by omega, c, q, hy, rfl⟩
      refine X9_exponent_b16 C E y _ n h rfl ⟨fun _ => ?_, fun g2 => absurd ((hz53 y _ hv (by omega)).mpr (by omega)) g2⟩
      exact wd (1074 - (q + 1074).toNat) (q + 1074).toNat 0 y (by omega) hv (by rw [Nat.pow_zero, Nat.mul_one]; rfl) (Or.inl rfl) (by omega)
  have w12 : ∀ y, vl y = .fin false c q → X9_exponent_w12 G k y n h := fun y hy => X9_exponent_b12 C E y n h rfl (wh y hy)
  have hz := dC_z (op := .g) (nn_fin hx) nn_0
  rw [zD_fin hx, zD_0] at hz
  have hzp : 0 < zv c q := Nat.mul_pos hc (Nat.two_pow_pos _)
  refine X9_exponent_b0 C E x n h rfl ⟨fun g => w12 x ?_, fun g => w12 _ ?_⟩
  · cases s with
    | false => exact hx
    | true =>
      have := hz.1.mpr (by unfold sZ; simp; omega)
      omega
  · cases s with
    | true => exact vl_neg hx
    | false =>
      have := hz.1.mp (by omega)
      unfold sZ at this
      simp at this
      omega
