/-! DOUBLES AS WHOLE NUMBERS OF 2^-1074 -/
/-- c * 2^q is one of the double's own writings -/
def cnD (c : Nat) (q : Int) : Prop := c < 9007199254740992 ∧ -1074 ≤ q ∧ q ≤ 971 ∧ (q = -1074 ∨ 4503599627370496 ≤ c)
/-- c * 2^q in units of 2^-1074 -/
def zv (c : Nat) (q : Int) : Nat := c * 2 ^ (q + 1074).toNat
theorem fits_cn {s : Bool} {c : Nat} {q : Int} : FP.Core.fits FP.Core.b64 (.fin s c q) ↔ cnD c q := by
  unfold FP.Core.fits cnD
  rw [qmin64, qmax64, tails64]
  exact Iff.rfl
theorem fin_cn {x : UInt64} {s : Bool} {c : Nat} {q : Int} (h : vl x = .fin s c q) : cnD c q := by
  have := FP.Core.val64_fits x
  rw [show FP.Core.val64 x = .fin s c q from h] at this
  exact fits_cn.mp this
theorem cn_u {c c' : Nat} {q q' : Int} (h : cnD c q) (h' : cnD c' q') (e : zv c q = zv c' q') : c = c' ∧ q = q' := by
  have key : ∀ {c c' : Nat} {q q' : Int}, cnD c q → cnD c' q' → zv c q = zv c' q' → q ≤ q' → c = c' ∧ q = q' := by
    intro c c' q q' h h' e hq
    unfold zv at e
    unfold cnD at h h'
    rw [show (q' + 1074).toNat = (q' - q).toNat + (q + 1074).toNat by omega, Nat.pow_add, ← Nat.mul_assoc] at e
    have e2 := Nat.eq_of_mul_eq_mul_right (Nat.two_pow_pos _) e
    rcases Int.lt_or_eq_of_le hq with g | g
    · exfalso
      have h1 : (2 : Nat) ^ 1 ≤ 2 ^ (q' - q).toNat := Nat.pow_le_pow_right (by decide) (by omega)
      have h2 : 4503599627370496 * 2 ^ 1 ≤ c' * 2 ^ (q' - q).toNat := Nat.mul_le_mul (by omega) h1
      omega
    · subst g
      rw [Int.sub_self] at e2
      simp at e2
      exact ⟨e2, rfl⟩
  rcases Int.le_total q q' with g | g
  · exact key h h' e g
  · have := key h' h e.symm g
    exact ⟨this.1.symm, this.2.symm⟩
theorem cn_ex : ∀ (k m : Nat), m ≤ 9007199254740992 → m * 2 ^ k < 2 ^ 2098 → ∃ c q, cnD c q ∧ zv c q = m * 2 ^ k := by
  intro k
  induction k with
  | zero =>
    intro m hm _
    rcases Nat.lt_or_ge m 9007199254740992 with g | g
    · exact ⟨m, -1074, ⟨g, by decide, by decide, Or.inl rfl⟩, by unfold zv; simp⟩
    · have : m = 9007199254740992 := by omega
      subst this
      exact ⟨4503599627370496, -1073, ⟨by decide, by decide, by decide, Or.inr (by decide)⟩, by unfold zv; decide⟩
  | succ k ih =>
    intro m hm hb
    have lim : ∀ j : Nat, (2 : Nat) ^ 52 * 2 ^ j < 2 ^ 2098 → j < 2046 := fun j hj => by
      rw [← Nat.pow_add] at hj
      have := (Nat.pow_lt_pow_iff_right (by decide : 1 < 2)).mp hj
      omega
    have h52 : (2 : Nat) ^ 52 = 4503599627370496 := by decide
    rcases Nat.lt_or_ge m 4503599627370496 with g | g
    · obtain ⟨c, q, h1, h2⟩ := ih (2 * m) (by omega) (by rw [Nat.pow_succ] at hb; rw [Nat.mul_comm 2 m, Nat.mul_assoc, Nat.mul_comm 2]; exact hb)
      exact ⟨c, q, h1, by rw [h2, Nat.pow_succ, Nat.mul_comm 2 m, Nat.mul_assoc, Nat.mul_comm 2]⟩
    · rcases Nat.lt_or_ge m 9007199254740992 with g2 | g2
      · have h3 := lim (k + 1) (Nat.lt_of_le_of_lt (Nat.mul_le_mul_right _ (by rw [h52]; exact g)) hb)
        refine ⟨m, ((k + 1 : Nat) : Int) - 1074, ⟨g2, by omega, by omega, Or.inr g⟩, ?_⟩
        unfold zv
        rw [show (((k + 1 : Nat) : Int) - 1074 + 1074).toNat = k + 1 by omega]
      · have : m = 9007199254740992 := by omega
        subst this
        have e : 9007199254740992 * 2 ^ (k + 1) = 2 ^ 52 * 2 ^ (k + 2) := by rw [h52, Nat.pow_succ 2 (k + 1)]; omega
        rw [e] at hb
        have h3 := lim (k + 2) hb
        refine ⟨4503599627370496, ((k + 2 : Nat) : Int) - 1074, ⟨by decide, by omega, by omega, Or.inr (by decide)⟩, ?_⟩
        unfold zv
        rw [show (((k + 2 : Nat) : Int) - 1074 + 1074).toNat = k + 2 by omega, e, h52]
/-- a ratio that is a double's value is rounded to it -/
theorem round_cn {s : Bool} {A c : Nat} {e q : Int} (h : cnD c q) (he : -3000 ≤ e) (hv : A * 2 ^ (e + 3000).toNat = c * 2 ^ (q + 3000).toNat) : FP.Core.roundRatio FP.Core.b64 s A 1 e = .fin s c q := by
  refine FP.Core.roundRatio_exact FP.Core.good_b64 (by decide) (fits_cn.mpr h) ?_
  have hq : -1074 ≤ q := h.2.1
  rw [Nat.mul_one]
  rcases Int.le_total e q with g | g
  · rw [show (e - q).toNat = 0 by omega, Nat.pow_zero, Nat.mul_one]
    rw [show (q + 3000).toNat = (q - e).toNat + (e + 3000).toNat by omega, Nat.pow_add, ← Nat.mul_assoc] at hv
    exact Nat.eq_of_mul_eq_mul_right (Nat.two_pow_pos _) hv
  · rw [show (q - e).toNat = 0 by omega, Nat.pow_zero, Nat.mul_one]
    rw [show (e + 3000).toNat = (e - q).toNat + (q + 3000).toNat by omega, Nat.pow_add, ← Nat.mul_assoc] at hv
    exact Nat.eq_of_mul_eq_mul_right (Nat.two_pow_pos _) hv
theorem vl_two : vl 4611686018427387904 = .fin false 4503599627370496 (-51) := by decide +kernel
theorem vl_half : vl 4602678819172646912 = .fin false 4503599627370496 (-53) := by decide +kernel
theorem zv_off {c : Nat} {q : Int} (hq : -1074 ≤ q) (k : Nat) : c * 2 ^ (q + 1074 + k).toNat = zv c q * 2 ^ k := by
  unfold zv
  rw [show (q + 1074 + (k : Int)).toNat = (q + 1074).toNat + k by omega, Nat.pow_add, Nat.mul_assoc]
theorem mul_two {x : UInt64} {s : Bool} {c c' : Nat} {q q' : Int} (h : vl x = .fin s c q) (h' : cnD c' q') (e : zv c' q' = 2 * zv c q) : vl (FP.dmul x 4611686018427387904) = .fin s c' q' := by
  have hc := fin_cn h
  have hv := FP.Core.val64_dmul x 4611686018427387904
  rw [show FP.Core.val64 x = .fin s c q from h, show FP.Core.val64 4611686018427387904 = _ from vl_two] at hv
  refine hv.trans ?_
  show FP.Core.roundRatio FP.Core.b64 (s != false) (c * 4503599627370496) 1 (q + -51) = _
  rw [show (s != false) = s by cases s <;> rfl]
  have hq := hc.2.1
  have hq' := h'.2.1
  refine round_cn h' (by omega) ?_
  have e1 := zv_off (c := c) hq 1875
  have e2 := zv_off (c := c') hq' 1926
  rw [show q' + 3000 = q' + 1074 + (1926 : Nat) by omega, e2, e]
  rw [show q + -51 + 3000 = q + 1074 + (1875 : Nat) by omega, Nat.mul_right_comm, e1]
  have k1 : (2 : Nat) ^ 1875 * 4503599627370496 = 2 * 2 ^ 1926 := by decide +kernel
  rw [Nat.mul_assoc, k1, Nat.mul_comm 2 (zv c q), Nat.mul_assoc]
theorem mul_half {x : UInt64} {s : Bool} {c c' : Nat} {q q' : Int} (h : vl x = .fin s c q) (h' : cnD c' q') (e : 2 * zv c' q' = zv c q) : vl (FP.dmul x 4602678819172646912) = .fin s c' q' := by
  have hc := fin_cn h
  have hv := FP.Core.val64_dmul x 4602678819172646912
  rw [show FP.Core.val64 x = .fin s c q from h, show FP.Core.val64 4602678819172646912 = _ from vl_half] at hv
  refine hv.trans ?_
  show FP.Core.roundRatio FP.Core.b64 (s != false) (c * 4503599627370496) 1 (q + -53) = _
  rw [show (s != false) = s by cases s <;> rfl]
  have hq := hc.2.1
  have hq' := h'.2.1
  refine round_cn h' (by omega) ?_
  have e1 := zv_off (c := c) hq 1873
  have e2 := zv_off (c := c') hq' 1926
  rw [show q' + 3000 = q' + 1074 + (1926 : Nat) by omega, e2]
  rw [show q + -53 + 3000 = q + 1074 + (1873 : Nat) by omega, Nat.mul_right_comm, e1, ← e]
  have k1 : 2 * ((2 : Nat) ^ 1873 * 4503599627370496) = 2 ^ 1926 := by decide +kernel
  rw [Nat.mul_comm 2 (zv c' q'), Nat.mul_assoc, Nat.mul_assoc, k1]
theorem mul_over {x : UInt64} {s : Bool} {c : Nat} {q : Int} (h : vl x = .fin s c q) (e : 2 ^ 2098 ≤ 2 * zv c q) : vl (FP.dmul x 4611686018427387904) = .inf s := by
  have hc := fin_cn h
  have hv := FP.Core.val64_dmul x 4611686018427387904
  rw [show FP.Core.val64 x = .fin s c q from h, show FP.Core.val64 4611686018427387904 = _ from vl_two] at hv
  refine hv.trans ?_
  show FP.Core.roundRatio FP.Core.b64 (s != false) (c * 4503599627370496) 1 (q + -51) = _
  rw [show (s != false) = s by cases s <;> rfl]
  have hq := hc.2.1
  refine (FP.Core.roundRatio_inf FP.Core.good_b64 (e0 := -2000) (by decide) (by rw [qmin64]; decide) (by omega)).mpr ?_
  rw [qmax64]
  unfold FP.Core.inUnits
  have e1 := zv_off (c := c) hq 875
  rw [show q + -51 - -2000 = q + 1074 + (875 : Nat) by omega, Nat.mul_right_comm c, e1, Nat.mul_one]
  rw [show FP.Core.b64.p + 1 = 54 from rfl, show ((971 : Int) - 1 - -2000).toNat = 2970 by decide]
  have e2 : (2 ^ 54 - 1) * 2 ^ 2970 ≤ 2 ^ 2097 * 2 ^ 875 * 4503599627370496 := by decide +kernel
  have e3 : 2 ^ 2097 ≤ zv c q := by
    rw [show (2098 : Nat) = 2097 + 1 from rfl, Nat.pow_succ] at e
    omega
  exact Nat.le_trans e2 (Nat.mul_le_mul_right _ (Nat.mul_le_mul_right _ e3))
theorem mul_inf {x : UInt64} {s : Bool} (h : vl x = .inf s) : vl (FP.dmul x 4611686018427387904) = .inf s := by
  have hv := FP.Core.val64_dmul x 4611686018427387904
  rw [show FP.Core.val64 x = .inf s from h, show FP.Core.val64 4611686018427387904 = _ from vl_two] at hv
  refine hv.trans ?_
  cases s <;> decide
theorem l2d_cn {m : Nat} {c : Nat} {q : Int} (hm : m ≤ 9223372036854775807) (h : cnD c q) (e : zv c q = m * 2 ^ 1074) : vl (FP.l2d (lz (m : Int))) = .fin false c q := by
  refine (FP.Core.val64_l2d (lz (m : Int))).trans ?_
  rw [lz_toInt ⟨by omega, by omega⟩]
  show FP.Core.roundRatio FP.Core.b64 (decide ((m : Int) < 0)) (m : Int).natAbs 1 0 = _
  rw [show decide ((m : Int) < 0) = false by simp, Int.natAbs_natCast]
  refine round_cn h (by decide) ?_
  have e2 := zv_off (c := c) h.2.1 1926
  rw [show q + 3000 = q + 1074 + (1926 : Nat) by omega, e2, e, Nat.mul_assoc, ← Nat.pow_add]
  rfl
/-- a double of the model, as a value: m * 2^k units, or infinite if that is too great -/
def isVl (x : UInt64) (s : Bool) (Z : Nat) : Prop := (Z < 2 ^ 2098 ∧ ∃ c q, vl x = .fin s c q ∧ zv c q = Z) ∨ (2 ^ 2098 ≤ Z ∧ vl x = .inf s)
theorem isVl.n64 {x : UInt64} {s : Bool} {Z : Nat} (h : isVl x s Z) : vf_n64 x := by
  rcases h with ⟨_, c, q, h, _⟩ | ⟨_, h⟩
  · exact fin_n64 h
  · exact inf_n64 h
theorem isVl.two {x : UInt64} {s : Bool} {m k : Nat} (hm : m ≤ 9007199254740992) (h : isVl x s (m * 2 ^ k)) : isVl (FP.dmul x 4611686018427387904) s (m * 2 ^ (k + 1)) := by
  have e : m * 2 ^ (k + 1) = 2 * (m * 2 ^ k) := by rw [Nat.pow_succ, ← Nat.mul_assoc, Nat.mul_comm]
  rcases h with ⟨h1, c, q, h2, h3⟩ | ⟨h1, h2⟩
  · rcases Nat.lt_or_ge (m * 2 ^ (k + 1)) (2 ^ 2098) with g | g
    · obtain ⟨c', q', g1, g2⟩ := cn_ex (k + 1) m hm g
      exact Or.inl ⟨g, c', q', mul_two h2 g1 (by rw [g2, h3, e]), g2⟩
    · exact Or.inr ⟨g, mul_over h2 (by rw [h3, ← e]; exact g)⟩
  · exact Or.inr ⟨by rw [e]; omega, mul_inf h2⟩
theorem isVl.half {x : UInt64} {s : Bool} {m k : Nat} (hm : m ≤ 9007199254740992) (hk : k + 1 ≤ 1074) (h : isVl x s (m * 2 ^ (k + 1))) : isVl (FP.dmul x 4602678819172646912) s (m * 2 ^ k) := by
  have e : m * 2 ^ (k + 1) = 2 * (m * 2 ^ k) := by rw [Nat.pow_succ, ← Nat.mul_assoc, Nat.mul_comm]
  have hb : m * 2 ^ (k + 1) < 2 ^ 2098 := by
    have h1 : m * 2 ^ (k + 1) ≤ 2 ^ 53 * 2 ^ 1074 := Nat.mul_le_mul (by rw [show (2 : Nat) ^ 53 = 9007199254740992 by decide]; exact hm) (Nat.pow_le_pow_right (by decide) hk)
    have h2 : (2 : Nat) ^ 53 * 2 ^ 1074 < 2 ^ 2098 := by decide +kernel
    omega
  rcases h with ⟨h1, c, q, h2, h3⟩ | ⟨h1, h2⟩
  · have g : m * 2 ^ k < 2 ^ 2098 := by omega
    obtain ⟨c', q', g1, g2⟩ := cn_ex k m hm g
    exact Or.inl ⟨g, c', q', mul_half h2 g1 (by rw [g2, h3, e]), g2⟩
  · omega
theorem sp_scaled {G : xG} {l : Launch} {n : Nat} {h : xH} {m : Nat} {e : Int} {Po : UInt64 → xH → Prop} (hm : m ≤ 9007199254740992) (he0 : -1074 ≤ e) (he1 : e ≤ 100000) (hp : ∀ x, isVl x false (m * 2 ^ (e + 1074).toNat) → Po x h) : S_X9_scaled G l m e n h Po := by
  refine S_X9_scaled_of (fun k hl C E => X9_scaled_b0 C E m e n h rfl ?_)
  have start : isVl (FP.l2d (lz (m : Int))) false (m * 2 ^ 1074) := by
    have g : m * 2 ^ 1074 < 2 ^ 2098 := by
      have h1 : m * 2 ^ 1074 ≤ 2 ^ 53 * 2 ^ 1074 := Nat.mul_le_mul_right _ (by rw [show (2 : Nat) ^ 53 = 9007199254740992 by decide]; exact hm)
      have h2 : (2 : Nat) ^ 53 * 2 ^ 1074 < 2 ^ 2098 := by decide +kernel
      omega
    obtain ⟨c, q, g1, g2⟩ := cn_ex 1074 m hm g
    exact Or.inl ⟨g, c, q, l2d_cn (by omega) g1 g2, g2⟩
  have w26 : ∀ (u : Nat) (x : UInt64) (y : Int), (0 ≤ y ∧ u = 0 ∨ y < 0 ∧ y = -(u : Int)) → -1074 ≤ y → y ≤ 100000 → (∀ x', isVl x' false (m * 2 ^ (e + 1074).toNat) → Po x' h) → isVl x false (m * 2 ^ ((e + 1074).toNat + u)) → ((e + 1074).toNat + u ≤ 1074 ∨ u = 0) → X9_scaled_w26 G k x y n h := by
    intro u
    induction u with
    | zero =>
      intro x y hy hy0 hy1 hp hx hu
      exact X9_scaled_b26 C E x y n h rfl ⟨rgS (by omega) (by omega), fun _ => hp x hx, fun g => by omega⟩
    | succ u ih =>
      intro x y hy hy0 hy1 hp hx hu
      have h2 := hx.half (k := (e + 1074).toNat + u) hm (by omega)
      exact X9_scaled_b26 C E x y n h rfl ⟨rgS (by omega) (by omega), fun g => by omega, fun _ => ⟨h2.n64, ih _ (y + 1) (by omega) (by omega) (by omega) hp h2 (by omega)⟩⟩
  rcases Int.lt_or_le e 0 with g | g
  · refine X9_scaled_b6 C E e _ e n h rfl ⟨rgS (by omega) (by omega), fun _ => w26 (-e).toNat _ e (Or.inr ⟨g, by omega⟩) he0 he1 hp (by rw [show (e + 1074).toNat + (-e).toNat = 1074 by omega]; exact start) (by omega), fun z => by omega⟩
  · suffices K : ∀ (u j : Nat) (x : UInt64), (j : Int) + u = e → isVl x false (m * 2 ^ (1074 + j)) → X9_scaled_w6 G k e x u n h by
      have := K e.toNat 0 _ (by omega) start
      rwa [show ((e.toNat : Nat) : Int) = e by omega] at this
    intro u
    induction u with
    | zero =>
      intro j x hj hx
      refine X9_scaled_b6 C E e x _ n h rfl ⟨rgS (by omega) (by omega), fun _ => w26 0 x e (Or.inl ⟨g, rfl⟩) he0 he1 hp (by rw [show (e + 1074).toNat + 0 = 1074 + j by omega]; exact hx) (Or.inr rfl), fun z => by omega⟩
    | succ u ih =>
      intro j x hj hx
      have h2 := hx.two hm
      refine X9_scaled_b6 C E e x _ n h rfl ⟨rgS (by omega) (by omega), fun z => by omega, fun _ => ⟨h2.n64, ?_⟩⟩
      rw [show ((u + 1 : Nat) : Int) + (-1) = (u : Int) by omega]
      exact ih (j + 1) _ (by omega) h2
