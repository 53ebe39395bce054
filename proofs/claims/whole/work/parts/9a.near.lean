/-! THE MODEL: the nearest double -/
theorem ten_T (s : Nat) : (10 : Int) ^ (4 * s) = 10000 ^ s := by rw [Int.pow_mul]; rfl
theorem sp_decimals {G : xG} {l : Launch} {n : Nat} {h : xH} {a m s : Nat} {v : Int} {Po : Int → xH → Prop} (t : isT n h a m s v) (hv : 0 < v) (hp : ∀ d : Nat, 1 ≤ d → d ≤ 4 * s → (10 : Int) ^ (d - 1) ≤ v → v < 10 ^ d → Po d h) : S_X9_decimals G l a s n h Po := by
  refine S_X9_decimals_of (fun k hl C E => ?_)
  have hs : 0 < s := t.pos.mp hv
  obtain ⟨s', rfl⟩ : ∃ s', s = s' + 1 := ⟨s - 1, by omega⟩
  have hm := t.1.2.2.2
  have hsm := t.2.1
  have dt := t.2.2.1 s' (by omega)
  have nz := t.2.2.2.2 s' rfl
  have hval : v = rv (h a).2.2 s' + (h a).2.2 s' * 10000 ^ s' := t.2.2.2.1.symm
  have rb := rv_bd (t.2.2.1.le (Nat.le_succ s'))
  have hT := T_pos s'
  have fin : ∀ c : Nat, 1 ≤ c → c ≤ 4 → (10 : Int) ^ (c - 1) ≤ (h a).2.2 s' → (h a).2.2 s' < 10 ^ c → X9_decimals_w43 G k c (4 * (((s' + 1 : Nat) : Int) - 1)) n h := by
    intro c hc1 hc4 h1 h2
    refine X9_decimals_b43 C E c _ n h rfl ?_
    rw [show 4 * (((s' + 1 : Nat) : Int) - 1) + c = ((4 * s' + c : Nat) : Int) by omega]
    refine hp (4 * s' + c) (by omega) (by omega) ?_ ?_
    · rw [show 4 * s' + c - 1 = 4 * s' + (c - 1) by omega, Int.pow_add, ten_T, Int.mul_comm]
      have := Int.mul_le_mul_of_nonneg_right h1 (Int.le_of_lt hT)
      omega
    · rw [Int.pow_add, ten_T, Int.mul_comm]
      have := Int.mul_le_mul_of_nonneg_right (show (h a).2.2 s' + 1 ≤ 10 ^ c by omega) (Int.le_of_lt hT)
      rw [Int.add_mul, Int.one_mul] at this
      omega
  have g0 : hG h a s' = (h a).2.2 s' := rfl
  have p1 : (10 : Int) ^ 1 = 10 := by decide
  have p2 : (10 : Int) ^ 2 = 100 := by decide
  have p3 : (10 : Int) ^ 3 = 1000 := by decide
  have p4 : (10 : Int) ^ 4 = 10000 := by decide
  have r0 : rg ((h a).2.2 s') := rgS (by omega) (by omega)
  refine X9_decimals_b0 C E a _ n h rfl ⟨t.1.at (by omega) (by omega), ?_⟩
  rw [show (((s' + 1 : Nat) : Int) - 1).toNat = s' by omega, g0]
  refine ⟨⟨r0, rgS (by decide) (by decide)⟩, fun g => ⟨⟨r0, rgS (by decide) (by decide)⟩, fun g2 => ⟨⟨r0, rgS (by decide) (by decide)⟩, fun g3 => fin 1 (by decide) (by decide) (by rw [show (1 : Nat) - 1 = 0 from rfl, Int.pow_zero]; omega) (by omega), fun g3 => fin 2 (by decide) (by decide) (by show (10 : Int) ^ 1 ≤ _; omega) (by omega)⟩, fun g2 => fin 3 (by decide) (by decide) (by show (10 : Int) ^ 2 ≤ _; omega) (by omega)⟩, fun g => fin 4 (by decide) (by decide) (by show (10 : Int) ^ 3 ≤ _; omega) (by omega)⟩
/-- the first guess of the exponent, by the count of decimals -/
def gsE (k : Int) : Int := (FP.d2i (FP.dmul (FP.i2d (iz k)) 4614662735865160562)).toInt - 53
def gsB (k : Int) : Bool := (decide (-30000 ≤ gsE k) && decide (gsE k ≤ 30000)) && ((decide (gsE k ≤ 1100) || decide (347 ≤ k)) && (decide (-1200 ≤ gsE k) || decide (k ≤ -345)))
set_option maxRecDepth 100000 in
theorem gs_all : (List.range 3601).all (fun i => gsB ((i : Int) - 1800)) = true := by decide +kernel
theorem gs_of {k : Int} (h0 : -1800 ≤ k) (h1 : k ≤ 1800) : (-30000 ≤ gsE k ∧ gsE k ≤ 30000) ∧ (gsE k ≤ 1100 ∨ 347 ≤ k) ∧ (-1200 ≤ gsE k ∨ k ≤ -345) := by
  have := List.all_eq_true.mp gs_all (k + 1800).toNat (List.mem_range.mpr (by omega))
  rw [show (((k + 1800).toNat : Nat) : Int) - 1800 = k by omega] at this
  unfold gsB at this
  simpa using this
theorem gs_n64 {k : Int} (h : rg k) : vf_n64 (FP.dmul (FP.i2d (iz k)) 4614662735865160562) := by
  have hk := dint_i h
  refine n64_of ?_
  have hv := FP.Core.val64_dmul (FP.i2d (iz k)) 4614662735865160562
  have hC : FP.Core.val64 4614662735865160562 = .fin false 7480317065143154 (-51) := by decide +kernel
  intro e
  rw [show FP.Core.val64 (FP.Core.dmul (FP.i2d (iz k)) 4614662735865160562) = .nan from e, hC] at hv
  unfold FP.Core.DInt at hk
  cases e2 : FP.Core.val64 (FP.i2d (iz k)) with
  | nan => rw [e2] at hk; exact hk
  | inf s => rw [e2] at hk; exact hk
  | fin s c q =>
    rw [e2] at hv
    exact FP.Core.roundRatio_ne_nan _ _ _ _ _ hv.symm
