/-! THE GUESS OF A DIGIT: doubles that hold whole numbers -/
abbrev vl (x : UInt64) : FP.Core.Datum := FP.Core.val64 x
theorem qmin64 : FP.Core.Fmt.qmin FP.Core.b64 = -1074 := by decide
theorem qmax64 : FP.Core.Fmt.qmax FP.Core.b64 = 971 := by decide
theorem tails64 : FP.Core.Fmt.tails FP.Core.b64 = 4503599627370496 := by decide
theorem exps64 : FP.Core.Fmt.exps FP.Core.b64 = 2048 := by decide
/-- bits that are no NaN -/
theorem n64_of {x : UInt64} (h : vl x ≠ .nan) : vf_n64 x := by
  show x &&& 0x7fffffffffffffff ≤ 0x7ff0000000000000
  rw [UInt64.le_iff_toNat_le, UInt64.toNat_and]
  have e : (0x7fffffffffffffff : UInt64).toNat = 2 ^ 63 - 1 := by decide
  rw [e, Nat.and_two_pow_sub_one_eq_mod]
  show x.toNat % 2 ^ 63 ≤ 9218868437227405312
  have hx := x.toNat_lt
  rcases Nat.lt_or_ge 9218868437227405312 (x.toNat % 2 ^ 63) with g | g
  · exfalso
    apply h
    show FP.Core.decode FP.Core.b64 x.toNat = .nan
    unfold FP.Core.decode FP.Core.fieldE FP.Core.fieldT
    rw [tails64, exps64]
    rw [if_pos (by omega), if_neg (by omega)]
  · exact g
theorem fin_n64 {x : UInt64} {s : Bool} {c : Nat} {q : Int} (h : vl x = .fin s c q) : vf_n64 x := n64_of (by rw [h]; exact fun e => by cases e)
theorem inf_n64 {x : UInt64} {s : Bool} (h : vl x = .inf s) : vf_n64 x := n64_of (by rw [h]; exact fun e => by cases e)
theorem dint_n64 {i : Int} {x : UInt64} (h : FP.Core.DInt i x) : vf_n64 x := by
  unfold FP.Core.DInt at h
  refine n64_of (fun e => ?_)
  rw [show FP.Core.val64 x = .nan from e] at h
  exact h
theorem dint_k : FP.Core.DInt 10000 4666723172467343360 := by decide +kernel
theorem dint_9999 : FP.Core.DInt 9999 4666722622711529472 := by decide +kernel
theorem dint_i {z : Int} (h : rg z) : FP.Core.DInt z (FP.i2d (iz z)) := by
  have := FP.Core.i2d_int (iz z)
  rw [iz_toInt h] at this
  exact this
/-- a whole double's parts -/
theorem dint_parts {i : Int} {x : UInt64} (h : FP.Core.DInt i x) (hi : 0 < i) : ∃ c q, vl x = .fin false c q ∧ 0 < c := by
  unfold FP.Core.DInt at h
  show ∃ c q, FP.Core.val64 x = .fin false c q ∧ 0 < c
  cases e : FP.Core.val64 x with
  | nan => rw [e] at h; exact absurd h id
  | inf s => rw [e] at h; exact absurd h id
  | fin s c q =>
    rw [e] at h
    have h1 := FP.Core.whole_sign h (by omega)
    have h2 := FP.Core.whole_zero h
    have hs : s = false := by rw [h1]; simp; omega
    rw [hs]
    refine ⟨c, q, rfl, ?_⟩
    rcases Nat.eq_zero_or_pos c with z | z
    · have := h2.mp z; omega
    · exact z
/-- the guess lies within 0 .. 9999 -/
theorem guess_in {i j : Int} {x y : UInt64} (hx : FP.Core.DInt i x) (hy : FP.Core.DInt j y) (hi : 0 ≤ i) (hj : 0 < j) : vf_n64 (FP.ddiv x y) ∧ 0 ≤ (FP.d2i (Native.java_lang_Math.nans.pick64 false 4666722622711529472 (FP.ddiv x y))).toInt ∧ (FP.d2i (Native.java_lang_Math.nans.pick64 false 4666722622711529472 (FP.ddiv x y))).toInt ≤ 9999 := by
  obtain ⟨d, r, hd, hd0⟩ := dint_parts hy hj
  have key : ∃ s c q, FP.Core.val64 (FP.ddiv x y) = FP.Core.roundRatio FP.Core.b64 s c d q ∧ (c = 0 ∨ s = false) := by
    unfold FP.Core.DInt at hx
    have hv := FP.Core.val64_ddiv x y
    cases e : FP.Core.val64 x with
    | nan => rw [e] at hx; exact absurd hx id
    | inf s => rw [e] at hx; exact absurd hx id
    | fin s c q =>
      rw [e] at hx
      rw [e, show FP.Core.val64 y = .fin false d r from hd] at hv
      refine ⟨(s != false), c, q - r, ?_, ?_⟩
      · show FP.Core.val64 (FP.Core.ddiv x y) = _
        rw [hv]
        unfold FP.Core.quotient
        simp only []
        rw [if_neg (by omega)]
      · rcases Nat.eq_zero_or_pos c with z | z
        · exact Or.inl z
        · right
          have h2 := FP.Core.whole_zero hx
          have hne : i ≠ 0 := fun w => by have := h2.mpr w; omega
          have h1 := FP.Core.whole_sign hx hne
          rw [h1]; simp; omega
  obtain ⟨s, c, q, hq, hs⟩ := key
  have hnn := FP.Core.roundRatio_ne_nan FP.Core.b64 s c d q
  rw [← hq] at hnn
  refine ⟨n64_of hnn, ?_⟩
  have h99 : FP.d2i 4666722622711529472 = 9999 := by decide +kernel
  have v99 : FP.Core.val64 4666722622711529472 = .fin false 5497008534814720 (-39) := by decide +kernel
  unfold Native.java_lang_Math.nans.pick64
  have hr : ∀ z : UInt64, z = 4666722622711529472 → 0 ≤ (FP.d2i z).toInt ∧ (FP.d2i z).toInt ≤ 9999 := fun z e => by rw [e, h99]; decide
  have two : ∀ z : UInt64, FP.Core.val64 z = FP.Core.val64 (FP.ddiv x y) → (FP.Core.order (FP.Core.val64 4666722622711529472) (FP.Core.val64 z) = some .gt ∨ FP.Core.order (FP.Core.val64 4666722622711529472) (FP.Core.val64 z) = some .eq) → 0 ≤ (FP.d2i z).toInt ∧ (FP.d2i z).toInt ≤ 9999 := by
    intro z hz ho
    have hsgn := FP.Core.roundRatio_cases FP.Core.b64 s c d q
    have hsg : ∃ c' q', FP.Core.val64 z = .fin s c' q' ∧ (c' = 0 ∨ s = false) := by
      sorry
    sorry
  sorry
