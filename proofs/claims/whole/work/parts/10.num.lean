/-! NUMBERS: an int is iz z for a whole number z, a long lz z -/
def iz (z : Int) : Int32 := Int32.ofInt z
def lz (z : Int) : Int64 := Int64.ofInt z
abbrev rg (z : Int) : Prop := -2147483648 ≤ z ∧ z ≤ 2147483647
abbrev rgL (z : Int) : Prop := -9223372036854775808 ≤ z ∧ z ≤ 9223372036854775807
theorem iz_toInt {z : Int} (h : rg z) : (iz z).toInt = z := Int32.toInt_ofInt_of_le (by have := h.1; omega) (by have := h.2; omega)
theorem lz_toInt {z : Int} (h : rgL z) : (lz z).toInt = z := Int64.toInt_ofInt_of_le (by have := h.1; omega) (by have := h.2; omega)
theorem iz_bmod (z : Int) : (iz z).toInt = z.bmod (2 ^ 32) := Int32.toInt_ofInt
theorem lz_bmod (z : Int) : (lz z).toInt = z.bmod (2 ^ 64) := Int64.toInt_ofInt
theorem iz_self (x : Int32) : iz x.toInt = x := Int32.ofInt_toInt x
theorem lz_self (x : Int64) : lz x.toInt = x := Int64.ofInt_toInt x
theorem iz_add (a b : Int) : iz a + iz b = iz (a + b) := by
  apply Int32.toInt_inj.mp
  rw [Int32.toInt_add, iz_bmod, iz_bmod, iz_bmod, Int.add_bmod_bmod, Int.bmod_add_bmod]
theorem iz_sub (a b : Int) : iz a - iz b = iz (a - b) := by
  apply Int32.toInt_inj.mp
  rw [Int32.toInt_sub, iz_bmod, iz_bmod, iz_bmod, Int.sub_bmod_bmod, Int.bmod_sub_bmod]
theorem iz_mul (a b : Int) : iz a * iz b = iz (a * b) := by
  apply Int32.toInt_inj.mp
  rw [Int32.toInt_mul, iz_bmod, iz_bmod, iz_bmod, Int.mul_bmod_bmod, Int.bmod_mul_bmod]
theorem iz_neg (a : Int) : - iz a = iz (-a) := by
  apply Int32.toInt_inj.mp
  rw [Int32.toInt_neg, iz_bmod, iz_bmod, ← Int.zero_sub (a.bmod _), Int.sub_bmod_bmod, Int.zero_sub]
theorem lz_add (a b : Int) : lz a + lz b = lz (a + b) := by
  apply Int64.toInt_inj.mp
  rw [Int64.toInt_add, lz_bmod, lz_bmod, lz_bmod, Int.add_bmod_bmod, Int.bmod_add_bmod]
theorem lz_sub (a b : Int) : lz a - lz b = lz (a - b) := by
  apply Int64.toInt_inj.mp
  rw [Int64.toInt_sub, lz_bmod, lz_bmod, lz_bmod, Int.sub_bmod_bmod, Int.bmod_sub_bmod]
theorem lz_mul (a b : Int) : lz a * lz b = lz (a * b) := by
  apply Int64.toInt_inj.mp
  rw [Int64.toInt_mul, lz_bmod, lz_bmod, lz_bmod, Int.mul_bmod_bmod, Int.bmod_mul_bmod]
theorem lz_neg (a : Int) : - lz a = lz (-a) := by
  apply Int64.toInt_inj.mp
  rw [Int64.toInt_neg, lz_bmod, lz_bmod, ← Int.zero_sub (a.bmod _), Int.sub_bmod_bmod, Int.zero_sub]
theorem iz_div {a b : Int} (ha : rg a) (hb : rg b) : iz a / iz b = iz (a.tdiv b) := by
  apply Int32.toInt_inj.mp
  rw [Int32.toInt_div, iz_toInt ha, iz_toInt hb, iz_bmod]
theorem lz_div {a b : Int} (ha : rgL a) (hb : rgL b) : lz a / lz b = lz (a.tdiv b) := by
  apply Int64.toInt_inj.mp
  rw [Int64.toInt_div, lz_toInt ha, lz_toInt hb, lz_bmod]
theorem iz_rem {a b : Int} (ha : rg a) (hb : rg b) : iz a - iz a / iz b * iz b = iz (a.tmod b) := by
  rw [iz_div ha hb, iz_mul, iz_sub, Int.tmod_def, Int.mul_comm]
theorem lz_rem {a b : Int} (ha : rgL a) (hb : rgL b) : lz a - lz a / lz b * lz b = lz (a.tmod b) := by
  rw [lz_div ha hb, lz_mul, lz_sub, Int.tmod_def, Int.mul_comm]
theorem iz_lt {a b : Int} (ha : rg a) (hb : rg b) : iz a < iz b ↔ a < b := by rw [Int32.lt_iff_toInt_lt, iz_toInt ha, iz_toInt hb]
theorem iz_le {a b : Int} (ha : rg a) (hb : rg b) : iz a ≤ iz b ↔ a ≤ b := by rw [Int32.le_iff_toInt_le, iz_toInt ha, iz_toInt hb]
theorem iz_eq {a b : Int} (ha : rg a) (hb : rg b) : iz a = iz b ↔ a = b := by rw [← Int32.toInt_inj, iz_toInt ha, iz_toInt hb]
theorem lz_lt {a b : Int} (ha : rgL a) (hb : rgL b) : lz a < lz b ↔ a < b := by rw [Int64.lt_iff_toInt_lt, lz_toInt ha, lz_toInt hb]
theorem lz_eq {a b : Int} (ha : rgL a) (hb : rgL b) : lz a = lz b ↔ a = b := by rw [← Int64.toInt_inj, lz_toInt ha, lz_toInt hb]
theorem iz_clamp {a : Int} (ha : rg a) : (iz a).toNatClampNeg = a.toNat := by
  show (iz a).toInt.toNat = a.toNat
  rw [iz_toInt ha]
theorem iz_in {a : Int} {n : Nat} (h0 : 0 ≤ a) (h1 : a < n) (hn : n ≤ 2147483647) : vp_in (iz a) n := by
  have hr : rg a := ⟨by omega, by omega⟩
  rw [vp_in_iff, iz_toInt hr]
  exact ⟨h0, h1⟩
theorem iz_nat (n : Nat) : Int32.ofNat n = iz n := (Int32.ofInt_eq_ofNat).symm
theorem lz_nat (n : Nat) : Int64.ofNat n = lz n := (Int64.ofInt_eq_ofNat).symm
theorem lz_i32 (z : Int) : (lz z).toInt32 = iz z := Int64.toInt32_ofInt
theorem iz_i64 {z : Int} (h : rg z) : (iz z).toInt64 = lz z := Int32.toInt64_ofInt (by rw [Int32.toInt_minValue]; have := h.1; omega) (by rw [Int32.toInt_maxValue]; have := h.2; omega)
/-- bits of two ints, as a whole number -/
def iA (a b : Int) : Int := (iz a &&& iz b).toInt
def iO (a b : Int) : Int := (iz a ||| iz b).toInt
def iX (a b : Int) : Int := (iz a ^^^ iz b).toInt
def lA (a b : Int) : Int := (lz a &&& lz b).toInt
def lO (a b : Int) : Int := (lz a ||| lz b).toInt
theorem iz_and (a b : Int) : iz a &&& iz b = iz (iA a b) := (iz_self _).symm
theorem iz_or (a b : Int) : iz a ||| iz b = iz (iO a b) := (iz_self _).symm
theorem iz_xor (a b : Int) : iz a ^^^ iz b = iz (iX a b) := (iz_self _).symm
theorem lz_and (a b : Int) : lz a &&& lz b = lz (lA a b) := (lz_self _).symm
theorem lz_or (a b : Int) : lz a ||| lz b = lz (lO a b) := (lz_self _).symm
/-- shifts, as whole numbers -/
def iSl (a b : Int) : Int := (iz a <<< (iz b &&& 31)).toInt
def iSr (a b : Int) : Int := (iz a >>> (iz b &&& 31)).toInt
def iSu (a b : Int) : Int := ((iz a).toUInt32 >>> ((iz b).toUInt32 &&& Int32.toUInt32 31)).toInt32.toInt
def lSl (a b : Int) : Int := (lz a <<< ((iz b).toInt64 &&& 63)).toInt
def lSr (a b : Int) : Int := (lz a >>> ((iz b).toInt64 &&& 63)).toInt
def lSu (a b : Int) : Int := ((lz a).toUInt64 >>> ((iz b).toInt64.toUInt64 &&& Int64.toUInt64 63)).toInt64.toInt
/-- the answer of lcmp and of the comparisons of doubles, as a whole number -/
def lC (a b : Int) : Int := if a > b then 1 else if a = b then 0 else -1
theorem lC_eq {a b : Int} (ha : rgL a) (hb : rgL b) : lg_cmp (lz a) (lz b) = iz (lC a b) := by
  unfold lg_cmp lC
  by_cases h : b < a
  · rw [if_pos (show lz a > lz b from (lz_lt hb ha).mpr h), if_pos (show a > b from h)]; rfl
  · rw [if_neg (show ¬ lz a > lz b from fun q => h ((lz_lt hb ha).mp q)), if_neg (show ¬ a > b from h)]
    by_cases h2 : a = b
    · rw [if_pos ((lz_eq ha hb).mpr h2), if_pos h2]; rfl
    · rw [if_neg (fun q => h2 ((lz_eq ha hb).mp q)), if_neg h2]; rfl
def dC (op : CmpOp) (x y : UInt64) : Int := (Op.cmpValue (FP.dcmp x y) op).toInt
theorem rg_toInt (x : Int32) : rg x.toInt := ⟨by have := x.le_toInt; omega, by have := x.toInt_lt; omega⟩
theorem rgL_toInt (x : Int64) : rgL x.toInt := ⟨by have := x.le_toInt; omega, by have := x.toInt_lt; omega⟩
theorem rg_dC (op : CmpOp) (x y : UInt64) : rg (dC op x y) := rg_toInt _
theorem rg_lC (a b : Int) : rg (lC a b) := by unfold lC; split <;> (try split) <;> constructor <;> omega
theorem lC_lt (a b : Int) : lC a b < 0 ↔ a < b := by unfold lC; split <;> (try split) <;> omega
theorem lC_eq0 (a b : Int) : lC a b = 0 ↔ a = b := by unfold lC; split <;> (try split) <;> omega
theorem lC_gt (a b : Int) : 0 < lC a b ↔ b < a := by unfold lC; split <;> (try split) <;> omega
