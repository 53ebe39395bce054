/-! BITS AS WHOLE NUMBERS -/
theorem ex_nat {z : Int} (h : 0 ≤ z) : ∃ m : Nat, z = (m : Int) := ⟨z.toNat, by omega⟩
theorem w32_congr {x y : Int} (h : x % 4294967296 = y % 4294967296) : w32 x = w32 y := by
  unfold w32
  rw [← Int.emod_bmod x, ← Int.emod_bmod y]
  exact congrArg (fun z => Int.bmod z 4294967296) h
def w64 (x : Int) : Int := x.bmod 18446744073709551616
theorem w64_id {x : Int} (h : rgL x) : w64 x = x := Int.bmod_eq_of_le (by have := h.1; omega) (by have := h.2; omega)
theorem w64_congr {x y : Int} (h : x % 18446744073709551616 = y % 18446744073709551616) : w64 x = w64 y := by
  unfold w64
  rw [← Int.emod_bmod x, ← Int.emod_bmod y]
  exact congrArg (fun z => Int.bmod z 18446744073709551616) h
theorem iz_bv (z : Int) : (iz z).toBitVec.toNat = (z % 4294967296).toNat := by
  show (BitVec.ofInt 32 z).toNat = _
  rw [BitVec.toNat_ofInt]
  rfl
theorem lz_bv (z : Int) : (lz z).toBitVec.toNat = (z % 18446744073709551616).toNat := by
  show (BitVec.ofInt 64 z).toNat = _
  rw [BitVec.toNat_ofInt]
  rfl
theorem i_of_bv (x : Int32) : x.toInt = w32 (x.toBitVec.toNat : Int) := by
  show x.toBitVec.toInt = _
  rw [BitVec.toInt_eq_toNat_bmod]
  rfl
theorem l_of_bv (x : Int64) : x.toInt = w64 (x.toBitVec.toNat : Int) := by
  show x.toBitVec.toInt = _
  rw [BitVec.toInt_eq_toNat_bmod]
  rfl
theorem sh_l : ∀ n : Nat, n < 32 → ((iz (n : Int) &&& 31).toBitVec.smod 32).toNat = n := by decide +kernel
theorem sh_u : ∀ n : Nat, n < 32 → (((iz (n : Int)).toUInt32 &&& Int32.toUInt32 31).toBitVec % 32).toNat = n := by decide +kernel
theorem sh_L : ∀ n : Nat, n < 64 → (((iz (n : Int)).toInt64 &&& 63).toBitVec.smod 64).toNat = n := by decide +kernel
theorem sh_U : ∀ n : Nat, n < 64 → ((iz (n : Int)).toInt64.toUInt64 &&& Int64.toUInt64 63).toNat % 64 = n := by decide +kernel
theorem em_nat (z m : Int) (h : 0 < m) : (((z % m).toNat : Nat) : Int) = z % m := Int.toNat_of_nonneg (Int.emod_nonneg z (by omega))
theorem iSl_w (x : Int) (s : Nat) (hs : s < 32) : iSl x s = w32 (x * 2 ^ s) := by
  unfold iSl
  rw [i_of_bv, pk_shl _ _ s (sh_l s hs), iz_bv]
  apply w32_congr
  rw [Int.natCast_emod, Int.natCast_mul, em_nat _ _ (by omega), Int.natCast_pow]
  show (x % 4294967296 * 2 ^ s) % 4294967296 % 4294967296 = _
  rw [Int.emod_emod_of_dvd _ (Int.dvd_refl _), Int.mul_emod, Int.emod_emod_of_dvd _ (Int.dvd_refl _), ← Int.mul_emod]
theorem iSr_d {x : Int} (hx : rg x) (s : Nat) (hs : s < 32) : iSr x s = x / 2 ^ s := by
  unfold iSr
  rw [pk_shr _ _ s (sh_l s hs), iz_toInt hx, Int.shiftRight_eq_div_pow]
  norm_cast
theorem iSu_w (x : Int) (s : Nat) (hs : s < 32) : iSu x s = w32 ((x % 4294967296) / 2 ^ s) := by
  unfold iSu
  rw [i_of_bv, pk_ushr _ _ s (sh_u s hs), iz_bv]
  apply congrArg
  rw [Int.natCast_ediv, em_nat _ _ (by omega), Int.natCast_pow]
  rfl
theorem lSl_w (x : Int) (s : Nat) (hs : s < 64) : lSl x s = w64 (x * 2 ^ s) := by
  unfold lSl
  rw [l_of_bv]
  have e : (lz x <<< ((iz (s : Int)).toInt64 &&& 63)).toBitVec.toNat = (lz x).toBitVec.toNat * 2 ^ s % 2 ^ 64 := by
    show ((lz x).toBitVec <<< (((iz (s : Int)).toInt64 &&& 63).toBitVec.smod 64).toNat).toNat = _
    rw [sh_L s hs, BitVec.toNat_shiftLeft, Nat.shiftLeft_eq]
  rw [e, lz_bv]
  apply w64_congr
  rw [Int.natCast_emod, Int.natCast_mul, em_nat _ _ (by omega), Int.natCast_pow]
  show (x % 18446744073709551616 * 2 ^ s) % 18446744073709551616 % 18446744073709551616 = _
  rw [Int.emod_emod_of_dvd _ (Int.dvd_refl _), Int.mul_emod, Int.emod_emod_of_dvd _ (Int.dvd_refl _), ← Int.mul_emod]
theorem lSr_d {x : Int} (hx : rgL x) (s : Nat) (hs : s < 64) : lSr x s = x / 2 ^ s := by
  unfold lSr
  have e : (lz x >>> ((iz (s : Int)).toInt64 &&& 63)).toInt = (lz x).toInt >>> s := by
    show ((lz x).toBitVec.sshiftRight (((iz (s : Int)).toInt64 &&& 63).toBitVec.smod 64).toNat).toInt = _
    rw [sh_L s hs, BitVec.toInt_sshiftRight]
    rfl
  rw [e, lz_toInt hx, Int.shiftRight_eq_div_pow]
  norm_cast
theorem lSu_w (x : Int) (s : Nat) (hs : s < 64) : lSu x s = w64 ((x % 18446744073709551616) / 2 ^ s) := by
  unfold lSu
  rw [l_of_bv]
  have e : ((lz x).toUInt64 >>> ((iz (s : Int)).toInt64.toUInt64 &&& Int64.toUInt64 63)).toInt64.toBitVec.toNat = (lz x).toBitVec.toNat / 2 ^ s := by
    show ((lz x).toUInt64 >>> ((iz (s : Int)).toInt64.toUInt64 &&& Int64.toUInt64 63)).toNat = _
    rw [UInt64.toNat_shiftRight, sh_U s hs, Nat.shiftRight_eq_div_pow]
    rfl
  rw [e, lz_bv]
  apply congrArg
  rw [Int.natCast_ediv, em_nat _ _ (by omega), Int.natCast_pow]
  rfl
theorem iA_mask (x : Int) (s : Nat) (hs : s < 31) : iA x (2 ^ s - 1) = x % 2 ^ s := by
  unfold iA
  rw [i_of_bv]
  have e : (iz x &&& iz (2 ^ s - 1)).toBitVec.toNat = (iz x).toBitVec.toNat % 2 ^ s := by
    show ((iz x).toBitVec &&& (iz (2 ^ s - 1)).toBitVec).toNat = _
    rw [BitVec.toNat_and, iz_bv (2 ^ s - 1)]
    have hp : 2 ^ s < 2 ^ 31 := Nat.pow_lt_pow_right (by decide) hs
    have h1 : 1 ≤ 2 ^ s := Nat.one_le_two_pow
    rw [show ((2 : Int) ^ s - 1) = ((2 ^ s - 1 : Nat) : Int) by rw [Int.natCast_sub h1, Int.natCast_pow]; rfl, Int.emod_eq_of_lt (by omega) (by omega), Int.toNat_natCast, Nat.and_two_pow_sub_one_eq_mod]
  rw [e, iz_bv, Int.natCast_emod, em_nat _ _ (by omega), Int.natCast_pow]
  show w32 (x % 4294967296 % 2 ^ s) = _
  have hd : (2 : Int) ^ s ∣ 4294967296 := ⟨2 ^ (32 - s), by rw [← Int.pow_add, show s + (32 - s) = 32 by omega]; rfl⟩
  rw [Int.emod_emod_of_dvd _ hd]
  have hp : (2 : Int) ^ s ≤ 2 ^ 30 := by
    have : (2 : Nat) ^ s ≤ 2 ^ 30 := Nat.pow_le_pow_right (by decide) (by omega)
    exact_mod_cast this
  have h0 := Int.emod_nonneg x (show (2 : Int) ^ s ≠ 0 from Int.pow_ne_zero (by decide))
  have h1 := Int.emod_lt_of_pos x (show (0 : Int) < 2 ^ s from Int.pow_pos (by decide))
  exact w32_id ⟨by omega, by omega⟩
theorem lA_mask (x : Int) (s : Nat) (hs : s < 63) : lA x (2 ^ s - 1) = x % 2 ^ s := by
  unfold lA
  rw [l_of_bv]
  have e : (lz x &&& lz (2 ^ s - 1)).toBitVec.toNat = (lz x).toBitVec.toNat % 2 ^ s := by
    show ((lz x).toBitVec &&& (lz (2 ^ s - 1)).toBitVec).toNat = _
    rw [BitVec.toNat_and, lz_bv (2 ^ s - 1)]
    have hp : 2 ^ s < 2 ^ 63 := Nat.pow_lt_pow_right (by decide) hs
    have h1 : 1 ≤ 2 ^ s := Nat.one_le_two_pow
    rw [show ((2 : Int) ^ s - 1) = ((2 ^ s - 1 : Nat) : Int) by rw [Int.natCast_sub h1, Int.natCast_pow]; rfl, Int.emod_eq_of_lt (by omega) (by omega), Int.toNat_natCast, Nat.and_two_pow_sub_one_eq_mod]
  rw [e, lz_bv, Int.natCast_emod, em_nat _ _ (by omega), Int.natCast_pow]
  show w64 (x % 18446744073709551616 % 2 ^ s) = _
  have hd : (2 : Int) ^ s ∣ 18446744073709551616 := ⟨2 ^ (64 - s), by rw [← Int.pow_add, show s + (64 - s) = 64 by omega]; rfl⟩
  rw [Int.emod_emod_of_dvd _ hd]
  have hp : (2 : Int) ^ s ≤ 2 ^ 62 := by
    have : (2 : Nat) ^ s ≤ 2 ^ 62 := Nat.pow_le_pow_right (by decide) (by omega)
    exact_mod_cast this
  have h0 := Int.emod_nonneg x (show (2 : Int) ^ s ≠ 0 from Int.pow_ne_zero (by decide))
  have h1 := Int.emod_lt_of_pos x (show (0 : Int) < 2 ^ s from Int.pow_pos (by decide))
  exact w64_id ⟨by omega, by omega⟩
theorem lA_low (x : Int) : lA x 4294967295 = x % 4294967296 := lA_mask x 32 (by decide)
theorem lSu_32 (x : Int) : lSu x 32 = (x % 18446744073709551616) / 4294967296 := by
  have e := lSu_w x 32 (by decide)
  have h0 := Int.emod_nonneg x (show (18446744073709551616 : Int) ≠ 0 by decide)
  have h1 := Int.emod_lt_of_pos x (show (0 : Int) < 18446744073709551616 by decide)
  rw [show ((32 : Nat) : Int) = 32 from rfl] at e
  rw [e, show (2 : Int) ^ 32 = 4294967296 from rfl]
  exact w64_id ⟨by omega, by omega⟩
/-- two numbers whose bits don't meet, joined -/
theorem nat_or_add {a b s : Nat} (h : b < 2 ^ s) : (a * 2 ^ s) ||| b = a * 2 ^ s + b := by
  rw [Nat.mul_comm]
  exact (Nat.two_pow_add_eq_or_of_lt h a).symm
theorem iO_add {a b : Int} {s : Nat} (m : Nat) (ha : a % 4294967296 = (m * 2 ^ s : Nat)) (hb0 : 0 ≤ b % 4294967296) (hb : b % 4294967296 < (2 ^ s : Nat)) : iO a b = w32 (a + b) := by
  unfold iO
  rw [i_of_bv]
  have e : (iz a ||| iz b).toBitVec.toNat = (iz a).toBitVec.toNat ||| (iz b).toBitVec.toNat := BitVec.toNat_or _ _
  rw [e, iz_bv, iz_bv, ha, Int.toNat_natCast, nat_or_add (by omega)]
  apply w32_congr
  rw [Int.natCast_add, Int.toNat_of_nonneg hb0, ← ha]
  rw [Int.add_emod, Int.emod_emod_of_dvd _ (Int.dvd_refl _), Int.emod_emod_of_dvd _ (Int.dvd_refl _), ← Int.add_emod]
theorem lO_add {a b : Int} {s : Nat} (m : Nat) (ha : a % 18446744073709551616 = (m * 2 ^ s : Nat)) (hb0 : 0 ≤ b % 18446744073709551616) (hb : b % 18446744073709551616 < (2 ^ s : Nat)) : lO a b = w64 (a + b) := by
  unfold lO
  rw [l_of_bv]
  have e : (lz a ||| lz b).toBitVec.toNat = (lz a).toBitVec.toNat ||| (lz b).toBitVec.toNat := BitVec.toNat_or _ _
  rw [e, lz_bv, lz_bv, ha, Int.toNat_natCast, nat_or_add (by omega)]
  apply w64_congr
  rw [Int.natCast_add, Int.toNat_of_nonneg hb0, ← ha]
  rw [Int.add_emod, Int.emod_emod_of_dvd _ (Int.dvd_refl _), Int.emod_emod_of_dvd _ (Int.dvd_refl _), ← Int.add_emod]
