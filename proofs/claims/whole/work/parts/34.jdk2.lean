/-! TRAILING ZEROS, floorDiv, TEXTS, copyOf -/
theorem nat_tz {t m k : Nat} (hm : m < 2 ^ k) : (2 ^ (t + 1) * (2 ^ k - (m + 1)) + (2 ^ t - 1)) &&& (2 ^ (t + 1) * m + (2 ^ t - 1)) = 2 ^ t - 1 := by
  have hL : 2 ^ t - 1 < 2 ^ (t + 1) := by have := Nat.two_pow_pos t; rw [Nat.pow_succ]; omega
  apply Nat.eq_of_testBit_eq
  intro i
  rw [Nat.testBit_and, Nat.testBit_two_pow_mul_add _ hL, Nat.testBit_two_pow_mul_add _ hL]
  by_cases hi : i < t + 1
  · rw [if_pos hi, if_pos hi, Bool.and_self]
  · rw [if_neg hi, if_neg hi, Nat.testBit_two_pow_sub_succ hm, Nat.testBit_two_pow_sub_one]
    have : ¬ i < t := by omega
    cases (m.testBit (i - (t + 1))) <;> simp [this]
theorem tz_mask {x : Int} {t m : Nat} (ht : t < 32) (hx : x % 4294967296 = (2 ^ t * (2 * m + 1) : Nat)) : iA (iX x (-1)) (w32 (x - 1)) = 2 ^ t - 1 := by
  have hpt := Nat.two_pow_pos t
  have hlt : 2 ^ t * (2 * m + 1) < 4294967296 := by
    have := Int.emod_lt_of_pos x (show (0 : Int) < 4294967296 by decide)
    rw [hx] at this
    omega
  have e32 : 2 ^ (t + 1) * 2 ^ (31 - t) = 4294967296 := by rw [← Nat.pow_add, show t + 1 + (31 - t) = 32 by omega]
  have hm : m < 2 ^ (31 - t) := by
    have h2 : 2 ^ (t + 1) * m < 2 ^ (t + 1) * 2 ^ (31 - t) := by
      rw [e32]
      have : 2 ^ (t + 1) * m = 2 ^ t * (2 * m) := by rw [Nat.pow_succ, Nat.mul_assoc]
      have h3 : 2 ^ t * (2 * m) ≤ 2 ^ t * (2 * m + 1) := Nat.mul_le_mul_left _ (by omega)
      omega
    exact Nat.lt_of_mul_lt_mul_left h2
  have ex : 2 ^ t * (2 * m + 1) = 2 ^ (t + 1) * m + 2 ^ t := by rw [Nat.pow_succ, Nat.mul_add, Nat.mul_one, Nat.mul_assoc]
  unfold iA iX
  rw [i_of_bv]
  have b1 : (iz (iz x ^^^ iz (-1)).toInt).toBitVec.toNat = 2 ^ (t + 1) * (2 ^ (31 - t) - (m + 1)) + (2 ^ t - 1) := by
    rw [iz_self]
    have e : (iz x ^^^ iz (-1)).toBitVec = ~~~ (iz x).toBitVec := by
      show (iz x).toBitVec ^^^ (iz (-1)).toBitVec = _
      rw [show (iz (-1)).toBitVec = BitVec.allOnes 32 by decide]
      exact BitVec.xor_allOnes
    rw [e, BitVec.toNat_not, iz_bv, hx, Int.toNat_natCast, ex, Nat.mul_sub, e32, Nat.mul_add, Nat.mul_one]
    have e2 : 2 ^ (t + 1) = 2 ^ t + 2 ^ t := by rw [Nat.pow_succ]; omega
    have h4 : 2 ^ (t + 1) * m + 2 ^ (t + 1) ≤ 4294967296 := by
      rw [← e32, ← Nat.mul_succ]; exact Nat.mul_le_mul_left _ hm
    show 4294967296 - 1 - _ = _
    omega
  have b2 : (iz (w32 (x - 1))).toBitVec.toNat = 2 ^ (t + 1) * m + (2 ^ t - 1) := by
    rw [iz_w32, iz_bv]
    have : (x - 1) % 4294967296 = ((2 ^ t * (2 * m + 1) - 1 : Nat) : Int) := by
      have h1 : 1 ≤ 2 ^ t * (2 * m + 1) := by rw [ex]; omega
      rw [Int.natCast_sub h1, ← hx]
      have := Int.emod_nonneg x (show (4294967296 : Int) ≠ 0 by decide)
      omega
    rw [this, Int.toNat_natCast, ex]
    omega
  have e3 : (iz (iz x ^^^ iz (-1)).toInt &&& iz (w32 (x - 1))).toBitVec.toNat = 2 ^ t - 1 := by
    have : (iz (iz x ^^^ iz (-1)).toInt &&& iz (w32 (x - 1))).toBitVec.toNat = (iz (iz x ^^^ iz (-1)).toInt).toBitVec.toNat &&& (iz (w32 (x - 1))).toBitVec.toNat := BitVec.toNat_and _ _
    rw [this, b1, b2]
    exact nat_tz hm
  rw [e3, Int.natCast_sub hpt, Int.natCast_pow]
  have := pw_mono (show t ≤ 31 by omega)
  have := pw_pos t
  exact w32_id ⟨by show _ ≤ (2 : Int) ^ t - 1; omega, by show (2 : Int) ^ t - 1 ≤ _; omega⟩
theorem pw_m1_div {t k : Nat} (h : k ≤ t) : ((2 : Int) ^ t - 1) / 2 ^ k = 2 ^ (t - k) - 1 := by
  have e : (2 : Int) ^ t = 2 ^ (t - k) * 2 ^ k := by rw [← Int.pow_add, Nat.sub_add_cancel h]
  have hp := pw_pos k
  rw [e, show (2 : Int) ^ (t - k) * 2 ^ k - 1 = (2 ^ k - 1) + (2 ^ (t - k) - 1) * 2 ^ k by rw [Int.sub_mul]; omega, Int.add_mul_ediv_right _ _ (by omega), Int.ediv_eq_zero_of_lt (by omega) (by omega)]
  omega
theorem sp_ntz {G : xG} {l : Launch} {n : Nat} {h : xH} {x : Int} {t m : Nat} {Po : Int → xH → Prop} (ht : t < 32) (hx : x % 4294967296 = (2 ^ t * (2 * m + 1) : Nat)) (hp : Po (t : Int) h) : S_J6_numberOfTrailingZeros_0f7a4 G l x n h Po := by
  refine S_J6_numberOfTrailingZeros_0f7a4_of (fun k hl C E => ?_)
  have hM := tz_mask ht hx
  have w74 : ∀ (m : Int) (u : Nat), 1 ≤ u → u ≤ 2 → Po (m + u - 1) h → J6_numberOfTrailingZeros_0f7a4_w74 G k (2 ^ u - 1) m n h := by
    intro m u a1 a2 q
    refine J6_numberOfTrailingZeros_0f7a4_b74 C E _ m n h rfl ?_
    match u, a1, a2, q with
    | 1, _, _, q => rw [show iSu (2 ^ 1 - 1) 1 = 0 by decide]; rwa [show m + 0 = m + ((1 : Nat) : Int) - 1 by omega]
    | 2, _, _, q => rw [show iSu (2 ^ 2 - 1) 1 = 1 by decide]; rwa [show m + 1 = m + ((2 : Nat) : Int) - 1 by omega]
  have stage : ∀ (u j : Nat), 1 ≤ u → u ≤ 2 * j → u ≤ 31 → 1 ≤ j → rg ((2 : Int) ^ u - 1) ∧ ((2 : Int) ^ u - 1 ≤ 2 ^ j → u ≤ j) ∧ (¬ (2 : Int) ^ u - 1 ≤ 2 ^ j → j < u ∧ iSu (2 ^ u - 1) j = 2 ^ (u - j) - 1) := by
    intro u j a1 a2 a3 a4
    have h1 := pw_mono (show u ≤ 31 by omega)
    have h2 := pw_pos u
    have h3 := pw_mono a4
    refine ⟨⟨by omega, by omega⟩, fun q => ?_, fun q => ?_⟩
    · rcases Nat.lt_or_ge j u with g | g
      · have := pw_mono (show j + 1 ≤ u by omega)
        rw [Int.pow_succ] at this
        omega
      · exact g
    · have hju : j < u := by
        rcases Nat.lt_or_ge j u with g | g
        · exact g
        · have := pw_mono g; omega
      refine ⟨hju, ?_⟩
      rw [iSu_d (by omega) (by omega) j (by omega)]
      exact pw_m1_div (by omega)
  have w62 : ∀ (m : Int) (u : Nat), 1 ≤ u → u ≤ 4 → Po (m + u - 1) h → J6_numberOfTrailingZeros_0f7a4_w62 G k (2 ^ u - 1) m n h := by
    intro m u a1 a2 q
    obtain ⟨s0, s1, s2⟩ := stage u 2 a1 a2 (by omega) (by omega)
    refine J6_numberOfTrailingZeros_0f7a4_b62 C E _ m n h rfl ⟨⟨s0, by constructor <;> decide⟩, fun g => w74 m u a1 (s1 g) q, fun g => ?_⟩
    obtain ⟨z1, z2⟩ := s2 g
    rw [show iSu ((2 : Int) ^ u - 1) 2 = _ from z2]
    exact w74 _ (u - 2) (by omega) (by omega) (by rwa [show m + 2 + ((u - 2 : Nat) : Int) - 1 = m + u - 1 by omega])
  have w49 : ∀ (m : Int) (u : Nat), 1 ≤ u → u ≤ 8 → Po (m + u - 1) h → J6_numberOfTrailingZeros_0f7a4_w49 G k (2 ^ u - 1) m n h := by
    intro m u a1 a2 q
    obtain ⟨s0, s1, s2⟩ := stage u 4 a1 a2 (by omega) (by omega)
    refine J6_numberOfTrailingZeros_0f7a4_b49 C E _ m n h rfl ⟨⟨s0, by constructor <;> decide⟩, fun g => w62 m u a1 (s1 g) q, fun g => ?_⟩
    obtain ⟨z1, z2⟩ := s2 g
    rw [show iSu ((2 : Int) ^ u - 1) 4 = _ from z2]
    exact w62 _ (u - 4) (by omega) (by omega) (by rwa [show m + 4 + ((u - 4 : Nat) : Int) - 1 = m + u - 1 by omega])
  have w34 : ∀ (m : Int) (u : Nat), 1 ≤ u → u ≤ 16 → Po (m + u - 1) h → J6_numberOfTrailingZeros_0f7a4_w34 G k (2 ^ u - 1) m n h := by
    intro m u a1 a2 q
    obtain ⟨s0, s1, s2⟩ := stage u 8 a1 a2 (by omega) (by omega)
    refine J6_numberOfTrailingZeros_0f7a4_b34 C E _ m n h rfl ⟨⟨s0, by constructor <;> decide⟩, fun g => w49 m u a1 (s1 g) q, fun g => ?_⟩
    obtain ⟨z1, z2⟩ := s2 g
    rw [show iSu ((2 : Int) ^ u - 1) 8 = _ from z2]
    exact w49 _ (u - 8) (by omega) (by omega) (by rwa [show m + 8 + ((u - 8 : Nat) : Int) - 1 = m + u - 1 by omega])
  have hb := J6_numberOfTrailingZeros_0f7a4_b0 C E x n h rfl
  rw [hM] at hb
  refine hb ?_
  have h1 := pw_mono (show t ≤ 31 by omega)
  have h2 := pw_pos t
  refine ⟨⟨by omega, by omega⟩, fun c => ?_, fun c => ?_⟩
  · have ht1 : 1 ≤ t := by
      rcases Nat.eq_zero_or_pos t with e | e
      · subst e; simp at c
      · exact e
    obtain ⟨s0, s1, s2⟩ := stage t 16 ht1 (by omega) (by omega) (by omega)
    refine ⟨⟨s0, by constructor <;> decide⟩, fun g => w34 1 t ht1 (s1 g) (by rwa [show (1 : Int) + t - 1 = t by omega]), fun g => ?_⟩
    obtain ⟨z1, z2⟩ := s2 g
    rw [show iSu ((2 : Int) ^ t - 1) 16 = _ from z2]
    exact w34 _ (t - 16) (by omega) (by omega) (by rwa [show (1 : Int) + 16 + ((t - 16 : Nat) : Int) - 1 = t by omega])
  · have ht0 : t = 0 := by
      rcases Nat.eq_zero_or_pos t with e | e
      · exact e
      · have := pw_mono e; rw [Int.pow_succ] at this; simp at this; omega
    subst ht0
    rw [show iA (2 ^ 0 - 1) 32 = ((0 : Nat) : Int) by decide]
    exact hp
theorem sp_ntzL {G : xG} {l : Launch} {n : Nat} {h : xH} {x : Int} {t m : Nat} {Po : Int → xH → Prop} (ht : t < 64) (hx : x % 18446744073709551616 = (2 ^ t * (2 * m + 1) : Nat)) (hp : Po (t : Int) h) : S_J13_numberOfTrailingZeros_95d88 G l x n h Po := by
  refine S_J13_numberOfTrailingZeros_95d88_of (fun k hl C E => ?_)
  have e1 : w32 (lSu x 32) % 4294967296 = x % 18446744073709551616 / 4294967296 := by rw [w32_emod, lSu_32]; omega
  have e2 : w32 x % 4294967296 = x % 18446744073709551616 % 4294967296 := by rw [w32_emod]; omega
  have hr := rg_w32 x
  have hz := rg_mod0 hr
  refine J13_numberOfTrailingZeros_95d88_b0 C E x n h rfl ⟨hr, fun c => ?_, fun c => ?_⟩
  · have ht2 : t < 32 := by
      rcases Nat.lt_or_ge t 32 with g | g
      · exact g
      · exfalso
        apply c
        apply hz.mp
        rw [e2, hx]
        have : 2 ^ t * (2 * m + 1) = 4294967296 * (2 ^ (t - 32) * (2 * m + 1)) := by
          rw [← Nat.mul_assoc, show (4294967296 : Nat) = 2 ^ 32 from rfl, ← Nat.pow_add, show 32 + (t - 32) = t by omega]
        rw [this]
        omega
    have e3 : ∃ m', 2 ^ t * (2 * m + 1) % 4294967296 = 2 ^ t * (2 * m' + 1) := by
      refine ⟨m % 2 ^ (31 - t), ?_⟩
      have h32 : (4294967296 : Nat) = 2 ^ t * 2 ^ (32 - t) := by rw [← Nat.pow_add, show t + (32 - t) = 32 by omega]
      rw [h32, Nat.mul_mod_mul_left]
      congr 1
      have h31 : 2 ^ (32 - t) = 2 * 2 ^ (31 - t) := by rw [show 32 - t = (31 - t) + 1 by omega, Nat.pow_succ]; omega
      rw [h31]
      have hp1 := Nat.two_pow_pos (31 - t)
      have := Nat.div_add_mod m (2 ^ (31 - t))
      have hlt := Nat.mod_lt m hp1
      rw [show 2 * m + 1 = (2 * (m % 2 ^ (31 - t)) + 1) + (2 * 2 ^ (31 - t)) * (m / 2 ^ (31 - t)) by rw [Nat.mul_assoc]; omega, Nat.add_mul_mod_self_left, Nat.mod_eq_of_lt (by omega)]
    obtain ⟨m', hm'⟩ := e3
    refine sp_ntz ht2 (m := m') (by rw [e2, hx, ← hm']; omega) ?_
    exact J13_numberOfTrailingZeros_95d88_b25 C E _ n h rfl hp
  · have c' : x % 18446744073709551616 % 4294967296 = 0 := by rw [← e2]; exact hz.mpr c
    have ht2 : 32 ≤ t := by
      rcases Nat.lt_or_ge t 32 with g | g
      · exfalso
        rw [hx] at c'
        have c2 : (2 ^ t * (2 * m + 1)) % 4294967296 = 0 := by omega
        have h32 : (4294967296 : Nat) = 2 ^ t * (2 * 2 ^ (31 - t)) := by
          rw [show 2 * 2 ^ (31 - t) = 2 ^ (32 - t) by rw [show 32 - t = (31 - t) + 1 by omega, Nat.pow_succ]; omega, ← Nat.pow_add, show t + (32 - t) = 32 by omega]
        rw [h32, Nat.mul_mod_mul_left] at c2
        have hpt := Nat.two_pow_pos t
        rcases Nat.mul_eq_zero.mp c2 with q | q
        · omega
        · have := Nat.div_add_mod (2 * m + 1) (2 * 2 ^ (31 - t))
          rw [q, Nat.mul_assoc] at this
          omega
      · exact g
    refine sp_ntz (t := t - 32) (m := m) (by omega) ?_ ?_
    · rw [e1, hx]
      have : 2 ^ t * (2 * m + 1) = 4294967296 * (2 ^ (t - 32) * (2 * m + 1)) := by
        rw [← Nat.mul_assoc, show (4294967296 : Nat) = 2 ^ 32 from rfl, ← Nat.pow_add, show 32 + (t - 32) = t by omega]
      rw [this]
      omega
    · refine J13_numberOfTrailingZeros_95d88_b25 C E _ n h rfl ?_
      rwa [show (32 : Int) + ((t - 32 : Nat) : Int) = t by omega]
theorem iX_sign {x y : Int} (hx : rg x) (hy : 0 ≤ y) (hy2 : y ≤ 2147483647) : 0 ≤ iX x y ↔ 0 ≤ x := by
  have hx1 := hx.1
  have hx2 := hx.2
  have key : ∀ z : Int32, 0 ≤ z.toInt ↔ z.toBitVec.msb = false := by
    intro z
    rw [← Int32.toInt_toBitVec, BitVec.msb_eq_toInt]
    simp
  unfold iX
  rw [key]
  show ((iz x).toBitVec ^^^ (iz y).toBitVec).msb = false ↔ _
  have h2 : (iz y).toBitVec.msb = false := (key _).mp (by rw [iz_toInt ⟨by omega, hy2⟩]; exact hy)
  rw [BitVec.msb_xor, h2, Bool.xor_false, ← key, iz_toInt hx]
theorem sp_floorDiv {G : xG} {l : Launch} {n : Nat} {h : xH} {x y : Int} {Po : Int → xH → Prop} (hx : rg x) (hy : 0 < y) (hy2 : y ≤ 2147483647) (hp : Po (x / y) h) : S_J9_floorDiv_7cf53 G l x y n h Po := by
  refine S_J9_floorDiv_7cf53_of (fun k hl C E => ?_)
  have hx1 := hx.1
  have hx2 := hx.2
  have w21 : ∀ z, Po z h → J9_floorDiv_7cf53_w21 G k z n h := fun z q => J9_floorDiv_7cf53_b21 C E z n h rfl q
  have hs := iX_sign hx (by omega) hy2
  refine J9_floorDiv_7cf53_b0 C E x y n h rfl ⟨⟨hx, ⟨by omega, hy2⟩, by omega⟩, rg_toInt _, fun c => w21 _ ?_, fun c => ?_⟩
  · have := hs.mp c
    rwa [Int.tdiv_eq_ediv_of_nonneg this]
  · have hneg : x < 0 := by
      rcases Int.lt_or_le x 0 with q | q
      · exact q
      · exact absurd (hs.mpr q) c
    obtain ⟨m, hm⟩ := ex_nat (show 0 ≤ -x by omega)
    have ex : x = -(m : Int) := by omega
    have et : x.tdiv y = -((m : Int) / y) := by rw [ex, Int.neg_tdiv, Int.tdiv_eq_ediv_of_nonneg (by omega)]
    have hdm := Int.mul_ediv_add_emod (m : Int) y
    have h0 := Int.emod_nonneg (m : Int) (show y ≠ 0 by omega)
    have h1 := Int.emod_lt_of_pos (m : Int) hy
    have hq0 : 0 ≤ (m : Int) / y := Int.ediv_nonneg (by omega) (by omega)
    have hmul : x.tdiv y * y = -(y * ((m : Int) / y)) := by rw [et, Int.neg_mul, Int.mul_comm]
    have hpos : 0 ≤ y * ((m : Int) / y) := Int.mul_nonneg (by omega) hq0
    refine ⟨⟨by rw [hmul]; exact ⟨by omega, by omega⟩, hx⟩, fun c2 => w21 _ ?_, fun c2 => ?_⟩
    · rw [hmul] at c2
      have e : x / y = x.tdiv y := by
        rw [et]
        have : x = y * (-((m : Int) / y)) := by rw [Int.mul_neg]; omega
        rw [this, Int.mul_ediv_cancel_left _ (by omega)]
      rwa [← e]
    · rw [hmul] at c2
      have e : x / y = x.tdiv y - 1 := by
        rw [et]
        have e3 : x = (y - (m : Int) % y) + y * (-((m : Int) / y) - 1) := by
          rw [Int.mul_sub, Int.mul_neg]; omega
        have hr : (m : Int) % y ≠ 0 := by omega
        rw [e3, Int.add_mul_ediv_left _ _ (by omega), Int.ediv_eq_zero_of_lt (by omega) (by omega)]
        omega
      rwa [← e]
