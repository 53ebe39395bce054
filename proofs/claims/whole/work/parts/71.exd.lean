/-! THE NUMBER: exact decimals -/
theorem five_pos (t : Nat) : (0 : Int) < ((5 ^ t : Nat) : Int) := by
  have : 0 < 5 ^ t := Nat.pow_pos (by decide)
  exact Int.natCast_pos.mpr this
theorem pow_root {x y m : Nat} (hm : m ≠ 0) (h : x ^ m ≤ y ^ m) : x ≤ y := by
  rcases Nat.lt_or_ge y x with g | g
  · have := Nat.pow_lt_pow_left g hm
    omega
  · exact g
theorem k3321 : (2 : Nat) ^ 3321 ≤ 10 ^ 1000 := by decide +kernel
theorem k3322 : (10 : Nat) ^ 1000 ≤ 2 ^ 3322 := by decide +kernel
theorem k1765 : (2 : Nat) ^ 4096 ≤ 5 ^ 1765 := by decide +kernel
theorem k1764 : (5 : Nat) ^ 1764 < 2 ^ 4096 := by decide +kernel
theorem ten_lo {k t : Nat} (h : 1000 * k ≤ 3321 * t) : 2 ^ k ≤ 10 ^ t := by
  refine pow_root (m := 1000) (by decide) ?_
  rw [← Nat.pow_mul, ← Nat.pow_mul, Nat.mul_comm k, Nat.mul_comm t, Nat.pow_mul 10]
  refine Nat.le_trans (Nat.pow_le_pow_right (by decide) h) ?_
  rw [Nat.pow_mul]
  exact Nat.pow_le_pow_left k3321 t
theorem ten_hi {k t : Nat} (h : 3322 * t ≤ 1000 * k) : 10 ^ t ≤ 2 ^ k := by
  refine pow_root (m := 1000) (by decide) ?_
  rw [← Nat.pow_mul, ← Nat.pow_mul, Nat.mul_comm k, Nat.mul_comm t, Nat.pow_mul 10]
  refine Nat.le_trans (Nat.pow_le_pow_left k3322 t) ?_
  rw [← Nat.pow_mul]
  exact Nat.pow_le_pow_right (by decide) h
theorem bl_ge {v : Int} {t : Nat} (h : 2 ^ t ≤ v) : (t : Int) < bl v := by
  have hp := pw_pos t
  obtain ⟨s, b1, b2, b3⟩ := bl_pw (show 0 < v by omega)
  have := pw_lt_of h b3
  omega
theorem sp_mulTens {G : xG} {l : Launch} {n : Nat} {h : xH} {kd mn un pl v : Int} {tn : Nat} {Po : Int → xH → Prop} (t : isD n h kd mn un pl) (qv : isN n h 6 v) (hv : 0 < v) (hvb : v < 2 ^ 1600) (ht : tn ≤ 12000) (hy : ∀ h', hE (sN 6) h h' → isN n h' 6 (v * 10 ^ tn) → bl (v * 10 ^ tn) ≤ 4096 → Po 1 h') (hn : ∀ h' v', hE (sN 6) h h' → isN n h' 6 v' → 4096 < bl (v * 10 ^ tn) → Po 0 h') : S_X4_multiplyByTens G l 0 tn n h Po := by
  refine S_X4_multiplyByTens_of (fun k hl C E => X4_multiplyByTens_b0 C E 0 tn n h rfl ?_)
  obtain ⟨s, b1, b2, b3⟩ := bl_pw hv
  have b4 := bl_le hvb
  rw [t.f7]
  refine ⟨t.ok, by decide, qv.1.ok, sp_bitLength qv ?_⟩
  rw [b1, Int.tdiv_eq_ediv_of_nonneg (by omega)]
  obtain ⟨kk, hk⟩ : ∃ kk : Nat, (tn : Int) * 3321 / 1000 = (kk : Int) := ⟨tn * 3321 / 1000, by omega⟩
  rw [hk]
  have T10 : ∀ j : Nat, ((10 ^ j : Nat) : Int) = (10 : Int) ^ j := fun j => by rw [Int.natCast_pow]; rfl
  have T2 : ∀ j : Nat, ((2 ^ j : Nat) : Int) = (2 : Int) ^ j := fun j => by rw [Int.natCast_pow]; rfl
  refine ⟨⟨⟨by omega, by omega⟩, rgS (by decide) (by decide), by decide⟩, ⟨rgS (by omega) (by omega), rgS (by decide) (by decide)⟩, fun g => ?_, fun g => ⟨Or.inl rfl, hn h v hE.rf qv ?_⟩⟩
  · have h1 := ten_hi (k := kk + 8) (t := tn) (by omega)
    have h1' : (10 : Int) ^ tn ≤ 2 ^ (kk + 8) := by rw [← T10, ← T2]; omega
    have h2 : v * 10 ^ tn < 2 ^ (s + 1) * 2 ^ (kk + 8) := Int.mul_lt_mul b3 h1' (t_pos _) (Int.le_of_lt (pw_pos _))
    rw [pw2] at h2
    have h3 : v * 10 ^ tn < 2 ^ 4200 := by have := pw_mono (show s + 1 + (kk + 8) ≤ 4200 by omega); omega
    have e52 : v * 10 ^ tn = v * ((5 ^ tn : Nat) : Int) * 2 ^ tn := by rw [ten_52, Int.mul_assoc]
    have f0 : 0 < v * ((5 ^ tn : Nat) : Int) := Int.mul_pos hv (five_pos tn)
    have h4 : v * ((5 ^ tn : Nat) : Int) < 2 ^ 4200 := by
      have := Int.mul_le_mul_of_nonneg_left (show (1 : Int) ≤ 2 ^ tn by have := pw_pos tn; omega) (Int.le_of_lt f0)
      omega
    rw [t.f7]
    refine ⟨t.ok, by decide, qv.1.ok, sp_mulFives qv (by omega) (fit132 h4 (by decide)) (fun h1 e1 q1 => ?_)⟩
    have t1 := t.mv e1 (by decide)
    rw [t1.f7]
    have hbl : bl (v * ((5 ^ tn : Nat) : Int)) + (tn : Int) ≤ 4224 := by
      obtain ⟨r, c1, c2, c3⟩ := bl_pw f0
      have : (2 : Int) ^ (r + tn) ≤ v * ((5 ^ tn : Nat) : Int) * 2 ^ tn := by rw [← pw2]; exact Int.mul_le_mul_of_nonneg_right c2 (Int.le_of_lt (pw_pos _))
      have := pw_lt_of this (by rw [← e52]; exact h3)
      omega
    refine ⟨t1.ok, by decide, q1.1.ok, sp_shl q1 (rg_nat (by omega)) (fun _ => hbl) (fun h2 e2 q2 => ?_)⟩
    rw [Int.toNat_natCast, ← e52] at q2
    have t2 := t1.mv e2 (by decide)
    rw [t2.f7]
    have b5 := bl_le h3
    have b6 : 0 ≤ bl (v * 10 ^ tn) := by unfold bl; split <;> omega
    refine ⟨t2.ok, by decide, q2.1.ok, sp_bitLength q2 ⟨⟨rgS (by omega) (by omega), rgS (by decide) (by decide)⟩, fun g2 => X4_multiplyByTens_b61 C E 0 n h2 rfl ⟨Or.inl rfl, hn h2 _ (e1.tr e2) q2 g2⟩, fun g2 => X4_multiplyByTens_b61 C E 1 n h2 rfl ⟨Or.inr rfl, hy h2 (e1.tr e2) q2 (by omega)⟩⟩⟩
  · have h1 := ten_lo (k := kk) (t := tn) (by omega)
    have h1' : (2 : Int) ^ kk ≤ 10 ^ tn := by rw [← T10, ← T2]; omega
    have h2 : (2 : Int) ^ s * 2 ^ kk ≤ v * 10 ^ tn := Int.mul_le_mul b2 h1' (Int.le_of_lt (pw_pos _)) (by omega)
    rw [pw2] at h2
    have := bl_ge h2
    omega
