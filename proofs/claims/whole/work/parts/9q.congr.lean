/-! WHAT THE RATIO ALONE DECIDES -/
theorem nr_congr {N D N' D' e m : Int} (hD : 0 < D) (hD' : 0 < D') (h : N * D' = N' * D) (hn : nrR N D e m) : nrR N' D' e m := by
  obtain ⟨he, f, r, h1, h2, h3, h4, h5, h6, h7⟩ := hn
  have hB : 0 < D * 2 ^ e.toNat := Int.mul_pos hD (pw_pos _)
  have hP : 0 < D' * 2 ^ e.toNat := Int.mul_pos hD' (pw_pos _)
  have hr : N' * 2 ^ (-e).toNat * (D * 2 ^ e.toNat) = N * 2 ^ (-e).toNat * (D' * 2 ^ e.toNat) := by
    have : N' * 2 ^ (-e).toNat * (D * 2 ^ e.toNat) = N' * D * (2 ^ (-e).toNat * 2 ^ e.toNat) := by grind
    rw [this, ← h]; grind
  obtain ⟨c1, c2, c3⟩ := nr_core (N := N' * 2 ^ (-e).toNat) (D := D' * 2 ^ e.toNat) (A := N * 2 ^ (-e).toNat) (B := D * 2 ^ e.toNat) (f := f) (ra := r) hP hB hr h1 h2 h3
  obtain ⟨g1, g2⟩ := cmp_gen (r := N' * 2 ^ (-e).toNat - f * (D' * 2 ^ e.toNat)) (s := r) (P := D' * 2 ^ e.toNat) (B := D * 2 ^ e.toNat) hB hP c3
  refine ⟨he, f, N' * 2 ^ (-e).toNat - f * (D' * 2 ^ e.toNat), by omega, c1, c2, h4, h5, h6, ?_⟩
  rw [g1, g2]
  exact h7
theorem nr_u {N D e m e' m' : Int} (hD : 0 < D) (h : nrR N D e m) (h' : nrR N D e' m') : e = e' ∧ m = m' := by
  have key : ∀ {e m e' m' : Int}, nrR N D e m → nrR N D e' m' → e ≤ e' → e = e' ∧ m = m' := by
    intro e m e' m' h h' hle
    obtain ⟨he, f, r, h1, h2, h3, h4, h5, h6, h7⟩ := h
    obtain ⟨he', f', r', k1, k2, k3, k4, k5, k6, k7⟩ := h'
    rcases Int.lt_or_eq_of_le hle with g | g
    · exfalso
      have hf' : 4503599627370496 ≤ f' := by omega
      -- N * 2^(-e) >= 2^53 * D * 2^e
      have hB : 0 < D * 2 ^ e.toNat := Int.mul_pos hD (pw_pos _)
      have hB' : 0 < D * 2 ^ e'.toNat := Int.mul_pos hD (pw_pos _)
      have a1 : 4503599627370496 * (D * 2 ^ e'.toNat) ≤ N * 2 ^ (-e').toNat := by
        have := Int.mul_le_mul_of_nonneg_right hf' (Int.le_of_lt hB')
        omega
      have a2 : N * 2 ^ (-e).toNat < 9007199254740992 * (D * 2 ^ e.toNat) := by
        have := Int.mul_le_mul_of_nonneg_right (show f + 1 ≤ 9007199254740992 by omega) (Int.le_of_lt hB)
        rw [Int.add_mul, Int.one_mul] at this
        omega
      have s1 : (2 : Int) ^ (-e).toNat * 2 ^ e'.toNat = 2 ^ (-e').toNat * 2 ^ e.toNat * 2 ^ (e' - e).toNat := by
        rw [← Int.pow_add, ← Int.pow_add, ← Int.pow_add]
        congr 1
        omega
      have p1 := pw_pos (-e).toNat
      have p2 := pw_pos e.toNat
      have p3 := pw_pos e'.toNat
      have p4 := pw_pos (-e').toNat
      have q2 : (2 : Int) ≤ 2 ^ (e' - e).toNat := by
        have := pw_mono (a := 1) (b := (e' - e).toNat) (by omega)
        rwa [Int.pow_one] at this
      have b1 := Int.mul_le_mul_of_nonneg_right a1 (Int.le_of_lt p1)
      have b2 := Int.mul_lt_mul_of_pos_right a2 p4
      have e1 : N * 2 ^ (-e').toNat * 2 ^ (-e).toNat = N * 2 ^ (-e).toNat * 2 ^ (-e').toNat := by grind
      have e2 : 4503599627370496 * (D * 2 ^ e'.toNat) * 2 ^ (-e).toNat = 4503599627370496 * D * (2 ^ (-e).toNat * 2 ^ e'.toNat) := by grind
      have e3 : 9007199254740992 * (D * 2 ^ e.toNat) * 2 ^ (-e').toNat = 9007199254740992 * D * (2 ^ (-e').toNat * 2 ^ e.toNat) := by grind
      rw [e2, s1] at b1
      rw [e3] at b2
      have hX : 0 < D * (2 ^ (-e').toNat * 2 ^ e.toNat) := Int.mul_pos hD (Int.mul_pos p4 p2)
      have b3 := Int.mul_le_mul_of_nonneg_left q2 (Int.le_of_lt hX)
      have e4 : 4503599627370496 * D * (2 ^ (-e').toNat * 2 ^ e.toNat * 2 ^ (e' - e).toNat) = 4503599627370496 * (D * (2 ^ (-e').toNat * 2 ^ e.toNat) * 2 ^ (e' - e).toNat) := by grind
      have e5 : 9007199254740992 * D * (2 ^ (-e').toNat * 2 ^ e.toNat) = 9007199254740992 * (D * (2 ^ (-e').toNat * 2 ^ e.toNat)) := by grind
      omega
    · subst g
      refine ⟨rfl, ?_⟩
      have hB : 0 < D * 2 ^ e.toNat := Int.mul_pos hD (pw_pos _)
      have hf : f = f' := by
        have d1 : N * 2 ^ (-e).toNat / (D * 2 ^ e.toNat) = f := by
          rw [h1, Int.add_comm, Int.add_mul_ediv_right _ _ (by omega), Int.ediv_eq_zero_of_lt h2 h3, Int.zero_add]
        have d2 : N * 2 ^ (-e).toNat / (D * 2 ^ e.toNat) = f' := by
          rw [k1, Int.add_comm, Int.add_mul_ediv_right _ _ (by omega), Int.ediv_eq_zero_of_lt k2 k3, Int.zero_add]
        omega
      subst hf
      have hr : r = r' := by omega
      subst hr
      rcases h7 with ⟨a1, a2⟩ | ⟨a1, a2⟩ <;> rcases k7 with ⟨b1, b2⟩ | ⟨b1, b2⟩
      · omega
      · exact absurd a2 b2
      · exact absurd b2 a2
      · omega
  rcases Int.le_total e e' with g | g
  · exact key h h' g
  · have := key h' h g
    exact ⟨this.1.symm, this.2.symm⟩
theorem low_congr {v w v' w' V W : Int} (hw : 0 < w) (hw' : 0 < w') (hv' : 0 ≤ v') (h : v * w' = v' * w) (hl : lowR v w V W) : lowR v' w' V W := by
  obtain ⟨a, b, d, rfl, rfl, rfl, hwd, hg, hb⟩ := hl
  obtain ⟨x, rfl⟩ : ∃ x : Nat, v' = (x : Int) := ⟨v'.toNat, by omega⟩
  obtain ⟨y, rfl⟩ : ∃ y : Nat, w' = (y : Int) := ⟨w'.toNat, by omega⟩
  rw [hwd] at h
  have h2 : a * d * y = x * (b * d) := by exact_mod_cast h
  rcases Nat.eq_zero_or_pos d with hd | hd
  · subst hd
    rw [Nat.mul_zero] at hwd
    rw [hwd] at hw
    exact absurd hw (by decide)
  · have h3 : a * y = x * b := by
      apply Nat.eq_of_mul_eq_mul_right hd
      calc a * y * d = a * d * y := by grind
        _ = x * (b * d) := h2
        _ = x * b * d := by grind
    have hdvd : b ∣ y := by
      have : b ∣ a * y := ⟨x, by rw [h3, Nat.mul_comm]⟩
      exact Nat.Coprime.dvd_of_dvd_mul_left (show Nat.Coprime b a by rw [Nat.coprime_comm]; exact hg) this
    obtain ⟨c, rfl⟩ := hdvd
    refine ⟨a, b, c, rfl, rfl, ?_, rfl, hg, hb⟩
    congr 1
    apply Nat.eq_of_mul_eq_mul_right hb
    rw [← h3]; grind
theorem low_u {v w V W V' W' : Int} (hw : 0 < w) (h : lowR v w V W) (h' : lowR v w V' W') : V = V' ∧ W = W' := by
  obtain ⟨a, b, d, rfl, rfl, rfl, hwd, hg, hb⟩ := h
  obtain ⟨a', b', d', rfl, rfl, hvd', hwd', hg', hb'⟩ := h'
  have e1 : a * d = a' * d' := by exact_mod_cast hvd'
  have e2 : b * d = b' * d' := by rw [hwd] at hwd'; exact_mod_cast hwd'
  have hd : 0 < d := by
    rcases Nat.eq_zero_or_pos d with z | z
    · rw [z, Nat.mul_zero] at hwd; rw [hwd] at hw; exact absurd hw (by decide)
    · exact z
  have hd' : 0 < d' := by
    rcases Nat.eq_zero_or_pos d' with z | z
    · rw [z, Nat.mul_zero] at hwd'; rw [hwd'] at hw; exact absurd hw (by decide)
    · exact z
  have hdd : d = d' := by
    have g1 : Nat.gcd (a * d) (b * d) = d := by rw [Nat.gcd_mul_right, hg, Nat.one_mul]
    have g2 : Nat.gcd (a' * d') (b' * d') = d' := by rw [Nat.gcd_mul_right, hg', Nat.one_mul]
    rw [← g1, e1, e2, g2]
  subst hdd
  exact ⟨by rw [Nat.eq_of_mul_eq_mul_right hd e1], by rw [Nat.eq_of_mul_eq_mul_right hd e2]⟩
