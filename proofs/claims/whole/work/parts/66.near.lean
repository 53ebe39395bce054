/-! THE NUMBER: the nearest double -/
/-- m * 2^e is N / D rounded to the double's precision -/
def nrR (N D e m : Int) : Prop := -1074 ≤ e ∧ ∃ f r : Int, N * 2 ^ (-e).toNat = f * (D * 2 ^ e.toNat) + r ∧ 0 ≤ r ∧ r < D * 2 ^ e.toNat ∧ 0 ≤ f ∧ f < 9007199254740992 ∧ (4503599627370496 ≤ f ∨ e = -1074) ∧ (m = f + 1 ∧ (D * 2 ^ e.toNat < 2 * r ∨ (2 * r = D * 2 ^ e.toNat ∧ f % 2 = 1)) ∨ m = f ∧ ¬ (D * 2 ^ e.toNat < 2 * r ∨ (2 * r = D * 2 ^ e.toNat ∧ f % 2 = 1)))
theorem nr_core {N D A B f ra : Int} (hD : 0 < D) (hB : 0 < B) (hr : N * B = A * D) (hA : A = f * B + ra) (h0 : 0 ≤ ra) (h1 : ra < B) : 0 ≤ N - f * D ∧ N - f * D < D ∧ (N - f * D) * B = ra * D := by
  have e : (N - f * D) * B = ra * D := by rw [Int.sub_mul, hr, hA, Int.add_mul]; grind
  refine ⟨?_, ?_, e⟩
  · rcases Int.lt_or_le (N - f * D) 0 with g | g
    · have := Int.mul_neg_of_neg_of_pos g hB
      have := Int.mul_nonneg h0 (Int.le_of_lt hD)
      omega
    · exact g
  · rcases Int.lt_or_le (N - f * D) D with g | g
    · exact g
    · have h2 := Int.mul_le_mul_of_nonneg_right g (Int.le_of_lt hB)
      have h3 := Int.mul_lt_mul_of_pos_right h1 hD
      rw [Int.mul_comm D B] at h2
      omega
theorem bl_pw {v : Int} (h : 0 < v) : ∃ t : Nat, bl v = (t : Int) + 1 ∧ 2 ^ t ≤ v ∧ v < 2 ^ (t + 1) := by
  obtain ⟨t, t1, t2⟩ := ex_bits h
  exact ⟨t, bl_of t1 t2, t1, t2⟩
theorem nr_big {N D : Int} (hD : 0 < D) (h : D * 2 ^ 1024 ≤ N) : ∃ e m, nrR N D e m ∧ 971 < e := by
  have hg : 2 ^ 1024 ≤ N / D := Int.le_ediv_of_mul_le hD (by rw [Int.mul_comm]; exact h)
  obtain ⟨t, t1, t2⟩ := ex_bits (show 0 < N / D by have := pw_pos 1024; omega)
  have ht : 1024 ≤ t := by
    rcases Nat.lt_or_ge t 1024 with g | g
    · have := pw_mono (show t + 1 ≤ 1024 by omega)
      omega
    · exact g
  obtain ⟨e, rfl⟩ : ∃ e, t = e + 52 := ⟨t - 52, by omega⟩
  have hE := pw_pos e
  have hDE : 0 < D * 2 ^ e := Int.mul_pos hD hE
  have r0 := Int.emod_nonneg N (show D * 2 ^ e ≠ 0 by omega)
  have r1 := Int.emod_lt_of_pos N hDE
  have hdv : N / (D * 2 ^ e) = N / D / 2 ^ e := (Int.ediv_ediv_of_nonneg (Int.le_of_lt hD)).symm
  have f1 : 4503599627370496 ≤ N / (D * 2 ^ e) := by
    rw [hdv]
    refine Int.le_ediv_of_mul_le hE ?_
    rw [show (4503599627370496 : Int) = 2 ^ 52 by decide, Int.mul_comm, ← Int.pow_add]
    exact t1
  have f2 : N / (D * 2 ^ e) < 9007199254740992 := by
    rw [hdv]
    refine Int.ediv_lt_of_lt_mul hE ?_
    rw [show (9007199254740992 : Int) = 2 ^ 53 by decide, Int.mul_comm, ← Int.pow_add]
    exact t2
  have dec : N * 2 ^ (-(e : Int)).toNat = N / (D * 2 ^ e) * (D * 2 ^ (e : Int).toNat) + N % (D * 2 ^ e) := by
    rw [show (-(e : Int)).toNat = 0 by omega, Int.toNat_natCast, Int.pow_zero, Int.mul_one]
    have := Int.emod_add_ediv_mul N (D * 2 ^ e)
    omega
  by_cases c : D * 2 ^ e < 2 * (N % (D * 2 ^ e)) ∨ (2 * (N % (D * 2 ^ e)) = D * 2 ^ e ∧ N / (D * 2 ^ e) % 2 = 1)
  · exact ⟨e, _, ⟨by omega, _, _, dec, r0, r1, by omega, f2, Or.inl f1, Or.inl ⟨rfl, c⟩⟩, by omega⟩
  · exact ⟨e, _, ⟨by omega, _, _, dec, r0, r1, by omega, f2, Or.inl f1, Or.inr ⟨rfl, c⟩⟩, by omega⟩
theorem cmp_gen {r s P B : Int} (hB : 0 < B) (hP : 0 < P) (k : r * B = s * P) : (P < 2 * r ↔ B < 2 * s) ∧ (2 * r = P ↔ 2 * s = B) := by
  have e1 : 2 * r * B = 2 * s * P := by rw [Int.mul_assoc, Int.mul_assoc, k]
  have c := Int.mul_comm P B
  refine ⟨⟨fun z => ?_, fun z => ?_⟩, ⟨fun z => ?_, fun z => ?_⟩⟩
  · have h1 := Int.mul_lt_mul_of_pos_right z hB
    rcases Int.lt_or_le B (2 * s) with y | y
    · exact y
    · have := Int.mul_le_mul_of_nonneg_right y (Int.le_of_lt hP)
      omega
  · have h1 := Int.mul_lt_mul_of_pos_right z hP
    rcases Int.lt_or_le P (2 * r) with y | y
    · exact y
    · have := Int.mul_le_mul_of_nonneg_right y (Int.le_of_lt hB)
      omega
  · have h1 : 2 * r * B = P * B := by rw [z]
    exact Int.eq_of_mul_eq_mul_right (show P ≠ 0 by omega) (by omega)
  · have h1 : 2 * s * P = B * P := by rw [z]
    exact Int.eq_of_mul_eq_mul_right (show B ≠ 0 by omega) (by omega)
/-- rounding a quotient of one or two bits more -/
theorem nr_of {N D V W q v x Dx e m : Int} {c : Nat} (hD : 0 < D) (hW : 0 < W) (hx : x = 1 ∧ Dx = 2 ∧ q < 18014398509481984 ∨ x = 2 ∧ Dx = 4 ∧ 18014398509481984 ≤ q) (hq : V * 2 ^ c = 2 * W * q + v) (v0 : 0 ≤ v) (v1 : v < 2 * W) (q0 : 0 ≤ q) (q1 : q < 36028797018963968) (he : -1074 ≤ e) (hlow : 9007199254740992 ≤ q ∨ x = 1 ∧ e = -1074 ∨ x = 2) (hr : (N * 2 ^ (-e).toNat) * (2 * W * Dx) = (V * 2 ^ c) * (D * 2 ^ e.toNat)) (hm : m = q / Dx + 1 ∧ (Dx < 2 * (q % Dx) ∨ (2 * (q % Dx) = Dx ∧ (q / Dx % 2 = 1 ∨ v ≠ 0))) ∨ m = q / Dx ∧ ¬ (Dx < 2 * (q % Dx) ∨ (2 * (q % Dx) = Dx ∧ (q / Dx % 2 = 1 ∨ v ≠ 0)))) : nrR N D e m := by
  have hDx : Dx = 2 ∨ Dx = 4 := by omega
  have hDE : 0 < D * 2 ^ e.toNat := Int.mul_pos hD (pw_pos _)
  have hB : 0 < 2 * W * Dx := by rcases hDx with z | z <;> subst z <;> omega
  have c0 : 0 ≤ q % Dx ∧ q % Dx < Dx ∧ q = Dx * (q / Dx) + q % Dx := by rcases hDx with z | z <;> subst z <;> omega
  have hA : V * 2 ^ c = (q / Dx) * (2 * W * Dx) + ((q % Dx) * (2 * W) + v) := by
    rw [hq]
    have := c0.2.2
    generalize q / Dx = a at this ⊢
    generalize q % Dx = b at this ⊢
    subst this
    grind
  have ra0 : 0 ≤ (q % Dx) * (2 * W) + v := by have := Int.mul_nonneg c0.1 (show 0 ≤ 2 * W by omega); omega
  have ra1 : (q % Dx) * (2 * W) + v < 2 * W * Dx := by
    have := Int.mul_le_mul_of_nonneg_right (show q % Dx + 1 ≤ Dx by omega) (show 0 ≤ 2 * W by omega)
    rw [Int.add_mul, Int.mul_comm Dx] at this
    omega
  obtain ⟨k1, k2, k3⟩ := nr_core hDE hB hr hA ra0 ra1
  generalize hrr : N * 2 ^ (-e).toNat - q / Dx * (D * 2 ^ e.toNat) = r at k1 k2 k3
  generalize hP : D * 2 ^ e.toNat = P at k1 k2 k3 hDE hrr
  obtain ⟨cmp1, cmp2⟩ := cmp_gen hB hDE k3
  have lin : (2 * W * Dx < 2 * ((q % Dx) * (2 * W) + v) ↔ Dx < 2 * (q % Dx) ∨ (2 * (q % Dx) = Dx ∧ v ≠ 0)) ∧ (2 * ((q % Dx) * (2 * W) + v) = 2 * W * Dx ↔ 2 * (q % Dx) = Dx ∧ v = 0) := by
    rcases hDx with z | z
    · subst z
      rcases (show q % 2 = 0 ∨ q % 2 = 1 by omega) with y | y <;> rw [y] <;> omega
    · subst z
      rcases (show q % 4 = 0 ∨ q % 4 = 1 ∨ q % 4 = 2 ∨ q % 4 = 3 by omega) with y | y | y | y <;> rw [y] <;> omega
  have key : (Dx < 2 * (q % Dx) ∨ (2 * (q % Dx) = Dx ∧ (q / Dx % 2 = 1 ∨ v ≠ 0))) ↔ (P < 2 * r ∨ (2 * r = P ∧ q / Dx % 2 = 1)) := by
    rw [cmp1, cmp2, lin.1, lin.2]
    constructor
    · rintro (y | ⟨y1, y2⟩)
      · exact Or.inl (Or.inl y)
      · by_cases hv : v = 0
        · rcases y2 with y3 | y3
          · exact Or.inr ⟨⟨y1, hv⟩, y3⟩
          · exact absurd hv y3
        · exact Or.inl (Or.inr ⟨y1, hv⟩)
    · rintro ((y | ⟨y1, y2⟩) | ⟨⟨y1, y2⟩, y3⟩)
      · exact Or.inl y
      · exact Or.inr ⟨y1, Or.inr y2⟩
      · exact Or.inr ⟨y1, Or.inl y3⟩
  refine ⟨he, q / Dx, r, by rw [hP]; omega, k1, by rw [hP]; exact k2, ?_, ?_, ?_, ?_⟩
  · rcases hDx with z | z <;> subst z <;> omega
  · rcases hx with ⟨_, z, _⟩ | ⟨_, z, _⟩ <;> subst z <;> omega
  · rcases hx with ⟨_, z, _⟩ | ⟨_, z, _⟩ <;> subst z <;> omega
  · rw [hP]
    rcases hm with ⟨y1, y2⟩ | ⟨y1, y2⟩
    · exact Or.inl ⟨y1, key.mp y2⟩
    · exact Or.inr ⟨y1, fun y => y2 (key.mpr y)⟩
