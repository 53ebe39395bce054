/-! WHAT A TEXT TELLS: bounds -/
theorem dvl_lt {T : List Int} {b : Int} {p r : Nat} {v : Int} (hb : 2 ≤ b) (hv : 0 ≤ v) (hd : ∀ j, j < r → 0 ≤ dv b (cd T ((p + j : Nat) : Int))) : 0 ≤ dvl T b p v r ∧ dvl T b p v r < (v + 1) * b ^ r := by
  induction r with
  | zero => exact ⟨hv, by show v < (v + 1) * b ^ 0; rw [Int.pow_zero]; omega⟩
  | succ r ih =>
    have h1 := ih (fun j hj => hd j (by omega))
    have h2 := hd r (by omega)
    have h3 := (dv_bd b (cd T ((p + r : Nat) : Int))).2.2 h2
    have h4 := Int.mul_nonneg h1.1 (show 0 ≤ b by omega)
    have h5 := Int.mul_le_mul_of_nonneg_right (show dvl T b p v r + 1 ≤ (v + 1) * b ^ r by omega) (show 0 ≤ b by omega)
    rw [Int.add_mul] at h5
    have e6 : (v + 1) * b ^ (r + 1) = (v + 1) * b ^ r * b := by rw [Int.pow_succ, Int.mul_assoc]
    rw [e6]
    show 0 ≤ dvl T b p v r * b + dv b (cd T ((p + r : Nat) : Int)) ∧ dvl T b p v r * b + dv b (cd T ((p + r : Nat) : Int)) < _
    omega
theorem run_len {T : List Int} {b : Int} {p r : Nat} (hd : ∀ j, j < r → 0 ≤ dv b (cd T ((p + j : Nat) : Int))) : r = 0 ∨ p + r ≤ T.length := by
  rcases Nat.eq_zero_or_pos r with z | z
  · exact Or.inl z
  · have := dig_lt (hd (r - 1) (by omega))
    exact Or.inr (by omega)
theorem b_pow {b : Int} {r : Nat} (h0 : 2 ≤ b) (h1 : b ≤ 16) (hr : r ≤ 400) : b ^ r ≤ 2 ^ 1600 := by
  have a1 : b ^ r ≤ 16 ^ r := by
    induction r with
    | zero => rw [Int.pow_zero, Int.pow_zero]; decide
    | succ r ih =>
      rw [Int.pow_succ, Int.pow_succ]
      exact Int.mul_le_mul (ih (by omega)) h1 (by omega) (Int.le_of_lt (Int.pow_pos (by decide)))
  have a2 : (16 : Int) ^ r = 2 ^ (4 * r) := by rw [show (16 : Int) = 2 ^ 4 by decide, ← Int.pow_mul]
  have a3 := pw_mono (show 4 * r ≤ 1600 by omega)
  omega
theorem cd_lt {T : List Int} {i : Nat} (h : 0 ≤ cd T (i : Int)) : i < T.length := by
  rcases Nat.lt_or_ge i T.length with g | g
  · exact g
  · rw [cd_end (by omega)] at h; omega
theorem prs_bd {T : List Int} {fm mn ex tn v w : Int} (hT : T.length ≤ 400) (h : prsR T fm mn ex tn v w) (hf : fm = 1 ∨ fm = 2) : 0 ≤ v ∧ v < 2 ^ 1600 ∧ 0 < w ∧ w < 2 ^ 1600 ∧ (fm = 2 → w = 1 ∧ v < 10 ^ 400 ∧ -12000 ≤ tn ∧ tn ≤ 12000) := by
  obtain ⟨ok, p, b, x, hpf, sg, fm', p', hsg, hmn, hex, hfm, hc⟩ := h
  have pb := pfx_bd T 2 0 0 0 (by decide) (Or.inl rfl) ⟨by decide, by decide⟩
  rw [hpf] at pb
  have pb4 : b = 0 ∨ b = 2 ∨ b = 8 ∨ b = 10 ∨ b = 16 := pb.2.2.2.1
  have hff : fm = fm' := by
    rw [hfm]
    split
    · rename_i g; rw [if_pos g] at hfm; omega
    · rfl
  have one : (1 : Int) < 2 ^ 1600 := by have := pw_add_le (show 0 ≤ 1599 by decide); omega
  have hN : numR T (if b = 0 then 10 else b) (p + sg).toNat fm' p' tn v w := by
    rcases hc with ⟨_, z⟩ | ⟨_, _, _, _, z⟩ | ⟨_, _, _, _, _, z⟩ | ⟨_, _, z⟩
    · omega
    · split at z <;> omega
    · split at z <;> omega
    · exact z
  generalize hbb : (if b = 0 then (10 : Int) else b) = bb at hN
  have hb2 : 2 ≤ bb ∧ bb ≤ 16 := by rw [← hbb]; split <;> omega
  generalize (p + sg).toNat = pp at hN
  obtain ⟨r, hr, hcase⟩ := hN
  have l1 := run_len hr.1
  have d1 := dvl_lt (v := 0) hb2.1 (by decide) hr.1
  rw [Int.zero_add, Int.one_mul] at d1
  have hr400 : r ≤ 400 := by omega
  have q1 := b_pow hb2.1 hb2.2 hr400
  rcases hcase with ⟨_, _, hv, r2, hr2, hw, _, hfw⟩ | ⟨_, hw, ⟨hb10, hch, hdec⟩ | ⟨_, _, hv, hfr⟩⟩
  · have l2 := run_len hr2.1
    have d2 := dvl_lt (v := 0) hb2.1 (by decide) hr2.1
    rw [Int.zero_add, Int.one_mul] at d2
    have q2 := b_pow hb2.1 hb2.2 (show r2 ≤ 400 by omega)
    have hw0 : w ≠ 0 := by
      intro z; rw [if_pos z] at hfw; omega
    rw [if_neg hw0] at hfw
    exact ⟨by omega, by omega, by omega, by omega, fun z => by omega⟩
  · rw [hb10] at d1 hdec
    obtain ⟨r2, p2, hpt, hd2⟩ := hdec
    have key : r + r2 ≤ 400 ∧ 0 ≤ v ∧ v < 10 ^ (r + r2) := by
      clear hd2 hc
      rcases hpt with ⟨z1, z2, z3, z4⟩ | ⟨_, z2, _, z4⟩
      · have l2 := run_len z2.1
        have d2 := dvl_lt (v := dvl T 10 pp 0 r) (by decide) d1.1 z2.1
        have hlt := cd_lt (T := T) (i := pp + r) (by rw [z1]; decide)
        have a1 := Int.mul_le_mul_of_nonneg_right (show dvl T 10 pp 0 r + 1 ≤ 10 ^ r by omega) (Int.le_of_lt (t_pos r2))
        rw [← Int.pow_add] at a1
        exact ⟨by omega, by omega, by omega⟩
      · rw [z2, Nat.add_zero, z4]
        exact ⟨hr400, d1.1, d1.2⟩
    have a4 := t_mono key.1
    have a5 := b_pow (b := 10) (by decide) (by decide) (Nat.le_refl 400)
    have c1 : v < 2 ^ 1600 := by clear hd2 hc hpt; omega
    have c2 : v < 10 ^ 400 := by clear hd2 hc hpt; omega
    have c3 : 0 < w ∧ w < 2 ^ 1600 := by clear hd2 hc hpt; omega
    clear hc hpt
    refine ⟨key.2.1, c1, c3.1, c3.2, fun z => ⟨hw, c2, ?_⟩⟩
    rcases hd2 with ⟨_, y, _⟩ | ⟨_, _, _, _, y⟩ | ⟨_, _, rx, hx, _, _, y⟩
    · omega
    · omega
    · have hb := dvl_bd hx.2.1
      have t4 := t_mono hx.1
      rw [show (10 : Int) ^ 4 = 10000 by decide] at t4
      have : -10000 ≤ xv T p2 rx ∧ xv T p2 rx ≤ 10000 := by
        unfold xv
        split <;> omega
      omega
  · exact ⟨by omega, by omega, by omega, by omega, fun z => by rw [hff, hfr] at z; split at z <;> omega⟩
