/-! EXACT -/
theorem sp_exact {G : xG} {l : Launch} {n : Nat} {h : xH} {kd mn pl v0 w0 : Int} {un : Nat} {Po : Int → xH → Prop} (t : isD n h kd mn un pl) (hk : rg kd) (q6 : isN n h 6 v0) (q8 : isN n h 8 w0) (hmn : mn = 0 ∨ mn = 1) (hb : kd = 2 → un < 2 ^ 53 ∧ -1074 ≤ pl ∧ pl ≤ 971) (hy : kd = 2 → ∀ h' V W, hE s068 h h' → lowR ((un : Int) * 2 ^ pl.toNat) (2 ^ (-pl).toNat) V W → isD n h' 1 (if V = 0 then 0 else mn) un pl → isN n h' 6 V → isN n h' 8 W → Po 1 h') (hn : kd ≠ 2 → Po 0 h) : S_X4_exact G l 0 n h Po := by
  refine S_X4_exact_of (fun k hl C E => X4_exact_b0 C E 0 n h rfl ?_)
  rw [t.f3, t.f5, t.f7]
  refine ⟨t.ok, ⟨hk, rgS (by decide) (by decide)⟩, fun g => ⟨t.ok, by decide, t.ok, q6.1.ok, sp_set q6.1 (fun h1 e1 a1 => ?_)⟩, fun g => ⟨Or.inl rfl, hn g⟩⟩
  obtain ⟨hu, hp0, hp1⟩ := hb g
  have e53 : (2 : Nat) ^ 53 = 9007199254740992 := by decide
  have T2 : ∀ j : Nat, ((2 ^ j : Nat) : Int) = (2 : Int) ^ j := fun j => by rw [Int.natCast_pow]; rfl
  have hum : (un : Int) % 18446744073709551616 = (un : Int) := Int.emod_eq_of_lt (by omega) (by omega)
  rw [hum] at a1
  have t1 := t.mv e1 (by decide)
  have b1 := q8.mv e1 (by decide) (by decide)
  rw [t1.f8]
  refine ⟨t1.ok, by decide, b1.1.ok, sp_set b1.1 (fun h2 e2 b2 => ?_)⟩
  have b2 : isN n h2 8 1 := b2
  have t2 := t1.mv e2 (by decide)
  have a2 := a1.mv e2 (by decide) (by decide)
  have he2 : hE s068 h h2 := (e1.mono (fun i hi => Or.inr (Or.inl hi))).tr (e2.mono (fun i hi => Or.inr (Or.inr hi)))
  have w97 : ∀ h3 V W, hE s068 h h3 → isD n h3 kd mn un pl → isN n h3 6 V → isN n h3 8 W → lowR ((un : Int) * 2 ^ pl.toNat) (2 ^ (-pl).toNat) V W → X4_exact_w97 G k 0 n h3 := by
    intro h3 V W e3 t3 q3 r3 lw
    refine X4_exact_b97 C E 0 n h3 rfl ⟨t3.ok, t3.ok, ?_⟩
    rw [t3.f4]
    refine sp_exactNum t3 hmn q3 (fun h4 e4 t4 => ⟨Or.inr rfl, ?_⟩)
    exact hy g h4 V W (e3.tr (e4.mono (fun i hi => Or.inl hi))) lw t4 (q3.mv e4 (by decide) (by decide)) (r3.mv e4 (by decide) (by decide))
  have hbl : bl (un : Int) ≤ 53 := bl_le (t := 53) (by rw [← T2]; omega)
  rw [t2.f6, t2.f5]
  refine ⟨t2.ok, rgS (by omega) (by omega), fun o => ⟨t2.ok, ⟨⟨by omega, by omega⟩, ⟨by decide, by decide⟩⟩, fun z => ?_, fun z => ⟨t2.ok, ?_⟩⟩, fun o => ?_⟩
  · have hz : un = 0 := by have := (lC_eq0 _ _).mp z; omega
    subst hz
    refine w97 h2 _ 1 he2 t2 a2 b2 ⟨0, 1, 2 ^ (-pl).toNat, rfl, rfl, ?_, ?_, by decide, by decide⟩
    · rw [Nat.zero_mul]; show (0 : Int) * _ = 0; omega
    · rw [Nat.one_mul, T2]
  · have hu0 : 0 < un := by
      rcases Nat.eq_zero_or_pos un with y | y
      · exact absurd ((lC_eq0 _ _).mpr (by omega)) z
      · exact y
    obtain ⟨r, m, hrm⟩ := ex_odd un hu0
    obtain ⟨j, hj⟩ := ex_nat (show 0 ≤ -pl by omega)
    have hr : r < 53 := by
      rcases Nat.lt_or_ge r 53 with y | y
      · exact y
      · have h1 : 2 ^ 53 ≤ 2 ^ r := Nat.pow_le_pow_right (by decide) y
        have h2 : 2 ^ r * 1 ≤ 2 ^ r * (2 * m + 1) := Nat.mul_le_mul_left _ (by omega)
        omega
    obtain ⟨c, hc⟩ : ∃ c : Nat, c = min r j := ⟨_, rfl⟩
    refine sp_ntzL (t := r) (m := m) (by omega) (by rw [hum, hrm]) ?_
    rw [t2.f6, hj]
    refine ⟨t2.ok, sp_min (rg_nat (by omega)) (rg_nat (by omega)) ?_⟩
    rw [show min (r : Int) (j : Int) = (c : Int) by omega, t2.f7]
    have sh : (un : Int) / 2 ^ (c : Int).toNat = ((2 ^ (r - c) * (2 * m + 1) : Nat) : Int) := by
      rw [hrm, show 2 ^ r * (2 * m + 1) = 2 ^ c * (2 ^ (r - c) * (2 * m + 1)) by rw [← Nat.mul_assoc, ← Nat.pow_add]; congr 2; omega]
      exact shr_mul _ _
    refine ⟨t2.ok, by decide, a2.1.ok, sp_shr a2 (rg_nat (by omega)) (fun h3 e3 a3 => ?_)⟩
    rw [sh] at a3
    have t3 := t2.mv e3 (by decide)
    have b3 := b2.mv e3 (by decide) (by decide)
    rw [t3.f8, t3.f6, hj, show (j : Int) - (c : Int) = ((j - c : Nat) : Int) by omega]
    refine ⟨t3.ok, by decide, t3.ok, b3.1.ok, sp_shl b3 (rg_nat (by omega)) (fun _ => by rw [bl1]; omega) (fun h4 e4 b4 => ?_)⟩
    rw [Int.toNat_natCast, Int.one_mul, ← T2] at b4
    refine w97 h4 _ _ ((he2.tr (e3.mono (fun i hi => Or.inr (Or.inl hi)))).tr (e4.mono (fun i hi => Or.inr (Or.inr hi)))) (t3.mv e4 (by decide)) (a3.mv e4 (by decide) (by decide)) b4 ?_
    refine ⟨_, _, 2 ^ c, rfl, rfl, ?_, ?_, ?_, Nat.two_pow_pos _⟩
    · rw [show pl.toNat = 0 by omega, Int.pow_zero, Int.mul_one]
      congr 1
      rw [hrm, show 2 ^ r = 2 ^ (r - c) * 2 ^ c by rw [← Nat.pow_add]; congr 1; omega]
      generalize 2 ^ (r - c) = u1
      generalize 2 ^ c = u2
      grind
    · rw [← Nat.pow_add, T2]
      congr 1
      omega
    · rcases Nat.le_total r j with y | y
      · rw [show r - c = 0 by omega, Nat.pow_zero, Nat.one_mul, Nat.gcd_comm]
        exact cop2 (by omega)
      · rw [show j - c = 0 by omega, Nat.pow_zero]; exact Nat.gcd_one_right _
  · obtain ⟨j, hj⟩ := ex_nat (show 0 ≤ pl by omega)
    rw [t2.f7, hj]
    refine ⟨t2.ok, by decide, t2.ok, a2.1.ok, sp_shl a2 (rg_nat (by omega)) (fun _ => by omega) (fun h3 e3 a3 => ?_)⟩
    rw [Int.toNat_natCast] at a3
    refine w97 h3 _ 1 (he2.tr (e3.mono (fun i hi => Or.inr (Or.inl hi)))) (t2.mv e3 (by decide)) a3 (b2.mv e3 (by decide) (by decide)) ⟨un * 2 ^ j, 1, 1, ?_, rfl, ?_, ?_, Nat.gcd_one_right _, by decide⟩
    · rw [Int.natCast_mul, T2]
    · rw [hj, Int.toNat_natCast, Nat.mul_one, Int.natCast_mul, T2]
    · rw [hj, show (-(j : Int)).toNat = 0 by omega]; rfl
