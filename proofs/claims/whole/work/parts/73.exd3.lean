/-! THE NUMBER: becomeExactDecimal -/
abbrev s068 : Nat → Prop := fun i => i = 0 ∨ sN 6 i ∨ sN 8 i
theorem sp_exactDec {G : xG} {l : Launch} {n : Nat} {h : xH} {kd mn un pl sg v w tn : Int} {Po : xH → Prop} (t : isD n h kd mn un pl) (hs : sg = 0 ∨ sg = 1) (qv : isN n h 6 v) (qw : isN n h 8 w) (hvb : v < 2 ^ 1600) (ht0 : -12000 ≤ tn) (ht1 : tn ≤ 12000) (hy : ∀ h' V W, hE s068 h h' → lowR (v * 10 ^ tn.toNat) (10 ^ (-tn).toNat) V W → bl V ≤ 4096 → bl W ≤ 4096 → isD n h' 1 (if V = 0 then 0 else sg) un pl → isN n h' 6 V → isN n h' 8 W → Po h') (hn : ∀ h' V W v' w', hE s068 h h' → lowR (v * 10 ^ tn.toNat) (10 ^ (-tn).toNat) V W → (4096 < bl V ∨ 4096 < bl W) → isD n h' kd mn un pl → isN n h' 6 v' → isN n h' 8 w' → Po h') : S_X4_becomeExactDecimal G l 0 sg tn n h Po := by
  refine S_X4_becomeExactDecimal_of (fun k hl C E => X4_becomeExactDecimal_b0 C E 0 sg tn n h rfl ?_)
  have T10 : ∀ j : Nat, ((10 ^ j : Nat) : Int) = (10 : Int) ^ j := fun j => by rw [Int.natCast_pow]; rfl
  have w47 : ∀ h', Po h' → X4_becomeExactDecimal_w47 G k n h' := fun h' y => X4_becomeExactDecimal_b47 C E n h' rfl y
  have m8 : ∀ {h h' : xH}, hE (sN 8) h h' → hE s068 h h' := fun e => e.mono (fun i hi => Or.inr (Or.inr hi))
  have w42 : ∀ h1 V W, hE s068 h h1 → lowR (v * 10 ^ tn.toNat) (10 ^ (-tn).toNat) V W → bl V ≤ 4096 → bl W ≤ 4096 → isD n h1 kd mn un pl → isN n h1 6 V → isN n h1 8 W → X4_becomeExactDecimal_w42 G k 0 sg n h1 := by
    intro h1 V W e1 lw b1 b2 t1 q1 r1
    refine X4_becomeExactDecimal_b42 C E 0 sg n h1 rfl ⟨t1.ok, sp_exactNum t1 hs q1 (fun h2 e2 t2 => w47 h2 ?_)⟩
    exact hy h2 V W (e1.tr (e2.mono (fun i hi => Or.inl hi))) lw b1 b2 t2 (q1.mv e2 (by decide) (by decide)) (r1.mv e2 (by decide) (by decide))
  rw [t.f8]
  refine ⟨t.ok, by decide, qw.1.ok, sp_set qw.1 (fun h1 e1 r1 => ?_)⟩
  have r1 : isN n h1 8 1 := r1
  have t1 := t.mv e1 (by decide)
  have q1 := qv.mv e1 (by decide) (by decide)
  have he1 := m8 e1
  have bv := bl_le hvb
  rw [t1.f7]
  refine ⟨t1.ok, by decide, q1.1.ok, sp_isZero q1 ?_⟩
  by_cases gv : v = 0
  · rw [if_pos gv]
    refine ⟨rgS (by decide) (by decide), fun _ => w42 h1 v 1 he1 ?_ (by omega) (by rw [bl1]; decide) t1 q1 r1, fun y => absurd y (by decide)⟩
    refine ⟨0, 1, 10 ^ (-tn).toNat, by omega, rfl, ?_, ?_, by decide, by decide⟩
    · rw [gv, Nat.zero_mul, Int.zero_mul]; rfl
    · rw [Nat.one_mul, T10]
  rw [if_neg gv]
  have hv : 0 < v := by have := qv.nn.1; omega
  obtain ⟨vn, hvn⟩ := ex_nat (show 0 ≤ v by omega)
  refine ⟨rg0, fun y => absurd rfl y, fun _ => ⟨rgS (by omega) (by omega), fun g => ⟨t1.ok, ?_⟩, fun g => ⟨t1.ok, ?_⟩⟩⟩
  · obtain ⟨j, hj⟩ := ex_nat (show 0 ≤ -tn by omega)
    have e0 : tn.toNat = 0 := by omega
    have ej : (-tn).toNat = j := by omega
    rw [hj]
    rw [e0, ej, Int.pow_zero, Int.mul_one, ← T10] at hy hn w42
    refine sp_divTens t1 q1 r1 hv (by omega) (fun h2 V W e2 lw q2 r2 b2 => ⟨rgS (by decide) (by decide), fun y => absurd y (by decide), fun _ => w42 h2 V W (he1.tr (e2.mono (fun i hi => Or.inr hi))) lw ?_ b2 (t1.mv e2 (by rintro ((y | y) | (y | y)) <;> omega)) q2 r2⟩) (fun h2 V W v' w' e2 lw q2 r2 b2 => ⟨rg0, fun _ => w47 h2 (hn h2 V W v' w' (he1.tr (e2.mono (fun i hi => Or.inr hi))) lw (Or.inr b2) (t1.mv e2 (by rintro ((y | y) | (y | y)) <;> omega)) q2 r2), fun y => absurd rfl y⟩)
    obtain ⟨V', W', d, z1, z2, z3, z4, z5, z6⟩ := lw
    have hd : 0 < d := by
      rcases Nat.eq_zero_or_pos d with y | y
      · subst y; rw [Nat.mul_zero] at z3; omega
      · exact y
    have hle : V' * 1 ≤ V' * d := Nat.mul_le_mul_left _ hd
    have := bl_le (v := V) (t := 1600) (by omega)
    omega
  · obtain ⟨j, rfl⟩ := ex_nat (show 0 ≤ tn by omega)
    have e0 : (-(j : Int)).toNat = 0 := by omega
    rw [e0, Int.toNat_natCast, Int.pow_zero] at hy hn w42
    have lw : lowR (v * 10 ^ j) 1 (v * 10 ^ j) 1 := by
      refine ⟨vn * 10 ^ j, 1, 1, ?_, rfl, ?_, rfl, Nat.gcd_one_right _, by decide⟩
      · rw [hvn, Int.natCast_mul, T10]
      · rw [hvn, Nat.mul_one, Int.natCast_mul, T10]
    refine sp_mulTens t1 q1 hv hvb (by omega) (fun h2 e2 q2 b2 => ⟨rgS (by decide) (by decide), fun y => absurd y (by decide), fun _ => w42 h2 _ 1 (he1.tr (e2.mono (fun i hi => Or.inr (Or.inl hi)))) lw b2 (by rw [bl1]; decide) (t1.mv e2 (by decide)) q2 (r1.mv e2 (by decide) (by decide))⟩) (fun h2 v' e2 q2 b2 => ⟨rg0, fun _ => w47 h2 (hn h2 _ 1 v' 1 (he1.tr (e2.mono (fun i hi => Or.inr (Or.inl hi)))) lw (Or.inl b2) (t1.mv e2 (by decide)) q2 (r1.mv e2 (by decide) (by decide))), fun y => absurd rfl y⟩)
