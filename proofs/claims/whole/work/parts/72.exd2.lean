/-! THE NUMBER: exact decimals below 1 -/
theorem cop5 {t y : Nat} (hy : y % 5 ≠ 0) : Nat.Coprime (5 ^ t) y := by
  apply Nat.Coprime.pow_left
  show Nat.gcd 5 y = 1
  rw [Nat.gcd_rec]
  have : y % 5 = 1 ∨ y % 5 = 2 ∨ y % 5 = 3 ∨ y % 5 = 4 := by omega
  rcases this with z | z | z | z <;> rw [z] <;> decide
theorem bl_mul {v : Int} {t : Nat} (hv : 0 < v) : bl (v * 2 ^ t) = bl v + t := by
  obtain ⟨s, b1, b2, b3⟩ := bl_pw hv
  have h1 : (2 : Int) ^ (s + t) ≤ v * 2 ^ t := by rw [← pw2]; exact Int.mul_le_mul_of_nonneg_right b2 (Int.le_of_lt (pw_pos _))
  have h2 : v * 2 ^ t < 2 ^ (s + t + 1) := by rw [show s + t + 1 = s + 1 + t by omega, ← pw2]; exact Int.mul_lt_mul_of_pos_right b3 (pw_pos _)
  rw [bl_of h1 h2, b1]
  omega
theorem low_ten {v m k tn a V : Nat} (hm : m = min a tn) (hk : k ≤ tn) (hodd : a < tn → V % 2 = 1) (h5 : k = tn ∨ V % 5 ≠ 0) (hv : v = V * (2 ^ m * 5 ^ k)) : lowR (v : Int) ((10 ^ tn : Nat) : Int) (V : Int) ((5 ^ (tn - k) * 2 ^ (tn - m) : Nat) : Int) := by
  refine ⟨V, 5 ^ (tn - k) * 2 ^ (tn - m), 2 ^ m * 5 ^ k, rfl, rfl, by rw [hv], ?_, ?_, Nat.mul_pos (Nat.pow_pos (by decide)) (Nat.two_pow_pos _)⟩
  · congr 1
    rw [show (10 : Nat) = 5 * 2 from rfl, Nat.mul_pow]
    have e5 : 5 ^ tn = 5 ^ (tn - k) * 5 ^ k := by rw [← Nat.pow_add]; congr 1; omega
    have e2 : 2 ^ tn = 2 ^ (tn - m) * 2 ^ m := by rw [← Nat.pow_add]; congr 1; omega
    rw [e5, e2]
    generalize 5 ^ (tn - k) = u1
    generalize 5 ^ k = u2
    generalize 2 ^ (tn - m) = u3
    generalize 2 ^ m = u4
    grind
  · have c1 : Nat.Coprime (5 ^ (tn - k)) V := by
      rcases h5 with z | z
      · rw [z, Nat.sub_self, Nat.pow_zero]; exact Nat.gcd_one_left _
      · exact cop5 z
    rw [Nat.gcd_comm, Nat.Coprime.gcd_mul_left_cancel _ c1]
    rcases Nat.lt_or_ge a tn with z | z
    · exact cop2 (hodd z)
    · rw [show tn - m = 0 by omega, Nat.pow_zero]; exact Nat.gcd_one_left _
theorem sp_divTens {G : xG} {l : Launch} {n : Nat} {h : xH} {kd mn un pl v : Int} {tn : Nat} {Po : Int → xH → Prop} (t : isD n h kd mn un pl) (qv : isN n h 6 v) (qw : isN n h 8 1) (hv : 0 < v) (ht : tn ≤ 12000) (hy : ∀ h' V W, hE (fun i => sN 6 i ∨ sN 8 i) h h' → lowR v ((10 ^ tn : Nat) : Int) V W → isN n h' 6 V → isN n h' 8 W → bl W ≤ 4096 → Po 1 h') (hn : ∀ h' V W v' w', hE (fun i => sN 6 i ∨ sN 8 i) h h' → lowR v ((10 ^ tn : Nat) : Int) V W → isN n h' 6 v' → isN n h' 8 w' → 4096 < bl W → Po 0 h') : S_X4_divideByTens G l 0 tn n h Po := by
  refine S_X4_divideByTens_of (fun k hl C E => X4_divideByTens_b0 C E 0 tn n h rfl ?_)
  obtain ⟨vn, rfl⟩ := ex_nat (show 0 ≤ v by omega)
  obtain ⟨a, x, hx⟩ := ex_odd vn (by omega)
  subst hx
  have ta := tzb qv
  obtain ⟨m, hm⟩ : ∃ m : Nat, m = min a tn := ⟨_, rfl⟩
  rw [t.f7]
  refine ⟨t.ok, by decide, qv.1.ok, sp_tz qv (sp_min (rg_nat (by omega)) (rg_nat (by omega)) ?_)⟩
  rw [show min (a : Int) (tn : Int) = (m : Int) by omega, t.f7, show (tn : Int) - ((tn : Int) - (m : Int)) = (m : Int) by omega]
  refine ⟨t.ok, by decide, qv.1.ok, sp_shr qv (rg_nat (by omega)) (fun h1 e1 q1 => ?_)⟩
  have sh : ((2 ^ a * (2 * x + 1) : Nat) : Int) / 2 ^ (m : Int).toNat = ((2 ^ (a - m) * (2 * x + 1) : Nat) : Int) := by
    rw [show 2 ^ a * (2 * x + 1) = 2 ^ m * (2 ^ (a - m) * (2 * x + 1)) by rw [← Nat.mul_assoc, ← Nat.pow_add]; congr 2; omega]
    exact shr_mul _ _
  rw [sh] at q1
  have t1 := t.mv e1 (by decide)
  have w1 := qw.mv e1 (by decide) (by decide)
  have hpos : 0 < 2 ^ (a - m) * (2 * x + 1) := Nat.mul_pos (Nat.two_pow_pos _) (by omega)
  rw [t1.f7]
  refine ⟨t1.ok, by decide, q1.1.ok, sp_takeFives q1 (by omega) (by omega) (fun h2 j V e2 q2 hj hV h5 => ?_)⟩
  have t2 := t1.mv e2 (by decide)
  have w2 := w1.mv e2 (by decide) (by decide)
  obtain ⟨Vn, rfl⟩ := ex_nat q2.nn.1
  have hVn : 2 ^ (a - m) * (2 * x + 1) = Vn * 5 ^ j := by
    have : ((Vn : Int)) * 5 ^ j = ((Vn * 5 ^ j : Nat) : Int) := by rw [Int.natCast_mul, Int.natCast_pow]; rfl
    omega
  have low : lowR ((2 ^ a * (2 * x + 1) : Nat) : Int) ((10 ^ tn : Nat) : Int) (Vn : Int) ((5 ^ (tn - j) * 2 ^ (tn - m) : Nat) : Int) := by
    refine low_ten hm hj (fun z => ?_) (by rcases h5 with z | z; exact Or.inl z; exact Or.inr (by omega)) ?_
    · rw [show a - m = 0 by omega, Nat.pow_zero, Nat.one_mul] at hVn
      rcases Nat.mod_two_eq_zero_or_one Vn with y | y
      · have : (Vn * 5 ^ j) % 2 = 0 := by rw [Nat.mul_mod, y]; simp
        omega
      · exact y
    · rw [show 2 ^ a = 2 ^ m * 2 ^ (a - m) by rw [← Nat.pow_add]; congr 1; omega, Nat.mul_assoc, hVn]
      generalize 2 ^ m = u1
      generalize 5 ^ j = u2
      grind
  have he2 : hE (fun i => sN 6 i ∨ sN 8 i) h h2 := (e1.mono (fun i hi => Or.inl hi)).tr (e2.mono (fun i hi => Or.inl hi))
  rw [show (tn : Int) - (j : Int) = ((tn - j : Nat) : Int) by omega]
  have Wc : ((5 ^ (tn - j) * 2 ^ (tn - m) : Nat) : Int) = ((5 ^ (tn - j) : Nat) : Int) * 2 ^ (tn - m) := by rw [Int.natCast_mul, Int.natCast_pow 2]; rfl
  have blW : bl ((5 ^ (tn - j) * 2 ^ (tn - m) : Nat) : Int) = bl ((5 ^ (tn - j) : Nat) : Int) + ((tn - m : Nat) : Int) := by
    rw [Wc, bl_mul (five_pos _)]
  have T2 : ∀ j : Nat, ((2 ^ j : Nat) : Int) = (2 : Int) ^ j := fun j => by rw [Int.natCast_pow]; rfl
  refine ⟨⟨rg_nat (by omega), rgS (by decide) (by decide)⟩, fun g => ?_, fun g => ⟨Or.inl rfl, hn h2 _ _ _ _ he2 low q2 w2 ?_⟩⟩
  · rw [t2.f8]
    have f1 : 5 ^ (tn - j) ≤ 5 ^ 1764 := Nat.pow_le_pow_right (by decide) (by omega)
    have f2 : ((5 ^ (tn - j) : Nat) : Int) < 2 ^ 4096 := by rw [← T2]; exact Int.ofNat_lt.mpr (Nat.lt_of_le_of_lt f1 k1764)
    refine ⟨t2.ok, by decide, w2.1.ok, sp_mulFives w2 (by omega) (fit132 (t := 4096) (by rw [Int.one_mul]; exact f2) (by decide)) (fun h3 e3 q3 => ?_)⟩
    rw [Int.one_mul] at q3
    have t3 := t2.mv e3 (by decide)
    have v3 := q2.mv e3 (by decide) (by decide)
    have he3 := he2.tr (e3.mono (fun i hi => Or.inr hi))
    have b5 := bl_le f2
    have b6 : 0 ≤ bl ((5 ^ (tn - j) : Nat) : Int) := by unfold bl; split <;> omega
    rw [t3.f8]
    refine ⟨t3.ok, by decide, q3.1.ok, sp_bitLength q3 ?_⟩
    rw [show (tn : Int) - (m : Int) = ((tn - m : Nat) : Int) by omega]
    refine ⟨⟨rgS (by omega) (by omega), rgS (by decide) (by decide)⟩, fun g2 => ?_, fun g2 => ⟨Or.inl rfl, hn h3 _ _ _ _ he3 low v3 q3 (by omega)⟩⟩
    rw [t3.f8]
    refine ⟨t3.ok, by decide, q3.1.ok, sp_shl q3 (rg_nat (by omega)) (fun _ => by omega) (fun h4 e4 q4 => ⟨Or.inr rfl, ?_⟩)⟩
    rw [Int.toNat_natCast, ← Wc] at q4
    exact hy h4 _ _ (he3.tr (e4.mono (fun i hi => Or.inr hi))) low (v3.mv e4 (by decide) (by decide)) q4 (by omega)
  · have f1 : 5 ^ 1765 ≤ 5 ^ (tn - j) := Nat.pow_le_pow_right (by decide) (by omega)
    have f2 : (2 : Int) ^ 4096 ≤ ((5 ^ (tn - j) : Nat) : Int) := by rw [← T2]; exact Int.ofNat_le.mpr (Nat.le_trans k1765 f1)
    have := bl_ge f2
    omega
