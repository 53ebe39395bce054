/-! THE NUMBER: decimals -/
theorem ten_52 (k : Nat) : (10 : Int) ^ k = ((5 ^ k : Nat) : Int) * 2 ^ k := by
  rw [Int.natCast_pow]
  show (10 : Int) ^ k = (5 : Int) ^ k * 2 ^ k
  rw [← Int.mul_pow]
  rfl
theorem t_pos (k : Nat) : (0 : Int) < 10 ^ k := Int.pow_pos (by decide)
theorem t_mono {a b : Nat} (h : a ≤ b) : (10 : Int) ^ a ≤ 10 ^ b := by
  obtain ⟨c, rfl⟩ : ∃ c, b = a + c := ⟨b - a, by omega⟩
  rw [Int.pow_add]
  have h1 := t_pos a
  have h2 := t_pos c
  have := Int.mul_le_mul_of_nonneg_left (show (1 : Int) ≤ 10 ^ c by omega) (Int.le_of_lt h1)
  omega
theorem t325 : (2 : Int) ^ 1075 < 10 ^ 325 := by decide +kernel
theorem t310 : (2 : Int) ^ 1024 ≤ 10 ^ 310 := by decide +kernel
theorem sp_nearDec {G : xG} {l : Launch} {n : Nat} {h : xH} {kd mn un pl sg v w tn s : Int} {Po : xH → Prop} (t : isD n h kd mn un pl) (hs : sg = 0 ∨ sg = 1) (qv : isN n h 6 v) (qw : isN n h 8 w) (hvb : v < 2 ^ 1600) (hsg : sgOK v s) (hs0 : 0 ≤ s) (hs1 : s ≤ 400) (ht0 : -12000 ≤ tn) (ht1 : tn ≤ 12000) (hp : ∀ h' e m v' w', hE (fun i => i = 0 ∨ sN 6 i ∨ sN 8 i) h h' → nrR (v * 10 ^ tn.toNat) (10 ^ (-tn).toNat) e m → finD n h' sg m e → isN n h' 6 v' → isN n h' 8 w' → Po h') : S_X4_becomeNearestDecimal G l 0 sg tn s n h Po := by
  refine S_X4_becomeNearestDecimal_of (fun k hl C E => X4_becomeNearestDecimal_b0 C E 0 sg tn s n h rfl ?_)
  have w85 : ∀ h', Po h' → X4_becomeNearestDecimal_w85 G k n h' := fun h' y => X4_becomeNearestDecimal_b85 C E n h' rfl y
  have m0 : ∀ {h' : xH}, hE s0 h h' → hE (fun i => i = 0 ∨ sN 6 i ∨ sN 8 i) h h' := fun e => e.mono (fun i hi => Or.inl hi)
  have hv0 := qv.nn.1
  have w23 : 2 * (v * 10 ^ tn.toNat * 2 ^ 1074) < 10 ^ (-tn).toNat → X4_becomeNearestDecimal_w23 G k 0 sg n h := by
    intro hz
    refine X4_becomeNearestDecimal_b23 C E 0 sg n h rfl ⟨t.ok, sp_zero t hs (fun h' e' t' => w85 h' ?_)⟩
    have hnn := Int.mul_nonneg (Int.mul_nonneg hv0 (Int.le_of_lt (t_pos tn.toNat))) (Int.le_of_lt (pw_pos 1074))
    refine hp h' (-1074) 0 v w (m0 e') ⟨by decide, 0, v * 10 ^ tn.toNat * 2 ^ 1074, ?_, hnn, ?_, by decide, by decide, Or.inr rfl, Or.inr ⟨rfl, ?_⟩⟩ (Or.inl ⟨by decide, t'⟩) (qv.mv e' (by decide) (by decide)) (qw.mv e' (by decide) (by decide))
    · rw [show (-(-1074 : Int)).toNat = 1074 from rfl]; omega
    · rw [show ((-1074 : Int)).toNat = 0 from rfl, Int.pow_zero, Int.mul_one]
      omega
    · rw [show ((-1074 : Int)).toNat = 0 from rfl, Int.pow_zero, Int.mul_one]
      rintro (y | ⟨y, _⟩) <;> omega
  rw [t.f7]
  refine ⟨t.ok, by decide, qv.1.ok, sp_isZero qv ?_⟩
  by_cases gv : v = 0
  · rw [if_pos gv]
    refine ⟨rgS (by decide) (by decide), fun _ => w23 ?_, fun y => absurd y (by decide)⟩
    have := t_pos (-tn).toNat
    rw [gv]; omega
  rw [if_neg gv]
  have hs2 := hsg.2 (by omega)
  refine ⟨rg0, fun y => absurd rfl y, fun _ => ⟨⟨rgS (by omega) (by omega), rgS (by decide) (by decide)⟩, fun g => ⟨⟨rgS (by omega) (by omega), rgS (by decide) (by decide)⟩, fun g2 => ?_, fun g2 => ⟨t.ok, sp_infinite t hs (fun h1 e1 t1 => w85 h1 ?_)⟩⟩, fun g => w23 ?_⟩⟩
  · rw [t.f8]
    refine ⟨t.ok, by decide, qw.1.ok, sp_set qw.1 (fun h1 e1 q1 => ?_)⟩
    have q1 : isN n h1 8 1 := q1
    have t1 := t.mv e1 (by decide)
    have v1 := qv.mv e1 (by decide) (by decide)
    have fin : ∀ (h2 : xH) (N D : Int), hE (fun i => sN 6 i ∨ sN 8 i) h h2 → isD n h2 kd mn un pl → isN n h2 6 N → isN n h2 8 D → 0 < D → N < 2 ^ 4200 → D < 2 ^ 4200 → N * 2 ^ tn.toNat = v * 10 ^ tn.toNat → D * 2 ^ (-tn).toNat = 10 ^ (-tn).toNat → X4_becomeNearestDecimal_w79 G k 0 sg tn n h2 := by
      intro h2 N D e2 t2 qN qD hD bN bD eN eD
      refine X4_becomeNearestDecimal_b79 C E 0 sg tn n h2 rfl ⟨t2.ok, sp_nearest t2 hs qN qD hD bN bD (by omega) (by omega) (fun h3 e m v' w' e3 hn hf q6 q8 => w85 h3 ?_)⟩
      rw [eN, eD] at hn
      exact hp h3 e m v' w' ((e2.mono (fun i hi => Or.inr hi)).tr e3) hn hf q6 q8
    refine ⟨rgS (by omega) (by omega), fun o => ?_, fun o => ?_⟩
    · obtain ⟨j, hj⟩ := ex_nat (show 0 ≤ -tn by omega)
      rw [t1.f8, hj]
      have f5 := five_le j
      have f6 := pw_mono (show 3 * j ≤ 2400 by omega)
      have f7 := pw_add_le (show 2400 ≤ 4199 by decide)
      have f8 : (0 : Int) < ((5 ^ j : Nat) : Int) := by have : 0 < 5 ^ j := Nat.pow_pos (by decide)
                                                        omega
      refine ⟨t1.ok, by decide, q1.1.ok, sp_mulFives q1 (by omega) (fit132 (t := 4200) (by omega) (by decide)) (fun h2 e2 q2 => ?_)⟩
      have b16 := pw_mono (show 1600 ≤ 4200 by decide)
      refine fin h2 v _ ((e1.mono (fun i hi => Or.inr hi)).tr (e2.mono (fun i hi => Or.inr hi))) (t1.mv e2 (by decide)) (v1.mv e2 (by decide) (by decide)) q2 (by omega) (by omega) (by omega) ?_ ?_
      · rw [show tn.toNat = 0 by omega]; rfl
      · rw [hj, Int.toNat_natCast, Int.one_mul, ten_52]
    · obtain ⟨j, rfl⟩ := ex_nat (show 0 ≤ tn by omega)
      rw [t1.f7]
      have f5 := five_le j
      have f6 := pw_mono (show 3 * j ≤ 1200 by omega)
      have f7 : v * ((5 ^ j : Nat) : Int) < 2 ^ 4200 := by
        have g1 : v * ((5 ^ j : Nat) : Int) ≤ 2 ^ 1600 * 2 ^ 1200 := Int.mul_le_mul (by omega) (by omega) (Int.natCast_nonneg _) (Int.le_of_lt (pw_pos _))
        rw [pw2] at g1
        have := pw_add_le (show 1600 + 1200 ≤ 4199 by decide)
        omega
      refine ⟨t1.ok, by decide, v1.1.ok, sp_mulFives v1 (by omega) (fit132 f7 (by decide)) (fun h2 e2 q2 => ?_)⟩
      have b1 : (1 : Int) < 2 ^ 4200 := by have := pw_add_le (show 0 ≤ 4199 by decide); omega
      refine fin h2 _ 1 ((e1.mono (fun i hi => Or.inr hi)).tr (e2.mono (fun i hi => Or.inl hi))) (t1.mv e2 (by decide)) q2 (q1.mv e2 (by decide) (by decide)) (by decide) f7 b1 ?_ ?_
      · rw [Int.toNat_natCast, ten_52, Int.mul_assoc]
      · rw [show (-(j : Int)).toNat = 0 by omega]; rfl
  · have hbig : 10 ^ (-tn).toNat * 2 ^ 1024 ≤ v * 10 ^ tn.toNat := by
      have a1 : (10 : Int) ^ (-tn).toNat * 2 ^ 1024 ≤ 10 ^ (-tn).toNat * 10 ^ 310 := Int.mul_le_mul_of_nonneg_left t310 (Int.le_of_lt (t_pos _))
      have a2 : (10 : Int) ^ (s.toNat - 1) * 10 ^ tn.toNat ≤ v * 10 ^ tn.toNat := Int.mul_le_mul_of_nonneg_right hs2.2.1 (Int.le_of_lt (t_pos _))
      rw [← Int.pow_add] at a1 a2
      have := t_mono (show (-tn).toNat + 310 ≤ s.toNat - 1 + tn.toNat by omega)
      omega
    obtain ⟨e, m, hn, he⟩ := nr_big (t_pos _) hbig
    exact hp h1 e m v w (m0 e1) hn (Or.inr ⟨by split <;> omega, _, _, t1⟩) (qv.mv e1 (by decide) (by decide)) (qw.mv e1 (by decide) (by decide))
  · have htn : tn.toNat = 0 := by omega
    rw [htn, Int.pow_zero, Int.mul_one]
    have a1 : v * 2 ^ 1075 < 10 ^ s.toNat * 10 ^ 325 := Int.mul_lt_mul hs2.2.2 (Int.le_of_lt t325) (pw_pos _) (Int.le_of_lt (t_pos _))
    rw [← Int.pow_add] at a1
    have a2 := t_mono (show s.toNat + 325 ≤ (-tn).toNat by omega)
    have a3 : v * 2 ^ 1075 = 2 * (v * 2 ^ 1074) := by rw [show 1075 = 1074 + 1 from rfl, Int.pow_succ, ← Int.mul_assoc, Int.mul_comm _ 2]
    omega
