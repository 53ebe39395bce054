/-! THE SHORTEST DIGITS: the place of the first digit -/
def tpP (t : Int) : Int := t * 30103 / 100000 + 1
def tpB (t : Int) : Bool := decide (10 ^ (tpP t - 1).toNat * 2 ^ (-t).toNat ≤ 2 ^ t.toNat * 10 ^ (1 - tpP t).toNat) && decide (2 ^ (t + 1).toNat * 10 ^ (-(tpP t + 1)).toNat < 10 ^ (tpP t + 1).toNat * 2 ^ (-(t + 1)).toNat)
theorem tp_all : (List.range 2098).all (fun i => tpB ((i : Int) - 1074)) = true := by decide +kernel
theorem tp_of {t : Int} (h0 : -1074 ≤ t) (h1 : t ≤ 1023) : (10 : Int) ^ (tpP t - 1).toNat * 2 ^ (-t).toNat ≤ 2 ^ t.toNat * 10 ^ (1 - tpP t).toNat ∧ (2 : Int) ^ (t + 1).toNat * 10 ^ (-(tpP t + 1)).toNat < 10 ^ (tpP t + 1).toNat * 2 ^ (-(t + 1)).toNat := by
  have h := List.all_eq_true.1 tp_all (t + 1074).toNat (List.mem_range.2 (by omega))
  rw [show (((t + 1074).toNat : Nat) : Int) - 1074 = t by omega] at h
  unfold tpB at h
  rw [Bool.and_eq_true, decide_eq_true_eq, decide_eq_true_eq] at h
  exact ⟨by exact_mod_cast h.1, by exact_mod_cast h.2⟩
/-- places of the least numbers -/
def smB (c p : Int) : Bool := decide (¬ RM c (-1074) p < WM c (-1074) p) || (decide (¬ WM c (-1074) p < RM c (-1074) p + AM c (-1074) p) && decide (¬ WM c (-1074) p = RM c (-1074) p + AM c (-1074) p)) || (decide (c = 2) && decide (p = -323))
theorem sm_all : (List.range 9).all (fun i => smB ((i : Int) + 1) (P0 ((i : Int) + 1) (-1074)) && smB ((i : Int) + 1) (P0 ((i : Int) + 1) (-1074) + 1)) = true := by decide +kernel
theorem sm_2 : genR (WM 2 (-1074) (-323)) (evf 2) [10] (RM 2 (-1074) (-323)) (AM 2 (-1074) (-323)) (BM 2 (-1074) (-323)) :=
  ⟨9, 10 * RM 2 (-1074) (-323) - 9 * WM 2 (-1074) (-323), ⟨by decide, by decide, rfl, by decide +kernel, Or.inl rfl⟩, Or.inr ⟨Or.inr (Or.inl (by decide +kernel)), rfl, Or.inl ⟨Or.inl (by decide +kernel), Or.inr (Or.inl (by decide +kernel)), rfl⟩⟩⟩
theorem sm_of {c q p : Int} (hc : 0 < c) (hc9 : c ≤ 9) (hq : q = -1074) (hp : p = P0 c q ∨ p = P0 c q + 1) (hR : RM c q p < WM c q p) (hl : lv (evf c) (WM c q p) (RM c q p + AM c q p)) : genR (WM c q p) (evf c) [10] (RM c q p) (AM c q p) (BM c q p) := by
  subst hq
  have h := List.all_eq_true.1 sm_all (c - 1).toNat (List.mem_range.2 (by omega))
  rw [show (((c - 1).toNat : Nat) : Int) + 1 = c by omega, Bool.and_eq_true] at h
  have h2 : smB c p = true := by
    rcases hp with y | y <;> rw [y]
    · exact h.1
    · exact h.2
  unfold smB at h2
  rw [Bool.or_eq_true, Bool.or_eq_true, Bool.and_eq_true, Bool.and_eq_true, decide_eq_true_eq, decide_eq_true_eq, decide_eq_true_eq, decide_eq_true_eq, decide_eq_true_eq] at h2
  rcases h2 with (y | ⟨y1, y2⟩) | ⟨y1, y2⟩
  · exact absurd hR y
  · rcases hl with y | y
    · exact absurd y y1
    · exact absurd y.2 y2
  · rw [y1, y2]; exact sm_2
theorem short_ex {c : Nat} {q : Int} (hcn : cnD c q) (hc : 0 < c) : ∃ p D L pt, shR (c : Int) q p D L pt ∧ findR (c : Int) q L pt ∧ (∀ i, 0 ≤ L.getD i 0 ∧ L.getD i 0 ≤ 20) ∧ -500 ≤ pt ∧ pt ≤ 500 := by
  obtain ⟨n1, n2, n3, n4⟩ := hcn
  obtain ⟨s, s1, s2⟩ := ex_bits (v := (c : Int)) (by omega)
  have hb := bl_of s1 s2
  have hs : s < 53 := by
    have e53 : (2 : Int) ^ 53 = 9007199254740992 := by decide
    exact pw_lt_of s1 (by omega)
  have hP : P0 (c : Int) q = tpP ((s : Int) + q) := by
    unfold P0 tpP; rw [hb, show (s : Int) + 1 + q - 1 = (s : Int) + q by omega]
  obtain ⟨H1, H2⟩ := tp_of (t := (s : Int) + q) (by omega) (by omega)
  rw [← hP] at H1 H2
  have hPb : -330 ≤ P0 (c : Int) q ∧ P0 (c : Int) q ≤ 320 := by rw [hP]; unfold tpP; omega
  have pos2 : ∀ x : Nat, (0 : Int) < 2 ^ x := fun x => pw_pos x
  have pos10 : ∀ x : Nat, (0 : Int) < 10 ^ x := fun x => Int.pow_pos (by decide)
  have e2t : ∀ x y x' y' u v u' v' : Nat, x + x' = u + u' → y + y' = v + v' → ((2 : Int) ^ x * 10 ^ y) * (2 ^ x' * 10 ^ y') = (2 ^ u * 10 ^ v) * (2 ^ u' * 10 ^ v') := by
    have e : ∀ a b c d : Nat, ((2 : Int) ^ a * 10 ^ b) * (2 ^ c * 10 ^ d) = 2 ^ (a + c) * 10 ^ (b + d) := fun a b c d => by
      rw [Int.pow_add, Int.pow_add]; ac_rfl
    intro x y x' y' u v u' v' h1 h2
    rw [e, e, h1, h2]
  -- the least power of ten
  have low : WM (c : Int) q (P0 (c : Int) q) ≤ 10 * RM (c : Int) q (P0 (c : Int) q) := by
    generalize P0 (c : Int) q = P at *
    have h3 : (2 : Int) ^ (s + (q.toNat + kM (c : Int) q)) * 10 ^ (1 + (-P).toNat) ≤ 10 * RM (c : Int) q P := by
      unfold RM
      rw [Int.pow_add 2 s, Int.pow_add 10 1, show (10 : Int) ^ 1 = 10 from rfl, show (10 : Int) * ((c : Int) * 2 ^ (q.toNat + kM (c : Int) q) * 10 ^ (-P).toNat) = (c : Int) * 2 ^ (q.toNat + kM (c : Int) q) * (10 * 10 ^ (-P).toNat) by ac_rfl]
      exact Int.mul_le_mul_of_nonneg_right (Int.mul_le_mul_of_nonneg_right s1 (Int.le_of_lt (pos2 _))) (Int.mul_nonneg (by decide) (Int.le_of_lt (pos10 _)))
    refine Int.le_trans ?_ h3
    unfold WM
    have hb0 : (0 : Int) < 2 ^ ((s : Int) + q).toNat * 10 ^ (1 - P).toNat := Int.mul_pos (pos2 _) (pos10 _)
    refine Int.le_of_mul_le_mul_right (a := 2 ^ ((s : Int) + q).toNat * 10 ^ (1 - P).toNat) ?_ hb0
    rw [e2t _ _ _ _ (s + (q.toNat + kM (c : Int) q)) (1 + (-P).toNat) (-((s : Int) + q)).toNat (P - 1).toNat (by omega) (by omega)]
    refine Int.mul_le_mul_of_nonneg_left ?_ (Int.mul_nonneg (Int.le_of_lt (pos2 _)) (Int.le_of_lt (pos10 _)))
    rw [Int.mul_comm (2 ^ (-((s : Int) + q)).toNat)]; exact H1
  -- the next
  have high : ∀ p, p = P0 (c : Int) q + 1 → RM (c : Int) q p < WM (c : Int) q p := by
    intro p hp
    rw [← hp] at H2
    have h3 : RM (c : Int) q p < 2 ^ (s + 1 + (q.toNat + kM (c : Int) q)) * 10 ^ (-p).toNat := by
      unfold RM
      rw [Int.pow_add 2 (s + 1)]
      exact Int.mul_lt_mul_of_pos_right (Int.mul_lt_mul_of_pos_right s2 (pos2 _)) (pos10 _)
    refine Int.lt_of_lt_of_le h3 ?_
    unfold WM
    have hb0 : (0 : Int) < 2 ^ (-((s : Int) + q + 1)).toNat * 10 ^ p.toNat := Int.mul_pos (pos2 _) (pos10 _)
    refine Int.le_of_mul_le_mul_right (a := 2 ^ (-((s : Int) + q + 1)).toNat * 10 ^ p.toNat) ?_ hb0
    rw [e2t _ _ _ _ ((-q).toNat + kM (c : Int) q) p.toNat ((s : Int) + q + 1).toNat (-p).toNat (by omega) (by omega)]
    refine Int.mul_le_mul_of_nonneg_left ?_ (Int.mul_nonneg (Int.le_of_lt (pos2 _)) (Int.le_of_lt (pos10 _)))
    rw [Int.mul_comm (2 ^ (-((s : Int) + q + 1)).toNat)]; exact Int.le_of_lt H2
  have next : WM (c : Int) q (P0 (c : Int) q) ≤ RM (c : Int) q (P0 (c : Int) q) → ∀ p, p = P0 (c : Int) q + 1 → WM (c : Int) q p ≤ 10 * RM (c : Int) q p := by
    intro hle p hp
    generalize P0 (c : Int) q = P at *
    have hrp : 0 < RM (c : Int) q P := Int.lt_of_lt_of_le (WM_pos _ _ _) hle
    refine Int.le_of_mul_le_mul_right (a := RM (c : Int) q P) ?_ hrp
    have e1 : WM (c : Int) q p * RM (c : Int) q P = 10 * RM (c : Int) q p * WM (c : Int) q P := by
      unfold WM RM
      have := e2t ((-q).toNat + kM (c : Int) q) p.toNat (q.toNat + kM (c : Int) q) (-P).toNat (q.toNat + kM (c : Int) q) ((-p).toNat + 1) ((-q).toNat + kM (c : Int) q) P.toNat (by omega) (by omega)
      rw [Int.pow_succ 10 (-p).toNat] at this
      calc _ = (c : Int) * ((2 ^ ((-q).toNat + kM (c : Int) q) * 10 ^ p.toNat) * (2 ^ (q.toNat + kM (c : Int) q) * 10 ^ (-P).toNat)) := by ac_rfl
        _ = (c : Int) * ((2 ^ (q.toNat + kM (c : Int) q) * (10 ^ (-p).toNat * 10)) * (2 ^ ((-q).toNat + kM (c : Int) q) * 10 ^ P.toNat)) := by rw [this]
        _ = _ := by ac_rfl
    rw [e1]
    exact Int.mul_le_mul_of_nonneg_left hle (Int.mul_nonneg (by decide) (by unfold RM; exact Int.mul_nonneg (Int.mul_nonneg (by omega) (Int.le_of_lt (pos2 _))) (Int.le_of_lt (pos10 _))))
  have hsm : ∀ p, (p = P0 (c : Int) q ∨ p = P0 (c : Int) q + 1) → RM (c : Int) q p < WM (c : Int) q p → (10 ≤ (c : Int) ∨ (lv (evf (c : Int)) (WM (c : Int) q p) (RM (c : Int) q p + AM (c : Int) q p) → genR (WM (c : Int) q p) (evf (c : Int)) [10] (RM (c : Int) q p) (AM (c : Int) q p) (BM (c : Int) q p))) := by
    intro p hp hR
    rcases Int.lt_or_le (c : Int) 10 with y | y
    · exact Or.inr (fun hl => sm_of (by omega) (by omega) (by omega) hp hR hl)
    · exact Or.inl y
  rcases Int.lt_or_le (RM (c : Int) q (P0 (c : Int) q)) (WM (c : Int) q (P0 (c : Int) q)) with g | g
  · exact ⟨P0 (c : Int) q, short_core (k := 0) (by omega) (by omega) (by omega) (by omega) g low (by decide) (by omega) (hsm _ (Or.inl rfl) g)⟩
  · have hR := high _ rfl
    exact ⟨P0 (c : Int) q + 1, short_core (k := 1) (by omega) (by omega) (by omega) (by omega) hR (next g _ rfl) (by decide) (by omega) (hsm _ (Or.inr rfl) hR)⟩
