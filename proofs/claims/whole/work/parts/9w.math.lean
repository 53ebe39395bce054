/-! THE SHORTEST DIGITS: that they are, and the same for both -/
theorem lv_k {ev x y k : Int} (hk : 0 < k) : lv ev (x * k) (y * k) ↔ lv ev x y := by
  unfold lv
  constructor
  · rintro (h | ⟨h0, h⟩)
    · exact Or.inl (Int.lt_of_mul_lt_mul_right h (Int.le_of_lt hk))
    · exact Or.inr ⟨h0, Int.eq_of_mul_eq_mul_right (by omega) h⟩
  · rintro (h | ⟨h0, h⟩)
    · exact Or.inl (Int.mul_lt_mul_of_pos_right h hk)
    · exact Or.inr ⟨h0, by rw [h]⟩
theorem nr_k {w m q k : Int} (hk : 0 < k) : nr (m * k) (w * k) q ↔ nr m w q := by
  unfold nr
  rw [← Int.mul_assoc]
  constructor
  · rintro (h | ⟨h, h0⟩)
    · exact Or.inl (Int.lt_of_mul_lt_mul_right h (Int.le_of_lt hk))
    · exact Or.inr ⟨Int.eq_of_mul_eq_mul_right (by omega) h, h0⟩
  · rintro (h | ⟨h, h0⟩)
    · exact Or.inl (Int.mul_lt_mul_of_pos_right h hk)
    · exact Or.inr ⟨by rw [h], h0⟩
theorem dg_k {w r q m k : Int} (hk : 0 < k) : dgR (r * k) (w * k) q (m * k) ↔ dgR r w q m := by
  unfold dgR
  have e1 : 10 * (r * k) - q * (w * k) = (10 * r - q * w) * k := by rw [Int.sub_mul, Int.mul_assoc, Int.mul_assoc]
  rw [e1]
  constructor
  · rintro ⟨a, b, c, d, e⟩
    refine ⟨a, b, Int.eq_of_mul_eq_mul_right (by omega) c, ?_, ?_⟩
    · rcases Int.lt_or_le m 0 with y | y
      · have := Int.mul_lt_mul_of_pos_right y hk; rw [Int.zero_mul] at this; omega
      · exact y
    · rcases e with e | e
      · exact Or.inl e
      · exact Or.inr (Int.lt_of_mul_lt_mul_right e (Int.le_of_lt hk))
  · rintro ⟨a, b, c, d, e⟩
    refine ⟨a, b, by rw [c], Int.mul_nonneg d (Int.le_of_lt hk), ?_⟩
    rcases e with e | e
    · exact Or.inl e
    · exact Or.inr (Int.mul_lt_mul_of_pos_right e hk)
theorem gen_k {w ev k : Int} (hk : 0 < k) : ∀ (L : List Int) (r a b : Int), genR (w * k) ev L (r * k) (a * k) (b * k) ↔ genR w ev L r a b
  | [], _, _, _ => Iff.rfl
  | d :: L, r, a, b => by
    have l1 : ∀ m : Int, lv ev (m * k) (10 * (b * k)) ↔ lv ev m (10 * b) := fun m => by rw [← Int.mul_assoc]; exact lv_k hk
    have l2 : ∀ m : Int, lv ev (w * k) (m * k + 10 * (a * k)) ↔ lv ev w (m + 10 * a) := fun m => by rw [← Int.mul_assoc, ← Int.add_mul]; exact lv_k hk
    have l3 : ∀ m : Int, genR (w * k) ev L (m * k) (10 * (a * k)) (10 * (b * k)) ↔ genR w ev L m (10 * a) (10 * b) := fun m => by rw [← Int.mul_assoc, ← Int.mul_assoc]; exact gen_k hk L m (10 * a) (10 * b)
    constructor
    · rintro ⟨q, m', hd, hc⟩
      obtain ⟨m, hm⟩ : ∃ m, m' = m * k := ⟨10 * r - q * w, by rw [hd.2.2.1, Int.sub_mul, Int.mul_assoc, Int.mul_assoc]⟩
      subst hm
      rw [l1, l2, l3, nr_k hk] at hc
      exact ⟨q, m, (dg_k hk).1 hd, hc⟩
    · rintro ⟨q, m, hd, hc⟩
      refine ⟨q, m * k, (dg_k hk).2 hd, ?_⟩
      rw [l1, l2, l3, nr_k hk]
      exact hc
/-- the same digits, where the four are in proportion -/
theorem gen_pr {w ev w' r a b r' a' b' : Int} {L : List Int} (hw : 0 < w) (hw' : 0 < w') (hr : r' * w = r * w') (ha : a' * w = a * w') (hb : b' * w = b * w') (h : genR w ev L r a b) : genR w' ev L r' a' b' := by
  have h1 := (gen_k (k := w') hw' L r a b).2 h
  rw [← hr, ← ha, ← hb, Int.mul_comm w w'] at h1
  exact (gen_k (k := w) hw L r' a' b').1 h1
theorem gen_ex {w ev : Int} (hw : 0 < w) : ∀ (n : Nat) (r a b : Int), w < 10 ^ (n + 1) * (a + b) → 0 ≤ r → r < w → 0 < a → 0 < b → ¬ lv ev w (r + a) → ∃ L : List Int, L.length ≤ n + 1 ∧ genR w ev L r a b ∧ ∀ x, x ∈ L → 0 ≤ x ∧ x ≤ 9 := by
  intro n
  induction n with
  | zero =>
    intro r a b hlt h0 h1 ha hb hre
    obtain ⟨q, m, hd⟩ : ∃ q m, dgR r w q m := by
      have e1 := Int.mul_ediv_add_emod (10 * r) w
      have e2 := Int.emod_nonneg (10 * r) (show w ≠ 0 by omega)
      have e3 := Int.emod_lt_of_pos (10 * r) hw
      have e4 : 10 * r / w < 10 := by
        rcases Int.lt_or_le (10 * r / w) 10 with y | y
        · exact y
        · have := Int.mul_le_mul_of_nonneg_left y (Int.le_of_lt hw); omega
      exact ⟨10 * r / w, 10 * r % w, Int.ediv_nonneg (by omega) (by omega), by omega, by rw [Int.mul_comm w] at e1; omega, e2, Or.inr e3⟩
    have hend : lv ev m (10 * b) ∨ lv ev w (m + 10 * a) := by
      rw [Int.pow_succ, Int.pow_zero, Int.one_mul, Int.mul_add] at hlt
      unfold lv; omega
    have hq : lv ev w (m + 10 * a) → q ≤ 8 := by
      intro y
      rcases (show q ≤ 8 ∨ q = 9 by have := hd.2.1; omega) with y2 | y2
      · exact y2
      · exfalso
        apply hre
        have := hd.2.2.1
        rw [y2] at this
        unfold lv at y ⊢; omega
    by_cases g : lv ev w (m + 10 * a) ∧ (¬ lv ev m (10 * b) ∨ nr m w q)
    · refine ⟨[q + 1], by simp, ⟨q, m, hd, Or.inr ⟨hend, rfl, Or.inl ⟨g.1, g.2, rfl⟩⟩⟩, fun x hx => ?_⟩
      rw [List.mem_singleton] at hx
      have := hq g.1; have := hd.1; omega
    · refine ⟨[q], by simp, ⟨q, m, hd, Or.inr ⟨hend, rfl, Or.inr ⟨g, rfl⟩⟩⟩, fun x hx => ?_⟩
      rw [List.mem_singleton] at hx
      have := hd.1; have := hd.2.1; omega
  | succ n ih =>
    intro r a b hlt h0 h1 ha hb hre
    obtain ⟨q, m, hd, hmw⟩ : ∃ q m, dgR r w q m ∧ m < w := by
      have e1 := Int.mul_ediv_add_emod (10 * r) w
      have e2 := Int.emod_nonneg (10 * r) (show w ≠ 0 by omega)
      have e3 := Int.emod_lt_of_pos (10 * r) hw
      have e4 : 10 * r / w < 10 := by
        rcases Int.lt_or_le (10 * r / w) 10 with y | y
        · exact y
        · have := Int.mul_le_mul_of_nonneg_left y (Int.le_of_lt hw); omega
      exact ⟨10 * r / w, 10 * r % w, ⟨Int.ediv_nonneg (by omega) (by omega), by omega, by rw [Int.mul_comm w] at e1; omega, e2, Or.inr e3⟩, e3⟩
    have hq : lv ev w (m + 10 * a) → q ≤ 8 := by
      intro y
      rcases (show q ≤ 8 ∨ q = 9 by have := hd.2.1; omega) with y2 | y2
      · exact y2
      · exfalso
        apply hre
        have := hd.2.2.1
        rw [y2] at this
        unfold lv at y ⊢; omega
    by_cases hend : lv ev m (10 * b) ∨ lv ev w (m + 10 * a)
    · by_cases g : lv ev w (m + 10 * a) ∧ (¬ lv ev m (10 * b) ∨ nr m w q)
      · refine ⟨[q + 1], by simp, ⟨q, m, hd, Or.inr ⟨hend, rfl, Or.inl ⟨g.1, g.2, rfl⟩⟩⟩, fun x hx => ?_⟩
        rw [List.mem_singleton] at hx
        have := hq g.1; have := hd.1; omega
      · refine ⟨[q], by simp, ⟨q, m, hd, Or.inr ⟨hend, rfl, Or.inr ⟨g, rfl⟩⟩⟩, fun x hx => ?_⟩
        rw [List.mem_singleton] at hx
        have := hd.1; have := hd.2.1; omega
    · have e1 : (10 : Int) ^ (n + 1 + 1) * (a + b) = 10 ^ (n + 1) * (10 * a + 10 * b) := by
        rw [Int.pow_succ 10 (n + 1), Int.mul_assoc, Int.mul_add 10 a b]
      rw [e1] at hlt
      obtain ⟨L, l1, l2, l3⟩ := ih m (10 * a) (10 * b) hlt hd.2.2.2.1 hmw (by omega) (by omega) (fun y => hend (Or.inr y))
      refine ⟨q :: L, by rw [List.length_cons]; omega, ⟨q, m, hd, Or.inl ⟨hend, rfl, l2⟩⟩, fun x hx => ?_⟩
      rcases List.mem_cons.1 hx with y | y
      · have := hd.1; have := hd.2.1; omega
      · exact l3 x y
theorem t10 (k : Nat) : (10 : Int) ^ k = 2 ^ k * 5 ^ k := by rw [show (10 : Int) = 2 * 5 from rfl, Int.mul_pow]
theorem f5 (k : Nat) : ((5 ^ k : Nat) : Int) = (5 : Int) ^ k := by rw [Int.natCast_pow]; rfl
theorem mm {x y x' y' u v u' v' : Nat} (h1 : x + x' = u + u') (h2 : y + y' = v + v') : ((2 : Int) ^ x * 5 ^ y) * (2 ^ x' * 5 ^ y') = (2 ^ u * 5 ^ v) * (2 ^ u' * 5 ^ v') := by
  have e : ∀ a b c d : Nat, ((2 : Int) ^ a * 5 ^ b) * (2 ^ c * 5 ^ d) = 2 ^ (a + c) * 5 ^ (b + d) := fun a b c d => by
    rw [Int.pow_add, Int.pow_add]; ac_rfl
  rw [e, e, h1, h2]
theorem kM_12 (c q : Int) : kM c q = 1 ∧ nbf c q = 0 ∨ kM c q = 2 ∧ nbf c q ≠ 0 := by
  unfold kM; split
  · exact Or.inl ⟨rfl, by assumption⟩
  · exact Or.inr ⟨rfl, by assumption⟩
theorem WM_n (c q p : Int) : WM c q p = 2 ^ ((-q).toNat + kM c q + p.toNat) * 5 ^ p.toNat := by
  unfold WM; rw [t10, Int.pow_add 2 _ p.toNat]; ac_rfl
theorem RM_n (c q p : Int) : RM c q p = c * (2 ^ (q.toNat + kM c q + (-p).toNat) * 5 ^ (-p).toNat) := by
  unfold RM; rw [t10, Int.pow_add 2 _ (-p).toNat]; ac_rfl
theorem BM_n (c q p : Int) : BM c q p = 2 ^ (q.toNat + (-p).toNat) * 5 ^ (-p).toNat := by
  unfold BM; rw [t10, Int.pow_add 2 _ (-p).toNat]; ac_rfl
theorem AM_n (c q p : Int) : AM c q p = 2 ^ (kM c q - 1 + q.toNat + (-p).toNat) * 5 ^ (-p).toNat := by
  unfold AM
  rw [t10, Int.pow_add 2 _ (-p).toNat, Int.pow_add 2 _ q.toNat]
  rcases kM_12 c q with ⟨y1, y2⟩ | ⟨y1, y2⟩
  · rw [y1, if_pos y2, Int.pow_zero]; ac_rfl
  · rw [y1, if_neg y2, show (2 : Int) ^ (2 - 1) = 2 by decide]; ac_rfl
theorem W0_n (c q : Int) (k : Nat) : W0 c q * 10 ^ k = 2 ^ ((-(q - P0 c q)).toNat + 2 + k) * 5 ^ ((P0 c q).toNat + k) := by
  unfold W0; rw [t10, f5, Int.pow_add 2 _ k, Int.pow_add 5 _ k]; ac_rfl
theorem R0_n (c q : Int) : R0 c q = c * (2 ^ ((q - P0 c q).toNat + 2) * 5 ^ (-P0 c q).toNat) := by
  unfold R0; rw [f5]; ac_rfl
theorem A0_n (c q : Int) : A0 c q = 2 ^ ((q - P0 c q).toNat + 1) * 5 ^ (-P0 c q).toNat := by
  unfold A0; rw [f5]
theorem B0_n (c q : Int) : B0 c q = 2 ^ ((q - P0 c q).toNat + (2 - kM c q)) * 5 ^ (-P0 c q).toNat := by
  unfold B0; rw [f5]
  rcases kM_12 c q with ⟨y1, y2⟩ | ⟨y1, y2⟩
  · rw [y1, if_pos y2]
  · rw [y1, if_neg y2]
theorem pr_R {c q p : Int} {k : Nat} (hp : p = P0 c q + k) : R0 c q * WM c q p = RM c q p * (W0 c q * 10 ^ k) := by
  rw [R0_n, WM_n, RM_n, W0_n, Int.mul_assoc c, Int.mul_assoc c]
  exact congrArg (fun z => c * z) (mm (by omega) (by omega))
theorem pr_A {c q p : Int} {k : Nat} (hp : p = P0 c q + k) : A0 c q * WM c q p = AM c q p * (W0 c q * 10 ^ k) := by
  have := kM_12 c q
  rw [A0_n, WM_n, AM_n, W0_n]
  exact mm (by omega) (by omega)
theorem pr_B {c q p : Int} {k : Nat} (hp : p = P0 c q + k) : B0 c q * WM c q p = BM c q p * (W0 c q * 10 ^ k) := by
  have := kM_12 c q
  rw [B0_n, WM_n, BM_n, W0_n]
  exact mm (by omega) (by omega)
theorem p25 (x y : Nat) : (0 : Int) < 2 ^ x * 5 ^ y := Int.mul_pos (Int.pow_pos (by decide)) (Int.pow_pos (by decide))
theorem WM_pos (c q p : Int) : 0 < WM c q p := by rw [WM_n]; exact p25 _ _
theorem AM_pos (c q p : Int) : 0 < AM c q p := by rw [AM_n]; exact p25 _ _
theorem BM_pos (c q p : Int) : 0 < BM c q p := by rw [BM_n]; exact p25 _ _
theorem W0_pos (c q : Int) (k : Nat) : 0 < W0 c q * 10 ^ k := by rw [W0_n]; exact p25 _ _
theorem A0_pos (c q : Int) : 0 < A0 c q := by rw [A0_n]; exact p25 _ _
theorem RM_A (c q p : Int) : RM c q p = 2 * c * AM c q p := by
  rw [RM_n, AM_n]
  have hk := kM_12 c q
  rw [show q.toNat + kM c q + (-p).toNat = kM c q - 1 + q.toNat + (-p).toNat + 1 by omega, Int.pow_succ]; ac_rfl
theorem BM_A (c q p : Int) : BM c q p ≤ AM c q p := by
  rw [BM_n, AM_n]
  exact Int.mul_le_mul_of_nonneg_right (pw_mono (by omega)) (Int.le_of_lt (Int.pow_pos (by decide)))
theorem short_core {c q p : Int} (hc : 0 < c) (hc2 : c < 9007199254740992) (hp0 : -400 ≤ p) (hp1 : p ≤ 400) (hR : RM c q p < WM c q p) (hW : WM c q p ≤ 10 * RM c q p) {k : Nat} (hk : k ≤ 1) (hp : p = P0 c q + k) (hsm : 10 ≤ c ∨ (lv (evf c) (WM c q p) (RM c q p + AM c q p) → genR (WM c q p) (evf c) [10] (RM c q p) (AM c q p) (BM c q p))) : ∃ D L pt, shR c q p D L pt ∧ findR c q L pt ∧ (∀ i, 0 ≤ L.getD i 0 ∧ L.getD i 0 ≤ 20) ∧ -500 ≤ pt ∧ pt ≤ 500 := by
  have eR := pr_R hp
  have eA := pr_A hp
  have eB := pr_B hp
  have pW := WM_pos c q p
  have pA := AM_pos c q p
  have pB := BM_pos c q p
  have pY := W0_pos c q k
  have pA0 := A0_pos c q
  have eRA := RM_A c q p
  have eBA := BM_A c q p
  generalize hev : evf c = ev at *
  -- before the point is right
  have before : ∀ j : Nat, j < k → lv ev (W0 c q * 10 ^ j) (R0 c q + A0 c q) := by
    intro j hj
    have hk1 : k = 1 := by omega
    have hj0 : j = 0 := by omega
    subst hk1 hj0
    have h1 : W0 c q * 10 ^ 1 * WM c q p ≤ 10 * R0 c q * WM c q p := by
      have h2 := Int.mul_le_mul_of_nonneg_right hW (Int.le_of_lt pY)
      rw [Int.mul_assoc 10, ← eR] at h2
      rw [Int.mul_assoc 10, Int.mul_comm (W0 c q * 10 ^ 1)]; exact h2
    have h3 := Int.le_of_mul_le_mul_right h1 pW
    rw [Int.pow_succ, Int.pow_zero, Int.one_mul] at h3
    rw [Int.pow_zero, Int.mul_one]
    exact Or.inl (by omega)
  have reachE : lv ev (W0 c q * 10 ^ k) (R0 c q + A0 c q) ↔ lv ev (WM c q p) (RM c q p + AM c q p) := by
    rw [← lv_k (k := WM c q p) pW, Int.add_mul, eR, eA, ← Int.add_mul, Int.mul_comm (W0 c q * 10 ^ k), lv_k pY]
  by_cases hre : lv ev (WM c q p) (RM c q p + AM c q p)
  · -- it reaches the next power of ten
    have hRA2 : 2 * AM c q p ≤ RM c q p := by
      rw [eRA]
      exact Int.mul_le_mul_of_nonneg_right (by omega) (Int.le_of_lt pA)
    have hgM : genR (WM c q p) ev [10] (RM c q p) (AM c q p) (BM c q p) := by
      rcases hsm with h10 | h10
      · have h20 : 20 * AM c q p ≤ RM c q p := by
          rw [eRA]
          exact Int.mul_le_mul_of_nonneg_right (by omega) (Int.le_of_lt pA)
        have hle : WM c q p ≤ RM c q p + AM c q p := by unfold lv at hre; omega
        refine ⟨9, 10 * RM c q p - 9 * WM c q p, ⟨by decide, by decide, rfl, by omega, Or.inl rfl⟩, Or.inr ⟨Or.inr ?_, rfl, Or.inl ⟨?_, Or.inl ?_, rfl⟩⟩⟩
        · unfold lv at hre ⊢; omega
        · unfold lv at hre ⊢; omega
        · unfold lv; omega
      · exact h10 hre
    refine ⟨[10], [1], p + 1, ⟨hp0, hp1, hR, hW, by rw [hev]; exact hgM, by decide, Or.inl ⟨rfl, rfl, rfl⟩⟩, Or.inr ⟨hc, k + 1, by omega, by omega, ?_, Or.inr ?_, by decide, ?_⟩, ?_, by omega, by omega⟩
    · rw [hev]
      intro j hj
      rcases Nat.lt_or_ge j k with y | y
      · exact before j y
      · rw [show j = k by omega]; exact reachE.2 hre
    · rw [hev]
      intro y
      have h1 : (lv ev (W0 c q * 10 ^ (k + 1) * WM c q p) ((R0 c q + A0 c q) * WM c q p)) := (lv_k pW).2 y
      rw [Int.add_mul, eR, eA, ← Int.add_mul, Int.pow_succ, ← Int.mul_assoc, show W0 c q * 10 ^ k * 10 * WM c q p = (10 * WM c q p) * (W0 c q * 10 ^ k) by ac_rfl, lv_k pY] at h1
      unfold lv at h1; omega
    · rw [hev]
      have hg1 : genR (10 * WM c q p) ev [1] (RM c q p) (AM c q p) (BM c q p) := by
        refine ⟨0, 10 * RM c q p, ⟨by decide, by decide, by omega, by omega, Or.inr (by omega)⟩, Or.inr ⟨Or.inr ?_, rfl, Or.inl ⟨?_, Or.inl ?_, rfl⟩⟩⟩
        · unfold lv at hre ⊢; omega
        · unfold lv at hre ⊢; omega
        · unfold lv; omega
      have up10 : ∀ X Y : Int, X * WM c q p = Y * (W0 c q * 10 ^ k) → X * (10 * WM c q p) = Y * (W0 c q * 10 ^ (k + 1)) := by
        intro X Y e
        rw [Int.pow_succ, ← Int.mul_assoc (W0 c q), ← Int.mul_assoc Y, ← e]; ac_rfl
      exact gen_pr (w := 10 * WM c q p) (by omega) (W0_pos c q (k + 1)) (up10 _ _ eR) (up10 _ _ eA) (up10 _ _ eB) hg1
    · intro i
      rcases Nat.eq_zero_or_pos i with y | y
      · subst y; decide
      · rw [List.getD_eq_getElem?_getD, List.getElem?_eq_none (by simp; omega)]; decide
  · have hlt : WM c q p < 10 ^ (19 + 1) * (AM c q p + BM c q p) := by
      have h1 : 20 * c * AM c q p ≤ 10 ^ (19 + 1) * AM c q p := Int.mul_le_mul_of_nonneg_right (by have : (10 : Int) ^ (19 + 1) = 100000000000000000000 := by decide
                                                                                                   omega) (Int.le_of_lt pA)
      have h2 : (0 : Int) < 10 ^ (19 + 1) * BM c q p := Int.mul_pos (by decide) pB
      rw [Int.mul_add]
      rw [show 20 * c * AM c q p = 10 * (2 * c * AM c q p) by rw [show (20 : Int) = 10 * 2 from rfl]; ac_rfl, ← eRA] at h1
      omega
    have hr0 : 0 ≤ RM c q p := by rw [eRA]; exact Int.mul_nonneg (by omega) (Int.le_of_lt pA)
    obtain ⟨D, l1, l2, l3⟩ := gen_ex pW 19 (RM c q p) (AM c q p) (BM c q p) hlt hr0 hR pA pB hre
    refine ⟨D, D, p, ⟨hp0, hp1, hR, hW, by rw [hev]; exact l2, l1, Or.inr ⟨rfl, rfl, fun x hx => (l3 x hx).2⟩⟩, Or.inr ⟨hc, k, by omega, hp, by rw [hev]; exact before, Or.inr ?_, l1, ?_⟩, ?_, by omega, by omega⟩
    · rw [hev]; exact fun y => hre (reachE.1 y)
    · rw [hev]; exact gen_pr pW pY eR eA eB l2
    · intro i
      rcases Nat.lt_or_ge i D.length with y | y
      · have := l3 (D.getD i 0) (by rw [List.getD_eq_getElem?_getD, List.getElem?_eq_getElem y]; exact List.getElem_mem y)
        omega
      · rw [List.getD_eq_getElem?_getD, List.getElem?_eq_none y]; decide
