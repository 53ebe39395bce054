/-! THE MODEL'S DECIMALS: the arithmetic -/
/-- how many of s characters are no points -/
def ndp (T : List Int) (p : Nat) : Nat → Nat
  | 0 => 0
  | s + 1 => ndp T p s + (if cd T ((p + s : Nat) : Int) = 46 then 0 else 1)
theorem gvl_nd {T : List Int} {b : Int} {p : Nat} {v : Int} (hb : 2 ≤ b) (hv : 0 ≤ v) : ∀ {s : Nat}, dgp T b p s → v * b ^ ndp T p s ≤ gvl T b p v s ∧ gvl T b p v s < (v + 1) * b ^ ndp T p s
  | 0, _ => by
    show v * b ^ 0 ≤ v ∧ v < (v + 1) * b ^ 0
    rw [Int.pow_zero, Int.mul_one, Int.mul_one]; omega
  | s + 1, h => by
    obtain ⟨i0, i1⟩ := gvl_nd hb hv (s := s) (fun j hj => h j (by omega))
    have hst : gvl T b p v (s + 1) = if cd T ((p + s : Nat) : Int) = 46 then gvl T b p v s else gvl T b p v s * b + dv b (cd T ((p + s : Nat) : Int)) := rfl
    have hnd : ndp T p (s + 1) = ndp T p s + (if cd T ((p + s : Nat) : Int) = 46 then 0 else 1) := rfl
    rw [hst, hnd]
    split
    · exact ⟨i0, i1⟩
    · rename_i hne
      have h0 : 0 ≤ dv b (cd T ((p + s : Nat) : Int)) := by
        rcases h s (by omega) with z | z
        · exact absurd z hne
        · exact z
      have h3 := (dv_bd b (cd T ((p + s : Nat) : Int))).2.2 h0
      have e1 : v * b ^ (ndp T p s + 1) = v * b ^ ndp T p s * b := by rw [Int.pow_succ, Int.mul_assoc]
      have e2 : (v + 1) * b ^ (ndp T p s + 1) = (v + 1) * b ^ ndp T p s * b := by rw [Int.pow_succ, Int.mul_assoc]
      have h4 := Int.mul_le_mul_of_nonneg_right i0 (show 0 ≤ b by omega)
      have h5 := Int.mul_le_mul_of_nonneg_right (show gvl T b p v s + 1 ≤ (v + 1) * b ^ ndp T p s by omega) (show 0 ≤ b by omega)
      rw [Int.add_mul, Int.one_mul] at h5
      rw [e1, e2]; omega
theorem gvl_tz {T : List Int} {p : Nat} {v : Int} : ∀ {s : Nat}, (∀ j, j < s → cd T ((p + j : Nat) : Int) = 48 ∨ cd T ((p + j : Nat) : Int) = 46) → gvl T 10 p v s = v * 10 ^ ndp T p s
  | 0, _ => by show v = v * 10 ^ 0; rw [Int.pow_zero, Int.mul_one]
  | s + 1, h => by
    have ih := gvl_tz (v := v) (s := s) (fun j hj => h j (by omega))
    have hst : gvl T 10 p v (s + 1) = if cd T ((p + s : Nat) : Int) = 46 then gvl T 10 p v s else gvl T 10 p v s * 10 + dv 10 (cd T ((p + s : Nat) : Int)) := rfl
    have hnd : ndp T p (s + 1) = ndp T p s + (if cd T ((p + s : Nat) : Int) = 46 then 0 else 1) := rfl
    rw [hst, hnd]
    rcases h s (by omega) with z | z
    · rw [if_neg (by rw [z]; decide), if_neg (by rw [z]; decide), z, ih, Int.pow_succ, ← Int.mul_assoc]
      have : dv 10 48 = 0 := by decide
      rw [this]; omega
    · rw [if_pos z, if_pos z, ih]; rfl
/-- the shape of a decimal: r digits at p, perhaps a point at p + r with r2 digits behind it, up to e -/
def decS (T : List Int) (p r r2 e : Nat) (pt : Int) : Prop := (∀ j, j < r → 0 ≤ dv 10 (cd T ((p + j : Nat) : Int))) ∧ ((pt = -1 ∧ r2 = 0 ∧ e = p + r) ∨ (pt = ((p + r : Nat) : Int) ∧ e = p + r + 1 + r2 ∧ cd T ((p + r : Nat) : Int) = 46 ∧ ∀ j, j < r2 → 0 ≤ dv 10 (cd T ((p + r + 1 + j : Nat) : Int))))
theorem dv_46 : dv 10 46 = -1 := by decide
theorem gvl_dvl {T : List Int} {b : Int} {p : Nat} {v : Int} : ∀ {r : Nat}, (∀ j, j < r → cd T ((p + j : Nat) : Int) ≠ 46) → gvl T b p v r = dvl T b p v r
  | 0, _ => rfl
  | r + 1, h => by
    show (if cd T ((p + r : Nat) : Int) = 46 then gvl T b p v r else gvl T b p v r * b + dv b (cd T ((p + r : Nat) : Int))) = dvl T b p v r * b + dv b (cd T ((p + r : Nat) : Int))
    rw [if_neg (h r (by omega)), gvl_dvl (fun j hj => h j (by omega))]
theorem decS.pt {T : List Int} {p r r2 e : Nat} {pt : Int} (h : decS T p r r2 e pt) {j : Nat} (h0 : p ≤ j) (h1 : j < e) : (cd T (j : Int) = 46 ↔ pt = (j : Int)) ∧ (cd T (j : Int) = 46 ∨ 0 ≤ dv 10 (cd T (j : Int))) := by
  obtain ⟨hd, hc⟩ := h
  have nd : ∀ i : Nat, 0 ≤ dv 10 (cd T (i : Int)) → cd T (i : Int) ≠ 46 := fun i hi z => by rw [z, dv_46] at hi; omega
  rcases Nat.lt_or_ge j (p + r) with g | g
  · have := hd (j - p) (by omega)
    rw [show p + (j - p) = j by omega] at this
    refine ⟨⟨fun z => absurd z (nd j this), fun z => ?_⟩, Or.inr this⟩
    rcases hc with y | y
    · omega
    · omega
  · rcases hc with ⟨y1, y2, y3⟩ | ⟨y1, y2, y3, y4⟩
    · omega
    · rcases Nat.lt_or_ge (p + r) j with g2 | g2
      · have := y4 (j - (p + r + 1)) (by omega)
        rw [show p + r + 1 + (j - (p + r + 1)) = j by omega] at this
        exact ⟨⟨fun z => absurd z (nd j this), fun z => by omega⟩, Or.inr this⟩
      · have : j = p + r := by omega
        subst this
        exact ⟨⟨fun _ => y1, fun _ => y3⟩, Or.inl y3⟩
theorem decS.nd {T : List Int} {p r r2 e : Nat} {pt : Int} (h : decS T p r r2 e pt) {f : Nat} (hf : p ≤ f) : ∀ {s : Nat}, f + s ≤ e → (ndp T f s : Int) = s - (if (f : Int) ≤ pt ∧ pt < ((f + s : Nat) : Int) then 1 else 0)
  | 0, _ => by
    rw [if_neg (by omega)]; rfl
  | s + 1, hs => by
    have ih := decS.nd h hf (s := s) (by omega)
    have hp := (h.pt (j := f + s) (by omega) (by omega)).1
    show ((ndp T f s + (if cd T ((f + s : Nat) : Int) = 46 then 0 else 1) : Nat) : Int) = _
    by_cases g : cd T ((f + s : Nat) : Int) = 46
    · have hpe := hp.mp g
      rw [if_neg (by omega)] at ih
      rw [if_pos g, if_pos (by omega)]
      omega
    · have hpe : pt ≠ ((f + s : Nat) : Int) := fun z => g (hp.mpr z)
      rw [if_neg g]
      by_cases g2 : (f : Int) ≤ pt ∧ pt < ((f + s : Nat) : Int)
      · rw [if_pos g2] at ih
        rw [if_pos (by omega)]; omega
      · rw [if_neg g2] at ih
        rw [if_neg (by omega)]; omega
theorem decS.val {T : List Int} {p r r2 e : Nat} {pt : Int} (h : decS T p r r2 e pt) : p + r ≤ e ∧ gvl T 10 p 0 (e - p) = dvl T 10 (p + r + 1) (dvl T 10 p 0 r) r2 := by
  obtain ⟨hd, hc⟩ := h
  have nd : ∀ i : Nat, 0 ≤ dv 10 (cd T (i : Int)) → cd T (i : Int) ≠ 46 := fun i hi z => by rw [z, dv_46] at hi; omega
  have g1 : gvl T 10 p 0 r = dvl T 10 p 0 r := gvl_dvl (fun j hj => nd _ (hd j hj))
  rcases hc with ⟨y1, y2, y3⟩ | ⟨y1, y2, y3, y4⟩
  · refine ⟨by omega, ?_⟩
    subst y2
    rw [y3, show p + r - p = r by omega, g1]; rfl
  · refine ⟨by omega, ?_⟩
    rw [show e - p = r + 1 + r2 by omega, gvl_split, show p + (r + 1) = p + r + 1 by omega]
    have : gvl T 10 p 0 (r + 1) = dvl T 10 p 0 r := by
      show (if cd T ((p + r : Nat) : Int) = 46 then gvl T 10 p 0 r else _) = _
      rw [if_pos y3, g1]
    rw [this]
    exact gvl_dvl (fun j hj => nd _ (y4 j hj))
/-- the digits from the first to the last that is not 0 -/
theorem decS.cut {T : List Int} {p r r2 e f l : Nat} {pt : Int} (h : decS T p r r2 e pt) (hf0 : p ≤ f) (hfe : f ≤ e) (hz : ∀ j, p ≤ j → j < f → cd T (j : Int) = 48 ∨ cd T (j : Int) = 46) (hf1 : f = e ∨ ¬ (cd T (f : Int) = 48 ∨ cd T (f : Int) = 46)) (hl0 : f ≤ l) (hl1 : l ≤ e) (hz2 : ∀ j, l ≤ j → j < e → cd T (j : Int) = 48 ∨ cd T (j : Int) = 46) (hl2 : f < e → f < l) :
    dgp T 10 f (l - f) ∧ (ndp T f (l - f) : Int) = (l : Int) - f - (if (f : Int) ≤ pt ∧ pt < (l : Int) then 1 else 0) ∧
    (∃ tz : Nat, gvl T 10 p 0 (e - p) = gvl T 10 f 0 (l - f) * 10 ^ tz ∧ (tz : Int) = (r2 : Int) + (if (l : Int) ≤ ((p + r : Nat) : Int) then ((p + r : Nat) : Int) - l else ((p + r : Nat) : Int) + 1 - l)) ∧
    (f = e → gvl T 10 p 0 (e - p) = 0 ∧ ndp T f (l - f) = 0) ∧ (f < e → 1 ≤ ndp T f (l - f) ∧ (10 : Int) ^ (ndp T f (l - f) - 1) ≤ gvl T 10 f 0 (l - f) ∧ gvl T 10 f 0 (l - f) < 10 ^ ndp T f (l - f)) := by
  have hv := h.val
  have hdg : dgp T 10 f (l - f) := fun j hj => (h.pt (j := f + j) (by omega) (by omega)).2
  have hnd := h.nd hf0 (s := l - f) (by omega)
  rw [show f + (l - f) = l by omega] at hnd
  have hlf : (((l - f : Nat)) : Int) = (l : Int) - f := by omega
  have hpz : gvl T 10 p 0 (e - p) = gvl T 10 f 0 (e - f) := by
    rw [show e - p = (f - p) + (e - f) by omega, gvl_split, show p + (f - p) = f by omega, gvl_z (by decide) (fun j hj => hz (p + j) (by omega) (by omega))]
  have htz := h.nd (f := l) (by omega) (s := e - l) (by omega)
  rw [show l + (e - l) = e by omega] at htz
  have hsp : gvl T 10 f 0 (e - f) = gvl T 10 f 0 (l - f) * 10 ^ ndp T l (e - l) := by
    rw [show e - f = (l - f) + (e - l) by omega, gvl_split, show f + (l - f) = l by omega]
    exact gvl_tz (fun j hj => hz2 (l + j) (by omega) (by omega))
  refine ⟨hdg, by rw [hnd, hlf], ⟨ndp T l (e - l), by rw [hpz, hsp], ?_⟩, fun y => ?_, fun y => ?_⟩
  · rw [htz]
    obtain ⟨-, hc⟩ := h
    rcases hc with ⟨y1, y2, y3⟩ | ⟨y1, y2, y3, y4⟩
    · rw [if_neg (by omega), if_pos (by omega)]; omega
    · by_cases g : (l : Int) ≤ ((p + r : Nat) : Int)
      · rw [if_pos (by omega), if_pos g]; omega
      · rw [if_neg (by omega), if_neg g]; omega
  · subst y
    have : l = f := by omega
    subst this
    rw [hpz, Nat.sub_self]
    exact ⟨rfl, rfl⟩
  · have hfl := hl2 y
    have hns : ¬ (cd T (f : Int) = 48 ∨ cd T (f : Int) = 46) := by
      rcases hf1 with z | z
      · omega
      · exact z
    have hdf : 0 ≤ dv 10 (cd T (f : Int)) := by
      rcases (h.pt (j := f) hf0 y).2 with z | z
      · exact absurd (Or.inr z) hns
      · exact z
    have hd1 : 1 ≤ dv 10 (cd T (f : Int)) := by
      rcases Int.lt_or_le 0 (dv 10 (cd T (f : Int))) with z | z
      · exact z
      · exfalso
        apply hns
        left
        have hz0 : dv 10 (cd T (f : Int)) = 0 := by omega
        unfold dv at hz0
        split at hz0
        · unfold dw at hz0
          split at hz0
          · omega
          · split at hz0
            · omega
            · split at hz0 <;> omega
        · omega
    obtain ⟨s, hs⟩ : ∃ s, l - f = 1 + s := ⟨l - f - 1, by omega⟩
    have hg1 : gvl T 10 f 0 (l - f) = gvl T 10 (f + 1) (dv 10 (cd T (f : Int))) s := by
      rw [hs, gvl_split]
      have : gvl T 10 f 0 1 = dv 10 (cd T (f : Int)) := by
        show (if cd T ((f + 0 : Nat) : Int) = 46 then (0 : Int) else 0 * 10 + dv 10 (cd T ((f + 0 : Nat) : Int))) = _
        rw [Nat.add_zero, if_neg (fun z => hns (Or.inr z))]; omega
      rw [this]
    have hn1 : ndp T f (l - f) = 1 + ndp T (f + 1) s := by
      have key : ∀ s : Nat, ndp T f (1 + s) = 1 + ndp T (f + 1) s := by
        intro s
        induction s with
        | zero =>
          show 0 + (if cd T ((f + 0 : Nat) : Int) = 46 then 0 else 1) = 1 + 0
          rw [Nat.add_zero, if_neg (fun z => hns (Or.inr z))]
        | succ s ih =>
          show ndp T f (1 + s) + (if cd T ((f + (1 + s) : Nat) : Int) = 46 then 0 else 1) = 1 + (ndp T (f + 1) s + (if cd T ((f + 1 + s : Nat) : Int) = 46 then 0 else 1))
          rw [ih, show f + (1 + s) = f + 1 + s by omega]; omega
      rw [hs]; exact key s
    have hds : dgp T 10 (f + 1) s := fun j hj => by
      have := hdg (1 + j) (by omega)
      rwa [show f + (1 + j) = f + 1 + j by omega] at this
    obtain ⟨b0, b1⟩ := gvl_nd (v := dv 10 (cd T (f : Int))) (by decide : (2 : Int) ≤ 10) hdf hds
    have hd9 := (dv_bd 10 (cd T (f : Int))).2.2 hdf
    have hpp : (0 : Int) < 10 ^ ndp T (f + 1) s := Int.pow_pos (by decide)
    have m1 := Int.mul_le_mul_of_nonneg_right hd1 (Int.le_of_lt hpp)
    have m2 := Int.mul_le_mul_of_nonneg_right (show dv 10 (cd T (f : Int)) + 1 ≤ 10 by omega) (Int.le_of_lt hpp)
    rw [Int.one_mul] at m1
    rw [hn1, hg1, show 1 + ndp T (f + 1) s - 1 = ndp T (f + 1) s by omega]
    refine ⟨by omega, by omega, ?_⟩
    rw [Nat.add_comm 1 (ndp T (f + 1) s), Int.pow_succ, Int.mul_comm (10 ^ _) 10]
    omega
