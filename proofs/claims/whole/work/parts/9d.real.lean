/-! THE MODEL: doubles asked, ratios made doubles -/
theorem vl_max : vl 9218868437227405311 = .fin false 9007199254740991 971 := by decide +kernel
theorem vl_min : vl 18442240474082181119 = .fin true 9007199254740991 971 := by decide +kernel
theorem zv_max {c : Nat} {q : Int} (h : cnD c q) : zv c q ≤ 9007199254740991 * 2 ^ 2045 := by
  obtain ⟨c1, c2, c3, c4⟩ := h
  exact Nat.mul_le_mul (by omega) (Nat.pow_le_pow_right (by decide) (by omega))
theorem zv_971 : zv 9007199254740991 971 = 9007199254740991 * 2 ^ 2045 := by
  unfold zv
  rw [show ((971 : Int) + 1074).toNat = 2045 by decide]
theorem big_lt : 9007199254740991 * 2 ^ 2045 < 2 ^ 2098 := by decide +kernel
theorem sp_isFiniteY {G : xG} {l : Launch} {n : Nat} {h : xH} {x : UInt64} {s : Bool} {c : Nat} {q : Int} {Po : Int → xH → Prop} (hx : vl x = .fin s c q) (hp : Po 1 h) : S_X9_isFinite G l x n h Po := by
  refine S_X9_isFinite_of (fun k hl C E => ?_)
  have hm := zv_max (fin_cn hx)
  have h1 := (dC_z (op := .g) (nn_fin hx) (nn_fin vl_max)).2.2
  have h2 := (dC_z (op := .l) (nn_fin hx) (nn_fin vl_min)).1
  rw [zD_fin hx, zD_fin vl_max, zv_971] at h1
  rw [zD_fin hx, zD_fin vl_min, zv_971] at h2
  generalize 9007199254740991 * 2 ^ 2045 = M at hm h1 h2
  refine X9_isFinite_b0 C E x n h rfl ⟨fun g => ?_, fun _ => ⟨fun g => ?_, fun _ => X9_isFinite_b21 C E 1 n h rfl ⟨Or.inr rfl, hp⟩⟩⟩
  · have := h1.mp g
    unfold sZ at this
    cases s <;> simp at this <;> omega
  · have := h2.mp g
    unfold sZ at this
    cases s <;> simp at this <;> omega
theorem sp_isFiniteN {G : xG} {l : Launch} {n : Nat} {h : xH} {x : UInt64} {s : Bool} {Po : Int → xH → Prop} (hx : vl x = .inf s) (hp : Po 0 h) : S_X9_isFinite G l x n h Po := by
  refine S_X9_isFinite_of (fun k hl C E => ?_)
  have h1 := (dC_z (op := .g) (nn_inf hx) (nn_fin vl_max)).2.2
  have h2 := (dC_z (op := .l) (nn_inf hx) (nn_fin vl_min)).1
  rw [zD_inf hx, zD_fin vl_max, zv_971] at h1
  rw [zD_inf hx, zD_fin vl_min, zv_971] at h2
  have hb := big_lt
  generalize 9007199254740991 * 2 ^ 2045 = M at hb h1 h2
  generalize 2 ^ 2098 = T at hb h1 h2
  have w20 : X9_isFinite_w20 G k n h := X9_isFinite_b20 C E n h rfl (X9_isFinite_b21 C E 0 n h rfl ⟨Or.inl rfl, hp⟩)
  refine X9_isFinite_b0 C E x n h rfl ⟨fun _ => w20, fun g => ⟨fun _ => w20, fun g2 => ?_⟩⟩
  exfalso
  cases s with
  | false => exact g (h1.mpr (by unfold sZ; simp; omega))
  | true => exact g2 (h2.mpr (by unfold sZ; simp; omega))
theorem vl_1 : vl FP.dconst1 = .fin false 4503599627370496 (-52) := by decide +kernel
theorem sp_negZero {G : xG} {l : Launch} {n : Nat} {h : xH} {x : UInt64} {s : Bool} {c : Nat} {q : Int} {Po : Int → xH → Prop} (hx : vl x = .fin s c q) (hp : Po (if c = 0 ∧ s = true then 1 else 0) h) : S_X9_isNegativeZero G l x n h Po := by
  refine S_X9_isNegativeZero_of (fun k hl C E => ?_)
  have hz := (dC_z (op := .l) (nn_fin hx) nn_0).2.1
  rw [zD_fin hx, zD_0] at hz
  have w18 : ¬ (c = 0 ∧ s = true) → X9_isNegativeZero_w18 G k n h := fun g => X9_isNegativeZero_b18 C E n h rfl (X9_isNegativeZero_b19 C E 0 n h rfl ⟨Or.inl rfl, by rwa [if_neg g] at hp⟩)
  refine X9_isNegativeZero_b0 C E x n h rfl ⟨fun g => w18 (fun z => g (hz.mpr ?_)), fun g => ?_⟩
  · rw [z.1]; unfold sZ zv; simp
  · have hc : c = 0 := by
      have := hz.mp g
      have h2 : zv c q = 0 := by
        unfold sZ at this
        split at this <;> omega
      unfold zv at h2
      rcases Nat.mul_eq_zero.mp h2 with y | y
      · exact y
      · have := Nat.two_pow_pos (q + 1074).toNat; omega
    have hv : vl (FP.ddiv FP.dconst1 x) = .inf s := by
      refine (FP.Core.val64_ddiv FP.dconst1 x).trans ?_
      rw [show FP.Core.val64 FP.dconst1 = _ from vl_1, show FP.Core.val64 x = .fin s c q from hx, hc]
      unfold FP.Core.quotient
      simp only [if_true]
      rw [if_neg (by decide)]
      cases s <;> rfl
    have h2 := (dC_z (op := .g) (nn_inf hv) nn_0).1
    rw [zD_inf hv, zD_0] at h2
    have hb := Nat.two_pow_pos 2098
    generalize 2 ^ 2098 = T at h2 hb
    refine ⟨inf_n64 hv, fun g2 => w18 (fun z => ?_), fun g2 => X9_isNegativeZero_b19 C E 1 n h rfl ⟨Or.inr rfl, ?_⟩⟩
    · have := h2.mpr (by unfold sZ; rw [z.2]; simp; omega)
      omega
    · have hs : s = true := by
        have := h2.mp (by omega)
        cases s with
        | true => rfl
        | false => unfold sZ at this; simp at this; omega
      rwa [if_pos ⟨hc, hs⟩] at hp
/-- a whole number below 2^53 is its own nearest -/
theorem nr_int {v : Nat} (hv : v ≤ 9007199254740991) : ∃ c q, cnD c q ∧ zv c q = v * 2 ^ 1074 ∧ nrR (v : Int) 1 q (c : Int) := by
  have hb : v * 2 ^ 1074 < 2 ^ 2098 := by
    have h1 : v * 2 ^ 1074 ≤ 9007199254740991 * 2 ^ 1074 := Nat.mul_le_mul_right _ hv
    have h2 : 9007199254740991 * 2 ^ 1074 < 2 ^ 2098 := by decide +kernel
    omega
  obtain ⟨c, q, h1, h2⟩ := cn_ex 1074 v (by omega) hb
  refine ⟨c, q, h1, h2, h1.2.1, c, 0, ?_, by decide, ?_, by omega, by have := h1.1; omega, ?_, Or.inr ⟨rfl, ?_⟩⟩
  · have hq := h1.2.1
    unfold zv at h2
    rw [Int.one_mul, Int.add_zero]
    have key : v * 2 ^ (-q).toNat = c * 2 ^ q.toNat := by
      rcases Int.le_total 0 q with g | g
      · rw [show (-q).toNat = 0 by omega, Nat.pow_zero, Nat.mul_one]
        rw [show (q + 1074).toNat = q.toNat + 1074 by omega, Nat.pow_add, ← Nat.mul_assoc] at h2
        exact (Nat.eq_of_mul_eq_mul_right (Nat.two_pow_pos _) h2).symm
      · rw [show q.toNat = 0 by omega, Nat.pow_zero, Nat.mul_one]
        have h3 : v * 2 ^ 1074 = v * 2 ^ (-q).toNat * 2 ^ (q + 1074).toNat := by rw [Nat.mul_assoc, ← Nat.pow_add, show (-q).toNat + (q + 1074).toNat = 1074 by omega]
        rw [h3] at h2
        exact (Nat.eq_of_mul_eq_mul_right (Nat.two_pow_pos _) h2).symm
    exact_mod_cast key
  · rw [Int.one_mul]; exact pw_pos _
  · rcases h1.2.2.2 with z | z
    · exact Or.inr z
    · exact Or.inl (by omega)
  · rw [Int.one_mul]
    have := pw_pos q.toNat
    omega
theorem nr_zero {D : Int} (hD : 0 < D) : nrR 0 D (-1074) 0 := by
  refine ⟨by decide, 0, 0, by rw [Int.zero_mul, Int.zero_mul]; rfl, by decide, ?_, by decide, by decide, Or.inr rfl, Or.inr ⟨rfl, ?_⟩⟩
  · rw [show (-1074 : Int).toNat = 0 by decide, Int.pow_zero, Int.mul_one]; exact hD
  · rw [show (-1074 : Int).toNat = 0 by decide, Int.pow_zero, Int.mul_one]; omega
theorem vl0_isVl : isVl FP.dconst0 false 0 := Or.inl ⟨Nat.two_pow_pos _, 0, -1074, vl_0, by decide⟩
theorem sp_ratio {G : xG} {l : Launch} {n : Nat} {h : xH} {wl tl nm : Int} {za ra sa zb rb sb : Nat} {sg v w : Int} {Po : UInt64 → xH → Prop} (tm : isM n h wl tl nm) (ta : isWh n h za ra sa sg v) (tb : isWh n h zb rb sb 1 w) (hw : 0 < w) (hp : ∀ h' x e m, hE (fun i => 35 ≤ i ∧ i ≤ 37) h h' → isM n h' wl tl nm → nrR v w e m → isVl x (decide (sg < 0)) (m.toNat * 2 ^ (e + 1074).toNat) → Po x h') : S_X9_ratio G l 26 za zb n h Po := by
  refine S_X9_ratio_of (fun k hl C E => ?_)
  obtain ⟨a1, a2, a3⟩ := ta.ln
  obtain ⟨b1, b2, b3⟩ := tb.ln
  have hsa := ta.2.2.2.2.2.2.2.1
  have hsb := tb.2.2.2.2.2.2.2.1
  have hra := ta.2.2.1
  have hrb := tb.2.2.1
  have hsg := ta.2.2.2.2.2.2.2.2
  have w31 : 0 < v → X9_ratio_w31 G k 26 za zb n h := by
    intro hv
    refine X9_ratio_b31 C E 26 za zb n h rfl ?_
    rw [ta.f1, tb.f1, Int.toNat_natCast, Int.toNat_natCast, a1, b1]
    refine ⟨ta.ok, by omega, ta.ok, by omega, ⟨a2, Or.inl a3⟩, tb.ok, by omega, tb.ok, by omega, ⟨b2, Or.inl b3⟩, tm.ok, sp_nearestM tm ta.row tb.row (by omega) (by omega) hsa hsb hv hw (fun h1 x e m e1 tm1 hn hx => ?_)⟩
    have ta1 := ta.mv e1 (by have := ta.2.1; omega) (by omega)
    rw [ta1.f0]
    refine ⟨ta1.ok, ta1.sg, fun g => X9_ratio_b67 C E x n h1 rfl (hp h1 x e m e1 tm1 hn ?_), fun g => X9_ratio_b67 C E _ n h1 rfl (hp h1 _ e m e1 tm1 hn ?_)⟩
    · rw [show decide (sg < 0) = false by simp; omega]; exact hx
    · rw [show decide (sg < 0) = true by simp; omega]; exact hx.neg
  refine X9_ratio_b0 C E 26 za zb n h rfl ⟨ta.ok, sp_isZeroW ta ⟨by split <;> exact rgS (by decide) (by decide), fun g => ?_, fun g => ?_⟩⟩
  · have hv : 0 < v := by
      split at g
      · cases g
      · rcases hsg with y | y
        · rename_i hne; exact absurd y.1 hne
        · exact y.1
    refine ⟨tb.ok, sp_isOneW tb ⟨by split <;> exact rgS (by decide) (by decide), fun g2 => w31 hv, fun g2 => ?_⟩⟩
    have hw1 : w = 1 := by
      split at g2
      · rename_i hh; exact hh.1
      · exact absurd rfl g2
    rw [ta.f1, Int.toNat_natCast, a1]
    refine ⟨ta.ok, by omega, ⟨a2, Or.inl a3⟩, ⟨rg_nat (by omega), rgS (by decide) (by decide)⟩, fun g3 => w31 hv, fun g3 => ⟨ta.ok, sp_asLong ta (by omega) ?_⟩⟩
    have hvb : v < 10000 ^ 3 := by
      have h1 := ta.row.val.2.1
      have h2 := T_mono (a := sa) (b := 3) (by omega)
      omega
    have h3 : (10000 : Int) ^ 3 = 1000000000000 := by decide
    obtain ⟨vn, rfl⟩ : ∃ vn : Nat, v = (vn : Int) := ⟨v.toNat, by omega⟩
    obtain ⟨c, q, c1, c2, c3⟩ := nr_int (v := vn) (by omega)
    rw [hw1] at *
    have hcq : (c : Int).toNat * 2 ^ (q + 1074).toNat = zv c q := by rw [Int.toNat_natCast]; rfl
    have hb := zv_max c1
    have hb2 := big_lt
    rcases hsg with y | ⟨y, y2 | y2⟩
    · omega
    · refine hp h _ q c hE.rf tm c3 ?_
      rw [y2, Int.one_mul, hcq]
      exact Or.inl ⟨by omega, c, q, l2d_cn (by omega) c1 c2, rfl⟩
    · refine hp h _ q c hE.rf tm c3 ?_
      rw [y2, hcq]
      have hl : vl (FP.l2d (lz (-1 * (vn : Int)))) = .fin true c q := by
        refine (FP.Core.val64_l2d _).trans ?_
        rw [lz_toInt ⟨by omega, by omega⟩]
        show FP.Core.roundRatio FP.Core.b64 (decide (-1 * (vn : Int) < 0)) (-1 * (vn : Int)).natAbs 1 0 = _
        rw [show decide (-1 * (vn : Int) < 0) = true by simp; omega, show (-1 * (vn : Int)).natAbs = vn by omega]
        refine round_cn c1 (by decide) ?_
        have e2 := zv_off (c := c) c1.2.1 1926
        rw [show q + 3000 = q + 1074 + (1926 : Nat) by omega, e2, c2, Nat.mul_assoc, ← Nat.pow_add]
        rfl
      exact Or.inl ⟨by omega, c, q, hl, rfl⟩
  · have hv : v = 0 := by
      split at g
      · assumption
      · exact absurd rfl g
    have hs0 : sg = 0 := by omega
    refine hp h FP.dconst0 (-1074) 0 hE.rf tm (by rw [hv]; exact nr_zero hw) ?_
    rw [hs0]
    exact vl0_isVl
