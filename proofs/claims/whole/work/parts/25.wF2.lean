abbrev X9_negated_w0 (G : xG) (k : xK) (x0 : Int) (n : Nat) (h : xH) : Prop := WW G k 1 0 0 0 [(0, vR G x0)] [] n h
abbrev X9_negated_w56 (G : xG) (k : xK) (s0 : Nat) (n : Nat) (h : xH) : Prop := WW G k 1 4 11 56 [] [rf G s0] n h
theorem S_X9_negated_of {G : xG} {l : Launch} {x0 : Int} {n : Nat} {h : xH} {Po : Int → Nat → xH → Prop} (body : ∀ k : xK, kl k = l → CC G k cX9_negated RX9 1 rm_X9_negated → CQ G k (some (.object "DoubleTextsModel$Num")) rm_X9_negated (fun r n1 h1 => ∃ z : Int, r = some (vR G z) ∧ Po z n1 h1) → X9_negated_w0 G k x0 n h) : S_X9_negated G l x0 n h Po := xS_of (by decide +kernel) (by simp only [vR]; split <;> exact Nat.le_of_ble_eq_true rfl) rfl (fun k hl hnm C E => body k hl C E)
set_option maxRecDepth 100000 in
set_option maxHeartbeats 4000000 in
theorem X9_negated_b0 {G : xG} {k : xK} {n0 : Nat} {Po : Int → Nat → xH → Prop} (C : CC G k cX9_negated RX9 1 rm_X9_negated) (E : CQ G k (some (.object "DoubleTextsModel$Num")) rm_X9_negated (fun r n1 h1 => ∃ z : Int, r = some (vR G z) ∧ Po z n1 h1)) (x0 : Int) (n : Nat) (h : xH) (hy : (x0 < 0 ∨ (x0.toNat < n ∧ ((h x0.toNat).1 = 5 ∨ (h x0.toNat).1 = 6 ∨ (h x0.toNat).1 = 7))) ∧ rg (xI h 6 x0) ∧ (((xI h 6 x0) = 0 → (x0 < 0 ∨ (x0.toNat < n ∧ ((h x0.toNat).1 = 5 ∨ (h x0.toNat).1 = 6 ∨ (h x0.toNat).1 = 7))) ∧ rg (xI h 7 x0) ∧ (((xI h 7 x0) = 0 → (∀ h7 : xH, h7 = hN h n (5, 0, xZ 5) → S_X9_above G (kl k) x0 (n + 1) h7 (fun z8 h9 => okO (n + 1) h9 z8 7 ∧ S_X8_negative G (kl k) z8 (n + 1) h9 (fun z11 n13 h12 => S_X9_below G (kl k) x0 n13 h12 (fun z14 n16 h15 => S_X6_init G (kl k) n z11 z14 n16 h15 (fun h17 => X9_negated_w56 G k n n16 h17)))))) ∧ (¬ (xI h 7 x0) = 0 → (x0 < 0 ∨ (x0.toNat < n ∧ (h x0.toNat).1 = 7)) ∧ 0 ≤ x0 ∧ okO n h x0.toNat 7 ∧ S_X8_negative G (kl k) x0.toNat n h (fun z21 n23 h22 => X9_negated_w56 G k z21 n23 h22)))) ∧ (¬ (xI h 6 x0) = 0 → (x0 < 0 ∨ (x0.toNat < n ∧ (h x0.toNat).1 = 6)) ∧ 0 ≤ x0 ∧ okO n h x0.toNat 6 ∧ S_X7_of G (kl k) (FP.dneg (UInt64.ofNat (hG h x0.toNat 0).toNat)) n h (fun z27 n29 h28 => X9_negated_w56 G k z27 n29 h28)))) : X9_negated_w0 G k x0 n h := by
  refine ww_Nload_n C 0 0 rfl rfl dX9_negated_0 ?_
  obtain ⟨p1, hy⟩ := hy
  refine is_X9_201 C dX9_negated_1 p1 ?_
  obtain ⟨p2, hy⟩ := hy
  refine ww_if_eq C (tg := 21) dX9_negated_4 (by decide) p2 (fun c3 => ?_) (fun c3 => ?_)
  · have hy := hy.1 c3
    refine ww_Nload_n C 0 0 rfl rfl dX9_negated_21 ?_
    obtain ⟨p4, hy⟩ := hy
    refine is_X9_1 C dX9_negated_22 p4 ?_
    obtain ⟨p5, hy⟩ := hy
    refine ww_if_eq C (tg := 38) dX9_negated_25 (by decide) p5 (fun c6 => ?_) (fun c6 => ?_)
    · have hy := hy.1 c6
      refine nw_X9_157 C dX9_negated_38 (by decide) (by decide) ?_
      have hy := hy _ rfl
      refine ww_dup C rfl dX9_negated_41 ?_
      refine ww_Nload_n C 0 0 rfl rfl dX9_negated_42 ?_
      refine cl_X9_207 C dX9_negated_43 (Nat.le_of_ble_eq_true rfl) ⟨by decide, by decide⟩ ⟨by decide, by decide⟩ ?_
      refine S_X9_above.mono hy (fun z8 h9 hy => ?_)
      obtain ⟨p10, hy⟩ := hy
      refine cl_X9_242 C dX9_negated_46 (Nat.le_of_ble_eq_true rfl) ⟨by decide, by decide⟩ ⟨by decide, by decide⟩ p10 ?_
      refine S_X8_negative.mono hy (fun z11 n13 h12 hy => ?_)
      refine ww_Nload_n C 0 0 rfl rfl dX9_negated_49 ?_
      refine cl_X9_210 C dX9_negated_50 (Nat.le_of_ble_eq_true rfl) ⟨by decide, by decide⟩ ⟨by decide, by decide⟩ ?_
      refine S_X9_below.mono hy (fun z14 n16 h15 hy => ?_)
      refine cl_X9_194 C dX9_negated_53 (Nat.le_of_ble_eq_true rfl) ⟨by decide, by decide⟩ ⟨by decide, by decide⟩ ?_
      refine S_X6_init.mono hy (fun h17 hy => ?_)
      exact ww_sub [] rfl (by decide) (by decide) hy
    · have hy := hy.2 c6
      refine ww_Nload_n C 0 0 rfl rfl dX9_negated_28 ?_
      obtain ⟨p18, hy⟩ := hy
      refine ct_X9_1 C dX9_negated_29 p18 ?_
      obtain ⟨p19, hy⟩ := hy
      refine ww_vr p19 ?_
      obtain ⟨p20, hy⟩ := hy
      refine cl_X9_242 C dX9_negated_32 (Nat.le_of_ble_eq_true rfl) ⟨by decide, by decide⟩ ⟨by decide, by decide⟩ p20 ?_
      refine S_X8_negative.mono hy (fun z21 n23 h22 hy => ?_)
      refine ww_goto C (tg := 56) dX9_negated_35 (by decide) ?_
      exact ww_sub [] rfl (by decide) (by decide) hy
  · have hy := hy.2 c3
    refine ww_Nload_n C 0 0 rfl rfl dX9_negated_7 ?_
    obtain ⟨p24, hy⟩ := hy
    refine ct_X9_201 C dX9_negated_8 p24 ?_
    obtain ⟨p25, hy⟩ := hy
    refine ww_vr p25 ?_
    obtain ⟨p26, hy⟩ := hy
    refine gf_X9_203 C dX9_negated_11 p26 ?_
    refine ww_dneg C dX9_negated_14 ?_
    refine cl_X9_238 C dX9_negated_15 (Nat.le_of_ble_eq_true rfl) ⟨by decide, by decide⟩ ⟨by decide, by decide⟩ ?_
    refine S_X7_of.mono hy (fun z27 n29 h28 hy => ?_)
    refine ww_goto C (tg := 56) dX9_negated_18 (by decide) ?_
    exact ww_sub [] rfl (by decide) (by decide) hy
set_option maxRecDepth 100000 in
set_option maxHeartbeats 4000000 in
theorem X9_negated_b56 {G : xG} {k : xK} {n0 : Nat} {Po : Int → Nat → xH → Prop} (C : CC G k cX9_negated RX9 1 rm_X9_negated) (E : CQ G k (some (.object "DoubleTextsModel$Num")) rm_X9_negated (fun r n1 h1 => ∃ z : Int, r = some (vR G z) ∧ Po z n1 h1)) (s0 : Nat) (n : Nat) (h : xH) (hy : Po ((s0 : Nat) : Int) n h) : X9_negated_w56 G k s0 n h := by
  refine ww_rv ?_
  exact ww_aret C E (Or.inl ⟨_, rfl⟩) dX9_negated_56 (by decide) (by decide) ⟨_, rfl, hy⟩
abbrev X9_isNegativeZero_w0 (G : xG) (k : xK) (x0 : UInt64) (n : Nat) (h : xH) : Prop := WW G k 2 0 0 0 [(0, .double x0)] [] n h
abbrev X9_isNegativeZero_w18 (G : xG) (k : xK)  (n : Nat) (h : xH) : Prop := WW G k 2 0 0 18 [] [] n h
abbrev X9_isNegativeZero_w19 (G : xG) (k : xK) (s0 : Int) (n : Nat) (h : xH) : Prop := WW G k 2 0 0 19 [] [.int (iz s0)] n h
theorem S_X9_isNegativeZero_of {G : xG} {l : Launch} {x0 : UInt64} {n : Nat} {h : xH} {Po : Int → xH → Prop} (body : ∀ k : xK, kl k = l → CC G k cX9_isNegativeZero RX9 2 rm_X9_isNegativeZero → CQ G k (some .boolean) rm_X9_isNegativeZero (fun r n1 h1 => ∃ z : Int, r = some (.int (iz z)) ∧ n1 = n ∧ Po z h1) → X9_isNegativeZero_w0 G k x0 n h) : S_X9_isNegativeZero G l x0 n h Po := xS_of (by decide +kernel) (Nat.le_of_ble_eq_true rfl) rfl (fun k hl hnm C E => body k hl C E)
set_option maxRecDepth 100000 in
set_option maxHeartbeats 4000000 in
theorem X9_isNegativeZero_b0 {G : xG} {k : xK} {n0 : Nat} {Po : Int → xH → Prop} (C : CC G k cX9_isNegativeZero RX9 2 rm_X9_isNegativeZero) (E : CQ G k (some .boolean) rm_X9_isNegativeZero (fun r n1 h1 => ∃ z : Int, r = some (.int (iz z)) ∧ n1 = n0 ∧ Po z h1)) (x0 : UInt64) (n : Nat) (h : xH) (hn0 : n = n0) (hy : ((¬ (dC .l x0 FP.dconst0) = 0 → X9_isNegativeZero_w18 G k  n h) ∧ ((dC .l x0 FP.dconst0) = 0 → vf_n64 (FP.ddiv FP.dconst1 x0) ∧ ((0 ≤ (dC .g (FP.ddiv FP.dconst1 x0) FP.dconst0) → X9_isNegativeZero_w18 G k  n h) ∧ (¬ 0 ≤ (dC .g (FP.ddiv FP.dconst1 x0) FP.dconst0) → X9_isNegativeZero_w19 G k 1 n h))))) : X9_isNegativeZero_w0 G k x0 n h := by
  subst hn0
  refine ww_dload_n C 0 0 rfl rfl dX9_isNegativeZero_0 ?_
  refine ww_dconst0 C dX9_isNegativeZero_1 ?_
  refine ww_dcmp C dX9_isNegativeZero_2 ?_
  refine ww_if_ne C (tg := 18) dX9_isNegativeZero_3 (by decide) (rg_dC _ _ _) (fun c2 => ?_) (fun c2 => ?_)
  · have hy := hy.1 c2
    exact ww_sub [] rfl (by decide) (by decide) hy
  · have hy := hy.2 c2
    refine ww_dconst1 C dX9_isNegativeZero_6 ?_
    refine ww_dload_n C 0 0 rfl rfl dX9_isNegativeZero_7 ?_
    obtain ⟨p3, hy⟩ := hy
    refine ww_ddiv C dX9_isNegativeZero_8 p3 ?_
    refine ww_dconst0 C dX9_isNegativeZero_9 ?_
    refine ww_dcmp C dX9_isNegativeZero_10 ?_
    refine ww_if_ge C (tg := 18) dX9_isNegativeZero_11 (by decide) (rg_dC _ _ _) (fun c5 => ?_) (fun c5 => ?_)
    · have hy := hy.1 c5
      exact ww_sub [] rfl (by decide) (by decide) hy
    · have hy := hy.2 c5
      refine ww_iconst C (z := 1) dX9_isNegativeZero_14 rfl ?_
      refine ww_goto C (tg := 19) dX9_isNegativeZero_15 (by decide) ?_
      exact ww_sub [] rfl (by decide) (by decide) hy
set_option maxRecDepth 100000 in
set_option maxHeartbeats 4000000 in
theorem X9_isNegativeZero_b18 {G : xG} {k : xK} {n0 : Nat} {Po : Int → xH → Prop} (C : CC G k cX9_isNegativeZero RX9 2 rm_X9_isNegativeZero) (E : CQ G k (some .boolean) rm_X9_isNegativeZero (fun r n1 h1 => ∃ z : Int, r = some (.int (iz z)) ∧ n1 = n0 ∧ Po z h1))  (n : Nat) (h : xH) (hn0 : n = n0) (hy : X9_isNegativeZero_w19 G k 0 n h) : X9_isNegativeZero_w18 G k  n h := by
  subst hn0
  refine ww_iconst C (z := 0) dX9_isNegativeZero_18 rfl ?_
  exact ww_sub [] rfl (by decide) (by decide) hy
set_option maxRecDepth 100000 in
set_option maxHeartbeats 4000000 in
theorem X9_isNegativeZero_b19 {G : xG} {k : xK} {n0 : Nat} {Po : Int → xH → Prop} (C : CC G k cX9_isNegativeZero RX9 2 rm_X9_isNegativeZero) (E : CQ G k (some .boolean) rm_X9_isNegativeZero (fun r n1 h1 => ∃ z : Int, r = some (.int (iz z)) ∧ n1 = n0 ∧ Po z h1)) (s0 : Int) (n : Nat) (h : xH) (hn0 : n = n0) (hy : (s0 = 0 ∨ s0 = 1) ∧ Po s0 h) : X9_isNegativeZero_w19 G k s0 n h := by
  subst hn0
  obtain ⟨p1, hy⟩ := hy
  exact ww_zret C E dX9_isNegativeZero_19 (nz_b p1) (by decide) (by decide) ⟨_, rfl, rfl, hy⟩
abbrev X9_lessen_w0 (G : xG) (k : xK) (x0 : Nat) (x1 : Int) (x2 : Nat) (x3 : Int) (n : Nat) (h : xH) : Prop := WW G k 7 0 0 0 [(0, rf G x0), (1, .int (iz x1)), (2, rf G x2), (3, .int (iz x3))] [] n h
abbrev X9_lessen_w6 (G : xG) (k : xK) (x0 : Nat) (x1 : Int) (x2 : Nat) (x3 : Int) (x4 : Int) (x5 : Int) (n : Nat) (h : xH) : Prop := WW G k 7 0 0 6 [(0, rf G x0), (1, .int (iz x1)), (2, rf G x2), (3, .int (iz x3)), (4, .int (iz x4)), (5, .int (iz x5))] [] n h
abbrev X9_lessen_w33 (G : xG) (k : xK) (x0 : Nat) (x1 : Int) (x2 : Nat) (x3 : Int) (x5 : Int) (s0 : Int) (s1 : Int) (n : Nat) (h : xH) : Prop := WW G k 7 0 0 33 [(0, rf G x0), (1, .int (iz x1)), (2, rf G x2), (3, .int (iz x3)), (5, .int (iz x5))] [.int (iz s0), .int (iz s1)] n h
abbrev X9_lessen_w46 (G : xG) (k : xK) (x0 : Nat) (x1 : Int) (x2 : Nat) (x3 : Int) (x5 : Int) (x6 : Int) (s0 : Int) (n : Nat) (h : xH) : Prop := WW G k 7 0 0 46 [(0, rf G x0), (1, .int (iz x1)), (2, rf G x2), (3, .int (iz x3)), (5, .int (iz x5)), (6, .int (iz x6))] [.int (iz s0)] n h
theorem S_X9_lessen_of {G : xG} {l : Launch} {x0 : Nat} {x1 : Int} {x2 : Nat} {x3 : Int} {n : Nat} {h : xH} {Po : xH → Prop} (body : ∀ k : xK, kl k = l → CC G k cX9_lessen RX9 7 rm_X9_lessen → CQ G k none rm_X9_lessen (fun r n1 h1 => r = none ∧ n1 = n ∧ Po h1) → X9_lessen_w0 G k x0 x1 x2 x3 n h) : S_X9_lessen G l x0 x1 x2 x3 n h Po := xS_of (by decide +kernel) (Nat.le_of_ble_eq_true rfl) rfl (fun k hl hnm C E => body k hl C E)
set_option maxRecDepth 100000 in
set_option maxHeartbeats 4000000 in
theorem X9_lessen_b0 {G : xG} {k : xK} {n0 : Nat} {Po : xH → Prop} (C : CC G k cX9_lessen RX9 7 rm_X9_lessen) (E : CQ G k none rm_X9_lessen (fun r n1 h1 => r = none ∧ n1 = n0 ∧ Po h1)) (x0 : Nat) (x1 : Int) (x2 : Nat) (x3 : Int) (n : Nat) (h : xH) (hn0 : n = n0) (hy : X9_lessen_w6 G k x0 x1 x2 x3 0 0 n h) : X9_lessen_w0 G k x0 x1 x2 x3 n h := by
  subst hn0
  refine ww_iconst C (z := 0) dX9_lessen_0 rfl ?_
  refine ww_istore C 4 (by decide) rfl dX9_lessen_1 ?_
  refine ww_iconst C (z := 0) dX9_lessen_3 rfl ?_
  refine ww_istore C 5 (by decide) rfl dX9_lessen_4 ?_
  exact ww_sub [2, 3, 4, 5, 1, 0] rfl (by decide) (by decide) hy
set_option maxRecDepth 100000 in
set_option maxHeartbeats 4000000 in
theorem X9_lessen_b6 {G : xG} {k : xK} {n0 : Nat} {Po : xH → Prop} (C : CC G k cX9_lessen RX9 7 rm_X9_lessen) (E : CQ G k none rm_X9_lessen (fun r n1 h1 => r = none ∧ n1 = n0 ∧ Po h1)) (x0 : Nat) (x1 : Int) (x2 : Nat) (x3 : Int) (x4 : Int) (x5 : Int) (n : Nat) (h : xH) (hn0 : n = n0) (hy : (rg x5 ∧ rg x1) ∧ ((x1 ≤ x5 → Po h) ∧ (¬ x1 ≤ x5 → okA n h x0 100 x5 ∧ (rg x5 ∧ rg x3) ∧ ((x3 ≤ x5 → X9_lessen_w33 G k x0 x1 x2 x3 x5 0 ((hG h x0 (x5.toNat)) - x4) n h) ∧ (¬ x3 ≤ x5 → okA n h x2 100 x5 ∧ X9_lessen_w33 G k x0 x1 x2 x3 x5 (hG h x2 (x5.toNat)) ((hG h x0 (x5.toNat)) - x4) n h))))) : X9_lessen_w6 G k x0 x1 x2 x3 x4 x5 n h := by
  subst hn0
  refine ww_iload C 5 5 rfl dX9_lessen_6 ?_
  refine ww_iload_n C 1 1 rfl rfl dX9_lessen_8 ?_
  obtain ⟨p1, hy⟩ := hy
  refine ww_icmp_ge C (tg := 67) dX9_lessen_9 (by decide) p1.1 p1.2 (fun c2 => ?_) (fun c2 => ?_)
  · have hy := hy.1 c2
    exact ww_vret C E dX9_lessen_67 (by decide) (by decide) ⟨rfl, rfl, hy⟩
  · have hy := hy.2 c2
    refine ww_aload_n C 0 0 rfl rfl dX9_lessen_12 ?_
    refine ww_iload C 5 5 rfl dX9_lessen_13 ?_
    obtain ⟨p3, hy⟩ := hy
    refine ww_iald C dX9_lessen_15 p3 ?_
    refine ww_iload C 4 4 rfl dX9_lessen_16 ?_
    refine ww_isub C dX9_lessen_18 ?_
    refine ww_iload C 5 5 rfl dX9_lessen_19 ?_
    refine ww_iload_n C 3 3 rfl rfl dX9_lessen_21 ?_
    obtain ⟨p4, hy⟩ := hy
    refine ww_icmp_ge C (tg := 32) dX9_lessen_22 (by decide) p4.1 p4.2 (fun c5 => ?_) (fun c5 => ?_)
    · have hy := hy.1 c5
      refine ww_iconst C (z := 0) dX9_lessen_32 rfl ?_
      exact ww_sub [0, 1, 2, 3, 5] rfl (by decide) (by decide) hy
    · have hy := hy.2 c5
      refine ww_aload_n C 2 2 rfl rfl dX9_lessen_25 ?_
      refine ww_iload C 5 5 rfl dX9_lessen_26 ?_
      obtain ⟨p6, hy⟩ := hy
      refine ww_iald C dX9_lessen_28 p6 ?_
      refine ww_goto C (tg := 33) dX9_lessen_29 (by decide) ?_
      exact ww_sub [0, 1, 2, 3, 5] rfl (by decide) (by decide) hy
set_option maxRecDepth 100000 in
set_option maxHeartbeats 4000000 in
theorem X9_lessen_b33 {G : xG} {k : xK} {n0 : Nat} {Po : xH → Prop} (C : CC G k cX9_lessen RX9 7 rm_X9_lessen) (E : CQ G k none rm_X9_lessen (fun r n1 h1 => r = none ∧ n1 = n0 ∧ Po h1)) (x0 : Nat) (x1 : Int) (x2 : Nat) (x3 : Int) (x5 : Int) (s0 : Int) (s1 : Int) (n : Nat) (h : xH) (hn0 : n = n0) (hy : rg (s1 - s0) ∧ ((0 ≤ (s1 - s0) → X9_lessen_w46 G k x0 x1 x2 x3 x5 (s1 - s0) 0 n h) ∧ (¬ 0 ≤ (s1 - s0) → X9_lessen_w46 G k x0 x1 x2 x3 x5 (s1 - s0) 1 n h))) : X9_lessen_w33 G k x0 x1 x2 x3 x5 s0 s1 n h := by
  subst hn0
  refine ww_isub C dX9_lessen_33 ?_
  refine ww_istore C 6 (by decide) rfl dX9_lessen_34 ?_
  refine ww_iload C 6 0 rfl dX9_lessen_36 ?_
  obtain ⟨p1, hy⟩ := hy
  refine ww_if_ge C (tg := 45) dX9_lessen_38 (by decide) p1 (fun c2 => ?_) (fun c2 => ?_)
  · have hy := hy.1 c2
    refine ww_iconst C (z := 0) dX9_lessen_45 rfl ?_
    exact ww_sub [1, 2, 3, 4, 5, 0] rfl (by decide) (by decide) hy
  · have hy := hy.2 c2
    refine ww_iconst C (z := 1) dX9_lessen_41 rfl ?_
    refine ww_goto C (tg := 46) dX9_lessen_42 (by decide) ?_
    exact ww_sub [1, 2, 3, 4, 5, 0] rfl (by decide) (by decide) hy
set_option maxRecDepth 100000 in
set_option maxHeartbeats 4000000 in
theorem X9_lessen_b46 {G : xG} {k : xK} {n0 : Nat} {Po : xH → Prop} (C : CC G k cX9_lessen RX9 7 rm_X9_lessen) (E : CQ G k none rm_X9_lessen (fun r n1 h1 => r = none ∧ n1 = n0 ∧ Po h1)) (x0 : Nat) (x1 : Int) (x2 : Nat) (x3 : Int) (x5 : Int) (x6 : Int) (s0 : Int) (n : Nat) (h : xH) (hn0 : n = n0) (hy : okA n h x0 100 x5 ∧ (∀ h2 : xH, h2 = hS h x0 (x5.toNat) (x6 + (s0 * 10000)) → X9_lessen_w6 G k x0 x1 x2 x3 s0 (x5 + 1) n h2)) : X9_lessen_w46 G k x0 x1 x2 x3 x5 x6 s0 n h := by
  subst hn0
  refine ww_istore C 4 (by decide) rfl dX9_lessen_46 ?_
  refine ww_aload_n C 0 1 rfl rfl dX9_lessen_48 ?_
  refine ww_iload C 5 5 rfl dX9_lessen_49 ?_
  refine ww_iload C 6 6 rfl dX9_lessen_51 ?_
  refine ww_iload C 4 0 rfl dX9_lessen_53 ?_
  refine ww_sipush C (z := 10000) dX9_lessen_55 rfl ?_
  refine ww_imul C dX9_lessen_58 ?_
  refine ww_iadd C dX9_lessen_59 ?_
  obtain ⟨p1, hy⟩ := hy
  have hy := hy _ rfl
  refine ww_iast C dX9_lessen_60 p1 ?_
  refine ww_iinc C 5 5 rfl (by decide) rfl dX9_lessen_61 ?_
  refine ww_goto C (tg := 6) dX9_lessen_64 (by decide) ?_
  exact ww_sub [2, 3, 4, 5, 1, 0] rfl (by decide) (by decide) hy
abbrev X9_put_w0 (G : xG) (k : xK) (x0 : Nat) (x1 : Int) (n : Nat) (h : xH) : Prop := WW G k 3 0 0 0 [(0, rf G x0), (1, .int (iz x1))] [] n h
abbrev X9_put_w35 (G : xG) (k : xK) (x0 : Nat) (x2 : Int) (n : Nat) (h : xH) : Prop := WW G k 3 0 0 35 [(0, rf G x0), (2, .int (iz x2))] [] n h
abbrev X9_put_w56 (G : xG) (k : xK) (x0 : Nat) (x2 : Int) (n : Nat) (h : xH) : Prop := WW G k 3 0 0 56 [(0, rf G x0), (2, .int (iz x2))] [] n h
theorem S_X9_put_of {G : xG} {l : Launch} {x0 : Nat} {x1 : Int} {n : Nat} {h : xH} {Po : Int → xH → Prop} (body : ∀ k : xK, kl k = l → CC G k cX9_put RX9 3 rm_X9_put → CQ G k (some .int) rm_X9_put (fun r n1 h1 => ∃ z : Int, r = some (.int (iz z)) ∧ n1 = n ∧ Po z h1) → X9_put_w0 G k x0 x1 n h) : S_X9_put G l x0 x1 n h Po := xS_of (by decide +kernel) (Nat.le_of_ble_eq_true rfl) rfl (fun k hl hnm C E => body k hl C E)
set_option maxRecDepth 100000 in
set_option maxHeartbeats 4000000 in
theorem X9_put_b0 {G : xG} {k : xK} {n0 : Nat} {Po : Int → xH → Prop} (C : CC G k cX9_put RX9 3 rm_X9_put) (E : CQ G k (some .int) rm_X9_put (fun r n1 h1 => ∃ z : Int, r = some (.int (iz z)) ∧ n1 = n0 ∧ Po z h1)) (x0 : Nat) (x1 : Int) (n : Nat) (h : xH) (hn0 : n = n0) (hy : (rg x1 ∧ rg (10 : Int)) ∧ (((10 : Int) ≤ x1 → okO n h x0 8 ∧ X9_put_w35 G k x0 ((hG h x0 19) - 1) n h) ∧ (¬ (10 : Int) ≤ x1 → okO n h x0 8 ∧ 0 ≤ hG h x0 18 ∧ okO n h x0 8 ∧ okA n h ((hG h x0 18).toNat) 100 (hG h x0 19) ∧ (∀ h8 : xH, h8 = hS h ((hG h x0 18).toNat) ((hG h x0 19).toNat) x1 → okO n h8 x0 8 ∧ okO n h8 x0 8 ∧ (∀ h11 : xH, h11 = hS h8 x0 19 ((hG h8 x0 19) + 1) → Po (0 : Int) h11))))) : X9_put_w0 G k x0 x1 n h := by
  subst hn0
  refine ww_iload_n C 1 1 rfl rfl dX9_put_0 ?_
  refine ww_bipush C (z := 10) dX9_put_1 rfl ?_
  obtain ⟨p1, hy⟩ := hy
  refine ww_icmp_ge C (tg := 28) dX9_put_3 (by decide) p1.1 p1.2 (fun c2 => ?_) (fun c2 => ?_)
  · have hy := hy.1 c2
    refine ww_aload_n C 0 0 rfl rfl dX9_put_28 ?_
    obtain ⟨p3, hy⟩ := hy
    refine gf_X9_284 C dX9_put_29 p3 ?_
    refine ww_iconst C (z := 1) dX9_put_32 rfl ?_
    refine ww_isub C dX9_put_33 ?_
    refine ww_istore_n C 2 rfl (by decide) rfl dX9_put_34 ?_
    exact ww_sub [1, 0] rfl (by decide) (by decide) hy
  · have hy := hy.2 c2
    refine ww_aload_n C 0 0 rfl rfl dX9_put_6 ?_
    obtain ⟨p4, hy⟩ := hy
    obtain ⟨p5, hy⟩ := hy
    refine gf_X9_290 C dX9_put_7 p4 p5 ?_
    refine ww_aload_n C 0 0 rfl rfl dX9_put_10 ?_
    obtain ⟨p6, hy⟩ := hy
    refine gf_X9_284 C dX9_put_11 p6 ?_
    refine ww_iload_n C 1 1 rfl rfl dX9_put_14 ?_
    obtain ⟨p7, hy⟩ := hy
    have hy := hy _ rfl
    refine ww_iast C dX9_put_15 p7 ?_
    refine ww_aload_n C 0 0 rfl rfl dX9_put_16 ?_
    refine ww_dup C rfl dX9_put_17 ?_
    obtain ⟨p9, hy⟩ := hy
    refine gf_X9_284 C dX9_put_18 p9 ?_
    refine ww_iconst C (z := 1) dX9_put_21 rfl ?_
    refine ww_iadd C dX9_put_22 ?_
    obtain ⟨p10, hy⟩ := hy
    have hy := hy _ rfl
    refine pf_X9_284I C dX9_put_23 p10 ?_
    refine ww_iconst C (z := 0) dX9_put_26 rfl ?_
    exact ww_iret C E dX9_put_27 (by decide) (by decide) ⟨_, rfl, rfl, hy⟩
set_option maxRecDepth 100000 in
set_option maxHeartbeats 4000000 in
theorem X9_put_b35 {G : xG} {k : xK} {n0 : Nat} {Po : Int → xH → Prop} (C : CC G k cX9_put RX9 3 rm_X9_put) (E : CQ G k (some .int) rm_X9_put (fun r n1 h1 => ∃ z : Int, r = some (.int (iz z)) ∧ n1 = n0 ∧ Po z h1)) (x0 : Nat) (x2 : Int) (n : Nat) (h : xH) (hn0 : n = n0) (hy : rg x2 ∧ ((x2 < 0 → X9_put_w56 G k x0 x2 n h) ∧ (¬ x2 < 0 → okO n h x0 8 ∧ 0 ≤ hG h x0 18 ∧ okA n h ((hG h x0 18).toNat) 100 x2 ∧ (rg (hG h ((hG h x0 18).toNat) (x2.toNat)) ∧ rg (9 : Int)) ∧ ((¬ (hG h ((hG h x0 18).toNat) (x2.toNat)) = (9 : Int) → X9_put_w56 G k x0 x2 n h) ∧ ((hG h ((hG h x0 18).toNat) (x2.toNat)) = (9 : Int) → X9_put_w35 G k x0 (x2 + (-1)) n h))))) : X9_put_w35 G k x0 x2 n h := by
  subst hn0
  refine ww_iload_n C 2 1 rfl rfl dX9_put_35 ?_
  obtain ⟨p1, hy⟩ := hy
  refine ww_if_lt C (tg := 56) dX9_put_36 (by decide) p1 (fun c2 => ?_) (fun c2 => ?_)
  · have hy := hy.1 c2
    exact ww_sub [0, 1] rfl (by decide) (by decide) hy
  · have hy := hy.2 c2
    refine ww_aload_n C 0 0 rfl rfl dX9_put_39 ?_
    obtain ⟨p3, hy⟩ := hy
    obtain ⟨p4, hy⟩ := hy
    refine gf_X9_290 C dX9_put_40 p3 p4 ?_
    refine ww_iload_n C 2 1 rfl rfl dX9_put_43 ?_
    obtain ⟨p5, hy⟩ := hy
    refine ww_iald C dX9_put_44 p5 ?_
    refine ww_bipush C (z := 9) dX9_put_45 rfl ?_
    obtain ⟨p6, hy⟩ := hy
    refine ww_icmp_ne C (tg := 56) dX9_put_47 (by decide) p6.1 p6.2 (fun c7 => ?_) (fun c7 => ?_)
    · have hy := hy.1 c7
      exact ww_sub [0, 1] rfl (by decide) (by decide) hy
    · have hy := hy.2 c7
      refine ww_iinc C 2 1 rfl (by decide) rfl dX9_put_50 ?_
      refine ww_goto C (tg := 35) dX9_put_53 (by decide) ?_
      exact ww_sub [1, 0] rfl (by decide) (by decide) hy
set_option maxRecDepth 100000 in
set_option maxHeartbeats 4000000 in
theorem X9_put_b56 {G : xG} {k : xK} {n0 : Nat} {Po : Int → xH → Prop} (C : CC G k cX9_put RX9 3 rm_X9_put) (E : CQ G k (some .int) rm_X9_put (fun r n1 h1 => ∃ z : Int, r = some (.int (iz z)) ∧ n1 = n0 ∧ Po z h1)) (x0 : Nat) (x2 : Int) (n : Nat) (h : xH) (hn0 : n = n0) (hy : rg x2 ∧ ((0 ≤ x2 → okO n h x0 8 ∧ 0 ≤ hG h x0 18 ∧ okA n h ((hG h x0 18).toNat) 100 x2 ∧ okA n h ((hG h x0 18).toNat) 100 x2 ∧ (∀ h7 : xH, h7 = hS h ((hG h x0 18).toNat) (x2.toNat) ((hG h ((hG h x0 18).toNat) (x2.toNat)) + 1) → okO n h7 x0 8 ∧ (∀ h9 : xH, h9 = hS h7 x0 19 (x2 + 1) → Po (0 : Int) h9))) ∧ (¬ 0 ≤ x2 → okO n h x0 8 ∧ 0 ≤ hG h x0 18 ∧ okA n h ((hG h x0 18).toNat) 100 0 ∧ (∀ h13 : xH, h13 = hS h ((hG h x0 18).toNat) 0 1 → okO n h13 x0 8 ∧ (∀ h15 : xH, h15 = hS h13 x0 19 1 → Po (1 : Int) h15))))) : X9_put_w56 G k x0 x2 n h := by
  subst hn0
  refine ww_iload_n C 2 1 rfl rfl dX9_put_56 ?_
  obtain ⟨p1, hy⟩ := hy
  refine ww_if_ge C (tg := 74) dX9_put_57 (by decide) p1 (fun c2 => ?_) (fun c2 => ?_)
  · have hy := hy.1 c2
    refine ww_aload_n C 0 0 rfl rfl dX9_put_74 ?_
    obtain ⟨p3, hy⟩ := hy
    obtain ⟨p4, hy⟩ := hy
    refine gf_X9_290 C dX9_put_75 p3 p4 ?_
    refine ww_iload_n C 2 1 rfl rfl dX9_put_78 ?_
    refine ww_dup2_11 C rfl rfl dX9_put_79 ?_
    obtain ⟨p5, hy⟩ := hy
    refine ww_iald C dX9_put_80 p5 ?_
    refine ww_iconst C (z := 1) dX9_put_81 rfl ?_
    refine ww_iadd C dX9_put_82 ?_
    obtain ⟨p6, hy⟩ := hy
    have hy := hy _ rfl
    refine ww_iast C dX9_put_83 p6 ?_
    refine ww_aload_n C 0 0 rfl rfl dX9_put_84 ?_
    refine ww_iload_n C 2 1 rfl rfl dX9_put_85 ?_
    refine ww_iconst C (z := 1) dX9_put_86 rfl ?_
    refine ww_iadd C dX9_put_87 ?_
    obtain ⟨p8, hy⟩ := hy
    have hy := hy _ rfl
    refine pf_X9_284I C dX9_put_88 p8 ?_
    refine ww_iconst C (z := 0) dX9_put_91 rfl ?_
    exact ww_iret C E dX9_put_92 (by decide) (by decide) ⟨_, rfl, rfl, hy⟩
  · have hy := hy.2 c2
    refine ww_aload_n C 0 0 rfl rfl dX9_put_60 ?_
    obtain ⟨p10, hy⟩ := hy
    obtain ⟨p11, hy⟩ := hy
    refine gf_X9_290 C dX9_put_61 p10 p11 ?_
    refine ww_iconst C (z := 0) dX9_put_64 rfl ?_
    refine ww_iconst C (z := 1) dX9_put_65 rfl ?_
    obtain ⟨p12, hy⟩ := hy
    have hy := hy _ rfl
    refine ww_iast C dX9_put_66 p12 ?_
    refine ww_aload_n C 0 0 rfl rfl dX9_put_67 ?_
    refine ww_iconst C (z := 1) dX9_put_68 rfl ?_
    obtain ⟨p14, hy⟩ := hy
    have hy := hy _ rfl
    refine pf_X9_284I C dX9_put_69 p14 ?_
    refine ww_iconst C (z := 1) dX9_put_72 rfl ?_
    exact ww_iret C E dX9_put_73 (by decide) (by decide) ⟨_, rfl, rfl, hy⟩
abbrev X9_sayFound_w0 (G : xG) (k : xK) (x0 : Nat) (x1 : Int) (x2 : Int) (n : Nat) (h : xH) : Prop := WW G k 4 0 0 0 [(0, rf G x0), (1, .int (iz x1)), (2, .int (iz x2))] [] n h
abbrev X9_sayFound_w2 (G : xG) (k : xK) (x0 : Nat) (x2 : Int) (x3 : Int) (n : Nat) (h : xH) : Prop := WW G k 4 0 0 2 [(0, rf G x0), (2, .int (iz x2)), (3, .int (iz x3))] [] n h
abbrev X9_sayFound_w30 (G : xG) (k : xK) (x0 : Nat) (x2 : Int) (x3 : Int) (s0 : Int) (s1 : Nat) (n : Nat) (h : xH) : Prop := WW G k 4 0 0 30 [(0, rf G x0), (2, .int (iz x2)), (3, .int (iz x3))] [.int (iz s0), rf G s1] n h
theorem S_X9_sayFound_of {G : xG} {l : Launch} {x0 : Nat} {x1 : Int} {x2 : Int} {n : Nat} {h : xH} {Po : xH → Prop} (body : ∀ k : xK, kl k = l → CC G k cX9_sayFound RX9 4 rm_X9_sayFound → CQ G k none rm_X9_sayFound (fun r n1 h1 => r = none ∧ n1 = n ∧ Po h1) → X9_sayFound_w0 G k x0 x1 x2 n h) : S_X9_sayFound G l x0 x1 x2 n h Po := xS_of (by decide +kernel) (Nat.le_of_ble_eq_true rfl) rfl (fun k hl hnm C E => body k hl C E)
set_option maxRecDepth 100000 in
set_option maxHeartbeats 4000000 in
theorem X9_sayFound_b0 {G : xG} {k : xK} {n0 : Nat} {Po : xH → Prop} (C : CC G k cX9_sayFound RX9 4 rm_X9_sayFound) (E : CQ G k none rm_X9_sayFound (fun r n1 h1 => r = none ∧ n1 = n0 ∧ Po h1)) (x0 : Nat) (x1 : Int) (x2 : Int) (n : Nat) (h : xH) (hn0 : n = n0) (hy : X9_sayFound_w2 G k x0 x2 x1 n h) : X9_sayFound_w0 G k x0 x1 x2 n h := by
  subst hn0
  refine ww_iload_n C 1 1 rfl rfl dX9_sayFound_0 ?_
  refine ww_istore_n C 3 rfl (by decide) rfl dX9_sayFound_1 ?_
  exact ww_sub [1, 3, 0] rfl (by decide) (by decide) hy
set_option maxRecDepth 100000 in
set_option maxHeartbeats 4000000 in
theorem X9_sayFound_b2 {G : xG} {k : xK} {n0 : Nat} {Po : xH → Prop} (C : CC G k cX9_sayFound RX9 4 rm_X9_sayFound) (E : CQ G k none rm_X9_sayFound (fun r n1 h1 => r = none ∧ n1 = n0 ∧ Po h1)) (x0 : Nat) (x2 : Int) (x3 : Int) (n : Nat) (h : xH) (hn0 : n = n0) (hy : (rg x3 ∧ rg x2) ∧ ((x2 ≤ x3 → Po h) ∧ (¬ x2 ≤ x3 → okO n h x0 8 ∧ (rg x3 ∧ rg (hG h x0 19)) ∧ (((hG h x0 19) ≤ x3 → X9_sayFound_w30 G k x0 x2 x3 48 x0 n h) ∧ (¬ (hG h x0 19) ≤ x3 → okO n h x0 8 ∧ 0 ≤ hG h x0 18 ∧ okA n h ((hG h x0 18).toNat) 100 x3 ∧ X9_sayFound_w30 G k x0 x2 x3 (48 + (hG h ((hG h x0 18).toNat) (x3.toNat))) x0 n h))))) : X9_sayFound_w2 G k x0 x2 x3 n h := by
  subst hn0
  refine ww_iload_n C 3 2 rfl rfl dX9_sayFound_2 ?_
  refine ww_iload_n C 2 1 rfl rfl dX9_sayFound_3 ?_
  obtain ⟨p1, hy⟩ := hy
  refine ww_icmp_ge C (tg := 39) dX9_sayFound_4 (by decide) p1.1 p1.2 (fun c2 => ?_) (fun c2 => ?_)
  · have hy := hy.1 c2
    exact ww_vret C E dX9_sayFound_39 (by decide) (by decide) ⟨rfl, rfl, hy⟩
  · have hy := hy.2 c2
    refine ww_aload_n C 0 0 rfl rfl dX9_sayFound_7 ?_
    refine ww_iload_n C 3 2 rfl rfl dX9_sayFound_8 ?_
    refine ww_aload_n C 0 0 rfl rfl dX9_sayFound_9 ?_
    obtain ⟨p3, hy⟩ := hy
    refine gf_X9_284 C dX9_sayFound_10 p3 ?_
    obtain ⟨p4, hy⟩ := hy
    refine ww_icmp_ge C (tg := 28) dX9_sayFound_13 (by decide) p4.1 p4.2 (fun c5 => ?_) (fun c5 => ?_)
    · have hy := hy.1 c5
      refine ww_bipush C (z := 48) dX9_sayFound_28 rfl ?_
      exact ww_sub [0, 1, 2] rfl (by decide) (by decide) hy
    · have hy := hy.2 c5
      refine ww_bipush C (z := 48) dX9_sayFound_16 rfl ?_
      refine ww_aload_n C 0 0 rfl rfl dX9_sayFound_18 ?_
      obtain ⟨p6, hy⟩ := hy
      obtain ⟨p7, hy⟩ := hy
      refine gf_X9_290 C dX9_sayFound_19 p6 p7 ?_
      refine ww_iload_n C 3 2 rfl rfl dX9_sayFound_22 ?_
      obtain ⟨p8, hy⟩ := hy
      refine ww_iald C dX9_sayFound_23 p8 ?_
      refine ww_iadd C dX9_sayFound_24 ?_
      refine ww_goto C (tg := 30) dX9_sayFound_25 (by decide) ?_
      exact ww_sub [0, 1, 2] rfl (by decide) (by decide) hy
set_option maxRecDepth 100000 in
set_option maxHeartbeats 4000000 in
theorem X9_sayFound_b30 {G : xG} {k : xK} {n0 : Nat} {Po : xH → Prop} (C : CC G k cX9_sayFound RX9 4 rm_X9_sayFound) (E : CQ G k none rm_X9_sayFound (fun r n1 h1 => r = none ∧ n1 = n0 ∧ Po h1)) (x0 : Nat) (x2 : Int) (x3 : Int) (s0 : Int) (s1 : Nat) (n : Nat) (h : xH) (hn0 : n = n0) (hy : okO n h s1 8 ∧ S_X9_say G (kl k) s1 s0 n h (fun h2 => X9_sayFound_w2 G k x0 x2 (x3 + 1) n h2)) : X9_sayFound_w30 G k x0 x2 x3 s0 s1 n h := by
  subst hn0
  obtain ⟨p1, hy⟩ := hy
  refine cl_X9_96 C dX9_sayFound_30 (Nat.le_of_ble_eq_true rfl) ⟨by decide, by decide⟩ ⟨by decide, by decide⟩ p1 ?_
  refine S_X9_say.mono hy (fun h2 hy => ?_)
  refine ww_iinc C 3 2 rfl (by decide) rfl dX9_sayFound_33 ?_
  refine ww_goto C (tg := 2) dX9_sayFound_36 (by decide) ?_
  exact ww_sub [1, 2, 0] rfl (by decide) (by decide) hy
abbrev X9_placed_w0 (G : xG) (k : xK) (x0 : Nat) (x1 : Int) (n : Nat) (h : xH) : Prop := WW G k 4 0 0 0 [(0, rf G x0), (1, .int (iz x1))] [] n h
abbrev X9_placed_w47 (G : xG) (k : xK) (x0 : Nat) (x1 : Int) (x2 : Int) (n : Nat) (h : xH) : Prop := WW G k 4 0 0 47 [(0, rf G x0), (1, .int (iz x1)), (2, .int (iz x2))] [] n h
abbrev X9_placed_w38 (G : xG) (k : xK) (x0 : Nat) (x1 : Int) (x2 : Int) (n : Nat) (h : xH) : Prop := WW G k 4 0 0 38 [(0, rf G x0), (1, .int (iz x1)), (2, .int (iz x2))] [] n h
abbrev X9_placed_w93 (G : xG) (k : xK) (x0 : Nat) (x1 : Int) (x2 : Int) (n : Nat) (h : xH) : Prop := WW G k 4 0 0 93 [(0, rf G x0), (1, .int (iz x1)), (2, .int (iz x2))] [] n h
abbrev X9_placed_w66 (G : xG) (k : xK) (x0 : Nat) (x1 : Int) (x2 : Int) (x3 : Int) (n : Nat) (h : xH) : Prop := WW G k 4 0 0 66 [(0, rf G x0), (1, .int (iz x1)), (2, .int (iz x2)), (3, .int (iz x3))] [] n h
abbrev X9_placed_w129 (G : xG) (k : xK)  (n : Nat) (h : xH) : Prop := WW G k 4 0 0 129 [] [] n h
abbrev X9_placed_w110 (G : xG) (k : xK) (x0 : Nat) (x1 : Int) (x2 : Int) (n : Nat) (h : xH) : Prop := WW G k 4 0 0 110 [(0, rf G x0), (1, .int (iz x1)), (2, .int (iz x2))] [] n h
theorem S_X9_placed_of {G : xG} {l : Launch} {x0 : Nat} {x1 : Int} {n : Nat} {h : xH} {Po : xH → Prop} (body : ∀ k : xK, kl k = l → CC G k cX9_placed RX9 4 rm_X9_placed → CQ G k none rm_X9_placed (fun r n1 h1 => r = none ∧ n1 = n ∧ Po h1) → X9_placed_w0 G k x0 x1 n h) : S_X9_placed G l x0 x1 n h Po := xS_of (by decide +kernel) (Nat.le_of_ble_eq_true rfl) rfl (fun k hl hnm C E => body k hl C E)
set_option maxRecDepth 100000 in
set_option maxHeartbeats 4000000 in
theorem X9_placed_b0 {G : xG} {k : xK} {n0 : Nat} {Po : xH → Prop} (C : CC G k cX9_placed RX9 4 rm_X9_placed) (E : CQ G k none rm_X9_placed (fun r n1 h1 => r = none ∧ n1 = n0 ∧ Po h1)) (x0 : Nat) (x1 : Int) (n : Nat) (h : xH) (hn0 : n = n0) (hy : okO n h x0 8 ∧ rg x1 ∧ ((x1 ≤ 0 → X9_placed_w47 G k x0 x1 (hG h x0 19) n h) ∧ (¬ x1 ≤ 0 → (rg x1 ∧ rg (21 : Int)) ∧ (((21 : Int) < x1 → X9_placed_w47 G k x0 x1 (hG h x0 19) n h) ∧ (¬ (21 : Int) < x1 → okO n h x0 8 ∧ S_X9_sayFound G (kl k) x0 0 x1 n h (fun h7 => okO n h7 x0 8 ∧ S_X9_say G (kl k) x0 46 n h7 (fun h9 => (rg (hG h x0 19) ∧ rg x1) ∧ ((x1 < (hG h x0 19) → X9_placed_w38 G k x0 x1 (hG h x0 19) n h9) ∧ (¬ x1 < (hG h x0 19) → okO n h9 x0 8 ∧ S_X9_say G (kl k) x0 48 n h9 (fun h13 => X9_placed_w38 G k x0 x1 (hG h x0 19) n h13)))))))))) : X9_placed_w0 G k x0 x1 n h := by
  subst hn0
  refine ww_aload_n C 0 0 rfl rfl dX9_placed_0 ?_
  obtain ⟨p1, hy⟩ := hy
  refine gf_X9_284 C dX9_placed_1 p1 ?_
  refine ww_istore_n C 2 rfl (by decide) rfl dX9_placed_4 ?_
  refine ww_iload_n C 1 2 rfl rfl dX9_placed_5 ?_
  obtain ⟨p2, hy⟩ := hy
  refine ww_if_le C (tg := 47) dX9_placed_6 (by decide) p2 (fun c3 => ?_) (fun c3 => ?_)
  · have hy := hy.1 c3
    exact ww_sub [1, 2, 0] rfl (by decide) (by decide) hy
  · have hy := hy.2 c3
    refine ww_iload_n C 1 2 rfl rfl dX9_placed_9 ?_
    refine ww_bipush C (z := 21) dX9_placed_10 rfl ?_
    obtain ⟨p4, hy⟩ := hy
    refine ww_icmp_gt C (tg := 47) dX9_placed_12 (by decide) p4.1 p4.2 (fun c5 => ?_) (fun c5 => ?_)
    · have hy := hy.1 c5
      exact ww_sub [1, 2, 0] rfl (by decide) (by decide) hy
    · have hy := hy.2 c5
      refine ww_aload_n C 0 1 rfl rfl dX9_placed_15 ?_
      refine ww_iconst C (z := 0) dX9_placed_16 rfl ?_
      refine ww_iload_n C 1 2 rfl rfl dX9_placed_17 ?_
      obtain ⟨p6, hy⟩ := hy
      refine cl_X9_300 C dX9_placed_18 (Nat.le_of_ble_eq_true rfl) ⟨by decide, by decide⟩ ⟨by decide, by decide⟩ p6 ?_
      refine S_X9_sayFound.mono hy (fun h7 hy => ?_)
      refine ww_aload_n C 0 1 rfl rfl dX9_placed_21 ?_
      refine ww_bipush C (z := 46) dX9_placed_22 rfl ?_
      obtain ⟨p8, hy⟩ := hy
      refine cl_X9_96 C dX9_placed_24 (Nat.le_of_ble_eq_true rfl) ⟨by decide, by decide⟩ ⟨by decide, by decide⟩ p8 ?_
      refine S_X9_say.mono hy (fun h9 hy => ?_)
      refine ww_iload_n C 2 0 rfl rfl dX9_placed_27 ?_
      refine ww_iload_n C 1 2 rfl rfl dX9_placed_28 ?_
      obtain ⟨p10, hy⟩ := hy
      refine ww_icmp_gt C (tg := 38) dX9_placed_29 (by decide) p10.1 p10.2 (fun c11 => ?_) (fun c11 => ?_)
      · have hy := hy.1 c11
        exact ww_sub [1, 2, 0] rfl (by decide) (by decide) hy
      · have hy := hy.2 c11
        refine ww_aload_n C 0 1 rfl rfl dX9_placed_32 ?_
        refine ww_bipush C (z := 48) dX9_placed_33 rfl ?_
        obtain ⟨p12, hy⟩ := hy
        refine cl_X9_96 C dX9_placed_35 (Nat.le_of_ble_eq_true rfl) ⟨by decide, by decide⟩ ⟨by decide, by decide⟩ p12 ?_
        refine S_X9_say.mono hy (fun h13 hy => ?_)
        exact ww_sub [1, 2, 0] rfl (by decide) (by decide) hy
set_option maxRecDepth 100000 in
set_option maxHeartbeats 4000000 in
theorem X9_placed_b47 {G : xG} {k : xK} {n0 : Nat} {Po : xH → Prop} (C : CC G k cX9_placed RX9 4 rm_X9_placed) (E : CQ G k none rm_X9_placed (fun r n1 h1 => r = none ∧ n1 = n0 ∧ Po h1)) (x0 : Nat) (x1 : Int) (x2 : Int) (n : Nat) (h : xH) (hn0 : n = n0) (hy : (rg x1 ∧ rg (-7 : Int)) ∧ ((x1 ≤ (-7 : Int) → X9_placed_w93 G k x0 x1 x2 n h) ∧ (¬ x1 ≤ (-7 : Int) → rg x1 ∧ ((0 < x1 → X9_placed_w93 G k x0 x1 x2 n h) ∧ (¬ 0 < x1 → okO n h x0 8 ∧ S_X9_sayWord G (kl k) x0 2 n h (fun h6 => X9_placed_w66 G k x0 x1 x2 0 n h6)))))) : X9_placed_w47 G k x0 x1 x2 n h := by
  subst hn0
  refine ww_iload_n C 1 1 rfl rfl dX9_placed_47 ?_
  refine ww_bipush C (z := (-7)) dX9_placed_48 rfl ?_
  obtain ⟨p1, hy⟩ := hy
  refine ww_icmp_le C (tg := 93) dX9_placed_50 (by decide) p1.1 p1.2 (fun c2 => ?_) (fun c2 => ?_)
  · have hy := hy.1 c2
    exact ww_sub [0, 1, 2] rfl (by decide) (by decide) hy
  · have hy := hy.2 c2
    refine ww_iload_n C 1 1 rfl rfl dX9_placed_53 ?_
    obtain ⟨p3, hy⟩ := hy
    refine ww_if_gt C (tg := 93) dX9_placed_54 (by decide) p3 (fun c4 => ?_) (fun c4 => ?_)
    · have hy := hy.1 c4
      exact ww_sub [0, 1, 2] rfl (by decide) (by decide) hy
    · have hy := hy.2 c4
      refine ww_aload_n C 0 0 rfl rfl dX9_placed_57 ?_
      refine ww_ldcSw C (i0 := 304) (j := 2) (tx := "0.") (by decide) dX9_placed_58 ?_
      obtain ⟨p5, hy⟩ := hy
      refine cl_X9_253 C dX9_placed_61 (Nat.le_of_ble_eq_true rfl) ⟨by decide, by decide⟩ ⟨by decide, by decide⟩ p5 ?_
      refine S_X9_sayWord.mono hy (fun h6 hy => ?_)
      refine ww_iconst C (z := 0) dX9_placed_64 rfl ?_
      refine ww_istore_n C 3 rfl (by decide) rfl dX9_placed_65 ?_
      exact ww_sub [1, 2, 3, 0] rfl (by decide) (by decide) hy
set_option maxRecDepth 100000 in
set_option maxHeartbeats 4000000 in
theorem X9_placed_b38 {G : xG} {k : xK} {n0 : Nat} {Po : xH → Prop} (C : CC G k cX9_placed RX9 4 rm_X9_placed) (E : CQ G k none rm_X9_placed (fun r n1 h1 => r = none ∧ n1 = n0 ∧ Po h1)) (x0 : Nat) (x1 : Int) (x2 : Int) (n : Nat) (h : xH) (hn0 : n = n0) (hy : okO n h x0 8 ∧ S_X9_sayFound G (kl k) x0 x1 x2 n h (fun h2 => X9_placed_w129 G k  n h2)) : X9_placed_w38 G k x0 x1 x2 n h := by
  subst hn0
  refine ww_aload_n C 0 0 rfl rfl dX9_placed_38 ?_
  refine ww_iload_n C 1 1 rfl rfl dX9_placed_39 ?_
  refine ww_iload_n C 2 2 rfl rfl dX9_placed_40 ?_
  obtain ⟨p1, hy⟩ := hy
  refine cl_X9_300 C dX9_placed_41 (Nat.le_of_ble_eq_true rfl) ⟨by decide, by decide⟩ ⟨by decide, by decide⟩ p1 ?_
  refine S_X9_sayFound.mono hy (fun h2 hy => ?_)
  refine ww_goto C (tg := 129) dX9_placed_44 (by decide) ?_
  exact ww_sub [] rfl (by decide) (by decide) hy
set_option maxRecDepth 100000 in
set_option maxHeartbeats 4000000 in
theorem X9_placed_b93 {G : xG} {k : xK} {n0 : Nat} {Po : xH → Prop} (C : CC G k cX9_placed RX9 4 rm_X9_placed) (E : CQ G k none rm_X9_placed (fun r n1 h1 => r = none ∧ n1 = n0 ∧ Po h1)) (x0 : Nat) (x1 : Int) (x2 : Int) (n : Nat) (h : xH) (hn0 : n = n0) (hy : okO n h x0 8 ∧ S_X9_sayFound G (kl k) x0 0 1 n h (fun h2 => (rg x2 ∧ rg (1 : Int)) ∧ ((x2 ≤ (1 : Int) → X9_placed_w110 G k x0 x1 x2 n h2) ∧ (¬ x2 ≤ (1 : Int) → okO n h2 x0 8 ∧ S_X9_say G (kl k) x0 46 n h2 (fun h6 => X9_placed_w110 G k x0 x1 x2 n h6))))) : X9_placed_w93 G k x0 x1 x2 n h := by
  subst hn0
  refine ww_aload_n C 0 0 rfl rfl dX9_placed_93 ?_
  refine ww_iconst C (z := 0) dX9_placed_94 rfl ?_
  refine ww_iconst C (z := 1) dX9_placed_95 rfl ?_
  obtain ⟨p1, hy⟩ := hy
  refine cl_X9_300 C dX9_placed_96 (Nat.le_of_ble_eq_true rfl) ⟨by decide, by decide⟩ ⟨by decide, by decide⟩ p1 ?_
  refine S_X9_sayFound.mono hy (fun h2 hy => ?_)
  refine ww_iload_n C 2 2 rfl rfl dX9_placed_99 ?_
  refine ww_iconst C (z := 1) dX9_placed_100 rfl ?_
  obtain ⟨p3, hy⟩ := hy
  refine ww_icmp_le C (tg := 110) dX9_placed_101 (by decide) p3.1 p3.2 (fun c4 => ?_) (fun c4 => ?_)
  · have hy := hy.1 c4
    exact ww_sub [0, 1, 2] rfl (by decide) (by decide) hy
  · have hy := hy.2 c4
    refine ww_aload_n C 0 0 rfl rfl dX9_placed_104 ?_
    refine ww_bipush C (z := 46) dX9_placed_105 rfl ?_
    obtain ⟨p5, hy⟩ := hy
    refine cl_X9_96 C dX9_placed_107 (Nat.le_of_ble_eq_true rfl) ⟨by decide, by decide⟩ ⟨by decide, by decide⟩ p5 ?_
    refine S_X9_say.mono hy (fun h6 hy => ?_)
    exact ww_sub [0, 1, 2] rfl (by decide) (by decide) hy
set_option maxRecDepth 100000 in
set_option maxHeartbeats 4000000 in
theorem X9_placed_b66 {G : xG} {k : xK} {n0 : Nat} {Po : xH → Prop} (C : CC G k cX9_placed RX9 4 rm_X9_placed) (E : CQ G k none rm_X9_placed (fun r n1 h1 => r = none ∧ n1 = n0 ∧ Po h1)) (x0 : Nat) (x1 : Int) (x2 : Int) (x3 : Int) (n : Nat) (h : xH) (hn0 : n = n0) (hy : (rg x3 ∧ rg (-x1)) ∧ (((-x1) ≤ x3 → okO n h x0 8 ∧ S_X9_sayFound G (kl k) x0 0 x2 n h (fun h4 => X9_placed_w129 G k  n h4)) ∧ (¬ (-x1) ≤ x3 → okO n h x0 8 ∧ S_X9_say G (kl k) x0 48 n h (fun h6 => X9_placed_w66 G k x0 x1 x2 (x3 + 1) n h6)))) : X9_placed_w66 G k x0 x1 x2 x3 n h := by
  subst hn0
  refine ww_iload_n C 3 3 rfl rfl dX9_placed_66 ?_
  refine ww_iload_n C 1 1 rfl rfl dX9_placed_67 ?_
  refine ww_ineg C dX9_placed_68 ?_
  obtain ⟨p1, hy⟩ := hy
  refine ww_icmp_ge C (tg := 84) dX9_placed_69 (by decide) p1.1 p1.2 (fun c2 => ?_) (fun c2 => ?_)
  · have hy := hy.1 c2
    refine ww_aload_n C 0 0 rfl rfl dX9_placed_84 ?_
    refine ww_iconst C (z := 0) dX9_placed_85 rfl ?_
    refine ww_iload_n C 2 2 rfl rfl dX9_placed_86 ?_
    obtain ⟨p3, hy⟩ := hy
    refine cl_X9_300 C dX9_placed_87 (Nat.le_of_ble_eq_true rfl) ⟨by decide, by decide⟩ ⟨by decide, by decide⟩ p3 ?_
    refine S_X9_sayFound.mono hy (fun h4 hy => ?_)
    refine ww_goto C (tg := 129) dX9_placed_90 (by decide) ?_
    exact ww_sub [] rfl (by decide) (by decide) hy
  · have hy := hy.2 c2
    refine ww_aload_n C 0 0 rfl rfl dX9_placed_72 ?_
    refine ww_bipush C (z := 48) dX9_placed_73 rfl ?_
    obtain ⟨p5, hy⟩ := hy
    refine cl_X9_96 C dX9_placed_75 (Nat.le_of_ble_eq_true rfl) ⟨by decide, by decide⟩ ⟨by decide, by decide⟩ p5 ?_
    refine S_X9_say.mono hy (fun h6 hy => ?_)
    refine ww_iinc C 3 3 rfl (by decide) rfl dX9_placed_78 ?_
    refine ww_goto C (tg := 66) dX9_placed_81 (by decide) ?_
    exact ww_sub [1, 2, 3, 0] rfl (by decide) (by decide) hy
set_option maxRecDepth 100000 in
set_option maxHeartbeats 4000000 in
theorem X9_placed_b129 {G : xG} {k : xK} {n0 : Nat} {Po : xH → Prop} (C : CC G k cX9_placed RX9 4 rm_X9_placed) (E : CQ G k none rm_X9_placed (fun r n1 h1 => r = none ∧ n1 = n0 ∧ Po h1))  (n : Nat) (h : xH) (hn0 : n = n0) (hy : Po h) : X9_placed_w129 G k  n h := by
  subst hn0
  exact ww_vret C E dX9_placed_129 (by decide) (by decide) ⟨rfl, rfl, hy⟩
set_option maxRecDepth 100000 in
set_option maxHeartbeats 4000000 in
theorem X9_placed_b110 {G : xG} {k : xK} {n0 : Nat} {Po : xH → Prop} (C : CC G k cX9_placed RX9 4 rm_X9_placed) (E : CQ G k none rm_X9_placed (fun r n1 h1 => r = none ∧ n1 = n0 ∧ Po h1)) (x0 : Nat) (x1 : Int) (x2 : Int) (n : Nat) (h : xH) (hn0 : n = n0) (hy : okO n h x0 8 ∧ S_X9_sayFound G (kl k) x0 1 x2 n h (fun h2 => okO n h2 x0 8 ∧ S_X9_say G (kl k) x0 101 n h2 (fun h4 => okO n h4 x0 8 ∧ S_X9_saySmall G (kl k) x0 (x1 - 1) n h4 (fun h6 => X9_placed_w129 G k  n h6)))) : X9_placed_w110 G k x0 x1 x2 n h := by
  subst hn0
  refine ww_aload_n C 0 0 rfl rfl dX9_placed_110 ?_
  refine ww_iconst C (z := 1) dX9_placed_111 rfl ?_
  refine ww_iload_n C 2 2 rfl rfl dX9_placed_112 ?_
  obtain ⟨p1, hy⟩ := hy
  refine cl_X9_300 C dX9_placed_113 (Nat.le_of_ble_eq_true rfl) ⟨by decide, by decide⟩ ⟨by decide, by decide⟩ p1 ?_
  refine S_X9_sayFound.mono hy (fun h2 hy => ?_)
  refine ww_aload_n C 0 0 rfl rfl dX9_placed_116 ?_
  refine ww_bipush C (z := 101) dX9_placed_117 rfl ?_
  obtain ⟨p3, hy⟩ := hy
  refine cl_X9_96 C dX9_placed_119 (Nat.le_of_ble_eq_true rfl) ⟨by decide, by decide⟩ ⟨by decide, by decide⟩ p3 ?_
  refine S_X9_say.mono hy (fun h4 hy => ?_)
  refine ww_aload_n C 0 0 rfl rfl dX9_placed_122 ?_
  refine ww_iload_n C 1 1 rfl rfl dX9_placed_123 ?_
  refine ww_iconst C (z := 1) dX9_placed_124 rfl ?_
  refine ww_isub C dX9_placed_125 ?_
  obtain ⟨p5, hy⟩ := hy
  refine cl_X9_306 C dX9_placed_126 (Nat.le_of_ble_eq_true rfl) ⟨by decide, by decide⟩ ⟨by decide, by decide⟩ p5 ?_
  refine S_X9_saySmall.mono hy (fun h6 hy => ?_)
  exact ww_sub [] rfl (by decide) (by decide) hy
abbrev X9_shortest_w0 (G : xG) (k : xK) (x0 : Nat) (x1 : UInt64) (n : Nat) (h : xH) : Prop := WW G k 23 0 0 0 [(0, rf G x0), (1, .double x1)] [] n h
abbrev X9_shortest_w11 (G : xG) (k : xK) (x0 : Nat) (x3 : Int) (x5 : Int) (n : Nat) (h : xH) : Prop := WW G k 23 0 0 11 [(0, rf G x0), (3, .long (lz x3)), (5, .int (iz x5))] [] n h
abbrev X9_shortest_w39 (G : xG) (k : xK) (x0 : Nat) (x3 : Int) (x5 : Int) (n : Nat) (h : xH) : Prop := WW G k 23 0 0 39 [(0, rf G x0), (3, .long (lz x3)), (5, .int (iz x5))] [] n h
abbrev X9_shortest_w54 (G : xG) (k : xK) (x0 : Nat) (x3 : Int) (x5 : Int) (s0 : Int) (n : Nat) (h : xH) : Prop := WW G k 23 0 0 54 [(0, rf G x0), (3, .long (lz x3)), (5, .int (iz x5))] [.int (iz s0)] n h
abbrev X9_shortest_w76 (G : xG) (k : xK) (x0 : Nat) (x3 : Int) (x5 : Int) (x6 : Int) (n : Nat) (h : xH) : Prop := WW G k 23 0 0 76 [(0, rf G x0), (3, .long (lz x3)), (5, .int (iz x5)), (6, .int (iz x6))] [] n h
abbrev X9_shortest_w77 (G : xG) (k : xK) (x0 : Nat) (x3 : Int) (x5 : Int) (x6 : Int) (s0 : Int) (n : Nat) (h : xH) : Prop := WW G k 23 0 0 77 [(0, rf G x0), (3, .long (lz x3)), (5, .int (iz x5)), (6, .int (iz x6))] [.int (iz s0)] n h
abbrev X9_shortest_w151 (G : xG) (k : xK) (x0 : Nat) (x5 : Int) (x6 : Int) (x7 : Int) (x8 : Nat) (n : Nat) (h : xH) : Prop := WW G k 23 2 7 151 [(0, rf G x0), (5, .int (iz x5)), (6, .int (iz x6)), (7, .int (iz x7)), (8, rf G x8)] [] n h
abbrev X9_shortest_w172 (G : xG) (k : xK) (x0 : Nat) (x5 : Int) (x6 : Int) (x7 : Int) (s0 : Int) (s1 : Int) (s2 : Nat) (n : Nat) (h : xH) : Prop := WW G k 23 2 7 172 [(0, rf G x0), (5, .int (iz x5)), (6, .int (iz x6)), (7, .int (iz x7))] [.int (iz s0), .int (iz s1), rf G s2] n h
abbrev X9_shortest_w182 (G : xG) (k : xK) (x0 : Nat) (x5 : Int) (x6 : Int) (x7 : Int) (s0 : Int) (s1 : Int) (s2 : Int) (s3 : Nat) (n : Nat) (h : xH) : Prop := WW G k 23 2 7 182 [(0, rf G x0), (5, .int (iz x5)), (6, .int (iz x6)), (7, .int (iz x7))] [.int (iz s0), .int (iz s1), .int (iz s2), rf G s3] n h
abbrev X9_shortest_w205 (G : xG) (k : xK) (x0 : Nat) (x5 : Int) (x6 : Int) (x7 : Int) (x9 : Int) (s0 : Int) (s1 : Int) (s2 : Nat) (n : Nat) (h : xH) : Prop := WW G k 23 2 7 205 [(0, rf G x0), (5, .int (iz x5)), (6, .int (iz x6)), (7, .int (iz x7)), (9, .int (iz x9))] [.int (iz s0), .int (iz s1), rf G s2] n h
abbrev X9_shortest_w215 (G : xG) (k : xK) (x0 : Nat) (x5 : Int) (x6 : Int) (x9 : Int) (s0 : Int) (s1 : Int) (s2 : Int) (s3 : Nat) (n : Nat) (h : xH) : Prop := WW G k 23 2 7 215 [(0, rf G x0), (5, .int (iz x5)), (6, .int (iz x6)), (9, .int (iz x9))] [.int (iz s0), .int (iz s1), .int (iz s2), rf G s3] n h
abbrev X9_shortest_w237 (G : xG) (k : xK) (x0 : Nat) (x5 : Int) (x6 : Int) (x9 : Int) (x10 : Int) (s0 : Int) (s1 : Int) (s2 : Nat) (n : Nat) (h : xH) : Prop := WW G k 23 2 7 237 [(0, rf G x0), (5, .int (iz x5)), (6, .int (iz x6)), (9, .int (iz x9)), (10, .int (iz x10))] [.int (iz s0), .int (iz s1), rf G s2] n h
abbrev X9_shortest_w258 (G : xG) (k : xK) (x0 : Nat) (x6 : Int) (x9 : Int) (x10 : Int) (x11 : Int) (s0 : Int) (s1 : Int) (s2 : Nat) (n : Nat) (h : xH) : Prop := WW G k 23 2 7 258 [(0, rf G x0), (6, .int (iz x6)), (9, .int (iz x9)), (10, .int (iz x10)), (11, .int (iz x11))] [.int (iz s0), .int (iz s1), rf G s2] n h
abbrev X9_shortest_w266 (G : xG) (k : xK) (x0 : Nat) (x6 : Int) (x9 : Int) (x10 : Int) (x11 : Int) (x12 : Int) (x13 : Int) (n : Nat) (h : xH) : Prop := WW G k 23 2 7 266 [(0, rf G x0), (6, .int (iz x6)), (9, .int (iz x9)), (10, .int (iz x10)), (11, .int (iz x11)), (12, .int (iz x12)), (13, .int (iz x13))] [] n h
abbrev X9_shortest_w305 (G : xG) (k : xK) (x0 : Nat) (x6 : Int) (x9 : Int) (x10 : Int) (x11 : Int) (x12 : Int) (x13 : Int) (x14 : Int) (n : Nat) (h : xH) : Prop := WW G k 23 2 7 305 [(0, rf G x0), (6, .int (iz x6)), (9, .int (iz x9)), (10, .int (iz x10)), (11, .int (iz x11)), (12, .int (iz x12)), (13, .int (iz x13)), (14, .int (iz x14))] [] n h
abbrev X9_shortest_w412 (G : xG) (k : xK) (x0 : Nat) (x6 : Int) (x9 : Int) (x10 : Int) (x11 : Int) (x12 : Int) (x13 : Int) (n : Nat) (h : xH) : Prop := WW G k 23 2 7 412 [(0, rf G x0), (6, .int (iz x6)), (9, .int (iz x9)), (10, .int (iz x10)), (11, .int (iz x11)), (12, .int (iz x12)), (13, .int (iz x13))] [] n h
abbrev X9_shortest_w358 (G : xG) (k : xK) (x0 : Nat) (x6 : Int) (x9 : Int) (x10 : Int) (x11 : Int) (x12 : Int) (x13 : Int) (s0 : Int) (n : Nat) (h : xH) : Prop := WW G k 23 2 7 358 [(0, rf G x0), (6, .int (iz x6)), (9, .int (iz x9)), (10, .int (iz x10)), (11, .int (iz x11)), (12, .int (iz x12)), (13, .int (iz x13))] [.int (iz s0)] n h
abbrev X9_shortest_w451 (G : xG) (k : xK) (x0 : Nat) (x6 : Int) (x9 : Int) (x10 : Int) (x11 : Int) (x12 : Int) (x13 : Int) (x15 : Int) (n : Nat) (h : xH) : Prop := WW G k 23 2 7 451 [(0, rf G x0), (6, .int (iz x6)), (9, .int (iz x9)), (10, .int (iz x10)), (11, .int (iz x11)), (12, .int (iz x12)), (13, .int (iz x13)), (15, .int (iz x15))] [] n h
abbrev X9_shortest_w404 (G : xG) (k : xK) (x0 : Nat) (x6 : Int) (x9 : Int) (x10 : Int) (x11 : Int) (x12 : Int) (x13 : Int) (x14 : Int) (n : Nat) (h : xH) : Prop := WW G k 23 2 7 404 [(0, rf G x0), (6, .int (iz x6)), (9, .int (iz x9)), (10, .int (iz x10)), (11, .int (iz x11)), (12, .int (iz x12)), (13, .int (iz x13)), (14, .int (iz x14))] [] n h
abbrev X9_shortest_w598 (G : xG) (k : xK) (x0 : Nat) (x6 : Int) (x9 : Int) (x10 : Int) (x11 : Int) (x12 : Int) (x13 : Int) (x15 : Int) (x17 : Int) (x18 : Int) (n : Nat) (h : xH) : Prop := WW G k 23 2 7 598 [(0, rf G x0), (6, .int (iz x6)), (9, .int (iz x9)), (10, .int (iz x10)), (11, .int (iz x11)), (12, .int (iz x12)), (13, .int (iz x13)), (15, .int (iz x15)), (17, .int (iz x17)), (18, .int (iz x18))] [] n h
abbrev X9_shortest_w602 (G : xG) (k : xK) (x0 : Nat) (x6 : Int) (x9 : Int) (x10 : Int) (x11 : Int) (x12 : Int) (x13 : Int) (x15 : Int) (x17 : Int) (x18 : Int) (n : Nat) (h : xH) : Prop := WW G k 23 2 7 602 [(0, rf G x0), (6, .int (iz x6)), (9, .int (iz x9)), (10, .int (iz x10)), (11, .int (iz x11)), (12, .int (iz x12)), (13, .int (iz x13)), (15, .int (iz x15)), (17, .int (iz x17)), (18, .int (iz x18))] [] n h
abbrev X9_shortest_w603 (G : xG) (k : xK) (x0 : Nat) (x6 : Int) (x9 : Int) (x10 : Int) (x11 : Int) (x12 : Int) (x13 : Int) (x15 : Int) (x17 : Int) (x18 : Int) (s0 : Int) (n : Nat) (h : xH) : Prop := WW G k 23 2 7 603 [(0, rf G x0), (6, .int (iz x6)), (9, .int (iz x9)), (10, .int (iz x10)), (11, .int (iz x11)), (12, .int (iz x12)), (13, .int (iz x13)), (15, .int (iz x15)), (17, .int (iz x17)), (18, .int (iz x18))] [.int (iz s0)] n h
abbrev X9_shortest_w620 (G : xG) (k : xK) (x0 : Nat) (x6 : Int) (x9 : Int) (x10 : Int) (x11 : Int) (x12 : Int) (x13 : Int) (x15 : Int) (x17 : Int) (x19 : Int) (n : Nat) (h : xH) : Prop := WW G k 23 2 7 620 [(0, rf G x0), (6, .int (iz x6)), (9, .int (iz x9)), (10, .int (iz x10)), (11, .int (iz x11)), (12, .int (iz x12)), (13, .int (iz x13)), (15, .int (iz x15)), (17, .int (iz x17)), (19, .int (iz x19))] [] n h
abbrev X9_shortest_w624 (G : xG) (k : xK) (x0 : Nat) (x6 : Int) (x9 : Int) (x10 : Int) (x11 : Int) (x12 : Int) (x13 : Int) (x15 : Int) (x17 : Int) (x19 : Int) (n : Nat) (h : xH) : Prop := WW G k 23 2 7 624 [(0, rf G x0), (6, .int (iz x6)), (9, .int (iz x9)), (10, .int (iz x10)), (11, .int (iz x11)), (12, .int (iz x12)), (13, .int (iz x13)), (15, .int (iz x15)), (17, .int (iz x17)), (19, .int (iz x19))] [] n h
abbrev X9_shortest_w625 (G : xG) (k : xK) (x0 : Nat) (x6 : Int) (x9 : Int) (x10 : Int) (x11 : Int) (x12 : Int) (x13 : Int) (x15 : Int) (x17 : Int) (x19 : Int) (s0 : Int) (n : Nat) (h : xH) : Prop := WW G k 23 2 7 625 [(0, rf G x0), (6, .int (iz x6)), (9, .int (iz x9)), (10, .int (iz x10)), (11, .int (iz x11)), (12, .int (iz x12)), (13, .int (iz x13)), (15, .int (iz x15)), (17, .int (iz x17)), (19, .int (iz x19))] [.int (iz s0)] n h
abbrev X9_shortest_w661 (G : xG) (k : xK) (x0 : Nat) (x9 : Int) (x13 : Int) (x15 : Int) (x17 : Int) (x19 : Int) (x20 : Int) (n : Nat) (h : xH) : Prop := WW G k 23 2 7 661 [(0, rf G x0), (9, .int (iz x9)), (13, .int (iz x13)), (15, .int (iz x15)), (17, .int (iz x17)), (19, .int (iz x19)), (20, .int (iz x20))] [] n h
abbrev X9_shortest_w706 (G : xG) (k : xK) (x0 : Nat) (x13 : Int) (x15 : Int) (n : Nat) (h : xH) : Prop := WW G k 23 2 7 706 [(0, rf G x0), (13, .int (iz x13)), (15, .int (iz x15))] [] n h
abbrev X9_shortest_w710 (G : xG) (k : xK) (x0 : Nat) (x13 : Int) (x15 : Int) (n : Nat) (h : xH) : Prop := WW G k 23 2 7 710 [(0, rf G x0), (13, .int (iz x13)), (15, .int (iz x15))] [] n h
abbrev X9_shortest_w711 (G : xG) (k : xK) (x0 : Nat) (x13 : Int) (x15 : Int) (s0 : Int) (n : Nat) (h : xH) : Prop := WW G k 23 2 7 711 [(0, rf G x0), (13, .int (iz x13)), (15, .int (iz x15))] [.int (iz s0)] n h
abbrev X9_shortest_w730 (G : xG) (k : xK) (x0 : Nat) (s0 : Int) (s1 : Nat) (s2 : Int) (n : Nat) (h : xH) : Prop := WW G k 23 2 7 730 [(0, rf G x0)] [.int (iz s0), rf G s1, .int (iz s2)] n h
theorem S_X9_shortest_of {G : xG} {l : Launch} {x0 : Nat} {x1 : UInt64} {n : Nat} {h : xH} {Po : Nat → xH → Prop} (body : ∀ k : xK, kl k = l → CC G k cX9_shortest RX9 23 rm_X9_shortest → CQ G k none rm_X9_shortest (fun r n1 h1 => r = none ∧ Po n1 h1) → X9_shortest_w0 G k x0 x1 n h) : S_X9_shortest G l x0 x1 n h Po := xS_of (by decide +kernel) (Nat.le_of_ble_eq_true rfl) rfl (fun k hl hnm C E => body k hl C E)
set_option maxRecDepth 100000 in
set_option maxHeartbeats 4000000 in
theorem X9_shortest_b0 {G : xG} {k : xK} {n0 : Nat} {Po : Nat → xH → Prop} (C : CC G k cX9_shortest RX9 23 rm_X9_shortest) (E : CQ G k none rm_X9_shortest (fun r n1 h1 => r = none ∧ Po n1 h1)) (x0 : Nat) (x1 : UInt64) (n : Nat) (h : xH) (hy : S_X9_significand G (kl k) x1 n h (fun z1 h2 => S_X9_exponent G (kl k) x1 n h2 (fun z3 h4 => X9_shortest_w11 G k x0 z1 z3 n h4))) : X9_shortest_w0 G k x0 x1 n h := by
  refine ww_dload_n C 1 1 rfl rfl dX9_shortest_0 ?_
  refine cl_X9_227 C dX9_shortest_1 (Nat.le_of_ble_eq_true rfl) ⟨by decide, by decide⟩ ⟨by decide, by decide⟩ ?_
  refine S_X9_significand.mono hy (fun z1 h2 hy => ?_)
  refine ww_lstore_n C 3 rfl (by decide) rfl dX9_shortest_4 ?_
  refine ww_dload_n C 1 2 rfl rfl dX9_shortest_5 ?_
  refine cl_X9_231 C dX9_shortest_6 (Nat.le_of_ble_eq_true rfl) ⟨by decide, by decide⟩ ⟨by decide, by decide⟩ ?_
  refine S_X9_exponent.mono hy (fun z3 h4 hy => ?_)
  refine ww_istore C 5 (by decide) rfl dX9_shortest_9 ?_
  exact ww_sub [2, 1, 0] rfl (by decide) (by decide) hy
set_option maxRecDepth 100000 in
set_option maxHeartbeats 4000000 in
theorem X9_shortest_b11 {G : xG} {k : xK} {n0 : Nat} {Po : Nat → xH → Prop} (C : CC G k cX9_shortest RX9 23 rm_X9_shortest) (E : CQ G k none rm_X9_shortest (fun r n1 h1 => r = none ∧ Po n1 h1)) (x0 : Nat) (x3 : Int) (x5 : Int) (n : Nat) (h : xH) (hy : (rgL x3 ∧ rgL 4503599627370496) ∧ ((0 ≤ (lC x3 4503599627370496) → X9_shortest_w39 G k x0 x3 x5 n h) ∧ (¬ 0 ≤ (lC x3 4503599627370496) → (rg x5 ∧ rg (-1074 : Int)) ∧ ((x5 ≤ (-1074 : Int) → X9_shortest_w39 G k x0 x3 x5 n h) ∧ (¬ x5 ≤ (-1074 : Int) → X9_shortest_w11 G k x0 (x3 * 2) (x5 + (-1)) n h))))) : X9_shortest_w11 G k x0 x3 x5 n h := by
  refine ww_lload_n C 3 1 rfl rfl dX9_shortest_11 ?_
  refine ww_ldc2 C (z := 4503599627370496) q_607 dX9_shortest_12 ?_
  obtain ⟨p1, hy⟩ := hy
  refine ww_lcmp C dX9_shortest_15 p1.1 p1.2 ?_
  refine ww_if_ge C (tg := 39) dX9_shortest_16 (by decide) (rg_lC _ _) (fun c3 => ?_) (fun c3 => ?_)
  · have hy := hy.1 c3
    exact ww_sub [0, 1, 2] rfl (by decide) (by decide) hy
  · have hy := hy.2 c3
    refine ww_iload C 5 2 rfl dX9_shortest_19 ?_
    refine ww_sipush C (z := (-1074)) dX9_shortest_21 rfl ?_
    obtain ⟨p4, hy⟩ := hy
    refine ww_icmp_le C (tg := 39) dX9_shortest_24 (by decide) p4.1 p4.2 (fun c5 => ?_) (fun c5 => ?_)
    · have hy := hy.1 c5
      exact ww_sub [0, 1, 2] rfl (by decide) (by decide) hy
    · have hy := hy.2 c5
      refine ww_lload_n C 3 1 rfl rfl dX9_shortest_27 ?_
      refine ww_ldc2 C (z := 2) q_611 dX9_shortest_28 ?_
      refine ww_lmul C dX9_shortest_31 ?_
      refine ww_lstore_n C 3 rfl (by decide) rfl dX9_shortest_32 ?_
      refine ww_iinc C 5 2 rfl (by decide) rfl dX9_shortest_33 ?_
      refine ww_goto C (tg := 11) dX9_shortest_36 (by decide) ?_
      exact ww_sub [2, 1, 0] rfl (by decide) (by decide) hy
set_option maxRecDepth 100000 in
set_option maxHeartbeats 4000000 in
theorem X9_shortest_b39 {G : xG} {k : xK} {n0 : Nat} {Po : Nat → xH → Prop} (C : CC G k cX9_shortest RX9 23 rm_X9_shortest) (E : CQ G k none rm_X9_shortest (fun r n1 h1 => r = none ∧ Po n1 h1)) (x0 : Nat) (x3 : Int) (x5 : Int) (n : Nat) (h : xH) (hy : (rgL x3 ∧ rgL (2 : Int) ∧ (2 : Int) ≠ 0) ∧ (rgL (x3.tmod 2) ∧ rgL 0) ∧ ((¬ (lC (x3.tmod 2) 0) = 0 → X9_shortest_w54 G k x0 x3 x5 0 n h) ∧ ((lC (x3.tmod 2) 0) = 0 → X9_shortest_w54 G k x0 x3 x5 1 n h))) : X9_shortest_w39 G k x0 x3 x5 n h := by
  refine ww_lload_n C 3 1 rfl rfl dX9_shortest_39 ?_
  refine ww_ldc2 C (z := 2) q_611 dX9_shortest_40 ?_
  obtain ⟨p1, hy⟩ := hy
  refine ww_lrem C dX9_shortest_43 p1.1 p1.2.1 p1.2.2 ?_
  refine ww_lconst C (z := 0) dX9_shortest_44 rfl ?_
  obtain ⟨p2, hy⟩ := hy
  refine ww_lcmp C dX9_shortest_45 p2.1 p2.2 ?_
  refine ww_if_ne C (tg := 53) dX9_shortest_46 (by decide) (rg_lC _ _) (fun c4 => ?_) (fun c4 => ?_)
  · have hy := hy.1 c4
    refine ww_iconst C (z := 0) dX9_shortest_53 rfl ?_
    exact ww_sub [0, 1, 2] rfl (by decide) (by decide) hy
  · have hy := hy.2 c4
    refine ww_iconst C (z := 1) dX9_shortest_49 rfl ?_
    refine ww_goto C (tg := 54) dX9_shortest_50 (by decide) ?_
    exact ww_sub [0, 1, 2] rfl (by decide) (by decide) hy
set_option maxRecDepth 100000 in
set_option maxHeartbeats 4000000 in
theorem X9_shortest_b54 {G : xG} {k : xK} {n0 : Nat} {Po : Nat → xH → Prop} (C : CC G k cX9_shortest RX9 23 rm_X9_shortest) (E : CQ G k none rm_X9_shortest (fun r n1 h1 => r = none ∧ Po n1 h1)) (x0 : Nat) (x3 : Int) (x5 : Int) (s0 : Int) (n : Nat) (h : xH) (hy : (rgL x3 ∧ rgL 4503599627370496) ∧ ((¬ (lC x3 4503599627370496) = 0 → X9_shortest_w76 G k x0 x3 x5 s0 n h) ∧ ((lC x3 4503599627370496) = 0 → (rg x5 ∧ rg (-1074 : Int)) ∧ ((x5 ≤ (-1074 : Int) → X9_shortest_w76 G k x0 x3 x5 s0 n h) ∧ (¬ x5 ≤ (-1074 : Int) → X9_shortest_w77 G k x0 x3 x5 s0 1 n h))))) : X9_shortest_w54 G k x0 x3 x5 s0 n h := by
  refine ww_istore C 6 (by decide) rfl dX9_shortest_54 ?_
  refine ww_lload_n C 3 2 rfl rfl dX9_shortest_56 ?_
  refine ww_ldc2 C (z := 4503599627370496) q_607 dX9_shortest_57 ?_
  obtain ⟨p1, hy⟩ := hy
  refine ww_lcmp C dX9_shortest_60 p1.1 p1.2 ?_
  refine ww_if_ne C (tg := 76) dX9_shortest_61 (by decide) (rg_lC _ _) (fun c3 => ?_) (fun c3 => ?_)
  · have hy := hy.1 c3
    exact ww_sub [1, 2, 3, 0] rfl (by decide) (by decide) hy
  · have hy := hy.2 c3
    refine ww_iload C 5 3 rfl dX9_shortest_64 ?_
    refine ww_sipush C (z := (-1074)) dX9_shortest_66 rfl ?_
    obtain ⟨p4, hy⟩ := hy
    refine ww_icmp_le C (tg := 76) dX9_shortest_69 (by decide) p4.1 p4.2 (fun c5 => ?_) (fun c5 => ?_)
    · have hy := hy.1 c5
      exact ww_sub [1, 2, 3, 0] rfl (by decide) (by decide) hy
    · have hy := hy.2 c5
      refine ww_iconst C (z := 1) dX9_shortest_72 rfl ?_
      refine ww_goto C (tg := 77) dX9_shortest_73 (by decide) ?_
      exact ww_sub [1, 2, 3, 0] rfl (by decide) (by decide) hy
set_option maxRecDepth 100000 in
set_option maxHeartbeats 4000000 in
theorem X9_shortest_b76 {G : xG} {k : xK} {n0 : Nat} {Po : Nat → xH → Prop} (C : CC G k cX9_shortest RX9 23 rm_X9_shortest) (E : CQ G k none rm_X9_shortest (fun r n1 h1 => r = none ∧ Po n1 h1)) (x0 : Nat) (x3 : Int) (x5 : Int) (x6 : Int) (n : Nat) (h : xH) (hy : X9_shortest_w77 G k x0 x3 x5 x6 0 n h) : X9_shortest_w76 G k x0 x3 x5 x6 n h := by
  refine ww_iconst C (z := 0) dX9_shortest_76 rfl ?_
  exact ww_sub [0, 1, 2, 3] rfl (by decide) (by decide) hy
set_option maxRecDepth 100000 in
set_option maxHeartbeats 4000000 in
theorem X9_shortest_b77 {G : xG} {k : xK} {n0 : Nat} {Po : Nat → xH → Prop} (C : CC G k cX9_shortest RX9 23 rm_X9_shortest) (E : CQ G k none rm_X9_shortest (fun r n1 h1 => r = none ∧ Po n1 h1)) (x0 : Nat) (x3 : Int) (x5 : Int) (x6 : Int) (s0 : Int) (n : Nat) (h : xH) (hy : S_X9_whole G (kl k) x3 n h (fun z1 n3 h2 => okO n3 h2 z1 7 ∧ 0 ≤ hG h2 z1 1 ∧ okO n3 h2 x0 8 ∧ 0 ≤ hG h2 x0 13 ∧ okO n3 h2 z1 7 ∧ 0 ≤ hG h2 z1 1 ∧ (((hG h2 z1 1).toNat) < n3 ∧ ((h2 ((hG h2 z1 1).toNat)).1 = 100 ∨ (h2 ((hG h2 z1 1).toNat)).1 = 101)) ∧ S_X9_copyRow G (kl k) ((hG h2 z1 1).toNat) ((hG h2 x0 13).toNat) ((h2 ((hG h2 z1 1).toNat)).2.1 : Int) n3 h2 (fun h11 => okO n3 h11 x0 8 ∧ 0 ≤ hG h11 x0 0 ∧ okO n3 h11 x0 8 ∧ 0 ≤ hG h11 x0 14 ∧ S_X9_copyRow G (kl k) ((hG h11 x0 0).toNat) ((hG h11 x0 14).toNat) 1 n3 h11 (fun h16 => okO n3 h16 x0 8 ∧ 0 ≤ hG h16 x0 0 ∧ okO n3 h16 x0 8 ∧ 0 ≤ hG h16 x0 15 ∧ S_X9_copyRow G (kl k) ((hG h16 x0 0).toNat) ((hG h16 x0 15).toNat) 1 n3 h16 (fun h21 => okO n3 h21 x0 8 ∧ 0 ≤ hG h21 x0 0 ∧ okO n3 h21 x0 8 ∧ 0 ≤ hG h21 x0 16 ∧ S_X9_copyRow G (kl k) ((hG h21 x0 0).toNat) ((hG h21 x0 16).toNat) 1 n3 h21 (fun h26 => rg s0 ∧ ((s0 = 0 → X9_shortest_w151 G k x0 x5 x6 s0 z1 n3 h26) ∧ (¬ s0 = 0 → okO n3 h26 x0 8 ∧ 0 ≤ hG h26 x0 16 ∧ okA n3 h26 ((hG h26 x0 16).toNat) 100 0 ∧ (∀ h32 : xH, h32 = hS h26 ((hG h26 x0 16).toNat) 0 2 → X9_shortest_w151 G k x0 x5 x6 s0 z1 n3 h32))))))))) : X9_shortest_w77 G k x0 x3 x5 x6 s0 n h := by
  refine ww_istore C 7 (by decide) rfl dX9_shortest_77 ?_
  refine ww_lload_n C 3 2 rfl rfl dX9_shortest_79 ?_
  refine cl_X9_163 C dX9_shortest_80 (Nat.le_of_ble_eq_true rfl) ⟨by decide, by decide⟩ ⟨by decide, by decide⟩ ?_
  refine S_X9_whole.mono hy (fun z1 n3 h2 hy => ?_)
  refine ww_astore C 8 (by decide) rfl dX9_shortest_83 ?_
  refine ww_aload C 8 0 rfl dX9_shortest_85 ?_
  obtain ⟨p4, hy⟩ := hy
  obtain ⟨p5, hy⟩ := hy
  refine gf_X9_104 C dX9_shortest_87 p4 p5 ?_
  refine ww_aload_n C 0 2 rfl rfl dX9_shortest_90 ?_
  obtain ⟨p6, hy⟩ := hy
  obtain ⟨p7, hy⟩ := hy
  refine gf_X9_266 C dX9_shortest_91 p6 p7 ?_
  refine ww_aload C 8 0 rfl dX9_shortest_94 ?_
  obtain ⟨p8, hy⟩ := hy
  obtain ⟨p9, hy⟩ := hy
  refine gf_X9_104 C dX9_shortest_96 p8 p9 ?_
  obtain ⟨p10, hy⟩ := hy
  refine ww_alen C dX9_shortest_99 p10.1 p10.2 ?_
  refine cl_X9_61 C dX9_shortest_100 (Nat.le_of_ble_eq_true rfl) ⟨by decide, by decide⟩ ⟨by decide, by decide⟩ ?_
  refine S_X9_copyRow.mono hy (fun h11 hy => ?_)
  refine ww_aload_n C 0 2 rfl rfl dX9_shortest_103 ?_
  obtain ⟨p12, hy⟩ := hy
  obtain ⟨p13, hy⟩ := hy
  refine gf_X9_125 C dX9_shortest_104 p12 p13 ?_
  refine ww_aload_n C 0 2 rfl rfl dX9_shortest_107 ?_
  obtain ⟨p14, hy⟩ := hy
  obtain ⟨p15, hy⟩ := hy
  refine gf_X9_269 C dX9_shortest_108 p14 p15 ?_
  refine ww_iconst C (z := 1) dX9_shortest_111 rfl ?_
  refine cl_X9_61 C dX9_shortest_112 (Nat.le_of_ble_eq_true rfl) ⟨by decide, by decide⟩ ⟨by decide, by decide⟩ ?_
  refine S_X9_copyRow.mono hy (fun h16 hy => ?_)
  refine ww_aload_n C 0 2 rfl rfl dX9_shortest_115 ?_
  obtain ⟨p17, hy⟩ := hy
  obtain ⟨p18, hy⟩ := hy
  refine gf_X9_125 C dX9_shortest_116 p17 p18 ?_
  refine ww_aload_n C 0 2 rfl rfl dX9_shortest_119 ?_
  obtain ⟨p19, hy⟩ := hy
  obtain ⟨p20, hy⟩ := hy
  refine gf_X9_272 C dX9_shortest_120 p19 p20 ?_
  refine ww_iconst C (z := 1) dX9_shortest_123 rfl ?_
  refine cl_X9_61 C dX9_shortest_124 (Nat.le_of_ble_eq_true rfl) ⟨by decide, by decide⟩ ⟨by decide, by decide⟩ ?_
  refine S_X9_copyRow.mono hy (fun h21 hy => ?_)
  refine ww_aload_n C 0 2 rfl rfl dX9_shortest_127 ?_
  obtain ⟨p22, hy⟩ := hy
  obtain ⟨p23, hy⟩ := hy
  refine gf_X9_125 C dX9_shortest_128 p22 p23 ?_
  refine ww_aload_n C 0 2 rfl rfl dX9_shortest_131 ?_
  obtain ⟨p24, hy⟩ := hy
  obtain ⟨p25, hy⟩ := hy
  refine gf_X9_275 C dX9_shortest_132 p24 p25 ?_
  refine ww_iconst C (z := 1) dX9_shortest_135 rfl ?_
  refine cl_X9_61 C dX9_shortest_136 (Nat.le_of_ble_eq_true rfl) ⟨by decide, by decide⟩ ⟨by decide, by decide⟩ ?_
  refine S_X9_copyRow.mono hy (fun h26 hy => ?_)
  refine ww_iload C 7 1 rfl dX9_shortest_139 ?_
  obtain ⟨p27, hy⟩ := hy
  refine ww_if_eq C (tg := 151) dX9_shortest_141 (by decide) p27 (fun c28 => ?_) (fun c28 => ?_)
  · have hy := hy.1 c28
    exact ww_sub [2, 4, 5, 1, 0] rfl (by decide) (by decide) hy
  · have hy := hy.2 c28
    refine ww_aload_n C 0 2 rfl rfl dX9_shortest_144 ?_
    obtain ⟨p29, hy⟩ := hy
    obtain ⟨p30, hy⟩ := hy
    refine gf_X9_275 C dX9_shortest_145 p29 p30 ?_
    refine ww_iconst C (z := 0) dX9_shortest_148 rfl ?_
    refine ww_iconst C (z := 2) dX9_shortest_149 rfl ?_
    obtain ⟨p31, hy⟩ := hy
    have hy := hy _ rfl
    refine ww_iast C dX9_shortest_150 p31 ?_
    exact ww_sub [2, 4, 5, 1, 0] rfl (by decide) (by decide) hy
set_option maxRecDepth 100000 in
set_option maxHeartbeats 4000000 in
theorem X9_shortest_b151 {G : xG} {k : xK} {n0 : Nat} {Po : Nat → xH → Prop} (C : CC G k cX9_shortest RX9 23 rm_X9_shortest) (E : CQ G k none rm_X9_shortest (fun r n1 h1 => r = none ∧ Po n1 h1)) (x0 : Nat) (x5 : Int) (x6 : Int) (x7 : Int) (x8 : Nat) (n : Nat) (h : xH) (hy : okO n h x0 8 ∧ 0 ≤ hG h x0 13 ∧ okO n h x8 7 ∧ 0 ≤ hG h x8 1 ∧ (((hG h x8 1).toNat) < n ∧ ((h ((hG h x8 1).toNat)).1 = 100 ∨ (h ((hG h x8 1).toNat)).1 = 101)) ∧ rg x5 ∧ ((x5 ≤ 0 → X9_shortest_w172 G k x0 x5 x6 x7 0 ((h ((hG h x8 1).toNat)).2.1 : Int) ((hG h x0 13).toNat) n h) ∧ (¬ x5 ≤ 0 → X9_shortest_w172 G k x0 x5 x6 x7 x5 ((h ((hG h x8 1).toNat)).2.1 : Int) ((hG h x0 13).toNat) n h))) : X9_shortest_w151 G k x0 x5 x6 x7 x8 n h := by
  refine ww_aload_n C 0 0 rfl rfl dX9_shortest_151 ?_
  obtain ⟨p1, hy⟩ := hy
  obtain ⟨p2, hy⟩ := hy
  refine gf_X9_266 C dX9_shortest_152 p1 p2 ?_
  refine ww_aload C 8 4 rfl dX9_shortest_155 ?_
  obtain ⟨p3, hy⟩ := hy
  obtain ⟨p4, hy⟩ := hy
  refine gf_X9_104 C dX9_shortest_157 p3 p4 ?_
  obtain ⟨p5, hy⟩ := hy
  refine ww_alen C dX9_shortest_160 p5.1 p5.2 ?_
  refine ww_iload C 5 1 rfl dX9_shortest_161 ?_
  obtain ⟨p6, hy⟩ := hy
  refine ww_if_le C (tg := 171) dX9_shortest_163 (by decide) p6 (fun c7 => ?_) (fun c7 => ?_)
  · have hy := hy.1 c7
    refine ww_iconst C (z := 0) dX9_shortest_171 rfl ?_
    exact ww_sub [0, 1, 2, 3] rfl (by decide) (by decide) hy
  · have hy := hy.2 c7
    refine ww_iload C 5 1 rfl dX9_shortest_166 ?_
    refine ww_goto C (tg := 172) dX9_shortest_168 (by decide) ?_
    exact ww_sub [0, 1, 2, 3] rfl (by decide) (by decide) hy
set_option maxRecDepth 100000 in
set_option maxHeartbeats 4000000 in
theorem X9_shortest_b172 {G : xG} {k : xK} {n0 : Nat} {Po : Nat → xH → Prop} (C : CC G k cX9_shortest RX9 23 rm_X9_shortest) (E : CQ G k none rm_X9_shortest (fun r n1 h1 => r = none ∧ Po n1 h1)) (x0 : Nat) (x5 : Int) (x6 : Int) (x7 : Int) (s0 : Int) (s1 : Int) (s2 : Nat) (n : Nat) (h : xH) (hy : rg x7 ∧ ((x7 = 0 → X9_shortest_w182 G k x0 x5 x6 x7 1 s0 s1 s2 n h) ∧ (¬ x7 = 0 → X9_shortest_w182 G k x0 x5 x6 x7 2 s0 s1 s2 n h))) : X9_shortest_w172 G k x0 x5 x6 x7 s0 s1 s2 n h := by
  refine ww_iload C 7 3 rfl dX9_shortest_172 ?_
  obtain ⟨p1, hy⟩ := hy
  refine ww_if_eq C (tg := 181) dX9_shortest_174 (by decide) p1 (fun c2 => ?_) (fun c2 => ?_)
  · have hy := hy.1 c2
    refine ww_iconst C (z := 1) dX9_shortest_181 rfl ?_
    exact ww_sub [0, 1, 2, 3] rfl (by decide) (by decide) hy
  · have hy := hy.2 c2
    refine ww_iconst C (z := 2) dX9_shortest_177 rfl ?_
    refine ww_goto C (tg := 182) dX9_shortest_178 (by decide) ?_
    exact ww_sub [0, 1, 2, 3] rfl (by decide) (by decide) hy
set_option maxRecDepth 100000 in
set_option maxHeartbeats 4000000 in
theorem X9_shortest_b182 {G : xG} {k : xK} {n0 : Nat} {Po : Nat → xH → Prop} (C : CC G k cX9_shortest RX9 23 rm_X9_shortest) (E : CQ G k none rm_X9_shortest (fun r n1 h1 => r = none ∧ Po n1 h1)) (x0 : Nat) (x5 : Int) (x6 : Int) (x7 : Int) (s0 : Int) (s1 : Int) (s2 : Int) (s3 : Nat) (n : Nat) (h : xH) (hy : S_X9_doubled G (kl k) s3 s2 (s1 + s0) n h (fun z1 h2 => okO n h2 x0 8 ∧ 0 ≤ hG h2 x0 14 ∧ rg x5 ∧ ((0 ≤ x5 → X9_shortest_w205 G k x0 x5 x6 x7 z1 0 1 ((hG h2 x0 14).toNat) n h2) ∧ (¬ 0 ≤ x5 → X9_shortest_w205 G k x0 x5 x6 x7 z1 (-x5) 1 ((hG h2 x0 14).toNat) n h2)))) : X9_shortest_w182 G k x0 x5 x6 x7 s0 s1 s2 s3 n h := by
  refine ww_iadd C dX9_shortest_182 ?_
  refine cl_X9_131 C dX9_shortest_183 (Nat.le_of_ble_eq_true rfl) ⟨by decide, by decide⟩ ⟨by decide, by decide⟩ ?_
  refine S_X9_doubled.mono hy (fun z1 h2 hy => ?_)
  refine ww_istore C 9 (by decide) rfl dX9_shortest_186 ?_
  refine ww_aload_n C 0 1 rfl rfl dX9_shortest_188 ?_
  obtain ⟨p3, hy⟩ := hy
  obtain ⟨p4, hy⟩ := hy
  refine gf_X9_269 C dX9_shortest_189 p3 p4 ?_
  refine ww_iconst C (z := 1) dX9_shortest_192 rfl ?_
  refine ww_iload C 5 2 rfl dX9_shortest_193 ?_
  obtain ⟨p5, hy⟩ := hy
  refine ww_if_ge C (tg := 204) dX9_shortest_195 (by decide) p5 (fun c6 => ?_) (fun c6 => ?_)
  · have hy := hy.1 c6
    refine ww_iconst C (z := 0) dX9_shortest_204 rfl ?_
    exact ww_sub [1, 2, 3, 4, 0] rfl (by decide) (by decide) hy
  · have hy := hy.2 c6
    refine ww_iload C 5 2 rfl dX9_shortest_198 ?_
    refine ww_ineg C dX9_shortest_200 ?_
    refine ww_goto C (tg := 205) dX9_shortest_201 (by decide) ?_
    exact ww_sub [1, 2, 3, 4, 0] rfl (by decide) (by decide) hy
set_option maxRecDepth 100000 in
set_option maxHeartbeats 4000000 in
theorem X9_shortest_b205 {G : xG} {k : xK} {n0 : Nat} {Po : Nat → xH → Prop} (C : CC G k cX9_shortest RX9 23 rm_X9_shortest) (E : CQ G k none rm_X9_shortest (fun r n1 h1 => r = none ∧ Po n1 h1)) (x0 : Nat) (x5 : Int) (x6 : Int) (x7 : Int) (x9 : Int) (s0 : Int) (s1 : Int) (s2 : Nat) (n : Nat) (h : xH) (hy : rg x7 ∧ ((x7 = 0 → X9_shortest_w215 G k x0 x5 x6 x9 1 s0 s1 s2 n h) ∧ (¬ x7 = 0 → X9_shortest_w215 G k x0 x5 x6 x9 2 s0 s1 s2 n h))) : X9_shortest_w205 G k x0 x5 x6 x7 x9 s0 s1 s2 n h := by
  refine ww_iload C 7 3 rfl dX9_shortest_205 ?_
  obtain ⟨p1, hy⟩ := hy
  refine ww_if_eq C (tg := 214) dX9_shortest_207 (by decide) p1 (fun c2 => ?_) (fun c2 => ?_)
  · have hy := hy.1 c2
    refine ww_iconst C (z := 1) dX9_shortest_214 rfl ?_
    exact ww_sub [0, 1, 2, 4] rfl (by decide) (by decide) hy
  · have hy := hy.2 c2
    refine ww_iconst C (z := 2) dX9_shortest_210 rfl ?_
    refine ww_goto C (tg := 215) dX9_shortest_211 (by decide) ?_
    exact ww_sub [0, 1, 2, 4] rfl (by decide) (by decide) hy
set_option maxRecDepth 100000 in
set_option maxHeartbeats 4000000 in
theorem X9_shortest_b215 {G : xG} {k : xK} {n0 : Nat} {Po : Nat → xH → Prop} (C : CC G k cX9_shortest RX9 23 rm_X9_shortest) (E : CQ G k none rm_X9_shortest (fun r n1 h1 => r = none ∧ Po n1 h1)) (x0 : Nat) (x5 : Int) (x6 : Int) (x9 : Int) (s0 : Int) (s1 : Int) (s2 : Int) (s3 : Nat) (n : Nat) (h : xH) (hy : S_X9_doubled G (kl k) s3 s2 (s1 + s0) n h (fun z1 h2 => okO n h2 x0 8 ∧ 0 ≤ hG h2 x0 15 ∧ rg x5 ∧ ((x5 ≤ 0 → X9_shortest_w237 G k x0 x5 x6 x9 z1 0 1 ((hG h2 x0 15).toNat) n h2) ∧ (¬ x5 ≤ 0 → X9_shortest_w237 G k x0 x5 x6 x9 z1 x5 1 ((hG h2 x0 15).toNat) n h2)))) : X9_shortest_w215 G k x0 x5 x6 x9 s0 s1 s2 s3 n h := by
  refine ww_iadd C dX9_shortest_215 ?_
  refine cl_X9_131 C dX9_shortest_216 (Nat.le_of_ble_eq_true rfl) ⟨by decide, by decide⟩ ⟨by decide, by decide⟩ ?_
  refine S_X9_doubled.mono hy (fun z1 h2 hy => ?_)
  refine ww_istore C 10 (by decide) rfl dX9_shortest_219 ?_
  refine ww_aload_n C 0 1 rfl rfl dX9_shortest_221 ?_
  obtain ⟨p3, hy⟩ := hy
  obtain ⟨p4, hy⟩ := hy
  refine gf_X9_272 C dX9_shortest_222 p3 p4 ?_
  refine ww_iconst C (z := 1) dX9_shortest_225 rfl ?_
  refine ww_iload C 5 2 rfl dX9_shortest_226 ?_
  obtain ⟨p5, hy⟩ := hy
  refine ww_if_le C (tg := 236) dX9_shortest_228 (by decide) p5 (fun c6 => ?_) (fun c6 => ?_)
  · have hy := hy.1 c6
    refine ww_iconst C (z := 0) dX9_shortest_236 rfl ?_
    exact ww_sub [1, 2, 3, 4, 0] rfl (by decide) (by decide) hy
  · have hy := hy.2 c6
    refine ww_iload C 5 2 rfl dX9_shortest_231 ?_
    refine ww_goto C (tg := 237) dX9_shortest_233 (by decide) ?_
    exact ww_sub [1, 2, 3, 4, 0] rfl (by decide) (by decide) hy
set_option maxRecDepth 100000 in
set_option maxHeartbeats 4000000 in
theorem X9_shortest_b237 {G : xG} {k : xK} {n0 : Nat} {Po : Nat → xH → Prop} (C : CC G k cX9_shortest RX9 23 rm_X9_shortest) (E : CQ G k none rm_X9_shortest (fun r n1 h1 => r = none ∧ Po n1 h1)) (x0 : Nat) (x5 : Int) (x6 : Int) (x9 : Int) (x10 : Int) (s0 : Int) (s1 : Int) (s2 : Nat) (n : Nat) (h : xH) (hy : S_X9_doubled G (kl k) s2 s1 s0 n h (fun z1 h2 => okO n h2 x0 8 ∧ 0 ≤ hG h2 x0 16 ∧ rg x5 ∧ ((x5 ≤ 0 → X9_shortest_w258 G k x0 x6 x9 x10 z1 0 1 ((hG h2 x0 16).toNat) n h2) ∧ (¬ x5 ≤ 0 → X9_shortest_w258 G k x0 x6 x9 x10 z1 x5 1 ((hG h2 x0 16).toNat) n h2)))) : X9_shortest_w237 G k x0 x5 x6 x9 x10 s0 s1 s2 n h := by
  refine cl_X9_131 C dX9_shortest_237 (Nat.le_of_ble_eq_true rfl) ⟨by decide, by decide⟩ ⟨by decide, by decide⟩ ?_
  refine S_X9_doubled.mono hy (fun z1 h2 hy => ?_)
  refine ww_istore C 11 (by decide) rfl dX9_shortest_240 ?_
  refine ww_aload_n C 0 1 rfl rfl dX9_shortest_242 ?_
  obtain ⟨p3, hy⟩ := hy
  obtain ⟨p4, hy⟩ := hy
  refine gf_X9_275 C dX9_shortest_243 p3 p4 ?_
  refine ww_iconst C (z := 1) dX9_shortest_246 rfl ?_
  refine ww_iload C 5 2 rfl dX9_shortest_247 ?_
  obtain ⟨p5, hy⟩ := hy
  refine ww_if_le C (tg := 257) dX9_shortest_249 (by decide) p5 (fun c6 => ?_) (fun c6 => ?_)
  · have hy := hy.1 c6
    refine ww_iconst C (z := 0) dX9_shortest_257 rfl ?_
    exact ww_sub [1, 3, 4, 5, 0] rfl (by decide) (by decide) hy
  · have hy := hy.2 c6
    refine ww_iload C 5 2 rfl dX9_shortest_252 ?_
    refine ww_goto C (tg := 258) dX9_shortest_254 (by decide) ?_
    exact ww_sub [1, 3, 4, 5, 0] rfl (by decide) (by decide) hy
set_option maxRecDepth 100000 in
set_option maxHeartbeats 4000000 in
theorem X9_shortest_b258 {G : xG} {k : xK} {n0 : Nat} {Po : Nat → xH → Prop} (C : CC G k cX9_shortest RX9 23 rm_X9_shortest) (E : CQ G k none rm_X9_shortest (fun r n1 h1 => r = none ∧ Po n1 h1)) (x0 : Nat) (x6 : Int) (x9 : Int) (x10 : Int) (x11 : Int) (s0 : Int) (s1 : Int) (s2 : Nat) (n : Nat) (h : xH) (hy : S_X9_doubled G (kl k) s2 s1 s0 n h (fun z1 h2 => X9_shortest_w266 G k x0 x6 x9 x10 x11 z1 0 n h2)) : X9_shortest_w258 G k x0 x6 x9 x10 x11 s0 s1 s2 n h := by
  refine cl_X9_131 C dX9_shortest_258 (Nat.le_of_ble_eq_true rfl) ⟨by decide, by decide⟩ ⟨by decide, by decide⟩ ?_
  refine S_X9_doubled.mono hy (fun z1 h2 hy => ?_)
  refine ww_istore C 12 (by decide) rfl dX9_shortest_261 ?_
  refine ww_iconst C (z := 0) dX9_shortest_263 rfl ?_
  refine ww_istore C 13 (by decide) rfl dX9_shortest_264 ?_
  exact ww_sub [2, 3, 4, 5, 6, 1, 0] rfl (by decide) (by decide) hy
set_option maxRecDepth 100000 in
set_option maxHeartbeats 4000000 in
theorem X9_shortest_b266 {G : xG} {k : xK} {n0 : Nat} {Po : Nat → xH → Prop} (C : CC G k cX9_shortest RX9 23 rm_X9_shortest) (E : CQ G k none rm_X9_shortest (fun r n1 h1 => r = none ∧ Po n1 h1)) (x0 : Nat) (x6 : Int) (x9 : Int) (x10 : Int) (x11 : Int) (x12 : Int) (x13 : Int) (n : Nat) (h : xH) (hy : okO n h x0 8 ∧ 0 ≤ hG h x0 13 ∧ okO n h x0 8 ∧ 0 ≤ hG h x0 14 ∧ S_X9_compareRows G (kl k) ((hG h x0 13).toNat) x9 ((hG h x0 14).toNat) x10 n h (fun z5 h6 => rg z5 ∧ ((z5 < 0 → X9_shortest_w305 G k x0 x6 x9 x10 x11 x12 x13 1 n h6) ∧ (¬ z5 < 0 → okO n h6 x0 8 ∧ 0 ≤ hG h6 x0 14 ∧ S_X9_tenfold G (kl k) ((hG h6 x0 14).toNat) x10 1 n h6 (fun z11 h12 => X9_shortest_w266 G k x0 x6 x9 z11 x11 x12 (x13 + 1) n h12))))) : X9_shortest_w266 G k x0 x6 x9 x10 x11 x12 x13 n h := by
  refine ww_aload_n C 0 0 rfl rfl dX9_shortest_266 ?_
  obtain ⟨p1, hy⟩ := hy
  obtain ⟨p2, hy⟩ := hy
  refine gf_X9_266 C dX9_shortest_267 p1 p2 ?_
  refine ww_iload C 9 2 rfl dX9_shortest_270 ?_
  refine ww_aload_n C 0 0 rfl rfl dX9_shortest_272 ?_
  obtain ⟨p3, hy⟩ := hy
  obtain ⟨p4, hy⟩ := hy
  refine gf_X9_269 C dX9_shortest_273 p3 p4 ?_
  refine ww_iload C 10 3 rfl dX9_shortest_276 ?_
  refine cl_X9_141 C dX9_shortest_278 (Nat.le_of_ble_eq_true rfl) ⟨by decide, by decide⟩ ⟨by decide, by decide⟩ ?_
  refine S_X9_compareRows.mono hy (fun z5 h6 hy => ?_)
  obtain ⟨p7, hy⟩ := hy
  refine ww_if_lt C (tg := 302) dX9_shortest_281 (by decide) p7 (fun c8 => ?_) (fun c8 => ?_)
  · have hy := hy.1 c8
    refine ww_iconst C (z := 1) dX9_shortest_302 rfl ?_
    refine ww_istore C 14 (by decide) rfl dX9_shortest_303 ?_
    exact ww_sub [1, 2, 3, 4, 5, 6, 7, 0] rfl (by decide) (by decide) hy
  · have hy := hy.2 c8
    refine ww_aload_n C 0 0 rfl rfl dX9_shortest_284 ?_
    obtain ⟨p9, hy⟩ := hy
    obtain ⟨p10, hy⟩ := hy
    refine gf_X9_269 C dX9_shortest_285 p9 p10 ?_
    refine ww_iload C 10 3 rfl dX9_shortest_288 ?_
    refine ww_iconst C (z := 1) dX9_shortest_290 rfl ?_
    refine cl_X9_278 C dX9_shortest_291 (Nat.le_of_ble_eq_true rfl) ⟨by decide, by decide⟩ ⟨by decide, by decide⟩ ?_
    refine S_X9_tenfold.mono hy (fun z11 h12 hy => ?_)
    refine ww_istore C 10 (by decide) rfl dX9_shortest_294 ?_
    refine ww_iinc C 13 6 rfl (by decide) rfl dX9_shortest_296 ?_
    refine ww_goto C (tg := 266) dX9_shortest_299 (by decide) ?_
    exact ww_sub [2, 3, 4, 1, 5, 6, 0] rfl (by decide) (by decide) hy
set_option maxRecDepth 100000 in
set_option maxHeartbeats 4000000 in
theorem X9_shortest_b305 {G : xG} {k : xK} {n0 : Nat} {Po : Nat → xH → Prop} (C : CC G k cX9_shortest RX9 23 rm_X9_shortest) (E : CQ G k none rm_X9_shortest (fun r n1 h1 => r = none ∧ Po n1 h1)) (x0 : Nat) (x6 : Int) (x9 : Int) (x10 : Int) (x11 : Int) (x12 : Int) (x13 : Int) (x14 : Int) (n : Nat) (h : xH) (hy : rg x14 ∧ ((x14 = 0 → okO n h x0 8 ∧ (∀ h4 : xH, h4 = hS h x0 19 0 → X9_shortest_w412 G k x0 x6 x9 x10 x11 x12 x13 n h4)) ∧ (¬ x14 = 0 → okO n h x0 8 ∧ 0 ≤ hG h x0 13 ∧ okO n h x0 8 ∧ 0 ≤ hG h x0 17 ∧ S_X9_copyRow G (kl k) ((hG h x0 13).toNat) ((hG h x0 17).toNat) x9 n h (fun h9 => okO n h9 x0 8 ∧ 0 ≤ hG h9 x0 17 ∧ S_X9_tenfold G (kl k) ((hG h9 x0 17).toNat) x9 1 n h9 (fun z12 h13 => okO n h13 x0 8 ∧ 0 ≤ hG h13 x0 17 ∧ okO n h13 x0 8 ∧ 0 ≤ hG h13 x0 14 ∧ S_X9_compareRows G (kl k) ((hG h13 x0 17).toNat) z12 ((hG h13 x0 14).toNat) x10 n h13 (fun z18 h19 => rg z18 ∧ ((0 ≤ z18 → X9_shortest_w358 G k x0 x6 x9 x10 x11 x12 x13 0 n h19) ∧ (¬ 0 ≤ z18 → X9_shortest_w358 G k x0 x6 x9 x10 x11 x12 x13 1 n h19)))))))) : X9_shortest_w305 G k x0 x6 x9 x10 x11 x12 x13 x14 n h := by
  refine ww_iload C 14 7 rfl dX9_shortest_305 ?_
  obtain ⟨p1, hy⟩ := hy
  refine ww_if_eq C (tg := 407) dX9_shortest_307 (by decide) p1 (fun c2 => ?_) (fun c2 => ?_)
  · have hy := hy.1 c2
    refine ww_aload_n C 0 0 rfl rfl dX9_shortest_407 ?_
    refine ww_iconst C (z := 0) dX9_shortest_408 rfl ?_
    obtain ⟨p3, hy⟩ := hy
    have hy := hy _ rfl
    refine pf_X9_284I C dX9_shortest_409 p3 ?_
    exact ww_sub [0, 1, 2, 3, 4, 5, 6] rfl (by decide) (by decide) hy
  · have hy := hy.2 c2
    refine ww_aload_n C 0 0 rfl rfl dX9_shortest_310 ?_
    obtain ⟨p5, hy⟩ := hy
    obtain ⟨p6, hy⟩ := hy
    refine gf_X9_266 C dX9_shortest_311 p5 p6 ?_
    refine ww_aload_n C 0 0 rfl rfl dX9_shortest_314 ?_
    obtain ⟨p7, hy⟩ := hy
    obtain ⟨p8, hy⟩ := hy
    refine gf_X9_281 C dX9_shortest_315 p7 p8 ?_
    refine ww_iload C 9 2 rfl dX9_shortest_318 ?_
    refine cl_X9_61 C dX9_shortest_320 (Nat.le_of_ble_eq_true rfl) ⟨by decide, by decide⟩ ⟨by decide, by decide⟩ ?_
    refine S_X9_copyRow.mono hy (fun h9 hy => ?_)
    refine ww_aload_n C 0 0 rfl rfl dX9_shortest_323 ?_
    obtain ⟨p10, hy⟩ := hy
    obtain ⟨p11, hy⟩ := hy
    refine gf_X9_281 C dX9_shortest_324 p10 p11 ?_
    refine ww_iload C 9 2 rfl dX9_shortest_327 ?_
    refine ww_iconst C (z := 1) dX9_shortest_329 rfl ?_
    refine cl_X9_278 C dX9_shortest_330 (Nat.le_of_ble_eq_true rfl) ⟨by decide, by decide⟩ ⟨by decide, by decide⟩ ?_
    refine S_X9_tenfold.mono hy (fun z12 h13 hy => ?_)
    refine ww_istore C 15 (by decide) rfl dX9_shortest_333 ?_
    refine ww_aload_n C 0 1 rfl rfl dX9_shortest_335 ?_
    obtain ⟨p14, hy⟩ := hy
    obtain ⟨p15, hy⟩ := hy
    refine gf_X9_281 C dX9_shortest_336 p14 p15 ?_
    refine ww_iload C 15 0 rfl dX9_shortest_339 ?_
    refine ww_aload_n C 0 1 rfl rfl dX9_shortest_341 ?_
    obtain ⟨p16, hy⟩ := hy
    obtain ⟨p17, hy⟩ := hy
    refine gf_X9_269 C dX9_shortest_342 p16 p17 ?_
    refine ww_iload C 10 4 rfl dX9_shortest_345 ?_
    refine cl_X9_141 C dX9_shortest_347 (Nat.le_of_ble_eq_true rfl) ⟨by decide, by decide⟩ ⟨by decide, by decide⟩ ?_
    refine S_X9_compareRows.mono hy (fun z18 h19 hy => ?_)
    obtain ⟨p20, hy⟩ := hy
    refine ww_if_ge C (tg := 357) dX9_shortest_350 (by decide) p20 (fun c21 => ?_) (fun c21 => ?_)
    · have hy := hy.1 c21
      refine ww_iconst C (z := 0) dX9_shortest_357 rfl ?_
      exact ww_sub [1, 2, 3, 4, 5, 6, 7] rfl (by decide) (by decide) hy
    · have hy := hy.2 c21
      refine ww_iconst C (z := 1) dX9_shortest_353 rfl ?_
      refine ww_goto C (tg := 358) dX9_shortest_354 (by decide) ?_
      exact ww_sub [1, 2, 3, 4, 5, 6, 7] rfl (by decide) (by decide) hy
set_option maxRecDepth 100000 in
set_option maxHeartbeats 4000000 in
theorem X9_shortest_b412 {G : xG} {k : xK} {n0 : Nat} {Po : Nat → xH → Prop} (C : CC G k cX9_shortest RX9 23 rm_X9_shortest) (E : CQ G k none rm_X9_shortest (fun r n1 h1 => r = none ∧ Po n1 h1)) (x0 : Nat) (x6 : Int) (x9 : Int) (x10 : Int) (x11 : Int) (x12 : Int) (x13 : Int) (n : Nat) (h : xH) (hy : okO n h x0 8 ∧ 0 ≤ hG h x0 13 ∧ S_X9_tenfold G (kl k) ((hG h x0 13).toNat) x9 1 n h (fun z3 h4 => okO n h4 x0 8 ∧ 0 ≤ hG h4 x0 15 ∧ S_X9_tenfold G (kl k) ((hG h4 x0 15).toNat) x11 1 n h4 (fun z7 h8 => okO n h8 x0 8 ∧ 0 ≤ hG h8 x0 16 ∧ S_X9_tenfold G (kl k) ((hG h8 x0 16).toNat) x12 1 n h8 (fun z11 h12 => X9_shortest_w451 G k x0 x6 z3 x10 z7 z11 x13 0 n h12)))) : X9_shortest_w412 G k x0 x6 x9 x10 x11 x12 x13 n h := by
  refine ww_aload_n C 0 0 rfl rfl dX9_shortest_412 ?_
  obtain ⟨p1, hy⟩ := hy
  obtain ⟨p2, hy⟩ := hy
  refine gf_X9_266 C dX9_shortest_413 p1 p2 ?_
  refine ww_iload C 9 2 rfl dX9_shortest_416 ?_
  refine ww_iconst C (z := 1) dX9_shortest_418 rfl ?_
  refine cl_X9_278 C dX9_shortest_419 (Nat.le_of_ble_eq_true rfl) ⟨by decide, by decide⟩ ⟨by decide, by decide⟩ ?_
  refine S_X9_tenfold.mono hy (fun z3 h4 hy => ?_)
  refine ww_istore C 9 (by decide) rfl dX9_shortest_422 ?_
  refine ww_aload_n C 0 1 rfl rfl dX9_shortest_424 ?_
  obtain ⟨p5, hy⟩ := hy
  obtain ⟨p6, hy⟩ := hy
  refine gf_X9_272 C dX9_shortest_425 p5 p6 ?_
  refine ww_iload C 11 4 rfl dX9_shortest_428 ?_
  refine ww_iconst C (z := 1) dX9_shortest_430 rfl ?_
  refine cl_X9_278 C dX9_shortest_431 (Nat.le_of_ble_eq_true rfl) ⟨by decide, by decide⟩ ⟨by decide, by decide⟩ ?_
  refine S_X9_tenfold.mono hy (fun z7 h8 hy => ?_)
  refine ww_istore C 11 (by decide) rfl dX9_shortest_434 ?_
  refine ww_aload_n C 0 2 rfl rfl dX9_shortest_436 ?_
  obtain ⟨p9, hy⟩ := hy
  obtain ⟨p10, hy⟩ := hy
  refine gf_X9_275 C dX9_shortest_437 p9 p10 ?_
  refine ww_iload C 12 5 rfl dX9_shortest_440 ?_
  refine ww_iconst C (z := 1) dX9_shortest_442 rfl ?_
  refine cl_X9_278 C dX9_shortest_443 (Nat.le_of_ble_eq_true rfl) ⟨by decide, by decide⟩ ⟨by decide, by decide⟩ ?_
  refine S_X9_tenfold.mono hy (fun z11 h12 hy => ?_)
  refine ww_istore C 12 (by decide) rfl dX9_shortest_446 ?_
  refine ww_iconst C (z := 0) dX9_shortest_448 rfl ?_
  refine ww_istore C 15 (by decide) rfl dX9_shortest_449 ?_
  exact ww_sub [4, 5, 3, 6, 2, 1, 7, 0] rfl (by decide) (by decide) hy
set_option maxRecDepth 100000 in
set_option maxHeartbeats 4000000 in
theorem X9_shortest_b358 {G : xG} {k : xK} {n0 : Nat} {Po : Nat → xH → Prop} (C : CC G k cX9_shortest RX9 23 rm_X9_shortest) (E : CQ G k none rm_X9_shortest (fun r n1 h1 => r = none ∧ Po n1 h1)) (x0 : Nat) (x6 : Int) (x9 : Int) (x10 : Int) (x11 : Int) (x12 : Int) (x13 : Int) (s0 : Int) (n : Nat) (h : xH) (hy : rg s0 ∧ ((s0 = 0 → X9_shortest_w404 G k x0 x6 x9 x10 x11 x12 x13 s0 n h) ∧ (¬ s0 = 0 → okO n h x0 8 ∧ 0 ≤ hG h x0 13 ∧ S_X9_tenfold G (kl k) ((hG h x0 13).toNat) x9 1 n h (fun z5 h6 => okO n h6 x0 8 ∧ 0 ≤ hG h6 x0 15 ∧ S_X9_tenfold G (kl k) ((hG h6 x0 15).toNat) x11 1 n h6 (fun z9 h10 => okO n h10 x0 8 ∧ 0 ≤ hG h10 x0 16 ∧ S_X9_tenfold G (kl k) ((hG h10 x0 16).toNat) x12 1 n h10 (fun z13 h14 => X9_shortest_w404 G k x0 x6 z5 x10 z9 z13 (x13 + (-1)) s0 n h14)))))) : X9_shortest_w358 G k x0 x6 x9 x10 x11 x12 x13 s0 n h := by
  refine ww_istore C 14 (by decide) rfl dX9_shortest_358 ?_
  refine ww_iload C 14 0 rfl dX9_shortest_360 ?_
  obtain ⟨p1, hy⟩ := hy
  refine ww_if_eq C (tg := 404) dX9_shortest_362 (by decide) p1 (fun c2 => ?_) (fun c2 => ?_)
  · have hy := hy.1 c2
    exact ww_sub [1, 2, 3, 4, 5, 6, 7, 0] rfl (by decide) (by decide) hy
  · have hy := hy.2 c2
    refine ww_aload_n C 0 1 rfl rfl dX9_shortest_365 ?_
    obtain ⟨p3, hy⟩ := hy
    obtain ⟨p4, hy⟩ := hy
    refine gf_X9_266 C dX9_shortest_366 p3 p4 ?_
    refine ww_iload C 9 3 rfl dX9_shortest_369 ?_
    refine ww_iconst C (z := 1) dX9_shortest_371 rfl ?_
    refine cl_X9_278 C dX9_shortest_372 (Nat.le_of_ble_eq_true rfl) ⟨by decide, by decide⟩ ⟨by decide, by decide⟩ ?_
    refine S_X9_tenfold.mono hy (fun z5 h6 hy => ?_)
    refine ww_istore C 9 (by decide) rfl dX9_shortest_375 ?_
    refine ww_aload_n C 0 2 rfl rfl dX9_shortest_377 ?_
    obtain ⟨p7, hy⟩ := hy
    obtain ⟨p8, hy⟩ := hy
    refine gf_X9_272 C dX9_shortest_378 p7 p8 ?_
    refine ww_iload C 11 5 rfl dX9_shortest_381 ?_
    refine ww_iconst C (z := 1) dX9_shortest_383 rfl ?_
    refine cl_X9_278 C dX9_shortest_384 (Nat.le_of_ble_eq_true rfl) ⟨by decide, by decide⟩ ⟨by decide, by decide⟩ ?_
    refine S_X9_tenfold.mono hy (fun z9 h10 hy => ?_)
    refine ww_istore C 11 (by decide) rfl dX9_shortest_387 ?_
    refine ww_aload_n C 0 3 rfl rfl dX9_shortest_389 ?_
    obtain ⟨p11, hy⟩ := hy
    obtain ⟨p12, hy⟩ := hy
    refine gf_X9_275 C dX9_shortest_390 p11 p12 ?_
    refine ww_iload C 12 6 rfl dX9_shortest_393 ?_
    refine ww_iconst C (z := 1) dX9_shortest_395 rfl ?_
    refine cl_X9_278 C dX9_shortest_396 (Nat.le_of_ble_eq_true rfl) ⟨by decide, by decide⟩ ⟨by decide, by decide⟩ ?_
    refine S_X9_tenfold.mono hy (fun z13 h14 hy => ?_)
    refine ww_istore C 12 (by decide) rfl dX9_shortest_399 ?_
    refine ww_iinc C 13 7 rfl (by decide) rfl dX9_shortest_401 ?_
    exact ww_sub [5, 6, 3, 7, 2, 1, 0, 4] rfl (by decide) (by decide) hy
set_option maxRecDepth 100000 in
set_option maxHeartbeats 4000000 in
theorem X9_shortest_b451 {G : xG} {k : xK} {n0 : Nat} {Po : Nat → xH → Prop} (C : CC G k cX9_shortest RX9 23 rm_X9_shortest) (E : CQ G k none rm_X9_shortest (fun r n1 h1 => r = none ∧ Po n1 h1)) (x0 : Nat) (x6 : Int) (x9 : Int) (x10 : Int) (x11 : Int) (x12 : Int) (x13 : Int) (x15 : Int) (n : Nat) (h : xH) (hy : okO n h x0 8 ∧ 0 ≤ hG h x0 13 ∧ okO n h x0 8 ∧ 0 ≤ hG h x0 14 ∧ S_X9_compareRows G (kl k) ((hG h x0 13).toNat) x9 ((hG h x0 14).toNat) x10 n h (fun z5 h6 => rg z5 ∧ ((z5 < 0 → okO n h6 x0 8 ∧ 0 ≤ hG h6 x0 13 ∧ okO n h6 x0 8 ∧ 0 ≤ hG h6 x0 15 ∧ S_X9_compareRows G (kl k) ((hG h6 x0 13).toNat) x9 ((hG h6 x0 15).toNat) x11 n h6 (fun z13 h14 => okO n h14 x0 8 ∧ 0 ≤ hG h14 x0 14 ∧ okO n h14 x0 8 ∧ 0 ≤ hG h14 x0 17 ∧ S_X9_copyRow G (kl k) ((hG h14 x0 14).toNat) ((hG h14 x0 17).toNat) x10 n h14 (fun h19 => okO n h19 x0 8 ∧ 0 ≤ hG h19 x0 17 ∧ okO n h19 x0 8 ∧ 0 ≤ hG h19 x0 13 ∧ S_X9_lessen G (kl k) ((hG h19 x0 17).toNat) x10 ((hG h19 x0 13).toNat) x9 n h19 (fun h24 => okO n h24 x0 8 ∧ 0 ≤ hG h24 x0 17 ∧ S_X9_used G (kl k) ((hG h24 x0 17).toNat) x10 n h24 (fun z27 h28 => okO n h28 x0 8 ∧ 0 ≤ hG h28 x0 17 ∧ okO n h28 x0 8 ∧ 0 ≤ hG h28 x0 16 ∧ S_X9_compareRows G (kl k) ((hG h28 x0 17).toNat) z27 ((hG h28 x0 16).toNat) x12 n h28 (fun z33 h34 => rg z13 ∧ ((z13 < 0 → X9_shortest_w598 G k x0 x6 x9 x10 x11 x12 x13 x15 z27 z33 n h34) ∧ (¬ z13 < 0 → rg z13 ∧ ((¬ z13 = 0 → X9_shortest_w602 G k x0 x6 x9 x10 x11 x12 x13 x15 z27 z33 n h34) ∧ (z13 = 0 → rg x6 ∧ ((x6 = 0 → X9_shortest_w602 G k x0 x6 x9 x10 x11 x12 x13 x15 z27 z33 n h34) ∧ (¬ x6 = 0 → X9_shortest_w598 G k x0 x6 x9 x10 x11 x12 x13 x15 z27 z33 n h34)))))))))))) ∧ (¬ z5 < 0 → okO n h6 x0 8 ∧ 0 ≤ hG h6 x0 13 ∧ okA n h6 ((hG h6 x0 13).toNat) 100 x9 ∧ (∀ h44 : xH, h44 = hS h6 ((hG h6 x0 13).toNat) (x9.toNat) 0 → okO n h44 x0 8 ∧ 0 ≤ hG h44 x0 13 ∧ okO n h44 x0 8 ∧ 0 ≤ hG h44 x0 14 ∧ S_X9_takeAway G (kl k) ((hG h44 x0 13).toNat) 0 ((hG h44 x0 14).toNat) x10 1 n h44 (fun z49 h50 => okO n h50 x0 8 ∧ 0 ≤ hG h50 x0 13 ∧ S_X9_used G (kl k) ((hG h50 x0 13).toNat) x9 n h50 (fun z53 h54 => X9_shortest_w451 G k x0 x6 z53 x10 x11 x12 x13 (x15 + 1) n h54))))))) : X9_shortest_w451 G k x0 x6 x9 x10 x11 x12 x13 x15 n h := by
  refine ww_aload_n C 0 0 rfl rfl dX9_shortest_451 ?_
  obtain ⟨p1, hy⟩ := hy
  obtain ⟨p2, hy⟩ := hy
  refine gf_X9_266 C dX9_shortest_452 p1 p2 ?_
  refine ww_iload C 9 2 rfl dX9_shortest_455 ?_
  refine ww_aload_n C 0 0 rfl rfl dX9_shortest_457 ?_
  obtain ⟨p3, hy⟩ := hy
  obtain ⟨p4, hy⟩ := hy
  refine gf_X9_269 C dX9_shortest_458 p3 p4 ?_
  refine ww_iload C 10 3 rfl dX9_shortest_461 ?_
  refine cl_X9_141 C dX9_shortest_463 (Nat.le_of_ble_eq_true rfl) ⟨by decide, by decide⟩ ⟨by decide, by decide⟩ ?_
  refine S_X9_compareRows.mono hy (fun z5 h6 hy => ?_)
  obtain ⟨p7, hy⟩ := hy
  refine ww_if_lt C (tg := 510) dX9_shortest_466 (by decide) p7 (fun c8 => ?_) (fun c8 => ?_)
  · have hy := hy.1 c8
    refine ww_aload_n C 0 0 rfl rfl dX9_shortest_510 ?_
    obtain ⟨p9, hy⟩ := hy
    obtain ⟨p10, hy⟩ := hy
    refine gf_X9_266 C dX9_shortest_511 p9 p10 ?_
    refine ww_iload C 9 2 rfl dX9_shortest_514 ?_
    refine ww_aload_n C 0 0 rfl rfl dX9_shortest_516 ?_
    obtain ⟨p11, hy⟩ := hy
    obtain ⟨p12, hy⟩ := hy
    refine gf_X9_272 C dX9_shortest_517 p11 p12 ?_
    refine ww_iload C 11 4 rfl dX9_shortest_520 ?_
    refine cl_X9_141 C dX9_shortest_522 (Nat.le_of_ble_eq_true rfl) ⟨by decide, by decide⟩ ⟨by decide, by decide⟩ ?_
    refine S_X9_compareRows.mono hy (fun z13 h14 hy => ?_)
    refine ww_istore C 16 (by decide) rfl dX9_shortest_525 ?_
    refine ww_aload_n C 0 1 rfl rfl dX9_shortest_527 ?_
    obtain ⟨p15, hy⟩ := hy
    obtain ⟨p16, hy⟩ := hy
    refine gf_X9_269 C dX9_shortest_528 p15 p16 ?_
    refine ww_aload_n C 0 1 rfl rfl dX9_shortest_531 ?_
    obtain ⟨p17, hy⟩ := hy
    obtain ⟨p18, hy⟩ := hy
    refine gf_X9_281 C dX9_shortest_532 p17 p18 ?_
    refine ww_iload C 10 4 rfl dX9_shortest_535 ?_
    refine cl_X9_61 C dX9_shortest_537 (Nat.le_of_ble_eq_true rfl) ⟨by decide, by decide⟩ ⟨by decide, by decide⟩ ?_
    refine S_X9_copyRow.mono hy (fun h19 hy => ?_)
    refine ww_aload_n C 0 1 rfl rfl dX9_shortest_540 ?_
    obtain ⟨p20, hy⟩ := hy
    obtain ⟨p21, hy⟩ := hy
    refine gf_X9_281 C dX9_shortest_541 p20 p21 ?_
    refine ww_iload C 10 4 rfl dX9_shortest_544 ?_
    refine ww_aload_n C 0 1 rfl rfl dX9_shortest_546 ?_
    obtain ⟨p22, hy⟩ := hy
    obtain ⟨p23, hy⟩ := hy
    refine gf_X9_266 C dX9_shortest_547 p22 p23 ?_
    refine ww_iload C 9 3 rfl dX9_shortest_550 ?_
    refine cl_X9_287 C dX9_shortest_552 (Nat.le_of_ble_eq_true rfl) ⟨by decide, by decide⟩ ⟨by decide, by decide⟩ ?_
    refine S_X9_lessen.mono hy (fun h24 hy => ?_)
    refine ww_aload_n C 0 1 rfl rfl dX9_shortest_555 ?_
    obtain ⟨p25, hy⟩ := hy
    obtain ⟨p26, hy⟩ := hy
    refine gf_X9_281 C dX9_shortest_556 p25 p26 ?_
    refine ww_iload C 10 4 rfl dX9_shortest_559 ?_
    refine cl_X9_15 C dX9_shortest_561 (Nat.le_of_ble_eq_true rfl) ⟨by decide, by decide⟩ ⟨by decide, by decide⟩ ?_
    refine S_X9_used.mono hy (fun z27 h28 hy => ?_)
    refine ww_istore C 17 (by decide) rfl dX9_shortest_564 ?_
    refine ww_aload_n C 0 2 rfl rfl dX9_shortest_566 ?_
    obtain ⟨p29, hy⟩ := hy
    obtain ⟨p30, hy⟩ := hy
    refine gf_X9_281 C dX9_shortest_567 p29 p30 ?_
    refine ww_iload C 17 0 rfl dX9_shortest_570 ?_
    refine ww_aload_n C 0 2 rfl rfl dX9_shortest_572 ?_
    obtain ⟨p31, hy⟩ := hy
    obtain ⟨p32, hy⟩ := hy
    refine gf_X9_275 C dX9_shortest_573 p31 p32 ?_
    refine ww_iload C 12 7 rfl dX9_shortest_576 ?_
    refine cl_X9_141 C dX9_shortest_578 (Nat.le_of_ble_eq_true rfl) ⟨by decide, by decide⟩ ⟨by decide, by decide⟩ ?_
    refine S_X9_compareRows.mono hy (fun z33 h34 hy => ?_)
    refine ww_istore C 18 (by decide) rfl dX9_shortest_581 ?_
    refine ww_iload C 16 2 rfl dX9_shortest_583 ?_
    obtain ⟨p35, hy⟩ := hy
    refine ww_if_lt C (tg := 598) dX9_shortest_585 (by decide) p35 (fun c36 => ?_) (fun c36 => ?_)
    · have hy := hy.1 c36
      exact ww_sub [3, 4, 5, 6, 7, 8, 9, 10, 1, 0] rfl (by decide) (by decide) hy
    · have hy := hy.2 c36
      refine ww_iload C 16 2 rfl dX9_shortest_588 ?_
      obtain ⟨p37, hy⟩ := hy
      refine ww_if_ne C (tg := 602) dX9_shortest_590 (by decide) p37 (fun c38 => ?_) (fun c38 => ?_)
      · have hy := hy.1 c38
        exact ww_sub [3, 4, 5, 6, 7, 8, 9, 10, 1, 0] rfl (by decide) (by decide) hy
      · have hy := hy.2 c38
        refine ww_iload C 6 4 rfl dX9_shortest_593 ?_
        obtain ⟨p39, hy⟩ := hy
        refine ww_if_eq C (tg := 602) dX9_shortest_595 (by decide) p39 (fun c40 => ?_) (fun c40 => ?_)
        · have hy := hy.1 c40
          exact ww_sub [3, 4, 5, 6, 7, 8, 9, 10, 1, 0] rfl (by decide) (by decide) hy
        · have hy := hy.2 c40
          exact ww_sub [3, 4, 5, 6, 7, 8, 9, 10, 1, 0] rfl (by decide) (by decide) hy
  · have hy := hy.2 c8
    refine ww_aload_n C 0 0 rfl rfl dX9_shortest_469 ?_
    obtain ⟨p41, hy⟩ := hy
    obtain ⟨p42, hy⟩ := hy
    refine gf_X9_266 C dX9_shortest_470 p41 p42 ?_
    refine ww_iload C 9 2 rfl dX9_shortest_473 ?_
    refine ww_iconst C (z := 0) dX9_shortest_475 rfl ?_
    obtain ⟨p43, hy⟩ := hy
    have hy := hy _ rfl
    refine ww_iast C dX9_shortest_476 p43 ?_
    refine ww_aload_n C 0 0 rfl rfl dX9_shortest_477 ?_
    obtain ⟨p45, hy⟩ := hy
    obtain ⟨p46, hy⟩ := hy
    refine gf_X9_266 C dX9_shortest_478 p45 p46 ?_
    refine ww_iconst C (z := 0) dX9_shortest_481 rfl ?_
    refine ww_aload_n C 0 0 rfl rfl dX9_shortest_482 ?_
    obtain ⟨p47, hy⟩ := hy
    obtain ⟨p48, hy⟩ := hy
    refine gf_X9_269 C dX9_shortest_483 p47 p48 ?_
    refine ww_iload C 10 3 rfl dX9_shortest_486 ?_
    refine ww_iconst C (z := 1) dX9_shortest_488 rfl ?_
    refine cl_X9_42 C dX9_shortest_489 (Nat.le_of_ble_eq_true rfl) ⟨by decide, by decide⟩ ⟨by decide, by decide⟩ ?_
    refine S_X9_takeAway.mono hy (fun z49 h50 hy => ?_)
    refine ww_pop C rfl dX9_shortest_492 ?_
    refine ww_aload_n C 0 0 rfl rfl dX9_shortest_493 ?_
    obtain ⟨p51, hy⟩ := hy
    obtain ⟨p52, hy⟩ := hy
    refine gf_X9_266 C dX9_shortest_494 p51 p52 ?_
    refine ww_iload C 9 2 rfl dX9_shortest_497 ?_
    refine cl_X9_15 C dX9_shortest_499 (Nat.le_of_ble_eq_true rfl) ⟨by decide, by decide⟩ ⟨by decide, by decide⟩ ?_
    refine S_X9_used.mono hy (fun z53 h54 hy => ?_)
    refine ww_istore C 9 (by decide) rfl dX9_shortest_502 ?_
    refine ww_iinc C 15 7 rfl (by decide) rfl dX9_shortest_504 ?_
    refine ww_goto C (tg := 451) dX9_shortest_507 (by decide) ?_
    exact ww_sub [2, 3, 1, 4, 5, 6, 7, 0] rfl (by decide) (by decide) hy
set_option maxRecDepth 100000 in
set_option maxHeartbeats 4000000 in
theorem X9_shortest_b404 {G : xG} {k : xK} {n0 : Nat} {Po : Nat → xH → Prop} (C : CC G k cX9_shortest RX9 23 rm_X9_shortest) (E : CQ G k none rm_X9_shortest (fun r n1 h1 => r = none ∧ Po n1 h1)) (x0 : Nat) (x6 : Int) (x9 : Int) (x10 : Int) (x11 : Int) (x12 : Int) (x13 : Int) (x14 : Int) (n : Nat) (h : xH) (hy : X9_shortest_w305 G k x0 x6 x9 x10 x11 x12 x13 x14 n h) : X9_shortest_w404 G k x0 x6 x9 x10 x11 x12 x13 x14 n h := by
  refine ww_goto C (tg := 305) dX9_shortest_404 (by decide) ?_
  exact ww_sub [0, 1, 2, 3, 4, 5, 6, 7] rfl (by decide) (by decide) hy
set_option maxRecDepth 100000 in
set_option maxHeartbeats 4000000 in
theorem X9_shortest_b598 {G : xG} {k : xK} {n0 : Nat} {Po : Nat → xH → Prop} (C : CC G k cX9_shortest RX9 23 rm_X9_shortest) (E : CQ G k none rm_X9_shortest (fun r n1 h1 => r = none ∧ Po n1 h1)) (x0 : Nat) (x6 : Int) (x9 : Int) (x10 : Int) (x11 : Int) (x12 : Int) (x13 : Int) (x15 : Int) (x17 : Int) (x18 : Int) (n : Nat) (h : xH) (hy : X9_shortest_w603 G k x0 x6 x9 x10 x11 x12 x13 x15 x17 x18 1 n h) : X9_shortest_w598 G k x0 x6 x9 x10 x11 x12 x13 x15 x17 x18 n h := by
  refine ww_iconst C (z := 1) dX9_shortest_598 rfl ?_
  refine ww_goto C (tg := 603) dX9_shortest_599 (by decide) ?_
  exact ww_sub [0, 1, 2, 3, 4, 5, 6, 7, 8, 9] rfl (by decide) (by decide) hy
set_option maxRecDepth 100000 in
set_option maxHeartbeats 4000000 in
theorem X9_shortest_b602 {G : xG} {k : xK} {n0 : Nat} {Po : Nat → xH → Prop} (C : CC G k cX9_shortest RX9 23 rm_X9_shortest) (E : CQ G k none rm_X9_shortest (fun r n1 h1 => r = none ∧ Po n1 h1)) (x0 : Nat) (x6 : Int) (x9 : Int) (x10 : Int) (x11 : Int) (x12 : Int) (x13 : Int) (x15 : Int) (x17 : Int) (x18 : Int) (n : Nat) (h : xH) (hy : X9_shortest_w603 G k x0 x6 x9 x10 x11 x12 x13 x15 x17 x18 0 n h) : X9_shortest_w602 G k x0 x6 x9 x10 x11 x12 x13 x15 x17 x18 n h := by
  refine ww_iconst C (z := 0) dX9_shortest_602 rfl ?_
  exact ww_sub [0, 1, 2, 3, 4, 5, 6, 7, 8, 9] rfl (by decide) (by decide) hy
set_option maxRecDepth 100000 in
set_option maxHeartbeats 4000000 in
theorem X9_shortest_b603 {G : xG} {k : xK} {n0 : Nat} {Po : Nat → xH → Prop} (C : CC G k cX9_shortest RX9 23 rm_X9_shortest) (E : CQ G k none rm_X9_shortest (fun r n1 h1 => r = none ∧ Po n1 h1)) (x0 : Nat) (x6 : Int) (x9 : Int) (x10 : Int) (x11 : Int) (x12 : Int) (x13 : Int) (x15 : Int) (x17 : Int) (x18 : Int) (s0 : Int) (n : Nat) (h : xH) (hy : rg x18 ∧ ((x18 < 0 → X9_shortest_w620 G k x0 x6 x9 x10 x11 x12 x13 x15 x17 s0 n h) ∧ (¬ x18 < 0 → rg x18 ∧ ((¬ x18 = 0 → X9_shortest_w624 G k x0 x6 x9 x10 x11 x12 x13 x15 x17 s0 n h) ∧ (x18 = 0 → rg x6 ∧ ((x6 = 0 → X9_shortest_w624 G k x0 x6 x9 x10 x11 x12 x13 x15 x17 s0 n h) ∧ (¬ x6 = 0 → X9_shortest_w620 G k x0 x6 x9 x10 x11 x12 x13 x15 x17 s0 n h))))))) : X9_shortest_w603 G k x0 x6 x9 x10 x11 x12 x13 x15 x17 x18 s0 n h := by
  refine ww_istore C 19 (by decide) rfl dX9_shortest_603 ?_
  refine ww_iload C 18 10 rfl dX9_shortest_605 ?_
  obtain ⟨p1, hy⟩ := hy
  refine ww_if_lt C (tg := 620) dX9_shortest_607 (by decide) p1 (fun c2 => ?_) (fun c2 => ?_)
  · have hy := hy.1 c2
    exact ww_sub [1, 2, 3, 4, 5, 6, 7, 8, 9, 0] rfl (by decide) (by decide) hy
  · have hy := hy.2 c2
    refine ww_iload C 18 10 rfl dX9_shortest_610 ?_
    obtain ⟨p3, hy⟩ := hy
    refine ww_if_ne C (tg := 624) dX9_shortest_612 (by decide) p3 (fun c4 => ?_) (fun c4 => ?_)
    · have hy := hy.1 c4
      exact ww_sub [1, 2, 3, 4, 5, 6, 7, 8, 9, 0] rfl (by decide) (by decide) hy
    · have hy := hy.2 c4
      refine ww_iload C 6 2 rfl dX9_shortest_615 ?_
      obtain ⟨p5, hy⟩ := hy
      refine ww_if_eq C (tg := 624) dX9_shortest_617 (by decide) p5 (fun c6 => ?_) (fun c6 => ?_)
      · have hy := hy.1 c6
        exact ww_sub [1, 2, 3, 4, 5, 6, 7, 8, 9, 0] rfl (by decide) (by decide) hy
      · have hy := hy.2 c6
        exact ww_sub [1, 2, 3, 4, 5, 6, 7, 8, 9, 0] rfl (by decide) (by decide) hy
set_option maxRecDepth 100000 in
set_option maxHeartbeats 4000000 in
theorem X9_shortest_b620 {G : xG} {k : xK} {n0 : Nat} {Po : Nat → xH → Prop} (C : CC G k cX9_shortest RX9 23 rm_X9_shortest) (E : CQ G k none rm_X9_shortest (fun r n1 h1 => r = none ∧ Po n1 h1)) (x0 : Nat) (x6 : Int) (x9 : Int) (x10 : Int) (x11 : Int) (x12 : Int) (x13 : Int) (x15 : Int) (x17 : Int) (x19 : Int) (n : Nat) (h : xH) (hy : X9_shortest_w625 G k x0 x6 x9 x10 x11 x12 x13 x15 x17 x19 1 n h) : X9_shortest_w620 G k x0 x6 x9 x10 x11 x12 x13 x15 x17 x19 n h := by
  refine ww_iconst C (z := 1) dX9_shortest_620 rfl ?_
  refine ww_goto C (tg := 625) dX9_shortest_621 (by decide) ?_
  exact ww_sub [0, 1, 2, 3, 4, 5, 6, 7, 8, 9] rfl (by decide) (by decide) hy
set_option maxRecDepth 100000 in
set_option maxHeartbeats 4000000 in
theorem X9_shortest_b624 {G : xG} {k : xK} {n0 : Nat} {Po : Nat → xH → Prop} (C : CC G k cX9_shortest RX9 23 rm_X9_shortest) (E : CQ G k none rm_X9_shortest (fun r n1 h1 => r = none ∧ Po n1 h1)) (x0 : Nat) (x6 : Int) (x9 : Int) (x10 : Int) (x11 : Int) (x12 : Int) (x13 : Int) (x15 : Int) (x17 : Int) (x19 : Int) (n : Nat) (h : xH) (hy : X9_shortest_w625 G k x0 x6 x9 x10 x11 x12 x13 x15 x17 x19 0 n h) : X9_shortest_w624 G k x0 x6 x9 x10 x11 x12 x13 x15 x17 x19 n h := by
  refine ww_iconst C (z := 0) dX9_shortest_624 rfl ?_
  exact ww_sub [0, 1, 2, 3, 4, 5, 6, 7, 8, 9] rfl (by decide) (by decide) hy
set_option maxRecDepth 100000 in
set_option maxHeartbeats 4000000 in
theorem X9_shortest_b625 {G : xG} {k : xK} {n0 : Nat} {Po : Nat → xH → Prop} (C : CC G k cX9_shortest RX9 23 rm_X9_shortest) (E : CQ G k none rm_X9_shortest (fun r n1 h1 => r = none ∧ Po n1 h1)) (x0 : Nat) (x6 : Int) (x9 : Int) (x10 : Int) (x11 : Int) (x12 : Int) (x13 : Int) (x15 : Int) (x17 : Int) (x19 : Int) (s0 : Int) (n : Nat) (h : xH) (hy : rg x19 ∧ ((¬ x19 = 0 → X9_shortest_w661 G k x0 x9 x13 x15 x17 x19 s0 n h) ∧ (x19 = 0 → rg s0 ∧ ((¬ s0 = 0 → X9_shortest_w661 G k x0 x9 x13 x15 x17 x19 s0 n h) ∧ (s0 = 0 → okO n h x0 8 ∧ 0 ≤ hG h x0 18 ∧ okO n h x0 8 ∧ okA n h ((hG h x0 18).toNat) 100 (hG h x0 19) ∧ (∀ h9 : xH, h9 = hS h ((hG h x0 18).toNat) ((hG h x0 19).toNat) x15 → okO n h9 x0 8 ∧ okO n h9 x0 8 ∧ (∀ h12 : xH, h12 = hS h9 x0 19 ((hG h9 x0 19) + 1) → X9_shortest_w412 G k x0 x6 x9 x10 x11 x12 x13 n h12))))))) : X9_shortest_w625 G k x0 x6 x9 x10 x11 x12 x13 x15 x17 x19 s0 n h := by
  refine ww_istore C 20 (by decide) rfl dX9_shortest_625 ?_
  refine ww_iload C 19 10 rfl dX9_shortest_627 ?_
  obtain ⟨p1, hy⟩ := hy
  refine ww_if_ne C (tg := 661) dX9_shortest_629 (by decide) p1 (fun c2 => ?_) (fun c2 => ?_)
  · have hy := hy.1 c2
    exact ww_sub [1, 3, 7, 8, 9, 10, 0] rfl (by decide) (by decide) hy
  · have hy := hy.2 c2
    refine ww_iload C 20 0 rfl dX9_shortest_632 ?_
    obtain ⟨p3, hy⟩ := hy
    refine ww_if_ne C (tg := 661) dX9_shortest_634 (by decide) p3 (fun c4 => ?_) (fun c4 => ?_)
    · have hy := hy.1 c4
      exact ww_sub [1, 3, 7, 8, 9, 10, 0] rfl (by decide) (by decide) hy
    · have hy := hy.2 c4
      refine ww_aload_n C 0 1 rfl rfl dX9_shortest_637 ?_
      obtain ⟨p5, hy⟩ := hy
      obtain ⟨p6, hy⟩ := hy
      refine gf_X9_290 C dX9_shortest_638 p5 p6 ?_
      refine ww_aload_n C 0 1 rfl rfl dX9_shortest_641 ?_
      obtain ⟨p7, hy⟩ := hy
      refine gf_X9_284 C dX9_shortest_642 p7 ?_
      refine ww_iload C 15 8 rfl dX9_shortest_645 ?_
      obtain ⟨p8, hy⟩ := hy
      have hy := hy _ rfl
      refine ww_iast C dX9_shortest_647 p8 ?_
      refine ww_aload_n C 0 1 rfl rfl dX9_shortest_648 ?_
      refine ww_dup C rfl dX9_shortest_649 ?_
      obtain ⟨p10, hy⟩ := hy
      refine gf_X9_284 C dX9_shortest_650 p10 ?_
      refine ww_iconst C (z := 1) dX9_shortest_653 rfl ?_
      refine ww_iadd C dX9_shortest_654 ?_
      obtain ⟨p11, hy⟩ := hy
      have hy := hy _ rfl
      refine pf_X9_284I C dX9_shortest_655 p11 ?_
      refine ww_goto C (tg := 412) dX9_shortest_658 (by decide) ?_
      exact ww_sub [1, 2, 3, 4, 5, 6, 7] rfl (by decide) (by decide) hy
set_option maxRecDepth 100000 in
set_option maxHeartbeats 4000000 in
theorem X9_shortest_b661 {G : xG} {k : xK} {n0 : Nat} {Po : Nat → xH → Prop} (C : CC G k cX9_shortest RX9 23 rm_X9_shortest) (E : CQ G k none rm_X9_shortest (fun r n1 h1 => r = none ∧ Po n1 h1)) (x0 : Nat) (x9 : Int) (x13 : Int) (x15 : Int) (x17 : Int) (x19 : Int) (x20 : Int) (n : Nat) (h : xH) (hy : okO n h x0 8 ∧ 0 ≤ hG h x0 13 ∧ okO n h x0 8 ∧ 0 ≤ hG h x0 17 ∧ S_X9_compareRows G (kl k) ((hG h x0 13).toNat) x9 ((hG h x0 17).toNat) x17 n h (fun z5 h6 => rg x19 ∧ ((x19 = 0 → X9_shortest_w706 G k x0 x13 x15 n h6) ∧ (¬ x19 = 0 → rg x20 ∧ ((x20 = 0 → X9_shortest_w710 G k x0 x13 x15 n h6) ∧ (¬ x20 = 0 → rg z5 ∧ ((0 < z5 → X9_shortest_w706 G k x0 x13 x15 n h6) ∧ (¬ 0 < z5 → rg z5 ∧ ((¬ z5 = 0 → X9_shortest_w710 G k x0 x13 x15 n h6) ∧ (z5 = 0 → (rg x15 ∧ rg (2 : Int) ∧ (2 : Int) ≠ 0) ∧ (rg (x15.tmod 2) ∧ rg (1 : Int)) ∧ ((¬ (x15.tmod 2) = (1 : Int) → X9_shortest_w710 G k x0 x13 x15 n h6) ∧ ((x15.tmod 2) = (1 : Int) → X9_shortest_w706 G k x0 x13 x15 n h6)))))))))))) : X9_shortest_w661 G k x0 x9 x13 x15 x17 x19 x20 n h := by
  refine ww_aload_n C 0 0 rfl rfl dX9_shortest_661 ?_
  obtain ⟨p1, hy⟩ := hy
  obtain ⟨p2, hy⟩ := hy
  refine gf_X9_266 C dX9_shortest_662 p1 p2 ?_
  refine ww_iload C 9 1 rfl dX9_shortest_665 ?_
  refine ww_aload_n C 0 0 rfl rfl dX9_shortest_667 ?_
  obtain ⟨p3, hy⟩ := hy
  obtain ⟨p4, hy⟩ := hy
  refine gf_X9_281 C dX9_shortest_668 p3 p4 ?_
  refine ww_iload C 17 4 rfl dX9_shortest_671 ?_
  refine cl_X9_141 C dX9_shortest_673 (Nat.le_of_ble_eq_true rfl) ⟨by decide, by decide⟩ ⟨by decide, by decide⟩ ?_
  refine S_X9_compareRows.mono hy (fun z5 h6 hy => ?_)
  refine ww_istore C 21 (by decide) rfl dX9_shortest_676 ?_
  refine ww_iload C 19 6 rfl dX9_shortest_678 ?_
  obtain ⟨p7, hy⟩ := hy
  refine ww_if_eq C (tg := 706) dX9_shortest_680 (by decide) p7 (fun c8 => ?_) (fun c8 => ?_)
  · have hy := hy.1 c8
    exact ww_sub [1, 3, 4] rfl (by decide) (by decide) hy
  · have hy := hy.2 c8
    refine ww_iload C 20 7 rfl dX9_shortest_683 ?_
    obtain ⟨p9, hy⟩ := hy
    refine ww_if_eq C (tg := 710) dX9_shortest_685 (by decide) p9 (fun c10 => ?_) (fun c10 => ?_)
    · have hy := hy.1 c10
      exact ww_sub [1, 3, 4] rfl (by decide) (by decide) hy
    · have hy := hy.2 c10
      refine ww_iload C 21 0 rfl dX9_shortest_688 ?_
      obtain ⟨p11, hy⟩ := hy
      refine ww_if_gt C (tg := 706) dX9_shortest_690 (by decide) p11 (fun c12 => ?_) (fun c12 => ?_)
      · have hy := hy.1 c12
        exact ww_sub [1, 3, 4] rfl (by decide) (by decide) hy
      · have hy := hy.2 c12
        refine ww_iload C 21 0 rfl dX9_shortest_693 ?_
        obtain ⟨p13, hy⟩ := hy
        refine ww_if_ne C (tg := 710) dX9_shortest_695 (by decide) p13 (fun c14 => ?_) (fun c14 => ?_)
        · have hy := hy.1 c14
          exact ww_sub [1, 3, 4] rfl (by decide) (by decide) hy
        · have hy := hy.2 c14
          refine ww_iload C 15 4 rfl dX9_shortest_698 ?_
          refine ww_iconst C (z := 2) dX9_shortest_700 rfl ?_
          obtain ⟨p15, hy⟩ := hy
          refine ww_irem C dX9_shortest_701 p15.1 p15.2.1 p15.2.2 ?_
          refine ww_iconst C (z := 1) dX9_shortest_702 rfl ?_
          obtain ⟨p16, hy⟩ := hy
          refine ww_icmp_ne C (tg := 710) dX9_shortest_703 (by decide) p16.1 p16.2 (fun c17 => ?_) (fun c17 => ?_)
          · have hy := hy.1 c17
            exact ww_sub [1, 3, 4] rfl (by decide) (by decide) hy
          · have hy := hy.2 c17
            exact ww_sub [1, 3, 4] rfl (by decide) (by decide) hy
set_option maxRecDepth 100000 in
set_option maxHeartbeats 4000000 in
theorem X9_shortest_b706 {G : xG} {k : xK} {n0 : Nat} {Po : Nat → xH → Prop} (C : CC G k cX9_shortest RX9 23 rm_X9_shortest) (E : CQ G k none rm_X9_shortest (fun r n1 h1 => r = none ∧ Po n1 h1)) (x0 : Nat) (x13 : Int) (x15 : Int) (n : Nat) (h : xH) (hy : X9_shortest_w711 G k x0 x13 x15 1 n h) : X9_shortest_w706 G k x0 x13 x15 n h := by
  refine ww_iconst C (z := 1) dX9_shortest_706 rfl ?_
  refine ww_goto C (tg := 711) dX9_shortest_707 (by decide) ?_
  exact ww_sub [0, 1, 2] rfl (by decide) (by decide) hy
set_option maxRecDepth 100000 in
set_option maxHeartbeats 4000000 in
theorem X9_shortest_b710 {G : xG} {k : xK} {n0 : Nat} {Po : Nat → xH → Prop} (C : CC G k cX9_shortest RX9 23 rm_X9_shortest) (E : CQ G k none rm_X9_shortest (fun r n1 h1 => r = none ∧ Po n1 h1)) (x0 : Nat) (x13 : Int) (x15 : Int) (n : Nat) (h : xH) (hy : X9_shortest_w711 G k x0 x13 x15 0 n h) : X9_shortest_w710 G k x0 x13 x15 n h := by
  refine ww_iconst C (z := 0) dX9_shortest_710 rfl ?_
  exact ww_sub [0, 1, 2] rfl (by decide) (by decide) hy
set_option maxRecDepth 100000 in
set_option maxHeartbeats 4000000 in
theorem X9_shortest_b711 {G : xG} {k : xK} {n0 : Nat} {Po : Nat → xH → Prop} (C : CC G k cX9_shortest RX9 23 rm_X9_shortest) (E : CQ G k none rm_X9_shortest (fun r n1 h1 => r = none ∧ Po n1 h1)) (x0 : Nat) (x13 : Int) (x15 : Int) (s0 : Int) (n : Nat) (h : xH) (hy : rg s0 ∧ ((s0 = 0 → X9_shortest_w730 G k x0 x15 x0 x13 n h) ∧ (¬ s0 = 0 → X9_shortest_w730 G k x0 (x15 + 1) x0 x13 n h))) : X9_shortest_w711 G k x0 x13 x15 s0 n h := by
  refine ww_istore C 22 (by decide) rfl dX9_shortest_711 ?_
  refine ww_iload C 13 2 rfl dX9_shortest_713 ?_
  refine ww_aload_n C 0 1 rfl rfl dX9_shortest_715 ?_
  refine ww_iload C 22 0 rfl dX9_shortest_716 ?_
  obtain ⟨p1, hy⟩ := hy
  refine ww_if_eq C (tg := 728) dX9_shortest_718 (by decide) p1 (fun c2 => ?_) (fun c2 => ?_)
  · have hy := hy.1 c2
    refine ww_iload C 15 3 rfl dX9_shortest_728 ?_
    exact ww_sub [1] rfl (by decide) (by decide) hy
  · have hy := hy.2 c2
    refine ww_iload C 15 3 rfl dX9_shortest_721 ?_
    refine ww_iconst C (z := 1) dX9_shortest_723 rfl ?_
    refine ww_iadd C dX9_shortest_724 ?_
    refine ww_goto C (tg := 730) dX9_shortest_725 (by decide) ?_
    exact ww_sub [1] rfl (by decide) (by decide) hy
set_option maxRecDepth 100000 in
set_option maxHeartbeats 4000000 in
theorem X9_shortest_b730 {G : xG} {k : xK} {n0 : Nat} {Po : Nat → xH → Prop} (C : CC G k cX9_shortest RX9 23 rm_X9_shortest) (E : CQ G k none rm_X9_shortest (fun r n1 h1 => r = none ∧ Po n1 h1)) (x0 : Nat) (s0 : Int) (s1 : Nat) (s2 : Int) (n : Nat) (h : xH) (hy : okO n h s1 8 ∧ S_X9_put G (kl k) s1 s0 n h (fun z2 h3 => okO n h3 x0 8 ∧ S_X9_placed G (kl k) x0 (s2 + z2) n h3 (fun h5 => Po n h5))) : X9_shortest_w730 G k x0 s0 s1 s2 n h := by
  obtain ⟨p1, hy⟩ := hy
  refine cl_X9_293 C dX9_shortest_730 (Nat.le_of_ble_eq_true rfl) ⟨by decide, by decide⟩ ⟨by decide, by decide⟩ p1 ?_
  refine S_X9_put.mono hy (fun z2 h3 hy => ?_)
  refine ww_iadd C dX9_shortest_733 ?_
  refine ww_istore C 13 (by decide) rfl dX9_shortest_734 ?_
  refine ww_aload_n C 0 1 rfl rfl dX9_shortest_736 ?_
  refine ww_iload C 13 0 rfl dX9_shortest_737 ?_
  obtain ⟨p4, hy⟩ := hy
  refine cl_X9_297 C dX9_shortest_739 (Nat.le_of_ble_eq_true rfl) ⟨by decide, by decide⟩ ⟨by decide, by decide⟩ p4 ?_
  refine S_X9_placed.mono hy (fun h5 hy => ?_)
  exact ww_vret C E dX9_shortest_742 (by decide) (by decide) ⟨rfl, hy⟩
abbrev X9_sayReal_w0 (G : xG) (k : xK) (x0 : Nat) (x1 : UInt64) (n : Nat) (h : xH) : Prop := WW G k 3 0 0 0 [(0, rf G x0), (1, .double x1)] [] n h
abbrev X9_sayReal_w40 (G : xG) (k : xK) (x0 : Nat) (x1 : UInt64) (n : Nat) (h : xH) : Prop := WW G k 3 0 0 40 [(0, rf G x0), (1, .double x1)] [] n h
abbrev X9_sayReal_w46 (G : xG) (k : xK) (x0 : Nat) (x1 : UInt64) (n : Nat) (h : xH) : Prop := WW G k 3 0 0 46 [(0, rf G x0), (1, .double x1)] [] n h
abbrev X9_sayReal_w21 (G : xG) (k : xK) (s0 : Nat) (s1 : Nat) (n : Nat) (h : xH) : Prop := WW G k 3 0 0 21 [] [.ref (G.2.2.2.2.1 s0), rf G s1] n h
abbrev X9_sayReal_w75 (G : xG) (k : xK) (s0 : UInt64) (s1 : Nat) (n : Nat) (h : xH) : Prop := WW G k 3 0 0 75 [] [.double s0, rf G s1] n h
abbrev X9_sayReal_w78 (G : xG) (k : xK)  (n : Nat) (h : xH) : Prop := WW G k 3 2 7 78 [] [] n h
theorem S_X9_sayReal_of {G : xG} {l : Launch} {x0 : Nat} {x1 : UInt64} {n : Nat} {h : xH} {Po : Nat → xH → Prop} (body : ∀ k : xK, kl k = l → CC G k cX9_sayReal RX9 3 rm_X9_sayReal → CQ G k none rm_X9_sayReal (fun r n1 h1 => r = none ∧ Po n1 h1) → X9_sayReal_w0 G k x0 x1 n h) : S_X9_sayReal G l x0 x1 n h Po := xS_of (by decide +kernel) (Nat.le_of_ble_eq_true rfl) rfl (fun k hl hnm C E => body k hl C E)
set_option maxRecDepth 100000 in
set_option maxHeartbeats 4000000 in
theorem X9_sayReal_b0 {G : xG} {k : xK} {n0 : Nat} {Po : Nat → xH → Prop} (C : CC G k cX9_sayReal RX9 3 rm_X9_sayReal) (E : CQ G k none rm_X9_sayReal (fun r n1 h1 => r = none ∧ Po n1 h1)) (x0 : Nat) (x1 : UInt64) (n : Nat) (h : xH) (hy : S_X9_isFinite G (kl k) x1 n h (fun z1 h2 => rg z1 ∧ ((¬ z1 = 0 → (((dC .g x1 FP.dconst0) < 0 → X9_sayReal_w40 G k x0 x1 n h2) ∧ (¬ (dC .g x1 FP.dconst0) < 0 → S_X9_isNegativeZero G (kl k) x1 n h2 (fun z7 h8 => rg z7 ∧ ((z7 = 0 → X9_sayReal_w46 G k x0 x1 n h8) ∧ (¬ z7 = 0 → X9_sayReal_w40 G k x0 x1 n h8)))))) ∧ (z1 = 0 → (((dC .l x1 FP.dconst0) ≤ 0 → X9_sayReal_w21 G k 6 x0 n h2) ∧ (¬ (dC .l x1 FP.dconst0) ≤ 0 → X9_sayReal_w21 G k 5 x0 n h2)))))) : X9_sayReal_w0 G k x0 x1 n h := by
  refine ww_dload_n C 1 1 rfl rfl dX9_sayReal_0 ?_
  refine cl_X9_245 C dX9_sayReal_1 (Nat.le_of_ble_eq_true rfl) ⟨by decide, by decide⟩ ⟨by decide, by decide⟩ ?_
  refine S_X9_isFinite.mono hy (fun z1 h2 hy => ?_)
  obtain ⟨p3, hy⟩ := hy
  refine ww_if_ne C (tg := 27) dX9_sayReal_4 (by decide) p3 (fun c4 => ?_) (fun c4 => ?_)
  · have hy := hy.1 c4
    refine ww_dload_n C 1 1 rfl rfl dX9_sayReal_27 ?_
    refine ww_dconst0 C dX9_sayReal_28 ?_
    refine ww_dcmp C dX9_sayReal_29 ?_
    refine ww_if_lt C (tg := 40) dX9_sayReal_30 (by decide) (rg_dC _ _ _) (fun c6 => ?_) (fun c6 => ?_)
    · have hy := hy.1 c6
      exact ww_sub [0, 1] rfl (by decide) (by decide) hy
    · have hy := hy.2 c6
      refine ww_dload_n C 1 1 rfl rfl dX9_sayReal_33 ?_
      refine cl_X9_257 C dX9_sayReal_34 (Nat.le_of_ble_eq_true rfl) ⟨by decide, by decide⟩ ⟨by decide, by decide⟩ ?_
      refine S_X9_isNegativeZero.mono hy (fun z7 h8 hy => ?_)
      obtain ⟨p9, hy⟩ := hy
      refine ww_if_eq C (tg := 46) dX9_sayReal_37 (by decide) p9 (fun c10 => ?_) (fun c10 => ?_)
      · have hy := hy.1 c10
        exact ww_sub [0, 1] rfl (by decide) (by decide) hy
      · have hy := hy.2 c10
        exact ww_sub [0, 1] rfl (by decide) (by decide) hy
  · have hy := hy.2 c4
    refine ww_aload_n C 0 0 rfl rfl dX9_sayReal_7 ?_
    refine ww_dload_n C 1 1 rfl rfl dX9_sayReal_8 ?_
    refine ww_dconst0 C dX9_sayReal_9 ?_
    refine ww_dcmp C dX9_sayReal_10 ?_
    refine ww_if_le C (tg := 19) dX9_sayReal_11 (by decide) (rg_dC _ _ _) (fun c12 => ?_) (fun c12 => ?_)
    · have hy := hy.1 c12
      refine ww_ldcS C (i0 := 251) (j := 6) (tx := "-inf.0") (by decide) dX9_sayReal_19 ?_
      exact ww_sub [] rfl (by decide) (by decide) hy
    · have hy := hy.2 c12
      refine ww_ldcS C (i0 := 249) (j := 5) (tx := "+inf.0") (by decide) dX9_sayReal_14 ?_
      refine ww_goto C (tg := 21) dX9_sayReal_16 (by decide) ?_
      exact ww_sub [] rfl (by decide) (by decide) hy
set_option maxRecDepth 100000 in
set_option maxHeartbeats 4000000 in
theorem X9_sayReal_b40 {G : xG} {k : xK} {n0 : Nat} {Po : Nat → xH → Prop} (C : CC G k cX9_sayReal RX9 3 rm_X9_sayReal) (E : CQ G k none rm_X9_sayReal (fun r n1 h1 => r = none ∧ Po n1 h1)) (x0 : Nat) (x1 : UInt64) (n : Nat) (h : xH) (hy : okO n h x0 8 ∧ S_X9_say G (kl k) x0 45 n h (fun h2 => X9_sayReal_w46 G k x0 x1 n h2)) : X9_sayReal_w40 G k x0 x1 n h := by
  refine ww_aload_n C 0 0 rfl rfl dX9_sayReal_40 ?_
  refine ww_bipush C (z := 45) dX9_sayReal_41 rfl ?_
  obtain ⟨p1, hy⟩ := hy
  refine cl_X9_96 C dX9_sayReal_43 (Nat.le_of_ble_eq_true rfl) ⟨by decide, by decide⟩ ⟨by decide, by decide⟩ p1 ?_
  refine S_X9_say.mono hy (fun h2 hy => ?_)
  exact ww_sub [0, 1] rfl (by decide) (by decide) hy
set_option maxRecDepth 100000 in
set_option maxHeartbeats 4000000 in
theorem X9_sayReal_b46 {G : xG} {k : xK} {n0 : Nat} {Po : Nat → xH → Prop} (C : CC G k cX9_sayReal RX9 3 rm_X9_sayReal) (E : CQ G k none rm_X9_sayReal (fun r n1 h1 => r = none ∧ Po n1 h1)) (x0 : Nat) (x1 : UInt64) (n : Nat) (h : xH) (hy : ((¬ (dC .l x1 FP.dconst0) = 0 → ((0 ≤ (dC .g x1 FP.dconst0) → X9_sayReal_w75 G k x1 x0 n h) ∧ (¬ 0 ≤ (dC .g x1 FP.dconst0) → X9_sayReal_w75 G k (FP.dneg x1) x0 n h))) ∧ ((dC .l x1 FP.dconst0) = 0 → okO n h x0 8 ∧ S_X9_sayWord G (kl k) x0 7 n h (fun h6 => X9_sayReal_w78 G k  n h6)))) : X9_sayReal_w46 G k x0 x1 n h := by
  refine ww_dload_n C 1 1 rfl rfl dX9_sayReal_46 ?_
  refine ww_dconst0 C dX9_sayReal_47 ?_
  refine ww_dcmp C dX9_sayReal_48 ?_
  refine ww_if_ne C (tg := 62) dX9_sayReal_49 (by decide) (rg_dC _ _ _) (fun c2 => ?_) (fun c2 => ?_)
  · have hy := hy.1 c2
    refine ww_aload_n C 0 0 rfl rfl dX9_sayReal_62 ?_
    refine ww_dload_n C 1 1 rfl rfl dX9_sayReal_63 ?_
    refine ww_dconst0 C dX9_sayReal_64 ?_
    refine ww_dcmp C dX9_sayReal_65 ?_
    refine ww_if_ge C (tg := 74) dX9_sayReal_66 (by decide) (rg_dC _ _ _) (fun c4 => ?_) (fun c4 => ?_)
    · have hy := hy.1 c4
      refine ww_dload_n C 1 1 rfl rfl dX9_sayReal_74 ?_
      exact ww_sub [] rfl (by decide) (by decide) hy
    · have hy := hy.2 c4
      refine ww_dload_n C 1 1 rfl rfl dX9_sayReal_69 ?_
      refine ww_dneg C dX9_sayReal_70 ?_
      refine ww_goto C (tg := 75) dX9_sayReal_71 (by decide) ?_
      exact ww_sub [] rfl (by decide) (by decide) hy
  · have hy := hy.2 c2
    refine ww_aload_n C 0 0 rfl rfl dX9_sayReal_52 ?_
    refine ww_ldcSw C (i0 := 260) (j := 7) (tx := "0.0") (by decide) dX9_sayReal_53 ?_
    obtain ⟨p5, hy⟩ := hy
    refine cl_X9_253 C dX9_sayReal_56 (Nat.le_of_ble_eq_true rfl) ⟨by decide, by decide⟩ ⟨by decide, by decide⟩ p5 ?_
    refine S_X9_sayWord.mono hy (fun h6 hy => ?_)
    refine ww_goto C (tg := 78) dX9_sayReal_59 (by decide) ?_
    exact ww_sub [] rfl (by decide) (by decide) hy
set_option maxRecDepth 100000 in
set_option maxHeartbeats 4000000 in
theorem X9_sayReal_b21 {G : xG} {k : xK} {n0 : Nat} {Po : Nat → xH → Prop} (C : CC G k cX9_sayReal RX9 3 rm_X9_sayReal) (E : CQ G k none rm_X9_sayReal (fun r n1 h1 => r = none ∧ Po n1 h1)) (s0 : Nat) (s1 : Nat) (n : Nat) (h : xH) (hy : okO n h s1 8 ∧ S_X9_sayWord G (kl k) s1 s0 n h (fun h2 => X9_sayReal_w78 G k  n h2)) : X9_sayReal_w21 G k s0 s1 n h := by
  obtain ⟨p1, hy⟩ := hy
  refine cl_X9_253 C dX9_sayReal_21 (Nat.le_of_ble_eq_true rfl) ⟨by decide, by decide⟩ ⟨by decide, by decide⟩ p1 ?_
  refine S_X9_sayWord.mono hy (fun h2 hy => ?_)
  refine ww_goto C (tg := 78) dX9_sayReal_24 (by decide) ?_
  exact ww_sub [] rfl (by decide) (by decide) hy
set_option maxRecDepth 100000 in
set_option maxHeartbeats 4000000 in
theorem X9_sayReal_b75 {G : xG} {k : xK} {n0 : Nat} {Po : Nat → xH → Prop} (C : CC G k cX9_sayReal RX9 3 rm_X9_sayReal) (E : CQ G k none rm_X9_sayReal (fun r n1 h1 => r = none ∧ Po n1 h1)) (s0 : UInt64) (s1 : Nat) (n : Nat) (h : xH) (hy : okO n h s1 8 ∧ S_X9_shortest G (kl k) s1 s0 n h (fun n3 h2 => X9_sayReal_w78 G k  n3 h2)) : X9_sayReal_w75 G k s0 s1 n h := by
  obtain ⟨p1, hy⟩ := hy
  refine cl_X9_262 C dX9_sayReal_75 (Nat.le_of_ble_eq_true rfl) ⟨by decide, by decide⟩ ⟨by decide, by decide⟩ p1 ?_
  refine S_X9_shortest.mono hy (fun n3 h2 hy => ?_)
  exact ww_sub [] rfl (by decide) (by decide) hy
set_option maxRecDepth 100000 in
set_option maxHeartbeats 4000000 in
theorem X9_sayReal_b78 {G : xG} {k : xK} {n0 : Nat} {Po : Nat → xH → Prop} (C : CC G k cX9_sayReal RX9 3 rm_X9_sayReal) (E : CQ G k none rm_X9_sayReal (fun r n1 h1 => r = none ∧ Po n1 h1))  (n : Nat) (h : xH) (hy : Po n h) : X9_sayReal_w78 G k  n h := by
  exact ww_vret C E dX9_sayReal_78 (by decide) (by decide) ⟨rfl, hy⟩
abbrev X9_digitOf_w0 (G : xG) (k : xK) (x0 : Int) (x1 : Int) (n : Nat) (h : xH) : Prop := WW G k 3 0 0 0 [(0, .int (iz x0)), (1, .int (iz x1))] [] n h
abbrev X9_digitOf_w19 (G : xG) (k : xK) (x0 : Int) (x1 : Int) (n : Nat) (h : xH) : Prop := WW G k 3 0 0 19 [(0, .int (iz x0)), (1, .int (iz x1))] [] n h
abbrev X9_digitOf_w65 (G : xG) (k : xK) (x1 : Int) (s0 : Int) (n : Nat) (h : xH) : Prop := WW G k 3 0 0 65 [(1, .int (iz x1))] [.int (iz s0)] n h
abbrev X9_digitOf_w41 (G : xG) (k : xK) (x0 : Int) (x1 : Int) (n : Nat) (h : xH) : Prop := WW G k 3 0 0 41 [(0, .int (iz x0)), (1, .int (iz x1))] [] n h
abbrev X9_digitOf_w76 (G : xG) (k : xK) (s0 : Int) (n : Nat) (h : xH) : Prop := WW G k 3 0 0 76 [] [.int (iz s0)] n h
abbrev X9_digitOf_w63 (G : xG) (k : xK) (x1 : Int) (n : Nat) (h : xH) : Prop := WW G k 3 0 0 63 [(1, .int (iz x1))] [] n h
theorem S_X9_digitOf_of {G : xG} {l : Launch} {x0 : Int} {x1 : Int} {n : Nat} {h : xH} {Po : Int → xH → Prop} (body : ∀ k : xK, kl k = l → CC G k cX9_digitOf RX9 3 rm_X9_digitOf → CQ G k (some .int) rm_X9_digitOf (fun r n1 h1 => ∃ z : Int, r = some (.int (iz z)) ∧ n1 = n ∧ Po z h1) → X9_digitOf_w0 G k x0 x1 n h) : S_X9_digitOf G l x0 x1 n h Po := xS_of (by decide +kernel) (Nat.le_of_ble_eq_true rfl) rfl (fun k hl hnm C E => body k hl C E)
set_option maxRecDepth 100000 in
set_option maxHeartbeats 4000000 in
theorem X9_digitOf_b0 {G : xG} {k : xK} {n0 : Nat} {Po : Int → xH → Prop} (C : CC G k cX9_digitOf RX9 3 rm_X9_digitOf) (E : CQ G k (some .int) rm_X9_digitOf (fun r n1 h1 => ∃ z : Int, r = some (.int (iz z)) ∧ n1 = n0 ∧ Po z h1)) (x0 : Int) (x1 : Int) (n : Nat) (h : xH) (hn0 : n = n0) (hy : (rg x0 ∧ rg (48 : Int)) ∧ ((x0 < (48 : Int) → X9_digitOf_w19 G k x0 x1 n h) ∧ (¬ x0 < (48 : Int) → (rg x0 ∧ rg (57 : Int)) ∧ (((57 : Int) < x0 → X9_digitOf_w19 G k x0 x1 n h) ∧ (¬ (57 : Int) < x0 → X9_digitOf_w65 G k x1 (x0 - 48) n h))))) : X9_digitOf_w0 G k x0 x1 n h := by
  subst hn0
  refine ww_iload_n C 0 0 rfl rfl dX9_digitOf_0 ?_
  refine ww_bipush C (z := 48) dX9_digitOf_1 rfl ?_
  obtain ⟨p1, hy⟩ := hy
  refine ww_icmp_lt C (tg := 19) dX9_digitOf_3 (by decide) p1.1 p1.2 (fun c2 => ?_) (fun c2 => ?_)
  · have hy := hy.1 c2
    exact ww_sub [0, 1] rfl (by decide) (by decide) hy
  · have hy := hy.2 c2
    refine ww_iload_n C 0 0 rfl rfl dX9_digitOf_6 ?_
    refine ww_bipush C (z := 57) dX9_digitOf_7 rfl ?_
    obtain ⟨p3, hy⟩ := hy
    refine ww_icmp_gt C (tg := 19) dX9_digitOf_9 (by decide) p3.1 p3.2 (fun c4 => ?_) (fun c4 => ?_)
    · have hy := hy.1 c4
      exact ww_sub [0, 1] rfl (by decide) (by decide) hy
    · have hy := hy.2 c4
      refine ww_iload_n C 0 0 rfl rfl dX9_digitOf_12 ?_
      refine ww_bipush C (z := 48) dX9_digitOf_13 rfl ?_
      refine ww_isub C dX9_digitOf_15 ?_
      refine ww_goto C (tg := 65) dX9_digitOf_16 (by decide) ?_
      exact ww_sub [1] rfl (by decide) (by decide) hy
set_option maxRecDepth 100000 in
set_option maxHeartbeats 4000000 in
theorem X9_digitOf_b19 {G : xG} {k : xK} {n0 : Nat} {Po : Int → xH → Prop} (C : CC G k cX9_digitOf RX9 3 rm_X9_digitOf) (E : CQ G k (some .int) rm_X9_digitOf (fun r n1 h1 => ∃ z : Int, r = some (.int (iz z)) ∧ n1 = n0 ∧ Po z h1)) (x0 : Int) (x1 : Int) (n : Nat) (h : xH) (hn0 : n = n0) (hy : (rg x0 ∧ rg (97 : Int)) ∧ ((x0 < (97 : Int) → X9_digitOf_w41 G k x0 x1 n h) ∧ (¬ x0 < (97 : Int) → (rg x0 ∧ rg (102 : Int)) ∧ (((102 : Int) < x0 → X9_digitOf_w41 G k x0 x1 n h) ∧ (¬ (102 : Int) < x0 → X9_digitOf_w65 G k x1 ((x0 - 97) + 10) n h))))) : X9_digitOf_w19 G k x0 x1 n h := by
  subst hn0
  refine ww_iload_n C 0 0 rfl rfl dX9_digitOf_19 ?_
  refine ww_bipush C (z := 97) dX9_digitOf_20 rfl ?_
  obtain ⟨p1, hy⟩ := hy
  refine ww_icmp_lt C (tg := 41) dX9_digitOf_22 (by decide) p1.1 p1.2 (fun c2 => ?_) (fun c2 => ?_)
  · have hy := hy.1 c2
    exact ww_sub [0, 1] rfl (by decide) (by decide) hy
  · have hy := hy.2 c2
    refine ww_iload_n C 0 0 rfl rfl dX9_digitOf_25 ?_
    refine ww_bipush C (z := 102) dX9_digitOf_26 rfl ?_
    obtain ⟨p3, hy⟩ := hy
    refine ww_icmp_gt C (tg := 41) dX9_digitOf_28 (by decide) p3.1 p3.2 (fun c4 => ?_) (fun c4 => ?_)
    · have hy := hy.1 c4
      exact ww_sub [0, 1] rfl (by decide) (by decide) hy
    · have hy := hy.2 c4
      refine ww_iload_n C 0 0 rfl rfl dX9_digitOf_31 ?_
      refine ww_bipush C (z := 97) dX9_digitOf_32 rfl ?_
      refine ww_isub C dX9_digitOf_34 ?_
      refine ww_bipush C (z := 10) dX9_digitOf_35 rfl ?_
      refine ww_iadd C dX9_digitOf_37 ?_
      refine ww_goto C (tg := 65) dX9_digitOf_38 (by decide) ?_
      exact ww_sub [1] rfl (by decide) (by decide) hy
set_option maxRecDepth 100000 in
set_option maxHeartbeats 4000000 in
theorem X9_digitOf_b65 {G : xG} {k : xK} {n0 : Nat} {Po : Int → xH → Prop} (C : CC G k cX9_digitOf RX9 3 rm_X9_digitOf) (E : CQ G k (some .int) rm_X9_digitOf (fun r n1 h1 => ∃ z : Int, r = some (.int (iz z)) ∧ n1 = n0 ∧ Po z h1)) (x1 : Int) (s0 : Int) (n : Nat) (h : xH) (hn0 : n = n0) (hy : (rg s0 ∧ rg x1) ∧ ((x1 ≤ s0 → X9_digitOf_w76 G k (-1) n h) ∧ (¬ x1 ≤ s0 → X9_digitOf_w76 G k s0 n h))) : X9_digitOf_w65 G k x1 s0 n h := by
  subst hn0
  refine ww_istore_n C 2 rfl (by decide) rfl dX9_digitOf_65 ?_
  refine ww_iload_n C 2 0 rfl rfl dX9_digitOf_66 ?_
  refine ww_iload_n C 1 1 rfl rfl dX9_digitOf_67 ?_
  obtain ⟨p1, hy⟩ := hy
  refine ww_icmp_ge C (tg := 75) dX9_digitOf_68 (by decide) p1.1 p1.2 (fun c2 => ?_) (fun c2 => ?_)
  · have hy := hy.1 c2
    refine ww_iconst C (z := (-1)) dX9_digitOf_75 rfl ?_
    exact ww_sub [] rfl (by decide) (by decide) hy
  · have hy := hy.2 c2
    refine ww_iload_n C 2 0 rfl rfl dX9_digitOf_71 ?_
    refine ww_goto C (tg := 76) dX9_digitOf_72 (by decide) ?_
    exact ww_sub [] rfl (by decide) (by decide) hy
set_option maxRecDepth 100000 in
set_option maxHeartbeats 4000000 in
theorem X9_digitOf_b41 {G : xG} {k : xK} {n0 : Nat} {Po : Int → xH → Prop} (C : CC G k cX9_digitOf RX9 3 rm_X9_digitOf) (E : CQ G k (some .int) rm_X9_digitOf (fun r n1 h1 => ∃ z : Int, r = some (.int (iz z)) ∧ n1 = n0 ∧ Po z h1)) (x0 : Int) (x1 : Int) (n : Nat) (h : xH) (hn0 : n = n0) (hy : (rg x0 ∧ rg (65 : Int)) ∧ ((x0 < (65 : Int) → X9_digitOf_w63 G k x1 n h) ∧ (¬ x0 < (65 : Int) → (rg x0 ∧ rg (70 : Int)) ∧ (((70 : Int) < x0 → X9_digitOf_w63 G k x1 n h) ∧ (¬ (70 : Int) < x0 → X9_digitOf_w65 G k x1 ((x0 - 65) + 10) n h))))) : X9_digitOf_w41 G k x0 x1 n h := by
  subst hn0
  refine ww_iload_n C 0 0 rfl rfl dX9_digitOf_41 ?_
  refine ww_bipush C (z := 65) dX9_digitOf_42 rfl ?_
  obtain ⟨p1, hy⟩ := hy
  refine ww_icmp_lt C (tg := 63) dX9_digitOf_44 (by decide) p1.1 p1.2 (fun c2 => ?_) (fun c2 => ?_)
  · have hy := hy.1 c2
    exact ww_sub [1] rfl (by decide) (by decide) hy
  · have hy := hy.2 c2
    refine ww_iload_n C 0 0 rfl rfl dX9_digitOf_47 ?_
    refine ww_bipush C (z := 70) dX9_digitOf_48 rfl ?_
    obtain ⟨p3, hy⟩ := hy
    refine ww_icmp_gt C (tg := 63) dX9_digitOf_50 (by decide) p3.1 p3.2 (fun c4 => ?_) (fun c4 => ?_)
    · have hy := hy.1 c4
      exact ww_sub [1] rfl (by decide) (by decide) hy
    · have hy := hy.2 c4
      refine ww_iload_n C 0 0 rfl rfl dX9_digitOf_53 ?_
      refine ww_bipush C (z := 65) dX9_digitOf_54 rfl ?_
      refine ww_isub C dX9_digitOf_56 ?_
      refine ww_bipush C (z := 10) dX9_digitOf_57 rfl ?_
      refine ww_iadd C dX9_digitOf_59 ?_
      refine ww_goto C (tg := 65) dX9_digitOf_60 (by decide) ?_
      exact ww_sub [1] rfl (by decide) (by decide) hy
set_option maxRecDepth 100000 in
set_option maxHeartbeats 4000000 in
theorem X9_digitOf_b76 {G : xG} {k : xK} {n0 : Nat} {Po : Int → xH → Prop} (C : CC G k cX9_digitOf RX9 3 rm_X9_digitOf) (E : CQ G k (some .int) rm_X9_digitOf (fun r n1 h1 => ∃ z : Int, r = some (.int (iz z)) ∧ n1 = n0 ∧ Po z h1)) (s0 : Int) (n : Nat) (h : xH) (hn0 : n = n0) (hy : Po s0 h) : X9_digitOf_w76 G k s0 n h := by
  subst hn0
  exact ww_iret C E dX9_digitOf_76 (by decide) (by decide) ⟨_, rfl, rfl, hy⟩
set_option maxRecDepth 100000 in
set_option maxHeartbeats 4000000 in
theorem X9_digitOf_b63 {G : xG} {k : xK} {n0 : Nat} {Po : Int → xH → Prop} (C : CC G k cX9_digitOf RX9 3 rm_X9_digitOf) (E : CQ G k (some .int) rm_X9_digitOf (fun r n1 h1 => ∃ z : Int, r = some (.int (iz z)) ∧ n1 = n0 ∧ Po z h1)) (x1 : Int) (n : Nat) (h : xH) (hn0 : n = n0) (hy : X9_digitOf_w65 G k x1 99 n h) : X9_digitOf_w63 G k x1 n h := by
  subst hn0
  refine ww_bipush C (z := 99) dX9_digitOf_63 rfl ?_
  exact ww_sub [0] rfl (by decide) (by decide) hy
abbrev X9_areDigits_w0 (G : xG) (k : xK) (x0 : Nat) (x1 : Int) (x2 : Int) (x3 : Int) (n : Nat) (h : xH) : Prop := WW G k 5 0 0 0 [(0, rf G x0), (1, .int (iz x1)), (2, .int (iz x2)), (3, .int (iz x3))] [] n h
abbrev X9_areDigits_w10 (G : xG) (k : xK) (x0 : Nat) (x2 : Int) (x3 : Int) (x4 : Int) (n : Nat) (h : xH) : Prop := WW G k 5 0 0 10 [(0, rf G x0), (2, .int (iz x2)), (3, .int (iz x3)), (4, .int (iz x4))] [] n h
theorem S_X9_areDigits_of {G : xG} {l : Launch} {x0 : Nat} {x1 : Int} {x2 : Int} {x3 : Int} {n : Nat} {h : xH} {Po : Int → xH → Prop} (body : ∀ k : xK, kl k = l → CC G k cX9_areDigits RX9 5 rm_X9_areDigits → CQ G k (some .boolean) rm_X9_areDigits (fun r n1 h1 => ∃ z : Int, r = some (.int (iz z)) ∧ n1 = n ∧ Po z h1) → X9_areDigits_w0 G k x0 x1 x2 x3 n h) : S_X9_areDigits G l x0 x1 x2 x3 n h Po := xS_of (by decide +kernel) (Nat.le_of_ble_eq_true rfl) rfl (fun k hl hnm C E => body k hl C E)
set_option maxRecDepth 100000 in
set_option maxHeartbeats 4000000 in
theorem X9_areDigits_b0 {G : xG} {k : xK} {n0 : Nat} {Po : Int → xH → Prop} (C : CC G k cX9_areDigits RX9 5 rm_X9_areDigits) (E : CQ G k (some .boolean) rm_X9_areDigits (fun r n1 h1 => ∃ z : Int, r = some (.int (iz z)) ∧ n1 = n0 ∧ Po z h1)) (x0 : Nat) (x1 : Int) (x2 : Int) (x3 : Int) (n : Nat) (h : xH) (hn0 : n = n0) (hy : (rg x1 ∧ rg x2) ∧ ((x1 < x2 → X9_areDigits_w10 G k x0 x2 x3 x1 n h) ∧ (¬ x1 < x2 → ((0 : Int) = 0 ∨ (0 : Int) = 1) ∧ Po (0 : Int) h))) : X9_areDigits_w0 G k x0 x1 x2 x3 n h := by
  subst hn0
  refine ww_iload_n C 1 1 rfl rfl dX9_areDigits_0 ?_
  refine ww_iload_n C 2 2 rfl rfl dX9_areDigits_1 ?_
  obtain ⟨p1, hy⟩ := hy
  refine ww_icmp_lt C (tg := 7) dX9_areDigits_2 (by decide) p1.1 p1.2 (fun c2 => ?_) (fun c2 => ?_)
  · have hy := hy.1 c2
    refine ww_iload_n C 1 1 rfl rfl dX9_areDigits_7 ?_
    refine ww_istore C 4 (by decide) rfl dX9_areDigits_8 ?_
    exact ww_sub [1, 3, 4, 0] rfl (by decide) (by decide) hy
  · have hy := hy.2 c2
    refine ww_iconst C (z := 0) dX9_areDigits_5 rfl ?_
    obtain ⟨p3, hy⟩ := hy
    exact ww_zret C E dX9_areDigits_6 (nz_b p3) (by decide) (by decide) ⟨_, rfl, rfl, hy⟩
set_option maxRecDepth 100000 in
set_option maxHeartbeats 4000000 in
theorem X9_areDigits_b10 {G : xG} {k : xK} {n0 : Nat} {Po : Int → xH → Prop} (C : CC G k cX9_areDigits RX9 5 rm_X9_areDigits) (E : CQ G k (some .boolean) rm_X9_areDigits (fun r n1 h1 => ∃ z : Int, r = some (.int (iz z)) ∧ n1 = n0 ∧ Po z h1)) (x0 : Nat) (x2 : Int) (x3 : Int) (x4 : Int) (n : Nat) (h : xH) (hn0 : n = n0) (hy : (rg x4 ∧ rg x2) ∧ ((x2 ≤ x4 → ((1 : Int) = 0 ∨ (1 : Int) = 1) ∧ Po (1 : Int) h) ∧ (¬ x2 ≤ x4 → okA n h x0 100 x4 ∧ S_X9_digitOf G (kl k) (hG h x0 (x4.toNat)) x3 n h (fun z5 h6 => rg z5 ∧ ((0 ≤ z5 → X9_areDigits_w10 G k x0 x2 x3 (x4 + 1) n h6) ∧ (¬ 0 ≤ z5 → ((0 : Int) = 0 ∨ (0 : Int) = 1) ∧ Po (0 : Int) h6)))))) : X9_areDigits_w10 G k x0 x2 x3 x4 n h := by
  subst hn0
  refine ww_iload C 4 3 rfl dX9_areDigits_10 ?_
  refine ww_iload_n C 2 1 rfl rfl dX9_areDigits_12 ?_
  obtain ⟨p1, hy⟩ := hy
  refine ww_icmp_ge C (tg := 35) dX9_areDigits_13 (by decide) p1.1 p1.2 (fun c2 => ?_) (fun c2 => ?_)
  · have hy := hy.1 c2
    refine ww_iconst C (z := 1) dX9_areDigits_35 rfl ?_
    obtain ⟨p3, hy⟩ := hy
    exact ww_zret C E dX9_areDigits_36 (nz_b p3) (by decide) (by decide) ⟨_, rfl, rfl, hy⟩
  · have hy := hy.2 c2
    refine ww_aload_n C 0 0 rfl rfl dX9_areDigits_16 ?_
    refine ww_iload C 4 3 rfl dX9_areDigits_17 ?_
    obtain ⟨p4, hy⟩ := hy
    refine ww_iald C dX9_areDigits_19 p4 ?_
    refine ww_iload_n C 3 2 rfl rfl dX9_areDigits_20 ?_
    refine cl_X9_309 C dX9_areDigits_21 (Nat.le_of_ble_eq_true rfl) ⟨by decide, by decide⟩ ⟨by decide, by decide⟩ ?_
    refine S_X9_digitOf.mono hy (fun z5 h6 hy => ?_)
    obtain ⟨p7, hy⟩ := hy
    refine ww_if_ge C (tg := 29) dX9_areDigits_24 (by decide) p7 (fun c8 => ?_) (fun c8 => ?_)
    · have hy := hy.1 c8
      refine ww_iinc C 4 3 rfl (by decide) rfl dX9_areDigits_29 ?_
      refine ww_goto C (tg := 10) dX9_areDigits_32 (by decide) ?_
      exact ww_sub [1, 2, 3, 0] rfl (by decide) (by decide) hy
    · have hy := hy.2 c8
      refine ww_iconst C (z := 0) dX9_areDigits_27 rfl ?_
      obtain ⟨p9, hy⟩ := hy
      exact ww_zret C E dX9_areDigits_28 (nz_b p9) (by decide) (by decide) ⟨_, rfl, rfl, hy⟩
abbrev X9_digits_w0 (G : xG) (k : xK) (x0 : Nat) (x1 : Nat) (x2 : Int) (x3 : Int) (x4 : Int) (n : Nat) (h : xH) : Prop := WW G k 9 0 0 0 [(0, rf G x0), (1, rf G x1), (2, .int (iz x2)), (3, .int (iz x3)), (4, .int (iz x4))] [] n h
abbrev X9_digits_w3 (G : xG) (k : xK) (x0 : Nat) (x1 : Nat) (x3 : Int) (x4 : Int) (x5 : Int) (n : Nat) (h : xH) : Prop := WW G k 9 0 0 3 [(0, rf G x0), (1, rf G x1), (3, .int (iz x3)), (4, .int (iz x4)), (5, .int (iz x5))] [] n h
abbrev X9_digits_w33 (G : xG) (k : xK) (x0 : Nat) (x1 : Nat) (x3 : Int) (x4 : Int) (x5 : Int) (n : Nat) (h : xH) : Prop := WW G k 9 0 0 33 [(0, rf G x0), (1, rf G x1), (3, .int (iz x3)), (4, .int (iz x4)), (5, .int (iz x5))] [] n h
abbrev X9_digits_w27 (G : xG) (k : xK) (x0 : Nat) (x1 : Nat) (x3 : Int) (x4 : Int) (x5 : Int) (n : Nat) (h : xH) : Prop := WW G k 9 0 0 27 [(0, rf G x0), (1, rf G x1), (3, .int (iz x3)), (4, .int (iz x4)), (5, .int (iz x5))] [] n h
abbrev X9_digits_w102 (G : xG) (k : xK) (x0 : Nat) (x1 : Nat) (x3 : Int) (x4 : Int) (x6 : Int) (x7 : Int) (n : Nat) (h : xH) : Prop := WW G k 9 0 0 102 [(0, rf G x0), (1, rf G x1), (3, .int (iz x3)), (4, .int (iz x4)), (6, .int (iz x6)), (7, .int (iz x7))] [] n h
abbrev X9_digits_w49 (G : xG) (k : xK) (x1 : Nat) (x3 : Int) (x4 : Int) (x6 : Int) (x8 : Int) (n : Nat) (h : xH) : Prop := WW G k 9 0 0 49 [(1, rf G x1), (3, .int (iz x3)), (4, .int (iz x4)), (6, .long (lz x6)), (8, .int (iz x8))] [] n h
abbrev X9_digits_w139 (G : xG) (k : xK) (x0 : Nat) (x1 : Nat) (x3 : Int) (x4 : Int) (x6 : Int) (x7 : Int) (n : Nat) (h : xH) : Prop := WW G k 9 0 0 139 [(0, rf G x0), (1, rf G x1), (3, .int (iz x3)), (4, .int (iz x4)), (6, .int (iz x6)), (7, .int (iz x7))] [] n h
abbrev X9_digits_w83 (G : xG) (k : xK) (x1 : Nat) (x3 : Int) (x4 : Int) (x6 : Int) (x8 : Int) (n : Nat) (h : xH) : Prop := WW G k 9 0 0 83 [(1, rf G x1), (3, .int (iz x3)), (4, .int (iz x4)), (6, .long (lz x6)), (8, .int (iz x8))] [] n h
theorem S_X9_digits_of {G : xG} {l : Launch} {x0 : Nat} {x1 : Nat} {x2 : Int} {x3 : Int} {x4 : Int} {n : Nat} {h : xH} {Po : Nat → Nat → xH → Prop} (body : ∀ k : xK, kl k = l → CC G k cX9_digits RX9 9 rm_X9_digits → CQ G k (some (.object "DoubleTextsModel$Whole")) rm_X9_digits (fun r n1 h1 => ∃ z : Nat, r = some (rf G z) ∧ Po z n1 h1) → X9_digits_w0 G k x0 x1 x2 x3 x4 n h) : S_X9_digits G l x0 x1 x2 x3 x4 n h Po := xS_of (by decide +kernel) (Nat.le_of_ble_eq_true rfl) rfl (fun k hl hnm C E => body k hl C E)
set_option maxRecDepth 100000 in
set_option maxHeartbeats 4000000 in
theorem X9_digits_b0 {G : xG} {k : xK} {n0 : Nat} {Po : Nat → Nat → xH → Prop} (C : CC G k cX9_digits RX9 9 rm_X9_digits) (E : CQ G k (some (.object "DoubleTextsModel$Whole")) rm_X9_digits (fun r n1 h1 => ∃ z : Nat, r = some (rf G z) ∧ Po z n1 h1)) (x0 : Nat) (x1 : Nat) (x2 : Int) (x3 : Int) (x4 : Int) (n : Nat) (h : xH) (hy : X9_digits_w3 G k x0 x1 x3 x4 x2 n h) : X9_digits_w0 G k x0 x1 x2 x3 x4 n h := by
  refine ww_iload_n C 2 2 rfl rfl dX9_digits_0 ?_
  refine ww_istore C 5 (by decide) rfl dX9_digits_1 ?_
  exact ww_sub [1, 2, 4, 5, 0] rfl (by decide) (by decide) hy
set_option maxRecDepth 100000 in
set_option maxHeartbeats 4000000 in
theorem X9_digits_b3 {G : xG} {k : xK} {n0 : Nat} {Po : Nat → Nat → xH → Prop} (C : CC G k cX9_digits RX9 9 rm_X9_digits) (E : CQ G k (some (.object "DoubleTextsModel$Whole")) rm_X9_digits (fun r n1 h1 => ∃ z : Nat, r = some (rf G z) ∧ Po z n1 h1)) (x0 : Nat) (x1 : Nat) (x3 : Int) (x4 : Int) (x5 : Int) (n : Nat) (h : xH) (hy : (rg x5 ∧ rg x3) ∧ ((x3 ≤ x5 → X9_digits_w33 G k x0 x1 x3 x4 x5 n h) ∧ (¬ x3 ≤ x5 → okA n h x1 100 x5 ∧ (rg (hG h x1 (x5.toNat)) ∧ rg (48 : Int)) ∧ (((hG h x1 (x5.toNat)) = (48 : Int) → X9_digits_w27 G k x0 x1 x3 x4 x5 n h) ∧ (¬ (hG h x1 (x5.toNat)) = (48 : Int) → okA n h x1 100 x5 ∧ (rg (hG h x1 (x5.toNat)) ∧ rg (46 : Int)) ∧ ((¬ (hG h x1 (x5.toNat)) = (46 : Int) → X9_digits_w33 G k x0 x1 x3 x4 x5 n h) ∧ ((hG h x1 (x5.toNat)) = (46 : Int) → X9_digits_w27 G k x0 x1 x3 x4 x5 n h))))))) : X9_digits_w3 G k x0 x1 x3 x4 x5 n h := by
  refine ww_iload C 5 4 rfl dX9_digits_3 ?_
  refine ww_iload_n C 3 2 rfl rfl dX9_digits_5 ?_
  obtain ⟨p1, hy⟩ := hy
  refine ww_icmp_ge C (tg := 33) dX9_digits_6 (by decide) p1.1 p1.2 (fun c2 => ?_) (fun c2 => ?_)
  · have hy := hy.1 c2
    exact ww_sub [0, 1, 2, 3, 4] rfl (by decide) (by decide) hy
  · have hy := hy.2 c2
    refine ww_aload_n C 1 1 rfl rfl dX9_digits_9 ?_
    refine ww_iload C 5 4 rfl dX9_digits_10 ?_
    obtain ⟨p3, hy⟩ := hy
    refine ww_iald C dX9_digits_12 p3 ?_
    refine ww_bipush C (z := 48) dX9_digits_13 rfl ?_
    obtain ⟨p4, hy⟩ := hy
    refine ww_icmp_eq C (tg := 27) dX9_digits_15 (by decide) p4.1 p4.2 (fun c5 => ?_) (fun c5 => ?_)
    · have hy := hy.1 c5
      exact ww_sub [0, 1, 2, 3, 4] rfl (by decide) (by decide) hy
    · have hy := hy.2 c5
      refine ww_aload_n C 1 1 rfl rfl dX9_digits_18 ?_
      refine ww_iload C 5 4 rfl dX9_digits_19 ?_
      obtain ⟨p6, hy⟩ := hy
      refine ww_iald C dX9_digits_21 p6 ?_
      refine ww_bipush C (z := 46) dX9_digits_22 rfl ?_
      obtain ⟨p7, hy⟩ := hy
      refine ww_icmp_ne C (tg := 33) dX9_digits_24 (by decide) p7.1 p7.2 (fun c8 => ?_) (fun c8 => ?_)
      · have hy := hy.1 c8
        exact ww_sub [0, 1, 2, 3, 4] rfl (by decide) (by decide) hy
      · have hy := hy.2 c8
        exact ww_sub [0, 1, 2, 3, 4] rfl (by decide) (by decide) hy
set_option maxRecDepth 100000 in
set_option maxHeartbeats 4000000 in
theorem X9_digits_b33 {G : xG} {k : xK} {n0 : Nat} {Po : Nat → Nat → xH → Prop} (C : CC G k cX9_digits RX9 9 rm_X9_digits) (E : CQ G k (some (.object "DoubleTextsModel$Whole")) rm_X9_digits (fun r n1 h1 => ∃ z : Nat, r = some (rf G z) ∧ Po z n1 h1)) (x0 : Nat) (x1 : Nat) (x3 : Int) (x4 : Int) (x5 : Int) (n : Nat) (h : xH) (hy : (rg (x3 - x5) ∧ rg (16 : Int)) ∧ (((16 : Int) ≤ (x3 - x5) → X9_digits_w102 G k x0 x1 x3 x4 0 x5 n h) ∧ (¬ (16 : Int) ≤ (x3 - x5) → X9_digits_w49 G k x1 x3 x4 0 x5 n h))) : X9_digits_w33 G k x0 x1 x3 x4 x5 n h := by
  refine ww_iload_n C 3 2 rfl rfl dX9_digits_33 ?_
  refine ww_iload C 5 4 rfl dX9_digits_34 ?_
  refine ww_isub C dX9_digits_36 ?_
  refine ww_bipush C (z := 16) dX9_digits_37 rfl ?_
  obtain ⟨p1, hy⟩ := hy
  refine ww_icmp_ge C (tg := 95) dX9_digits_39 (by decide) p1.1 p1.2 (fun c2 => ?_) (fun c2 => ?_)
  · have hy := hy.1 c2
    refine ww_iconst C (z := 0) dX9_digits_95 rfl ?_
    refine ww_istore C 6 (by decide) rfl dX9_digits_96 ?_
    refine ww_iload C 5 5 rfl dX9_digits_98 ?_
    refine ww_istore C 7 (by decide) rfl dX9_digits_100 ?_
    exact ww_sub [2, 3, 4, 5, 1, 0] rfl (by decide) (by decide) hy
  · have hy := hy.2 c2
    refine ww_lconst C (z := 0) dX9_digits_42 rfl ?_
    refine ww_lstore C 6 (by decide) rfl dX9_digits_43 ?_
    refine ww_iload C 5 5 rfl dX9_digits_45 ?_
    refine ww_istore C 8 (by decide) rfl dX9_digits_47 ?_
    exact ww_sub [3, 4, 5, 1, 0] rfl (by decide) (by decide) hy
set_option maxRecDepth 100000 in
set_option maxHeartbeats 4000000 in
theorem X9_digits_b27 {G : xG} {k : xK} {n0 : Nat} {Po : Nat → Nat → xH → Prop} (C : CC G k cX9_digits RX9 9 rm_X9_digits) (E : CQ G k (some (.object "DoubleTextsModel$Whole")) rm_X9_digits (fun r n1 h1 => ∃ z : Nat, r = some (rf G z) ∧ Po z n1 h1)) (x0 : Nat) (x1 : Nat) (x3 : Int) (x4 : Int) (x5 : Int) (n : Nat) (h : xH) (hy : X9_digits_w3 G k x0 x1 x3 x4 (x5 + 1) n h) : X9_digits_w27 G k x0 x1 x3 x4 x5 n h := by
  refine ww_iinc C 5 4 rfl (by decide) rfl dX9_digits_27 ?_
  refine ww_goto C (tg := 3) dX9_digits_30 (by decide) ?_
  exact ww_sub [1, 2, 3, 4, 0] rfl (by decide) (by decide) hy
set_option maxRecDepth 100000 in
set_option maxHeartbeats 4000000 in
theorem X9_digits_b102 {G : xG} {k : xK} {n0 : Nat} {Po : Nat → Nat → xH → Prop} (C : CC G k cX9_digits RX9 9 rm_X9_digits) (E : CQ G k (some (.object "DoubleTextsModel$Whole")) rm_X9_digits (fun r n1 h1 => ∃ z : Nat, r = some (rf G z) ∧ Po z n1 h1)) (x0 : Nat) (x1 : Nat) (x3 : Int) (x4 : Int) (x6 : Int) (x7 : Int) (n : Nat) (h : xH) (hy : (rg x7 ∧ rg x3) ∧ ((x3 ≤ x7 → okO n h x0 8 ∧ 0 ≤ hG h x0 7 ∧ S_X9_wholeOf G (kl k) 1 ((hG h x0 7).toNat) x6 n h (fun z5 n7 h6 => Po z5 n7 h6)) ∧ (¬ x3 ≤ x7 → okA n h x1 100 x7 ∧ (rg (hG h x1 (x7.toNat)) ∧ rg (46 : Int)) ∧ (((hG h x1 (x7.toNat)) = (46 : Int) → X9_digits_w139 G k x0 x1 x3 x4 x6 x7 n h) ∧ (¬ (hG h x1 (x7.toNat)) = (46 : Int) → okO n h x0 8 ∧ 0 ≤ hG h x0 7 ∧ okA n h x1 100 x7 ∧ S_X9_digitOf G (kl k) (hG h x1 (x7.toNat)) x4 n h (fun z14 h15 => S_X9_scale G (kl k) ((hG h x0 7).toNat) x6 x4 z14 n h15 (fun z16 h17 => X9_digits_w139 G k x0 x1 x3 x4 z16 x7 n h17))))))) : X9_digits_w102 G k x0 x1 x3 x4 x6 x7 n h := by
  refine ww_iload C 7 5 rfl dX9_digits_102 ?_
  refine ww_iload_n C 3 2 rfl rfl dX9_digits_104 ?_
  obtain ⟨p1, hy⟩ := hy
  refine ww_icmp_ge C (tg := 145) dX9_digits_105 (by decide) p1.1 p1.2 (fun c2 => ?_) (fun c2 => ?_)
  · have hy := hy.1 c2
    refine ww_iconst C (z := 1) dX9_digits_145 rfl ?_
    refine ww_aload_n C 0 0 rfl rfl dX9_digits_146 ?_
    obtain ⟨p3, hy⟩ := hy
    obtain ⟨p4, hy⟩ := hy
    refine gf_X9_312 C dX9_digits_147 p3 p4 ?_
    refine ww_iload C 6 4 rfl dX9_digits_150 ?_
    refine cl_X9_173 C dX9_digits_152 (Nat.le_of_ble_eq_true rfl) ⟨by decide, by decide⟩ ⟨by decide, by decide⟩ ?_
    refine S_X9_wholeOf.mono hy (fun z5 n7 h6 hy => ?_)
    exact ww_aretR C E (Or.inl ⟨_, rfl⟩) dX9_digits_155 (by decide) (by decide) ⟨_, rfl, hy⟩
  · have hy := hy.2 c2
    refine ww_aload_n C 1 1 rfl rfl dX9_digits_108 ?_
    refine ww_iload C 7 5 rfl dX9_digits_109 ?_
    obtain ⟨p8, hy⟩ := hy
    refine ww_iald C dX9_digits_111 p8 ?_
    refine ww_bipush C (z := 46) dX9_digits_112 rfl ?_
    obtain ⟨p9, hy⟩ := hy
    refine ww_icmp_eq C (tg := 139) dX9_digits_114 (by decide) p9.1 p9.2 (fun c10 => ?_) (fun c10 => ?_)
    · have hy := hy.1 c10
      exact ww_sub [0, 1, 2, 3, 4, 5] rfl (by decide) (by decide) hy
    · have hy := hy.2 c10
      refine ww_aload_n C 0 0 rfl rfl dX9_digits_117 ?_
      obtain ⟨p11, hy⟩ := hy
      obtain ⟨p12, hy⟩ := hy
      refine gf_X9_312 C dX9_digits_118 p11 p12 ?_
      refine ww_iload C 6 4 rfl dX9_digits_121 ?_
      refine ww_iload C 4 3 rfl dX9_digits_123 ?_
      refine ww_aload_n C 1 1 rfl rfl dX9_digits_125 ?_
      refine ww_iload C 7 5 rfl dX9_digits_126 ?_
      obtain ⟨p13, hy⟩ := hy
      refine ww_iald C dX9_digits_128 p13 ?_
      refine ww_iload C 4 3 rfl dX9_digits_129 ?_
      refine cl_X9_309 C dX9_digits_131 (Nat.le_of_ble_eq_true rfl) ⟨by decide, by decide⟩ ⟨by decide, by decide⟩ ?_
      refine S_X9_digitOf.mono hy (fun z14 h15 hy => ?_)
      refine cl_X9_31 C dX9_digits_134 (Nat.le_of_ble_eq_true rfl) ⟨by decide, by decide⟩ ⟨by decide, by decide⟩ ?_
      refine S_X9_scale.mono hy (fun z16 h17 hy => ?_)
      refine ww_istore C 6 (by decide) rfl dX9_digits_137 ?_
      exact ww_sub [1, 2, 3, 4, 0, 5] rfl (by decide) (by decide) hy
set_option maxRecDepth 100000 in
set_option maxHeartbeats 4000000 in
theorem X9_digits_b49 {G : xG} {k : xK} {n0 : Nat} {Po : Nat → Nat → xH → Prop} (C : CC G k cX9_digits RX9 9 rm_X9_digits) (E : CQ G k (some (.object "DoubleTextsModel$Whole")) rm_X9_digits (fun r n1 h1 => ∃ z : Nat, r = some (rf G z) ∧ Po z n1 h1)) (x1 : Nat) (x3 : Int) (x4 : Int) (x6 : Int) (x8 : Int) (n : Nat) (h : xH) (hy : (rg x8 ∧ rg x3) ∧ ((x3 ≤ x8 → S_X9_whole G (kl k) x6 n h (fun z3 n5 h4 => Po z3 n5 h4)) ∧ (¬ x3 ≤ x8 → okA n h x1 100 x8 ∧ (rg (hG h x1 (x8.toNat)) ∧ rg (46 : Int)) ∧ (((hG h x1 (x8.toNat)) = (46 : Int) → X9_digits_w83 G k x1 x3 x4 x6 x8 n h) ∧ (¬ (hG h x1 (x8.toNat)) = (46 : Int) → rg x4 ∧ okA n h x1 100 x8 ∧ S_X9_digitOf G (kl k) (hG h x1 (x8.toNat)) x4 n h (fun z11 h12 => rg z11 ∧ X9_digits_w83 G k x1 x3 x4 ((x6 * x4) + z11) x8 n h12)))))) : X9_digits_w49 G k x1 x3 x4 x6 x8 n h := by
  refine ww_iload C 8 4 rfl dX9_digits_49 ?_
  refine ww_iload_n C 3 1 rfl rfl dX9_digits_51 ?_
  obtain ⟨p1, hy⟩ := hy
  refine ww_icmp_ge C (tg := 89) dX9_digits_52 (by decide) p1.1 p1.2 (fun c2 => ?_) (fun c2 => ?_)
  · have hy := hy.1 c2
    refine ww_lload C 6 3 rfl dX9_digits_89 ?_
    refine cl_X9_163 C dX9_digits_91 (Nat.le_of_ble_eq_true rfl) ⟨by decide, by decide⟩ ⟨by decide, by decide⟩ ?_
    refine S_X9_whole.mono hy (fun z3 n5 h4 hy => ?_)
    exact ww_aretR C E (Or.inl ⟨_, rfl⟩) dX9_digits_94 (by decide) (by decide) ⟨_, rfl, hy⟩
  · have hy := hy.2 c2
    refine ww_aload_n C 1 0 rfl rfl dX9_digits_55 ?_
    refine ww_iload C 8 4 rfl dX9_digits_56 ?_
    obtain ⟨p6, hy⟩ := hy
    refine ww_iald C dX9_digits_58 p6 ?_
    refine ww_bipush C (z := 46) dX9_digits_59 rfl ?_
    obtain ⟨p7, hy⟩ := hy
    refine ww_icmp_eq C (tg := 83) dX9_digits_61 (by decide) p7.1 p7.2 (fun c8 => ?_) (fun c8 => ?_)
    · have hy := hy.1 c8
      exact ww_sub [0, 1, 2, 3, 4] rfl (by decide) (by decide) hy
    · have hy := hy.2 c8
      refine ww_lload C 6 3 rfl dX9_digits_64 ?_
      refine ww_iload C 4 2 rfl dX9_digits_66 ?_
      obtain ⟨p9, hy⟩ := hy
      refine ww_i2l C dX9_digits_68 p9 ?_
      refine ww_lmul C dX9_digits_69 ?_
      refine ww_aload_n C 1 0 rfl rfl dX9_digits_70 ?_
      refine ww_iload C 8 4 rfl dX9_digits_71 ?_
      obtain ⟨p10, hy⟩ := hy
      refine ww_iald C dX9_digits_73 p10 ?_
      refine ww_iload C 4 2 rfl dX9_digits_74 ?_
      refine cl_X9_309 C dX9_digits_76 (Nat.le_of_ble_eq_true rfl) ⟨by decide, by decide⟩ ⟨by decide, by decide⟩ ?_
      refine S_X9_digitOf.mono hy (fun z11 h12 hy => ?_)
      obtain ⟨p13, hy⟩ := hy
      refine ww_i2l C dX9_digits_79 p13 ?_
      refine ww_ladd C dX9_digits_80 ?_
      refine ww_lstore C 6 (by decide) rfl dX9_digits_81 ?_
      exact ww_sub [1, 2, 3, 0, 4] rfl (by decide) (by decide) hy
set_option maxRecDepth 100000 in
set_option maxHeartbeats 4000000 in
theorem X9_digits_b139 {G : xG} {k : xK} {n0 : Nat} {Po : Nat → Nat → xH → Prop} (C : CC G k cX9_digits RX9 9 rm_X9_digits) (E : CQ G k (some (.object "DoubleTextsModel$Whole")) rm_X9_digits (fun r n1 h1 => ∃ z : Nat, r = some (rf G z) ∧ Po z n1 h1)) (x0 : Nat) (x1 : Nat) (x3 : Int) (x4 : Int) (x6 : Int) (x7 : Int) (n : Nat) (h : xH) (hy : X9_digits_w102 G k x0 x1 x3 x4 x6 (x7 + 1) n h) : X9_digits_w139 G k x0 x1 x3 x4 x6 x7 n h := by
  refine ww_iinc C 7 5 rfl (by decide) rfl dX9_digits_139 ?_
  refine ww_goto C (tg := 102) dX9_digits_142 (by decide) ?_
  exact ww_sub [1, 2, 3, 4, 5, 0] rfl (by decide) (by decide) hy
set_option maxRecDepth 100000 in
set_option maxHeartbeats 4000000 in
theorem X9_digits_b83 {G : xG} {k : xK} {n0 : Nat} {Po : Nat → Nat → xH → Prop} (C : CC G k cX9_digits RX9 9 rm_X9_digits) (E : CQ G k (some (.object "DoubleTextsModel$Whole")) rm_X9_digits (fun r n1 h1 => ∃ z : Nat, r = some (rf G z) ∧ Po z n1 h1)) (x1 : Nat) (x3 : Int) (x4 : Int) (x6 : Int) (x8 : Int) (n : Nat) (h : xH) (hy : X9_digits_w49 G k x1 x3 x4 x6 (x8 + 1) n h) : X9_digits_w83 G k x1 x3 x4 x6 x8 n h := by
  refine ww_iinc C 8 4 rfl (by decide) rfl dX9_digits_83 ?_
  refine ww_goto C (tg := 49) dX9_digits_86 (by decide) ?_
  exact ww_sub [1, 2, 3, 4, 0] rfl (by decide) (by decide) hy
abbrev X9_decimal_w0 (G : xG) (k : xK) (x0 : Nat) (x1 : Nat) (x2 : Int) (x3 : Int) (x4 : Int) (x5 : Int) (n : Nat) (h : xH) : Prop := WW G k 19 0 0 0 [(0, rf G x0), (1, rf G x1), (2, .int (iz x2)), (3, .int (iz x3)), (4, .int (iz x4)), (5, .int (iz x5))] [] n h
abbrev X9_decimal_w9 (G : xG) (k : xK) (x0 : Nat) (x1 : Nat) (x2 : Int) (x3 : Int) (x4 : Int) (x5 : Int) (x6 : Int) (x7 : Int) (x8 : Int) (n : Nat) (h : xH) : Prop := WW G k 19 0 0 9 [(0, rf G x0), (1, rf G x1), (2, .int (iz x2)), (3, .int (iz x3)), (4, .int (iz x4)), (5, .int (iz x5)), (6, .int (iz x6)), (7, .int (iz x7)), (8, .int (iz x8))] [] n h
abbrev X9_decimal_w77 (G : xG) (k : xK) (x0 : Nat) (x1 : Nat) (x2 : Int) (x3 : Int) (x4 : Int) (x5 : Int) (x6 : Int) (x7 : Int) (x8 : Int) (n : Nat) (h : xH) : Prop := WW G k 19 0 0 77 [(0, rf G x0), (1, rf G x1), (2, .int (iz x2)), (3, .int (iz x3)), (4, .int (iz x4)), (5, .int (iz x5)), (6, .int (iz x6)), (7, .int (iz x7)), (8, .int (iz x8))] [] n h
abbrev X9_decimal_w54 (G : xG) (k : xK) (x0 : Nat) (x1 : Nat) (x2 : Int) (x3 : Int) (x4 : Int) (x5 : Int) (x6 : Int) (x7 : Int) (x8 : Int) (n : Nat) (h : xH) : Prop := WW G k 19 0 0 54 [(0, rf G x0), (1, rf G x1), (2, .int (iz x2)), (3, .int (iz x3)), (4, .int (iz x4)), (5, .int (iz x5)), (6, .int (iz x6)), (7, .int (iz x7)), (8, .int (iz x8))] [] n h
abbrev X9_decimal_w71 (G : xG) (k : xK) (x0 : Nat) (x1 : Nat) (x2 : Int) (x3 : Int) (x4 : Int) (x5 : Int) (x6 : Int) (x7 : Int) (x8 : Int) (n : Nat) (h : xH) : Prop := WW G k 19 0 0 71 [(0, rf G x0), (1, rf G x1), (2, .int (iz x2)), (3, .int (iz x3)), (4, .int (iz x4)), (5, .int (iz x5)), (6, .int (iz x6)), (7, .int (iz x7)), (8, .int (iz x8))] [] n h
abbrev X9_decimal_w222 (G : xG) (k : xK) (x0 : Nat) (x1 : Nat) (x2 : Int) (x4 : Int) (x5 : Int) (x6 : Int) (x7 : Int) (x9 : Int) (n : Nat) (h : xH) : Prop := WW G k 19 0 0 222 [(0, rf G x0), (1, rf G x1), (2, .int (iz x2)), (4, .int (iz x4)), (5, .int (iz x5)), (6, .int (iz x6)), (7, .int (iz x7)), (9, .int (iz x9))] [] n h
abbrev X9_decimal_w127 (G : xG) (k : xK) (x0 : Nat) (x1 : Nat) (x2 : Int) (x3 : Int) (x4 : Int) (x5 : Int) (x6 : Int) (x7 : Int) (x9 : Int) (n : Nat) (h : xH) : Prop := WW G k 19 0 0 127 [(0, rf G x0), (1, rf G x1), (2, .int (iz x2)), (3, .int (iz x3)), (4, .int (iz x4)), (5, .int (iz x5)), (6, .int (iz x6)), (7, .int (iz x7)), (9, .int (iz x9))] [] n h
abbrev X9_decimal_w123 (G : xG) (k : xK) (x0 : Nat) (x1 : Nat) (x2 : Int) (x3 : Int) (x4 : Int) (x5 : Int) (x6 : Int) (x7 : Int) (x9 : Int) (n : Nat) (h : xH) : Prop := WW G k 19 0 0 123 [(0, rf G x0), (1, rf G x1), (2, .int (iz x2)), (3, .int (iz x3)), (4, .int (iz x4)), (5, .int (iz x5)), (6, .int (iz x6)), (7, .int (iz x7)), (9, .int (iz x9))] [] n h
abbrev X9_decimal_w225 (G : xG) (k : xK) (x0 : Nat) (x1 : Nat) (x4 : Int) (x5 : Int) (x6 : Int) (x7 : Int) (x9 : Int) (x10 : Int) (n : Nat) (h : xH) : Prop := WW G k 19 0 0 225 [(0, rf G x0), (1, rf G x1), (4, .int (iz x4)), (5, .int (iz x5)), (6, .int (iz x6)), (7, .int (iz x7)), (9, .int (iz x9)), (10, .int (iz x10))] [] n h
abbrev X9_decimal_w128 (G : xG) (k : xK) (x0 : Nat) (x1 : Nat) (x2 : Int) (x3 : Int) (x4 : Int) (x5 : Int) (x6 : Int) (x7 : Int) (x9 : Int) (s0 : Int) (n : Nat) (h : xH) : Prop := WW G k 19 0 0 128 [(0, rf G x0), (1, rf G x1), (2, .int (iz x2)), (3, .int (iz x3)), (4, .int (iz x4)), (5, .int (iz x5)), (6, .int (iz x6)), (7, .int (iz x7)), (9, .int (iz x9))] [.int (iz s0)] n h
abbrev X9_decimal_w256 (G : xG) (k : xK) (x0 : Nat) (x1 : Nat) (x4 : Int) (x5 : Int) (x6 : Int) (x7 : Int) (x9 : Int) (x10 : Int) (n : Nat) (h : xH) : Prop := WW G k 19 0 0 256 [(0, rf G x0), (1, rf G x1), (4, .int (iz x4)), (5, .int (iz x5)), (6, .int (iz x6)), (7, .int (iz x7)), (9, .int (iz x9)), (10, .int (iz x10))] [] n h
abbrev X9_decimal_w250 (G : xG) (k : xK) (x0 : Nat) (x1 : Nat) (x4 : Int) (x5 : Int) (x6 : Int) (x7 : Int) (x9 : Int) (x10 : Int) (n : Nat) (h : xH) : Prop := WW G k 19 0 0 250 [(0, rf G x0), (1, rf G x1), (4, .int (iz x4)), (5, .int (iz x5)), (6, .int (iz x6)), (7, .int (iz x7)), (9, .int (iz x9)), (10, .int (iz x10))] [] n h
abbrev X9_decimal_w146 (G : xG) (k : xK) (x0 : Nat) (x1 : Nat) (x2 : Int) (x3 : Int) (x4 : Int) (x5 : Int) (x6 : Int) (x7 : Int) (x9 : Int) (x10 : Int) (s0 : Int) (n : Nat) (h : xH) : Prop := WW G k 19 0 0 146 [(0, rf G x0), (1, rf G x1), (2, .int (iz x2)), (3, .int (iz x3)), (4, .int (iz x4)), (5, .int (iz x5)), (6, .int (iz x6)), (7, .int (iz x7)), (9, .int (iz x9)), (10, .int (iz x10))] [.int (iz s0)] n h
abbrev X9_decimal_w260 (G : xG) (k : xK) (x0 : Nat) (x1 : Nat) (x4 : Int) (x5 : Int) (x6 : Int) (x7 : Int) (x9 : Int) (x10 : Int) (x11 : Int) (n : Nat) (h : xH) : Prop := WW G k 19 0 0 260 [(0, rf G x0), (1, rf G x1), (4, .int (iz x4)), (5, .int (iz x5)), (6, .int (iz x6)), (7, .int (iz x7)), (9, .int (iz x9)), (10, .int (iz x10)), (11, .int (iz x11))] [] n h
abbrev X9_decimal_w168 (G : xG) (k : xK)  (n : Nat) (h : xH) : Prop := WW G k 19 0 0 168 [] [] n h
abbrev X9_decimal_w174 (G : xG) (k : xK) (x0 : Nat) (x1 : Nat) (x2 : Int) (x3 : Int) (x4 : Int) (x5 : Int) (x6 : Int) (x7 : Int) (x9 : Int) (x10 : Int) (x12 : Int) (n : Nat) (h : xH) : Prop := WW G k 19 0 0 174 [(0, rf G x0), (1, rf G x1), (2, .int (iz x2)), (3, .int (iz x3)), (4, .int (iz x4)), (5, .int (iz x5)), (6, .int (iz x6)), (7, .int (iz x7)), (9, .int (iz x9)), (10, .int (iz x10)), (12, .int (iz x12))] [] n h
abbrev X9_decimal_w295 (G : xG) (k : xK) (x0 : Nat) (x1 : Nat) (x4 : Int) (x5 : Int) (x6 : Int) (x7 : Int) (x9 : Int) (x10 : Int) (x11 : Int) (n : Nat) (h : xH) : Prop := WW G k 19 0 0 295 [(0, rf G x0), (1, rf G x1), (4, .int (iz x4)), (5, .int (iz x5)), (6, .int (iz x6)), (7, .int (iz x7)), (9, .int (iz x9)), (10, .int (iz x10)), (11, .int (iz x11))] [] n h
abbrev X9_decimal_w289 (G : xG) (k : xK) (x0 : Nat) (x1 : Nat) (x4 : Int) (x5 : Int) (x6 : Int) (x7 : Int) (x9 : Int) (x10 : Int) (x11 : Int) (n : Nat) (h : xH) : Prop := WW G k 19 0 0 289 [(0, rf G x0), (1, rf G x1), (4, .int (iz x4)), (5, .int (iz x5)), (6, .int (iz x6)), (7, .int (iz x7)), (9, .int (iz x9)), (10, .int (iz x10)), (11, .int (iz x11))] [] n h
abbrev X9_decimal_w307 (G : xG) (k : xK) (x0 : Nat) (x1 : Nat) (x4 : Int) (x5 : Int) (x7 : Int) (x9 : Int) (x10 : Int) (x11 : Int) (s0 : Int) (n : Nat) (h : xH) : Prop := WW G k 19 0 0 307 [(0, rf G x0), (1, rf G x1), (4, .int (iz x4)), (5, .int (iz x5)), (7, .int (iz x7)), (9, .int (iz x9)), (10, .int (iz x10)), (11, .int (iz x11))] [.int (iz s0)] n h
abbrev X9_decimal_w333 (G : xG) (k : xK) (x0 : Nat) (x1 : Nat) (x4 : Int) (x5 : Int) (x7 : Int) (x10 : Int) (x11 : Int) (s0 : Int) (s1 : Int) (n : Nat) (h : xH) : Prop := WW G k 19 0 0 333 [(0, rf G x0), (1, rf G x1), (4, .int (iz x4)), (5, .int (iz x5)), (7, .int (iz x7)), (10, .int (iz x10)), (11, .int (iz x11))] [.int (iz s0), .int (iz s1)] n h
abbrev X9_decimal_w359 (G : xG) (k : xK) (x0 : Nat) (x1 : Nat) (x4 : Int) (x5 : Int) (x10 : Int) (x11 : Int) (x13 : Int) (s0 : Int) (n : Nat) (h : xH) : Prop := WW G k 19 0 0 359 [(0, rf G x0), (1, rf G x1), (4, .int (iz x4)), (5, .int (iz x5)), (10, .int (iz x10)), (11, .int (iz x11)), (13, .int (iz x13))] [.int (iz s0)] n h
abbrev X9_decimal_w360 (G : xG) (k : xK) (x0 : Nat) (x1 : Nat) (x4 : Int) (x5 : Int) (x10 : Int) (x11 : Int) (x13 : Int) (s0 : Int) (s1 : Int) (n : Nat) (h : xH) : Prop := WW G k 19 0 0 360 [(0, rf G x0), (1, rf G x1), (4, .int (iz x4)), (5, .int (iz x5)), (10, .int (iz x10)), (11, .int (iz x11)), (13, .int (iz x13))] [.int (iz s0), .int (iz s1)] n h
abbrev X9_decimal_w482 (G : xG) (k : xK)  (n : Nat) (h : xH) : Prop := WW G k 19 0 0 482 [] [] n h
abbrev X9_decimal_w484 (G : xG) (k : xK) (x0 : Nat) (x1 : Nat) (x4 : Int) (x5 : Int) (x10 : Int) (x11 : Int) (x13 : Int) (n : Nat) (h : xH) : Prop := WW G k 19 0 0 484 [(0, rf G x0), (1, rf G x1), (4, .int (iz x4)), (5, .int (iz x5)), (10, .int (iz x10)), (11, .int (iz x11)), (13, .int (iz x13))] [] n h
abbrev X9_decimal_w456 (G : xG) (k : xK) (s0 : UInt64) (n : Nat) (h : xH) : Prop := WW G k 19 0 0 456 [] [.double s0] n h
abbrev X9_decimal_w429 (G : xG) (k : xK) (s0 : UInt64) (n : Nat) (h : xH) : Prop := WW G k 19 0 0 429 [] [.double s0] n h
abbrev X9_decimal_w393 (G : xG) (k : xK) (s0 : UInt64) (n : Nat) (h : xH) : Prop := WW G k 19 0 0 393 [] [.double s0] n h
abbrev X9_decimal_w396 (G : xG) (k : xK) (s0 : Nat) (n : Nat) (h : xH) : Prop := WW G k 19 2 2 396 [] [rf G s0] n h
abbrev X9_decimal_w514 (G : xG) (k : xK) (x0 : Nat) (x4 : Int) (x5 : Int) (x13 : Int) (x15 : Nat) (s0 : Nat) (n : Nat) (h : xH) : Prop := WW G k 19 2 442 514 [(0, rf G x0), (4, .int (iz x4)), (5, .int (iz x5)), (13, .int (iz x13)), (15, rf G x15)] [rf G s0] n h
abbrev X9_decimal_w533 (G : xG) (k : xK) (x0 : Nat) (x4 : Int) (x5 : Int) (x13 : Int) (x15 : Nat) (s0 : Int) (s1 : Nat) (s2 : Nat) (n : Nat) (h : xH) : Prop := WW G k 19 2 442 533 [(0, rf G x0), (4, .int (iz x4)), (5, .int (iz x5)), (13, .int (iz x13)), (15, rf G x15)] [.int (iz s0), rf G s1, rf G s2] n h
abbrev X9_decimal_w555 (G : xG) (k : xK) (x0 : Nat) (x4 : Int) (x5 : Int) (x13 : Int) (x15 : Nat) (s0 : Int) (s1 : Nat) (n : Nat) (h : xH) : Prop := WW G k 19 2 442 555 [(0, rf G x0), (4, .int (iz x4)), (5, .int (iz x5)), (13, .int (iz x13)), (15, rf G x15)] [.int (iz s0), rf G s1] n h
abbrev X9_decimal_w568 (G : xG) (k : xK) (x0 : Nat) (x4 : Int) (x5 : Int) (x13 : Int) (x15 : Nat) (s0 : Int) (s1 : Int) (s2 : Nat) (n : Nat) (h : xH) : Prop := WW G k 19 2 442 568 [(0, rf G x0), (4, .int (iz x4)), (5, .int (iz x5)), (13, .int (iz x13)), (15, rf G x15)] [.int (iz s0), .int (iz s1), rf G s2] n h
abbrev X9_decimal_w686 (G : xG) (k : xK) (x5 : Int) (s0 : UInt64) (n : Nat) (h : xH) : Prop := WW G k 19 2 442 686 [(5, .int (iz x5))] [.double s0] n h
abbrev X9_decimal_w619 (G : xG) (k : xK) (x5 : Int) (s0 : Int) (n : Nat) (h : xH) : Prop := WW G k 19 7 1328 619 [(5, .int (iz x5))] [vR G s0] n h
abbrev X9_decimal_w701 (G : xG) (k : xK) (s0 : UInt64) (n : Nat) (h : xH) : Prop := WW G k 19 2 442 701 [] [.double s0] n h
abbrev X9_decimal_w639 (G : xG) (k : xK) (x17 : Int) (n : Nat) (h : xH) : Prop := WW G k 19 7 1328 639 [(17, vR G x17)] [] n h
abbrev X9_decimal_w641 (G : xG) (k : xK) (s0 : Int) (n : Nat) (h : xH) : Prop := WW G k 19 11 1339 641 [] [vR G s0] n h
theorem S_X9_decimal_of {G : xG} {l : Launch} {x0 : Nat} {x1 : Nat} {x2 : Int} {x3 : Int} {x4 : Int} {x5 : Int} {n : Nat} {h : xH} {Po : Int → Nat → xH → Prop} (body : ∀ k : xK, kl k = l → CC G k cX9_decimal RX9 19 rm_X9_decimal → CQ G k (some (.object "DoubleTextsModel$Num")) rm_X9_decimal (fun r n1 h1 => ∃ z : Int, r = some (vR G z) ∧ Po z n1 h1) → X9_decimal_w0 G k x0 x1 x2 x3 x4 x5 n h) : S_X9_decimal G l x0 x1 x2 x3 x4 x5 n h Po := xS_of (by decide +kernel) (Nat.le_of_ble_eq_true rfl) rfl (fun k hl hnm C E => body k hl C E)
set_option maxRecDepth 100000 in
set_option maxHeartbeats 4000000 in
theorem X9_decimal_b0 {G : xG} {k : xK} {n0 : Nat} {Po : Int → Nat → xH → Prop} (C : CC G k cX9_decimal RX9 19 rm_X9_decimal) (E : CQ G k (some (.object "DoubleTextsModel$Num")) rm_X9_decimal (fun r n1 h1 => ∃ z : Int, r = some (vR G z) ∧ Po z n1 h1)) (x0 : Nat) (x1 : Nat) (x2 : Int) (x3 : Int) (x4 : Int) (x5 : Int) (n : Nat) (h : xH) (hy : X9_decimal_w9 G k x0 x1 x2 x3 x4 x5 x2 (-1) 0 n h) : X9_decimal_w0 G k x0 x1 x2 x3 x4 x5 n h := by
  refine ww_iload_n C 2 2 rfl rfl dX9_decimal_0 ?_
  refine ww_istore C 6 (by decide) rfl dX9_decimal_1 ?_
  refine ww_iconst C (z := (-1)) dX9_decimal_3 rfl ?_
  refine ww_istore C 7 (by decide) rfl dX9_decimal_4 ?_
  refine ww_iconst C (z := 0) dX9_decimal_6 rfl ?_
  refine ww_istore C 8 (by decide) rfl dX9_decimal_7 ?_
  exact ww_sub [3, 4, 5, 6, 7, 8, 2, 1, 0] rfl (by decide) (by decide) hy
set_option maxRecDepth 100000 in
set_option maxHeartbeats 4000000 in
theorem X9_decimal_b9 {G : xG} {k : xK} {n0 : Nat} {Po : Int → Nat → xH → Prop} (C : CC G k cX9_decimal RX9 19 rm_X9_decimal) (E : CQ G k (some (.object "DoubleTextsModel$Num")) rm_X9_decimal (fun r n1 h1 => ∃ z : Int, r = some (vR G z) ∧ Po z n1 h1)) (x0 : Nat) (x1 : Nat) (x2 : Int) (x3 : Int) (x4 : Int) (x5 : Int) (x6 : Int) (x7 : Int) (x8 : Int) (n : Nat) (h : xH) (hy : (rg x6 ∧ rg x3) ∧ ((x3 ≤ x6 → X9_decimal_w77 G k x0 x1 x2 x3 x4 x5 x6 x7 x8 n h) ∧ (¬ x3 ≤ x6 → okA n h x1 100 x6 ∧ (rg (hG h x1 (x6.toNat)) ∧ rg (101 : Int)) ∧ (((hG h x1 (x6.toNat)) = (101 : Int) → X9_decimal_w77 G k x0 x1 x2 x3 x4 x5 x6 x7 x8 n h) ∧ (¬ (hG h x1 (x6.toNat)) = (101 : Int) → okA n h x1 100 x6 ∧ (rg (hG h x1 (x6.toNat)) ∧ rg (69 : Int)) ∧ (((hG h x1 (x6.toNat)) = (69 : Int) → X9_decimal_w77 G k x0 x1 x2 x3 x4 x5 x6 x7 x8 n h) ∧ (¬ (hG h x1 (x6.toNat)) = (69 : Int) → okA n h x1 100 x6 ∧ (rg (hG h x1 (x6.toNat)) ∧ rg (46 : Int)) ∧ ((¬ (hG h x1 (x6.toNat)) = (46 : Int) → X9_decimal_w54 G k x0 x1 x2 x3 x4 x5 x6 x7 x8 n h) ∧ ((hG h x1 (x6.toNat)) = (46 : Int) → rg x7 ∧ ((0 ≤ x7 → X9_decimal_w54 G k x0 x1 x2 x3 x4 x5 x6 x7 x8 n h) ∧ (¬ 0 ≤ x7 → X9_decimal_w71 G k x0 x1 x2 x3 x4 x5 x6 x6 x8 n h))))))))))) : X9_decimal_w9 G k x0 x1 x2 x3 x4 x5 x6 x7 x8 n h := by
  refine ww_iload C 6 6 rfl dX9_decimal_9 ?_
  refine ww_iload_n C 3 3 rfl rfl dX9_decimal_11 ?_
  obtain ⟨p1, hy⟩ := hy
  refine ww_icmp_ge C (tg := 77) dX9_decimal_12 (by decide) p1.1 p1.2 (fun c2 => ?_) (fun c2 => ?_)
  · have hy := hy.1 c2
    exact ww_sub [0, 1, 2, 3, 4, 5, 6, 7, 8] rfl (by decide) (by decide) hy
  · have hy := hy.2 c2
    refine ww_aload_n C 1 1 rfl rfl dX9_decimal_15 ?_
    refine ww_iload C 6 6 rfl dX9_decimal_16 ?_
    obtain ⟨p3, hy⟩ := hy
    refine ww_iald C dX9_decimal_18 p3 ?_
    refine ww_bipush C (z := 101) dX9_decimal_19 rfl ?_
    obtain ⟨p4, hy⟩ := hy
    refine ww_icmp_eq C (tg := 77) dX9_decimal_21 (by decide) p4.1 p4.2 (fun c5 => ?_) (fun c5 => ?_)
    · have hy := hy.1 c5
      exact ww_sub [0, 1, 2, 3, 4, 5, 6, 7, 8] rfl (by decide) (by decide) hy
    · have hy := hy.2 c5
      refine ww_aload_n C 1 1 rfl rfl dX9_decimal_24 ?_
      refine ww_iload C 6 6 rfl dX9_decimal_25 ?_
      obtain ⟨p6, hy⟩ := hy
      refine ww_iald C dX9_decimal_27 p6 ?_
      refine ww_bipush C (z := 69) dX9_decimal_28 rfl ?_
      obtain ⟨p7, hy⟩ := hy
      refine ww_icmp_eq C (tg := 77) dX9_decimal_30 (by decide) p7.1 p7.2 (fun c8 => ?_) (fun c8 => ?_)
      · have hy := hy.1 c8
        exact ww_sub [0, 1, 2, 3, 4, 5, 6, 7, 8] rfl (by decide) (by decide) hy
      · have hy := hy.2 c8
        refine ww_aload_n C 1 1 rfl rfl dX9_decimal_33 ?_
        refine ww_iload C 6 6 rfl dX9_decimal_34 ?_
        obtain ⟨p9, hy⟩ := hy
        refine ww_iald C dX9_decimal_36 p9 ?_
        refine ww_bipush C (z := 46) dX9_decimal_37 rfl ?_
        obtain ⟨p10, hy⟩ := hy
        refine ww_icmp_ne C (tg := 54) dX9_decimal_39 (by decide) p10.1 p10.2 (fun c11 => ?_) (fun c11 => ?_)
        · have hy := hy.1 c11
          exact ww_sub [0, 1, 2, 3, 4, 5, 6, 7, 8] rfl (by decide) (by decide) hy
        · have hy := hy.2 c11
          refine ww_iload C 7 7 rfl dX9_decimal_42 ?_
          obtain ⟨p12, hy⟩ := hy
          refine ww_if_ge C (tg := 54) dX9_decimal_44 (by decide) p12 (fun c13 => ?_) (fun c13 => ?_)
          · have hy := hy.1 c13
            exact ww_sub [0, 1, 2, 3, 4, 5, 6, 7, 8] rfl (by decide) (by decide) hy
          · have hy := hy.2 c13
            refine ww_iload C 6 6 rfl dX9_decimal_47 ?_
            refine ww_istore C 7 (by decide) rfl dX9_decimal_49 ?_
            refine ww_goto C (tg := 71) dX9_decimal_51 (by decide) ?_
            exact ww_sub [1, 2, 3, 4, 5, 6, 7, 0, 8] rfl (by decide) (by decide) hy
set_option maxRecDepth 100000 in
set_option maxHeartbeats 4000000 in
theorem X9_decimal_b77 {G : xG} {k : xK} {n0 : Nat} {Po : Int → Nat → xH → Prop} (C : CC G k cX9_decimal RX9 19 rm_X9_decimal) (E : CQ G k (some (.object "DoubleTextsModel$Num")) rm_X9_decimal (fun r n1 h1 => ∃ z : Int, r = some (vR G z) ∧ Po z n1 h1)) (x0 : Nat) (x1 : Nat) (x2 : Int) (x3 : Int) (x4 : Int) (x5 : Int) (x6 : Int) (x7 : Int) (x8 : Int) (n : Nat) (h : xH) (hy : rg x8 ∧ ((¬ x8 = 0 → (rg x6 ∧ rg x3) ∧ ((x3 ≤ x6 → X9_decimal_w222 G k x0 x1 x2 x4 x5 x6 x7 0 n h) ∧ (¬ x3 ≤ x6 → (rg (x6 + 1) ∧ rg x3) ∧ ((x3 ≤ (x6 + 1) → X9_decimal_w127 G k x0 x1 x2 x3 x4 x5 x6 x7 0 n h) ∧ (¬ x3 ≤ (x6 + 1) → okA n h x1 100 (x6 + 1) ∧ (rg (hG h x1 ((x6 + 1).toNat)) ∧ rg (43 : Int)) ∧ (((hG h x1 ((x6 + 1).toNat)) = (43 : Int) → X9_decimal_w123 G k x0 x1 x2 x3 x4 x5 x6 x7 0 n h) ∧ (¬ (hG h x1 ((x6 + 1).toNat)) = (43 : Int) → okA n h x1 100 (x6 + 1) ∧ (rg (hG h x1 ((x6 + 1).toNat)) ∧ rg (45 : Int)) ∧ ((¬ (hG h x1 ((x6 + 1).toNat)) = (45 : Int) → X9_decimal_w127 G k x0 x1 x2 x3 x4 x5 x6 x7 0 n h) ∧ ((hG h x1 ((x6 + 1).toNat)) = (45 : Int) → X9_decimal_w123 G k x0 x1 x2 x3 x4 x5 x6 x7 0 n h))))))))) ∧ (x8 = 0 → Po (-1) n h))) : X9_decimal_w77 G k x0 x1 x2 x3 x4 x5 x6 x7 x8 n h := by
  refine ww_iload C 8 8 rfl dX9_decimal_77 ?_
  obtain ⟨p1, hy⟩ := hy
  refine ww_if_ne C (tg := 84) dX9_decimal_79 (by decide) p1 (fun c2 => ?_) (fun c2 => ?_)
  · have hy := hy.1 c2
    refine ww_iconst C (z := 0) dX9_decimal_84 rfl ?_
    refine ww_istore C 9 (by decide) rfl dX9_decimal_85 ?_
    refine ww_iload C 6 7 rfl dX9_decimal_87 ?_
    refine ww_iload_n C 3 4 rfl rfl dX9_decimal_89 ?_
    obtain ⟨p3, hy⟩ := hy
    refine ww_icmp_ge C (tg := 222) dX9_decimal_90 (by decide) p3.1 p3.2 (fun c4 => ?_) (fun c4 => ?_)
    · have hy := hy.1 c4
      exact ww_sub [1, 2, 3, 5, 6, 7, 8, 0] rfl (by decide) (by decide) hy
    · have hy := hy.2 c4
      refine ww_iload C 6 7 rfl dX9_decimal_93 ?_
      refine ww_iconst C (z := 1) dX9_decimal_95 rfl ?_
      refine ww_iadd C dX9_decimal_96 ?_
      refine ww_iload_n C 3 4 rfl rfl dX9_decimal_97 ?_
      obtain ⟨p5, hy⟩ := hy
      refine ww_icmp_ge C (tg := 127) dX9_decimal_98 (by decide) p5.1 p5.2 (fun c6 => ?_) (fun c6 => ?_)
      · have hy := hy.1 c6
        exact ww_sub [1, 2, 3, 4, 5, 6, 7, 8, 0] rfl (by decide) (by decide) hy
      · have hy := hy.2 c6
        refine ww_aload_n C 1 2 rfl rfl dX9_decimal_101 ?_
        refine ww_iload C 6 7 rfl dX9_decimal_102 ?_
        refine ww_iconst C (z := 1) dX9_decimal_104 rfl ?_
        refine ww_iadd C dX9_decimal_105 ?_
        obtain ⟨p7, hy⟩ := hy
        refine ww_iald C dX9_decimal_106 p7 ?_
        refine ww_bipush C (z := 43) dX9_decimal_107 rfl ?_
        obtain ⟨p8, hy⟩ := hy
        refine ww_icmp_eq C (tg := 123) dX9_decimal_109 (by decide) p8.1 p8.2 (fun c9 => ?_) (fun c9 => ?_)
        · have hy := hy.1 c9
          exact ww_sub [1, 2, 3, 4, 5, 6, 7, 8, 0] rfl (by decide) (by decide) hy
        · have hy := hy.2 c9
          refine ww_aload_n C 1 2 rfl rfl dX9_decimal_112 ?_
          refine ww_iload C 6 7 rfl dX9_decimal_113 ?_
          refine ww_iconst C (z := 1) dX9_decimal_115 rfl ?_
          refine ww_iadd C dX9_decimal_116 ?_
          obtain ⟨p10, hy⟩ := hy
          refine ww_iald C dX9_decimal_117 p10 ?_
          refine ww_bipush C (z := 45) dX9_decimal_118 rfl ?_
          obtain ⟨p11, hy⟩ := hy
          refine ww_icmp_ne C (tg := 127) dX9_decimal_120 (by decide) p11.1 p11.2 (fun c12 => ?_) (fun c12 => ?_)
          · have hy := hy.1 c12
            exact ww_sub [1, 2, 3, 4, 5, 6, 7, 8, 0] rfl (by decide) (by decide) hy
          · have hy := hy.2 c12
            exact ww_sub [1, 2, 3, 4, 5, 6, 7, 8, 0] rfl (by decide) (by decide) hy
  · have hy := hy.2 c2
    refine ww_null C dX9_decimal_82 ?_
    show WW _ _ _ _ _ _ _ (vR G (-1) :: _) _ _
    exact ww_aret C E (Or.inl ⟨_, rfl⟩) dX9_decimal_83 (by decide) (by decide) ⟨_, rfl, hy⟩
set_option maxRecDepth 100000 in
set_option maxHeartbeats 4000000 in
theorem X9_decimal_b54 {G : xG} {k : xK} {n0 : Nat} {Po : Int → Nat → xH → Prop} (C : CC G k cX9_decimal RX9 19 rm_X9_decimal) (E : CQ G k (some (.object "DoubleTextsModel$Num")) rm_X9_decimal (fun r n1 h1 => ∃ z : Int, r = some (vR G z) ∧ Po z n1 h1)) (x0 : Nat) (x1 : Nat) (x2 : Int) (x3 : Int) (x4 : Int) (x5 : Int) (x6 : Int) (x7 : Int) (x8 : Int) (n : Nat) (h : xH) (hy : okA n h x1 100 x6 ∧ S_X9_digitOf G (kl k) (hG h x1 (x6.toNat)) 10 n h (fun z2 h3 => rg z2 ∧ ((0 ≤ z2 → X9_decimal_w71 G k x0 x1 x2 x3 x4 x5 x6 x7 (x8 + 1) n h3) ∧ (¬ 0 ≤ z2 → Po (-1) n h3)))) : X9_decimal_w54 G k x0 x1 x2 x3 x4 x5 x6 x7 x8 n h := by
  refine ww_aload_n C 1 1 rfl rfl dX9_decimal_54 ?_
  refine ww_iload C 6 6 rfl dX9_decimal_55 ?_
  obtain ⟨p1, hy⟩ := hy
  refine ww_iald C dX9_decimal_57 p1 ?_
  refine ww_bipush C (z := 10) dX9_decimal_58 rfl ?_
  refine cl_X9_309 C dX9_decimal_60 (Nat.le_of_ble_eq_true rfl) ⟨by decide, by decide⟩ ⟨by decide, by decide⟩ ?_
  refine S_X9_digitOf.mono hy (fun z2 h3 hy => ?_)
  obtain ⟨p4, hy⟩ := hy
  refine ww_if_ge C (tg := 68) dX9_decimal_63 (by decide) p4 (fun c5 => ?_) (fun c5 => ?_)
  · have hy := hy.1 c5
    refine ww_iinc C 8 8 rfl (by decide) rfl dX9_decimal_68 ?_
    exact ww_sub [1, 2, 3, 4, 5, 6, 7, 8, 0] rfl (by decide) (by decide) hy
  · have hy := hy.2 c5
    refine ww_null C dX9_decimal_66 ?_
    show WW _ _ _ _ _ _ _ (vR G (-1) :: _) _ _
    exact ww_aret C E (Or.inl ⟨_, rfl⟩) dX9_decimal_67 (by decide) (by decide) ⟨_, rfl, hy⟩
set_option maxRecDepth 100000 in
set_option maxHeartbeats 4000000 in
theorem X9_decimal_b71 {G : xG} {k : xK} {n0 : Nat} {Po : Int → Nat → xH → Prop} (C : CC G k cX9_decimal RX9 19 rm_X9_decimal) (E : CQ G k (some (.object "DoubleTextsModel$Num")) rm_X9_decimal (fun r n1 h1 => ∃ z : Int, r = some (vR G z) ∧ Po z n1 h1)) (x0 : Nat) (x1 : Nat) (x2 : Int) (x3 : Int) (x4 : Int) (x5 : Int) (x6 : Int) (x7 : Int) (x8 : Int) (n : Nat) (h : xH) (hy : X9_decimal_w9 G k x0 x1 x2 x3 x4 x5 (x6 + 1) x7 x8 n h) : X9_decimal_w71 G k x0 x1 x2 x3 x4 x5 x6 x7 x8 n h := by
  refine ww_iinc C 6 6 rfl (by decide) rfl dX9_decimal_71 ?_
  refine ww_goto C (tg := 9) dX9_decimal_74 (by decide) ?_
  exact ww_sub [1, 2, 3, 4, 5, 6, 0, 7, 8] rfl (by decide) (by decide) hy
set_option maxRecDepth 100000 in
set_option maxHeartbeats 4000000 in
theorem X9_decimal_b222 {G : xG} {k : xK} {n0 : Nat} {Po : Int → Nat → xH → Prop} (C : CC G k cX9_decimal RX9 19 rm_X9_decimal) (E : CQ G k (some (.object "DoubleTextsModel$Num")) rm_X9_decimal (fun r n1 h1 => ∃ z : Int, r = some (vR G z) ∧ Po z n1 h1)) (x0 : Nat) (x1 : Nat) (x2 : Int) (x4 : Int) (x5 : Int) (x6 : Int) (x7 : Int) (x9 : Int) (n : Nat) (h : xH) (hy : X9_decimal_w225 G k x0 x1 x4 x5 x6 x7 x9 x2 n h) : X9_decimal_w222 G k x0 x1 x2 x4 x5 x6 x7 x9 n h := by
  refine ww_iload_n C 2 2 rfl rfl dX9_decimal_222 ?_
  refine ww_istore C 10 (by decide) rfl dX9_decimal_223 ?_
  exact ww_sub [1, 2, 4, 5, 6, 7, 8, 0] rfl (by decide) (by decide) hy
set_option maxRecDepth 100000 in
set_option maxHeartbeats 4000000 in
theorem X9_decimal_b127 {G : xG} {k : xK} {n0 : Nat} {Po : Int → Nat → xH → Prop} (C : CC G k cX9_decimal RX9 19 rm_X9_decimal) (E : CQ G k (some (.object "DoubleTextsModel$Num")) rm_X9_decimal (fun r n1 h1 => ∃ z : Int, r = some (vR G z) ∧ Po z n1 h1)) (x0 : Nat) (x1 : Nat) (x2 : Int) (x3 : Int) (x4 : Int) (x5 : Int) (x6 : Int) (x7 : Int) (x9 : Int) (n : Nat) (h : xH) (hy : X9_decimal_w128 G k x0 x1 x2 x3 x4 x5 x6 x7 x9 0 n h) : X9_decimal_w127 G k x0 x1 x2 x3 x4 x5 x6 x7 x9 n h := by
  refine ww_iconst C (z := 0) dX9_decimal_127 rfl ?_
  exact ww_sub [0, 1, 2, 3, 4, 5, 6, 7, 8] rfl (by decide) (by decide) hy
set_option maxRecDepth 100000 in
set_option maxHeartbeats 4000000 in
theorem X9_decimal_b123 {G : xG} {k : xK} {n0 : Nat} {Po : Int → Nat → xH → Prop} (C : CC G k cX9_decimal RX9 19 rm_X9_decimal) (E : CQ G k (some (.object "DoubleTextsModel$Num")) rm_X9_decimal (fun r n1 h1 => ∃ z : Int, r = some (vR G z) ∧ Po z n1 h1)) (x0 : Nat) (x1 : Nat) (x2 : Int) (x3 : Int) (x4 : Int) (x5 : Int) (x6 : Int) (x7 : Int) (x9 : Int) (n : Nat) (h : xH) (hy : X9_decimal_w128 G k x0 x1 x2 x3 x4 x5 x6 x7 x9 1 n h) : X9_decimal_w123 G k x0 x1 x2 x3 x4 x5 x6 x7 x9 n h := by
  refine ww_iconst C (z := 1) dX9_decimal_123 rfl ?_
  refine ww_goto C (tg := 128) dX9_decimal_124 (by decide) ?_
  exact ww_sub [0, 1, 2, 3, 4, 5, 6, 7, 8] rfl (by decide) (by decide) hy
set_option maxRecDepth 100000 in
set_option maxHeartbeats 4000000 in
theorem X9_decimal_b225 {G : xG} {k : xK} {n0 : Nat} {Po : Int → Nat → xH → Prop} (C : CC G k cX9_decimal RX9 19 rm_X9_decimal) (E : CQ G k (some (.object "DoubleTextsModel$Num")) rm_X9_decimal (fun r n1 h1 => ∃ z : Int, r = some (vR G z) ∧ Po z n1 h1)) (x0 : Nat) (x1 : Nat) (x4 : Int) (x5 : Int) (x6 : Int) (x7 : Int) (x9 : Int) (x10 : Int) (n : Nat) (h : xH) (hy : (rg x10 ∧ rg x6) ∧ ((x6 ≤ x10 → X9_decimal_w256 G k x0 x1 x4 x5 x6 x7 x9 x10 n h) ∧ (¬ x6 ≤ x10 → okA n h x1 100 x10 ∧ (rg (hG h x1 (x10.toNat)) ∧ rg (48 : Int)) ∧ (((hG h x1 (x10.toNat)) = (48 : Int) → X9_decimal_w250 G k x0 x1 x4 x5 x6 x7 x9 x10 n h) ∧ (¬ (hG h x1 (x10.toNat)) = (48 : Int) → okA n h x1 100 x10 ∧ (rg (hG h x1 (x10.toNat)) ∧ rg (46 : Int)) ∧ ((¬ (hG h x1 (x10.toNat)) = (46 : Int) → X9_decimal_w256 G k x0 x1 x4 x5 x6 x7 x9 x10 n h) ∧ ((hG h x1 (x10.toNat)) = (46 : Int) → X9_decimal_w250 G k x0 x1 x4 x5 x6 x7 x9 x10 n h))))))) : X9_decimal_w225 G k x0 x1 x4 x5 x6 x7 x9 x10 n h := by
  refine ww_iload C 10 7 rfl dX9_decimal_225 ?_
  refine ww_iload C 6 4 rfl dX9_decimal_227 ?_
  obtain ⟨p1, hy⟩ := hy
  refine ww_icmp_ge C (tg := 256) dX9_decimal_229 (by decide) p1.1 p1.2 (fun c2 => ?_) (fun c2 => ?_)
  · have hy := hy.1 c2
    exact ww_sub [0, 1, 2, 3, 4, 5, 6, 7] rfl (by decide) (by decide) hy
  · have hy := hy.2 c2
    refine ww_aload_n C 1 1 rfl rfl dX9_decimal_232 ?_
    refine ww_iload C 10 7 rfl dX9_decimal_233 ?_
    obtain ⟨p3, hy⟩ := hy
    refine ww_iald C dX9_decimal_235 p3 ?_
    refine ww_bipush C (z := 48) dX9_decimal_236 rfl ?_
    obtain ⟨p4, hy⟩ := hy
    refine ww_icmp_eq C (tg := 250) dX9_decimal_238 (by decide) p4.1 p4.2 (fun c5 => ?_) (fun c5 => ?_)
    · have hy := hy.1 c5
      exact ww_sub [0, 1, 2, 3, 4, 5, 6, 7] rfl (by decide) (by decide) hy
    · have hy := hy.2 c5
      refine ww_aload_n C 1 1 rfl rfl dX9_decimal_241 ?_
      refine ww_iload C 10 7 rfl dX9_decimal_242 ?_
      obtain ⟨p6, hy⟩ := hy
      refine ww_iald C dX9_decimal_244 p6 ?_
      refine ww_bipush C (z := 46) dX9_decimal_245 rfl ?_
      obtain ⟨p7, hy⟩ := hy
      refine ww_icmp_ne C (tg := 256) dX9_decimal_247 (by decide) p7.1 p7.2 (fun c8 => ?_) (fun c8 => ?_)
      · have hy := hy.1 c8
        exact ww_sub [0, 1, 2, 3, 4, 5, 6, 7] rfl (by decide) (by decide) hy
      · have hy := hy.2 c8
        exact ww_sub [0, 1, 2, 3, 4, 5, 6, 7] rfl (by decide) (by decide) hy
set_option maxRecDepth 100000 in
set_option maxHeartbeats 4000000 in
theorem X9_decimal_b128 {G : xG} {k : xK} {n0 : Nat} {Po : Int → Nat → xH → Prop} (C : CC G k cX9_decimal RX9 19 rm_X9_decimal) (E : CQ G k (some (.object "DoubleTextsModel$Num")) rm_X9_decimal (fun r n1 h1 => ∃ z : Int, r = some (vR G z) ∧ Po z n1 h1)) (x0 : Nat) (x1 : Nat) (x2 : Int) (x3 : Int) (x4 : Int) (x5 : Int) (x6 : Int) (x7 : Int) (x9 : Int) (s0 : Int) (n : Nat) (h : xH) (hy : rg s0 ∧ ((s0 = 0 → X9_decimal_w146 G k x0 x1 x2 x3 x4 x5 x6 x7 x9 s0 (x6 + 1) n h) ∧ (¬ s0 = 0 → X9_decimal_w146 G k x0 x1 x2 x3 x4 x5 x6 x7 x9 s0 (x6 + 2) n h))) : X9_decimal_w128 G k x0 x1 x2 x3 x4 x5 x6 x7 x9 s0 n h := by
  refine ww_istore C 10 (by decide) rfl dX9_decimal_128 ?_
  refine ww_iload C 10 0 rfl dX9_decimal_130 ?_
  obtain ⟨p1, hy⟩ := hy
  refine ww_if_eq C (tg := 142) dX9_decimal_132 (by decide) p1 (fun c2 => ?_) (fun c2 => ?_)
  · have hy := hy.1 c2
    refine ww_iload C 6 7 rfl dX9_decimal_142 ?_
    refine ww_iconst C (z := 1) dX9_decimal_144 rfl ?_
    refine ww_iadd C dX9_decimal_145 ?_
    exact ww_sub [1, 2, 3, 4, 5, 6, 7, 8, 9, 0] rfl (by decide) (by decide) hy
  · have hy := hy.2 c2
    refine ww_iload C 6 7 rfl dX9_decimal_135 ?_
    refine ww_iconst C (z := 2) dX9_decimal_137 rfl ?_
    refine ww_iadd C dX9_decimal_138 ?_
    refine ww_goto C (tg := 146) dX9_decimal_139 (by decide) ?_
    exact ww_sub [1, 2, 3, 4, 5, 6, 7, 8, 9, 0] rfl (by decide) (by decide) hy
set_option maxRecDepth 100000 in
set_option maxHeartbeats 4000000 in
theorem X9_decimal_b256 {G : xG} {k : xK} {n0 : Nat} {Po : Int → Nat → xH → Prop} (C : CC G k cX9_decimal RX9 19 rm_X9_decimal) (E : CQ G k (some (.object "DoubleTextsModel$Num")) rm_X9_decimal (fun r n1 h1 => ∃ z : Int, r = some (vR G z) ∧ Po z n1 h1)) (x0 : Nat) (x1 : Nat) (x4 : Int) (x5 : Int) (x6 : Int) (x7 : Int) (x9 : Int) (x10 : Int) (n : Nat) (h : xH) (hy : X9_decimal_w260 G k x0 x1 x4 x5 x6 x7 x9 x10 x6 n h) : X9_decimal_w256 G k x0 x1 x4 x5 x6 x7 x9 x10 n h := by
  refine ww_iload C 6 4 rfl dX9_decimal_256 ?_
  refine ww_istore C 11 (by decide) rfl dX9_decimal_258 ?_
  exact ww_sub [1, 2, 3, 4, 5, 6, 7, 8, 0] rfl (by decide) (by decide) hy
set_option maxRecDepth 100000 in
set_option maxHeartbeats 4000000 in
theorem X9_decimal_b250 {G : xG} {k : xK} {n0 : Nat} {Po : Int → Nat → xH → Prop} (C : CC G k cX9_decimal RX9 19 rm_X9_decimal) (E : CQ G k (some (.object "DoubleTextsModel$Num")) rm_X9_decimal (fun r n1 h1 => ∃ z : Int, r = some (vR G z) ∧ Po z n1 h1)) (x0 : Nat) (x1 : Nat) (x4 : Int) (x5 : Int) (x6 : Int) (x7 : Int) (x9 : Int) (x10 : Int) (n : Nat) (h : xH) (hy : X9_decimal_w225 G k x0 x1 x4 x5 x6 x7 x9 (x10 + 1) n h) : X9_decimal_w250 G k x0 x1 x4 x5 x6 x7 x9 x10 n h := by
  refine ww_iinc C 10 7 rfl (by decide) rfl dX9_decimal_250 ?_
  refine ww_goto C (tg := 225) dX9_decimal_253 (by decide) ?_
  exact ww_sub [1, 2, 3, 4, 5, 6, 7, 0] rfl (by decide) (by decide) hy
set_option maxRecDepth 100000 in
set_option maxHeartbeats 4000000 in
theorem X9_decimal_b146 {G : xG} {k : xK} {n0 : Nat} {Po : Int → Nat → xH → Prop} (C : CC G k cX9_decimal RX9 19 rm_X9_decimal) (E : CQ G k (some (.object "DoubleTextsModel$Num")) rm_X9_decimal (fun r n1 h1 => ∃ z : Int, r = some (vR G z) ∧ Po z n1 h1)) (x0 : Nat) (x1 : Nat) (x2 : Int) (x3 : Int) (x4 : Int) (x5 : Int) (x6 : Int) (x7 : Int) (x9 : Int) (x10 : Int) (s0 : Int) (n : Nat) (h : xH) (hy : S_X9_areDigits G (kl k) x1 s0 x3 10 n h (fun z1 h2 => rg z1 ∧ ((z1 = 0 → X9_decimal_w168 G k  n h2) ∧ (¬ z1 = 0 → (rg (x3 - s0) ∧ rg (4 : Int)) ∧ (((x3 - s0) ≤ (4 : Int) → X9_decimal_w174 G k x0 x1 x2 x3 x4 x5 x6 x7 x9 x10 s0 n h2) ∧ (¬ (x3 - s0) ≤ (4 : Int) → X9_decimal_w168 G k  n h2)))))) : X9_decimal_w146 G k x0 x1 x2 x3 x4 x5 x6 x7 x9 x10 s0 n h := by
  refine ww_istore C 11 (by decide) rfl dX9_decimal_146 ?_
  refine ww_aload_n C 1 2 rfl rfl dX9_decimal_148 ?_
  refine ww_iload C 11 0 rfl dX9_decimal_149 ?_
  refine ww_iload_n C 3 4 rfl rfl dX9_decimal_151 ?_
  refine ww_bipush C (z := 10) dX9_decimal_152 rfl ?_
  refine cl_X9_324 C dX9_decimal_154 (Nat.le_of_ble_eq_true rfl) ⟨by decide, by decide⟩ ⟨by decide, by decide⟩ ?_
  refine S_X9_areDigits.mono hy (fun z1 h2 hy => ?_)
  obtain ⟨p3, hy⟩ := hy
  refine ww_if_eq C (tg := 168) dX9_decimal_157 (by decide) p3 (fun c4 => ?_) (fun c4 => ?_)
  · have hy := hy.1 c4
    exact ww_sub [] rfl (by decide) (by decide) hy
  · have hy := hy.2 c4
    refine ww_iload_n C 3 4 rfl rfl dX9_decimal_160 ?_
    refine ww_iload C 11 0 rfl dX9_decimal_161 ?_
    refine ww_isub C dX9_decimal_163 ?_
    refine ww_iconst C (z := 4) dX9_decimal_164 rfl ?_
    obtain ⟨p5, hy⟩ := hy
    refine ww_icmp_le C (tg := 170) dX9_decimal_165 (by decide) p5.1 p5.2 (fun c6 => ?_) (fun c6 => ?_)
    · have hy := hy.1 c6
      refine ww_iload C 11 0 rfl dX9_decimal_170 ?_
      refine ww_istore C 12 (by decide) rfl dX9_decimal_172 ?_
      exact ww_sub [2, 3, 4, 5, 6, 7, 8, 9, 10, 11, 0] rfl (by decide) (by decide) hy
    · have hy := hy.2 c6
      exact ww_sub [] rfl (by decide) (by decide) hy
set_option maxRecDepth 100000 in
set_option maxHeartbeats 4000000 in
theorem X9_decimal_b260 {G : xG} {k : xK} {n0 : Nat} {Po : Int → Nat → xH → Prop} (C : CC G k cX9_decimal RX9 19 rm_X9_decimal) (E : CQ G k (some (.object "DoubleTextsModel$Num")) rm_X9_decimal (fun r n1 h1 => ∃ z : Int, r = some (vR G z) ∧ Po z n1 h1)) (x0 : Nat) (x1 : Nat) (x4 : Int) (x5 : Int) (x6 : Int) (x7 : Int) (x9 : Int) (x10 : Int) (x11 : Int) (n : Nat) (h : xH) (hy : (rg x11 ∧ rg x10) ∧ ((x11 ≤ x10 → X9_decimal_w295 G k x0 x1 x4 x5 x6 x7 x9 x10 x11 n h) ∧ (¬ x11 ≤ x10 → okA n h x1 100 (x11 - 1) ∧ (rg (hG h x1 ((x11 - 1).toNat)) ∧ rg (48 : Int)) ∧ (((hG h x1 ((x11 - 1).toNat)) = (48 : Int) → X9_decimal_w289 G k x0 x1 x4 x5 x6 x7 x9 x10 x11 n h) ∧ (¬ (hG h x1 ((x11 - 1).toNat)) = (48 : Int) → okA n h x1 100 (x11 - 1) ∧ (rg (hG h x1 ((x11 - 1).toNat)) ∧ rg (46 : Int)) ∧ ((¬ (hG h x1 ((x11 - 1).toNat)) = (46 : Int) → X9_decimal_w295 G k x0 x1 x4 x5 x6 x7 x9 x10 x11 n h) ∧ ((hG h x1 ((x11 - 1).toNat)) = (46 : Int) → X9_decimal_w289 G k x0 x1 x4 x5 x6 x7 x9 x10 x11 n h))))))) : X9_decimal_w260 G k x0 x1 x4 x5 x6 x7 x9 x10 x11 n h := by
  refine ww_iload C 11 8 rfl dX9_decimal_260 ?_
  refine ww_iload C 10 7 rfl dX9_decimal_262 ?_
  obtain ⟨p1, hy⟩ := hy
  refine ww_icmp_le C (tg := 295) dX9_decimal_264 (by decide) p1.1 p1.2 (fun c2 => ?_) (fun c2 => ?_)
  · have hy := hy.1 c2
    exact ww_sub [0, 1, 2, 3, 4, 5, 6, 7, 8] rfl (by decide) (by decide) hy
  · have hy := hy.2 c2
    refine ww_aload_n C 1 1 rfl rfl dX9_decimal_267 ?_
    refine ww_iload C 11 8 rfl dX9_decimal_268 ?_
    refine ww_iconst C (z := 1) dX9_decimal_270 rfl ?_
    refine ww_isub C dX9_decimal_271 ?_
    obtain ⟨p3, hy⟩ := hy
    refine ww_iald C dX9_decimal_272 p3 ?_
    refine ww_bipush C (z := 48) dX9_decimal_273 rfl ?_
    obtain ⟨p4, hy⟩ := hy
    refine ww_icmp_eq C (tg := 289) dX9_decimal_275 (by decide) p4.1 p4.2 (fun c5 => ?_) (fun c5 => ?_)
    · have hy := hy.1 c5
      exact ww_sub [0, 1, 2, 3, 4, 5, 6, 7, 8] rfl (by decide) (by decide) hy
    · have hy := hy.2 c5
      refine ww_aload_n C 1 1 rfl rfl dX9_decimal_278 ?_
      refine ww_iload C 11 8 rfl dX9_decimal_279 ?_
      refine ww_iconst C (z := 1) dX9_decimal_281 rfl ?_
      refine ww_isub C dX9_decimal_282 ?_
      obtain ⟨p6, hy⟩ := hy
      refine ww_iald C dX9_decimal_283 p6 ?_
      refine ww_bipush C (z := 46) dX9_decimal_284 rfl ?_
      obtain ⟨p7, hy⟩ := hy
      refine ww_icmp_ne C (tg := 295) dX9_decimal_286 (by decide) p7.1 p7.2 (fun c8 => ?_) (fun c8 => ?_)
      · have hy := hy.1 c8
        exact ww_sub [0, 1, 2, 3, 4, 5, 6, 7, 8] rfl (by decide) (by decide) hy
      · have hy := hy.2 c8
        exact ww_sub [0, 1, 2, 3, 4, 5, 6, 7, 8] rfl (by decide) (by decide) hy
set_option maxRecDepth 100000 in
set_option maxHeartbeats 4000000 in
theorem X9_decimal_b168 {G : xG} {k : xK} {n0 : Nat} {Po : Int → Nat → xH → Prop} (C : CC G k cX9_decimal RX9 19 rm_X9_decimal) (E : CQ G k (some (.object "DoubleTextsModel$Num")) rm_X9_decimal (fun r n1 h1 => ∃ z : Int, r = some (vR G z) ∧ Po z n1 h1))  (n : Nat) (h : xH) (hy : Po (-1) n h) : X9_decimal_w168 G k  n h := by
  refine ww_null C dX9_decimal_168 ?_
  show WW _ _ _ _ _ _ _ (vR G (-1) :: _) _ _
  exact ww_aret C E (Or.inl ⟨_, rfl⟩) dX9_decimal_169 (by decide) (by decide) ⟨_, rfl, hy⟩
set_option maxRecDepth 100000 in
set_option maxHeartbeats 4000000 in
theorem X9_decimal_b174 {G : xG} {k : xK} {n0 : Nat} {Po : Int → Nat → xH → Prop} (C : CC G k cX9_decimal RX9 19 rm_X9_decimal) (E : CQ G k (some (.object "DoubleTextsModel$Num")) rm_X9_decimal (fun r n1 h1 => ∃ z : Int, r = some (vR G z) ∧ Po z n1 h1)) (x0 : Nat) (x1 : Nat) (x2 : Int) (x3 : Int) (x4 : Int) (x5 : Int) (x6 : Int) (x7 : Int) (x9 : Int) (x10 : Int) (x12 : Int) (n : Nat) (h : xH) (hy : (rg x12 ∧ rg x3) ∧ ((x3 ≤ x12 → rg x10 ∧ ((x10 = 0 → X9_decimal_w222 G k x0 x1 x2 x4 x5 x6 x7 x9 n h) ∧ (¬ x10 = 0 → okA n h x1 100 (x6 + 1) ∧ (rg (hG h x1 ((x6 + 1).toNat)) ∧ rg (45 : Int)) ∧ ((¬ (hG h x1 ((x6 + 1).toNat)) = (45 : Int) → X9_decimal_w222 G k x0 x1 x2 x4 x5 x6 x7 x9 n h) ∧ ((hG h x1 ((x6 + 1).toNat)) = (45 : Int) → X9_decimal_w222 G k x0 x1 x2 x4 x5 x6 x7 (-x9) n h))))) ∧ (¬ x3 ≤ x12 → okA n h x1 100 x12 ∧ X9_decimal_w174 G k x0 x1 x2 x3 x4 x5 x6 x7 (((10 * x9) + (hG h x1 (x12.toNat))) - 48) x10 (x12 + 1) n h))) : X9_decimal_w174 G k x0 x1 x2 x3 x4 x5 x6 x7 x9 x10 x12 n h := by
  refine ww_iload C 12 10 rfl dX9_decimal_174 ?_
  refine ww_iload_n C 3 3 rfl rfl dX9_decimal_176 ?_
  obtain ⟨p1, hy⟩ := hy
  refine ww_icmp_ge C (tg := 201) dX9_decimal_177 (by decide) p1.1 p1.2 (fun c2 => ?_) (fun c2 => ?_)
  · have hy := hy.1 c2
    refine ww_iload C 10 9 rfl dX9_decimal_201 ?_
    obtain ⟨p3, hy⟩ := hy
    refine ww_if_eq C (tg := 222) dX9_decimal_203 (by decide) p3 (fun c4 => ?_) (fun c4 => ?_)
    · have hy := hy.1 c4
      exact ww_sub [0, 1, 2, 4, 5, 6, 7, 8] rfl (by decide) (by decide) hy
    · have hy := hy.2 c4
      refine ww_aload_n C 1 1 rfl rfl dX9_decimal_206 ?_
      refine ww_iload C 6 6 rfl dX9_decimal_207 ?_
      refine ww_iconst C (z := 1) dX9_decimal_209 rfl ?_
      refine ww_iadd C dX9_decimal_210 ?_
      obtain ⟨p5, hy⟩ := hy
      refine ww_iald C dX9_decimal_211 p5 ?_
      refine ww_bipush C (z := 45) dX9_decimal_212 rfl ?_
      obtain ⟨p6, hy⟩ := hy
      refine ww_icmp_ne C (tg := 222) dX9_decimal_214 (by decide) p6.1 p6.2 (fun c7 => ?_) (fun c7 => ?_)
      · have hy := hy.1 c7
        exact ww_sub [0, 1, 2, 4, 5, 6, 7, 8] rfl (by decide) (by decide) hy
      · have hy := hy.2 c7
        refine ww_iload C 9 8 rfl dX9_decimal_217 ?_
        refine ww_ineg C dX9_decimal_219 ?_
        refine ww_istore C 9 (by decide) rfl dX9_decimal_220 ?_
        exact ww_sub [1, 2, 3, 5, 6, 7, 8, 0] rfl (by decide) (by decide) hy
  · have hy := hy.2 c2
    refine ww_bipush C (z := 10) dX9_decimal_180 rfl ?_
    refine ww_iload C 9 8 rfl dX9_decimal_182 ?_
    refine ww_imul C dX9_decimal_184 ?_
    refine ww_aload_n C 1 1 rfl rfl dX9_decimal_185 ?_
    refine ww_iload C 12 10 rfl dX9_decimal_186 ?_
    obtain ⟨p8, hy⟩ := hy
    refine ww_iald C dX9_decimal_188 p8 ?_
    refine ww_iadd C dX9_decimal_189 ?_
    refine ww_bipush C (z := 48) dX9_decimal_190 rfl ?_
    refine ww_isub C dX9_decimal_192 ?_
    refine ww_istore C 9 (by decide) rfl dX9_decimal_193 ?_
    refine ww_iinc C 12 10 rfl (by decide) rfl dX9_decimal_195 ?_
    refine ww_goto C (tg := 174) dX9_decimal_198 (by decide) ?_
    exact ww_sub [2, 3, 4, 5, 6, 7, 8, 9, 1, 10, 0] rfl (by decide) (by decide) hy
set_option maxRecDepth 100000 in
set_option maxHeartbeats 4000000 in
theorem X9_decimal_b295 {G : xG} {k : xK} {n0 : Nat} {Po : Int → Nat → xH → Prop} (C : CC G k cX9_decimal RX9 19 rm_X9_decimal) (E : CQ G k (some (.object "DoubleTextsModel$Num")) rm_X9_decimal (fun r n1 h1 => ∃ z : Int, r = some (vR G z) ∧ Po z n1 h1)) (x0 : Nat) (x1 : Nat) (x4 : Int) (x5 : Int) (x6 : Int) (x7 : Int) (x9 : Int) (x10 : Int) (x11 : Int) (n : Nat) (h : xH) (hy : rg x7 ∧ ((0 ≤ x7 → X9_decimal_w307 G k x0 x1 x4 x5 x7 x9 x10 x11 x7 n h) ∧ (¬ 0 ≤ x7 → X9_decimal_w307 G k x0 x1 x4 x5 x7 x9 x10 x11 x6 n h))) : X9_decimal_w295 G k x0 x1 x4 x5 x6 x7 x9 x10 x11 n h := by
  refine ww_iload C 7 5 rfl dX9_decimal_295 ?_
  obtain ⟨p1, hy⟩ := hy
  refine ww_if_ge C (tg := 305) dX9_decimal_297 (by decide) p1 (fun c2 => ?_) (fun c2 => ?_)
  · have hy := hy.1 c2
    refine ww_iload C 7 5 rfl dX9_decimal_305 ?_
    exact ww_sub [0, 1, 2, 3, 5, 6, 7, 8] rfl (by decide) (by decide) hy
  · have hy := hy.2 c2
    refine ww_iload C 6 4 rfl dX9_decimal_300 ?_
    refine ww_goto C (tg := 307) dX9_decimal_302 (by decide) ?_
    exact ww_sub [0, 1, 2, 3, 5, 6, 7, 8] rfl (by decide) (by decide) hy
set_option maxRecDepth 100000 in
set_option maxHeartbeats 4000000 in
theorem X9_decimal_b289 {G : xG} {k : xK} {n0 : Nat} {Po : Int → Nat → xH → Prop} (C : CC G k cX9_decimal RX9 19 rm_X9_decimal) (E : CQ G k (some (.object "DoubleTextsModel$Num")) rm_X9_decimal (fun r n1 h1 => ∃ z : Int, r = some (vR G z) ∧ Po z n1 h1)) (x0 : Nat) (x1 : Nat) (x4 : Int) (x5 : Int) (x6 : Int) (x7 : Int) (x9 : Int) (x10 : Int) (x11 : Int) (n : Nat) (h : xH) (hy : X9_decimal_w260 G k x0 x1 x4 x5 x6 x7 x9 x10 (x11 + (-1)) n h) : X9_decimal_w289 G k x0 x1 x4 x5 x6 x7 x9 x10 x11 n h := by
  refine ww_iinc C 11 8 rfl (by decide) rfl dX9_decimal_289 ?_
  refine ww_goto C (tg := 260) dX9_decimal_292 (by decide) ?_
  exact ww_sub [1, 2, 3, 4, 5, 6, 7, 8, 0] rfl (by decide) (by decide) hy
set_option maxRecDepth 100000 in
set_option maxHeartbeats 4000000 in
theorem X9_decimal_b307 {G : xG} {k : xK} {n0 : Nat} {Po : Int → Nat → xH → Prop} (C : CC G k cX9_decimal RX9 19 rm_X9_decimal) (E : CQ G k (some (.object "DoubleTextsModel$Num")) rm_X9_decimal (fun r n1 h1 => ∃ z : Int, r = some (vR G z) ∧ Po z n1 h1)) (x0 : Nat) (x1 : Nat) (x4 : Int) (x5 : Int) (x7 : Int) (x9 : Int) (x10 : Int) (x11 : Int) (s0 : Int) (n : Nat) (h : xH) (hy : (rg x11 ∧ rg s0) ∧ ((s0 < x11 → X9_decimal_w333 G k x0 x1 x4 x5 x7 x10 x11 ((s0 + 1) - x11) x9 n h) ∧ (¬ s0 < x11 → X9_decimal_w333 G k x0 x1 x4 x5 x7 x10 x11 (s0 - x11) x9 n h))) : X9_decimal_w307 G k x0 x1 x4 x5 x7 x9 x10 x11 s0 n h := by
  refine ww_istore C 12 (by decide) rfl dX9_decimal_307 ?_
  refine ww_iload C 9 6 rfl dX9_decimal_309 ?_
  refine ww_iload C 11 8 rfl dX9_decimal_311 ?_
  refine ww_iload C 12 0 rfl dX9_decimal_313 ?_
  obtain ⟨p1, hy⟩ := hy
  refine ww_icmp_gt C (tg := 326) dX9_decimal_315 (by decide) p1.1 p1.2 (fun c2 => ?_) (fun c2 => ?_)
  · have hy := hy.1 c2
    refine ww_iload C 12 0 rfl dX9_decimal_326 ?_
    refine ww_iconst C (z := 1) dX9_decimal_328 rfl ?_
    refine ww_iadd C dX9_decimal_329 ?_
    refine ww_iload C 11 8 rfl dX9_decimal_330 ?_
    refine ww_isub C dX9_decimal_332 ?_
    exact ww_sub [1, 2, 3, 4, 5, 7, 8] rfl (by decide) (by decide) hy
  · have hy := hy.2 c2
    refine ww_iload C 12 0 rfl dX9_decimal_318 ?_
    refine ww_iload C 11 8 rfl dX9_decimal_320 ?_
    refine ww_isub C dX9_decimal_322 ?_
    refine ww_goto C (tg := 333) dX9_decimal_323 (by decide) ?_
    exact ww_sub [1, 2, 3, 4, 5, 7, 8] rfl (by decide) (by decide) hy
set_option maxRecDepth 100000 in
set_option maxHeartbeats 4000000 in
theorem X9_decimal_b333 {G : xG} {k : xK} {n0 : Nat} {Po : Int → Nat → xH → Prop} (C : CC G k cX9_decimal RX9 19 rm_X9_decimal) (E : CQ G k (some (.object "DoubleTextsModel$Num")) rm_X9_decimal (fun r n1 h1 => ∃ z : Int, r = some (vR G z) ∧ Po z n1 h1)) (x0 : Nat) (x1 : Nat) (x4 : Int) (x5 : Int) (x7 : Int) (x10 : Int) (x11 : Int) (s0 : Int) (s1 : Int) (n : Nat) (h : xH) (hy : (rg x7 ∧ rg x10) ∧ ((x7 < x10 → X9_decimal_w359 G k x0 x1 x4 x5 x10 x11 (s1 + s0) (x11 - x10) n h) ∧ (¬ x7 < x10 → (rg x7 ∧ rg x11) ∧ ((x11 ≤ x7 → X9_decimal_w359 G k x0 x1 x4 x5 x10 x11 (s1 + s0) (x11 - x10) n h) ∧ (¬ x11 ≤ x7 → X9_decimal_w360 G k x0 x1 x4 x5 x10 x11 (s1 + s0) 1 (x11 - x10) n h))))) : X9_decimal_w333 G k x0 x1 x4 x5 x7 x10 x11 s0 s1 n h := by
  refine ww_iadd C dX9_decimal_333 ?_
  refine ww_istore C 13 (by decide) rfl dX9_decimal_334 ?_
  refine ww_iload C 11 7 rfl dX9_decimal_336 ?_
  refine ww_iload C 10 6 rfl dX9_decimal_338 ?_
  refine ww_isub C dX9_decimal_340 ?_
  refine ww_iload C 7 5 rfl dX9_decimal_341 ?_
  refine ww_iload C 10 6 rfl dX9_decimal_343 ?_
  obtain ⟨p1, hy⟩ := hy
  refine ww_icmp_lt C (tg := 359) dX9_decimal_345 (by decide) p1.1 p1.2 (fun c2 => ?_) (fun c2 => ?_)
  · have hy := hy.1 c2
    exact ww_sub [1, 2, 3, 4, 6, 7, 0] rfl (by decide) (by decide) hy
  · have hy := hy.2 c2
    refine ww_iload C 7 5 rfl dX9_decimal_348 ?_
    refine ww_iload C 11 7 rfl dX9_decimal_350 ?_
    obtain ⟨p3, hy⟩ := hy
    refine ww_icmp_ge C (tg := 359) dX9_decimal_352 (by decide) p3.1 p3.2 (fun c4 => ?_) (fun c4 => ?_)
    · have hy := hy.1 c4
      exact ww_sub [1, 2, 3, 4, 6, 7, 0] rfl (by decide) (by decide) hy
    · have hy := hy.2 c4
      refine ww_iconst C (z := 1) dX9_decimal_355 rfl ?_
      refine ww_goto C (tg := 360) dX9_decimal_356 (by decide) ?_
      exact ww_sub [1, 2, 3, 4, 6, 7, 0] rfl (by decide) (by decide) hy
set_option maxRecDepth 100000 in
set_option maxHeartbeats 4000000 in
theorem X9_decimal_b359 {G : xG} {k : xK} {n0 : Nat} {Po : Int → Nat → xH → Prop} (C : CC G k cX9_decimal RX9 19 rm_X9_decimal) (E : CQ G k (some (.object "DoubleTextsModel$Num")) rm_X9_decimal (fun r n1 h1 => ∃ z : Int, r = some (vR G z) ∧ Po z n1 h1)) (x0 : Nat) (x1 : Nat) (x4 : Int) (x5 : Int) (x10 : Int) (x11 : Int) (x13 : Int) (s0 : Int) (n : Nat) (h : xH) (hy : X9_decimal_w360 G k x0 x1 x4 x5 x10 x11 x13 0 s0 n h) : X9_decimal_w359 G k x0 x1 x4 x5 x10 x11 x13 s0 n h := by
  refine ww_iconst C (z := 0) dX9_decimal_359 rfl ?_
  exact ww_sub [0, 1, 2, 3, 4, 5, 6] rfl (by decide) (by decide) hy
set_option maxRecDepth 100000 in
set_option maxHeartbeats 4000000 in
theorem X9_decimal_b360 {G : xG} {k : xK} {n0 : Nat} {Po : Int → Nat → xH → Prop} (C : CC G k cX9_decimal RX9 19 rm_X9_decimal) (E : CQ G k (some (.object "DoubleTextsModel$Num")) rm_X9_decimal (fun r n1 h1 => ∃ z : Int, r = some (vR G z) ∧ Po z n1 h1)) (x0 : Nat) (x1 : Nat) (x4 : Int) (x5 : Int) (x10 : Int) (x11 : Int) (x13 : Int) (s0 : Int) (s1 : Int) (n : Nat) (h : xH) (hy : rg (s1 - s0) ∧ ((¬ (s1 - s0) = 0 → (rg x4 ∧ rg (101 : Int)) ∧ ((x4 = (101 : Int) → (rg ((s1 - s0) + x13) ∧ rg (1300 : Int)) ∧ (((1300 : Int) < ((s1 - s0) + x13) → X9_decimal_w482 G k  n h) ∧ (¬ (1300 : Int) < ((s1 - s0) + x13) → (rg ((s1 - s0) + x13) ∧ rg (-1300 : Int)) ∧ (((-1300 : Int) ≤ ((s1 - s0) + x13) → X9_decimal_w484 G k x0 x1 x4 x5 x10 x11 x13 n h) ∧ (¬ (-1300 : Int) ≤ ((s1 - s0) + x13) → X9_decimal_w482 G k  n h))))) ∧ (¬ x4 = (101 : Int) → (rg ((s1 - s0) + x13) ∧ rg (330 : Int)) ∧ ((((s1 - s0) + x13) ≤ (330 : Int) → (rg ((s1 - s0) + x13) ∧ rg (-350 : Int)) ∧ (((-350 : Int) ≤ ((s1 - s0) + x13) → X9_decimal_w484 G k x0 x1 x4 x5 x10 x11 x13 n h) ∧ (¬ (-350 : Int) ≤ ((s1 - s0) + x13) → rg x5 ∧ ((x5 = 0 → X9_decimal_w456 G k FP.dconst0 n h) ∧ (¬ x5 = 0 → X9_decimal_w456 G k 9223372036854775808 n h))))) ∧ (¬ ((s1 - s0) + x13) ≤ (330 : Int) → rg x5 ∧ ((x5 = 0 → X9_decimal_w429 G k 9218868437227405312 n h) ∧ (¬ x5 = 0 → X9_decimal_w429 G k 18442240474082181120 n h))))))) ∧ ((s1 - s0) = 0 → (rg x4 ∧ rg (101 : Int)) ∧ ((¬ x4 = (101 : Int) → rg x5 ∧ ((x5 = 0 → X9_decimal_w393 G k FP.dconst0 n h) ∧ (¬ x5 = 0 → X9_decimal_w393 G k 9223372036854775808 n h))) ∧ (x4 = (101 : Int) → S_X9_zero G (kl k)  n h (fun z21 n23 h22 => X9_decimal_w396 G k z21 n23 h22)))))) : X9_decimal_w360 G k x0 x1 x4 x5 x10 x11 x13 s0 s1 n h := by
  refine ww_isub C dX9_decimal_360 ?_
  refine ww_istore C 14 (by decide) rfl dX9_decimal_361 ?_
  refine ww_iload C 14 0 rfl dX9_decimal_363 ?_
  obtain ⟨p1, hy⟩ := hy
  refine ww_if_ne C (tg := 397) dX9_decimal_365 (by decide) p1 (fun c2 => ?_) (fun c2 => ?_)
  · have hy := hy.1 c2
    refine ww_iload C 4 3 rfl dX9_decimal_397 ?_
    refine ww_bipush C (z := 101) dX9_decimal_399 rfl ?_
    obtain ⟨p3, hy⟩ := hy
    refine ww_icmp_eq C (tg := 460) dX9_decimal_401 (by decide) p3.1 p3.2 (fun c4 => ?_) (fun c4 => ?_)
    · have hy := hy.1 c4
      refine ww_iload C 14 0 rfl dX9_decimal_460 ?_
      refine ww_iload C 13 7 rfl dX9_decimal_462 ?_
      refine ww_iadd C dX9_decimal_464 ?_
      refine ww_sipush C (z := 1300) dX9_decimal_465 rfl ?_
      obtain ⟨p5, hy⟩ := hy
      refine ww_icmp_gt C (tg := 482) dX9_decimal_468 (by decide) p5.1 p5.2 (fun c6 => ?_) (fun c6 => ?_)
      · have hy := hy.1 c6
        exact ww_sub [] rfl (by decide) (by decide) hy
      · have hy := hy.2 c6
        refine ww_iload C 14 0 rfl dX9_decimal_471 ?_
        refine ww_iload C 13 7 rfl dX9_decimal_473 ?_
        refine ww_iadd C dX9_decimal_475 ?_
        refine ww_sipush C (z := (-1300)) dX9_decimal_476 rfl ?_
        obtain ⟨p7, hy⟩ := hy
        refine ww_icmp_ge C (tg := 484) dX9_decimal_479 (by decide) p7.1 p7.2 (fun c8 => ?_) (fun c8 => ?_)
        · have hy := hy.1 c8
          exact ww_sub [1, 2, 3, 4, 5, 6, 7] rfl (by decide) (by decide) hy
        · have hy := hy.2 c8
          exact ww_sub [] rfl (by decide) (by decide) hy
    · have hy := hy.2 c4
      refine ww_iload C 14 0 rfl dX9_decimal_404 ?_
      refine ww_iload C 13 7 rfl dX9_decimal_406 ?_
      refine ww_iadd C dX9_decimal_408 ?_
      refine ww_sipush C (z := 330) dX9_decimal_409 rfl ?_
      obtain ⟨p9, hy⟩ := hy
      refine ww_icmp_le C (tg := 433) dX9_decimal_412 (by decide) p9.1 p9.2 (fun c10 => ?_) (fun c10 => ?_)
      · have hy := hy.1 c10
        refine ww_iload C 14 0 rfl dX9_decimal_433 ?_
        refine ww_iload C 13 7 rfl dX9_decimal_435 ?_
        refine ww_iadd C dX9_decimal_437 ?_
        refine ww_sipush C (z := (-350)) dX9_decimal_438 rfl ?_
        obtain ⟨p11, hy⟩ := hy
        refine ww_icmp_ge C (tg := 484) dX9_decimal_441 (by decide) p11.1 p11.2 (fun c12 => ?_) (fun c12 => ?_)
        · have hy := hy.1 c12
          exact ww_sub [1, 2, 3, 4, 5, 6, 7] rfl (by decide) (by decide) hy
        · have hy := hy.2 c12
          refine ww_iload C 5 4 rfl dX9_decimal_444 ?_
          obtain ⟨p13, hy⟩ := hy
          refine ww_if_eq C (tg := 455) dX9_decimal_446 (by decide) p13 (fun c14 => ?_) (fun c14 => ?_)
          · have hy := hy.1 c14
            refine ww_dconst0 C dX9_decimal_455 ?_
            exact ww_sub [] rfl (by decide) (by decide) hy
          · have hy := hy.2 c14
            refine ww_ldc2d C q_735 dX9_decimal_449 ?_
            refine ww_goto C (tg := 456) dX9_decimal_452 (by decide) ?_
            exact ww_sub [] rfl (by decide) (by decide) hy
      · have hy := hy.2 c10
        refine ww_iload C 5 4 rfl dX9_decimal_415 ?_
        obtain ⟨p15, hy⟩ := hy
        refine ww_if_eq C (tg := 426) dX9_decimal_417 (by decide) p15 (fun c16 => ?_) (fun c16 => ?_)
        · have hy := hy.1 c16
          refine ww_ldc2d C q_597 dX9_decimal_426 ?_
          exact ww_sub [] rfl (by decide) (by decide) hy
        · have hy := hy.2 c16
          refine ww_ldc2d C q_736 dX9_decimal_420 ?_
          refine ww_goto C (tg := 429) dX9_decimal_423 (by decide) ?_
          exact ww_sub [] rfl (by decide) (by decide) hy
  · have hy := hy.2 c2
    refine ww_iload C 4 3 rfl dX9_decimal_368 ?_
    refine ww_bipush C (z := 101) dX9_decimal_370 rfl ?_
    obtain ⟨p17, hy⟩ := hy
    refine ww_icmp_ne C (tg := 381) dX9_decimal_372 (by decide) p17.1 p17.2 (fun c18 => ?_) (fun c18 => ?_)
    · have hy := hy.1 c18
      refine ww_iload C 5 4 rfl dX9_decimal_381 ?_
      obtain ⟨p19, hy⟩ := hy
      refine ww_if_eq C (tg := 392) dX9_decimal_383 (by decide) p19 (fun c20 => ?_) (fun c20 => ?_)
      · have hy := hy.1 c20
        refine ww_dconst0 C dX9_decimal_392 ?_
        exact ww_sub [] rfl (by decide) (by decide) hy
      · have hy := hy.2 c20
        refine ww_ldc2d C q_735 dX9_decimal_386 ?_
        refine ww_goto C (tg := 393) dX9_decimal_389 (by decide) ?_
        exact ww_sub [] rfl (by decide) (by decide) hy
    · have hy := hy.2 c18
      refine cl_X9_7 C dX9_decimal_375 (Nat.le_of_ble_eq_true rfl) ⟨by decide, by decide⟩ ⟨by decide, by decide⟩ ?_
      refine S_X9_zero.mono hy (fun z21 n23 h22 hy => ?_)
      refine ww_goto C (tg := 396) dX9_decimal_378 (by decide) ?_
      exact ww_sub [] rfl (by decide) (by decide) hy
set_option maxRecDepth 100000 in
set_option maxHeartbeats 4000000 in
theorem X9_decimal_b482 {G : xG} {k : xK} {n0 : Nat} {Po : Int → Nat → xH → Prop} (C : CC G k cX9_decimal RX9 19 rm_X9_decimal) (E : CQ G k (some (.object "DoubleTextsModel$Num")) rm_X9_decimal (fun r n1 h1 => ∃ z : Int, r = some (vR G z) ∧ Po z n1 h1))  (n : Nat) (h : xH) (hy : Po (-1) n h) : X9_decimal_w482 G k  n h := by
  refine ww_null C dX9_decimal_482 ?_
  show WW _ _ _ _ _ _ _ (vR G (-1) :: _) _ _
  exact ww_aret C E (Or.inl ⟨_, rfl⟩) dX9_decimal_483 (by decide) (by decide) ⟨_, rfl, hy⟩
set_option maxRecDepth 100000 in
set_option maxHeartbeats 4000000 in
theorem X9_decimal_b484 {G : xG} {k : xK} {n0 : Nat} {Po : Int → Nat → xH → Prop} (C : CC G k cX9_decimal RX9 19 rm_X9_decimal) (E : CQ G k (some (.object "DoubleTextsModel$Num")) rm_X9_decimal (fun r n1 h1 => ∃ z : Int, r = some (vR G z) ∧ Po z n1 h1)) (x0 : Nat) (x1 : Nat) (x4 : Int) (x5 : Int) (x10 : Int) (x11 : Int) (x13 : Int) (n : Nat) (h : xH) (hy : okO n h x0 8 ∧ S_X9_digits G (kl k) x0 x1 x10 x11 10 n h (fun z2 n4 h3 => rg x13 ∧ ((x13 ≤ 0 → okO n4 h3 x0 8 ∧ 0 ≤ hG h3 x0 0 ∧ X9_decimal_w514 G k x0 x4 x5 x13 z2 ((hG h3 x0 0).toNat) n4 h3) ∧ (¬ x13 ≤ 0 → okO n4 h3 z2 7 ∧ 0 ≤ hG h3 z2 1 ∧ X9_decimal_w514 G k x0 x4 x5 x13 z2 ((hG h3 z2 1).toNat) n4 h3)))) : X9_decimal_w484 G k x0 x1 x4 x5 x10 x11 x13 n h := by
  refine ww_aload_n C 0 0 rfl rfl dX9_decimal_484 ?_
  refine ww_aload_n C 1 1 rfl rfl dX9_decimal_485 ?_
  refine ww_iload C 10 4 rfl dX9_decimal_486 ?_
  refine ww_iload C 11 5 rfl dX9_decimal_488 ?_
  refine ww_bipush C (z := 10) dX9_decimal_490 rfl ?_
  obtain ⟨p1, hy⟩ := hy
  refine cl_X9_332 C dX9_decimal_492 (Nat.le_of_ble_eq_true rfl) ⟨by decide, by decide⟩ ⟨by decide, by decide⟩ p1 ?_
  refine S_X9_digits.mono hy (fun z2 n4 h3 hy => ?_)
  refine ww_astore C 15 (by decide) rfl dX9_decimal_495 ?_
  refine ww_iload C 13 7 rfl dX9_decimal_497 ?_
  obtain ⟨p5, hy⟩ := hy
  refine ww_if_le C (tg := 510) dX9_decimal_499 (by decide) p5 (fun c6 => ?_) (fun c6 => ?_)
  · have hy := hy.1 c6
    refine ww_aload_n C 0 1 rfl rfl dX9_decimal_510 ?_
    obtain ⟨p7, hy⟩ := hy
    obtain ⟨p8, hy⟩ := hy
    refine gf_X9_125 C dX9_decimal_511 p7 p8 ?_
    exact ww_sub [1, 3, 4, 7, 0] rfl (by decide) (by decide) hy
  · have hy := hy.2 c6
    refine ww_aload C 15 0 rfl dX9_decimal_502 ?_
    obtain ⟨p9, hy⟩ := hy
    obtain ⟨p10, hy⟩ := hy
    refine gf_X9_104 C dX9_decimal_504 p9 p10 ?_
    refine ww_goto C (tg := 514) dX9_decimal_507 (by decide) ?_
    exact ww_sub [1, 3, 4, 7, 0] rfl (by decide) (by decide) hy
set_option maxRecDepth 100000 in
set_option maxHeartbeats 4000000 in
theorem X9_decimal_b456 {G : xG} {k : xK} {n0 : Nat} {Po : Int → Nat → xH → Prop} (C : CC G k cX9_decimal RX9 19 rm_X9_decimal) (E : CQ G k (some (.object "DoubleTextsModel$Num")) rm_X9_decimal (fun r n1 h1 => ∃ z : Int, r = some (vR G z) ∧ Po z n1 h1)) (s0 : UInt64) (n : Nat) (h : xH) (hy : S_X7_of G (kl k) s0 n h (fun z1 n3 h2 => Po ((z1 : Nat) : Int) n3 h2)) : X9_decimal_w456 G k s0 n h := by
  refine cl_X9_238 C dX9_decimal_456 (Nat.le_of_ble_eq_true rfl) ⟨by decide, by decide⟩ ⟨by decide, by decide⟩ ?_
  refine S_X7_of.mono hy (fun z1 n3 h2 hy => ?_)
  refine ww_rv ?_
  exact ww_aret C E (Or.inl ⟨_, rfl⟩) dX9_decimal_459 (by decide) (by decide) ⟨_, rfl, hy⟩
set_option maxRecDepth 100000 in
set_option maxHeartbeats 4000000 in
theorem X9_decimal_b429 {G : xG} {k : xK} {n0 : Nat} {Po : Int → Nat → xH → Prop} (C : CC G k cX9_decimal RX9 19 rm_X9_decimal) (E : CQ G k (some (.object "DoubleTextsModel$Num")) rm_X9_decimal (fun r n1 h1 => ∃ z : Int, r = some (vR G z) ∧ Po z n1 h1)) (s0 : UInt64) (n : Nat) (h : xH) (hy : S_X7_of G (kl k) s0 n h (fun z1 n3 h2 => Po ((z1 : Nat) : Int) n3 h2)) : X9_decimal_w429 G k s0 n h := by
  refine cl_X9_238 C dX9_decimal_429 (Nat.le_of_ble_eq_true rfl) ⟨by decide, by decide⟩ ⟨by decide, by decide⟩ ?_
  refine S_X7_of.mono hy (fun z1 n3 h2 hy => ?_)
  refine ww_rv ?_
  exact ww_aret C E (Or.inl ⟨_, rfl⟩) dX9_decimal_432 (by decide) (by decide) ⟨_, rfl, hy⟩
set_option maxRecDepth 100000 in
set_option maxHeartbeats 4000000 in
theorem X9_decimal_b393 {G : xG} {k : xK} {n0 : Nat} {Po : Int → Nat → xH → Prop} (C : CC G k cX9_decimal RX9 19 rm_X9_decimal) (E : CQ G k (some (.object "DoubleTextsModel$Num")) rm_X9_decimal (fun r n1 h1 => ∃ z : Int, r = some (vR G z) ∧ Po z n1 h1)) (s0 : UInt64) (n : Nat) (h : xH) (hy : S_X7_of G (kl k) s0 n h (fun z1 n3 h2 => X9_decimal_w396 G k z1 n3 h2)) : X9_decimal_w393 G k s0 n h := by
  refine cl_X9_238 C dX9_decimal_393 (Nat.le_of_ble_eq_true rfl) ⟨by decide, by decide⟩ ⟨by decide, by decide⟩ ?_
  refine S_X7_of.mono hy (fun z1 n3 h2 hy => ?_)
  exact ww_sub [] rfl (by decide) (by decide) hy
set_option maxRecDepth 100000 in
set_option maxHeartbeats 4000000 in
theorem X9_decimal_b396 {G : xG} {k : xK} {n0 : Nat} {Po : Int → Nat → xH → Prop} (C : CC G k cX9_decimal RX9 19 rm_X9_decimal) (E : CQ G k (some (.object "DoubleTextsModel$Num")) rm_X9_decimal (fun r n1 h1 => ∃ z : Int, r = some (vR G z) ∧ Po z n1 h1)) (s0 : Nat) (n : Nat) (h : xH) (hy : Po ((s0 : Nat) : Int) n h) : X9_decimal_w396 G k s0 n h := by
  refine ww_rv ?_
  exact ww_aret C E (Or.inl ⟨_, rfl⟩) dX9_decimal_396 (by decide) (by decide) ⟨_, rfl, hy⟩
set_option maxRecDepth 100000 in
set_option maxHeartbeats 4000000 in
theorem X9_decimal_b514 {G : xG} {k : xK} {n0 : Nat} {Po : Int → Nat → xH → Prop} (C : CC G k cX9_decimal RX9 19 rm_X9_decimal) (E : CQ G k (some (.object "DoubleTextsModel$Num")) rm_X9_decimal (fun r n1 h1 => ∃ z : Int, r = some (vR G z) ∧ Po z n1 h1)) (x0 : Nat) (x4 : Int) (x5 : Int) (x13 : Int) (x15 : Nat) (s0 : Nat) (n : Nat) (h : xH) (hy : okO n h x0 8 ∧ 0 ≤ hG h x0 2 ∧ rg x13 ∧ ((x13 ≤ 0 → X9_decimal_w533 G k x0 x4 x5 x13 x15 1 ((hG h x0 2).toNat) s0 n h) ∧ (¬ x13 ≤ 0 → okO n h x15 7 ∧ 0 ≤ hG h x15 1 ∧ (((hG h x15 1).toNat) < n ∧ ((h ((hG h x15 1).toNat)).1 = 100 ∨ (h ((hG h x15 1).toNat)).1 = 101)) ∧ X9_decimal_w533 G k x0 x4 x5 x13 x15 ((h ((hG h x15 1).toNat)).2.1 : Int) ((hG h x0 2).toNat) s0 n h))) : X9_decimal_w514 G k x0 x4 x5 x13 x15 s0 n h := by
  refine ww_aload_n C 0 0 rfl rfl dX9_decimal_514 ?_
  obtain ⟨p1, hy⟩ := hy
  obtain ⟨p2, hy⟩ := hy
  refine gf_X9_235 C dX9_decimal_515 p1 p2 ?_
  refine ww_iload C 13 3 rfl dX9_decimal_518 ?_
  obtain ⟨p3, hy⟩ := hy
  refine ww_if_le C (tg := 532) dX9_decimal_520 (by decide) p3 (fun c4 => ?_) (fun c4 => ?_)
  · have hy := hy.1 c4
    refine ww_iconst C (z := 1) dX9_decimal_532 rfl ?_
    exact ww_sub [0, 1, 2, 3, 4] rfl (by decide) (by decide) hy
  · have hy := hy.2 c4
    refine ww_aload C 15 4 rfl dX9_decimal_523 ?_
    obtain ⟨p5, hy⟩ := hy
    obtain ⟨p6, hy⟩ := hy
    refine gf_X9_104 C dX9_decimal_525 p5 p6 ?_
    obtain ⟨p7, hy⟩ := hy
    refine ww_alen C dX9_decimal_528 p7.1 p7.2 ?_
    refine ww_goto C (tg := 533) dX9_decimal_529 (by decide) ?_
    exact ww_sub [0, 1, 2, 3, 4] rfl (by decide) (by decide) hy
set_option maxRecDepth 100000 in
set_option maxHeartbeats 4000000 in
theorem X9_decimal_b533 {G : xG} {k : xK} {n0 : Nat} {Po : Int → Nat → xH → Prop} (C : CC G k cX9_decimal RX9 19 rm_X9_decimal) (E : CQ G k (some (.object "DoubleTextsModel$Num")) rm_X9_decimal (fun r n1 h1 => ∃ z : Int, r = some (vR G z) ∧ Po z n1 h1)) (x0 : Nat) (x4 : Int) (x5 : Int) (x13 : Int) (x15 : Nat) (s0 : Int) (s1 : Nat) (s2 : Nat) (n : Nat) (h : xH) (hy : S_X9_copyRow G (kl k) s2 s1 s0 n h (fun h1 => okO n h1 x0 8 ∧ 0 ≤ hG h1 x0 2 ∧ rg x13 ∧ ((x13 ≤ 0 → X9_decimal_w555 G k x0 x4 x5 x13 x15 1 ((hG h1 x0 2).toNat) n h1) ∧ (¬ x13 ≤ 0 → okO n h1 x15 7 ∧ 0 ≤ hG h1 x15 1 ∧ (((hG h1 x15 1).toNat) < n ∧ ((h1 ((hG h1 x15 1).toNat)).1 = 100 ∨ (h1 ((hG h1 x15 1).toNat)).1 = 101)) ∧ X9_decimal_w555 G k x0 x4 x5 x13 x15 ((h1 ((hG h1 x15 1).toNat)).2.1 : Int) ((hG h1 x0 2).toNat) n h1)))) : X9_decimal_w533 G k x0 x4 x5 x13 x15 s0 s1 s2 n h := by
  refine cl_X9_61 C dX9_decimal_533 (Nat.le_of_ble_eq_true rfl) ⟨by decide, by decide⟩ ⟨by decide, by decide⟩ ?_
  refine S_X9_copyRow.mono hy (fun h1 hy => ?_)
  refine ww_aload_n C 0 0 rfl rfl dX9_decimal_536 ?_
  obtain ⟨p2, hy⟩ := hy
  obtain ⟨p3, hy⟩ := hy
  refine gf_X9_235 C dX9_decimal_537 p2 p3 ?_
  refine ww_iload C 13 3 rfl dX9_decimal_540 ?_
  obtain ⟨p4, hy⟩ := hy
  refine ww_if_le C (tg := 554) dX9_decimal_542 (by decide) p4 (fun c5 => ?_) (fun c5 => ?_)
  · have hy := hy.1 c5
    refine ww_iconst C (z := 1) dX9_decimal_554 rfl ?_
    exact ww_sub [0, 1, 2, 3, 4] rfl (by decide) (by decide) hy
  · have hy := hy.2 c5
    refine ww_aload C 15 4 rfl dX9_decimal_545 ?_
    obtain ⟨p6, hy⟩ := hy
    obtain ⟨p7, hy⟩ := hy
    refine gf_X9_104 C dX9_decimal_547 p6 p7 ?_
    obtain ⟨p8, hy⟩ := hy
    refine ww_alen C dX9_decimal_550 p8.1 p8.2 ?_
    refine ww_goto C (tg := 555) dX9_decimal_551 (by decide) ?_
    exact ww_sub [0, 1, 2, 3, 4] rfl (by decide) (by decide) hy
set_option maxRecDepth 100000 in
set_option maxHeartbeats 4000000 in
theorem X9_decimal_b555 {G : xG} {k : xK} {n0 : Nat} {Po : Int → Nat → xH → Prop} (C : CC G k cX9_decimal RX9 19 rm_X9_decimal) (E : CQ G k (some (.object "DoubleTextsModel$Num")) rm_X9_decimal (fun r n1 h1 => ∃ z : Int, r = some (vR G z) ∧ Po z n1 h1)) (x0 : Nat) (x4 : Int) (x5 : Int) (x13 : Int) (x15 : Nat) (s0 : Int) (s1 : Nat) (n : Nat) (h : xH) (hy : rg x13 ∧ ((x13 ≤ 0 → X9_decimal_w568 G k x0 x4 x5 x13 x15 (-x13) s0 s1 n h) ∧ (¬ x13 ≤ 0 → X9_decimal_w568 G k x0 x4 x5 x13 x15 x13 s0 s1 n h))) : X9_decimal_w555 G k x0 x4 x5 x13 x15 s0 s1 n h := by
  refine ww_iload C 13 3 rfl dX9_decimal_555 ?_
  obtain ⟨p1, hy⟩ := hy
  refine ww_if_le C (tg := 565) dX9_decimal_557 (by decide) p1 (fun c2 => ?_) (fun c2 => ?_)
  · have hy := hy.1 c2
    refine ww_iload C 13 3 rfl dX9_decimal_565 ?_
    refine ww_ineg C dX9_decimal_567 ?_
    exact ww_sub [0, 1, 2, 3, 4] rfl (by decide) (by decide) hy
  · have hy := hy.2 c2
    refine ww_iload C 13 3 rfl dX9_decimal_560 ?_
    refine ww_goto C (tg := 568) dX9_decimal_562 (by decide) ?_
    exact ww_sub [0, 1, 2, 3, 4] rfl (by decide) (by decide) hy
set_option maxRecDepth 100000 in
set_option maxHeartbeats 4000000 in
theorem X9_decimal_b568 {G : xG} {k : xK} {n0 : Nat} {Po : Int → Nat → xH → Prop} (C : CC G k cX9_decimal RX9 19 rm_X9_decimal) (E : CQ G k (some (.object "DoubleTextsModel$Num")) rm_X9_decimal (fun r n1 h1 => ∃ z : Int, r = some (vR G z) ∧ Po z n1 h1)) (x0 : Nat) (x4 : Int) (x5 : Int) (x13 : Int) (x15 : Nat) (s0 : Int) (s1 : Int) (s2 : Nat) (n : Nat) (h : xH) (hy : S_X9_tenfold G (kl k) s2 s1 s0 n h (fun z1 h2 => (rg x4 ∧ rg (101 : Int)) ∧ ((¬ x4 = (101 : Int) → rg x13 ∧ ((x13 ≤ 0 → okO n h2 x15 7 ∧ 0 ≤ hG h2 x15 1 ∧ okO n h2 x15 7 ∧ 0 ≤ hG h2 x15 1 ∧ (((hG h2 x15 1).toNat) < n ∧ ((h2 ((hG h2 x15 1).toNat)).1 = 100 ∨ (h2 ((hG h2 x15 1).toNat)).1 = 101)) ∧ okO n h2 x0 8 ∧ 0 ≤ hG h2 x0 2 ∧ okO n h2 x0 8 ∧ S_X9_nearest G (kl k) x0 ((hG h2 x15 1).toNat) ((h2 ((hG h2 x15 1).toNat)).2.1 : Int) ((hG h2 x0 2).toNat) z1 n h2 (fun z15 h16 => X9_decimal_w686 G k x5 z15 n h16)) ∧ (¬ x13 ≤ 0 → okO n h2 x0 8 ∧ 0 ≤ hG h2 x0 2 ∧ okO n h2 x0 8 ∧ 0 ≤ hG h2 x0 0 ∧ okO n h2 x0 8 ∧ S_X9_nearest G (kl k) x0 ((hG h2 x0 2).toNat) z1 ((hG h2 x0 0).toNat) 1 n h2 (fun z22 h23 => X9_decimal_w686 G k x5 z22 n h23)))) ∧ (x4 = (101 : Int) → rg x13 ∧ ((x13 ≤ 0 → okO n h2 x15 7 ∧ 0 ≤ hG h2 x15 1 ∧ okO n h2 x15 7 ∧ 0 ≤ hG h2 x15 1 ∧ (((hG h2 x15 1).toNat) < n ∧ ((h2 ((hG h2 x15 1).toNat)).1 = 100 ∨ (h2 ((hG h2 x15 1).toNat)).1 = 101)) ∧ okO n h2 x0 8 ∧ 0 ≤ hG h2 x0 2 ∧ okO n h2 x0 8 ∧ S_X9_fraction G (kl k) x0 ((hG h2 x15 1).toNat) ((h2 ((hG h2 x15 1).toNat)).2.1 : Int) ((hG h2 x0 2).toNat) z1 n h2 (fun z34 n36 h35 => X9_decimal_w619 G k x5 z34 n36 h35)) ∧ (¬ x13 ≤ 0 → okO n h2 x0 8 ∧ 0 ≤ hG h2 x0 2 ∧ okO n h2 x0 8 ∧ S_X9_kept G (kl k) x0 ((hG h2 x0 2).toNat) z1 n h2 (fun z40 n42 h41 => X9_decimal_w619 G k x5 z40 n42 h41))))))) : X9_decimal_w568 G k x0 x4 x5 x13 x15 s0 s1 s2 n h := by
  refine cl_X9_278 C dX9_decimal_568 (Nat.le_of_ble_eq_true rfl) ⟨by decide, by decide⟩ ⟨by decide, by decide⟩ ?_
  refine S_X9_tenfold.mono hy (fun z1 h2 hy => ?_)
  refine ww_istore C 16 (by decide) rfl dX9_decimal_571 ?_
  refine ww_iload C 4 2 rfl dX9_decimal_573 ?_
  refine ww_bipush C (z := 101) dX9_decimal_575 rfl ?_
  obtain ⟨p3, hy⟩ := hy
  refine ww_icmp_ne C (tg := 642) dX9_decimal_577 (by decide) p3.1 p3.2 (fun c4 => ?_) (fun c4 => ?_)
  · have hy := hy.1 c4
    refine ww_iload C 13 4 rfl dX9_decimal_642 ?_
    obtain ⟨p5, hy⟩ := hy
    refine ww_if_le C (tg := 665) dX9_decimal_644 (by decide) p5 (fun c6 => ?_) (fun c6 => ?_)
    · have hy := hy.1 c6
      refine ww_aload_n C 0 1 rfl rfl dX9_decimal_665 ?_
      refine ww_aload C 15 5 rfl dX9_decimal_666 ?_
      obtain ⟨p7, hy⟩ := hy
      obtain ⟨p8, hy⟩ := hy
      refine gf_X9_104 C dX9_decimal_668 p7 p8 ?_
      refine ww_aload C 15 5 rfl dX9_decimal_671 ?_
      obtain ⟨p9, hy⟩ := hy
      obtain ⟨p10, hy⟩ := hy
      refine gf_X9_104 C dX9_decimal_673 p9 p10 ?_
      obtain ⟨p11, hy⟩ := hy
      refine ww_alen C dX9_decimal_676 p11.1 p11.2 ?_
      refine ww_aload_n C 0 1 rfl rfl dX9_decimal_677 ?_
      obtain ⟨p12, hy⟩ := hy
      obtain ⟨p13, hy⟩ := hy
      refine gf_X9_235 C dX9_decimal_678 p12 p13 ?_
      refine ww_iload C 16 0 rfl dX9_decimal_681 ?_
      obtain ⟨p14, hy⟩ := hy
      refine cl_X9_223 C dX9_decimal_683 (Nat.le_of_ble_eq_true rfl) ⟨by decide, by decide⟩ ⟨by decide, by decide⟩ p14 ?_
      refine S_X9_nearest.mono hy (fun z15 h16 hy => ?_)
      exact ww_sub [3] rfl (by decide) (by decide) hy
    · have hy := hy.2 c6
      refine ww_aload_n C 0 1 rfl rfl dX9_decimal_647 ?_
      refine ww_aload_n C 0 1 rfl rfl dX9_decimal_648 ?_
      obtain ⟨p17, hy⟩ := hy
      obtain ⟨p18, hy⟩ := hy
      refine gf_X9_235 C dX9_decimal_649 p17 p18 ?_
      refine ww_iload C 16 0 rfl dX9_decimal_652 ?_
      refine ww_aload_n C 0 1 rfl rfl dX9_decimal_654 ?_
      obtain ⟨p19, hy⟩ := hy
      obtain ⟨p20, hy⟩ := hy
      refine gf_X9_125 C dX9_decimal_655 p19 p20 ?_
      refine ww_iconst C (z := 1) dX9_decimal_658 rfl ?_
      obtain ⟨p21, hy⟩ := hy
      refine cl_X9_223 C dX9_decimal_659 (Nat.le_of_ble_eq_true rfl) ⟨by decide, by decide⟩ ⟨by decide, by decide⟩ p21 ?_
      refine S_X9_nearest.mono hy (fun z22 h23 hy => ?_)
      refine ww_goto C (tg := 686) dX9_decimal_662 (by decide) ?_
      exact ww_sub [3] rfl (by decide) (by decide) hy
  · have hy := hy.2 c4
    refine ww_iload C 13 4 rfl dX9_decimal_580 ?_
    obtain ⟨p24, hy⟩ := hy
    refine ww_if_le C (tg := 598) dX9_decimal_582 (by decide) p24 (fun c25 => ?_) (fun c25 => ?_)
    · have hy := hy.1 c25
      refine ww_aload_n C 0 1 rfl rfl dX9_decimal_598 ?_
      refine ww_aload C 15 5 rfl dX9_decimal_599 ?_
      obtain ⟨p26, hy⟩ := hy
      obtain ⟨p27, hy⟩ := hy
      refine gf_X9_104 C dX9_decimal_601 p26 p27 ?_
      refine ww_aload C 15 5 rfl dX9_decimal_604 ?_
      obtain ⟨p28, hy⟩ := hy
      obtain ⟨p29, hy⟩ := hy
      refine gf_X9_104 C dX9_decimal_606 p28 p29 ?_
      obtain ⟨p30, hy⟩ := hy
      refine ww_alen C dX9_decimal_609 p30.1 p30.2 ?_
      refine ww_aload_n C 0 1 rfl rfl dX9_decimal_610 ?_
      obtain ⟨p31, hy⟩ := hy
      obtain ⟨p32, hy⟩ := hy
      refine gf_X9_235 C dX9_decimal_611 p31 p32 ?_
      refine ww_iload C 16 0 rfl dX9_decimal_614 ?_
      obtain ⟨p33, hy⟩ := hy
      refine cl_X9_335 C dX9_decimal_616 (Nat.le_of_ble_eq_true rfl) ⟨by decide, by decide⟩ ⟨by decide, by decide⟩ p33 ?_
      refine S_X9_fraction.mono hy (fun z34 n36 h35 hy => ?_)
      exact ww_sub [3] rfl (by decide) (by decide) hy
    · have hy := hy.2 c25
      refine ww_aload_n C 0 1 rfl rfl dX9_decimal_585 ?_
      refine ww_aload_n C 0 1 rfl rfl dX9_decimal_586 ?_
      obtain ⟨p37, hy⟩ := hy
      obtain ⟨p38, hy⟩ := hy
      refine gf_X9_235 C dX9_decimal_587 p37 p38 ?_
      refine ww_iload C 16 0 rfl dX9_decimal_590 ?_
      obtain ⟨p39, hy⟩ := hy
      refine cl_X9_177 C dX9_decimal_592 (Nat.le_of_ble_eq_true rfl) ⟨by decide, by decide⟩ ⟨by decide, by decide⟩ p39 ?_
      refine S_X9_kept.mono hy (fun z40 n42 h41 hy => ?_)
      refine ww_goto C (tg := 619) dX9_decimal_595 (by decide) ?_
      exact ww_sub [3] rfl (by decide) (by decide) hy
set_option maxRecDepth 100000 in
set_option maxHeartbeats 4000000 in
theorem X9_decimal_b686 {G : xG} {k : xK} {n0 : Nat} {Po : Int → Nat → xH → Prop} (C : CC G k cX9_decimal RX9 19 rm_X9_decimal) (E : CQ G k (some (.object "DoubleTextsModel$Num")) rm_X9_decimal (fun r n1 h1 => ∃ z : Int, r = some (vR G z) ∧ Po z n1 h1)) (x5 : Int) (s0 : UInt64) (n : Nat) (h : xH) (hy : rg x5 ∧ ((x5 = 0 → X9_decimal_w701 G k s0 n h) ∧ (¬ x5 = 0 → X9_decimal_w701 G k (FP.dneg s0) n h))) : X9_decimal_w686 G k x5 s0 n h := by
  refine ww_dstore C 17 (by decide) rfl dX9_decimal_686 ?_
  refine ww_iload C 5 1 rfl dX9_decimal_688 ?_
  obtain ⟨p1, hy⟩ := hy
  refine ww_if_eq C (tg := 699) dX9_decimal_690 (by decide) p1 (fun c2 => ?_) (fun c2 => ?_)
  · have hy := hy.1 c2
    refine ww_dload C 17 0 rfl dX9_decimal_699 ?_
    exact ww_sub [] rfl (by decide) (by decide) hy
  · have hy := hy.2 c2
    refine ww_dload C 17 0 rfl dX9_decimal_693 ?_
    refine ww_dneg C dX9_decimal_695 ?_
    refine ww_goto C (tg := 701) dX9_decimal_696 (by decide) ?_
    exact ww_sub [] rfl (by decide) (by decide) hy
set_option maxRecDepth 100000 in
set_option maxHeartbeats 4000000 in
theorem X9_decimal_b619 {G : xG} {k : xK} {n0 : Nat} {Po : Int → Nat → xH → Prop} (C : CC G k cX9_decimal RX9 19 rm_X9_decimal) (E : CQ G k (some (.object "DoubleTextsModel$Num")) rm_X9_decimal (fun r n1 h1 => ∃ z : Int, r = some (vR G z) ∧ Po z n1 h1)) (x5 : Int) (s0 : Int) (n : Nat) (h : xH) (hy : ((s0 < 0 → X9_decimal_w639 G k s0 n h) ∧ (¬ s0 < 0 → rg x5 ∧ ((x5 = 0 → X9_decimal_w639 G k s0 n h) ∧ (¬ x5 = 0 → S_X9_negated G (kl k) s0 n h (fun z4 n6 h5 => X9_decimal_w641 G k z4 n6 h5)))))) : X9_decimal_w619 G k x5 s0 n h := by
  refine ww_Nstore C 17 (by decide) rfl dX9_decimal_619 ?_
  refine ww_Nload C 17 0 rfl dX9_decimal_621 ?_
  refine ww_ifnull C (tg := 639) dX9_decimal_623 (by decide) (fun c1 => ?_) (fun c1 => ?_)
  · have hy := hy.1 c1
    exact ww_sub [0] rfl (by decide) (by decide) hy
  · have hy := hy.2 c1
    refine ww_iload C 5 1 rfl dX9_decimal_626 ?_
    obtain ⟨p2, hy⟩ := hy
    refine ww_if_eq C (tg := 639) dX9_decimal_628 (by decide) p2 (fun c3 => ?_) (fun c3 => ?_)
    · have hy := hy.1 c3
      exact ww_sub [0] rfl (by decide) (by decide) hy
    · have hy := hy.2 c3
      refine ww_Nload C 17 0 rfl dX9_decimal_631 ?_
      refine cl_X9_339 C dX9_decimal_633 (Nat.le_of_ble_eq_true rfl) ⟨by decide, by decide⟩ ⟨by decide, by decide⟩ ?_
      refine S_X9_negated.mono hy (fun z4 n6 h5 hy => ?_)
      refine ww_goto C (tg := 641) dX9_decimal_636 (by decide) ?_
      exact ww_sub [] rfl (by decide) (by decide) hy
set_option maxRecDepth 100000 in
set_option maxHeartbeats 4000000 in
theorem X9_decimal_b701 {G : xG} {k : xK} {n0 : Nat} {Po : Int → Nat → xH → Prop} (C : CC G k cX9_decimal RX9 19 rm_X9_decimal) (E : CQ G k (some (.object "DoubleTextsModel$Num")) rm_X9_decimal (fun r n1 h1 => ∃ z : Int, r = some (vR G z) ∧ Po z n1 h1)) (s0 : UInt64) (n : Nat) (h : xH) (hy : S_X7_of G (kl k) s0 n h (fun z1 n3 h2 => Po ((z1 : Nat) : Int) n3 h2)) : X9_decimal_w701 G k s0 n h := by
  refine cl_X9_238 C dX9_decimal_701 (Nat.le_of_ble_eq_true rfl) ⟨by decide, by decide⟩ ⟨by decide, by decide⟩ ?_
  refine S_X7_of.mono hy (fun z1 n3 h2 hy => ?_)
  refine ww_rv ?_
  exact ww_aret C E (Or.inl ⟨_, rfl⟩) dX9_decimal_704 (by decide) (by decide) ⟨_, rfl, hy⟩
set_option maxRecDepth 100000 in
set_option maxHeartbeats 4000000 in
theorem X9_decimal_b639 {G : xG} {k : xK} {n0 : Nat} {Po : Int → Nat → xH → Prop} (C : CC G k cX9_decimal RX9 19 rm_X9_decimal) (E : CQ G k (some (.object "DoubleTextsModel$Num")) rm_X9_decimal (fun r n1 h1 => ∃ z : Int, r = some (vR G z) ∧ Po z n1 h1)) (x17 : Int) (n : Nat) (h : xH) (hy : X9_decimal_w641 G k x17 n h) : X9_decimal_w639 G k x17 n h := by
  refine ww_Nload C 17 0 rfl dX9_decimal_639 ?_
  exact ww_sub [] rfl (by decide) (by decide) hy
set_option maxRecDepth 100000 in
set_option maxHeartbeats 4000000 in
theorem X9_decimal_b641 {G : xG} {k : xK} {n0 : Nat} {Po : Int → Nat → xH → Prop} (C : CC G k cX9_decimal RX9 19 rm_X9_decimal) (E : CQ G k (some (.object "DoubleTextsModel$Num")) rm_X9_decimal (fun r n1 h1 => ∃ z : Int, r = some (vR G z) ∧ Po z n1 h1)) (s0 : Int) (n : Nat) (h : xH) (hy : Po s0 n h) : X9_decimal_w641 G k s0 n h := by
  exact ww_aret C E (Or.inl ⟨_, rfl⟩) dX9_decimal_641 (by decide) (by decide) ⟨_, rfl, hy⟩
abbrev X9_unsigned_w0 (G : xG) (k : xK) (x0 : Nat) (x1 : Nat) (x2 : Int) (x3 : Int) (x4 : Int) (x5 : Int) (x6 : Int) (n : Nat) (h : xH) : Prop := WW G k 13 0 0 0 [(0, rf G x0), (1, rf G x1), (2, .int (iz x2)), (3, .int (iz x3)), (4, .int (iz x4)), (5, .int (iz x5)), (6, .int (iz x6))] [] n h
abbrev X9_unsigned_w3 (G : xG) (k : xK) (x0 : Nat) (x1 : Nat) (x2 : Int) (x3 : Int) (x4 : Int) (x5 : Int) (x6 : Int) (x7 : Int) (n : Nat) (h : xH) : Prop := WW G k 13 0 0 3 [(0, rf G x0), (1, rf G x1), (2, .int (iz x2)), (3, .int (iz x3)), (4, .int (iz x4)), (5, .int (iz x5)), (6, .int (iz x6)), (7, .int (iz x7))] [] n h
abbrev X9_unsigned_w24 (G : xG) (k : xK) (x0 : Nat) (x1 : Nat) (x2 : Int) (x3 : Int) (x4 : Int) (x5 : Int) (x6 : Int) (x7 : Int) (n : Nat) (h : xH) : Prop := WW G k 13 0 0 24 [(0, rf G x0), (1, rf G x1), (2, .int (iz x2)), (3, .int (iz x3)), (4, .int (iz x4)), (5, .int (iz x5)), (6, .int (iz x6)), (7, .int (iz x7))] [] n h
abbrev X9_unsigned_w35 (G : xG) (k : xK) (x0 : Nat) (x1 : Nat) (x2 : Int) (x3 : Int) (x4 : Int) (x5 : Int) (x6 : Int) (x7 : Int) (s0 : Int) (n : Nat) (h : xH) : Prop := WW G k 13 0 0 35 [(0, rf G x0), (1, rf G x1), (2, .int (iz x2)), (3, .int (iz x3)), (4, .int (iz x4)), (5, .int (iz x5)), (6, .int (iz x6)), (7, .int (iz x7))] [.int (iz s0)] n h
abbrev X9_unsigned_w98 (G : xG) (k : xK) (x0 : Nat) (x1 : Nat) (x2 : Int) (x3 : Int) (x4 : Int) (x5 : Int) (x6 : Int) (x7 : Int) (x8 : Int) (n : Nat) (h : xH) : Prop := WW G k 13 0 0 98 [(0, rf G x0), (1, rf G x1), (2, .int (iz x2)), (3, .int (iz x3)), (4, .int (iz x4)), (5, .int (iz x5)), (6, .int (iz x6)), (7, .int (iz x7)), (8, .int (iz x8))] [] n h
abbrev X9_unsigned_w61 (G : xG) (k : xK)  (n : Nat) (h : xH) : Prop := WW G k 13 0 0 61 [] [] n h
abbrev X9_unsigned_w76 (G : xG) (k : xK) (s0 : Int) (n : Nat) (h : xH) : Prop := WW G k 13 11 1339 76 [] [vR G s0] n h
abbrev X9_unsigned_w134 (G : xG) (k : xK) (x0 : Nat) (x5 : Int) (x6 : Int) (x9 : Nat) (s0 : Nat) (n : Nat) (h : xH) : Prop := WW G k 13 4 884 134 [(0, rf G x0), (5, .int (iz x5)), (6, .int (iz x6)), (9, rf G x9)] [rf G s0] n h
abbrev X9_unsigned_w226 (G : xG) (k : xK) (x11 : Int) (n : Nat) (h : xH) : Prop := WW G k 13 9 1770 226 [(11, vR G x11)] [] n h
abbrev X9_unsigned_w228 (G : xG) (k : xK) (s0 : Int) (n : Nat) (h : xH) : Prop := WW G k 13 13 1781 228 [] [vR G s0] n h
abbrev X9_unsigned_w176 (G : xG) (k : xK) (s0 : UInt64) (n : Nat) (h : xH) : Prop := WW G k 13 4 884 176 [] [.double s0] n h
theorem S_X9_unsigned_of {G : xG} {l : Launch} {x0 : Nat} {x1 : Nat} {x2 : Int} {x3 : Int} {x4 : Int} {x5 : Int} {x6 : Int} {n : Nat} {h : xH} {Po : Int → Nat → xH → Prop} (body : ∀ k : xK, kl k = l → CC G k cX9_unsigned RX9 13 rm_X9_unsigned → CQ G k (some (.object "DoubleTextsModel$Num")) rm_X9_unsigned (fun r n1 h1 => ∃ z : Int, r = some (vR G z) ∧ Po z n1 h1) → X9_unsigned_w0 G k x0 x1 x2 x3 x4 x5 x6 n h) : S_X9_unsigned G l x0 x1 x2 x3 x4 x5 x6 n h Po := xS_of (by decide +kernel) (Nat.le_of_ble_eq_true rfl) rfl (fun k hl hnm C E => body k hl C E)
set_option maxRecDepth 100000 in
set_option maxHeartbeats 4000000 in
theorem X9_unsigned_b0 {G : xG} {k : xK} {n0 : Nat} {Po : Int → Nat → xH → Prop} (C : CC G k cX9_unsigned RX9 13 rm_X9_unsigned) (E : CQ G k (some (.object "DoubleTextsModel$Num")) rm_X9_unsigned (fun r n1 h1 => ∃ z : Int, r = some (vR G z) ∧ Po z n1 h1)) (x0 : Nat) (x1 : Nat) (x2 : Int) (x3 : Int) (x4 : Int) (x5 : Int) (x6 : Int) (n : Nat) (h : xH) (hy : X9_unsigned_w3 G k x0 x1 x2 x3 x4 x5 x6 x2 n h) : X9_unsigned_w0 G k x0 x1 x2 x3 x4 x5 x6 n h := by
  refine ww_iload_n C 2 2 rfl rfl dX9_unsigned_0 ?_
  refine ww_istore C 7 (by decide) rfl dX9_unsigned_1 ?_
  exact ww_sub [1, 2, 3, 4, 5, 6, 7, 0] rfl (by decide) (by decide) hy
set_option maxRecDepth 100000 in
set_option maxHeartbeats 4000000 in
theorem X9_unsigned_b3 {G : xG} {k : xK} {n0 : Nat} {Po : Int → Nat → xH → Prop} (C : CC G k cX9_unsigned RX9 13 rm_X9_unsigned) (E : CQ G k (some (.object "DoubleTextsModel$Num")) rm_X9_unsigned (fun r n1 h1 => ∃ z : Int, r = some (vR G z) ∧ Po z n1 h1)) (x0 : Nat) (x1 : Nat) (x2 : Int) (x3 : Int) (x4 : Int) (x5 : Int) (x6 : Int) (x7 : Int) (n : Nat) (h : xH) (hy : (rg x7 ∧ rg x3) ∧ ((x3 ≤ x7 → X9_unsigned_w24 G k x0 x1 x2 x3 x4 x5 x6 x7 n h) ∧ (¬ x3 ≤ x7 → okA n h x1 100 x7 ∧ (rg (hG h x1 (x7.toNat)) ∧ rg (47 : Int)) ∧ (((hG h x1 (x7.toNat)) = (47 : Int) → X9_unsigned_w24 G k x0 x1 x2 x3 x4 x5 x6 x7 n h) ∧ (¬ (hG h x1 (x7.toNat)) = (47 : Int) → X9_unsigned_w3 G k x0 x1 x2 x3 x4 x5 x6 (x7 + 1) n h))))) : X9_unsigned_w3 G k x0 x1 x2 x3 x4 x5 x6 x7 n h := by
  refine ww_iload C 7 7 rfl dX9_unsigned_3 ?_
  refine ww_iload_n C 3 3 rfl rfl dX9_unsigned_5 ?_
  obtain ⟨p1, hy⟩ := hy
  refine ww_icmp_ge C (tg := 24) dX9_unsigned_6 (by decide) p1.1 p1.2 (fun c2 => ?_) (fun c2 => ?_)
  · have hy := hy.1 c2
    exact ww_sub [0, 1, 2, 3, 4, 5, 6, 7] rfl (by decide) (by decide) hy
  · have hy := hy.2 c2
    refine ww_aload_n C 1 1 rfl rfl dX9_unsigned_9 ?_
    refine ww_iload C 7 7 rfl dX9_unsigned_10 ?_
    obtain ⟨p3, hy⟩ := hy
    refine ww_iald C dX9_unsigned_12 p3 ?_
    refine ww_bipush C (z := 47) dX9_unsigned_13 rfl ?_
    obtain ⟨p4, hy⟩ := hy
    refine ww_icmp_eq C (tg := 24) dX9_unsigned_15 (by decide) p4.1 p4.2 (fun c5 => ?_) (fun c5 => ?_)
    · have hy := hy.1 c5
      exact ww_sub [0, 1, 2, 3, 4, 5, 6, 7] rfl (by decide) (by decide) hy
    · have hy := hy.2 c5
      refine ww_iinc C 7 7 rfl (by decide) rfl dX9_unsigned_18 ?_
      refine ww_goto C (tg := 3) dX9_unsigned_21 (by decide) ?_
      exact ww_sub [1, 2, 3, 4, 5, 6, 7, 0] rfl (by decide) (by decide) hy
set_option maxRecDepth 100000 in
set_option maxHeartbeats 4000000 in
theorem X9_unsigned_b24 {G : xG} {k : xK} {n0 : Nat} {Po : Int → Nat → xH → Prop} (C : CC G k cX9_unsigned RX9 13 rm_X9_unsigned) (E : CQ G k (some (.object "DoubleTextsModel$Num")) rm_X9_unsigned (fun r n1 h1 => ∃ z : Int, r = some (vR G z) ∧ Po z n1 h1)) (x0 : Nat) (x1 : Nat) (x2 : Int) (x3 : Int) (x4 : Int) (x5 : Int) (x6 : Int) (x7 : Int) (n : Nat) (h : xH) (hy : (rg x7 ∧ rg x3) ∧ ((x3 ≤ x7 → X9_unsigned_w35 G k x0 x1 x2 x3 x4 x5 x6 x7 0 n h) ∧ (¬ x3 ≤ x7 → X9_unsigned_w35 G k x0 x1 x2 x3 x4 x5 x6 x7 1 n h))) : X9_unsigned_w24 G k x0 x1 x2 x3 x4 x5 x6 x7 n h := by
  refine ww_iload C 7 7 rfl dX9_unsigned_24 ?_
  refine ww_iload_n C 3 3 rfl rfl dX9_unsigned_26 ?_
  obtain ⟨p1, hy⟩ := hy
  refine ww_icmp_ge C (tg := 34) dX9_unsigned_27 (by decide) p1.1 p1.2 (fun c2 => ?_) (fun c2 => ?_)
  · have hy := hy.1 c2
    refine ww_iconst C (z := 0) dX9_unsigned_34 rfl ?_
    exact ww_sub [0, 1, 2, 3, 4, 5, 6, 7] rfl (by decide) (by decide) hy
  · have hy := hy.2 c2
    refine ww_iconst C (z := 1) dX9_unsigned_30 rfl ?_
    refine ww_goto C (tg := 35) dX9_unsigned_31 (by decide) ?_
    exact ww_sub [0, 1, 2, 3, 4, 5, 6, 7] rfl (by decide) (by decide) hy
set_option maxRecDepth 100000 in
set_option maxHeartbeats 4000000 in
theorem X9_unsigned_b35 {G : xG} {k : xK} {n0 : Nat} {Po : Int → Nat → xH → Prop} (C : CC G k cX9_unsigned RX9 13 rm_X9_unsigned) (E : CQ G k (some (.object "DoubleTextsModel$Num")) rm_X9_unsigned (fun r n1 h1 => ∃ z : Int, r = some (vR G z) ∧ Po z n1 h1)) (x0 : Nat) (x1 : Nat) (x2 : Int) (x3 : Int) (x4 : Int) (x5 : Int) (x6 : Int) (x7 : Int) (s0 : Int) (n : Nat) (h : xH) (hy : S_X9_areDigits G (kl k) x1 x2 x7 x4 n h (fun z1 h2 => rg z1 ∧ ((¬ z1 = 0 → rg s0 ∧ ((s0 = 0 → X9_unsigned_w98 G k x0 x1 x2 x3 x4 x5 x6 x7 s0 n h2) ∧ (¬ s0 = 0 → S_X9_areDigits G (kl k) x1 (x7 + 1) x3 x4 n h2 (fun z7 h8 => rg z7 ∧ ((¬ z7 = 0 → X9_unsigned_w98 G k x0 x1 x2 x3 x4 x5 x6 x7 s0 n h8) ∧ (z7 = 0 → Po (-1) n h8)))))) ∧ (z1 = 0 → rg s0 ∧ ((¬ s0 = 0 → X9_unsigned_w61 G k  n h2) ∧ (s0 = 0 → (rg x4 ∧ rg (10 : Int)) ∧ ((x4 = (10 : Int) → okO n h2 x0 8 ∧ S_X9_decimal G (kl k) x0 x1 x2 x3 x5 x6 n h2 (fun z16 n18 h17 => X9_unsigned_w76 G k z16 n18 h17)) ∧ (¬ x4 = (10 : Int) → X9_unsigned_w61 G k  n h2)))))))) : X9_unsigned_w35 G k x0 x1 x2 x3 x4 x5 x6 x7 s0 n h := by
  refine ww_istore C 8 (by decide) rfl dX9_unsigned_35 ?_
  refine ww_aload_n C 1 2 rfl rfl dX9_unsigned_37 ?_
  refine ww_iload_n C 2 3 rfl rfl dX9_unsigned_38 ?_
  refine ww_iload C 7 8 rfl dX9_unsigned_39 ?_
  refine ww_iload C 4 5 rfl dX9_unsigned_41 ?_
  refine cl_X9_324 C dX9_unsigned_43 (Nat.le_of_ble_eq_true rfl) ⟨by decide, by decide⟩ ⟨by decide, by decide⟩ ?_
  refine S_X9_areDigits.mono hy (fun z1 h2 hy => ?_)
  obtain ⟨p3, hy⟩ := hy
  refine ww_if_ne C (tg := 77) dX9_unsigned_46 (by decide) p3 (fun c4 => ?_) (fun c4 => ?_)
  · have hy := hy.1 c4
    refine ww_iload C 8 0 rfl dX9_unsigned_77 ?_
    obtain ⟨p5, hy⟩ := hy
    refine ww_if_eq C (tg := 98) dX9_unsigned_79 (by decide) p5 (fun c6 => ?_) (fun c6 => ?_)
    · have hy := hy.1 c6
      exact ww_sub [1, 2, 3, 4, 5, 6, 7, 8, 0] rfl (by decide) (by decide) hy
    · have hy := hy.2 c6
      refine ww_aload_n C 1 2 rfl rfl dX9_unsigned_82 ?_
      refine ww_iload C 7 8 rfl dX9_unsigned_83 ?_
      refine ww_iconst C (z := 1) dX9_unsigned_85 rfl ?_
      refine ww_iadd C dX9_unsigned_86 ?_
      refine ww_iload_n C 3 4 rfl rfl dX9_unsigned_87 ?_
      refine ww_iload C 4 5 rfl dX9_unsigned_88 ?_
      refine cl_X9_324 C dX9_unsigned_90 (Nat.le_of_ble_eq_true rfl) ⟨by decide, by decide⟩ ⟨by decide, by decide⟩ ?_
      refine S_X9_areDigits.mono hy (fun z7 h8 hy => ?_)
      obtain ⟨p9, hy⟩ := hy
      refine ww_if_ne C (tg := 98) dX9_unsigned_93 (by decide) p9 (fun c10 => ?_) (fun c10 => ?_)
      · have hy := hy.1 c10
        exact ww_sub [1, 2, 3, 4, 5, 6, 7, 8, 0] rfl (by decide) (by decide) hy
      · have hy := hy.2 c10
        refine ww_null C dX9_unsigned_96 ?_
        show WW _ _ _ _ _ _ _ (vR G (-1) :: _) _ _
        exact ww_aret C E (Or.inl ⟨_, rfl⟩) dX9_unsigned_97 (by decide) (by decide) ⟨_, rfl, hy⟩
  · have hy := hy.2 c4
    refine ww_iload C 8 0 rfl dX9_unsigned_49 ?_
    obtain ⟨p11, hy⟩ := hy
    refine ww_if_ne C (tg := 61) dX9_unsigned_51 (by decide) p11 (fun c12 => ?_) (fun c12 => ?_)
    · have hy := hy.1 c12
      exact ww_sub [] rfl (by decide) (by decide) hy
    · have hy := hy.2 c12
      refine ww_iload C 4 5 rfl dX9_unsigned_54 ?_
      refine ww_bipush C (z := 10) dX9_unsigned_56 rfl ?_
      obtain ⟨p13, hy⟩ := hy
      refine ww_icmp_eq C (tg := 65) dX9_unsigned_58 (by decide) p13.1 p13.2 (fun c14 => ?_) (fun c14 => ?_)
      · have hy := hy.1 c14
        refine ww_aload_n C 0 1 rfl rfl dX9_unsigned_65 ?_
        refine ww_aload_n C 1 2 rfl rfl dX9_unsigned_66 ?_
        refine ww_iload_n C 2 3 rfl rfl dX9_unsigned_67 ?_
        refine ww_iload_n C 3 4 rfl rfl dX9_unsigned_68 ?_
        refine ww_iload C 5 6 rfl dX9_unsigned_69 ?_
        refine ww_iload C 6 7 rfl dX9_unsigned_71 ?_
        obtain ⟨p15, hy⟩ := hy
        refine cl_X9_328 C dX9_unsigned_73 (Nat.le_of_ble_eq_true rfl) ⟨by decide, by decide⟩ ⟨by decide, by decide⟩ p15 ?_
        refine S_X9_decimal.mono hy (fun z16 n18 h17 hy => ?_)
        exact ww_sub [] rfl (by decide) (by decide) hy
      · have hy := hy.2 c14
        exact ww_sub [] rfl (by decide) (by decide) hy
set_option maxRecDepth 100000 in
set_option maxHeartbeats 4000000 in
theorem X9_unsigned_b98 {G : xG} {k : xK} {n0 : Nat} {Po : Int → Nat → xH → Prop} (C : CC G k cX9_unsigned RX9 13 rm_X9_unsigned) (E : CQ G k (some (.object "DoubleTextsModel$Num")) rm_X9_unsigned (fun r n1 h1 => ∃ z : Int, r = some (vR G z) ∧ Po z n1 h1)) (x0 : Nat) (x1 : Nat) (x2 : Int) (x3 : Int) (x4 : Int) (x5 : Int) (x6 : Int) (x7 : Int) (x8 : Int) (n : Nat) (h : xH) (hy : okO n h x0 8 ∧ S_X9_digits G (kl k) x0 x1 x2 x7 x4 n h (fun z2 n4 h3 => rg x8 ∧ ((x8 = 0 → S_X9_whole G (kl k) 1 n4 h3 (fun z7 n9 h8 => X9_unsigned_w134 G k x0 x5 x6 z2 z7 n9 h8)) ∧ (¬ x8 = 0 → okO n4 h3 x0 8 ∧ S_X9_digits G (kl k) x0 x1 (x7 + 1) x3 x4 n4 h3 (fun z11 n13 h12 => X9_unsigned_w134 G k x0 x5 x6 z2 z11 n13 h12))))) : X9_unsigned_w98 G k x0 x1 x2 x3 x4 x5 x6 x7 x8 n h := by
  refine ww_aload_n C 0 0 rfl rfl dX9_unsigned_98 ?_
  refine ww_aload_n C 1 1 rfl rfl dX9_unsigned_99 ?_
  refine ww_iload_n C 2 2 rfl rfl dX9_unsigned_100 ?_
  refine ww_iload C 7 7 rfl dX9_unsigned_101 ?_
  refine ww_iload C 4 4 rfl dX9_unsigned_103 ?_
  obtain ⟨p1, hy⟩ := hy
  refine cl_X9_332 C dX9_unsigned_105 (Nat.le_of_ble_eq_true rfl) ⟨by decide, by decide⟩ ⟨by decide, by decide⟩ p1 ?_
  refine S_X9_digits.mono hy (fun z2 n4 h3 hy => ?_)
  refine ww_astore C 9 (by decide) rfl dX9_unsigned_108 ?_
  refine ww_iload C 8 9 rfl dX9_unsigned_110 ?_
  obtain ⟨p5, hy⟩ := hy
  refine ww_if_eq C (tg := 130) dX9_unsigned_112 (by decide) p5 (fun c6 => ?_) (fun c6 => ?_)
  · have hy := hy.1 c6
    refine ww_lconst C (z := 1) dX9_unsigned_130 rfl ?_
    refine cl_X9_163 C dX9_unsigned_131 (Nat.le_of_ble_eq_true rfl) ⟨by decide, by decide⟩ ⟨by decide, by decide⟩ ?_
    refine S_X9_whole.mono hy (fun z7 n9 h8 hy => ?_)
    exact ww_sub [1, 6, 7, 0] rfl (by decide) (by decide) hy
  · have hy := hy.2 c6
    refine ww_aload_n C 0 1 rfl rfl dX9_unsigned_115 ?_
    refine ww_aload_n C 1 2 rfl rfl dX9_unsigned_116 ?_
    refine ww_iload C 7 8 rfl dX9_unsigned_117 ?_
    refine ww_iconst C (z := 1) dX9_unsigned_119 rfl ?_
    refine ww_iadd C dX9_unsigned_120 ?_
    refine ww_iload_n C 3 4 rfl rfl dX9_unsigned_121 ?_
    refine ww_iload C 4 5 rfl dX9_unsigned_122 ?_
    obtain ⟨p10, hy⟩ := hy
    refine cl_X9_332 C dX9_unsigned_124 (Nat.le_of_ble_eq_true rfl) ⟨by decide, by decide⟩ ⟨by decide, by decide⟩ p10 ?_
    refine S_X9_digits.mono hy (fun z11 n13 h12 hy => ?_)
    refine ww_goto C (tg := 134) dX9_unsigned_127 (by decide) ?_
    exact ww_sub [1, 6, 7, 0] rfl (by decide) (by decide) hy
set_option maxRecDepth 100000 in
set_option maxHeartbeats 4000000 in
theorem X9_unsigned_b61 {G : xG} {k : xK} {n0 : Nat} {Po : Int → Nat → xH → Prop} (C : CC G k cX9_unsigned RX9 13 rm_X9_unsigned) (E : CQ G k (some (.object "DoubleTextsModel$Num")) rm_X9_unsigned (fun r n1 h1 => ∃ z : Int, r = some (vR G z) ∧ Po z n1 h1))  (n : Nat) (h : xH) (hy : X9_unsigned_w76 G k (-1) n h) : X9_unsigned_w61 G k  n h := by
  refine ww_null C dX9_unsigned_61 ?_
  show WW _ _ _ _ _ _ _ (vR G (-1) :: _) _ _
  refine ww_goto C (tg := 76) dX9_unsigned_62 (by decide) ?_
  exact ww_sub [] rfl (by decide) (by decide) hy
set_option maxRecDepth 100000 in
set_option maxHeartbeats 4000000 in
theorem X9_unsigned_b76 {G : xG} {k : xK} {n0 : Nat} {Po : Int → Nat → xH → Prop} (C : CC G k cX9_unsigned RX9 13 rm_X9_unsigned) (E : CQ G k (some (.object "DoubleTextsModel$Num")) rm_X9_unsigned (fun r n1 h1 => ∃ z : Int, r = some (vR G z) ∧ Po z n1 h1)) (s0 : Int) (n : Nat) (h : xH) (hy : Po s0 n h) : X9_unsigned_w76 G k s0 n h := by
  exact ww_aret C E (Or.inl ⟨_, rfl⟩) dX9_unsigned_76 (by decide) (by decide) ⟨_, rfl, hy⟩
set_option maxRecDepth 100000 in
set_option maxHeartbeats 4000000 in
theorem X9_unsigned_b134 {G : xG} {k : xK} {n0 : Nat} {Po : Int → Nat → xH → Prop} (C : CC G k cX9_unsigned RX9 13 rm_X9_unsigned) (E : CQ G k (some (.object "DoubleTextsModel$Num")) rm_X9_unsigned (fun r n1 h1 => ∃ z : Int, r = some (vR G z) ∧ Po z n1 h1)) (x0 : Nat) (x5 : Int) (x6 : Int) (x9 : Nat) (s0 : Nat) (n : Nat) (h : xH) (hy : okO n h s0 7 ∧ S_X8_isZero G (kl k) s0 n h (fun z2 h3 => rg z2 ∧ ((z2 = 0 → (rg x5 ∧ rg (105 : Int)) ∧ ((¬ x5 = (105 : Int) → okO n h3 x9 7 ∧ 0 ≤ hG h3 x9 1 ∧ okO n h3 x9 7 ∧ 0 ≤ hG h3 x9 1 ∧ (((hG h3 x9 1).toNat) < n ∧ ((h3 ((hG h3 x9 1).toNat)).1 = 100 ∨ (h3 ((hG h3 x9 1).toNat)).1 = 101)) ∧ okO n h3 s0 7 ∧ 0 ≤ hG h3 s0 1 ∧ okO n h3 s0 7 ∧ 0 ≤ hG h3 s0 1 ∧ (((hG h3 s0 1).toNat) < n ∧ ((h3 ((hG h3 s0 1).toNat)).1 = 100 ∨ (h3 ((hG h3 s0 1).toNat)).1 = 101)) ∧ okO n h3 x0 8 ∧ S_X9_fraction G (kl k) x0 ((hG h3 x9 1).toNat) ((h3 ((hG h3 x9 1).toNat)).2.1 : Int) ((hG h3 s0 1).toNat) ((h3 ((hG h3 s0 1).toNat)).2.1 : Int) n h3 (fun z19 n21 h20 => ((z19 < 0 → X9_unsigned_w226 G k z19 n21 h20) ∧ (¬ z19 < 0 → rg x6 ∧ ((x6 = 0 → X9_unsigned_w226 G k z19 n21 h20) ∧ (¬ x6 = 0 → S_X9_negated G (kl k) z19 n21 h20 (fun z25 n27 h26 => X9_unsigned_w228 G k z25 n27 h26))))))) ∧ (x5 = (105 : Int) → okO n h3 x0 8 ∧ S_X9_ratio G (kl k) x0 x9 s0 n h3 (fun z29 h30 => rg x6 ∧ ((x6 = 0 → X9_unsigned_w176 G k z29 n h30) ∧ (¬ x6 = 0 → X9_unsigned_w176 G k (FP.dneg z29) n h30)))))) ∧ (¬ z2 = 0 → Po (-1) n h3)))) : X9_unsigned_w134 G k x0 x5 x6 x9 s0 n h := by
  refine ww_astore C 10 (by decide) rfl dX9_unsigned_134 ?_
  refine ww_aload C 10 0 rfl dX9_unsigned_136 ?_
  obtain ⟨p1, hy⟩ := hy
  refine cl_X9_100 C dX9_unsigned_138 (Nat.le_of_ble_eq_true rfl) ⟨by decide, by decide⟩ ⟨by decide, by decide⟩ p1 ?_
  refine S_X8_isZero.mono hy (fun z2 h3 hy => ?_)
  obtain ⟨p4, hy⟩ := hy
  refine ww_if_eq C (tg := 146) dX9_unsigned_141 (by decide) p4 (fun c5 => ?_) (fun c5 => ?_)
  · have hy := hy.1 c5
    refine ww_iload C 5 2 rfl dX9_unsigned_146 ?_
    refine ww_bipush C (z := 105) dX9_unsigned_148 rfl ?_
    obtain ⟨p6, hy⟩ := hy
    refine ww_icmp_ne C (tg := 180) dX9_unsigned_150 (by decide) p6.1 p6.2 (fun c7 => ?_) (fun c7 => ?_)
    · have hy := hy.1 c7
      refine ww_aload_n C 0 1 rfl rfl dX9_unsigned_180 ?_
      refine ww_aload C 9 4 rfl dX9_unsigned_181 ?_
      obtain ⟨p8, hy⟩ := hy
      obtain ⟨p9, hy⟩ := hy
      refine gf_X9_104 C dX9_unsigned_183 p8 p9 ?_
      refine ww_aload C 9 4 rfl dX9_unsigned_186 ?_
      obtain ⟨p10, hy⟩ := hy
      obtain ⟨p11, hy⟩ := hy
      refine gf_X9_104 C dX9_unsigned_188 p10 p11 ?_
      obtain ⟨p12, hy⟩ := hy
      refine ww_alen C dX9_unsigned_191 p12.1 p12.2 ?_
      refine ww_aload C 10 0 rfl dX9_unsigned_192 ?_
      obtain ⟨p13, hy⟩ := hy
      obtain ⟨p14, hy⟩ := hy
      refine gf_X9_104 C dX9_unsigned_194 p13 p14 ?_
      refine ww_aload C 10 0 rfl dX9_unsigned_197 ?_
      obtain ⟨p15, hy⟩ := hy
      obtain ⟨p16, hy⟩ := hy
      refine gf_X9_104 C dX9_unsigned_199 p15 p16 ?_
      obtain ⟨p17, hy⟩ := hy
      refine ww_alen C dX9_unsigned_202 p17.1 p17.2 ?_
      obtain ⟨p18, hy⟩ := hy
      refine cl_X9_335 C dX9_unsigned_203 (Nat.le_of_ble_eq_true rfl) ⟨by decide, by decide⟩ ⟨by decide, by decide⟩ p18 ?_
      refine S_X9_fraction.mono hy (fun z19 n21 h20 hy => ?_)
      refine ww_Nstore C 11 (by decide) rfl dX9_unsigned_206 ?_
      refine ww_Nload C 11 0 rfl dX9_unsigned_208 ?_
      refine ww_ifnull C (tg := 226) dX9_unsigned_210 (by decide) (fun c22 => ?_) (fun c22 => ?_)
      · have hy := hy.1 c22
        exact ww_sub [0] rfl (by decide) (by decide) hy
      · have hy := hy.2 c22
        refine ww_iload C 6 4 rfl dX9_unsigned_213 ?_
        obtain ⟨p23, hy⟩ := hy
        refine ww_if_eq C (tg := 226) dX9_unsigned_215 (by decide) p23 (fun c24 => ?_) (fun c24 => ?_)
        · have hy := hy.1 c24
          exact ww_sub [0] rfl (by decide) (by decide) hy
        · have hy := hy.2 c24
          refine ww_Nload C 11 0 rfl dX9_unsigned_218 ?_
          refine cl_X9_339 C dX9_unsigned_220 (Nat.le_of_ble_eq_true rfl) ⟨by decide, by decide⟩ ⟨by decide, by decide⟩ ?_
          refine S_X9_negated.mono hy (fun z25 n27 h26 hy => ?_)
          refine ww_goto C (tg := 228) dX9_unsigned_223 (by decide) ?_
          exact ww_sub [] rfl (by decide) (by decide) hy
    · have hy := hy.2 c7
      refine ww_aload_n C 0 1 rfl rfl dX9_unsigned_153 ?_
      refine ww_aload C 9 4 rfl dX9_unsigned_154 ?_
      refine ww_aload C 10 0 rfl dX9_unsigned_156 ?_
      obtain ⟨p28, hy⟩ := hy
      refine cl_X9_212 C dX9_unsigned_158 (Nat.le_of_ble_eq_true rfl) ⟨by decide, by decide⟩ ⟨by decide, by decide⟩ p28 ?_
      refine S_X9_ratio.mono hy (fun z29 h30 hy => ?_)
      refine ww_dstore C 11 (by decide) rfl dX9_unsigned_161 ?_
      refine ww_iload C 6 4 rfl dX9_unsigned_163 ?_
      obtain ⟨p31, hy⟩ := hy
      refine ww_if_eq C (tg := 174) dX9_unsigned_165 (by decide) p31 (fun c32 => ?_) (fun c32 => ?_)
      · have hy := hy.1 c32
        refine ww_dload C 11 0 rfl dX9_unsigned_174 ?_
        exact ww_sub [] rfl (by decide) (by decide) hy
      · have hy := hy.2 c32
        refine ww_dload C 11 0 rfl dX9_unsigned_168 ?_
        refine ww_dneg C dX9_unsigned_170 ?_
        refine ww_goto C (tg := 176) dX9_unsigned_171 (by decide) ?_
        exact ww_sub [] rfl (by decide) (by decide) hy
  · have hy := hy.2 c5
    refine ww_null C dX9_unsigned_144 ?_
    show WW _ _ _ _ _ _ _ (vR G (-1) :: _) _ _
    exact ww_aret C E (Or.inl ⟨_, rfl⟩) dX9_unsigned_145 (by decide) (by decide) ⟨_, rfl, hy⟩
set_option maxRecDepth 100000 in
set_option maxHeartbeats 4000000 in
theorem X9_unsigned_b226 {G : xG} {k : xK} {n0 : Nat} {Po : Int → Nat → xH → Prop} (C : CC G k cX9_unsigned RX9 13 rm_X9_unsigned) (E : CQ G k (some (.object "DoubleTextsModel$Num")) rm_X9_unsigned (fun r n1 h1 => ∃ z : Int, r = some (vR G z) ∧ Po z n1 h1)) (x11 : Int) (n : Nat) (h : xH) (hy : X9_unsigned_w228 G k x11 n h) : X9_unsigned_w226 G k x11 n h := by
  refine ww_Nload C 11 0 rfl dX9_unsigned_226 ?_
  exact ww_sub [] rfl (by decide) (by decide) hy
set_option maxRecDepth 100000 in
set_option maxHeartbeats 4000000 in
theorem X9_unsigned_b228 {G : xG} {k : xK} {n0 : Nat} {Po : Int → Nat → xH → Prop} (C : CC G k cX9_unsigned RX9 13 rm_X9_unsigned) (E : CQ G k (some (.object "DoubleTextsModel$Num")) rm_X9_unsigned (fun r n1 h1 => ∃ z : Int, r = some (vR G z) ∧ Po z n1 h1)) (s0 : Int) (n : Nat) (h : xH) (hy : Po s0 n h) : X9_unsigned_w228 G k s0 n h := by
  exact ww_aret C E (Or.inl ⟨_, rfl⟩) dX9_unsigned_228 (by decide) (by decide) ⟨_, rfl, hy⟩
set_option maxRecDepth 100000 in
set_option maxHeartbeats 4000000 in
theorem X9_unsigned_b176 {G : xG} {k : xK} {n0 : Nat} {Po : Int → Nat → xH → Prop} (C : CC G k cX9_unsigned RX9 13 rm_X9_unsigned) (E : CQ G k (some (.object "DoubleTextsModel$Num")) rm_X9_unsigned (fun r n1 h1 => ∃ z : Int, r = some (vR G z) ∧ Po z n1 h1)) (s0 : UInt64) (n : Nat) (h : xH) (hy : S_X7_of G (kl k) s0 n h (fun z1 n3 h2 => Po ((z1 : Nat) : Int) n3 h2)) : X9_unsigned_w176 G k s0 n h := by
  refine cl_X9_238 C dX9_unsigned_176 (Nat.le_of_ble_eq_true rfl) ⟨by decide, by decide⟩ ⟨by decide, by decide⟩ ?_
  refine S_X7_of.mono hy (fun z1 n3 h2 hy => ?_)
  refine ww_rv ?_
  exact ww_aret C E (Or.inl ⟨_, rfl⟩) dX9_unsigned_179 (by decide) (by decide) ⟨_, rfl, hy⟩
abbrev X9_number_w0 (G : xG) (k : xK) (x0 : Nat) (x1 : Nat) (x2 : Int) (x3 : Int) (x4 : Int) (n : Nat) (h : xH) : Prop := WW G k 12 0 0 0 [(0, rf G x0), (1, rf G x1), (2, .int (iz x2)), (3, .int (iz x3)), (4, .int (iz x4))] [] n h
abbrev X9_number_w9 (G : xG) (k : xK) (x0 : Nat) (x1 : Nat) (x3 : Int) (x4 : Int) (x5 : Int) (x6 : Int) (x7 : Int) (n : Nat) (h : xH) : Prop := WW G k 12 0 0 9 [(0, rf G x0), (1, rf G x1), (3, .int (iz x3)), (4, .int (iz x4)), (5, .int (iz x5)), (6, .int (iz x6)), (7, .int (iz x7))] [] n h
abbrev X9_number_w135 (G : xG) (k : xK) (x0 : Nat) (x1 : Nat) (x3 : Int) (x4 : Int) (x5 : Int) (x6 : Int) (x7 : Int) (n : Nat) (h : xH) : Prop := WW G k 12 0 0 135 [(0, rf G x0), (1, rf G x1), (3, .int (iz x3)), (4, .int (iz x4)), (5, .int (iz x5)), (6, .int (iz x6)), (7, .int (iz x7))] [] n h
abbrev X9_number_w82 (G : xG) (k : xK) (x0 : Nat) (x1 : Nat) (x3 : Int) (x4 : Int) (x5 : Int) (x6 : Int) (x7 : Int) (x8 : Int) (s0 : Int) (n : Nat) (h : xH) : Prop := WW G k 12 0 0 82 [(0, rf G x0), (1, rf G x1), (3, .int (iz x3)), (4, .int (iz x4)), (5, .int (iz x5)), (6, .int (iz x6)), (7, .int (iz x7)), (8, .int (iz x8))] [.int (iz s0)] n h
abbrev X9_number_w163 (G : xG) (k : xK) (x0 : Nat) (x1 : Nat) (x3 : Int) (x4 : Int) (x5 : Int) (x6 : Int) (x7 : Int) (n : Nat) (h : xH) : Prop := WW G k 12 0 0 163 [(0, rf G x0), (1, rf G x1), (3, .int (iz x3)), (4, .int (iz x4)), (5, .int (iz x5)), (6, .int (iz x6)), (7, .int (iz x7))] [] n h
abbrev X9_number_w159 (G : xG) (k : xK) (x0 : Nat) (x1 : Nat) (x3 : Int) (x4 : Int) (x5 : Int) (x6 : Int) (x7 : Int) (n : Nat) (h : xH) : Prop := WW G k 12 0 0 159 [(0, rf G x0), (1, rf G x1), (3, .int (iz x3)), (4, .int (iz x4)), (5, .int (iz x5)), (6, .int (iz x6)), (7, .int (iz x7))] [] n h
abbrev X9_number_w101 (G : xG) (k : xK) (x0 : Nat) (x1 : Nat) (x3 : Int) (x4 : Int) (x5 : Int) (x6 : Int) (x7 : Int) (x8 : Int) (n : Nat) (h : xH) : Prop := WW G k 12 0 0 101 [(0, rf G x0), (1, rf G x1), (3, .int (iz x3)), (4, .int (iz x4)), (5, .int (iz x5)), (6, .int (iz x6)), (7, .int (iz x7)), (8, .int (iz x8))] [] n h
abbrev X9_number_w129 (G : xG) (k : xK) (x0 : Nat) (x1 : Nat) (x3 : Int) (x4 : Int) (x5 : Int) (x6 : Int) (x7 : Int) (n : Nat) (h : xH) : Prop := WW G k 12 0 0 129 [(0, rf G x0), (1, rf G x1), (3, .int (iz x3)), (4, .int (iz x4)), (5, .int (iz x5)), (6, .int (iz x6)), (7, .int (iz x7))] [] n h
abbrev X9_number_w164 (G : xG) (k : xK) (x0 : Nat) (x1 : Nat) (x3 : Int) (x4 : Int) (x5 : Int) (x6 : Int) (x7 : Int) (s0 : Int) (n : Nat) (h : xH) : Prop := WW G k 12 0 0 164 [(0, rf G x0), (1, rf G x1), (3, .int (iz x3)), (4, .int (iz x4)), (5, .int (iz x5)), (6, .int (iz x6)), (7, .int (iz x7))] [.int (iz s0)] n h
abbrev X9_number_w115 (G : xG) (k : xK) (x0 : Nat) (x1 : Nat) (x3 : Int) (x4 : Int) (x5 : Int) (x6 : Int) (x7 : Int) (x8 : Int) (n : Nat) (h : xH) : Prop := WW G k 12 0 0 115 [(0, rf G x0), (1, rf G x1), (3, .int (iz x3)), (4, .int (iz x4)), (5, .int (iz x5)), (6, .int (iz x6)), (7, .int (iz x7)), (8, .int (iz x8))] [] n h
abbrev X9_number_w127 (G : xG) (k : xK)  (n : Nat) (h : xH) : Prop := WW G k 12 0 0 127 [] [] n h
abbrev X9_number_w184 (G : xG) (k : xK) (x0 : Nat) (x1 : Nat) (x3 : Int) (x4 : Int) (x5 : Int) (x6 : Int) (x7 : Int) (x8 : Int) (n : Nat) (h : xH) : Prop := WW G k 12 0 0 184 [(0, rf G x0), (1, rf G x1), (3, .int (iz x3)), (4, .int (iz x4)), (5, .int (iz x5)), (6, .int (iz x6)), (7, .int (iz x7)), (8, .int (iz x8))] [] n h
abbrev X9_number_w185 (G : xG) (k : xK) (x0 : Nat) (x1 : Nat) (x3 : Int) (x4 : Int) (x5 : Int) (x6 : Int) (x7 : Int) (x8 : Int) (s0 : Int) (n : Nat) (h : xH) : Prop := WW G k 12 0 0 185 [(0, rf G x0), (1, rf G x1), (3, .int (iz x3)), (4, .int (iz x4)), (5, .int (iz x5)), (6, .int (iz x6)), (7, .int (iz x7)), (8, .int (iz x8))] [.int (iz s0)] n h
abbrev X9_number_w195 (G : xG) (k : xK) (x0 : Nat) (x1 : Nat) (x3 : Int) (x4 : Int) (x5 : Int) (x6 : Int) (x7 : Int) (x8 : Int) (x9 : Int) (n : Nat) (h : xH) : Prop := WW G k 12 0 0 195 [(0, rf G x0), (1, rf G x1), (3, .int (iz x3)), (4, .int (iz x4)), (5, .int (iz x5)), (6, .int (iz x6)), (7, .int (iz x7)), (8, .int (iz x8)), (9, .int (iz x9))] [] n h
abbrev X9_number_w367 (G : xG) (k : xK) (x0 : Nat) (x1 : Nat) (x3 : Int) (x4 : Int) (x5 : Int) (x6 : Int) (x7 : Int) (x9 : Int) (n : Nat) (h : xH) : Prop := WW G k 12 0 0 367 [(0, rf G x0), (1, rf G x1), (3, .int (iz x3)), (4, .int (iz x4)), (5, .int (iz x5)), (6, .int (iz x6)), (7, .int (iz x7)), (9, .int (iz x9))] [] n h
abbrev X9_number_w265 (G : xG) (k : xK) (x0 : Nat) (x1 : Nat) (x3 : Int) (x4 : Int) (x5 : Int) (x6 : Int) (x7 : Int) (x9 : Int) (n : Nat) (h : xH) : Prop := WW G k 12 0 0 265 [(0, rf G x0), (1, rf G x1), (3, .int (iz x3)), (4, .int (iz x4)), (5, .int (iz x5)), (6, .int (iz x6)), (7, .int (iz x7)), (9, .int (iz x9))] [] n h
abbrev X9_number_w266 (G : xG) (k : xK) (x0 : Nat) (x1 : Nat) (x3 : Int) (x4 : Int) (x5 : Int) (x6 : Int) (x7 : Int) (x9 : Int) (s0 : Int) (n : Nat) (h : xH) : Prop := WW G k 12 0 0 266 [(0, rf G x0), (1, rf G x1), (3, .int (iz x3)), (4, .int (iz x4)), (5, .int (iz x5)), (6, .int (iz x6)), (7, .int (iz x7)), (9, .int (iz x9))] [.int (iz s0)] n h
abbrev X9_number_w384 (G : xG) (k : xK) (x6 : Int) (x9 : Int) (s0 : Int) (s1 : Int) (s2 : Int) (s3 : Nat) (s4 : Nat) (n : Nat) (h : xH) : Prop := WW G k 12 0 0 384 [(6, .int (iz x6)), (9, .int (iz x9))] [.int (iz s0), .int (iz s1), .int (iz s2), rf G s3, rf G s4] n h
abbrev X9_number_w303 (G : xG) (k : xK) (x0 : Nat) (x1 : Nat) (x3 : Int) (x4 : Int) (x5 : Int) (x6 : Int) (x7 : Int) (x9 : Int) (x10 : Int) (n : Nat) (h : xH) : Prop := WW G k 12 0 0 303 [(0, rf G x0), (1, rf G x1), (3, .int (iz x3)), (4, .int (iz x4)), (5, .int (iz x5)), (6, .int (iz x6)), (7, .int (iz x7)), (9, .int (iz x9)), (10, .int (iz x10))] [] n h
abbrev X9_number_w304 (G : xG) (k : xK) (x0 : Nat) (x1 : Nat) (x3 : Int) (x4 : Int) (x5 : Int) (x6 : Int) (x7 : Int) (x9 : Int) (x10 : Int) (s0 : Int) (n : Nat) (h : xH) : Prop := WW G k 12 0 0 304 [(0, rf G x0), (1, rf G x1), (3, .int (iz x3)), (4, .int (iz x4)), (5, .int (iz x5)), (6, .int (iz x6)), (7, .int (iz x7)), (9, .int (iz x9)), (10, .int (iz x10))] [.int (iz s0)] n h
abbrev X9_number_w316 (G : xG) (k : xK) (x6 : Int) (x9 : Int) (x11 : Int) (n : Nat) (h : xH) : Prop := WW G k 12 0 0 316 [(6, .int (iz x6)), (9, .int (iz x9)), (11, .int (iz x11))] [] n h
abbrev X9_number_w362 (G : xG) (k : xK) (s0 : UInt64) (s1 : Nat) (s2 : Nat) (n : Nat) (h : xH) : Prop := WW G k 12 1 2 362 [] [.double s0, rf G s1, rf G s2] n h
abbrev X9_number_w366 (G : xG) (k : xK) (s0 : Int) (n : Nat) (h : xH) : Prop := WW G k 12 1 2 366 [] [vR G s0] n h
theorem S_X9_number_of {G : xG} {l : Launch} {x0 : Nat} {x1 : Nat} {x2 : Int} {x3 : Int} {x4 : Int} {n : Nat} {h : xH} {Po : Int → Nat → xH → Prop} (body : ∀ k : xK, kl k = l → CC G k cX9_number RX9 12 rm_X9_number → CQ G k (some (.object "DoubleTextsModel$Num")) rm_X9_number (fun r n1 h1 => ∃ z : Int, r = some (vR G z) ∧ Po z n1 h1) → X9_number_w0 G k x0 x1 x2 x3 x4 n h) : S_X9_number G l x0 x1 x2 x3 x4 n h Po := xS_of (by decide +kernel) (Nat.le_of_ble_eq_true rfl) rfl (fun k hl hnm C E => body k hl C E)
set_option maxRecDepth 100000 in
set_option maxHeartbeats 4000000 in
theorem X9_number_b0 {G : xG} {k : xK} {n0 : Nat} {Po : Int → Nat → xH → Prop} (C : CC G k cX9_number RX9 12 rm_X9_number) (E : CQ G k (some (.object "DoubleTextsModel$Num")) rm_X9_number (fun r n1 h1 => ∃ z : Int, r = some (vR G z) ∧ Po z n1 h1)) (x0 : Nat) (x1 : Nat) (x2 : Int) (x3 : Int) (x4 : Int) (n : Nat) (h : xH) (hy : X9_number_w9 G k x0 x1 x3 x4 0 0 x2 n h) : X9_number_w0 G k x0 x1 x2 x3 x4 n h := by
  refine ww_iconst C (z := 0) dX9_number_0 rfl ?_
  refine ww_istore C 5 (by decide) rfl dX9_number_1 ?_
  refine ww_iconst C (z := 0) dX9_number_3 rfl ?_
  refine ww_istore C 6 (by decide) rfl dX9_number_4 ?_
  refine ww_iload_n C 2 4 rfl rfl dX9_number_6 ?_
  refine ww_istore C 7 (by decide) rfl dX9_number_7 ?_
  exact ww_sub [3, 4, 6, 7, 2, 1, 0] rfl (by decide) (by decide) hy
set_option maxRecDepth 100000 in
set_option maxHeartbeats 4000000 in
theorem X9_number_b9 {G : xG} {k : xK} {n0 : Nat} {Po : Int → Nat → xH → Prop} (C : CC G k cX9_number RX9 12 rm_X9_number) (E : CQ G k (some (.object "DoubleTextsModel$Num")) rm_X9_number (fun r n1 h1 => ∃ z : Int, r = some (vR G z) ∧ Po z n1 h1)) (x0 : Nat) (x1 : Nat) (x3 : Int) (x4 : Int) (x5 : Int) (x6 : Int) (x7 : Int) (n : Nat) (h : xH) (hy : (rg (x7 + 1) ∧ rg x3) ∧ ((x3 ≤ (x7 + 1) → X9_number_w135 G k x0 x1 x3 x4 x5 x6 x7 n h) ∧ (¬ x3 ≤ (x7 + 1) → okA n h x1 100 x7 ∧ (rg (hG h x1 (x7.toNat)) ∧ rg (35 : Int)) ∧ ((¬ (hG h x1 (x7.toNat)) = (35 : Int) → X9_number_w135 G k x0 x1 x3 x4 x5 x6 x7 n h) ∧ ((hG h x1 (x7.toNat)) = (35 : Int) → okA n h x1 100 (x7 + 1) ∧ (rg (hG h x1 ((x7 + 1).toNat)) ∧ rg (120 : Int)) ∧ ((¬ (hG h x1 ((x7 + 1).toNat)) = (120 : Int) → (rg (hG h x1 ((x7 + 1).toNat)) ∧ rg (98 : Int)) ∧ ((¬ (hG h x1 ((x7 + 1).toNat)) = (98 : Int) → (rg (hG h x1 ((x7 + 1).toNat)) ∧ rg (111 : Int)) ∧ ((¬ (hG h x1 ((x7 + 1).toNat)) = (111 : Int) → (rg (hG h x1 ((x7 + 1).toNat)) ∧ rg (100 : Int)) ∧ ((¬ (hG h x1 ((x7 + 1).toNat)) = (100 : Int) → X9_number_w82 G k x0 x1 x3 x4 x5 x6 x7 (hG h x1 ((x7 + 1).toNat)) 0 n h) ∧ ((hG h x1 ((x7 + 1).toNat)) = (100 : Int) → X9_number_w82 G k x0 x1 x3 x4 x5 x6 x7 (hG h x1 ((x7 + 1).toNat)) 10 n h))) ∧ ((hG h x1 ((x7 + 1).toNat)) = (111 : Int) → X9_number_w82 G k x0 x1 x3 x4 x5 x6 x7 (hG h x1 ((x7 + 1).toNat)) 8 n h))) ∧ ((hG h x1 ((x7 + 1).toNat)) = (98 : Int) → X9_number_w82 G k x0 x1 x3 x4 x5 x6 x7 (hG h x1 ((x7 + 1).toNat)) 2 n h))) ∧ ((hG h x1 ((x7 + 1).toNat)) = (120 : Int) → X9_number_w82 G k x0 x1 x3 x4 x5 x6 x7 (hG h x1 ((x7 + 1).toNat)) 16 n h))))))) : X9_number_w9 G k x0 x1 x3 x4 x5 x6 x7 n h := by
  refine ww_iload C 7 6 rfl dX9_number_9 ?_
  refine ww_iconst C (z := 1) dX9_number_11 rfl ?_
  refine ww_iadd C dX9_number_12 ?_
  refine ww_iload_n C 3 2 rfl rfl dX9_number_13 ?_
  obtain ⟨p1, hy⟩ := hy
  refine ww_icmp_ge C (tg := 135) dX9_number_14 (by decide) p1.1 p1.2 (fun c2 => ?_) (fun c2 => ?_)
  · have hy := hy.1 c2
    exact ww_sub [0, 1, 2, 3, 4, 5, 6] rfl (by decide) (by decide) hy
  · have hy := hy.2 c2
    refine ww_aload_n C 1 1 rfl rfl dX9_number_17 ?_
    refine ww_iload C 7 6 rfl dX9_number_18 ?_
    obtain ⟨p3, hy⟩ := hy
    refine ww_iald C dX9_number_20 p3 ?_
    refine ww_bipush C (z := 35) dX9_number_21 rfl ?_
    obtain ⟨p4, hy⟩ := hy
    refine ww_icmp_ne C (tg := 135) dX9_number_23 (by decide) p4.1 p4.2 (fun c5 => ?_) (fun c5 => ?_)
    · have hy := hy.1 c5
      exact ww_sub [0, 1, 2, 3, 4, 5, 6] rfl (by decide) (by decide) hy
    · have hy := hy.2 c5
      refine ww_aload_n C 1 1 rfl rfl dX9_number_26 ?_
      refine ww_iload C 7 6 rfl dX9_number_27 ?_
      refine ww_iconst C (z := 1) dX9_number_29 rfl ?_
      refine ww_iadd C dX9_number_30 ?_
      obtain ⟨p6, hy⟩ := hy
      refine ww_iald C dX9_number_31 p6 ?_
      refine ww_istore C 8 (by decide) rfl dX9_number_32 ?_
      refine ww_iload C 8 0 rfl dX9_number_34 ?_
      refine ww_bipush C (z := 120) dX9_number_36 rfl ?_
      obtain ⟨p7, hy⟩ := hy
      refine ww_icmp_ne C (tg := 46) dX9_number_38 (by decide) p7.1 p7.2 (fun c8 => ?_) (fun c8 => ?_)
      · have hy := hy.1 c8
        refine ww_iload C 8 0 rfl dX9_number_46 ?_
        refine ww_bipush C (z := 98) dX9_number_48 rfl ?_
        obtain ⟨p9, hy⟩ := hy
        refine ww_icmp_ne C (tg := 57) dX9_number_50 (by decide) p9.1 p9.2 (fun c10 => ?_) (fun c10 => ?_)
        · have hy := hy.1 c10
          refine ww_iload C 8 0 rfl dX9_number_57 ?_
          refine ww_bipush C (z := 111) dX9_number_59 rfl ?_
          obtain ⟨p11, hy⟩ := hy
          refine ww_icmp_ne C (tg := 69) dX9_number_61 (by decide) p11.1 p11.2 (fun c12 => ?_) (fun c12 => ?_)
          · have hy := hy.1 c12
            refine ww_iload C 8 0 rfl dX9_number_69 ?_
            refine ww_bipush C (z := 100) dX9_number_71 rfl ?_
            obtain ⟨p13, hy⟩ := hy
            refine ww_icmp_ne C (tg := 81) dX9_number_73 (by decide) p13.1 p13.2 (fun c14 => ?_) (fun c14 => ?_)
            · have hy := hy.1 c14
              refine ww_iconst C (z := 0) dX9_number_81 rfl ?_
              exact ww_sub [1, 2, 3, 4, 5, 6, 7, 0] rfl (by decide) (by decide) hy
            · have hy := hy.2 c14
              refine ww_bipush C (z := 10) dX9_number_76 rfl ?_
              refine ww_goto C (tg := 82) dX9_number_78 (by decide) ?_
              exact ww_sub [1, 2, 3, 4, 5, 6, 7, 0] rfl (by decide) (by decide) hy
          · have hy := hy.2 c12
            refine ww_bipush C (z := 8) dX9_number_64 rfl ?_
            refine ww_goto C (tg := 82) dX9_number_66 (by decide) ?_
            exact ww_sub [1, 2, 3, 4, 5, 6, 7, 0] rfl (by decide) (by decide) hy
        · have hy := hy.2 c10
          refine ww_iconst C (z := 2) dX9_number_53 rfl ?_
          refine ww_goto C (tg := 82) dX9_number_54 (by decide) ?_
          exact ww_sub [1, 2, 3, 4, 5, 6, 7, 0] rfl (by decide) (by decide) hy
      · have hy := hy.2 c8
        refine ww_bipush C (z := 16) dX9_number_41 rfl ?_
        refine ww_goto C (tg := 82) dX9_number_43 (by decide) ?_
        exact ww_sub [1, 2, 3, 4, 5, 6, 7, 0] rfl (by decide) (by decide) hy
set_option maxRecDepth 100000 in
set_option maxHeartbeats 4000000 in
theorem X9_number_b135 {G : xG} {k : xK} {n0 : Nat} {Po : Int → Nat → xH → Prop} (C : CC G k cX9_number RX9 12 rm_X9_number) (E : CQ G k (some (.object "DoubleTextsModel$Num")) rm_X9_number (fun r n1 h1 => ∃ z : Int, r = some (vR G z) ∧ Po z n1 h1)) (x0 : Nat) (x1 : Nat) (x3 : Int) (x4 : Int) (x5 : Int) (x6 : Int) (x7 : Int) (n : Nat) (h : xH) (hy : (rg x7 ∧ rg x3) ∧ ((x3 ≤ x7 → X9_number_w163 G k x0 x1 x3 x4 x5 x6 x7 n h) ∧ (¬ x3 ≤ x7 → okA n h x1 100 x7 ∧ (rg (hG h x1 (x7.toNat)) ∧ rg (43 : Int)) ∧ (((hG h x1 (x7.toNat)) = (43 : Int) → X9_number_w159 G k x0 x1 x3 x4 x5 x6 x7 n h) ∧ (¬ (hG h x1 (x7.toNat)) = (43 : Int) → okA n h x1 100 x7 ∧ (rg (hG h x1 (x7.toNat)) ∧ rg (45 : Int)) ∧ ((¬ (hG h x1 (x7.toNat)) = (45 : Int) → X9_number_w163 G k x0 x1 x3 x4 x5 x6 x7 n h) ∧ ((hG h x1 (x7.toNat)) = (45 : Int) → X9_number_w159 G k x0 x1 x3 x4 x5 x6 x7 n h))))))) : X9_number_w135 G k x0 x1 x3 x4 x5 x6 x7 n h := by
  refine ww_iload C 7 6 rfl dX9_number_135 ?_
  refine ww_iload_n C 3 2 rfl rfl dX9_number_137 ?_
  obtain ⟨p1, hy⟩ := hy
  refine ww_icmp_ge C (tg := 163) dX9_number_138 (by decide) p1.1 p1.2 (fun c2 => ?_) (fun c2 => ?_)
  · have hy := hy.1 c2
    exact ww_sub [0, 1, 2, 3, 4, 5, 6] rfl (by decide) (by decide) hy
  · have hy := hy.2 c2
    refine ww_aload_n C 1 1 rfl rfl dX9_number_141 ?_
    refine ww_iload C 7 6 rfl dX9_number_142 ?_
    obtain ⟨p3, hy⟩ := hy
    refine ww_iald C dX9_number_144 p3 ?_
    refine ww_bipush C (z := 43) dX9_number_145 rfl ?_
    obtain ⟨p4, hy⟩ := hy
    refine ww_icmp_eq C (tg := 159) dX9_number_147 (by decide) p4.1 p4.2 (fun c5 => ?_) (fun c5 => ?_)
    · have hy := hy.1 c5
      exact ww_sub [0, 1, 2, 3, 4, 5, 6] rfl (by decide) (by decide) hy
    · have hy := hy.2 c5
      refine ww_aload_n C 1 1 rfl rfl dX9_number_150 ?_
      refine ww_iload C 7 6 rfl dX9_number_151 ?_
      obtain ⟨p6, hy⟩ := hy
      refine ww_iald C dX9_number_153 p6 ?_
      refine ww_bipush C (z := 45) dX9_number_154 rfl ?_
      obtain ⟨p7, hy⟩ := hy
      refine ww_icmp_ne C (tg := 163) dX9_number_156 (by decide) p7.1 p7.2 (fun c8 => ?_) (fun c8 => ?_)
      · have hy := hy.1 c8
        exact ww_sub [0, 1, 2, 3, 4, 5, 6] rfl (by decide) (by decide) hy
      · have hy := hy.2 c8
        exact ww_sub [0, 1, 2, 3, 4, 5, 6] rfl (by decide) (by decide) hy
set_option maxRecDepth 100000 in
set_option maxHeartbeats 4000000 in
theorem X9_number_b82 {G : xG} {k : xK} {n0 : Nat} {Po : Int → Nat → xH → Prop} (C : CC G k cX9_number RX9 12 rm_X9_number) (E : CQ G k (some (.object "DoubleTextsModel$Num")) rm_X9_number (fun r n1 h1 => ∃ z : Int, r = some (vR G z) ∧ Po z n1 h1)) (x0 : Nat) (x1 : Nat) (x3 : Int) (x4 : Int) (x5 : Int) (x6 : Int) (x7 : Int) (x8 : Int) (s0 : Int) (n : Nat) (h : xH) (hy : rg s0 ∧ ((s0 ≤ 0 → X9_number_w101 G k x0 x1 x3 x4 x5 x6 x7 x8 n h) ∧ (¬ s0 ≤ 0 → rg x5 ∧ ((¬ x5 = 0 → X9_number_w101 G k x0 x1 x3 x4 x5 x6 x7 x8 n h) ∧ (x5 = 0 → X9_number_w129 G k x0 x1 x3 x4 s0 x6 x7 n h))))) : X9_number_w82 G k x0 x1 x3 x4 x5 x6 x7 x8 s0 n h := by
  refine ww_istore C 9 (by decide) rfl dX9_number_82 ?_
  refine ww_iload C 9 0 rfl dX9_number_84 ?_
  obtain ⟨p1, hy⟩ := hy
  refine ww_if_le C (tg := 101) dX9_number_86 (by decide) p1 (fun c2 => ?_) (fun c2 => ?_)
  · have hy := hy.1 c2
    exact ww_sub [1, 2, 3, 4, 5, 6, 7, 8] rfl (by decide) (by decide) hy
  · have hy := hy.2 c2
    refine ww_iload C 5 5 rfl dX9_number_89 ?_
    obtain ⟨p3, hy⟩ := hy
    refine ww_if_ne C (tg := 101) dX9_number_91 (by decide) p3 (fun c4 => ?_) (fun c4 => ?_)
    · have hy := hy.1 c4
      exact ww_sub [1, 2, 3, 4, 5, 6, 7, 8] rfl (by decide) (by decide) hy
    · have hy := hy.2 c4
      refine ww_iload C 9 0 rfl dX9_number_94 ?_
      refine ww_istore C 5 (by decide) rfl dX9_number_96 ?_
      refine ww_goto C (tg := 129) dX9_number_98 (by decide) ?_
      exact ww_sub [2, 3, 4, 5, 0, 6, 7] rfl (by decide) (by decide) hy
set_option maxRecDepth 100000 in
set_option maxHeartbeats 4000000 in
theorem X9_number_b163 {G : xG} {k : xK} {n0 : Nat} {Po : Int → Nat → xH → Prop} (C : CC G k cX9_number RX9 12 rm_X9_number) (E : CQ G k (some (.object "DoubleTextsModel$Num")) rm_X9_number (fun r n1 h1 => ∃ z : Int, r = some (vR G z) ∧ Po z n1 h1)) (x0 : Nat) (x1 : Nat) (x3 : Int) (x4 : Int) (x5 : Int) (x6 : Int) (x7 : Int) (n : Nat) (h : xH) (hy : X9_number_w164 G k x0 x1 x3 x4 x5 x6 x7 0 n h) : X9_number_w163 G k x0 x1 x3 x4 x5 x6 x7 n h := by
  refine ww_iconst C (z := 0) dX9_number_163 rfl ?_
  exact ww_sub [0, 1, 2, 3, 4, 5, 6] rfl (by decide) (by decide) hy
set_option maxRecDepth 100000 in
set_option maxHeartbeats 4000000 in
theorem X9_number_b159 {G : xG} {k : xK} {n0 : Nat} {Po : Int → Nat → xH → Prop} (C : CC G k cX9_number RX9 12 rm_X9_number) (E : CQ G k (some (.object "DoubleTextsModel$Num")) rm_X9_number (fun r n1 h1 => ∃ z : Int, r = some (vR G z) ∧ Po z n1 h1)) (x0 : Nat) (x1 : Nat) (x3 : Int) (x4 : Int) (x5 : Int) (x6 : Int) (x7 : Int) (n : Nat) (h : xH) (hy : X9_number_w164 G k x0 x1 x3 x4 x5 x6 x7 1 n h) : X9_number_w159 G k x0 x1 x3 x4 x5 x6 x7 n h := by
  refine ww_iconst C (z := 1) dX9_number_159 rfl ?_
  refine ww_goto C (tg := 164) dX9_number_160 (by decide) ?_
  exact ww_sub [0, 1, 2, 3, 4, 5, 6] rfl (by decide) (by decide) hy
set_option maxRecDepth 100000 in
set_option maxHeartbeats 4000000 in
theorem X9_number_b101 {G : xG} {k : xK} {n0 : Nat} {Po : Int → Nat → xH → Prop} (C : CC G k cX9_number RX9 12 rm_X9_number) (E : CQ G k (some (.object "DoubleTextsModel$Num")) rm_X9_number (fun r n1 h1 => ∃ z : Int, r = some (vR G z) ∧ Po z n1 h1)) (x0 : Nat) (x1 : Nat) (x3 : Int) (x4 : Int) (x5 : Int) (x6 : Int) (x7 : Int) (x8 : Int) (n : Nat) (h : xH) (hy : (rg x8 ∧ rg (101 : Int)) ∧ ((x8 = (101 : Int) → X9_number_w115 G k x0 x1 x3 x4 x5 x6 x7 x8 n h) ∧ (¬ x8 = (101 : Int) → (rg x8 ∧ rg (105 : Int)) ∧ ((¬ x8 = (105 : Int) → X9_number_w127 G k  n h) ∧ (x8 = (105 : Int) → X9_number_w115 G k x0 x1 x3 x4 x5 x6 x7 x8 n h))))) : X9_number_w101 G k x0 x1 x3 x4 x5 x6 x7 x8 n h := by
  refine ww_iload C 8 7 rfl dX9_number_101 ?_
  refine ww_bipush C (z := 101) dX9_number_103 rfl ?_
  obtain ⟨p1, hy⟩ := hy
  refine ww_icmp_eq C (tg := 115) dX9_number_105 (by decide) p1.1 p1.2 (fun c2 => ?_) (fun c2 => ?_)
  · have hy := hy.1 c2
    exact ww_sub [0, 1, 2, 3, 4, 5, 6, 7] rfl (by decide) (by decide) hy
  · have hy := hy.2 c2
    refine ww_iload C 8 7 rfl dX9_number_108 ?_
    refine ww_bipush C (z := 105) dX9_number_110 rfl ?_
    obtain ⟨p3, hy⟩ := hy
    refine ww_icmp_ne C (tg := 127) dX9_number_112 (by decide) p3.1 p3.2 (fun c4 => ?_) (fun c4 => ?_)
    · have hy := hy.1 c4
      exact ww_sub [] rfl (by decide) (by decide) hy
    · have hy := hy.2 c4
      exact ww_sub [0, 1, 2, 3, 4, 5, 6, 7] rfl (by decide) (by decide) hy
set_option maxRecDepth 100000 in
set_option maxHeartbeats 4000000 in
theorem X9_number_b129 {G : xG} {k : xK} {n0 : Nat} {Po : Int → Nat → xH → Prop} (C : CC G k cX9_number RX9 12 rm_X9_number) (E : CQ G k (some (.object "DoubleTextsModel$Num")) rm_X9_number (fun r n1 h1 => ∃ z : Int, r = some (vR G z) ∧ Po z n1 h1)) (x0 : Nat) (x1 : Nat) (x3 : Int) (x4 : Int) (x5 : Int) (x6 : Int) (x7 : Int) (n : Nat) (h : xH) (hy : X9_number_w9 G k x0 x1 x3 x4 x5 x6 (x7 + 2) n h) : X9_number_w129 G k x0 x1 x3 x4 x5 x6 x7 n h := by
  refine ww_iinc C 7 6 rfl (by decide) rfl dX9_number_129 ?_
  refine ww_goto C (tg := 9) dX9_number_132 (by decide) ?_
  exact ww_sub [1, 2, 3, 4, 5, 6, 0] rfl (by decide) (by decide) hy
set_option maxRecDepth 100000 in
set_option maxHeartbeats 4000000 in
theorem X9_number_b164 {G : xG} {k : xK} {n0 : Nat} {Po : Int → Nat → xH → Prop} (C : CC G k cX9_number RX9 12 rm_X9_number) (E : CQ G k (some (.object "DoubleTextsModel$Num")) rm_X9_number (fun r n1 h1 => ∃ z : Int, r = some (vR G z) ∧ Po z n1 h1)) (x0 : Nat) (x1 : Nat) (x3 : Int) (x4 : Int) (x5 : Int) (x6 : Int) (x7 : Int) (s0 : Int) (n : Nat) (h : xH) (hy : rg s0 ∧ ((s0 = 0 → X9_number_w184 G k x0 x1 x3 x4 x5 x6 x7 s0 n h) ∧ (¬ s0 = 0 → okA n h x1 100 x7 ∧ (rg (hG h x1 (x7.toNat)) ∧ rg (45 : Int)) ∧ ((¬ (hG h x1 (x7.toNat)) = (45 : Int) → X9_number_w184 G k x0 x1 x3 x4 x5 x6 x7 s0 n h) ∧ ((hG h x1 (x7.toNat)) = (45 : Int) → X9_number_w185 G k x0 x1 x3 x4 x5 x6 x7 s0 1 n h))))) : X9_number_w164 G k x0 x1 x3 x4 x5 x6 x7 s0 n h := by
  refine ww_istore C 8 (by decide) rfl dX9_number_164 ?_
  refine ww_iload C 8 0 rfl dX9_number_166 ?_
  obtain ⟨p1, hy⟩ := hy
  refine ww_if_eq C (tg := 184) dX9_number_168 (by decide) p1 (fun c2 => ?_) (fun c2 => ?_)
  · have hy := hy.1 c2
    exact ww_sub [1, 2, 3, 4, 5, 6, 7, 0] rfl (by decide) (by decide) hy
  · have hy := hy.2 c2
    refine ww_aload_n C 1 2 rfl rfl dX9_number_171 ?_
    refine ww_iload C 7 7 rfl dX9_number_172 ?_
    obtain ⟨p3, hy⟩ := hy
    refine ww_iald C dX9_number_174 p3 ?_
    refine ww_bipush C (z := 45) dX9_number_175 rfl ?_
    obtain ⟨p4, hy⟩ := hy
    refine ww_icmp_ne C (tg := 184) dX9_number_177 (by decide) p4.1 p4.2 (fun c5 => ?_) (fun c5 => ?_)
    · have hy := hy.1 c5
      exact ww_sub [1, 2, 3, 4, 5, 6, 7, 0] rfl (by decide) (by decide) hy
    · have hy := hy.2 c5
      refine ww_iconst C (z := 1) dX9_number_180 rfl ?_
      refine ww_goto C (tg := 185) dX9_number_181 (by decide) ?_
      exact ww_sub [1, 2, 3, 4, 5, 6, 7, 0] rfl (by decide) (by decide) hy
set_option maxRecDepth 100000 in
set_option maxHeartbeats 4000000 in
theorem X9_number_b115 {G : xG} {k : xK} {n0 : Nat} {Po : Int → Nat → xH → Prop} (C : CC G k cX9_number RX9 12 rm_X9_number) (E : CQ G k (some (.object "DoubleTextsModel$Num")) rm_X9_number (fun r n1 h1 => ∃ z : Int, r = some (vR G z) ∧ Po z n1 h1)) (x0 : Nat) (x1 : Nat) (x3 : Int) (x4 : Int) (x5 : Int) (x6 : Int) (x7 : Int) (x8 : Int) (n : Nat) (h : xH) (hy : rg x6 ∧ ((¬ x6 = 0 → X9_number_w127 G k  n h) ∧ (x6 = 0 → X9_number_w129 G k x0 x1 x3 x4 x5 x8 x7 n h))) : X9_number_w115 G k x0 x1 x3 x4 x5 x6 x7 x8 n h := by
  refine ww_iload C 6 5 rfl dX9_number_115 ?_
  obtain ⟨p1, hy⟩ := hy
  refine ww_if_ne C (tg := 127) dX9_number_117 (by decide) p1 (fun c2 => ?_) (fun c2 => ?_)
  · have hy := hy.1 c2
    exact ww_sub [] rfl (by decide) (by decide) hy
  · have hy := hy.2 c2
    refine ww_iload C 8 7 rfl dX9_number_120 ?_
    refine ww_istore C 6 (by decide) rfl dX9_number_122 ?_
    refine ww_goto C (tg := 129) dX9_number_124 (by decide) ?_
    exact ww_sub [1, 2, 3, 4, 5, 0, 6] rfl (by decide) (by decide) hy
set_option maxRecDepth 100000 in
set_option maxHeartbeats 4000000 in
theorem X9_number_b127 {G : xG} {k : xK} {n0 : Nat} {Po : Int → Nat → xH → Prop} (C : CC G k cX9_number RX9 12 rm_X9_number) (E : CQ G k (some (.object "DoubleTextsModel$Num")) rm_X9_number (fun r n1 h1 => ∃ z : Int, r = some (vR G z) ∧ Po z n1 h1))  (n : Nat) (h : xH) (hy : Po (-1) n h) : X9_number_w127 G k  n h := by
  refine ww_null C dX9_number_127 ?_
  show WW _ _ _ _ _ _ _ (vR G (-1) :: _) _ _
  exact ww_aret C E (Or.inl ⟨_, rfl⟩) dX9_number_128 (by decide) (by decide) ⟨_, rfl, hy⟩
set_option maxRecDepth 100000 in
set_option maxHeartbeats 4000000 in
theorem X9_number_b184 {G : xG} {k : xK} {n0 : Nat} {Po : Int → Nat → xH → Prop} (C : CC G k cX9_number RX9 12 rm_X9_number) (E : CQ G k (some (.object "DoubleTextsModel$Num")) rm_X9_number (fun r n1 h1 => ∃ z : Int, r = some (vR G z) ∧ Po z n1 h1)) (x0 : Nat) (x1 : Nat) (x3 : Int) (x4 : Int) (x5 : Int) (x6 : Int) (x7 : Int) (x8 : Int) (n : Nat) (h : xH) (hy : X9_number_w185 G k x0 x1 x3 x4 x5 x6 x7 x8 0 n h) : X9_number_w184 G k x0 x1 x3 x4 x5 x6 x7 x8 n h := by
  refine ww_iconst C (z := 0) dX9_number_184 rfl ?_
  exact ww_sub [0, 1, 2, 3, 4, 5, 6, 7] rfl (by decide) (by decide) hy
set_option maxRecDepth 100000 in
set_option maxHeartbeats 4000000 in
theorem X9_number_b185 {G : xG} {k : xK} {n0 : Nat} {Po : Int → Nat → xH → Prop} (C : CC G k cX9_number RX9 12 rm_X9_number) (E : CQ G k (some (.object "DoubleTextsModel$Num")) rm_X9_number (fun r n1 h1 => ∃ z : Int, r = some (vR G z) ∧ Po z n1 h1)) (x0 : Nat) (x1 : Nat) (x3 : Int) (x4 : Int) (x5 : Int) (x6 : Int) (x7 : Int) (x8 : Int) (s0 : Int) (n : Nat) (h : xH) (hy : rg x8 ∧ ((x8 = 0 → X9_number_w195 G k x0 x1 x3 x4 x5 x6 x7 x8 s0 n h) ∧ (¬ x8 = 0 → X9_number_w195 G k x0 x1 x3 x4 x5 x6 (x7 + 1) x8 s0 n h))) : X9_number_w185 G k x0 x1 x3 x4 x5 x6 x7 x8 s0 n h := by
  refine ww_istore C 9 (by decide) rfl dX9_number_185 ?_
  refine ww_iload C 8 8 rfl dX9_number_187 ?_
  obtain ⟨p1, hy⟩ := hy
  refine ww_if_eq C (tg := 195) dX9_number_189 (by decide) p1 (fun c2 => ?_) (fun c2 => ?_)
  · have hy := hy.1 c2
    exact ww_sub [1, 2, 3, 4, 5, 6, 7, 8, 0] rfl (by decide) (by decide) hy
  · have hy := hy.2 c2
    refine ww_iinc C 7 7 rfl (by decide) rfl dX9_number_192 ?_
    exact ww_sub [2, 3, 4, 5, 6, 7, 0, 8, 1] rfl (by decide) (by decide) hy
set_option maxRecDepth 100000 in
set_option maxHeartbeats 4000000 in
theorem X9_number_b195 {G : xG} {k : xK} {n0 : Nat} {Po : Int → Nat → xH → Prop} (C : CC G k cX9_number RX9 12 rm_X9_number) (E : CQ G k (some (.object "DoubleTextsModel$Num")) rm_X9_number (fun r n1 h1 => ∃ z : Int, r = some (vR G z) ∧ Po z n1 h1)) (x0 : Nat) (x1 : Nat) (x3 : Int) (x4 : Int) (x5 : Int) (x6 : Int) (x7 : Int) (x8 : Int) (x9 : Int) (n : Nat) (h : xH) (hy : rg x8 ∧ ((x8 = 0 → X9_number_w367 G k x0 x1 x3 x4 x5 x6 x7 x9 n h) ∧ (¬ x8 = 0 → (rg (x3 - x7) ∧ rg (5 : Int)) ∧ ((¬ (x3 - x7) = (5 : Int) → X9_number_w367 G k x0 x1 x3 x4 x5 x6 x7 x9 n h) ∧ ((x3 - x7) = (5 : Int) → okA n h x1 100 (x7 + 3) ∧ (rg (hG h x1 ((x7 + 3).toNat)) ∧ rg (46 : Int)) ∧ ((¬ (hG h x1 ((x7 + 3).toNat)) = (46 : Int) → X9_number_w367 G k x0 x1 x3 x4 x5 x6 x7 x9 n h) ∧ ((hG h x1 ((x7 + 3).toNat)) = (46 : Int) → okA n h x1 100 (x7 + 4) ∧ (rg (hG h x1 ((x7 + 4).toNat)) ∧ rg (48 : Int)) ∧ ((¬ (hG h x1 ((x7 + 4).toNat)) = (48 : Int) → X9_number_w367 G k x0 x1 x3 x4 x5 x6 x7 x9 n h) ∧ ((hG h x1 ((x7 + 4).toNat)) = (48 : Int) → okA n h x1 100 x7 ∧ (rg (hG h x1 (x7.toNat)) ∧ rg (105 : Int)) ∧ ((¬ (hG h x1 (x7.toNat)) = (105 : Int) → X9_number_w265 G k x0 x1 x3 x4 x5 x6 x7 x9 n h) ∧ ((hG h x1 (x7.toNat)) = (105 : Int) → okA n h x1 100 (x7 + 1) ∧ (rg (hG h x1 ((x7 + 1).toNat)) ∧ rg (110 : Int)) ∧ ((¬ (hG h x1 ((x7 + 1).toNat)) = (110 : Int) → X9_number_w265 G k x0 x1 x3 x4 x5 x6 x7 x9 n h) ∧ ((hG h x1 ((x7 + 1).toNat)) = (110 : Int) → okA n h x1 100 (x7 + 2) ∧ (rg (hG h x1 ((x7 + 2).toNat)) ∧ rg (102 : Int)) ∧ ((¬ (hG h x1 ((x7 + 2).toNat)) = (102 : Int) → X9_number_w265 G k x0 x1 x3 x4 x5 x6 x7 x9 n h) ∧ ((hG h x1 ((x7 + 2).toNat)) = (102 : Int) → X9_number_w266 G k x0 x1 x3 x4 x5 x6 x7 x9 1 n h))))))))))))))) : X9_number_w195 G k x0 x1 x3 x4 x5 x6 x7 x8 x9 n h := by
  refine ww_iload C 8 7 rfl dX9_number_195 ?_
  obtain ⟨p1, hy⟩ := hy
  refine ww_if_eq C (tg := 367) dX9_number_197 (by decide) p1 (fun c2 => ?_) (fun c2 => ?_)
  · have hy := hy.1 c2
    exact ww_sub [0, 1, 2, 3, 4, 5, 6, 8] rfl (by decide) (by decide) hy
  · have hy := hy.2 c2
    refine ww_iload_n C 3 2 rfl rfl dX9_number_200 ?_
    refine ww_iload C 7 6 rfl dX9_number_201 ?_
    refine ww_isub C dX9_number_203 ?_
    refine ww_iconst C (z := 5) dX9_number_204 rfl ?_
    obtain ⟨p3, hy⟩ := hy
    refine ww_icmp_ne C (tg := 367) dX9_number_205 (by decide) p3.1 p3.2 (fun c4 => ?_) (fun c4 => ?_)
    · have hy := hy.1 c4
      exact ww_sub [0, 1, 2, 3, 4, 5, 6, 8] rfl (by decide) (by decide) hy
    · have hy := hy.2 c4
      refine ww_aload_n C 1 1 rfl rfl dX9_number_208 ?_
      refine ww_iload C 7 6 rfl dX9_number_209 ?_
      refine ww_iconst C (z := 3) dX9_number_211 rfl ?_
      refine ww_iadd C dX9_number_212 ?_
      obtain ⟨p5, hy⟩ := hy
      refine ww_iald C dX9_number_213 p5 ?_
      refine ww_bipush C (z := 46) dX9_number_214 rfl ?_
      obtain ⟨p6, hy⟩ := hy
      refine ww_icmp_ne C (tg := 367) dX9_number_216 (by decide) p6.1 p6.2 (fun c7 => ?_) (fun c7 => ?_)
      · have hy := hy.1 c7
        exact ww_sub [0, 1, 2, 3, 4, 5, 6, 8] rfl (by decide) (by decide) hy
      · have hy := hy.2 c7
        refine ww_aload_n C 1 1 rfl rfl dX9_number_219 ?_
        refine ww_iload C 7 6 rfl dX9_number_220 ?_
        refine ww_iconst C (z := 4) dX9_number_222 rfl ?_
        refine ww_iadd C dX9_number_223 ?_
        obtain ⟨p8, hy⟩ := hy
        refine ww_iald C dX9_number_224 p8 ?_
        refine ww_bipush C (z := 48) dX9_number_225 rfl ?_
        obtain ⟨p9, hy⟩ := hy
        refine ww_icmp_ne C (tg := 367) dX9_number_227 (by decide) p9.1 p9.2 (fun c10 => ?_) (fun c10 => ?_)
        · have hy := hy.1 c10
          exact ww_sub [0, 1, 2, 3, 4, 5, 6, 8] rfl (by decide) (by decide) hy
        · have hy := hy.2 c10
          refine ww_aload_n C 1 1 rfl rfl dX9_number_230 ?_
          refine ww_iload C 7 6 rfl dX9_number_231 ?_
          obtain ⟨p11, hy⟩ := hy
          refine ww_iald C dX9_number_233 p11 ?_
          refine ww_bipush C (z := 105) dX9_number_234 rfl ?_
          obtain ⟨p12, hy⟩ := hy
          refine ww_icmp_ne C (tg := 265) dX9_number_236 (by decide) p12.1 p12.2 (fun c13 => ?_) (fun c13 => ?_)
          · have hy := hy.1 c13
            exact ww_sub [0, 1, 2, 3, 4, 5, 6, 8] rfl (by decide) (by decide) hy
          · have hy := hy.2 c13
            refine ww_aload_n C 1 1 rfl rfl dX9_number_239 ?_
            refine ww_iload C 7 6 rfl dX9_number_240 ?_
            refine ww_iconst C (z := 1) dX9_number_242 rfl ?_
            refine ww_iadd C dX9_number_243 ?_
            obtain ⟨p14, hy⟩ := hy
            refine ww_iald C dX9_number_244 p14 ?_
            refine ww_bipush C (z := 110) dX9_number_245 rfl ?_
            obtain ⟨p15, hy⟩ := hy
            refine ww_icmp_ne C (tg := 265) dX9_number_247 (by decide) p15.1 p15.2 (fun c16 => ?_) (fun c16 => ?_)
            · have hy := hy.1 c16
              exact ww_sub [0, 1, 2, 3, 4, 5, 6, 8] rfl (by decide) (by decide) hy
            · have hy := hy.2 c16
              refine ww_aload_n C 1 1 rfl rfl dX9_number_250 ?_
              refine ww_iload C 7 6 rfl dX9_number_251 ?_
              refine ww_iconst C (z := 2) dX9_number_253 rfl ?_
              refine ww_iadd C dX9_number_254 ?_
              obtain ⟨p17, hy⟩ := hy
              refine ww_iald C dX9_number_255 p17 ?_
              refine ww_bipush C (z := 102) dX9_number_256 rfl ?_
              obtain ⟨p18, hy⟩ := hy
              refine ww_icmp_ne C (tg := 265) dX9_number_258 (by decide) p18.1 p18.2 (fun c19 => ?_) (fun c19 => ?_)
              · have hy := hy.1 c19
                exact ww_sub [0, 1, 2, 3, 4, 5, 6, 8] rfl (by decide) (by decide) hy
              · have hy := hy.2 c19
                refine ww_iconst C (z := 1) dX9_number_261 rfl ?_
                refine ww_goto C (tg := 266) dX9_number_262 (by decide) ?_
                exact ww_sub [0, 1, 2, 3, 4, 5, 6, 8] rfl (by decide) (by decide) hy
set_option maxRecDepth 100000 in
set_option maxHeartbeats 4000000 in
theorem X9_number_b367 {G : xG} {k : xK} {n0 : Nat} {Po : Int → Nat → xH → Prop} (C : CC G k cX9_number RX9 12 rm_X9_number) (E : CQ G k (some (.object "DoubleTextsModel$Num")) rm_X9_number (fun r n1 h1 => ∃ z : Int, r = some (vR G z) ∧ Po z n1 h1)) (x0 : Nat) (x1 : Nat) (x3 : Int) (x4 : Int) (x5 : Int) (x6 : Int) (x7 : Int) (x9 : Int) (n : Nat) (h : xH) (hy : rg x5 ∧ ((¬ x5 = 0 → X9_number_w384 G k x6 x9 x5 x3 x7 x1 x0 n h) ∧ (x5 = 0 → X9_number_w384 G k x6 x9 x4 x3 x7 x1 x0 n h))) : X9_number_w367 G k x0 x1 x3 x4 x5 x6 x7 x9 n h := by
  refine ww_aload_n C 0 0 rfl rfl dX9_number_367 ?_
  refine ww_aload_n C 1 1 rfl rfl dX9_number_368 ?_
  refine ww_iload C 7 6 rfl dX9_number_369 ?_
  refine ww_iload_n C 3 2 rfl rfl dX9_number_371 ?_
  refine ww_iload C 5 4 rfl dX9_number_372 ?_
  obtain ⟨p1, hy⟩ := hy
  refine ww_if_ne C (tg := 382) dX9_number_374 (by decide) p1 (fun c2 => ?_) (fun c2 => ?_)
  · have hy := hy.1 c2
    refine ww_iload C 5 4 rfl dX9_number_382 ?_
    exact ww_sub [5, 7] rfl (by decide) (by decide) hy
  · have hy := hy.2 c2
    refine ww_iload C 4 3 rfl dX9_number_377 ?_
    refine ww_goto C (tg := 384) dX9_number_379 (by decide) ?_
    exact ww_sub [5, 7] rfl (by decide) (by decide) hy
set_option maxRecDepth 100000 in
set_option maxHeartbeats 4000000 in
theorem X9_number_b265 {G : xG} {k : xK} {n0 : Nat} {Po : Int → Nat → xH → Prop} (C : CC G k cX9_number RX9 12 rm_X9_number) (E : CQ G k (some (.object "DoubleTextsModel$Num")) rm_X9_number (fun r n1 h1 => ∃ z : Int, r = some (vR G z) ∧ Po z n1 h1)) (x0 : Nat) (x1 : Nat) (x3 : Int) (x4 : Int) (x5 : Int) (x6 : Int) (x7 : Int) (x9 : Int) (n : Nat) (h : xH) (hy : X9_number_w266 G k x0 x1 x3 x4 x5 x6 x7 x9 0 n h) : X9_number_w265 G k x0 x1 x3 x4 x5 x6 x7 x9 n h := by
  refine ww_iconst C (z := 0) dX9_number_265 rfl ?_
  exact ww_sub [0, 1, 2, 3, 4, 5, 6, 7] rfl (by decide) (by decide) hy
set_option maxRecDepth 100000 in
set_option maxHeartbeats 4000000 in
theorem X9_number_b266 {G : xG} {k : xK} {n0 : Nat} {Po : Int → Nat → xH → Prop} (C : CC G k cX9_number RX9 12 rm_X9_number) (E : CQ G k (some (.object "DoubleTextsModel$Num")) rm_X9_number (fun r n1 h1 => ∃ z : Int, r = some (vR G z) ∧ Po z n1 h1)) (x0 : Nat) (x1 : Nat) (x3 : Int) (x4 : Int) (x5 : Int) (x6 : Int) (x7 : Int) (x9 : Int) (s0 : Int) (n : Nat) (h : xH) (hy : okA n h x1 100 x7 ∧ (rg (hG h x1 (x7.toNat)) ∧ rg (110 : Int)) ∧ ((¬ (hG h x1 (x7.toNat)) = (110 : Int) → X9_number_w303 G k x0 x1 x3 x4 x5 x6 x7 x9 s0 n h) ∧ ((hG h x1 (x7.toNat)) = (110 : Int) → okA n h x1 100 (x7 + 1) ∧ (rg (hG h x1 ((x7 + 1).toNat)) ∧ rg (97 : Int)) ∧ ((¬ (hG h x1 ((x7 + 1).toNat)) = (97 : Int) → X9_number_w303 G k x0 x1 x3 x4 x5 x6 x7 x9 s0 n h) ∧ ((hG h x1 ((x7 + 1).toNat)) = (97 : Int) → okA n h x1 100 (x7 + 2) ∧ (rg (hG h x1 ((x7 + 2).toNat)) ∧ rg (110 : Int)) ∧ ((¬ (hG h x1 ((x7 + 2).toNat)) = (110 : Int) → X9_number_w303 G k x0 x1 x3 x4 x5 x6 x7 x9 s0 n h) ∧ ((hG h x1 ((x7 + 2).toNat)) = (110 : Int) → X9_number_w304 G k x0 x1 x3 x4 x5 x6 x7 x9 s0 1 n h))))))) : X9_number_w266 G k x0 x1 x3 x4 x5 x6 x7 x9 s0 n h := by
  refine ww_istore C 10 (by decide) rfl dX9_number_266 ?_
  refine ww_aload_n C 1 2 rfl rfl dX9_number_268 ?_
  refine ww_iload C 7 7 rfl dX9_number_269 ?_
  obtain ⟨p1, hy⟩ := hy
  refine ww_iald C dX9_number_271 p1 ?_
  refine ww_bipush C (z := 110) dX9_number_272 rfl ?_
  obtain ⟨p2, hy⟩ := hy
  refine ww_icmp_ne C (tg := 303) dX9_number_274 (by decide) p2.1 p2.2 (fun c3 => ?_) (fun c3 => ?_)
  · have hy := hy.1 c3
    exact ww_sub [1, 2, 3, 4, 5, 6, 7, 8, 0] rfl (by decide) (by decide) hy
  · have hy := hy.2 c3
    refine ww_aload_n C 1 2 rfl rfl dX9_number_277 ?_
    refine ww_iload C 7 7 rfl dX9_number_278 ?_
    refine ww_iconst C (z := 1) dX9_number_280 rfl ?_
    refine ww_iadd C dX9_number_281 ?_
    obtain ⟨p4, hy⟩ := hy
    refine ww_iald C dX9_number_282 p4 ?_
    refine ww_bipush C (z := 97) dX9_number_283 rfl ?_
    obtain ⟨p5, hy⟩ := hy
    refine ww_icmp_ne C (tg := 303) dX9_number_285 (by decide) p5.1 p5.2 (fun c6 => ?_) (fun c6 => ?_)
    · have hy := hy.1 c6
      exact ww_sub [1, 2, 3, 4, 5, 6, 7, 8, 0] rfl (by decide) (by decide) hy
    · have hy := hy.2 c6
      refine ww_aload_n C 1 2 rfl rfl dX9_number_288 ?_
      refine ww_iload C 7 7 rfl dX9_number_289 ?_
      refine ww_iconst C (z := 2) dX9_number_291 rfl ?_
      refine ww_iadd C dX9_number_292 ?_
      obtain ⟨p7, hy⟩ := hy
      refine ww_iald C dX9_number_293 p7 ?_
      refine ww_bipush C (z := 110) dX9_number_294 rfl ?_
      obtain ⟨p8, hy⟩ := hy
      refine ww_icmp_ne C (tg := 303) dX9_number_296 (by decide) p8.1 p8.2 (fun c9 => ?_) (fun c9 => ?_)
      · have hy := hy.1 c9
        exact ww_sub [1, 2, 3, 4, 5, 6, 7, 8, 0] rfl (by decide) (by decide) hy
      · have hy := hy.2 c9
        refine ww_iconst C (z := 1) dX9_number_299 rfl ?_
        refine ww_goto C (tg := 304) dX9_number_300 (by decide) ?_
        exact ww_sub [1, 2, 3, 4, 5, 6, 7, 8, 0] rfl (by decide) (by decide) hy
set_option maxRecDepth 100000 in
set_option maxHeartbeats 4000000 in
theorem X9_number_b384 {G : xG} {k : xK} {n0 : Nat} {Po : Int → Nat → xH → Prop} (C : CC G k cX9_number RX9 12 rm_X9_number) (E : CQ G k (some (.object "DoubleTextsModel$Num")) rm_X9_number (fun r n1 h1 => ∃ z : Int, r = some (vR G z) ∧ Po z n1 h1)) (x6 : Int) (x9 : Int) (s0 : Int) (s1 : Int) (s2 : Int) (s3 : Nat) (s4 : Nat) (n : Nat) (h : xH) (hy : okO n h s4 8 ∧ S_X9_unsigned G (kl k) s4 s3 s2 s1 s0 x6 x9 n h (fun z2 n4 h3 => Po z2 n4 h3)) : X9_number_w384 G k x6 x9 s0 s1 s2 s3 s4 n h := by
  refine ww_iload C 6 0 rfl dX9_number_384 ?_
  refine ww_iload C 9 1 rfl dX9_number_386 ?_
  obtain ⟨p1, hy⟩ := hy
  refine cl_X9_320 C dX9_number_388 (Nat.le_of_ble_eq_true rfl) ⟨by decide, by decide⟩ ⟨by decide, by decide⟩ p1 ?_
  refine S_X9_unsigned.mono hy (fun z2 n4 h3 hy => ?_)
  exact ww_aret C E (Or.inl ⟨_, rfl⟩) dX9_number_391 (by decide) (by decide) ⟨_, rfl, hy⟩
set_option maxRecDepth 100000 in
set_option maxHeartbeats 4000000 in
theorem X9_number_b303 {G : xG} {k : xK} {n0 : Nat} {Po : Int → Nat → xH → Prop} (C : CC G k cX9_number RX9 12 rm_X9_number) (E : CQ G k (some (.object "DoubleTextsModel$Num")) rm_X9_number (fun r n1 h1 => ∃ z : Int, r = some (vR G z) ∧ Po z n1 h1)) (x0 : Nat) (x1 : Nat) (x3 : Int) (x4 : Int) (x5 : Int) (x6 : Int) (x7 : Int) (x9 : Int) (x10 : Int) (n : Nat) (h : xH) (hy : X9_number_w304 G k x0 x1 x3 x4 x5 x6 x7 x9 x10 0 n h) : X9_number_w303 G k x0 x1 x3 x4 x5 x6 x7 x9 x10 n h := by
  refine ww_iconst C (z := 0) dX9_number_303 rfl ?_
  exact ww_sub [0, 1, 2, 3, 4, 5, 6, 7, 8] rfl (by decide) (by decide) hy
set_option maxRecDepth 100000 in
set_option maxHeartbeats 4000000 in
theorem X9_number_b304 {G : xG} {k : xK} {n0 : Nat} {Po : Int → Nat → xH → Prop} (C : CC G k cX9_number RX9 12 rm_X9_number) (E : CQ G k (some (.object "DoubleTextsModel$Num")) rm_X9_number (fun r n1 h1 => ∃ z : Int, r = some (vR G z) ∧ Po z n1 h1)) (x0 : Nat) (x1 : Nat) (x3 : Int) (x4 : Int) (x5 : Int) (x6 : Int) (x7 : Int) (x9 : Int) (x10 : Int) (s0 : Int) (n : Nat) (h : xH) (hy : rg x10 ∧ ((¬ x10 = 0 → X9_number_w316 G k x6 x9 s0 n h) ∧ (x10 = 0 → rg s0 ∧ ((s0 = 0 → X9_number_w367 G k x0 x1 x3 x4 x5 x6 x7 x9 n h) ∧ (¬ s0 = 0 → X9_number_w316 G k x6 x9 s0 n h))))) : X9_number_w304 G k x0 x1 x3 x4 x5 x6 x7 x9 x10 s0 n h := by
  refine ww_istore C 11 (by decide) rfl dX9_number_304 ?_
  refine ww_iload C 10 9 rfl dX9_number_306 ?_
  obtain ⟨p1, hy⟩ := hy
  refine ww_if_ne C (tg := 316) dX9_number_308 (by decide) p1 (fun c2 => ?_) (fun c2 => ?_)
  · have hy := hy.1 c2
    exact ww_sub [6, 8, 0] rfl (by decide) (by decide) hy
  · have hy := hy.2 c2
    refine ww_iload C 11 0 rfl dX9_number_311 ?_
    obtain ⟨p3, hy⟩ := hy
    refine ww_if_eq C (tg := 367) dX9_number_313 (by decide) p3 (fun c4 => ?_) (fun c4 => ?_)
    · have hy := hy.1 c4
      exact ww_sub [1, 2, 3, 4, 5, 6, 7, 8] rfl (by decide) (by decide) hy
    · have hy := hy.2 c4
      exact ww_sub [6, 8, 0] rfl (by decide) (by decide) hy
set_option maxRecDepth 100000 in
set_option maxHeartbeats 4000000 in
theorem X9_number_b316 {G : xG} {k : xK} {n0 : Nat} {Po : Int → Nat → xH → Prop} (C : CC G k cX9_number RX9 12 rm_X9_number) (E : CQ G k (some (.object "DoubleTextsModel$Num")) rm_X9_number (fun r n1 h1 => ∃ z : Int, r = some (vR G z) ∧ Po z n1 h1)) (x6 : Int) (x9 : Int) (x11 : Int) (n : Nat) (h : xH) (hy : (rg x6 ∧ rg (101 : Int)) ∧ ((¬ x6 = (101 : Int) → rg x11 ∧ ((x11 = 0 → (∀ h5 : xH, h5 = hN h n (6, 0, xZ 6) → rg x9 ∧ ((x9 = 0 → X9_number_w362 G k 9218868437227405312 n n (n + 1) h5) ∧ (¬ x9 = 0 → X9_number_w362 G k 18442240474082181120 n n (n + 1) h5)))) ∧ (¬ x11 = 0 → (∀ h8 : xH, h8 = hN h n (6, 0, xZ 6) → S_X7_init G (kl k) n FP.dconst0 1 (n + 1) h8 (fun h9 => X9_number_w366 G k ((n : Nat) : Int) (n + 1) h9))))) ∧ (x6 = (101 : Int) → X9_number_w366 G k (-1) n h))) : X9_number_w316 G k x6 x9 x11 n h := by
  refine ww_iload C 6 0 rfl dX9_number_316 ?_
  refine ww_bipush C (z := 101) dX9_number_318 rfl ?_
  obtain ⟨p1, hy⟩ := hy
  refine ww_icmp_ne C (tg := 327) dX9_number_320 (by decide) p1.1 p1.2 (fun c2 => ?_) (fun c2 => ?_)
  · have hy := hy.1 c2
    refine ww_iload C 11 2 rfl dX9_number_327 ?_
    obtain ⟨p3, hy⟩ := hy
    refine ww_if_eq C (tg := 344) dX9_number_329 (by decide) p3 (fun c4 => ?_) (fun c4 => ?_)
    · have hy := hy.1 c4
      refine nw_X9_201 C dX9_number_344 (by decide) (by decide) ?_
      have hy := hy _ rfl
      refine ww_dup C rfl dX9_number_347 ?_
      refine ww_iload C 9 1 rfl dX9_number_348 ?_
      obtain ⟨p6, hy⟩ := hy
      refine ww_if_eq C (tg := 359) dX9_number_350 (by decide) p6 (fun c7 => ?_) (fun c7 => ?_)
      · have hy := hy.1 c7
        refine ww_ldc2d C q_597 dX9_number_359 ?_
        exact ww_sub [] rfl (by decide) (by decide) hy
      · have hy := hy.2 c7
        refine ww_ldc2d C q_736 dX9_number_353 ?_
        refine ww_goto C (tg := 362) dX9_number_356 (by decide) ?_
        exact ww_sub [] rfl (by decide) (by decide) hy
    · have hy := hy.2 c4
      refine nw_X9_201 C dX9_number_332 (by decide) (by decide) ?_
      have hy := hy _ rfl
      refine ww_dup C rfl dX9_number_335 ?_
      refine ww_dconst0 C dX9_number_336 ?_
      refine ww_iconst C (z := 1) dX9_number_337 rfl ?_
      refine cl_X9_315 C dX9_number_338 (Nat.le_of_ble_eq_true rfl) ⟨by decide, by decide⟩ ⟨by decide, by decide⟩ ?_
      refine S_X7_init.mono hy (fun h9 hy => ?_)
      refine ww_goto C (tg := 366) dX9_number_341 (by decide) ?_
      refine ww_rv ?_
      exact ww_sub [] rfl (by decide) (by decide) hy
  · have hy := hy.2 c2
    refine ww_null C dX9_number_323 ?_
    show WW _ _ _ _ _ _ _ (vR G (-1) :: _) _ _
    refine ww_goto C (tg := 366) dX9_number_324 (by decide) ?_
    exact ww_sub [] rfl (by decide) (by decide) hy
set_option maxRecDepth 100000 in
set_option maxHeartbeats 4000000 in
theorem X9_number_b362 {G : xG} {k : xK} {n0 : Nat} {Po : Int → Nat → xH → Prop} (C : CC G k cX9_number RX9 12 rm_X9_number) (E : CQ G k (some (.object "DoubleTextsModel$Num")) rm_X9_number (fun r n1 h1 => ∃ z : Int, r = some (vR G z) ∧ Po z n1 h1)) (s0 : UInt64) (s1 : Nat) (s2 : Nat) (n : Nat) (h : xH) (hy : S_X7_init G (kl k) s1 s0 0 n h (fun h1 => X9_number_w366 G k ((s2 : Nat) : Int) n h1)) : X9_number_w362 G k s0 s1 s2 n h := by
  refine ww_iconst C (z := 0) dX9_number_362 rfl ?_
  refine cl_X9_315 C dX9_number_363 (Nat.le_of_ble_eq_true rfl) ⟨by decide, by decide⟩ ⟨by decide, by decide⟩ ?_
  refine S_X7_init.mono hy (fun h1 hy => ?_)
  refine ww_rv ?_
  exact ww_sub [] rfl (by decide) (by decide) hy
set_option maxRecDepth 100000 in
set_option maxHeartbeats 4000000 in
theorem X9_number_b366 {G : xG} {k : xK} {n0 : Nat} {Po : Int → Nat → xH → Prop} (C : CC G k cX9_number RX9 12 rm_X9_number) (E : CQ G k (some (.object "DoubleTextsModel$Num")) rm_X9_number (fun r n1 h1 => ∃ z : Int, r = some (vR G z) ∧ Po z n1 h1)) (s0 : Int) (n : Nat) (h : xH) (hy : Po s0 n h) : X9_number_w366 G k s0 n h := by
  exact ww_aret C E (Or.inl ⟨_, rfl⟩) dX9_number_366 (by decide) (by decide) ⟨_, rfl, hy⟩
abbrev X9_init_w0 (G : xG) (k : xK) (x0 : Nat) (n : Nat) (h : xH) : Prop := WW G k 1 0 0 0 [(0, rf G x0)] [] n h
theorem S_X9_init_of {G : xG} {l : Launch} {x0 : Nat} {n : Nat} {h : xH} {Po : Nat → xH → Prop} (body : ∀ k : xK, kl k = l → (kt k).name = "<init>" → CC G k cX9_init RX9 1 rm_X9_init → CQ G k none rm_X9_init (fun r n1 h1 => r = none ∧ Po n1 h1) → X9_init_w0 G k x0 n h) : S_X9_init G l x0 n h Po := xS_of (by decide +kernel) (Nat.le_of_ble_eq_true rfl) rfl (fun k hl hnm C E => body k hl hnm C E)
set_option maxRecDepth 100000 in
set_option maxHeartbeats 4000000 in
theorem X9_init_b0 {G : xG} {k : xK} {n0 : Nat} {Po : Nat → xH → Prop} (C : CC G k cX9_init RX9 1 rm_X9_init) (E : CQ G k none rm_X9_init (fun r n1 h1 => r = none ∧ Po n1 h1)) (hin : (kt k).name = "<init>") (x0 : Nat) (n : Nat) (h : xH) (hy : (0 ≤ (1 : Int) ∧ (1 : Int) ≤ 1) ∧ (∀ h2 : xH, h2 = hN h n (100, 1, fun _ => 0) → okA (n + 1) h2 n 100 0 ∧ (∀ h4 : xH, h4 = hS h2 n 0 1 → okO (n + 1) h4 x0 8 ∧ (∀ h6 : xH, h6 = hS h4 x0 0 ((n : Nat) : Int) → (0 ≤ (440 : Int) ∧ (440 : Int) ≤ 440) ∧ (∀ h8 : xH, h8 = hN h6 (n + 1) (100, 440, fun _ => 0) → okO ((n + 1) + 1) h8 x0 8 ∧ (∀ h10 : xH, h10 = hS h8 x0 1 ((n + 1 : Nat) : Int) → (0 ≤ (440 : Int) ∧ (440 : Int) ≤ 440) ∧ (∀ h12 : xH, h12 = hN h10 ((n + 1) + 1) (100, 440, fun _ => 0) → okO (((n + 1) + 1) + 1) h12 x0 8 ∧ (∀ h14 : xH, h14 = hS h12 x0 2 (((n + 1) + 1 : Nat) : Int) → (0 ≤ (440 : Int) ∧ (440 : Int) ≤ 440) ∧ (∀ h16 : xH, h16 = hN h14 (((n + 1) + 1) + 1) (100, 440, fun _ => 0) → okO ((((n + 1) + 1) + 1) + 1) h16 x0 8 ∧ (∀ h18 : xH, h18 = hS h16 x0 3 ((((n + 1) + 1) + 1 : Nat) : Int) → (0 ≤ (440 : Int) ∧ (440 : Int) ≤ 440) ∧ (∀ h20 : xH, h20 = hN h18 ((((n + 1) + 1) + 1) + 1) (100, 440, fun _ => 0) → okO (((((n + 1) + 1) + 1) + 1) + 1) h20 x0 8 ∧ (∀ h22 : xH, h22 = hS h20 x0 4 (((((n + 1) + 1) + 1) + 1 : Nat) : Int) → (0 ≤ (440 : Int) ∧ (440 : Int) ≤ 440) ∧ (∀ h24 : xH, h24 = hN h22 (((((n + 1) + 1) + 1) + 1) + 1) (100, 440, fun _ => 0) → okO ((((((n + 1) + 1) + 1) + 1) + 1) + 1) h24 x0 8 ∧ (∀ h26 : xH, h26 = hS h24 x0 5 ((((((n + 1) + 1) + 1) + 1) + 1 : Nat) : Int) → (0 ≤ (440 : Int) ∧ (440 : Int) ≤ 440) ∧ (∀ h28 : xH, h28 = hN h26 ((((((n + 1) + 1) + 1) + 1) + 1) + 1) (100, 440, fun _ => 0) → okO (((((((n + 1) + 1) + 1) + 1) + 1) + 1) + 1) h28 x0 8 ∧ (∀ h30 : xH, h30 = hS h28 x0 6 (((((((n + 1) + 1) + 1) + 1) + 1) + 1 : Nat) : Int) → (0 ≤ (140 : Int) ∧ (140 : Int) ≤ 140) ∧ (∀ h32 : xH, h32 = hN h30 (((((((n + 1) + 1) + 1) + 1) + 1) + 1) + 1) (100, 140, fun _ => 0) → okO ((((((((n + 1) + 1) + 1) + 1) + 1) + 1) + 1) + 1) h32 x0 8 ∧ (∀ h34 : xH, h34 = hS h32 x0 7 ((((((((n + 1) + 1) + 1) + 1) + 1) + 1) + 1 : Nat) : Int) → (0 ≤ (540 : Int) ∧ (540 : Int) ≤ 540) ∧ (∀ h36 : xH, h36 = hN h34 ((((((((n + 1) + 1) + 1) + 1) + 1) + 1) + 1) + 1) (100, 540, fun _ => 0) → okO (((((((((n + 1) + 1) + 1) + 1) + 1) + 1) + 1) + 1) + 1) h36 x0 8 ∧ (∀ h38 : xH, h38 = hS h36 x0 8 (((((((((n + 1) + 1) + 1) + 1) + 1) + 1) + 1) + 1 : Nat) : Int) → (0 ≤ (540 : Int) ∧ (540 : Int) ≤ 540) ∧ (∀ h40 : xH, h40 = hN h38 (((((((((n + 1) + 1) + 1) + 1) + 1) + 1) + 1) + 1) + 1) (100, 540, fun _ => 0) → okO ((((((((((n + 1) + 1) + 1) + 1) + 1) + 1) + 1) + 1) + 1) + 1) h40 x0 8 ∧ (∀ h42 : xH, h42 = hS h40 x0 9 ((((((((((n + 1) + 1) + 1) + 1) + 1) + 1) + 1) + 1) + 1 : Nat) : Int) → (0 ≤ (540 : Int) ∧ (540 : Int) ≤ 540) ∧ (∀ h44 : xH, h44 = hN h42 ((((((((((n + 1) + 1) + 1) + 1) + 1) + 1) + 1) + 1) + 1) + 1) (100, 540, fun _ => 0) → okO (((((((((((n + 1) + 1) + 1) + 1) + 1) + 1) + 1) + 1) + 1) + 1) + 1) h44 x0 8 ∧ (∀ h46 : xH, h46 = hS h44 x0 10 (((((((((((n + 1) + 1) + 1) + 1) + 1) + 1) + 1) + 1) + 1) + 1 : Nat) : Int) → (0 ≤ (200 : Int) ∧ (200 : Int) ≤ 200) ∧ (∀ h48 : xH, h48 = hN h46 (((((((((((n + 1) + 1) + 1) + 1) + 1) + 1) + 1) + 1) + 1) + 1) + 1) (100, 200, fun _ => 0) → okO ((((((((((((n + 1) + 1) + 1) + 1) + 1) + 1) + 1) + 1) + 1) + 1) + 1) + 1) h48 x0 8 ∧ (∀ h50 : xH, h50 = hS h48 x0 11 ((((((((((((n + 1) + 1) + 1) + 1) + 1) + 1) + 1) + 1) + 1) + 1) + 1 : Nat) : Int) → (0 ≤ (200 : Int) ∧ (200 : Int) ≤ 200) ∧ (∀ h52 : xH, h52 = hN h50 ((((((((((((n + 1) + 1) + 1) + 1) + 1) + 1) + 1) + 1) + 1) + 1) + 1) + 1) (100, 200, fun _ => 0) → okO (((((((((((((n + 1) + 1) + 1) + 1) + 1) + 1) + 1) + 1) + 1) + 1) + 1) + 1) + 1) h52 x0 8 ∧ (∀ h54 : xH, h54 = hS h52 x0 12 (((((((((((((n + 1) + 1) + 1) + 1) + 1) + 1) + 1) + 1) + 1) + 1) + 1) + 1 : Nat) : Int) → (0 ≤ (200 : Int) ∧ (200 : Int) ≤ 200) ∧ (∀ h56 : xH, h56 = hN h54 (((((((((((((n + 1) + 1) + 1) + 1) + 1) + 1) + 1) + 1) + 1) + 1) + 1) + 1) + 1) (100, 200, fun _ => 0) → okO ((((((((((((((n + 1) + 1) + 1) + 1) + 1) + 1) + 1) + 1) + 1) + 1) + 1) + 1) + 1) + 1) h56 x0 8 ∧ (∀ h58 : xH, h58 = hS h56 x0 13 ((((((((((((((n + 1) + 1) + 1) + 1) + 1) + 1) + 1) + 1) + 1) + 1) + 1) + 1) + 1 : Nat) : Int) → (0 ≤ (200 : Int) ∧ (200 : Int) ≤ 200) ∧ (∀ h60 : xH, h60 = hN h58 ((((((((((((((n + 1) + 1) + 1) + 1) + 1) + 1) + 1) + 1) + 1) + 1) + 1) + 1) + 1) + 1) (100, 200, fun _ => 0) → okO (((((((((((((((n + 1) + 1) + 1) + 1) + 1) + 1) + 1) + 1) + 1) + 1) + 1) + 1) + 1) + 1) + 1) h60 x0 8 ∧ (∀ h62 : xH, h62 = hS h60 x0 14 (((((((((((((((n + 1) + 1) + 1) + 1) + 1) + 1) + 1) + 1) + 1) + 1) + 1) + 1) + 1) + 1 : Nat) : Int) → (0 ≤ (200 : Int) ∧ (200 : Int) ≤ 200) ∧ (∀ h64 : xH, h64 = hN h62 (((((((((((((((n + 1) + 1) + 1) + 1) + 1) + 1) + 1) + 1) + 1) + 1) + 1) + 1) + 1) + 1) + 1) (100, 200, fun _ => 0) → okO ((((((((((((((((n + 1) + 1) + 1) + 1) + 1) + 1) + 1) + 1) + 1) + 1) + 1) + 1) + 1) + 1) + 1) + 1) h64 x0 8 ∧ (∀ h66 : xH, h66 = hS h64 x0 15 ((((((((((((((((n + 1) + 1) + 1) + 1) + 1) + 1) + 1) + 1) + 1) + 1) + 1) + 1) + 1) + 1) + 1 : Nat) : Int) → (0 ≤ (200 : Int) ∧ (200 : Int) ≤ 200) ∧ (∀ h68 : xH, h68 = hN h66 ((((((((((((((((n + 1) + 1) + 1) + 1) + 1) + 1) + 1) + 1) + 1) + 1) + 1) + 1) + 1) + 1) + 1) + 1) (100, 200, fun _ => 0) → okO (((((((((((((((((n + 1) + 1) + 1) + 1) + 1) + 1) + 1) + 1) + 1) + 1) + 1) + 1) + 1) + 1) + 1) + 1) + 1) h68 x0 8 ∧ (∀ h70 : xH, h70 = hS h68 x0 16 (((((((((((((((((n + 1) + 1) + 1) + 1) + 1) + 1) + 1) + 1) + 1) + 1) + 1) + 1) + 1) + 1) + 1) + 1 : Nat) : Int) → (0 ≤ (200 : Int) ∧ (200 : Int) ≤ 200) ∧ (∀ h72 : xH, h72 = hN h70 (((((((((((((((((n + 1) + 1) + 1) + 1) + 1) + 1) + 1) + 1) + 1) + 1) + 1) + 1) + 1) + 1) + 1) + 1) + 1) (100, 200, fun _ => 0) → okO ((((((((((((((((((n + 1) + 1) + 1) + 1) + 1) + 1) + 1) + 1) + 1) + 1) + 1) + 1) + 1) + 1) + 1) + 1) + 1) + 1) h72 x0 8 ∧ (∀ h74 : xH, h74 = hS h72 x0 17 ((((((((((((((((((n + 1) + 1) + 1) + 1) + 1) + 1) + 1) + 1) + 1) + 1) + 1) + 1) + 1) + 1) + 1) + 1) + 1 : Nat) : Int) → (0 ≤ (24 : Int) ∧ (24 : Int) ≤ 24) ∧ (∀ h76 : xH, h76 = hN h74 ((((((((((((((((((n + 1) + 1) + 1) + 1) + 1) + 1) + 1) + 1) + 1) + 1) + 1) + 1) + 1) + 1) + 1) + 1) + 1) + 1) (100, 24, fun _ => 0) → okO (((((((((((((((((((n + 1) + 1) + 1) + 1) + 1) + 1) + 1) + 1) + 1) + 1) + 1) + 1) + 1) + 1) + 1) + 1) + 1) + 1) + 1) h76 x0 8 ∧ (∀ h78 : xH, h78 = hS h76 x0 18 (((((((((((((((((((n + 1) + 1) + 1) + 1) + 1) + 1) + 1) + 1) + 1) + 1) + 1) + 1) + 1) + 1) + 1) + 1) + 1) + 1 : Nat) : Int) → (0 ≤ (8200 : Int) ∧ (8200 : Int) ≤ 8200) ∧ (∀ h80 : xH, h80 = hN h78 (((((((((((((((((((n + 1) + 1) + 1) + 1) + 1) + 1) + 1) + 1) + 1) + 1) + 1) + 1) + 1) + 1) + 1) + 1) + 1) + 1) + 1) (100, 8200, fun _ => 0) → okO ((((((((((((((((((((n + 1) + 1) + 1) + 1) + 1) + 1) + 1) + 1) + 1) + 1) + 1) + 1) + 1) + 1) + 1) + 1) + 1) + 1) + 1) + 1) h80 x0 8 ∧ (∀ h82 : xH, h82 = hS h80 x0 20 ((((((((((((((((((((n + 1) + 1) + 1) + 1) + 1) + 1) + 1) + 1) + 1) + 1) + 1) + 1) + 1) + 1) + 1) + 1) + 1) + 1) + 1 : Nat) : Int) → okO ((((((((((((((((((((n + 1) + 1) + 1) + 1) + 1) + 1) + 1) + 1) + 1) + 1) + 1) + 1) + 1) + 1) + 1) + 1) + 1) + 1) + 1) + 1) h82 x0 8 ∧ 0 ≤ hG h82 x0 0 ∧ okO ((((((((((((((((((((n + 1) + 1) + 1) + 1) + 1) + 1) + 1) + 1) + 1) + 1) + 1) + 1) + 1) + 1) + 1) + 1) + 1) + 1) + 1) + 1) h82 x0 8 ∧ (∀ h86 : xH, h86 = hS h82 x0 22 (((hG h82 x0 0).toNat : Nat) : Int) → (0 ≤ (400 : Int) ∧ (400 : Int) ≤ 400) ∧ (∀ h88 : xH, h88 = hN h86 ((((((((((((((((((((n + 1) + 1) + 1) + 1) + 1) + 1) + 1) + 1) + 1) + 1) + 1) + 1) + 1) + 1) + 1) + 1) + 1) + 1) + 1) + 1) (100, 400, fun _ => 0) → okO (((((((((((((((((((((n + 1) + 1) + 1) + 1) + 1) + 1) + 1) + 1) + 1) + 1) + 1) + 1) + 1) + 1) + 1) + 1) + 1) + 1) + 1) + 1) + 1) h88 x0 8 ∧ (∀ h90 : xH, h90 = hS h88 x0 23 (((((((((((((((((((((n + 1) + 1) + 1) + 1) + 1) + 1) + 1) + 1) + 1) + 1) + 1) + 1) + 1) + 1) + 1) + 1) + 1) + 1) + 1) + 1 : Nat) : Int) → Po (((((((((((((((((((((n + 1) + 1) + 1) + 1) + 1) + 1) + 1) + 1) + 1) + 1) + 1) + 1) + 1) + 1) + 1) + 1) + 1) + 1) + 1) + 1) + 1) h90))))))))))))))))))))))))))))))))))))))))))))) : X9_init_w0 G k x0 n h := by
  refine ww_aload_n C 0 0 rfl rfl dX9_init_0 ?_
  refine ww_objInit C q_757 q_52 q_53 dX9_init_1 (by decide) (by decide) ?_
  refine ww_aload_n C 0 0 rfl rfl dX9_init_4 ?_
  refine ww_iconst C (z := 1) dX9_init_5 rfl ?_
  obtain ⟨p1, hy⟩ := hy
  refine ww_newI C (B := 1) q_36 dX9_init_6 p1.1 p1.2 (by decide) (by decide) (by decide) ?_
  have hy := hy _ rfl
  refine ww_dup C rfl dX9_init_8 ?_
  refine ww_iconst C (z := 0) dX9_init_9 rfl ?_
  refine ww_iconst C (z := 1) dX9_init_10 rfl ?_
  obtain ⟨p3, hy⟩ := hy
  have hy := hy _ rfl
  refine ww_iast C dX9_init_11 p3 ?_
  obtain ⟨p5, hy⟩ := hy
  have hy := hy _ rfl
  refine pf_X9_125R C hin dX9_init_12 p5 ?_
  refine ww_aload_n C 0 0 rfl rfl dX9_init_15 ?_
  refine ww_sipush C (z := 440) dX9_init_16 rfl ?_
  obtain ⟨p7, hy⟩ := hy
  refine ww_newI C (B := 440) q_36 dX9_init_19 p7.1 p7.2 (by decide) (by decide) (by decide) ?_
  have hy := hy _ rfl
  obtain ⟨p9, hy⟩ := hy
  have hy := hy _ rfl
  refine pf_X9_72R C hin dX9_init_21 p9 ?_
  refine ww_aload_n C 0 0 rfl rfl dX9_init_24 ?_
  refine ww_sipush C (z := 440) dX9_init_25 rfl ?_
  obtain ⟨p11, hy⟩ := hy
  refine ww_newI C (B := 440) q_36 dX9_init_28 p11.1 p11.2 (by decide) (by decide) (by decide) ?_
  have hy := hy _ rfl
  obtain ⟨p13, hy⟩ := hy
  have hy := hy _ rfl
  refine pf_X9_235R C hin dX9_init_30 p13 ?_
  refine ww_aload_n C 0 0 rfl rfl dX9_init_33 ?_
  refine ww_sipush C (z := 440) dX9_init_34 rfl ?_
  obtain ⟨p15, hy⟩ := hy
  refine ww_newI C (B := 440) q_36 dX9_init_37 p15.1 p15.2 (by decide) (by decide) (by decide) ?_
  have hy := hy _ rfl
  obtain ⟨p17, hy⟩ := hy
  have hy := hy _ rfl
  refine pf_X9_54R C hin dX9_init_39 p17 ?_
  refine ww_aload_n C 0 0 rfl rfl dX9_init_42 ?_
  refine ww_sipush C (z := 440) dX9_init_43 rfl ?_
  obtain ⟨p19, hy⟩ := hy
  refine ww_newI C (B := 440) q_36 dX9_init_46 p19.1 p19.2 (by decide) (by decide) (by decide) ?_
  have hy := hy _ rfl
  obtain ⟨p21, hy⟩ := hy
  have hy := hy _ rfl
  refine pf_X9_58R C hin dX9_init_48 p21 ?_
  refine ww_aload_n C 0 0 rfl rfl dX9_init_51 ?_
  refine ww_sipush C (z := 440) dX9_init_52 rfl ?_
  obtain ⟨p23, hy⟩ := hy
  refine ww_newI C (B := 440) q_36 dX9_init_55 p23.1 p23.2 (by decide) (by decide) (by decide) ?_
  have hy := hy _ rfl
  obtain ⟨p25, hy⟩ := hy
  have hy := hy _ rfl
  refine pf_X9_184R C hin dX9_init_57 p25 ?_
  refine ww_aload_n C 0 0 rfl rfl dX9_init_60 ?_
  refine ww_sipush C (z := 440) dX9_init_61 rfl ?_
  obtain ⟨p27, hy⟩ := hy
  refine ww_newI C (B := 440) q_36 dX9_init_64 p27.1 p27.2 (by decide) (by decide) (by decide) ?_
  have hy := hy _ rfl
  obtain ⟨p29, hy⟩ := hy
  have hy := hy _ rfl
  refine pf_X9_191R C hin dX9_init_66 p29 ?_
  refine ww_aload_n C 0 0 rfl rfl dX9_init_69 ?_
  refine ww_sipush C (z := 140) dX9_init_70 rfl ?_
  obtain ⟨p31, hy⟩ := hy
  refine ww_newI C (B := 140) q_36 dX9_init_73 p31.1 p31.2 (by decide) (by decide) (by decide) ?_
  have hy := hy _ rfl
  obtain ⟨p33, hy⟩ := hy
  have hy := hy _ rfl
  refine pf_X9_312R C hin dX9_init_75 p33 ?_
  refine ww_aload_n C 0 0 rfl rfl dX9_init_78 ?_
  refine ww_sipush C (z := 540) dX9_init_79 rfl ?_
  obtain ⟨p35, hy⟩ := hy
  refine ww_newI C (B := 540) q_36 dX9_init_82 p35.1 p35.2 (by decide) (by decide) (by decide) ?_
  have hy := hy _ rfl
  obtain ⟨p37, hy⟩ := hy
  have hy := hy _ rfl
  refine pf_X9_119R C hin dX9_init_84 p37 ?_
  refine ww_aload_n C 0 0 rfl rfl dX9_init_87 ?_
  refine ww_sipush C (z := 540) dX9_init_88 rfl ?_
  obtain ⟨p39, hy⟩ := hy
  refine ww_newI C (B := 540) q_36 dX9_init_91 p39.1 p39.2 (by decide) (by decide) (by decide) ?_
  have hy := hy _ rfl
  obtain ⟨p41, hy⟩ := hy
  have hy := hy _ rfl
  refine pf_X9_122R C hin dX9_init_93 p41 ?_
  refine ww_aload_n C 0 0 rfl rfl dX9_init_96 ?_
  refine ww_sipush C (z := 540) dX9_init_97 rfl ?_
  obtain ⟨p43, hy⟩ := hy
  refine ww_newI C (B := 540) q_36 dX9_init_100 p43.1 p43.2 (by decide) (by decide) (by decide) ?_
  have hy := hy _ rfl
  obtain ⟨p45, hy⟩ := hy
  have hy := hy _ rfl
  refine pf_X9_128R C hin dX9_init_102 p45 ?_
  refine ww_aload_n C 0 0 rfl rfl dX9_init_105 ?_
  refine ww_sipush C (z := 200) dX9_init_106 rfl ?_
  obtain ⟨p47, hy⟩ := hy
  refine ww_newI C (B := 200) q_36 dX9_init_109 p47.1 p47.2 (by decide) (by decide) (by decide) ?_
  have hy := hy _ rfl
  obtain ⟨p49, hy⟩ := hy
  have hy := hy _ rfl
  refine pf_X9_350R C hin dX9_init_111 p49 ?_
  refine ww_aload_n C 0 0 rfl rfl dX9_init_114 ?_
  refine ww_sipush C (z := 200) dX9_init_115 rfl ?_
  obtain ⟨p51, hy⟩ := hy
  refine ww_newI C (B := 200) q_36 dX9_init_118 p51.1 p51.2 (by decide) (by decide) (by decide) ?_
  have hy := hy _ rfl
  obtain ⟨p53, hy⟩ := hy
  have hy := hy _ rfl
  refine pf_X9_353R C hin dX9_init_120 p53 ?_
  refine ww_aload_n C 0 0 rfl rfl dX9_init_123 ?_
  refine ww_sipush C (z := 200) dX9_init_124 rfl ?_
  obtain ⟨p55, hy⟩ := hy
  refine ww_newI C (B := 200) q_36 dX9_init_127 p55.1 p55.2 (by decide) (by decide) (by decide) ?_
  have hy := hy _ rfl
  obtain ⟨p57, hy⟩ := hy
  have hy := hy _ rfl
  refine pf_X9_266R C hin dX9_init_129 p57 ?_
  refine ww_aload_n C 0 0 rfl rfl dX9_init_132 ?_
  refine ww_sipush C (z := 200) dX9_init_133 rfl ?_
  obtain ⟨p59, hy⟩ := hy
  refine ww_newI C (B := 200) q_36 dX9_init_136 p59.1 p59.2 (by decide) (by decide) (by decide) ?_
  have hy := hy _ rfl
  obtain ⟨p61, hy⟩ := hy
  have hy := hy _ rfl
  refine pf_X9_269R C hin dX9_init_138 p61 ?_
  refine ww_aload_n C 0 0 rfl rfl dX9_init_141 ?_
  refine ww_sipush C (z := 200) dX9_init_142 rfl ?_
  obtain ⟨p63, hy⟩ := hy
  refine ww_newI C (B := 200) q_36 dX9_init_145 p63.1 p63.2 (by decide) (by decide) (by decide) ?_
  have hy := hy _ rfl
  obtain ⟨p65, hy⟩ := hy
  have hy := hy _ rfl
  refine pf_X9_272R C hin dX9_init_147 p65 ?_
  refine ww_aload_n C 0 0 rfl rfl dX9_init_150 ?_
  refine ww_sipush C (z := 200) dX9_init_151 rfl ?_
  obtain ⟨p67, hy⟩ := hy
  refine ww_newI C (B := 200) q_36 dX9_init_154 p67.1 p67.2 (by decide) (by decide) (by decide) ?_
  have hy := hy _ rfl
  obtain ⟨p69, hy⟩ := hy
  have hy := hy _ rfl
  refine pf_X9_275R C hin dX9_init_156 p69 ?_
  refine ww_aload_n C 0 0 rfl rfl dX9_init_159 ?_
  refine ww_sipush C (z := 200) dX9_init_160 rfl ?_
  obtain ⟨p71, hy⟩ := hy
  refine ww_newI C (B := 200) q_36 dX9_init_163 p71.1 p71.2 (by decide) (by decide) (by decide) ?_
  have hy := hy _ rfl
  obtain ⟨p73, hy⟩ := hy
  have hy := hy _ rfl
  refine pf_X9_281R C hin dX9_init_165 p73 ?_
  refine ww_aload_n C 0 0 rfl rfl dX9_init_168 ?_
  refine ww_bipush C (z := 24) dX9_init_169 rfl ?_
  obtain ⟨p75, hy⟩ := hy
  refine ww_newI C (B := 24) q_36 dX9_init_171 p75.1 p75.2 (by decide) (by decide) (by decide) ?_
  have hy := hy _ rfl
  obtain ⟨p77, hy⟩ := hy
  have hy := hy _ rfl
  refine pf_X9_290R C hin dX9_init_173 p77 ?_
  refine ww_aload_n C 0 0 rfl rfl dX9_init_176 ?_
  refine ww_sipush C (z := 8200) dX9_init_177 rfl ?_
  obtain ⟨p79, hy⟩ := hy
  refine ww_newI C (B := 8200) q_36 dX9_init_180 p79.1 p79.2 (by decide) (by decide) (by decide) ?_
  have hy := hy _ rfl
  obtain ⟨p81, hy⟩ := hy
  have hy := hy _ rfl
  refine pf_X9_79R C hin dX9_init_182 p81 ?_
  refine ww_aload_n C 0 0 rfl rfl dX9_init_185 ?_
  refine ww_aload_n C 0 0 rfl rfl dX9_init_186 ?_
  obtain ⟨p83, hy⟩ := hy
  obtain ⟨p84, hy⟩ := hy
  refine gf_X9_125 C dX9_init_187 p83 p84 ?_
  obtain ⟨p85, hy⟩ := hy
  have hy := hy _ rfl
  refine pf_X9_69R C dX9_init_190 p85 ?_
  refine ww_aload_n C 0 0 rfl rfl dX9_init_193 ?_
  refine ww_sipush C (z := 400) dX9_init_194 rfl ?_
  obtain ⟨p87, hy⟩ := hy
  refine ww_newI C (B := 400) q_36 dX9_init_197 p87.1 p87.2 (by decide) (by decide) (by decide) ?_
  have hy := hy _ rfl
  obtain ⟨p89, hy⟩ := hy
  have hy := hy _ rfl
  refine pf_X9_356R C hin dX9_init_199 p89 ?_
  exact ww_vret C E dX9_init_202 (by decide) (by decide) ⟨rfl, hy⟩
abbrev X9_type_w0 (G : xG) (k : xK) (x0 : Nat) (x1 : Int) (n : Nat) (h : xH) : Prop := WW G k 2 0 0 0 [(0, rf G x0), (1, .int (iz x1))] [] n h
abbrev X9_type_w20 (G : xG) (k : xK)  (n : Nat) (h : xH) : Prop := WW G k 2 0 0 20 [] [] n h
theorem S_X9_type_of {G : xG} {l : Launch} {x0 : Nat} {x1 : Int} {n : Nat} {h : xH} {Po : Int → xH → Prop} (body : ∀ k : xK, kl k = l → CC G k cX9_type RX9 2 rm_X9_type → CQ G k (some .int) rm_X9_type (fun r n1 h1 => ∃ z : Int, r = some (.int (iz z)) ∧ n1 = n ∧ Po z h1) → X9_type_w0 G k x0 x1 n h) : S_X9_type G l x0 x1 n h Po := xS_of (by decide +kernel) (Nat.le_of_ble_eq_true rfl) rfl (fun k hl hnm C E => body k hl C E)
set_option maxRecDepth 100000 in
set_option maxHeartbeats 4000000 in
theorem X9_type_b0 {G : xG} {k : xK} {n0 : Nat} {Po : Int → xH → Prop} (C : CC G k cX9_type RX9 2 rm_X9_type) (E : CQ G k (some .int) rm_X9_type (fun r n1 h1 => ∃ z : Int, r = some (.int (iz z)) ∧ n1 = n0 ∧ Po z h1)) (x0 : Nat) (x1 : Int) (n : Nat) (h : xH) (hn0 : n = n0) (hy : rg x1 ∧ ((x1 < 0 → X9_type_w20 G k  n h) ∧ (¬ x1 < 0 → (rg x1 ∧ rg (127 : Int)) ∧ (((127 : Int) < x1 → X9_type_w20 G k  n h) ∧ (¬ (127 : Int) < x1 → okO n h x0 8 ∧ (rg (hG h x0 24) ∧ rg (400 : Int)) ∧ ((¬ (hG h x0 24) = (400 : Int) → okO n h x0 8 ∧ 0 ≤ hG h x0 23 ∧ okO n h x0 8 ∧ okA n h ((hG h x0 23).toNat) 100 (hG h x0 24) ∧ (∀ h12 : xH, h12 = hS h ((hG h x0 23).toNat) ((hG h x0 24).toNat) x1 → okO n h12 x0 8 ∧ okO n h12 x0 8 ∧ (∀ h15 : xH, h15 = hS h12 x0 24 ((hG h12 x0 24) + 1) → okO n h15 x0 8 ∧ Po (hG h15 x0 24) h15))) ∧ ((hG h x0 24) = (400 : Int) → X9_type_w20 G k  n h))))))) : X9_type_w0 G k x0 x1 n h := by
  subst hn0
  refine ww_iload_n C 1 1 rfl rfl dX9_type_0 ?_
  obtain ⟨p1, hy⟩ := hy
  refine ww_if_lt C (tg := 20) dX9_type_1 (by decide) p1 (fun c2 => ?_) (fun c2 => ?_)
  · have hy := hy.1 c2
    exact ww_sub [] rfl (by decide) (by decide) hy
  · have hy := hy.2 c2
    refine ww_iload_n C 1 1 rfl rfl dX9_type_4 ?_
    refine ww_bipush C (z := 127) dX9_type_5 rfl ?_
    obtain ⟨p3, hy⟩ := hy
    refine ww_icmp_gt C (tg := 20) dX9_type_7 (by decide) p3.1 p3.2 (fun c4 => ?_) (fun c4 => ?_)
    · have hy := hy.1 c4
      exact ww_sub [] rfl (by decide) (by decide) hy
    · have hy := hy.2 c4
      refine ww_aload_n C 0 0 rfl rfl dX9_type_10 ?_
      obtain ⟨p5, hy⟩ := hy
      refine gf_X9_359 C dX9_type_11 p5 ?_
      refine ww_sipush C (z := 400) dX9_type_14 rfl ?_
      obtain ⟨p6, hy⟩ := hy
      refine ww_icmp_ne C (tg := 22) dX9_type_17 (by decide) p6.1 p6.2 (fun c7 => ?_) (fun c7 => ?_)
      · have hy := hy.1 c7
        refine ww_aload_n C 0 0 rfl rfl dX9_type_22 ?_
        obtain ⟨p8, hy⟩ := hy
        obtain ⟨p9, hy⟩ := hy
        refine gf_X9_356 C dX9_type_23 p8 p9 ?_
        refine ww_aload_n C 0 0 rfl rfl dX9_type_26 ?_
        obtain ⟨p10, hy⟩ := hy
        refine gf_X9_359 C dX9_type_27 p10 ?_
        refine ww_iload_n C 1 1 rfl rfl dX9_type_30 ?_
        obtain ⟨p11, hy⟩ := hy
        have hy := hy _ rfl
        refine ww_iast C dX9_type_31 p11 ?_
        refine ww_aload_n C 0 0 rfl rfl dX9_type_32 ?_
        refine ww_dup C rfl dX9_type_33 ?_
        obtain ⟨p13, hy⟩ := hy
        refine gf_X9_359 C dX9_type_34 p13 ?_
        refine ww_iconst C (z := 1) dX9_type_37 rfl ?_
        refine ww_iadd C dX9_type_38 ?_
        obtain ⟨p14, hy⟩ := hy
        have hy := hy _ rfl
        refine pf_X9_359I C dX9_type_39 p14 ?_
        refine ww_aload_n C 0 0 rfl rfl dX9_type_42 ?_
        obtain ⟨p16, hy⟩ := hy
        refine gf_X9_359 C dX9_type_43 p16 ?_
        exact ww_iret C E dX9_type_46 (by decide) (by decide) ⟨_, rfl, rfl, hy⟩
      · have hy := hy.2 c7
        exact ww_sub [] rfl (by decide) (by decide) hy
set_option maxRecDepth 100000 in
set_option maxHeartbeats 4000000 in
theorem X9_type_b20 {G : xG} {k : xK} {n0 : Nat} {Po : Int → xH → Prop} (C : CC G k cX9_type RX9 2 rm_X9_type) (E : CQ G k (some .int) rm_X9_type (fun r n1 h1 => ∃ z : Int, r = some (.int (iz z)) ∧ n1 = n0 ∧ Po z h1))  (n : Nat) (h : xH) (hn0 : n = n0) (hy : Po (-1 : Int) h) : X9_type_w20 G k  n h := by
  subst hn0
  refine ww_iconst C (z := (-1)) dX9_type_20 rfl ?_
  exact ww_iret C E dX9_type_21 (by decide) (by decide) ⟨_, rfl, rfl, hy⟩
abbrev X9_clear_w0 (G : xG) (k : xK) (x0 : Nat) (n : Nat) (h : xH) : Prop := WW G k 1 0 0 0 [(0, rf G x0)] [] n h
theorem S_X9_clear_of {G : xG} {l : Launch} {x0 : Nat} {n : Nat} {h : xH} {Po : xH → Prop} (body : ∀ k : xK, kl k = l → CC G k cX9_clear RX9 1 rm_X9_clear → CQ G k none rm_X9_clear (fun r n1 h1 => r = none ∧ n1 = n ∧ Po h1) → X9_clear_w0 G k x0 n h) : S_X9_clear G l x0 n h Po := xS_of (by decide +kernel) (Nat.le_of_ble_eq_true rfl) rfl (fun k hl hnm C E => body k hl C E)
set_option maxRecDepth 100000 in
set_option maxHeartbeats 4000000 in
theorem X9_clear_b0 {G : xG} {k : xK} {n0 : Nat} {Po : xH → Prop} (C : CC G k cX9_clear RX9 1 rm_X9_clear) (E : CQ G k none rm_X9_clear (fun r n1 h1 => r = none ∧ n1 = n0 ∧ Po h1)) (x0 : Nat) (n : Nat) (h : xH) (hn0 : n = n0) (hy : okO n h x0 8 ∧ (∀ h2 : xH, h2 = hS h x0 24 0 → Po h2)) : X9_clear_w0 G k x0 n h := by
  subst hn0
  refine ww_aload_n C 0 0 rfl rfl dX9_clear_0 ?_
  refine ww_iconst C (z := 0) dX9_clear_1 rfl ?_
  obtain ⟨p1, hy⟩ := hy
  have hy := hy _ rfl
  refine pf_X9_359I C dX9_clear_2 p1 ?_
  exact ww_vret C E dX9_clear_5 (by decide) (by decide) ⟨rfl, rfl, hy⟩
