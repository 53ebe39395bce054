abbrev X9_zero_w0 (G : xG) (k : xK)  (n : Nat) (h : xH) : Prop := WW G k 0 0 0 0 [] [] n h
theorem S_X9_zero_of {G : xG} {l : Launch}  {n : Nat} {h : xH} {Po : Nat → Nat → xH → Prop} (body : ∀ k : xK, kl k = l → CC G k cX9_zero RX9 0 rm_X9_zero → CQ G k (some (.object "DoubleTextsModel$Whole")) rm_X9_zero (fun r n1 h1 => ∃ z : Nat, r = some (rf G z) ∧ Po z n1 h1) → X9_zero_w0 G k  n h) : S_X9_zero G l  n h Po := xS_of (by decide +kernel) (Nat.le_of_ble_eq_true rfl) rfl (fun k hl hnm C E => body k hl C E)
set_option maxRecDepth 100000 in
set_option maxHeartbeats 4000000 in
theorem X9_zero_b0 {G : xG} {k : xK} {n0 : Nat} {Po : Nat → Nat → xH → Prop} (C : CC G k cX9_zero RX9 0 rm_X9_zero) (E : CQ G k (some (.object "DoubleTextsModel$Whole")) rm_X9_zero (fun r n1 h1 => ∃ z : Nat, r = some (rf G z) ∧ Po z n1 h1))  (n : Nat) (h : xH) (hy : (∀ h1 : xH, h1 = hN h n (7, 0, xZ 7) → (0 ≤ (0 : Int) ∧ (0 : Int) ≤ 0) ∧ (∀ h3 : xH, h3 = hN h1 (n + 1) (100, 0, fun _ => 0) → S_X8_init G (kl k) n 0 (n + 1) ((n + 1) + 1) h3 (fun h4 => Po n ((n + 1) + 1) h4)))) : X9_zero_w0 G k  n h := by
  refine nw_X9_1 C dX9_zero_0 (by decide) (by decide) ?_
  have hy := hy _ rfl
  refine ww_dup C rfl dX9_zero_3 ?_
  refine ww_iconst C (z := 0) dX9_zero_4 rfl ?_
  refine ww_iconst C (z := 0) dX9_zero_5 rfl ?_
  obtain ⟨p2, hy⟩ := hy
  refine ww_newI C (B := 0) q_36 dX9_zero_6 p2.1 p2.2 (by decide) (by decide) (by decide) ?_
  have hy := hy _ rfl
  refine cl_X9_3 C dX9_zero_8 (Nat.le_of_ble_eq_true rfl) ⟨by decide, by decide⟩ ⟨by decide, by decide⟩ ?_
  refine S_X8_init.mono hy (fun h4 hy => ?_)
  exact ww_aretR C E (Or.inl ⟨_, rfl⟩) dX9_zero_11 (by decide) (by decide) ⟨_, rfl, hy⟩
abbrev X9_whole_w0 (G : xG) (k : xK) (x0 : Int) (n : Nat) (h : xH) : Prop := WW G k 9 0 0 0 [(0, .long (lz x0))] [] n h
abbrev X9_whole_w14 (G : xG) (k : xK) (x0 : Int) (x2 : Int) (x3 : Int) (n : Nat) (h : xH) : Prop := WW G k 9 0 0 14 [(0, .long (lz x0)), (2, .int (iz x2)), (3, .long (lz x3))] [] n h
abbrev X9_whole_w42 (G : xG) (k : xK) (x0 : Int) (x2 : Int) (x3 : Nat) (x4 : Int) (x6 : Int) (n : Nat) (h : xH) : Prop := WW G k 9 1 5 42 [(0, .long (lz x0)), (2, .int (iz x2)), (3, rf G x3), (4, .long (lz x4)), (6, .int (iz x6))] [] n h
abbrev X9_whole_w105 (G : xG) (k : xK) (x3 : Nat) (s0 : Int) (s1 : Nat) (s2 : Nat) (n : Nat) (h : xH) : Prop := WW G k 9 2 7 105 [(3, rf G x3)] [.int (iz s0), rf G s1, rf G s2] n h
abbrev X9_whole_w74 (G : xG) (k : xK) (x0 : Int) (x2 : Int) (x3 : Nat) (x4 : Int) (x6 : Int) (s0 : Int) (s1 : Int) (s2 : Nat) (n : Nat) (h : xH) : Prop := WW G k 9 1 5 74 [(0, .long (lz x0)), (2, .int (iz x2)), (3, rf G x3), (4, .long (lz x4)), (6, .int (iz x6))] [.long (lz s0), .int (iz s1), rf G s2] n h
theorem S_X9_whole_of {G : xG} {l : Launch} {x0 : Int} {n : Nat} {h : xH} {Po : Nat → Nat → xH → Prop} (body : ∀ k : xK, kl k = l → CC G k cX9_whole RX9 9 rm_X9_whole → CQ G k (some (.object "DoubleTextsModel$Whole")) rm_X9_whole (fun r n1 h1 => ∃ z : Nat, r = some (rf G z) ∧ Po z n1 h1) → X9_whole_w0 G k x0 n h) : S_X9_whole G l x0 n h Po := xS_of (by decide +kernel) (Nat.le_of_ble_eq_true rfl) rfl (fun k hl hnm C E => body k hl C E)
set_option maxRecDepth 100000 in
set_option maxHeartbeats 4000000 in
theorem X9_whole_b0 {G : xG} {k : xK} {n0 : Nat} {Po : Nat → Nat → xH → Prop} (C : CC G k cX9_whole RX9 9 rm_X9_whole) (E : CQ G k (some (.object "DoubleTextsModel$Whole")) rm_X9_whole (fun r n1 h1 => ∃ z : Nat, r = some (rf G z) ∧ Po z n1 h1)) (x0 : Int) (n : Nat) (h : xH) (hy : (rgL x0 ∧ rgL 0) ∧ ((¬ (lC x0 0) = 0 → X9_whole_w14 G k x0 0 x0 n h) ∧ ((lC x0 0) = 0 → S_X9_zero G (kl k)  n h (fun z4 n6 h5 => Po z4 n6 h5)))) : X9_whole_w0 G k x0 n h := by
  refine ww_lload_n C 0 0 rfl rfl dX9_whole_0 ?_
  refine ww_lconst C (z := 0) dX9_whole_1 rfl ?_
  obtain ⟨p1, hy⟩ := hy
  refine ww_lcmp C dX9_whole_2 p1.1 p1.2 ?_
  refine ww_if_ne C (tg := 10) dX9_whole_3 (by decide) (rg_lC _ _) (fun c3 => ?_) (fun c3 => ?_)
  · have hy := hy.1 c3
    refine ww_iconst C (z := 0) dX9_whole_10 rfl ?_
    refine ww_istore_n C 2 rfl (by decide) rfl dX9_whole_11 ?_
    refine ww_lload_n C 0 1 rfl rfl dX9_whole_12 ?_
    refine ww_lstore_n C 3 rfl (by decide) rfl dX9_whole_13 ?_
    exact ww_sub [2, 1, 0] rfl (by decide) (by decide) hy
  · have hy := hy.2 c3
    refine cl_X9_7 C dX9_whole_6 (Nat.le_of_ble_eq_true rfl) ⟨by decide, by decide⟩ ⟨by decide, by decide⟩ ?_
    refine S_X9_zero.mono hy (fun z4 n6 h5 hy => ?_)
    exact ww_aretR C E (Or.inl ⟨_, rfl⟩) dX9_whole_9 (by decide) (by decide) ⟨_, rfl, hy⟩
set_option maxRecDepth 100000 in
set_option maxHeartbeats 4000000 in
theorem X9_whole_b14 {G : xG} {k : xK} {n0 : Nat} {Po : Nat → Nat → xH → Prop} (C : CC G k cX9_whole RX9 9 rm_X9_whole) (E : CQ G k (some (.object "DoubleTextsModel$Whole")) rm_X9_whole (fun r n1 h1 => ∃ z : Nat, r = some (rf G z) ∧ Po z n1 h1)) (x0 : Int) (x2 : Int) (x3 : Int) (n : Nat) (h : xH) (hy : (rgL x3 ∧ rgL 0) ∧ (((lC x3 0) = 0 → (0 ≤ x2 ∧ x2 ≤ 5) ∧ (∀ h5 : xH, h5 = hN h n (100, x2.toNat, fun _ => 0) → X9_whole_w42 G k x0 x2 n x0 0 (n + 1) h5)) ∧ (¬ (lC x3 0) = 0 → (rgL x3 ∧ rgL (10000 : Int) ∧ (10000 : Int) ≠ 0) ∧ X9_whole_w14 G k x0 (x2 + 1) (x3.tdiv 10000) n h))) : X9_whole_w14 G k x0 x2 x3 n h := by
  refine ww_lload_n C 3 2 rfl rfl dX9_whole_14 ?_
  refine ww_lconst C (z := 0) dX9_whole_15 rfl ?_
  obtain ⟨p1, hy⟩ := hy
  refine ww_lcmp C dX9_whole_16 p1.1 p1.2 ?_
  refine ww_if_eq C (tg := 32) dX9_whole_17 (by decide) (rg_lC _ _) (fun c3 => ?_) (fun c3 => ?_)
  · have hy := hy.1 c3
    refine ww_iload_n C 2 1 rfl rfl dX9_whole_32 ?_
    obtain ⟨p4, hy⟩ := hy
    refine ww_newI C (B := 5) q_36 dX9_whole_33 p4.1 p4.2 (by decide) (by decide) (by decide) ?_
    have hy := hy _ rfl
    refine ww_astore_n C 3 rfl (by decide) rfl dX9_whole_35 ?_
    refine ww_lload_n C 0 1 rfl rfl dX9_whole_36 ?_
    refine ww_lstore C 4 (by decide) rfl dX9_whole_37 ?_
    refine ww_iconst C (z := 0) dX9_whole_39 rfl ?_
    refine ww_istore C 6 (by decide) rfl dX9_whole_40 ?_
    exact ww_sub [3, 4, 2, 1, 0] rfl (by decide) (by decide) hy
  · have hy := hy.2 c3
    refine ww_iinc C 2 1 rfl (by decide) rfl dX9_whole_20 ?_
    refine ww_lload_n C 3 2 rfl rfl dX9_whole_23 ?_
    refine ww_ldc2 C (z := 10000) q_543 dX9_whole_24 ?_
    obtain ⟨p6, hy⟩ := hy
    refine ww_ldiv C dX9_whole_27 p6.1 p6.2.1 p6.2.2 ?_
    refine ww_lstore_n C 3 rfl (by decide) rfl dX9_whole_28 ?_
    refine ww_goto C (tg := 14) dX9_whole_29 (by decide) ?_
    exact ww_sub [2, 1, 0] rfl (by decide) (by decide) hy
set_option maxRecDepth 100000 in
set_option maxHeartbeats 4000000 in
theorem X9_whole_b42 {G : xG} {k : xK} {n0 : Nat} {Po : Nat → Nat → xH → Prop} (C : CC G k cX9_whole RX9 9 rm_X9_whole) (E : CQ G k (some (.object "DoubleTextsModel$Whole")) rm_X9_whole (fun r n1 h1 => ∃ z : Nat, r = some (rf G z) ∧ Po z n1 h1)) (x0 : Int) (x2 : Int) (x3 : Nat) (x4 : Int) (x6 : Int) (n : Nat) (h : xH) (hy : (rg x6 ∧ rg x2) ∧ ((x2 ≤ x6 → (∀ h3 : xH, h3 = hN h n (7, 0, xZ 7) → (rgL x0 ∧ rgL 0) ∧ ((0 ≤ (lC x0 0) → X9_whole_w105 G k x3 1 n n (n + 1) h3) ∧ (¬ 0 ≤ (lC x0 0) → X9_whole_w105 G k x3 (-1) n n (n + 1) h3)))) ∧ (¬ x2 ≤ x6 → (rgL x4 ∧ rgL (10000 : Int) ∧ (10000 : Int) ≠ 0) ∧ (rgL (x4.tmod 10000) ∧ rgL 0) ∧ ((0 ≤ (lC (x4.tmod 10000) 0) → X9_whole_w74 G k x0 x2 x3 x4 x6 (x4.tmod 10000) x6 x3 n h) ∧ (¬ 0 ≤ (lC (x4.tmod 10000) 0) → X9_whole_w74 G k x0 x2 x3 x4 x6 (-(x4.tmod 10000)) x6 x3 n h))))) : X9_whole_w42 G k x0 x2 x3 x4 x6 n h := by
  refine ww_iload C 6 4 rfl dX9_whole_42 ?_
  refine ww_iload_n C 2 1 rfl rfl dX9_whole_44 ?_
  obtain ⟨p1, hy⟩ := hy
  refine ww_icmp_ge C (tg := 90) dX9_whole_45 (by decide) p1.1 p1.2 (fun c2 => ?_) (fun c2 => ?_)
  · have hy := hy.1 c2
    refine nw_X9_1 C dX9_whole_90 (by decide) (by decide) ?_
    have hy := hy _ rfl
    refine ww_dup C rfl dX9_whole_93 ?_
    refine ww_lload_n C 0 0 rfl rfl dX9_whole_94 ?_
    refine ww_lconst C (z := 0) dX9_whole_95 rfl ?_
    obtain ⟨p4, hy⟩ := hy
    refine ww_lcmp C dX9_whole_96 p4.1 p4.2 ?_
    refine ww_if_ge C (tg := 104) dX9_whole_97 (by decide) (rg_lC _ _) (fun c6 => ?_) (fun c6 => ?_)
    · have hy := hy.1 c6
      refine ww_iconst C (z := 1) dX9_whole_104 rfl ?_
      exact ww_sub [2] rfl (by decide) (by decide) hy
    · have hy := hy.2 c6
      refine ww_iconst C (z := (-1)) dX9_whole_100 rfl ?_
      refine ww_goto C (tg := 105) dX9_whole_101 (by decide) ?_
      exact ww_sub [2] rfl (by decide) (by decide) hy
  · have hy := hy.2 c2
    refine ww_lload C 4 3 rfl dX9_whole_48 ?_
    refine ww_ldc2 C (z := 10000) q_543 dX9_whole_50 ?_
    obtain ⟨p7, hy⟩ := hy
    refine ww_lrem C dX9_whole_53 p7.1 p7.2.1 p7.2.2 ?_
    refine ww_lstore C 7 (by decide) rfl dX9_whole_54 ?_
    refine ww_aload_n C 3 3 rfl rfl dX9_whole_56 ?_
    refine ww_iload C 6 5 rfl dX9_whole_57 ?_
    refine ww_lload C 7 0 rfl dX9_whole_59 ?_
    refine ww_lconst C (z := 0) dX9_whole_61 rfl ?_
    obtain ⟨p8, hy⟩ := hy
    refine ww_lcmp C dX9_whole_62 p8.1 p8.2 ?_
    refine ww_if_ge C (tg := 72) dX9_whole_63 (by decide) (rg_lC _ _) (fun c10 => ?_) (fun c10 => ?_)
    · have hy := hy.1 c10
      refine ww_lload C 7 0 rfl dX9_whole_72 ?_
      exact ww_sub [1, 2, 3, 4, 5] rfl (by decide) (by decide) hy
    · have hy := hy.2 c10
      refine ww_lload C 7 0 rfl dX9_whole_66 ?_
      refine ww_lneg C dX9_whole_68 ?_
      refine ww_goto C (tg := 74) dX9_whole_69 (by decide) ?_
      exact ww_sub [1, 2, 3, 4, 5] rfl (by decide) (by decide) hy
set_option maxRecDepth 100000 in
set_option maxHeartbeats 4000000 in
theorem X9_whole_b105 {G : xG} {k : xK} {n0 : Nat} {Po : Nat → Nat → xH → Prop} (C : CC G k cX9_whole RX9 9 rm_X9_whole) (E : CQ G k (some (.object "DoubleTextsModel$Whole")) rm_X9_whole (fun r n1 h1 => ∃ z : Nat, r = some (rf G z) ∧ Po z n1 h1)) (x3 : Nat) (s0 : Int) (s1 : Nat) (s2 : Nat) (n : Nat) (h : xH) (hy : S_X8_init G (kl k) s1 s0 x3 n h (fun h1 => Po s2 n h1)) : X9_whole_w105 G k x3 s0 s1 s2 n h := by
  refine ww_aload_n C 3 0 rfl rfl dX9_whole_105 ?_
  refine cl_X9_3 C dX9_whole_106 (Nat.le_of_ble_eq_true rfl) ⟨by decide, by decide⟩ ⟨by decide, by decide⟩ ?_
  refine S_X8_init.mono hy (fun h1 hy => ?_)
  exact ww_aretR C E (Or.inl ⟨_, rfl⟩) dX9_whole_109 (by decide) (by decide) ⟨_, rfl, hy⟩
set_option maxRecDepth 100000 in
set_option maxHeartbeats 4000000 in
theorem X9_whole_b74 {G : xG} {k : xK} {n0 : Nat} {Po : Nat → Nat → xH → Prop} (C : CC G k cX9_whole RX9 9 rm_X9_whole) (E : CQ G k (some (.object "DoubleTextsModel$Whole")) rm_X9_whole (fun r n1 h1 => ∃ z : Nat, r = some (rf G z) ∧ Po z n1 h1)) (x0 : Int) (x2 : Int) (x3 : Nat) (x4 : Int) (x6 : Int) (s0 : Int) (s1 : Int) (s2 : Nat) (n : Nat) (h : xH) (hy : okA n h s2 100 s1 ∧ (∀ h2 : xH, h2 = hS h s2 (s1.toNat) (w32 s0) → (rgL x4 ∧ rgL (10000 : Int) ∧ (10000 : Int) ≠ 0) ∧ X9_whole_w42 G k x0 x2 x3 (x4.tdiv 10000) (x6 + 1) n h2)) : X9_whole_w74 G k x0 x2 x3 x4 x6 s0 s1 s2 n h := by
  refine ww_l2i C dX9_whole_74 ?_
  refine ww_w32 ?_
  obtain ⟨p1, hy⟩ := hy
  have hy := hy _ rfl
  refine ww_iast C dX9_whole_75 p1 ?_
  refine ww_lload C 4 3 rfl dX9_whole_76 ?_
  refine ww_ldc2 C (z := 10000) q_543 dX9_whole_78 ?_
  obtain ⟨p3, hy⟩ := hy
  refine ww_ldiv C dX9_whole_81 p3.1 p3.2.1 p3.2.2 ?_
  refine ww_lstore C 4 (by decide) rfl dX9_whole_82 ?_
  refine ww_iinc C 6 4 rfl (by decide) rfl dX9_whole_84 ?_
  refine ww_goto C (tg := 42) dX9_whole_87 (by decide) ?_
  exact ww_sub [2, 3, 4, 1, 0] rfl (by decide) (by decide) hy
abbrev X9_used_w0 (G : xG) (k : xK) (x0 : Nat) (x1 : Int) (n : Nat) (h : xH) : Prop := WW G k 3 0 0 0 [(0, rf G x0), (1, .int (iz x1))] [] n h
abbrev X9_used_w2 (G : xG) (k : xK) (x0 : Nat) (x2 : Int) (n : Nat) (h : xH) : Prop := WW G k 3 0 0 2 [(0, rf G x0), (2, .int (iz x2))] [] n h
abbrev X9_used_w20 (G : xG) (k : xK) (x2 : Int) (n : Nat) (h : xH) : Prop := WW G k 3 0 0 20 [(2, .int (iz x2))] [] n h
theorem S_X9_used_of {G : xG} {l : Launch} {x0 : Nat} {x1 : Int} {n : Nat} {h : xH} {Po : Int → xH → Prop} (body : ∀ k : xK, kl k = l → CC G k cX9_used RX9 3 rm_X9_used → CQ G k (some .int) rm_X9_used (fun r n1 h1 => ∃ z : Int, r = some (.int (iz z)) ∧ n1 = n ∧ Po z h1) → X9_used_w0 G k x0 x1 n h) : S_X9_used G l x0 x1 n h Po := xS_of (by decide +kernel) (Nat.le_of_ble_eq_true rfl) rfl (fun k hl hnm C E => body k hl C E)
set_option maxRecDepth 100000 in
set_option maxHeartbeats 4000000 in
theorem X9_used_b0 {G : xG} {k : xK} {n0 : Nat} {Po : Int → xH → Prop} (C : CC G k cX9_used RX9 3 rm_X9_used) (E : CQ G k (some .int) rm_X9_used (fun r n1 h1 => ∃ z : Int, r = some (.int (iz z)) ∧ n1 = n0 ∧ Po z h1)) (x0 : Nat) (x1 : Int) (n : Nat) (h : xH) (hn0 : n = n0) (hy : X9_used_w2 G k x0 x1 n h) : X9_used_w0 G k x0 x1 n h := by
  subst hn0
  refine ww_iload_n C 1 1 rfl rfl dX9_used_0 ?_
  refine ww_istore_n C 2 rfl (by decide) rfl dX9_used_1 ?_
  exact ww_sub [1, 0] rfl (by decide) (by decide) hy
set_option maxRecDepth 100000 in
set_option maxHeartbeats 4000000 in
theorem X9_used_b2 {G : xG} {k : xK} {n0 : Nat} {Po : Int → xH → Prop} (C : CC G k cX9_used RX9 3 rm_X9_used) (E : CQ G k (some .int) rm_X9_used (fun r n1 h1 => ∃ z : Int, r = some (.int (iz z)) ∧ n1 = n0 ∧ Po z h1)) (x0 : Nat) (x2 : Int) (n : Nat) (h : xH) (hn0 : n = n0) (hy : rg x2 ∧ ((x2 ≤ 0 → X9_used_w20 G k x2 n h) ∧ (¬ x2 ≤ 0 → okA n h x0 100 (x2 - 1) ∧ rg (hG h x0 ((x2 - 1).toNat)) ∧ ((¬ (hG h x0 ((x2 - 1).toNat)) = 0 → X9_used_w20 G k x2 n h) ∧ ((hG h x0 ((x2 - 1).toNat)) = 0 → X9_used_w2 G k x0 (x2 + (-1)) n h))))) : X9_used_w2 G k x0 x2 n h := by
  subst hn0
  refine ww_iload_n C 2 1 rfl rfl dX9_used_2 ?_
  obtain ⟨p1, hy⟩ := hy
  refine ww_if_le C (tg := 20) dX9_used_3 (by decide) p1 (fun c2 => ?_) (fun c2 => ?_)
  · have hy := hy.1 c2
    exact ww_sub [1] rfl (by decide) (by decide) hy
  · have hy := hy.2 c2
    refine ww_aload_n C 0 0 rfl rfl dX9_used_6 ?_
    refine ww_iload_n C 2 1 rfl rfl dX9_used_7 ?_
    refine ww_iconst C (z := 1) dX9_used_8 rfl ?_
    refine ww_isub C dX9_used_9 ?_
    obtain ⟨p3, hy⟩ := hy
    refine ww_iald C dX9_used_10 p3 ?_
    obtain ⟨p4, hy⟩ := hy
    refine ww_if_ne C (tg := 20) dX9_used_11 (by decide) p4 (fun c5 => ?_) (fun c5 => ?_)
    · have hy := hy.1 c5
      exact ww_sub [1] rfl (by decide) (by decide) hy
    · have hy := hy.2 c5
      refine ww_iinc C 2 1 rfl (by decide) rfl dX9_used_14 ?_
      refine ww_goto C (tg := 2) dX9_used_17 (by decide) ?_
      exact ww_sub [1, 0] rfl (by decide) (by decide) hy
set_option maxRecDepth 100000 in
set_option maxHeartbeats 4000000 in
theorem X9_used_b20 {G : xG} {k : xK} {n0 : Nat} {Po : Int → xH → Prop} (C : CC G k cX9_used RX9 3 rm_X9_used) (E : CQ G k (some .int) rm_X9_used (fun r n1 h1 => ∃ z : Int, r = some (.int (iz z)) ∧ n1 = n0 ∧ Po z h1)) (x2 : Int) (n : Nat) (h : xH) (hn0 : n = n0) (hy : Po x2 h) : X9_used_w20 G k x2 n h := by
  subst hn0
  refine ww_iload_n C 2 0 rfl rfl dX9_used_20 ?_
  exact ww_iret C E dX9_used_21 (by decide) (by decide) ⟨_, rfl, rfl, hy⟩
abbrev X9_wholeOf_w0 (G : xG) (k : xK) (x0 : Int) (x1 : Nat) (x2 : Int) (n : Nat) (h : xH) : Prop := WW G k 4 0 0 0 [(0, .int (iz x0)), (1, rf G x1), (2, .int (iz x2))] [] n h
abbrev X9_wholeOf_w29 (G : xG) (k : xK) (s0 : Nat) (n : Nat) (h : xH) : Prop := WW G k 4 2 442 29 [] [rf G s0] n h
theorem S_X9_wholeOf_of {G : xG} {l : Launch} {x0 : Int} {x1 : Nat} {x2 : Int} {n : Nat} {h : xH} {Po : Nat → Nat → xH → Prop} (body : ∀ k : xK, kl k = l → CC G k cX9_wholeOf RX9 4 rm_X9_wholeOf → CQ G k (some (.object "DoubleTextsModel$Whole")) rm_X9_wholeOf (fun r n1 h1 => ∃ z : Nat, r = some (rf G z) ∧ Po z n1 h1) → X9_wholeOf_w0 G k x0 x1 x2 n h) : S_X9_wholeOf G l x0 x1 x2 n h Po := xS_of (by decide +kernel) (Nat.le_of_ble_eq_true rfl) rfl (fun k hl hnm C E => body k hl C E)
set_option maxRecDepth 100000 in
set_option maxHeartbeats 4000000 in
theorem X9_wholeOf_b0 {G : xG} {k : xK} {n0 : Nat} {Po : Nat → Nat → xH → Prop} (C : CC G k cX9_wholeOf RX9 4 rm_X9_wholeOf) (E : CQ G k (some (.object "DoubleTextsModel$Whole")) rm_X9_wholeOf (fun r n1 h1 => ∃ z : Nat, r = some (rf G z) ∧ Po z n1 h1)) (x0 : Int) (x1 : Nat) (x2 : Int) (n : Nat) (h : xH) (hy : S_X9_used G (kl k) x1 x2 n h (fun z1 h2 => rg z1 ∧ ((¬ z1 = 0 → (∀ h5 : xH, h5 = hN h2 n (7, 0, xZ 7) → S_J7_copyOf_59c91 G (kl k) x1 z1 (n + 1) h5 (fun z6 n8 h7 => S_X8_init G (kl k) n x0 z6 n8 h7 (fun h9 => X9_wholeOf_w29 G k n n8 h9)))) ∧ (z1 = 0 → S_X9_zero G (kl k)  n h2 (fun z10 n12 h11 => X9_wholeOf_w29 G k z10 n12 h11))))) : X9_wholeOf_w0 G k x0 x1 x2 n h := by
  refine ww_aload_n C 1 1 rfl rfl dX9_wholeOf_0 ?_
  refine ww_iload_n C 2 2 rfl rfl dX9_wholeOf_1 ?_
  refine cl_X9_15 C dX9_wholeOf_2 (Nat.le_of_ble_eq_true rfl) ⟨by decide, by decide⟩ ⟨by decide, by decide⟩ ?_
  refine S_X9_used.mono hy (fun z1 h2 hy => ?_)
  refine ww_istore_n C 3 rfl (by decide) rfl dX9_wholeOf_5 ?_
  refine ww_iload_n C 3 0 rfl rfl dX9_wholeOf_6 ?_
  obtain ⟨p3, hy⟩ := hy
  refine ww_if_ne C (tg := 16) dX9_wholeOf_7 (by decide) p3 (fun c4 => ?_) (fun c4 => ?_)
  · have hy := hy.1 c4
    refine nw_X9_1 C dX9_wholeOf_16 (by decide) (by decide) ?_
    have hy := hy _ rfl
    refine ww_dup C rfl dX9_wholeOf_19 ?_
    refine ww_iload_n C 0 1 rfl rfl dX9_wholeOf_20 ?_
    refine ww_aload_n C 1 2 rfl rfl dX9_wholeOf_21 ?_
    refine ww_iload_n C 3 0 rfl rfl dX9_wholeOf_22 ?_
    refine cl_X9_19 C dX9_wholeOf_23 (Nat.le_of_ble_eq_true rfl) ⟨by decide, by decide⟩ ⟨by decide, by decide⟩ ?_
    refine S_J7_copyOf_59c91.mono hy (fun z6 n8 h7 hy => ?_)
    refine cl_X9_3 C dX9_wholeOf_26 (Nat.le_of_ble_eq_true rfl) ⟨by decide, by decide⟩ ⟨by decide, by decide⟩ ?_
    refine S_X8_init.mono hy (fun h9 hy => ?_)
    exact ww_sub [] rfl (by decide) (by decide) hy
  · have hy := hy.2 c4
    refine cl_X9_7 C dX9_wholeOf_10 (Nat.le_of_ble_eq_true rfl) ⟨by decide, by decide⟩ ⟨by decide, by decide⟩ ?_
    refine S_X9_zero.mono hy (fun z10 n12 h11 hy => ?_)
    refine ww_goto C (tg := 29) dX9_wholeOf_13 (by decide) ?_
    exact ww_sub [] rfl (by decide) (by decide) hy
set_option maxRecDepth 100000 in
set_option maxHeartbeats 4000000 in
theorem X9_wholeOf_b29 {G : xG} {k : xK} {n0 : Nat} {Po : Nat → Nat → xH → Prop} (C : CC G k cX9_wholeOf RX9 4 rm_X9_wholeOf) (E : CQ G k (some (.object "DoubleTextsModel$Whole")) rm_X9_wholeOf (fun r n1 h1 => ∃ z : Nat, r = some (rf G z) ∧ Po z n1 h1)) (s0 : Nat) (n : Nat) (h : xH) (hy : Po s0 n h) : X9_wholeOf_w29 G k s0 n h := by
  exact ww_aretR C E (Or.inl ⟨_, rfl⟩) dX9_wholeOf_29 (by decide) (by decide) ⟨_, rfl, hy⟩
abbrev X9_compareRows_w0 (G : xG) (k : xK) (x0 : Nat) (x1 : Int) (x2 : Nat) (x3 : Int) (n : Nat) (h : xH) : Prop := WW G k 5 0 0 0 [(0, rf G x0), (1, .int (iz x1)), (2, rf G x2), (3, .int (iz x3))] [] n h
abbrev X9_compareRows_w21 (G : xG) (k : xK) (x0 : Nat) (x2 : Nat) (x4 : Int) (n : Nat) (h : xH) : Prop := WW G k 5 0 0 21 [(0, rf G x0), (2, rf G x2), (4, .int (iz x4))] [] n h
abbrev X9_compareRows_w15 (G : xG) (k : xK) (s0 : Int) (n : Nat) (h : xH) : Prop := WW G k 5 0 0 15 [] [.int (iz s0)] n h
abbrev X9_compareRows_w53 (G : xG) (k : xK) (s0 : Int) (n : Nat) (h : xH) : Prop := WW G k 5 0 0 53 [] [.int (iz s0)] n h
theorem S_X9_compareRows_of {G : xG} {l : Launch} {x0 : Nat} {x1 : Int} {x2 : Nat} {x3 : Int} {n : Nat} {h : xH} {Po : Int → xH → Prop} (body : ∀ k : xK, kl k = l → CC G k cX9_compareRows RX9 5 rm_X9_compareRows → CQ G k (some .int) rm_X9_compareRows (fun r n1 h1 => ∃ z : Int, r = some (.int (iz z)) ∧ n1 = n ∧ Po z h1) → X9_compareRows_w0 G k x0 x1 x2 x3 n h) : S_X9_compareRows G l x0 x1 x2 x3 n h Po := xS_of (by decide +kernel) (Nat.le_of_ble_eq_true rfl) rfl (fun k hl hnm C E => body k hl C E)
set_option maxRecDepth 100000 in
set_option maxHeartbeats 4000000 in
theorem X9_compareRows_b0 {G : xG} {k : xK} {n0 : Nat} {Po : Int → xH → Prop} (C : CC G k cX9_compareRows RX9 5 rm_X9_compareRows) (E : CQ G k (some .int) rm_X9_compareRows (fun r n1 h1 => ∃ z : Int, r = some (.int (iz z)) ∧ n1 = n0 ∧ Po z h1)) (x0 : Nat) (x1 : Int) (x2 : Nat) (x3 : Int) (n : Nat) (h : xH) (hn0 : n = n0) (hy : (rg x1 ∧ rg x3) ∧ ((x1 = x3 → X9_compareRows_w21 G k x0 x2 (x1 - 1) n h) ∧ (¬ x1 = x3 → (rg x1 ∧ rg x3) ∧ ((x3 ≤ x1 → X9_compareRows_w15 G k 1 n h) ∧ (¬ x3 ≤ x1 → X9_compareRows_w15 G k (-1) n h))))) : X9_compareRows_w0 G k x0 x1 x2 x3 n h := by
  subst hn0
  refine ww_iload_n C 1 1 rfl rfl dX9_compareRows_0 ?_
  refine ww_iload_n C 3 3 rfl rfl dX9_compareRows_1 ?_
  obtain ⟨p1, hy⟩ := hy
  refine ww_icmp_eq C (tg := 16) dX9_compareRows_2 (by decide) p1.1 p1.2 (fun c2 => ?_) (fun c2 => ?_)
  · have hy := hy.1 c2
    refine ww_iload_n C 1 1 rfl rfl dX9_compareRows_16 ?_
    refine ww_iconst C (z := 1) dX9_compareRows_17 rfl ?_
    refine ww_isub C dX9_compareRows_18 ?_
    refine ww_istore C 4 (by decide) rfl dX9_compareRows_19 ?_
    exact ww_sub [1, 3, 0] rfl (by decide) (by decide) hy
  · have hy := hy.2 c2
    refine ww_iload_n C 1 1 rfl rfl dX9_compareRows_5 ?_
    refine ww_iload_n C 3 3 rfl rfl dX9_compareRows_6 ?_
    obtain ⟨p3, hy⟩ := hy
    refine ww_icmp_ge C (tg := 14) dX9_compareRows_7 (by decide) p3.1 p3.2 (fun c4 => ?_) (fun c4 => ?_)
    · have hy := hy.1 c4
      refine ww_iconst C (z := 1) dX9_compareRows_14 rfl ?_
      exact ww_sub [] rfl (by decide) (by decide) hy
    · have hy := hy.2 c4
      refine ww_iconst C (z := (-1)) dX9_compareRows_10 rfl ?_
      refine ww_goto C (tg := 15) dX9_compareRows_11 (by decide) ?_
      exact ww_sub [] rfl (by decide) (by decide) hy
set_option maxRecDepth 100000 in
set_option maxHeartbeats 4000000 in
theorem X9_compareRows_b21 {G : xG} {k : xK} {n0 : Nat} {Po : Int → xH → Prop} (C : CC G k cX9_compareRows RX9 5 rm_X9_compareRows) (E : CQ G k (some .int) rm_X9_compareRows (fun r n1 h1 => ∃ z : Int, r = some (.int (iz z)) ∧ n1 = n0 ∧ Po z h1)) (x0 : Nat) (x2 : Nat) (x4 : Int) (n : Nat) (h : xH) (hn0 : n = n0) (hy : rg x4 ∧ ((x4 < 0 → Po (0 : Int) h) ∧ (¬ x4 < 0 → okA n h x0 100 x4 ∧ okA n h x2 100 x4 ∧ (rg (hG h x0 (x4.toNat)) ∧ rg (hG h x2 (x4.toNat))) ∧ (((hG h x0 (x4.toNat)) = (hG h x2 (x4.toNat)) → X9_compareRows_w21 G k x0 x2 (x4 + (-1)) n h) ∧ (¬ (hG h x0 (x4.toNat)) = (hG h x2 (x4.toNat)) → okA n h x0 100 x4 ∧ okA n h x2 100 x4 ∧ (rg (hG h x0 (x4.toNat)) ∧ rg (hG h x2 (x4.toNat))) ∧ (((hG h x2 (x4.toNat)) ≤ (hG h x0 (x4.toNat)) → X9_compareRows_w53 G k 1 n h) ∧ (¬ (hG h x2 (x4.toNat)) ≤ (hG h x0 (x4.toNat)) → X9_compareRows_w53 G k (-1) n h))))))) : X9_compareRows_w21 G k x0 x2 x4 n h := by
  subst hn0
  refine ww_iload C 4 2 rfl dX9_compareRows_21 ?_
  obtain ⟨p1, hy⟩ := hy
  refine ww_if_lt C (tg := 60) dX9_compareRows_23 (by decide) p1 (fun c2 => ?_) (fun c2 => ?_)
  · have hy := hy.1 c2
    refine ww_iconst C (z := 0) dX9_compareRows_60 rfl ?_
    exact ww_iret C E dX9_compareRows_61 (by decide) (by decide) ⟨_, rfl, rfl, hy⟩
  · have hy := hy.2 c2
    refine ww_aload_n C 0 0 rfl rfl dX9_compareRows_26 ?_
    refine ww_iload C 4 2 rfl dX9_compareRows_27 ?_
    obtain ⟨p3, hy⟩ := hy
    refine ww_iald C dX9_compareRows_29 p3 ?_
    refine ww_aload_n C 2 1 rfl rfl dX9_compareRows_30 ?_
    refine ww_iload C 4 2 rfl dX9_compareRows_31 ?_
    obtain ⟨p4, hy⟩ := hy
    refine ww_iald C dX9_compareRows_33 p4 ?_
    obtain ⟨p5, hy⟩ := hy
    refine ww_icmp_eq C (tg := 54) dX9_compareRows_34 (by decide) p5.1 p5.2 (fun c6 => ?_) (fun c6 => ?_)
    · have hy := hy.1 c6
      refine ww_iinc C 4 2 rfl (by decide) rfl dX9_compareRows_54 ?_
      refine ww_goto C (tg := 21) dX9_compareRows_57 (by decide) ?_
      exact ww_sub [1, 2, 0] rfl (by decide) (by decide) hy
    · have hy := hy.2 c6
      refine ww_aload_n C 0 0 rfl rfl dX9_compareRows_37 ?_
      refine ww_iload C 4 2 rfl dX9_compareRows_38 ?_
      obtain ⟨p7, hy⟩ := hy
      refine ww_iald C dX9_compareRows_40 p7 ?_
      refine ww_aload_n C 2 1 rfl rfl dX9_compareRows_41 ?_
      refine ww_iload C 4 2 rfl dX9_compareRows_42 ?_
      obtain ⟨p8, hy⟩ := hy
      refine ww_iald C dX9_compareRows_44 p8 ?_
      obtain ⟨p9, hy⟩ := hy
      refine ww_icmp_ge C (tg := 52) dX9_compareRows_45 (by decide) p9.1 p9.2 (fun c10 => ?_) (fun c10 => ?_)
      · have hy := hy.1 c10
        refine ww_iconst C (z := 1) dX9_compareRows_52 rfl ?_
        exact ww_sub [] rfl (by decide) (by decide) hy
      · have hy := hy.2 c10
        refine ww_iconst C (z := (-1)) dX9_compareRows_48 rfl ?_
        refine ww_goto C (tg := 53) dX9_compareRows_49 (by decide) ?_
        exact ww_sub [] rfl (by decide) (by decide) hy
set_option maxRecDepth 100000 in
set_option maxHeartbeats 4000000 in
theorem X9_compareRows_b15 {G : xG} {k : xK} {n0 : Nat} {Po : Int → xH → Prop} (C : CC G k cX9_compareRows RX9 5 rm_X9_compareRows) (E : CQ G k (some .int) rm_X9_compareRows (fun r n1 h1 => ∃ z : Int, r = some (.int (iz z)) ∧ n1 = n0 ∧ Po z h1)) (s0 : Int) (n : Nat) (h : xH) (hn0 : n = n0) (hy : Po s0 h) : X9_compareRows_w15 G k s0 n h := by
  subst hn0
  exact ww_iret C E dX9_compareRows_15 (by decide) (by decide) ⟨_, rfl, rfl, hy⟩
set_option maxRecDepth 100000 in
set_option maxHeartbeats 4000000 in
theorem X9_compareRows_b53 {G : xG} {k : xK} {n0 : Nat} {Po : Int → xH → Prop} (C : CC G k cX9_compareRows RX9 5 rm_X9_compareRows) (E : CQ G k (some .int) rm_X9_compareRows (fun r n1 h1 => ∃ z : Int, r = some (.int (iz z)) ∧ n1 = n0 ∧ Po z h1)) (s0 : Int) (n : Nat) (h : xH) (hn0 : n = n0) (hy : Po s0 h) : X9_compareRows_w53 G k s0 n h := by
  subst hn0
  exact ww_iret C E dX9_compareRows_53 (by decide) (by decide) ⟨_, rfl, rfl, hy⟩
abbrev X9_decimals_w0 (G : xG) (k : xK) (x0 : Nat) (x1 : Int) (n : Nat) (h : xH) : Prop := WW G k 3 0 0 0 [(0, rf G x0), (1, .int (iz x1))] [] n h
abbrev X9_decimals_w43 (G : xG) (k : xK) (s0 : Int) (s1 : Int) (n : Nat) (h : xH) : Prop := WW G k 3 0 0 43 [] [.int (iz s0), .int (iz s1)] n h
theorem S_X9_decimals_of {G : xG} {l : Launch} {x0 : Nat} {x1 : Int} {n : Nat} {h : xH} {Po : Int → xH → Prop} (body : ∀ k : xK, kl k = l → CC G k cX9_decimals RX9 3 rm_X9_decimals → CQ G k (some .int) rm_X9_decimals (fun r n1 h1 => ∃ z : Int, r = some (.int (iz z)) ∧ n1 = n ∧ Po z h1) → X9_decimals_w0 G k x0 x1 n h) : S_X9_decimals G l x0 x1 n h Po := xS_of (by decide +kernel) (Nat.le_of_ble_eq_true rfl) rfl (fun k hl hnm C E => body k hl C E)
set_option maxRecDepth 100000 in
set_option maxHeartbeats 4000000 in
theorem X9_decimals_b0 {G : xG} {k : xK} {n0 : Nat} {Po : Int → xH → Prop} (C : CC G k cX9_decimals RX9 3 rm_X9_decimals) (E : CQ G k (some .int) rm_X9_decimals (fun r n1 h1 => ∃ z : Int, r = some (.int (iz z)) ∧ n1 = n0 ∧ Po z h1)) (x0 : Nat) (x1 : Int) (n : Nat) (h : xH) (hn0 : n = n0) (hy : okA n h x0 100 (x1 - 1) ∧ (rg (hG h x0 ((x1 - 1).toNat)) ∧ rg (999 : Int)) ∧ (((hG h x0 ((x1 - 1).toNat)) ≤ (999 : Int) → (rg (hG h x0 ((x1 - 1).toNat)) ∧ rg (99 : Int)) ∧ (((hG h x0 ((x1 - 1).toNat)) ≤ (99 : Int) → (rg (hG h x0 ((x1 - 1).toNat)) ∧ rg (9 : Int)) ∧ (((hG h x0 ((x1 - 1).toNat)) ≤ (9 : Int) → X9_decimals_w43 G k 1 (4 * (x1 - 1)) n h) ∧ (¬ (hG h x0 ((x1 - 1).toNat)) ≤ (9 : Int) → X9_decimals_w43 G k 2 (4 * (x1 - 1)) n h))) ∧ (¬ (hG h x0 ((x1 - 1).toNat)) ≤ (99 : Int) → X9_decimals_w43 G k 3 (4 * (x1 - 1)) n h))) ∧ (¬ (hG h x0 ((x1 - 1).toNat)) ≤ (999 : Int) → X9_decimals_w43 G k 4 (4 * (x1 - 1)) n h))) : X9_decimals_w0 G k x0 x1 n h := by
  subst hn0
  refine ww_aload_n C 0 0 rfl rfl dX9_decimals_0 ?_
  refine ww_iload_n C 1 1 rfl rfl dX9_decimals_1 ?_
  refine ww_iconst C (z := 1) dX9_decimals_2 rfl ?_
  refine ww_isub C dX9_decimals_3 ?_
  obtain ⟨p1, hy⟩ := hy
  refine ww_iald C dX9_decimals_4 p1 ?_
  refine ww_istore_n C 2 rfl (by decide) rfl dX9_decimals_5 ?_
  refine ww_iconst C (z := 4) dX9_decimals_6 rfl ?_
  refine ww_iload_n C 1 2 rfl rfl dX9_decimals_7 ?_
  refine ww_iconst C (z := 1) dX9_decimals_8 rfl ?_
  refine ww_isub C dX9_decimals_9 ?_
  refine ww_imul C dX9_decimals_10 ?_
  refine ww_iload_n C 2 0 rfl rfl dX9_decimals_11 ?_
  refine ww_sipush C (z := 999) dX9_decimals_12 rfl ?_
  obtain ⟨p2, hy⟩ := hy
  refine ww_icmp_le C (tg := 22) dX9_decimals_15 (by decide) p2.1 p2.2 (fun c3 => ?_) (fun c3 => ?_)
  · have hy := hy.1 c3
    refine ww_iload_n C 2 0 rfl rfl dX9_decimals_22 ?_
    refine ww_bipush C (z := 99) dX9_decimals_23 rfl ?_
    obtain ⟨p4, hy⟩ := hy
    refine ww_icmp_le C (tg := 32) dX9_decimals_25 (by decide) p4.1 p4.2 (fun c5 => ?_) (fun c5 => ?_)
    · have hy := hy.1 c5
      refine ww_iload_n C 2 0 rfl rfl dX9_decimals_32 ?_
      refine ww_bipush C (z := 9) dX9_decimals_33 rfl ?_
      obtain ⟨p6, hy⟩ := hy
      refine ww_icmp_le C (tg := 42) dX9_decimals_35 (by decide) p6.1 p6.2 (fun c7 => ?_) (fun c7 => ?_)
      · have hy := hy.1 c7
        refine ww_iconst C (z := 1) dX9_decimals_42 rfl ?_
        exact ww_sub [] rfl (by decide) (by decide) hy
      · have hy := hy.2 c7
        refine ww_iconst C (z := 2) dX9_decimals_38 rfl ?_
        refine ww_goto C (tg := 43) dX9_decimals_39 (by decide) ?_
        exact ww_sub [] rfl (by decide) (by decide) hy
    · have hy := hy.2 c5
      refine ww_iconst C (z := 3) dX9_decimals_28 rfl ?_
      refine ww_goto C (tg := 43) dX9_decimals_29 (by decide) ?_
      exact ww_sub [] rfl (by decide) (by decide) hy
  · have hy := hy.2 c3
    refine ww_iconst C (z := 4) dX9_decimals_18 rfl ?_
    refine ww_goto C (tg := 43) dX9_decimals_19 (by decide) ?_
    exact ww_sub [] rfl (by decide) (by decide) hy
set_option maxRecDepth 100000 in
set_option maxHeartbeats 4000000 in
theorem X9_decimals_b43 {G : xG} {k : xK} {n0 : Nat} {Po : Int → xH → Prop} (C : CC G k cX9_decimals RX9 3 rm_X9_decimals) (E : CQ G k (some .int) rm_X9_decimals (fun r n1 h1 => ∃ z : Int, r = some (.int (iz z)) ∧ n1 = n0 ∧ Po z h1)) (s0 : Int) (s1 : Int) (n : Nat) (h : xH) (hn0 : n = n0) (hy : Po (s1 + s0) h) : X9_decimals_w43 G k s0 s1 n h := by
  subst hn0
  refine ww_iadd C dX9_decimals_43 ?_
  exact ww_iret C E dX9_decimals_44 (by decide) (by decide) ⟨_, rfl, rfl, hy⟩
abbrev X9_scale_w0 (G : xG) (k : xK) (x0 : Nat) (x1 : Int) (x2 : Int) (x3 : Int) (n : Nat) (h : xH) : Prop := WW G k 8 0 0 0 [(0, rf G x0), (1, .int (iz x1)), (2, .int (iz x2)), (3, .int (iz x3))] [] n h
abbrev X9_scale_w9 (G : xG) (k : xK) (x0 : Nat) (x1 : Int) (x2 : Int) (x4 : Int) (x5 : Int) (x6 : Int) (n : Nat) (h : xH) : Prop := WW G k 8 0 0 9 [(0, rf G x0), (1, .int (iz x1)), (2, .int (iz x2)), (4, .int (iz x4)), (5, .int (iz x5)), (6, .int (iz x6))] [] n h
abbrev X9_scale_w50 (G : xG) (k : xK) (x0 : Nat) (x4 : Int) (x5 : Int) (n : Nat) (h : xH) : Prop := WW G k 8 0 0 50 [(0, rf G x0), (4, .int (iz x4)), (5, .int (iz x5))] [] n h
theorem S_X9_scale_of {G : xG} {l : Launch} {x0 : Nat} {x1 : Int} {x2 : Int} {x3 : Int} {n : Nat} {h : xH} {Po : Int → xH → Prop} (body : ∀ k : xK, kl k = l → CC G k cX9_scale RX9 8 rm_X9_scale → CQ G k (some .int) rm_X9_scale (fun r n1 h1 => ∃ z : Int, r = some (.int (iz z)) ∧ n1 = n ∧ Po z h1) → X9_scale_w0 G k x0 x1 x2 x3 n h) : S_X9_scale G l x0 x1 x2 x3 n h Po := xS_of (by decide +kernel) (Nat.le_of_ble_eq_true rfl) rfl (fun k hl hnm C E => body k hl C E)
set_option maxRecDepth 100000 in
set_option maxHeartbeats 4000000 in
theorem X9_scale_b0 {G : xG} {k : xK} {n0 : Nat} {Po : Int → xH → Prop} (C : CC G k cX9_scale RX9 8 rm_X9_scale) (E : CQ G k (some .int) rm_X9_scale (fun r n1 h1 => ∃ z : Int, r = some (.int (iz z)) ∧ n1 = n0 ∧ Po z h1)) (x0 : Nat) (x1 : Int) (x2 : Int) (x3 : Int) (n : Nat) (h : xH) (hn0 : n = n0) (hy : X9_scale_w9 G k x0 x1 x2 x3 x1 0 n h) : X9_scale_w0 G k x0 x1 x2 x3 n h := by
  subst hn0
  refine ww_iload_n C 3 3 rfl rfl dX9_scale_0 ?_
  refine ww_istore C 4 (by decide) rfl dX9_scale_1 ?_
  refine ww_iload_n C 1 2 rfl rfl dX9_scale_3 ?_
  refine ww_istore C 5 (by decide) rfl dX9_scale_4 ?_
  refine ww_iconst C (z := 0) dX9_scale_6 rfl ?_
  refine ww_istore C 6 (by decide) rfl dX9_scale_7 ?_
  exact ww_sub [3, 4, 5, 2, 1, 0] rfl (by decide) (by decide) hy
set_option maxRecDepth 100000 in
set_option maxHeartbeats 4000000 in
theorem X9_scale_b9 {G : xG} {k : xK} {n0 : Nat} {Po : Int → xH → Prop} (C : CC G k cX9_scale RX9 8 rm_X9_scale) (E : CQ G k (some .int) rm_X9_scale (fun r n1 h1 => ∃ z : Int, r = some (.int (iz z)) ∧ n1 = n0 ∧ Po z h1)) (x0 : Nat) (x1 : Int) (x2 : Int) (x4 : Int) (x5 : Int) (x6 : Int) (n : Nat) (h : xH) (hn0 : n = n0) (hy : (rg x6 ∧ rg x1) ∧ ((x1 ≤ x6 → X9_scale_w50 G k x0 x4 x5 n h) ∧ (¬ x1 ≤ x6 → okA n h x0 100 x6 ∧ (rg (((hG h x0 (x6.toNat)) * x2) + x4) ∧ rg (10000 : Int) ∧ (10000 : Int) ≠ 0) ∧ okA n h x0 100 x6 ∧ (∀ h6 : xH, h6 = hS h x0 (x6.toNat) ((((hG h x0 (x6.toNat)) * x2) + x4).tmod 10000) → (rg (((hG h x0 (x6.toNat)) * x2) + x4) ∧ rg (10000 : Int) ∧ (10000 : Int) ≠ 0) ∧ (∀ y8 : Int, y8 = (((hG h x0 (x6.toNat)) * x2) + x4).tdiv 10000 → X9_scale_w9 G k x0 x1 x2 y8 x5 (x6 + 1) n h6))))) : X9_scale_w9 G k x0 x1 x2 x4 x5 x6 n h := by
  subst hn0
  refine ww_iload C 6 5 rfl dX9_scale_9 ?_
  refine ww_iload_n C 1 1 rfl rfl dX9_scale_11 ?_
  obtain ⟨p1, hy⟩ := hy
  refine ww_icmp_ge C (tg := 50) dX9_scale_12 (by decide) p1.1 p1.2 (fun c2 => ?_) (fun c2 => ?_)
  · have hy := hy.1 c2
    exact ww_sub [0, 3, 4] rfl (by decide) (by decide) hy
  · have hy := hy.2 c2
    refine ww_aload_n C 0 0 rfl rfl dX9_scale_15 ?_
    refine ww_iload C 6 5 rfl dX9_scale_16 ?_
    obtain ⟨p3, hy⟩ := hy
    refine ww_iald C dX9_scale_18 p3 ?_
    refine ww_iload_n C 2 2 rfl rfl dX9_scale_19 ?_
    refine ww_imul C dX9_scale_20 ?_
    refine ww_iload C 4 3 rfl dX9_scale_21 ?_
    refine ww_iadd C dX9_scale_23 ?_
    refine ww_istore C 7 (by decide) rfl dX9_scale_24 ?_
    refine ww_aload_n C 0 1 rfl rfl dX9_scale_26 ?_
    refine ww_iload C 6 6 rfl dX9_scale_27 ?_
    refine ww_iload C 7 0 rfl dX9_scale_29 ?_
    refine ww_sipush C (z := 10000) dX9_scale_31 rfl ?_
    obtain ⟨p4, hy⟩ := hy
    refine ww_irem C dX9_scale_34 p4.1 p4.2.1 p4.2.2 ?_
    obtain ⟨p5, hy⟩ := hy
    have hy := hy _ rfl
    refine ww_iast C dX9_scale_35 p5 ?_
    refine ww_iload C 7 0 rfl dX9_scale_36 ?_
    refine ww_sipush C (z := 10000) dX9_scale_38 rfl ?_
    obtain ⟨p7, hy⟩ := hy
    refine ww_idiv C dX9_scale_41 p7.1 p7.2.1 p7.2.2 ?_
    refine ww_istore C 4 (by decide) rfl dX9_scale_42 ?_
    have hy := hy _ rfl
    refine ww_iinc C 6 6 rfl (by decide) rfl dX9_scale_44 ?_
    refine ww_goto C (tg := 9) dX9_scale_47 (by decide) ?_
    exact ww_sub [3, 4, 5, 1, 6, 0] rfl (by decide) (by decide) hy
set_option maxRecDepth 100000 in
set_option maxHeartbeats 4000000 in
theorem X9_scale_b50 {G : xG} {k : xK} {n0 : Nat} {Po : Int → xH → Prop} (C : CC G k cX9_scale RX9 8 rm_X9_scale) (E : CQ G k (some .int) rm_X9_scale (fun r n1 h1 => ∃ z : Int, r = some (.int (iz z)) ∧ n1 = n0 ∧ Po z h1)) (x0 : Nat) (x4 : Int) (x5 : Int) (n : Nat) (h : xH) (hn0 : n = n0) (hy : rg x4 ∧ ((x4 ≤ 0 → Po x5 h) ∧ (¬ x4 ≤ 0 → (rg x4 ∧ rg (10000 : Int) ∧ (10000 : Int) ≠ 0) ∧ okA n h x0 100 x5 ∧ (∀ h5 : xH, h5 = hS h x0 (x5.toNat) (x4.tmod 10000) → (rg x4 ∧ rg (10000 : Int) ∧ (10000 : Int) ≠ 0) ∧ X9_scale_w50 G k x0 (x4.tdiv 10000) (x5 + 1) n h5)))) : X9_scale_w50 G k x0 x4 x5 n h := by
  subst hn0
  refine ww_iload C 4 1 rfl dX9_scale_50 ?_
  obtain ⟨p1, hy⟩ := hy
  refine ww_if_le C (tg := 79) dX9_scale_52 (by decide) p1 (fun c2 => ?_) (fun c2 => ?_)
  · have hy := hy.1 c2
    refine ww_iload C 5 2 rfl dX9_scale_79 ?_
    exact ww_iret C E dX9_scale_81 (by decide) (by decide) ⟨_, rfl, rfl, hy⟩
  · have hy := hy.2 c2
    refine ww_aload_n C 0 0 rfl rfl dX9_scale_55 ?_
    refine ww_iload C 5 2 rfl dX9_scale_56 ?_
    refine ww_iload C 4 1 rfl dX9_scale_58 ?_
    refine ww_sipush C (z := 10000) dX9_scale_60 rfl ?_
    obtain ⟨p3, hy⟩ := hy
    refine ww_irem C dX9_scale_63 p3.1 p3.2.1 p3.2.2 ?_
    obtain ⟨p4, hy⟩ := hy
    have hy := hy _ rfl
    refine ww_iast C dX9_scale_64 p4 ?_
    refine ww_iload C 4 1 rfl dX9_scale_65 ?_
    refine ww_sipush C (z := 10000) dX9_scale_67 rfl ?_
    obtain ⟨p6, hy⟩ := hy
    refine ww_idiv C dX9_scale_70 p6.1 p6.2.1 p6.2.2 ?_
    refine ww_istore C 4 (by decide) rfl dX9_scale_71 ?_
    refine ww_iinc C 5 2 rfl (by decide) rfl dX9_scale_73 ?_
    refine ww_goto C (tg := 50) dX9_scale_76 (by decide) ?_
    exact ww_sub [2, 1, 0] rfl (by decide) (by decide) hy
abbrev X9_doubled_w0 (G : xG) (k : xK) (x0 : Nat) (x1 : Int) (x2 : Int) (n : Nat) (h : xH) : Prop := WW G k 6 0 0 0 [(0, rf G x0), (1, .int (iz x1)), (2, .int (iz x2))] [] n h
abbrev X9_doubled_w5 (G : xG) (k : xK) (x0 : Nat) (x3 : Int) (x4 : Int) (n : Nat) (h : xH) : Prop := WW G k 6 0 0 5 [(0, rf G x0), (3, .int (iz x3)), (4, .int (iz x4))] [] n h
theorem S_X9_doubled_of {G : xG} {l : Launch} {x0 : Nat} {x1 : Int} {x2 : Int} {n : Nat} {h : xH} {Po : Int → xH → Prop} (body : ∀ k : xK, kl k = l → CC G k cX9_doubled RX9 6 rm_X9_doubled → CQ G k (some .int) rm_X9_doubled (fun r n1 h1 => ∃ z : Int, r = some (.int (iz z)) ∧ n1 = n ∧ Po z h1) → X9_doubled_w0 G k x0 x1 x2 n h) : S_X9_doubled G l x0 x1 x2 n h Po := xS_of (by decide +kernel) (Nat.le_of_ble_eq_true rfl) rfl (fun k hl hnm C E => body k hl C E)
set_option maxRecDepth 100000 in
set_option maxHeartbeats 4000000 in
theorem X9_doubled_b0 {G : xG} {k : xK} {n0 : Nat} {Po : Int → xH → Prop} (C : CC G k cX9_doubled RX9 6 rm_X9_doubled) (E : CQ G k (some .int) rm_X9_doubled (fun r n1 h1 => ∃ z : Int, r = some (.int (iz z)) ∧ n1 = n0 ∧ Po z h1)) (x0 : Nat) (x1 : Int) (x2 : Int) (n : Nat) (h : xH) (hn0 : n = n0) (hy : X9_doubled_w5 G k x0 x1 x2 n h) : X9_doubled_w0 G k x0 x1 x2 n h := by
  subst hn0
  refine ww_iload_n C 1 1 rfl rfl dX9_doubled_0 ?_
  refine ww_istore_n C 3 rfl (by decide) rfl dX9_doubled_1 ?_
  refine ww_iload_n C 2 3 rfl rfl dX9_doubled_2 ?_
  refine ww_istore C 4 (by decide) rfl dX9_doubled_3 ?_
  exact ww_sub [2, 1, 0] rfl (by decide) (by decide) hy
set_option maxRecDepth 100000 in
set_option maxHeartbeats 4000000 in
theorem X9_doubled_b5 {G : xG} {k : xK} {n0 : Nat} {Po : Int → xH → Prop} (C : CC G k cX9_doubled RX9 6 rm_X9_doubled) (E : CQ G k (some .int) rm_X9_doubled (fun r n1 h1 => ∃ z : Int, r = some (.int (iz z)) ∧ n1 = n0 ∧ Po z h1)) (x0 : Nat) (x3 : Int) (x4 : Int) (n : Nat) (h : xH) (hn0 : n = n0) (hy : rg x4 ∧ ((x4 ≤ 0 → Po x3 h) ∧ (¬ x4 ≤ 0 → S_J9_min_7cf53 G (kl k) x4 13 n h (fun z3 h4 => S_X9_scale G (kl k) x0 x3 (iSl 1 z3) 0 n h4 (fun z5 h6 => X9_doubled_w5 G k x0 z5 (x4 - z3) n h6))))) : X9_doubled_w5 G k x0 x3 x4 n h := by
  subst hn0
  refine ww_iload C 4 2 rfl dX9_doubled_5 ?_
  obtain ⟨p1, hy⟩ := hy
  refine ww_if_le C (tg := 40) dX9_doubled_7 (by decide) p1 (fun c2 => ?_) (fun c2 => ?_)
  · have hy := hy.1 c2
    refine ww_iload_n C 3 1 rfl rfl dX9_doubled_40 ?_
    exact ww_iret C E dX9_doubled_41 (by decide) (by decide) ⟨_, rfl, rfl, hy⟩
  · have hy := hy.2 c2
    refine ww_iload C 4 2 rfl dX9_doubled_10 ?_
    refine ww_bipush C (z := 13) dX9_doubled_12 rfl ?_
    refine cl_X9_25 C dX9_doubled_14 (Nat.le_of_ble_eq_true rfl) ⟨by decide, by decide⟩ ⟨by decide, by decide⟩ ?_
    refine S_J9_min_7cf53.mono hy (fun z3 h4 hy => ?_)
    refine ww_istore C 5 (by decide) rfl dX9_doubled_17 ?_
    refine ww_aload_n C 0 1 rfl rfl dX9_doubled_19 ?_
    refine ww_iload_n C 3 2 rfl rfl dX9_doubled_20 ?_
    refine ww_iconst C (z := 1) dX9_doubled_21 rfl ?_
    refine ww_iload C 5 0 rfl dX9_doubled_22 ?_
    refine ww_ishl C dX9_doubled_24 ?_
    refine ww_iconst C (z := 0) dX9_doubled_25 rfl ?_
    refine cl_X9_31 C dX9_doubled_26 (Nat.le_of_ble_eq_true rfl) ⟨by decide, by decide⟩ ⟨by decide, by decide⟩ ?_
    refine S_X9_scale.mono hy (fun z5 h6 hy => ?_)
    refine ww_istore_n C 3 rfl (by decide) rfl dX9_doubled_29 ?_
    refine ww_iload C 4 3 rfl dX9_doubled_30 ?_
    refine ww_iload C 5 1 rfl dX9_doubled_32 ?_
    refine ww_isub C dX9_doubled_34 ?_
    refine ww_istore C 4 (by decide) rfl dX9_doubled_35 ?_
    refine ww_goto C (tg := 5) dX9_doubled_37 (by decide) ?_
    exact ww_sub [3, 1, 0] rfl (by decide) (by decide) hy
abbrev X9_tenfold_w0 (G : xG) (k : xK) (x0 : Nat) (x1 : Int) (x2 : Int) (n : Nat) (h : xH) : Prop := WW G k 5 0 0 0 [(0, rf G x0), (1, .int (iz x1)), (2, .int (iz x2))] [] n h
abbrev X9_tenfold_w5 (G : xG) (k : xK) (x0 : Nat) (x3 : Int) (x4 : Int) (n : Nat) (h : xH) : Prop := WW G k 5 0 0 5 [(0, rf G x0), (3, .int (iz x3)), (4, .int (iz x4))] [] n h
abbrev X9_tenfold_w49 (G : xG) (k : xK) (x0 : Nat) (x4 : Int) (s0 : Int) (s1 : Int) (s2 : Nat) (n : Nat) (h : xH) : Prop := WW G k 5 0 0 49 [(0, rf G x0), (4, .int (iz x4))] [.int (iz s0), .int (iz s1), rf G s2] n h
theorem S_X9_tenfold_of {G : xG} {l : Launch} {x0 : Nat} {x1 : Int} {x2 : Int} {n : Nat} {h : xH} {Po : Int → xH → Prop} (body : ∀ k : xK, kl k = l → CC G k cX9_tenfold RX9 5 rm_X9_tenfold → CQ G k (some .int) rm_X9_tenfold (fun r n1 h1 => ∃ z : Int, r = some (.int (iz z)) ∧ n1 = n ∧ Po z h1) → X9_tenfold_w0 G k x0 x1 x2 n h) : S_X9_tenfold G l x0 x1 x2 n h Po := xS_of (by decide +kernel) (Nat.le_of_ble_eq_true rfl) rfl (fun k hl hnm C E => body k hl C E)
set_option maxRecDepth 100000 in
set_option maxHeartbeats 4000000 in
theorem X9_tenfold_b0 {G : xG} {k : xK} {n0 : Nat} {Po : Int → xH → Prop} (C : CC G k cX9_tenfold RX9 5 rm_X9_tenfold) (E : CQ G k (some .int) rm_X9_tenfold (fun r n1 h1 => ∃ z : Int, r = some (.int (iz z)) ∧ n1 = n0 ∧ Po z h1)) (x0 : Nat) (x1 : Int) (x2 : Int) (n : Nat) (h : xH) (hn0 : n = n0) (hy : X9_tenfold_w5 G k x0 x1 x2 n h) : X9_tenfold_w0 G k x0 x1 x2 n h := by
  subst hn0
  refine ww_iload_n C 1 1 rfl rfl dX9_tenfold_0 ?_
  refine ww_istore_n C 3 rfl (by decide) rfl dX9_tenfold_1 ?_
  refine ww_iload_n C 2 3 rfl rfl dX9_tenfold_2 ?_
  refine ww_istore C 4 (by decide) rfl dX9_tenfold_3 ?_
  exact ww_sub [2, 1, 0] rfl (by decide) (by decide) hy
set_option maxRecDepth 100000 in
set_option maxHeartbeats 4000000 in
theorem X9_tenfold_b5 {G : xG} {k : xK} {n0 : Nat} {Po : Int → xH → Prop} (C : CC G k cX9_tenfold RX9 5 rm_X9_tenfold) (E : CQ G k (some .int) rm_X9_tenfold (fun r n1 h1 => ∃ z : Int, r = some (.int (iz z)) ∧ n1 = n0 ∧ Po z h1)) (x0 : Nat) (x3 : Int) (x4 : Int) (n : Nat) (h : xH) (hn0 : n = n0) (hy : rg x4 ∧ ((x4 ≤ 0 → Po x3 h) ∧ (¬ x4 ≤ 0 → (rg x4 ∧ rg (4 : Int)) ∧ ((x4 < (4 : Int) → (rg x4 ∧ rg (3 : Int)) ∧ ((¬ x4 = (3 : Int) → (rg x4 ∧ rg (2 : Int)) ∧ ((¬ x4 = (2 : Int) → X9_tenfold_w49 G k x0 x4 10 x3 x0 n h) ∧ (x4 = (2 : Int) → X9_tenfold_w49 G k x0 x4 100 x3 x0 n h))) ∧ (x4 = (3 : Int) → X9_tenfold_w49 G k x0 x4 1000 x3 x0 n h))) ∧ (¬ x4 < (4 : Int) → X9_tenfold_w49 G k x0 x4 10000 x3 x0 n h))))) : X9_tenfold_w5 G k x0 x3 x4 n h := by
  subst hn0
  refine ww_iload C 4 2 rfl dX9_tenfold_5 ?_
  obtain ⟨p1, hy⟩ := hy
  refine ww_if_le C (tg := 60) dX9_tenfold_7 (by decide) p1 (fun c2 => ?_) (fun c2 => ?_)
  · have hy := hy.1 c2
    refine ww_iload_n C 3 1 rfl rfl dX9_tenfold_60 ?_
    exact ww_iret C E dX9_tenfold_61 (by decide) (by decide) ⟨_, rfl, rfl, hy⟩
  · have hy := hy.2 c2
    refine ww_aload_n C 0 0 rfl rfl dX9_tenfold_10 ?_
    refine ww_iload_n C 3 1 rfl rfl dX9_tenfold_11 ?_
    refine ww_iload C 4 2 rfl dX9_tenfold_12 ?_
    refine ww_iconst C (z := 4) dX9_tenfold_14 rfl ?_
    obtain ⟨p3, hy⟩ := hy
    refine ww_icmp_lt C (tg := 24) dX9_tenfold_15 (by decide) p3.1 p3.2 (fun c4 => ?_) (fun c4 => ?_)
    · have hy := hy.1 c4
      refine ww_iload C 4 2 rfl dX9_tenfold_24 ?_
      refine ww_iconst C (z := 3) dX9_tenfold_26 rfl ?_
      obtain ⟨p5, hy⟩ := hy
      refine ww_icmp_ne C (tg := 36) dX9_tenfold_27 (by decide) p5.1 p5.2 (fun c6 => ?_) (fun c6 => ?_)
      · have hy := hy.1 c6
        refine ww_iload C 4 2 rfl dX9_tenfold_36 ?_
        refine ww_iconst C (z := 2) dX9_tenfold_38 rfl ?_
        obtain ⟨p7, hy⟩ := hy
        refine ww_icmp_ne C (tg := 47) dX9_tenfold_39 (by decide) p7.1 p7.2 (fun c8 => ?_) (fun c8 => ?_)
        · have hy := hy.1 c8
          refine ww_bipush C (z := 10) dX9_tenfold_47 rfl ?_
          exact ww_sub [0, 2] rfl (by decide) (by decide) hy
        · have hy := hy.2 c8
          refine ww_bipush C (z := 100) dX9_tenfold_42 rfl ?_
          refine ww_goto C (tg := 49) dX9_tenfold_44 (by decide) ?_
          exact ww_sub [0, 2] rfl (by decide) (by decide) hy
      · have hy := hy.2 c6
        refine ww_sipush C (z := 1000) dX9_tenfold_30 rfl ?_
        refine ww_goto C (tg := 49) dX9_tenfold_33 (by decide) ?_
        exact ww_sub [0, 2] rfl (by decide) (by decide) hy
    · have hy := hy.2 c4
      refine ww_sipush C (z := 10000) dX9_tenfold_18 rfl ?_
      refine ww_goto C (tg := 49) dX9_tenfold_21 (by decide) ?_
      exact ww_sub [0, 2] rfl (by decide) (by decide) hy
set_option maxRecDepth 100000 in
set_option maxHeartbeats 4000000 in
theorem X9_tenfold_b49 {G : xG} {k : xK} {n0 : Nat} {Po : Int → xH → Prop} (C : CC G k cX9_tenfold RX9 5 rm_X9_tenfold) (E : CQ G k (some .int) rm_X9_tenfold (fun r n1 h1 => ∃ z : Int, r = some (.int (iz z)) ∧ n1 = n0 ∧ Po z h1)) (x0 : Nat) (x4 : Int) (s0 : Int) (s1 : Int) (s2 : Nat) (n : Nat) (h : xH) (hn0 : n = n0) (hy : S_X9_scale G (kl k) s2 s1 s0 0 n h (fun z1 h2 => X9_tenfold_w5 G k x0 z1 (x4 + (-4)) n h2)) : X9_tenfold_w49 G k x0 x4 s0 s1 s2 n h := by
  subst hn0
  refine ww_iconst C (z := 0) dX9_tenfold_49 rfl ?_
  refine cl_X9_31 C dX9_tenfold_50 (Nat.le_of_ble_eq_true rfl) ⟨by decide, by decide⟩ ⟨by decide, by decide⟩ ?_
  refine S_X9_scale.mono hy (fun z1 h2 hy => ?_)
  refine ww_istore_n C 3 rfl (by decide) rfl dX9_tenfold_53 ?_
  refine ww_iinc C 4 2 rfl (by decide) rfl dX9_tenfold_54 ?_
  refine ww_goto C (tg := 5) dX9_tenfold_57 (by decide) ?_
  exact ww_sub [2, 1, 0] rfl (by decide) (by decide) hy
abbrev X9_cutBy_w0 (G : xG) (k : xK) (x0 : Nat) (x1 : Int) (x2 : Int) (n : Nat) (h : xH) : Prop := WW G k 6 0 0 0 [(0, rf G x0), (1, .int (iz x1)), (2, .int (iz x2))] [] n h
abbrev X9_cutBy_w7 (G : xG) (k : xK) (x0 : Nat) (x2 : Int) (x3 : Int) (x4 : Int) (n : Nat) (h : xH) : Prop := WW G k 6 0 0 7 [(0, rf G x0), (2, .int (iz x2)), (3, .int (iz x3)), (4, .int (iz x4))] [] n h
theorem S_X9_cutBy_of {G : xG} {l : Launch} {x0 : Nat} {x1 : Int} {x2 : Int} {n : Nat} {h : xH} {Po : Int → xH → Prop} (body : ∀ k : xK, kl k = l → CC G k cX9_cutBy RX9 6 rm_X9_cutBy → CQ G k (some .int) rm_X9_cutBy (fun r n1 h1 => ∃ z : Int, r = some (.int (iz z)) ∧ n1 = n ∧ Po z h1) → X9_cutBy_w0 G k x0 x1 x2 n h) : S_X9_cutBy G l x0 x1 x2 n h Po := xS_of (by decide +kernel) (Nat.le_of_ble_eq_true rfl) rfl (fun k hl hnm C E => body k hl C E)
set_option maxRecDepth 100000 in
set_option maxHeartbeats 4000000 in
theorem X9_cutBy_b0 {G : xG} {k : xK} {n0 : Nat} {Po : Int → xH → Prop} (C : CC G k cX9_cutBy RX9 6 rm_X9_cutBy) (E : CQ G k (some .int) rm_X9_cutBy (fun r n1 h1 => ∃ z : Int, r = some (.int (iz z)) ∧ n1 = n0 ∧ Po z h1)) (x0 : Nat) (x1 : Int) (x2 : Int) (n : Nat) (h : xH) (hn0 : n = n0) (hy : X9_cutBy_w7 G k x0 x2 0 (x1 - 1) n h) : X9_cutBy_w0 G k x0 x1 x2 n h := by
  subst hn0
  refine ww_iconst C (z := 0) dX9_cutBy_0 rfl ?_
  refine ww_istore_n C 3 rfl (by decide) rfl dX9_cutBy_1 ?_
  refine ww_iload_n C 1 2 rfl rfl dX9_cutBy_2 ?_
  refine ww_iconst C (z := 1) dX9_cutBy_3 rfl ?_
  refine ww_isub C dX9_cutBy_4 ?_
  refine ww_istore C 4 (by decide) rfl dX9_cutBy_5 ?_
  exact ww_sub [2, 4, 1, 0] rfl (by decide) (by decide) hy
set_option maxRecDepth 100000 in
set_option maxHeartbeats 4000000 in
theorem X9_cutBy_b7 {G : xG} {k : xK} {n0 : Nat} {Po : Int → xH → Prop} (C : CC G k cX9_cutBy RX9 6 rm_X9_cutBy) (E : CQ G k (some .int) rm_X9_cutBy (fun r n1 h1 => ∃ z : Int, r = some (.int (iz z)) ∧ n1 = n0 ∧ Po z h1)) (x0 : Nat) (x2 : Int) (x3 : Int) (x4 : Int) (n : Nat) (h : xH) (hn0 : n = n0) (hy : rg x4 ∧ ((x4 < 0 → Po x3 h) ∧ (¬ x4 < 0 → okA n h x0 100 x4 ∧ (rg ((x3 * 10000) + (hG h x0 (x4.toNat))) ∧ rg x2 ∧ x2 ≠ 0) ∧ okA n h x0 100 x4 ∧ (∀ h6 : xH, h6 = hS h x0 (x4.toNat) (((x3 * 10000) + (hG h x0 (x4.toNat))).tdiv x2) → (rg ((x3 * 10000) + (hG h x0 (x4.toNat))) ∧ rg x2 ∧ x2 ≠ 0) ∧ (∀ y8 : Int, y8 = ((x3 * 10000) + (hG h x0 (x4.toNat))).tmod x2 → X9_cutBy_w7 G k x0 x2 y8 (x4 + (-1)) n h6))))) : X9_cutBy_w7 G k x0 x2 x3 x4 n h := by
  subst hn0
  refine ww_iload C 4 3 rfl dX9_cutBy_7 ?_
  obtain ⟨p1, hy⟩ := hy
  refine ww_if_lt C (tg := 43) dX9_cutBy_9 (by decide) p1 (fun c2 => ?_) (fun c2 => ?_)
  · have hy := hy.1 c2
    refine ww_iload_n C 3 2 rfl rfl dX9_cutBy_43 ?_
    exact ww_iret C E dX9_cutBy_44 (by decide) (by decide) ⟨_, rfl, rfl, hy⟩
  · have hy := hy.2 c2
    refine ww_iload_n C 3 2 rfl rfl dX9_cutBy_12 ?_
    refine ww_sipush C (z := 10000) dX9_cutBy_13 rfl ?_
    refine ww_imul C dX9_cutBy_16 ?_
    refine ww_aload_n C 0 0 rfl rfl dX9_cutBy_17 ?_
    refine ww_iload C 4 3 rfl dX9_cutBy_18 ?_
    obtain ⟨p3, hy⟩ := hy
    refine ww_iald C dX9_cutBy_20 p3 ?_
    refine ww_iadd C dX9_cutBy_21 ?_
    refine ww_istore C 5 (by decide) rfl dX9_cutBy_22 ?_
    refine ww_aload_n C 0 1 rfl rfl dX9_cutBy_24 ?_
    refine ww_iload C 4 4 rfl dX9_cutBy_25 ?_
    refine ww_iload C 5 0 rfl dX9_cutBy_27 ?_
    refine ww_iload_n C 2 2 rfl rfl dX9_cutBy_29 ?_
    obtain ⟨p4, hy⟩ := hy
    refine ww_idiv C dX9_cutBy_30 p4.1 p4.2.1 p4.2.2 ?_
    obtain ⟨p5, hy⟩ := hy
    have hy := hy _ rfl
    refine ww_iast C dX9_cutBy_31 p5 ?_
    refine ww_iload C 5 0 rfl dX9_cutBy_32 ?_
    refine ww_iload_n C 2 2 rfl rfl dX9_cutBy_34 ?_
    obtain ⟨p7, hy⟩ := hy
    refine ww_irem C dX9_cutBy_35 p7.1 p7.2.1 p7.2.2 ?_
    refine ww_istore_n C 3 rfl (by decide) rfl dX9_cutBy_36 ?_
    have hy := hy _ rfl
    refine ww_iinc C 4 4 rfl (by decide) rfl dX9_cutBy_37 ?_
    refine ww_goto C (tg := 7) dX9_cutBy_40 (by decide) ?_
    exact ww_sub [3, 4, 1, 0] rfl (by decide) (by decide) hy
abbrev X9_takeAway_w0 (G : xG) (k : xK) (x0 : Nat) (x1 : Int) (x2 : Nat) (x3 : Int) (x4 : Int) (n : Nat) (h : xH) : Prop := WW G k 8 0 0 0 [(0, rf G x0), (1, .int (iz x1)), (2, rf G x2), (3, .int (iz x3)), (4, .int (iz x4))] [] n h
abbrev X9_takeAway_w6 (G : xG) (k : xK) (x0 : Nat) (x1 : Int) (x2 : Nat) (x3 : Int) (x4 : Int) (x5 : Int) (x6 : Int) (n : Nat) (h : xH) : Prop := WW G k 8 0 0 6 [(0, rf G x0), (1, .int (iz x1)), (2, rf G x2), (3, .int (iz x3)), (4, .int (iz x4)), (5, .int (iz x5)), (6, .int (iz x6))] [] n h
abbrev X9_takeAway_w109 (G : xG) (k : xK) (x6 : Int) (s0 : Int) (s1 : Int) (s2 : Nat) (n : Nat) (h : xH) : Prop := WW G k 8 0 0 109 [(6, .int (iz x6))] [.int (iz s0), .int (iz s1), rf G s2] n h
abbrev X9_takeAway_w65 (G : xG) (k : xK) (x0 : Nat) (x1 : Int) (x2 : Nat) (x3 : Int) (x4 : Int) (x5 : Int) (x6 : Int) (x7 : Int) (n : Nat) (h : xH) : Prop := WW G k 8 0 0 65 [(0, rf G x0), (1, .int (iz x1)), (2, rf G x2), (3, .int (iz x3)), (4, .int (iz x4)), (5, .int (iz x5)), (6, .int (iz x6)), (7, .int (iz x7))] [] n h
abbrev X9_takeAway_w120 (G : xG) (k : xK) (s0 : Int) (n : Nat) (h : xH) : Prop := WW G k 8 0 0 120 [] [.int (iz s0)] n h
theorem S_X9_takeAway_of {G : xG} {l : Launch} {x0 : Nat} {x1 : Int} {x2 : Nat} {x3 : Int} {x4 : Int} {n : Nat} {h : xH} {Po : Int → xH → Prop} (body : ∀ k : xK, kl k = l → CC G k cX9_takeAway RX9 8 rm_X9_takeAway → CQ G k (some .boolean) rm_X9_takeAway (fun r n1 h1 => ∃ z : Int, r = some (.int (iz z)) ∧ n1 = n ∧ Po z h1) → X9_takeAway_w0 G k x0 x1 x2 x3 x4 n h) : S_X9_takeAway G l x0 x1 x2 x3 x4 n h Po := xS_of (by decide +kernel) (Nat.le_of_ble_eq_true rfl) rfl (fun k hl hnm C E => body k hl C E)
set_option maxRecDepth 100000 in
set_option maxHeartbeats 4000000 in
theorem X9_takeAway_b0 {G : xG} {k : xK} {n0 : Nat} {Po : Int → xH → Prop} (C : CC G k cX9_takeAway RX9 8 rm_X9_takeAway) (E : CQ G k (some .boolean) rm_X9_takeAway (fun r n1 h1 => ∃ z : Int, r = some (.int (iz z)) ∧ n1 = n0 ∧ Po z h1)) (x0 : Nat) (x1 : Int) (x2 : Nat) (x3 : Int) (x4 : Int) (n : Nat) (h : xH) (hn0 : n = n0) (hy : X9_takeAway_w6 G k x0 x1 x2 x3 x4 0 0 n h) : X9_takeAway_w0 G k x0 x1 x2 x3 x4 n h := by
  subst hn0
  refine ww_iconst C (z := 0) dX9_takeAway_0 rfl ?_
  refine ww_istore C 5 (by decide) rfl dX9_takeAway_1 ?_
  refine ww_iconst C (z := 0) dX9_takeAway_3 rfl ?_
  refine ww_istore C 6 (by decide) rfl dX9_takeAway_4 ?_
  exact ww_sub [2, 3, 4, 5, 6, 1, 0] rfl (by decide) (by decide) hy
set_option maxRecDepth 100000 in
set_option maxHeartbeats 4000000 in
theorem X9_takeAway_b6 {G : xG} {k : xK} {n0 : Nat} {Po : Int → xH → Prop} (C : CC G k cX9_takeAway RX9 8 rm_X9_takeAway) (E : CQ G k (some .boolean) rm_X9_takeAway (fun r n1 h1 => ∃ z : Int, r = some (.int (iz z)) ∧ n1 = n0 ∧ Po z h1)) (x0 : Nat) (x1 : Int) (x2 : Nat) (x3 : Int) (x4 : Int) (x5 : Int) (x6 : Int) (n : Nat) (h : xH) (hn0 : n = n0) (hy : (rg x6 ∧ rg x3) ∧ ((x3 ≤ x6 → okA n h x0 100 (x1 + x3) ∧ rg ((hG h x0 ((x1 + x3).toNat)) - x5) ∧ ((0 ≤ ((hG h x0 ((x1 + x3).toNat)) - x5) → X9_takeAway_w109 G k ((hG h x0 ((x1 + x3).toNat)) - x5) ((hG h x0 ((x1 + x3).toNat)) - x5) (x1 + x3) x0 n h) ∧ (¬ 0 ≤ ((hG h x0 ((x1 + x3).toNat)) - x5) → X9_takeAway_w109 G k ((hG h x0 ((x1 + x3).toNat)) - x5) (((hG h x0 ((x1 + x3).toNat)) - x5) + 10000) (x1 + x3) x0 n h))) ∧ (¬ x3 ≤ x6 → okA n h x0 100 (x1 + x6) ∧ okA n h x2 100 x6 ∧ (∀ y8 : Int, y8 = ((hG h x0 ((x1 + x6).toNat)) - ((hG h x2 (x6.toNat)) * x4)) - x5 → rg y8 ∧ ((0 ≤ y8 → X9_takeAway_w65 G k x0 x1 x2 x3 x4 0 x6 y8 n h) ∧ (¬ 0 ≤ y8 → (rg (((-y8) + 10000) - 1) ∧ rg (10000 : Int) ∧ (10000 : Int) ≠ 0) ∧ (∀ y12 : Int, y12 = y8 + (((((-y8) + 10000) - 1).tdiv 10000) * 10000) → X9_takeAway_w65 G k x0 x1 x2 x3 x4 ((((-y8) + 10000) - 1).tdiv 10000) x6 y12 n h))))))) : X9_takeAway_w6 G k x0 x1 x2 x3 x4 x5 x6 n h := by
  subst hn0
  refine ww_iload C 6 6 rfl dX9_takeAway_6 ?_
  refine ww_iload_n C 3 3 rfl rfl dX9_takeAway_8 ?_
  obtain ⟨p1, hy⟩ := hy
  refine ww_icmp_ge C (tg := 79) dX9_takeAway_9 (by decide) p1.1 p1.2 (fun c2 => ?_) (fun c2 => ?_)
  · have hy := hy.1 c2
    refine ww_aload_n C 0 0 rfl rfl dX9_takeAway_79 ?_
    refine ww_iload_n C 1 1 rfl rfl dX9_takeAway_80 ?_
    refine ww_iload_n C 3 3 rfl rfl dX9_takeAway_81 ?_
    refine ww_iadd C dX9_takeAway_82 ?_
    obtain ⟨p3, hy⟩ := hy
    refine ww_iald C dX9_takeAway_83 p3 ?_
    refine ww_iload C 5 5 rfl dX9_takeAway_84 ?_
    refine ww_isub C dX9_takeAway_86 ?_
    refine ww_istore C 6 (by decide) rfl dX9_takeAway_87 ?_
    refine ww_aload_n C 0 1 rfl rfl dX9_takeAway_89 ?_
    refine ww_iload_n C 1 2 rfl rfl dX9_takeAway_90 ?_
    refine ww_iload_n C 3 4 rfl rfl dX9_takeAway_91 ?_
    refine ww_iadd C dX9_takeAway_92 ?_
    refine ww_iload C 6 0 rfl dX9_takeAway_93 ?_
    obtain ⟨p4, hy⟩ := hy
    refine ww_if_ge C (tg := 107) dX9_takeAway_95 (by decide) p4 (fun c5 => ?_) (fun c5 => ?_)
    · have hy := hy.1 c5
      refine ww_iload C 6 0 rfl dX9_takeAway_107 ?_
      exact ww_sub [0] rfl (by decide) (by decide) hy
    · have hy := hy.2 c5
      refine ww_iload C 6 0 rfl dX9_takeAway_98 ?_
      refine ww_sipush C (z := 10000) dX9_takeAway_100 rfl ?_
      refine ww_iadd C dX9_takeAway_103 ?_
      refine ww_goto C (tg := 109) dX9_takeAway_104 (by decide) ?_
      exact ww_sub [0] rfl (by decide) (by decide) hy
  · have hy := hy.2 c2
    refine ww_aload_n C 0 0 rfl rfl dX9_takeAway_12 ?_
    refine ww_iload_n C 1 1 rfl rfl dX9_takeAway_13 ?_
    refine ww_iload C 6 6 rfl dX9_takeAway_14 ?_
    refine ww_iadd C dX9_takeAway_16 ?_
    obtain ⟨p6, hy⟩ := hy
    refine ww_iald C dX9_takeAway_17 p6 ?_
    refine ww_aload_n C 2 2 rfl rfl dX9_takeAway_18 ?_
    refine ww_iload C 6 6 rfl dX9_takeAway_19 ?_
    obtain ⟨p7, hy⟩ := hy
    refine ww_iald C dX9_takeAway_21 p7 ?_
    refine ww_iload C 4 4 rfl dX9_takeAway_22 ?_
    refine ww_imul C dX9_takeAway_24 ?_
    refine ww_isub C dX9_takeAway_25 ?_
    refine ww_iload C 5 5 rfl dX9_takeAway_26 ?_
    refine ww_isub C dX9_takeAway_28 ?_
    refine ww_istore C 7 (by decide) rfl dX9_takeAway_29 ?_
    have hy := hy _ rfl
    refine ww_iconst C (z := 0) dX9_takeAway_31 rfl ?_
    refine ww_istore C 5 (by decide) rfl dX9_takeAway_32 ?_
    refine ww_iload C 7 1 rfl dX9_takeAway_34 ?_
    obtain ⟨p9, hy⟩ := hy
    refine ww_if_ge C (tg := 65) dX9_takeAway_36 (by decide) p9 (fun c10 => ?_) (fun c10 => ?_)
    · have hy := hy.1 c10
      exact ww_sub [2, 3, 4, 5, 6, 0, 7, 1] rfl (by decide) (by decide) hy
    · have hy := hy.2 c10
      refine ww_iload C 7 1 rfl dX9_takeAway_39 ?_
      refine ww_ineg C dX9_takeAway_41 ?_
      refine ww_sipush C (z := 10000) dX9_takeAway_42 rfl ?_
      refine ww_iadd C dX9_takeAway_45 ?_
      refine ww_iconst C (z := 1) dX9_takeAway_46 rfl ?_
      refine ww_isub C dX9_takeAway_47 ?_
      refine ww_sipush C (z := 10000) dX9_takeAway_48 rfl ?_
      obtain ⟨p11, hy⟩ := hy
      refine ww_idiv C dX9_takeAway_51 p11.1 p11.2.1 p11.2.2 ?_
      refine ww_istore C 5 (by decide) rfl dX9_takeAway_52 ?_
      refine ww_iload C 7 1 rfl dX9_takeAway_54 ?_
      refine ww_iload C 5 0 rfl dX9_takeAway_56 ?_
      refine ww_sipush C (z := 10000) dX9_takeAway_58 rfl ?_
      refine ww_imul C dX9_takeAway_61 ?_
      refine ww_iadd C dX9_takeAway_62 ?_
      refine ww_istore C 7 (by decide) rfl dX9_takeAway_63 ?_
      have hy := hy _ rfl
      exact ww_sub [2, 3, 4, 5, 6, 1, 7, 0] rfl (by decide) (by decide) hy
set_option maxRecDepth 100000 in
set_option maxHeartbeats 4000000 in
theorem X9_takeAway_b109 {G : xG} {k : xK} {n0 : Nat} {Po : Int → xH → Prop} (C : CC G k cX9_takeAway RX9 8 rm_X9_takeAway) (E : CQ G k (some .boolean) rm_X9_takeAway (fun r n1 h1 => ∃ z : Int, r = some (.int (iz z)) ∧ n1 = n0 ∧ Po z h1)) (x6 : Int) (s0 : Int) (s1 : Int) (s2 : Nat) (n : Nat) (h : xH) (hn0 : n = n0) (hy : okA n h s2 100 s1 ∧ (∀ h2 : xH, h2 = hS h s2 (s1.toNat) s0 → rg x6 ∧ ((x6 < 0 → X9_takeAway_w120 G k 0 n h2) ∧ (¬ x6 < 0 → X9_takeAway_w120 G k 1 n h2)))) : X9_takeAway_w109 G k x6 s0 s1 s2 n h := by
  subst hn0
  obtain ⟨p1, hy⟩ := hy
  have hy := hy _ rfl
  refine ww_iast C dX9_takeAway_109 p1 ?_
  refine ww_iload C 6 0 rfl dX9_takeAway_110 ?_
  obtain ⟨p3, hy⟩ := hy
  refine ww_if_lt C (tg := 119) dX9_takeAway_112 (by decide) p3 (fun c4 => ?_) (fun c4 => ?_)
  · have hy := hy.1 c4
    refine ww_iconst C (z := 0) dX9_takeAway_119 rfl ?_
    exact ww_sub [] rfl (by decide) (by decide) hy
  · have hy := hy.2 c4
    refine ww_iconst C (z := 1) dX9_takeAway_115 rfl ?_
    refine ww_goto C (tg := 120) dX9_takeAway_116 (by decide) ?_
    exact ww_sub [] rfl (by decide) (by decide) hy
set_option maxRecDepth 100000 in
set_option maxHeartbeats 4000000 in
theorem X9_takeAway_b65 {G : xG} {k : xK} {n0 : Nat} {Po : Int → xH → Prop} (C : CC G k cX9_takeAway RX9 8 rm_X9_takeAway) (E : CQ G k (some .boolean) rm_X9_takeAway (fun r n1 h1 => ∃ z : Int, r = some (.int (iz z)) ∧ n1 = n0 ∧ Po z h1)) (x0 : Nat) (x1 : Int) (x2 : Nat) (x3 : Int) (x4 : Int) (x5 : Int) (x6 : Int) (x7 : Int) (n : Nat) (h : xH) (hn0 : n = n0) (hy : okA n h x0 100 (x1 + x6) ∧ (∀ h2 : xH, h2 = hS h x0 ((x1 + x6).toNat) x7 → X9_takeAway_w6 G k x0 x1 x2 x3 x4 x5 (x6 + 1) n h2)) : X9_takeAway_w65 G k x0 x1 x2 x3 x4 x5 x6 x7 n h := by
  subst hn0
  refine ww_aload_n C 0 0 rfl rfl dX9_takeAway_65 ?_
  refine ww_iload_n C 1 1 rfl rfl dX9_takeAway_66 ?_
  refine ww_iload C 6 6 rfl dX9_takeAway_67 ?_
  refine ww_iadd C dX9_takeAway_69 ?_
  refine ww_iload C 7 7 rfl dX9_takeAway_70 ?_
  obtain ⟨p1, hy⟩ := hy
  have hy := hy _ rfl
  refine ww_iast C dX9_takeAway_72 p1 ?_
  refine ww_iinc C 6 6 rfl (by decide) rfl dX9_takeAway_73 ?_
  refine ww_goto C (tg := 6) dX9_takeAway_76 (by decide) ?_
  exact ww_sub [1, 2, 3, 4, 5, 6, 0] rfl (by decide) (by decide) hy
set_option maxRecDepth 100000 in
set_option maxHeartbeats 4000000 in
theorem X9_takeAway_b120 {G : xG} {k : xK} {n0 : Nat} {Po : Int → xH → Prop} (C : CC G k cX9_takeAway RX9 8 rm_X9_takeAway) (E : CQ G k (some .boolean) rm_X9_takeAway (fun r n1 h1 => ∃ z : Int, r = some (.int (iz z)) ∧ n1 = n0 ∧ Po z h1)) (s0 : Int) (n : Nat) (h : xH) (hn0 : n = n0) (hy : (s0 = 0 ∨ s0 = 1) ∧ Po s0 h) : X9_takeAway_w120 G k s0 n h := by
  subst hn0
  obtain ⟨p1, hy⟩ := hy
  exact ww_zret C E dX9_takeAway_120 (nz_b p1) (by decide) (by decide) ⟨_, rfl, rfl, hy⟩
abbrev X9_putBack_w0 (G : xG) (k : xK) (x0 : Nat) (x1 : Int) (x2 : Nat) (x3 : Int) (n : Nat) (h : xH) : Prop := WW G k 7 0 0 0 [(0, rf G x0), (1, .int (iz x1)), (2, rf G x2), (3, .int (iz x3))] [] n h
abbrev X9_putBack_w6 (G : xG) (k : xK) (x0 : Nat) (x1 : Int) (x2 : Nat) (x3 : Int) (x4 : Int) (x5 : Int) (n : Nat) (h : xH) : Prop := WW G k 7 0 0 6 [(0, rf G x0), (1, .int (iz x1)), (2, rf G x2), (3, .int (iz x3)), (4, .int (iz x4)), (5, .int (iz x5))] [] n h
theorem S_X9_putBack_of {G : xG} {l : Launch} {x0 : Nat} {x1 : Int} {x2 : Nat} {x3 : Int} {n : Nat} {h : xH} {Po : xH → Prop} (body : ∀ k : xK, kl k = l → CC G k cX9_putBack RX9 7 rm_X9_putBack → CQ G k none rm_X9_putBack (fun r n1 h1 => r = none ∧ n1 = n ∧ Po h1) → X9_putBack_w0 G k x0 x1 x2 x3 n h) : S_X9_putBack G l x0 x1 x2 x3 n h Po := xS_of (by decide +kernel) (Nat.le_of_ble_eq_true rfl) rfl (fun k hl hnm C E => body k hl C E)
set_option maxRecDepth 100000 in
set_option maxHeartbeats 4000000 in
theorem X9_putBack_b0 {G : xG} {k : xK} {n0 : Nat} {Po : xH → Prop} (C : CC G k cX9_putBack RX9 7 rm_X9_putBack) (E : CQ G k none rm_X9_putBack (fun r n1 h1 => r = none ∧ n1 = n0 ∧ Po h1)) (x0 : Nat) (x1 : Int) (x2 : Nat) (x3 : Int) (n : Nat) (h : xH) (hn0 : n = n0) (hy : X9_putBack_w6 G k x0 x1 x2 x3 0 0 n h) : X9_putBack_w0 G k x0 x1 x2 x3 n h := by
  subst hn0
  refine ww_iconst C (z := 0) dX9_putBack_0 rfl ?_
  refine ww_istore C 4 (by decide) rfl dX9_putBack_1 ?_
  refine ww_iconst C (z := 0) dX9_putBack_3 rfl ?_
  refine ww_istore C 5 (by decide) rfl dX9_putBack_4 ?_
  exact ww_sub [2, 3, 4, 5, 1, 0] rfl (by decide) (by decide) hy
set_option maxRecDepth 100000 in
set_option maxHeartbeats 4000000 in
theorem X9_putBack_b6 {G : xG} {k : xK} {n0 : Nat} {Po : xH → Prop} (C : CC G k cX9_putBack RX9 7 rm_X9_putBack) (E : CQ G k none rm_X9_putBack (fun r n1 h1 => r = none ∧ n1 = n0 ∧ Po h1)) (x0 : Nat) (x1 : Int) (x2 : Nat) (x3 : Int) (x4 : Int) (x5 : Int) (n : Nat) (h : xH) (hn0 : n = n0) (hy : (rg x5 ∧ rg x3) ∧ ((x3 ≤ x5 → okA n h x0 100 (x1 + x3) ∧ (rg ((hG h x0 ((x1 + x3).toNat)) + x4) ∧ rg (10000 : Int) ∧ (10000 : Int) ≠ 0) ∧ okA n h x0 100 (x1 + x3) ∧ (∀ h6 : xH, h6 = hS h x0 ((x1 + x3).toNat) (((hG h x0 ((x1 + x3).toNat)) + x4).tmod 10000) → Po h6)) ∧ (¬ x3 ≤ x5 → okA n h x0 100 (x1 + x5) ∧ okA n h x2 100 x5 ∧ (∀ y9 : Int, y9 = ((hG h x0 ((x1 + x5).toNat)) + (hG h x2 (x5.toNat))) + x4 → (rg y9 ∧ rg (10000 : Int) ∧ (10000 : Int) ≠ 0) ∧ okA n h x0 100 (x1 + x5) ∧ (∀ h12 : xH, h12 = hS h x0 ((x1 + x5).toNat) (y9.tmod 10000) → (rg y9 ∧ rg (10000 : Int) ∧ (10000 : Int) ≠ 0) ∧ X9_putBack_w6 G k x0 x1 x2 x3 (y9.tdiv 10000) (x5 + 1) n h12))))) : X9_putBack_w6 G k x0 x1 x2 x3 x4 x5 n h := by
  subst hn0
  refine ww_iload C 5 5 rfl dX9_putBack_6 ?_
  refine ww_iload_n C 3 3 rfl rfl dX9_putBack_8 ?_
  obtain ⟨p1, hy⟩ := hy
  refine ww_icmp_ge C (tg := 54) dX9_putBack_9 (by decide) p1.1 p1.2 (fun c2 => ?_) (fun c2 => ?_)
  · have hy := hy.1 c2
    refine ww_aload_n C 0 0 rfl rfl dX9_putBack_54 ?_
    refine ww_iload_n C 1 1 rfl rfl dX9_putBack_55 ?_
    refine ww_iload_n C 3 3 rfl rfl dX9_putBack_56 ?_
    refine ww_iadd C dX9_putBack_57 ?_
    refine ww_aload_n C 0 0 rfl rfl dX9_putBack_58 ?_
    refine ww_iload_n C 1 1 rfl rfl dX9_putBack_59 ?_
    refine ww_iload_n C 3 3 rfl rfl dX9_putBack_60 ?_
    refine ww_iadd C dX9_putBack_61 ?_
    obtain ⟨p3, hy⟩ := hy
    refine ww_iald C dX9_putBack_62 p3 ?_
    refine ww_iload C 4 4 rfl dX9_putBack_63 ?_
    refine ww_iadd C dX9_putBack_65 ?_
    refine ww_sipush C (z := 10000) dX9_putBack_66 rfl ?_
    obtain ⟨p4, hy⟩ := hy
    refine ww_irem C dX9_putBack_69 p4.1 p4.2.1 p4.2.2 ?_
    obtain ⟨p5, hy⟩ := hy
    have hy := hy _ rfl
    refine ww_iast C dX9_putBack_70 p5 ?_
    exact ww_vret C E dX9_putBack_71 (by decide) (by decide) ⟨rfl, rfl, hy⟩
  · have hy := hy.2 c2
    refine ww_aload_n C 0 0 rfl rfl dX9_putBack_12 ?_
    refine ww_iload_n C 1 1 rfl rfl dX9_putBack_13 ?_
    refine ww_iload C 5 5 rfl dX9_putBack_14 ?_
    refine ww_iadd C dX9_putBack_16 ?_
    obtain ⟨p7, hy⟩ := hy
    refine ww_iald C dX9_putBack_17 p7 ?_
    refine ww_aload_n C 2 2 rfl rfl dX9_putBack_18 ?_
    refine ww_iload C 5 5 rfl dX9_putBack_19 ?_
    obtain ⟨p8, hy⟩ := hy
    refine ww_iald C dX9_putBack_21 p8 ?_
    refine ww_iadd C dX9_putBack_22 ?_
    refine ww_iload C 4 4 rfl dX9_putBack_23 ?_
    refine ww_iadd C dX9_putBack_25 ?_
    refine ww_istore C 6 (by decide) rfl dX9_putBack_26 ?_
    have hy := hy _ rfl
    refine ww_aload_n C 0 1 rfl rfl dX9_putBack_28 ?_
    refine ww_iload_n C 1 2 rfl rfl dX9_putBack_29 ?_
    refine ww_iload C 5 6 rfl dX9_putBack_30 ?_
    refine ww_iadd C dX9_putBack_32 ?_
    refine ww_iload C 6 0 rfl dX9_putBack_33 ?_
    refine ww_sipush C (z := 10000) dX9_putBack_35 rfl ?_
    obtain ⟨p10, hy⟩ := hy
    refine ww_irem C dX9_putBack_38 p10.1 p10.2.1 p10.2.2 ?_
    obtain ⟨p11, hy⟩ := hy
    have hy := hy _ rfl
    refine ww_iast C dX9_putBack_39 p11 ?_
    refine ww_iload C 6 0 rfl dX9_putBack_40 ?_
    refine ww_sipush C (z := 10000) dX9_putBack_42 rfl ?_
    obtain ⟨p13, hy⟩ := hy
    refine ww_idiv C dX9_putBack_45 p13.1 p13.2.1 p13.2.2 ?_
    refine ww_istore C 4 (by decide) rfl dX9_putBack_46 ?_
    refine ww_iinc C 5 6 rfl (by decide) rfl dX9_putBack_48 ?_
    refine ww_goto C (tg := 6) dX9_putBack_51 (by decide) ?_
    exact ww_sub [3, 4, 5, 6, 1, 0] rfl (by decide) (by decide) hy
abbrev X9_isAtLeast_w0 (G : xG) (k : xK) (x0 : Nat) (x1 : Int) (x2 : Nat) (x3 : Int) (n : Nat) (h : xH) : Prop := WW G k 5 0 0 0 [(0, rf G x0), (1, .int (iz x1)), (2, rf G x2), (3, .int (iz x3))] [] n h
abbrev X9_isAtLeast_w15 (G : xG) (k : xK) (x0 : Nat) (x1 : Int) (x2 : Nat) (x4 : Int) (n : Nat) (h : xH) : Prop := WW G k 5 0 0 15 [(0, rf G x0), (1, .int (iz x1)), (2, rf G x2), (4, .int (iz x4))] [] n h
abbrev X9_isAtLeast_w51 (G : xG) (k : xK) (s0 : Int) (n : Nat) (h : xH) : Prop := WW G k 5 0 0 51 [] [.int (iz s0)] n h
theorem S_X9_isAtLeast_of {G : xG} {l : Launch} {x0 : Nat} {x1 : Int} {x2 : Nat} {x3 : Int} {n : Nat} {h : xH} {Po : Int → xH → Prop} (body : ∀ k : xK, kl k = l → CC G k cX9_isAtLeast RX9 5 rm_X9_isAtLeast → CQ G k (some .boolean) rm_X9_isAtLeast (fun r n1 h1 => ∃ z : Int, r = some (.int (iz z)) ∧ n1 = n ∧ Po z h1) → X9_isAtLeast_w0 G k x0 x1 x2 x3 n h) : S_X9_isAtLeast G l x0 x1 x2 x3 n h Po := xS_of (by decide +kernel) (Nat.le_of_ble_eq_true rfl) rfl (fun k hl hnm C E => body k hl C E)
set_option maxRecDepth 100000 in
set_option maxHeartbeats 4000000 in
theorem X9_isAtLeast_b0 {G : xG} {k : xK} {n0 : Nat} {Po : Int → xH → Prop} (C : CC G k cX9_isAtLeast RX9 5 rm_X9_isAtLeast) (E : CQ G k (some .boolean) rm_X9_isAtLeast (fun r n1 h1 => ∃ z : Int, r = some (.int (iz z)) ∧ n1 = n0 ∧ Po z h1)) (x0 : Nat) (x1 : Int) (x2 : Nat) (x3 : Int) (n : Nat) (h : xH) (hn0 : n = n0) (hy : okA n h x0 100 (x1 + x3) ∧ rg (hG h x0 ((x1 + x3).toNat)) ∧ (((hG h x0 ((x1 + x3).toNat)) ≤ 0 → X9_isAtLeast_w15 G k x0 x1 x2 (x3 - 1) n h) ∧ (¬ (hG h x0 ((x1 + x3).toNat)) ≤ 0 → ((1 : Int) = 0 ∨ (1 : Int) = 1) ∧ Po (1 : Int) h))) : X9_isAtLeast_w0 G k x0 x1 x2 x3 n h := by
  subst hn0
  refine ww_aload_n C 0 0 rfl rfl dX9_isAtLeast_0 ?_
  refine ww_iload_n C 1 1 rfl rfl dX9_isAtLeast_1 ?_
  refine ww_iload_n C 3 3 rfl rfl dX9_isAtLeast_2 ?_
  refine ww_iadd C dX9_isAtLeast_3 ?_
  obtain ⟨p1, hy⟩ := hy
  refine ww_iald C dX9_isAtLeast_4 p1 ?_
  obtain ⟨p2, hy⟩ := hy
  refine ww_if_le C (tg := 10) dX9_isAtLeast_5 (by decide) p2 (fun c3 => ?_) (fun c3 => ?_)
  · have hy := hy.1 c3
    refine ww_iload_n C 3 3 rfl rfl dX9_isAtLeast_10 ?_
    refine ww_iconst C (z := 1) dX9_isAtLeast_11 rfl ?_
    refine ww_isub C dX9_isAtLeast_12 ?_
    refine ww_istore C 4 (by decide) rfl dX9_isAtLeast_13 ?_
    exact ww_sub [1, 2, 3, 0] rfl (by decide) (by decide) hy
  · have hy := hy.2 c3
    refine ww_iconst C (z := 1) dX9_isAtLeast_8 rfl ?_
    obtain ⟨p4, hy⟩ := hy
    exact ww_zret C E dX9_isAtLeast_9 (nz_b p4) (by decide) (by decide) ⟨_, rfl, rfl, hy⟩
set_option maxRecDepth 100000 in
set_option maxHeartbeats 4000000 in
theorem X9_isAtLeast_b15 {G : xG} {k : xK} {n0 : Nat} {Po : Int → xH → Prop} (C : CC G k cX9_isAtLeast RX9 5 rm_X9_isAtLeast) (E : CQ G k (some .boolean) rm_X9_isAtLeast (fun r n1 h1 => ∃ z : Int, r = some (.int (iz z)) ∧ n1 = n0 ∧ Po z h1)) (x0 : Nat) (x1 : Int) (x2 : Nat) (x4 : Int) (n : Nat) (h : xH) (hn0 : n = n0) (hy : rg x4 ∧ ((x4 < 0 → ((1 : Int) = 0 ∨ (1 : Int) = 1) ∧ Po (1 : Int) h) ∧ (¬ x4 < 0 → okA n h x0 100 (x1 + x4) ∧ okA n h x2 100 x4 ∧ (rg (hG h x0 ((x1 + x4).toNat)) ∧ rg (hG h x2 (x4.toNat))) ∧ (((hG h x0 ((x1 + x4).toNat)) = (hG h x2 (x4.toNat)) → X9_isAtLeast_w15 G k x0 x1 x2 (x4 + (-1)) n h) ∧ (¬ (hG h x0 ((x1 + x4).toNat)) = (hG h x2 (x4.toNat)) → okA n h x0 100 (x1 + x4) ∧ okA n h x2 100 x4 ∧ (rg (hG h x0 ((x1 + x4).toNat)) ∧ rg (hG h x2 (x4.toNat))) ∧ (((hG h x0 ((x1 + x4).toNat)) ≤ (hG h x2 (x4.toNat)) → X9_isAtLeast_w51 G k 0 n h) ∧ (¬ (hG h x0 ((x1 + x4).toNat)) ≤ (hG h x2 (x4.toNat)) → X9_isAtLeast_w51 G k 1 n h))))))) : X9_isAtLeast_w15 G k x0 x1 x2 x4 n h := by
  subst hn0
  refine ww_iload C 4 3 rfl dX9_isAtLeast_15 ?_
  obtain ⟨p1, hy⟩ := hy
  refine ww_if_lt C (tg := 58) dX9_isAtLeast_17 (by decide) p1 (fun c2 => ?_) (fun c2 => ?_)
  · have hy := hy.1 c2
    refine ww_iconst C (z := 1) dX9_isAtLeast_58 rfl ?_
    obtain ⟨p3, hy⟩ := hy
    exact ww_zret C E dX9_isAtLeast_59 (nz_b p3) (by decide) (by decide) ⟨_, rfl, rfl, hy⟩
  · have hy := hy.2 c2
    refine ww_aload_n C 0 0 rfl rfl dX9_isAtLeast_20 ?_
    refine ww_iload_n C 1 1 rfl rfl dX9_isAtLeast_21 ?_
    refine ww_iload C 4 3 rfl dX9_isAtLeast_22 ?_
    refine ww_iadd C dX9_isAtLeast_24 ?_
    obtain ⟨p4, hy⟩ := hy
    refine ww_iald C dX9_isAtLeast_25 p4 ?_
    refine ww_aload_n C 2 2 rfl rfl dX9_isAtLeast_26 ?_
    refine ww_iload C 4 3 rfl dX9_isAtLeast_27 ?_
    obtain ⟨p5, hy⟩ := hy
    refine ww_iald C dX9_isAtLeast_29 p5 ?_
    obtain ⟨p6, hy⟩ := hy
    refine ww_icmp_eq C (tg := 52) dX9_isAtLeast_30 (by decide) p6.1 p6.2 (fun c7 => ?_) (fun c7 => ?_)
    · have hy := hy.1 c7
      refine ww_iinc C 4 3 rfl (by decide) rfl dX9_isAtLeast_52 ?_
      refine ww_goto C (tg := 15) dX9_isAtLeast_55 (by decide) ?_
      exact ww_sub [1, 2, 3, 0] rfl (by decide) (by decide) hy
    · have hy := hy.2 c7
      refine ww_aload_n C 0 0 rfl rfl dX9_isAtLeast_33 ?_
      refine ww_iload_n C 1 1 rfl rfl dX9_isAtLeast_34 ?_
      refine ww_iload C 4 3 rfl dX9_isAtLeast_35 ?_
      refine ww_iadd C dX9_isAtLeast_37 ?_
      obtain ⟨p8, hy⟩ := hy
      refine ww_iald C dX9_isAtLeast_38 p8 ?_
      refine ww_aload_n C 2 2 rfl rfl dX9_isAtLeast_39 ?_
      refine ww_iload C 4 3 rfl dX9_isAtLeast_40 ?_
      obtain ⟨p9, hy⟩ := hy
      refine ww_iald C dX9_isAtLeast_42 p9 ?_
      obtain ⟨p10, hy⟩ := hy
      refine ww_icmp_le C (tg := 50) dX9_isAtLeast_43 (by decide) p10.1 p10.2 (fun c11 => ?_) (fun c11 => ?_)
      · have hy := hy.1 c11
        refine ww_iconst C (z := 0) dX9_isAtLeast_50 rfl ?_
        exact ww_sub [] rfl (by decide) (by decide) hy
      · have hy := hy.2 c11
        refine ww_iconst C (z := 1) dX9_isAtLeast_46 rfl ?_
        refine ww_goto C (tg := 51) dX9_isAtLeast_47 (by decide) ?_
        exact ww_sub [] rfl (by decide) (by decide) hy
set_option maxRecDepth 100000 in
set_option maxHeartbeats 4000000 in
theorem X9_isAtLeast_b51 {G : xG} {k : xK} {n0 : Nat} {Po : Int → xH → Prop} (C : CC G k cX9_isAtLeast RX9 5 rm_X9_isAtLeast) (E : CQ G k (some .boolean) rm_X9_isAtLeast (fun r n1 h1 => ∃ z : Int, r = some (.int (iz z)) ∧ n1 = n0 ∧ Po z h1)) (s0 : Int) (n : Nat) (h : xH) (hn0 : n = n0) (hy : (s0 = 0 ∨ s0 = 1) ∧ Po s0 h) : X9_isAtLeast_w51 G k s0 n h := by
  subst hn0
  obtain ⟨p1, hy⟩ := hy
  exact ww_zret C E dX9_isAtLeast_51 (nz_b p1) (by decide) (by decide) ⟨_, rfl, rfl, hy⟩
abbrev X9_divideRows_w0 (G : xG) (k : xK) (x0 : Nat) (x1 : Int) (x2 : Nat) (x3 : Int) (x4 : Int) (n : Nat) (h : xH) : Prop := WW G k 13 0 0 0 [(0, rf G x0), (1, .int (iz x1)), (2, rf G x2), (3, .int (iz x3)), (4, vR G x4)] [] n h
abbrev X9_divideRows_w24 (G : xG) (k : xK) (x0 : Nat) (x1 : Int) (x2 : Nat) (x3 : Int) (x4 : Int) (s0 : Int) (s1 : UInt64) (n : Nat) (h : xH) : Prop := WW G k 13 0 0 24 [(0, rf G x0), (1, .int (iz x1)), (2, rf G x2), (3, .int (iz x3)), (4, vR G x4)] [.int (iz s0), .double s1] n h
abbrev X9_divideRows_w33 (G : xG) (k : xK) (x0 : Nat) (x1 : Int) (x2 : Nat) (x3 : Int) (x4 : Int) (x5 : UInt64) (x7 : Int) (n : Nat) (h : xH) : Prop := WW G k 13 0 0 33 [(0, rf G x0), (1, .int (iz x1)), (2, rf G x2), (3, .int (iz x3)), (4, vR G x4), (5, .double x5), (7, .int (iz x7))] [] n h
abbrev X9_divideRows_w83 (G : xG) (k : xK) (x0 : Nat) (x1 : Int) (x2 : Nat) (x3 : Int) (x4 : Int) (x5 : UInt64) (x7 : Int) (s0 : Int) (s1 : UInt64) (n : Nat) (h : xH) : Prop := WW G k 13 0 0 83 [(0, rf G x0), (1, .int (iz x1)), (2, rf G x2), (3, .int (iz x3)), (4, vR G x4), (5, .double x5), (7, .int (iz x7))] [.int (iz s0), .double s1] n h
abbrev X9_divideRows_w113 (G : xG) (k : xK) (x0 : Nat) (x1 : Int) (x2 : Nat) (x3 : Int) (x4 : Int) (x5 : UInt64) (x7 : Int) (x10 : Int) (x11 : Int) (n : Nat) (h : xH) : Prop := WW G k 13 0 0 113 [(0, rf G x0), (1, .int (iz x1)), (2, rf G x2), (3, .int (iz x3)), (4, vR G x4), (5, .double x5), (7, .int (iz x7)), (10, .int (iz x10)), (11, .int (iz x11))] [] n h
abbrev X9_divideRows_w158 (G : xG) (k : xK) (x0 : Nat) (x1 : Int) (x2 : Nat) (x3 : Int) (x4 : Int) (x5 : UInt64) (x7 : Int) (x10 : Int) (n : Nat) (h : xH) : Prop := WW G k 13 0 0 158 [(0, rf G x0), (1, .int (iz x1)), (2, rf G x2), (3, .int (iz x3)), (4, vR G x4), (5, .double x5), (7, .int (iz x7)), (10, .int (iz x10))] [] n h
abbrev X9_divideRows_w153 (G : xG) (k : xK) (x0 : Nat) (x1 : Int) (x2 : Nat) (x3 : Int) (x4 : Int) (x5 : UInt64) (x7 : Int) (x10 : Int) (s0 : Int) (n : Nat) (h : xH) : Prop := WW G k 13 0 0 153 [(0, rf G x0), (1, .int (iz x1)), (2, rf G x2), (3, .int (iz x3)), (4, vR G x4), (5, .double x5), (7, .int (iz x7)), (10, .int (iz x10))] [.int (iz s0)] n h
abbrev X9_divideRows_w198 (G : xG) (k : xK) (x0 : Nat) (x1 : Int) (x2 : Nat) (x3 : Int) (x4 : Int) (x5 : UInt64) (x7 : Int) (n : Nat) (h : xH) : Prop := WW G k 13 0 0 198 [(0, rf G x0), (1, .int (iz x1)), (2, rf G x2), (3, .int (iz x3)), (4, vR G x4), (5, .double x5), (7, .int (iz x7))] [] n h
theorem S_X9_divideRows_of {G : xG} {l : Launch} {x0 : Nat} {x1 : Int} {x2 : Nat} {x3 : Int} {x4 : Int} {n : Nat} {h : xH} {Po : Int → xH → Prop} (body : ∀ k : xK, kl k = l → CC G k cX9_divideRows RX9 13 rm_X9_divideRows → CQ G k (some .int) rm_X9_divideRows (fun r n1 h1 => ∃ z : Int, r = some (.int (iz z)) ∧ n1 = n ∧ Po z h1) → X9_divideRows_w0 G k x0 x1 x2 x3 x4 n h) : S_X9_divideRows G l x0 x1 x2 x3 x4 n h Po := xS_of (by decide +kernel) (by simp only [vR]; split <;> exact Nat.le_of_ble_eq_true rfl) rfl (fun k hl hnm C E => body k hl C E)
set_option maxRecDepth 100000 in
set_option maxHeartbeats 4000000 in
theorem X9_divideRows_b0 {G : xG} {k : xK} {n0 : Nat} {Po : Int → xH → Prop} (C : CC G k cX9_divideRows RX9 13 rm_X9_divideRows) (E : CQ G k (some .int) rm_X9_divideRows (fun r n1 h1 => ∃ z : Int, r = some (.int (iz z)) ∧ n1 = n0 ∧ Po z h1)) (x0 : Nat) (x1 : Int) (x2 : Nat) (x3 : Int) (x4 : Int) (n : Nat) (h : xH) (hn0 : n = n0) (hy : okA n h x2 100 (x3 - 1) ∧ vf_n64 (FP.dmul (FP.i2d (iz (hG h x2 ((x3 - 1).toNat)))) 4666723172467343360) ∧ (rg x3 ∧ rg (1 : Int)) ∧ ((x3 ≤ (1 : Int) → X9_divideRows_w24 G k x0 x1 x2 x3 x4 0 (FP.dmul (FP.i2d (iz (hG h x2 ((x3 - 1).toNat)))) 4666723172467343360) n h) ∧ (¬ x3 ≤ (1 : Int) → okA n h x2 100 (x3 - 2) ∧ X9_divideRows_w24 G k x0 x1 x2 x3 x4 (hG h x2 ((x3 - 2).toNat)) (FP.dmul (FP.i2d (iz (hG h x2 ((x3 - 1).toNat)))) 4666723172467343360) n h))) : X9_divideRows_w0 G k x0 x1 x2 x3 x4 n h := by
  subst hn0
  refine ww_aload_n C 2 2 rfl rfl dX9_divideRows_0 ?_
  refine ww_iload_n C 3 3 rfl rfl dX9_divideRows_1 ?_
  refine ww_iconst C (z := 1) dX9_divideRows_2 rfl ?_
  refine ww_isub C dX9_divideRows_3 ?_
  obtain ⟨p1, hy⟩ := hy
  refine ww_iald C dX9_divideRows_4 p1 ?_
  refine ww_i2d C dX9_divideRows_5 ?_
  refine ww_ldc2d C q_555 dX9_divideRows_6 ?_
  obtain ⟨p2, hy⟩ := hy
  refine ww_dmul C dX9_divideRows_9 p2 ?_
  refine ww_iload_n C 3 3 rfl rfl dX9_divideRows_10 ?_
  refine ww_iconst C (z := 1) dX9_divideRows_11 rfl ?_
  obtain ⟨p3, hy⟩ := hy
  refine ww_icmp_le C (tg := 23) dX9_divideRows_12 (by decide) p3.1 p3.2 (fun c4 => ?_) (fun c4 => ?_)
  · have hy := hy.1 c4
    refine ww_iconst C (z := 0) dX9_divideRows_23 rfl ?_
    exact ww_sub [0, 1, 2, 3, 4] rfl (by decide) (by decide) hy
  · have hy := hy.2 c4
    refine ww_aload_n C 2 2 rfl rfl dX9_divideRows_15 ?_
    refine ww_iload_n C 3 3 rfl rfl dX9_divideRows_16 ?_
    refine ww_iconst C (z := 2) dX9_divideRows_17 rfl ?_
    refine ww_isub C dX9_divideRows_18 ?_
    obtain ⟨p5, hy⟩ := hy
    refine ww_iald C dX9_divideRows_19 p5 ?_
    refine ww_goto C (tg := 24) dX9_divideRows_20 (by decide) ?_
    exact ww_sub [0, 1, 2, 3, 4] rfl (by decide) (by decide) hy
set_option maxRecDepth 100000 in
set_option maxHeartbeats 4000000 in
theorem X9_divideRows_b24 {G : xG} {k : xK} {n0 : Nat} {Po : Int → xH → Prop} (C : CC G k cX9_divideRows RX9 13 rm_X9_divideRows) (E : CQ G k (some .int) rm_X9_divideRows (fun r n1 h1 => ∃ z : Int, r = some (.int (iz z)) ∧ n1 = n0 ∧ Po z h1)) (x0 : Nat) (x1 : Int) (x2 : Nat) (x3 : Int) (x4 : Int) (s0 : Int) (s1 : UInt64) (n : Nat) (h : xH) (hn0 : n = n0) (hy : vf_n64 (FP.dadd s1 (FP.i2d (iz s0))) ∧ X9_divideRows_w33 G k x0 x1 x2 x3 x4 (FP.dadd s1 (FP.i2d (iz s0))) (x1 - x3) n h) : X9_divideRows_w24 G k x0 x1 x2 x3 x4 s0 s1 n h := by
  subst hn0
  refine ww_i2d C dX9_divideRows_24 ?_
  obtain ⟨p1, hy⟩ := hy
  refine ww_dadd C dX9_divideRows_25 p1 ?_
  refine ww_dstore C (L' := [(5, .double (FP.dadd s1 (FP.i2d (iz s0)))), (0, rf G x0), (1, .int (iz x1)), (2, rf G x2), (3, .int (iz x3)), (4, vR G x4)]) 5 (by decide) (by simp [List.filter_cons, vR_cat]) dX9_divideRows_26 ?_
  refine ww_iload_n C 1 2 rfl rfl dX9_divideRows_28 ?_
  refine ww_iload_n C 3 4 rfl rfl dX9_divideRows_29 ?_
  refine ww_isub C dX9_divideRows_30 ?_
  refine ww_istore C 7 (by decide) rfl dX9_divideRows_31 ?_
  exact ww_sub [2, 3, 4, 5, 6, 1, 0] rfl (by decide) (by decide) hy
set_option maxRecDepth 100000 in
set_option maxHeartbeats 4000000 in
theorem X9_divideRows_b33 {G : xG} {k : xK} {n0 : Nat} {Po : Int → xH → Prop} (C : CC G k cX9_divideRows RX9 13 rm_X9_divideRows) (E : CQ G k (some .int) rm_X9_divideRows (fun r n1 h1 => ∃ z : Int, r = some (.int (iz z)) ∧ n1 = n0 ∧ Po z h1)) (x0 : Nat) (x1 : Int) (x2 : Nat) (x3 : Int) (x4 : Int) (x5 : UInt64) (x7 : Int) (n : Nat) (h : xH) (hn0 : n = n0) (hy : rg x7 ∧ ((x7 < 0 → S_J9_min_7cf53 G (kl k) x1 x3 n h (fun z3 h4 => S_X9_used G (kl k) x0 z3 n h4 (fun z5 h6 => Po z5 h6))) ∧ (¬ x7 < 0 → okA n h x0 100 (x7 + x3) ∧ vf_n64 (FP.dmul (FP.i2d (iz (hG h x0 ((x7 + x3).toNat)))) 4666723172467343360) ∧ okA n h x0 100 ((x7 + x3) - 1) ∧ vf_n64 (FP.dadd (FP.dmul (FP.i2d (iz (hG h x0 ((x7 + x3).toNat)))) 4666723172467343360) (FP.i2d (iz (hG h x0 (((x7 + x3) - 1).toNat))))) ∧ vf_n64 (FP.dmul (FP.dadd (FP.dmul (FP.i2d (iz (hG h x0 ((x7 + x3).toNat)))) 4666723172467343360) (FP.i2d (iz (hG h x0 (((x7 + x3) - 1).toNat))))) 4666723172467343360) ∧ (rg (x7 + x3) ∧ rg (1 : Int)) ∧ (((x7 + x3) ≤ (1 : Int) → X9_divideRows_w83 G k x0 x1 x2 x3 x4 x5 x7 0 (FP.dmul (FP.dadd (FP.dmul (FP.i2d (iz (hG h x0 ((x7 + x3).toNat)))) 4666723172467343360) (FP.i2d (iz (hG h x0 (((x7 + x3) - 1).toNat))))) 4666723172467343360) n h) ∧ (¬ (x7 + x3) ≤ (1 : Int) → okA n h x0 100 ((x7 + x3) - 2) ∧ X9_divideRows_w83 G k x0 x1 x2 x3 x4 x5 x7 (hG h x0 (((x7 + x3) - 2).toNat)) (FP.dmul (FP.dadd (FP.dmul (FP.i2d (iz (hG h x0 ((x7 + x3).toNat)))) 4666723172467343360) (FP.i2d (iz (hG h x0 (((x7 + x3) - 1).toNat))))) 4666723172467343360) n h))))) : X9_divideRows_w33 G k x0 x1 x2 x3 x4 x5 x7 n h := by
  subst hn0
  refine ww_iload C 7 6 rfl dX9_divideRows_33 ?_
  obtain ⟨p1, hy⟩ := hy
  refine ww_if_lt C (tg := 204) dX9_divideRows_35 (by decide) p1 (fun c2 => ?_) (fun c2 => ?_)
  · have hy := hy.1 c2
    refine ww_aload_n C 0 0 rfl rfl dX9_divideRows_204 ?_
    refine ww_iload_n C 1 1 rfl rfl dX9_divideRows_205 ?_
    refine ww_iload_n C 3 3 rfl rfl dX9_divideRows_206 ?_
    refine cl_X9_25 C dX9_divideRows_207 (Nat.le_of_ble_eq_true rfl) ⟨by decide, by decide⟩ ⟨by decide, by decide⟩ ?_
    refine S_J9_min_7cf53.mono hy (fun z3 h4 hy => ?_)
    refine cl_X9_15 C dX9_divideRows_210 (Nat.le_of_ble_eq_true rfl) ⟨by decide, by decide⟩ ⟨by decide, by decide⟩ ?_
    refine S_X9_used.mono hy (fun z5 h6 hy => ?_)
    exact ww_iret C E dX9_divideRows_213 (by decide) (by decide) ⟨_, rfl, rfl, hy⟩
  · have hy := hy.2 c2
    refine ww_aload_n C 0 0 rfl rfl dX9_divideRows_38 ?_
    refine ww_iload C 7 6 rfl dX9_divideRows_39 ?_
    refine ww_iload_n C 3 3 rfl rfl dX9_divideRows_41 ?_
    refine ww_iadd C dX9_divideRows_42 ?_
    obtain ⟨p7, hy⟩ := hy
    refine ww_iald C dX9_divideRows_43 p7 ?_
    refine ww_i2d C dX9_divideRows_44 ?_
    refine ww_ldc2d C q_555 dX9_divideRows_45 ?_
    obtain ⟨p8, hy⟩ := hy
    refine ww_dmul C dX9_divideRows_48 p8 ?_
    refine ww_aload_n C 0 0 rfl rfl dX9_divideRows_49 ?_
    refine ww_iload C 7 6 rfl dX9_divideRows_50 ?_
    refine ww_iload_n C 3 3 rfl rfl dX9_divideRows_52 ?_
    refine ww_iadd C dX9_divideRows_53 ?_
    refine ww_iconst C (z := 1) dX9_divideRows_54 rfl ?_
    refine ww_isub C dX9_divideRows_55 ?_
    obtain ⟨p9, hy⟩ := hy
    refine ww_iald C dX9_divideRows_56 p9 ?_
    refine ww_i2d C dX9_divideRows_57 ?_
    obtain ⟨p10, hy⟩ := hy
    refine ww_dadd C dX9_divideRows_58 p10 ?_
    refine ww_ldc2d C q_555 dX9_divideRows_59 ?_
    obtain ⟨p11, hy⟩ := hy
    refine ww_dmul C dX9_divideRows_62 p11 ?_
    refine ww_iload C 7 6 rfl dX9_divideRows_63 ?_
    refine ww_iload_n C 3 3 rfl rfl dX9_divideRows_65 ?_
    refine ww_iadd C dX9_divideRows_66 ?_
    refine ww_iconst C (z := 1) dX9_divideRows_67 rfl ?_
    obtain ⟨p12, hy⟩ := hy
    refine ww_icmp_le C (tg := 82) dX9_divideRows_68 (by decide) p12.1 p12.2 (fun c13 => ?_) (fun c13 => ?_)
    · have hy := hy.1 c13
      refine ww_iconst C (z := 0) dX9_divideRows_82 rfl ?_
      exact ww_sub [0, 1, 2, 3, 4, 5, 6] rfl (by decide) (by decide) hy
    · have hy := hy.2 c13
      refine ww_aload_n C 0 0 rfl rfl dX9_divideRows_71 ?_
      refine ww_iload C 7 6 rfl dX9_divideRows_72 ?_
      refine ww_iload_n C 3 3 rfl rfl dX9_divideRows_74 ?_
      refine ww_iadd C dX9_divideRows_75 ?_
      refine ww_iconst C (z := 2) dX9_divideRows_76 rfl ?_
      refine ww_isub C dX9_divideRows_77 ?_
      obtain ⟨p14, hy⟩ := hy
      refine ww_iald C dX9_divideRows_78 p14 ?_
      refine ww_goto C (tg := 83) dX9_divideRows_79 (by decide) ?_
      exact ww_sub [0, 1, 2, 3, 4, 5, 6] rfl (by decide) (by decide) hy
set_option maxRecDepth 100000 in
set_option maxHeartbeats 4000000 in
theorem X9_divideRows_b83 {G : xG} {k : xK} {n0 : Nat} {Po : Int → xH → Prop} (C : CC G k cX9_divideRows RX9 13 rm_X9_divideRows) (E : CQ G k (some .int) rm_X9_divideRows (fun r n1 h1 => ∃ z : Int, r = some (.int (iz z)) ∧ n1 = n0 ∧ Po z h1)) (x0 : Nat) (x1 : Int) (x2 : Nat) (x3 : Int) (x4 : Int) (x5 : UInt64) (x7 : Int) (s0 : Int) (s1 : UInt64) (n : Nat) (h : xH) (hn0 : n = n0) (hy : vf_n64 (FP.dadd s1 (FP.i2d (iz s0))) ∧ vf_n64 (FP.ddiv (FP.dadd s1 (FP.i2d (iz s0))) x5) ∧ (vf_n64 4666722622711529472 ∧ vf_n64 (FP.ddiv (FP.dadd s1 (FP.i2d (iz s0))) x5)) ∧ (∀ y4 : Int, y4 = (FP.d2i (Native.java_lang_Math.nans.pick64 false 4666722622711529472 (FP.ddiv (FP.dadd s1 (FP.i2d (iz s0))) x5))).toInt → S_X9_takeAway G (kl k) x0 x7 x2 x3 y4 n h (fun z5 h6 => X9_divideRows_w113 G k x0 x1 x2 x3 x4 x5 x7 y4 z5 n h6))) : X9_divideRows_w83 G k x0 x1 x2 x3 x4 x5 x7 s0 s1 n h := by
  subst hn0
  refine ww_i2d C dX9_divideRows_83 ?_
  obtain ⟨p1, hy⟩ := hy
  refine ww_dadd C dX9_divideRows_84 p1 ?_
  refine ww_dstore C 8 (by decide) rfl dX9_divideRows_85 ?_
  refine ww_ldc2d C q_556 dX9_divideRows_87 ?_
  refine ww_dload C 8 0 rfl dX9_divideRows_90 ?_
  refine ww_dload C 5 6 rfl dX9_divideRows_92 ?_
  obtain ⟨p2, hy⟩ := hy
  refine ww_ddiv C dX9_divideRows_94 p2 ?_
  obtain ⟨p3, hy⟩ := hy
  refine ww_dmin C q_557 q_558 q_40 q_559 dX9_divideRows_95 p3.1 p3.2 (by decide) (by decide) (Nat.le_of_ble_eq_true rfl) (by decide) (by decide) ?_
  refine ww_d2i C dX9_divideRows_98 ?_
  refine ww_istore C 10 (by decide) rfl dX9_divideRows_99 ?_
  have hy := hy _ rfl
  refine ww_aload_n C 0 2 rfl rfl dX9_divideRows_101 ?_
  refine ww_iload C 7 8 rfl dX9_divideRows_102 ?_
  refine ww_aload_n C 2 4 rfl rfl dX9_divideRows_104 ?_
  refine ww_iload_n C 3 5 rfl rfl dX9_divideRows_105 ?_
  refine ww_iload C 10 0 rfl dX9_divideRows_106 ?_
  refine cl_X9_42 C dX9_divideRows_108 (Nat.le_of_ble_eq_true rfl) ⟨by decide, by decide⟩ ⟨by decide, by decide⟩ ?_
  refine S_X9_takeAway.mono hy (fun z5 h6 hy => ?_)
  refine ww_istore C 11 (by decide) rfl dX9_divideRows_111 ?_
  exact ww_sub [3, 4, 5, 6, 7, 8, 9, 1, 0] rfl (by decide) (by decide) hy
set_option maxRecDepth 100000 in
set_option maxHeartbeats 4000000 in
theorem X9_divideRows_b113 {G : xG} {k : xK} {n0 : Nat} {Po : Int → xH → Prop} (C : CC G k cX9_divideRows RX9 13 rm_X9_divideRows) (E : CQ G k (some .int) rm_X9_divideRows (fun r n1 h1 => ∃ z : Int, r = some (.int (iz z)) ∧ n1 = n0 ∧ Po z h1)) (x0 : Nat) (x1 : Int) (x2 : Nat) (x3 : Int) (x4 : Int) (x5 : UInt64) (x7 : Int) (x10 : Int) (x11 : Int) (n : Nat) (h : xH) (hn0 : n = n0) (hy : rg x11 ∧ ((¬ x11 = 0 → X9_divideRows_w158 G k x0 x1 x2 x3 x4 x5 x7 x10 n h) ∧ (x11 = 0 → okA n h x0 100 (x7 + x3) ∧ S_X9_putBack G (kl k) x0 x7 x2 x3 n h (fun h4 => okA n h4 x0 100 (x7 + x3) ∧ (rg (hG h x0 ((x7 + x3).toNat)) ∧ rg (hG h4 x0 ((x7 + x3).toNat))) ∧ (((hG h x0 ((x7 + x3).toNat)) ≤ (hG h4 x0 ((x7 + x3).toNat)) → X9_divideRows_w153 G k x0 x1 x2 x3 x4 x5 x7 (x10 + (-1)) 0 n h4) ∧ (¬ (hG h x0 ((x7 + x3).toNat)) ≤ (hG h4 x0 ((x7 + x3).toNat)) → X9_divideRows_w153 G k x0 x1 x2 x3 x4 x5 x7 (x10 + (-1)) 1 n h4)))))) : X9_divideRows_w113 G k x0 x1 x2 x3 x4 x5 x7 x10 x11 n h := by
  subst hn0
  refine ww_iload C 11 8 rfl dX9_divideRows_113 ?_
  obtain ⟨p1, hy⟩ := hy
  refine ww_if_ne C (tg := 158) dX9_divideRows_115 (by decide) p1 (fun c2 => ?_) (fun c2 => ?_)
  · have hy := hy.1 c2
    exact ww_sub [0, 1, 2, 3, 4, 5, 6, 7] rfl (by decide) (by decide) hy
  · have hy := hy.2 c2
    refine ww_iinc C 10 7 rfl (by decide) rfl dX9_divideRows_118 ?_
    refine ww_aload_n C 0 1 rfl rfl dX9_divideRows_121 ?_
    refine ww_iload C 7 7 rfl dX9_divideRows_122 ?_
    refine ww_iload_n C 3 4 rfl rfl dX9_divideRows_124 ?_
    refine ww_iadd C dX9_divideRows_125 ?_
    obtain ⟨p3, hy⟩ := hy
    refine ww_iald C dX9_divideRows_126 p3 ?_
    refine ww_istore C 12 (by decide) rfl dX9_divideRows_127 ?_
    refine ww_aload_n C 0 2 rfl rfl dX9_divideRows_129 ?_
    refine ww_iload C 7 8 rfl dX9_divideRows_130 ?_
    refine ww_aload_n C 2 4 rfl rfl dX9_divideRows_132 ?_
    refine ww_iload_n C 3 5 rfl rfl dX9_divideRows_133 ?_
    refine cl_X9_46 C dX9_divideRows_134 (Nat.le_of_ble_eq_true rfl) ⟨by decide, by decide⟩ ⟨by decide, by decide⟩ ?_
    refine S_X9_putBack.mono hy (fun h4 hy => ?_)
    refine ww_iload C 12 0 rfl dX9_divideRows_137 ?_
    refine ww_aload_n C 0 2 rfl rfl dX9_divideRows_139 ?_
    refine ww_iload C 7 8 rfl dX9_divideRows_140 ?_
    refine ww_iload_n C 3 5 rfl rfl dX9_divideRows_142 ?_
    refine ww_iadd C dX9_divideRows_143 ?_
    obtain ⟨p5, hy⟩ := hy
    refine ww_iald C dX9_divideRows_144 p5 ?_
    obtain ⟨p6, hy⟩ := hy
    refine ww_icmp_le C (tg := 152) dX9_divideRows_145 (by decide) p6.1 p6.2 (fun c7 => ?_) (fun c7 => ?_)
    · have hy := hy.1 c7
      refine ww_iconst C (z := 0) dX9_divideRows_152 rfl ?_
      exact ww_sub [2, 3, 4, 5, 6, 7, 8, 1] rfl (by decide) (by decide) hy
    · have hy := hy.2 c7
      refine ww_iconst C (z := 1) dX9_divideRows_148 rfl ?_
      refine ww_goto C (tg := 153) dX9_divideRows_149 (by decide) ?_
      exact ww_sub [2, 3, 4, 5, 6, 7, 8, 1] rfl (by decide) (by decide) hy
set_option maxRecDepth 100000 in
set_option maxHeartbeats 4000000 in
theorem X9_divideRows_b158 {G : xG} {k : xK} {n0 : Nat} {Po : Int → xH → Prop} (C : CC G k cX9_divideRows RX9 13 rm_X9_divideRows) (E : CQ G k (some .int) rm_X9_divideRows (fun r n1 h1 => ∃ z : Int, r = some (.int (iz z)) ∧ n1 = n0 ∧ Po z h1)) (x0 : Nat) (x1 : Int) (x2 : Nat) (x3 : Int) (x4 : Int) (x5 : UInt64) (x7 : Int) (x10 : Int) (n : Nat) (h : xH) (hn0 : n = n0) (hy : S_X9_isAtLeast G (kl k) x0 x7 x2 x3 n h (fun z1 h2 => rg z1 ∧ ((z1 = 0 → ((x4 < 0 → X9_divideRows_w198 G k x0 x1 x2 x3 x4 x5 x7 n h2) ∧ (¬ x4 < 0 → 0 ≤ x4 ∧ okA n h2 x4.toNat 100 x7 ∧ (∀ h8 : xH, h8 = hS h2 x4.toNat (x7.toNat) x10 → X9_divideRows_w198 G k x0 x1 x2 x3 x4 x5 x7 n h8)))) ∧ (¬ z1 = 0 → S_X9_takeAway G (kl k) x0 x7 x2 x3 1 n h2 (fun z9 h10 => X9_divideRows_w158 G k x0 x1 x2 x3 x4 x5 x7 (x10 + 1) n h10))))) : X9_divideRows_w158 G k x0 x1 x2 x3 x4 x5 x7 x10 n h := by
  subst hn0
  refine ww_aload_n C 0 0 rfl rfl dX9_divideRows_158 ?_
  refine ww_iload C 7 6 rfl dX9_divideRows_159 ?_
  refine ww_aload_n C 2 2 rfl rfl dX9_divideRows_161 ?_
  refine ww_iload_n C 3 3 rfl rfl dX9_divideRows_162 ?_
  refine cl_X9_50 C dX9_divideRows_163 (Nat.le_of_ble_eq_true rfl) ⟨by decide, by decide⟩ ⟨by decide, by decide⟩ ?_
  refine S_X9_isAtLeast.mono hy (fun z1 h2 hy => ?_)
  obtain ⟨p3, hy⟩ := hy
  refine ww_if_eq C (tg := 186) dX9_divideRows_166 (by decide) p3 (fun c4 => ?_) (fun c4 => ?_)
  · have hy := hy.1 c4
    refine ww_Nload C 4 4 rfl dX9_divideRows_186 ?_
    refine ww_ifnull C (tg := 198) dX9_divideRows_188 (by decide) (fun c5 => ?_) (fun c5 => ?_)
    · have hy := hy.1 c5
      exact ww_sub [0, 1, 2, 3, 4, 5, 6] rfl (by decide) (by decide) hy
    · have hy := hy.2 c5
      refine ww_Nload C 4 4 rfl dX9_divideRows_191 ?_
      obtain ⟨p6, hy⟩ := hy
      refine ww_vr p6 ?_
      refine ww_iload C 7 6 rfl dX9_divideRows_193 ?_
      refine ww_iload C 10 7 rfl dX9_divideRows_195 ?_
      obtain ⟨p7, hy⟩ := hy
      have hy := hy _ rfl
      refine ww_iast C dX9_divideRows_197 p7 ?_
      exact ww_sub [0, 1, 2, 3, 4, 5, 6] rfl (by decide) (by decide) hy
  · have hy := hy.2 c4
    refine ww_iinc C 10 7 rfl (by decide) rfl dX9_divideRows_169 ?_
    refine ww_aload_n C 0 1 rfl rfl dX9_divideRows_172 ?_
    refine ww_iload C 7 7 rfl dX9_divideRows_173 ?_
    refine ww_aload_n C 2 3 rfl rfl dX9_divideRows_175 ?_
    refine ww_iload_n C 3 4 rfl rfl dX9_divideRows_176 ?_
    refine ww_iconst C (z := 1) dX9_divideRows_177 rfl ?_
    refine cl_X9_42 C dX9_divideRows_178 (Nat.le_of_ble_eq_true rfl) ⟨by decide, by decide⟩ ⟨by decide, by decide⟩ ?_
    refine S_X9_takeAway.mono hy (fun z9 h10 hy => ?_)
    refine ww_istore C 11 (by decide) rfl dX9_divideRows_181 ?_
    refine ww_goto C (tg := 158) dX9_divideRows_183 (by decide) ?_
    exact ww_sub [2, 3, 4, 5, 6, 7, 8, 1] rfl (by decide) (by decide) hy
set_option maxRecDepth 100000 in
set_option maxHeartbeats 4000000 in
theorem X9_divideRows_b153 {G : xG} {k : xK} {n0 : Nat} {Po : Int → xH → Prop} (C : CC G k cX9_divideRows RX9 13 rm_X9_divideRows) (E : CQ G k (some .int) rm_X9_divideRows (fun r n1 h1 => ∃ z : Int, r = some (.int (iz z)) ∧ n1 = n0 ∧ Po z h1)) (x0 : Nat) (x1 : Int) (x2 : Nat) (x3 : Int) (x4 : Int) (x5 : UInt64) (x7 : Int) (x10 : Int) (s0 : Int) (n : Nat) (h : xH) (hn0 : n = n0) (hy : X9_divideRows_w113 G k x0 x1 x2 x3 x4 x5 x7 x10 s0 n h) : X9_divideRows_w153 G k x0 x1 x2 x3 x4 x5 x7 x10 s0 n h := by
  subst hn0
  refine ww_istore C 11 (by decide) rfl dX9_divideRows_153 ?_
  refine ww_goto C (tg := 113) dX9_divideRows_155 (by decide) ?_
  exact ww_sub [1, 2, 3, 4, 5, 6, 7, 8, 0] rfl (by decide) (by decide) hy
set_option maxRecDepth 100000 in
set_option maxHeartbeats 4000000 in
theorem X9_divideRows_b198 {G : xG} {k : xK} {n0 : Nat} {Po : Int → xH → Prop} (C : CC G k cX9_divideRows RX9 13 rm_X9_divideRows) (E : CQ G k (some .int) rm_X9_divideRows (fun r n1 h1 => ∃ z : Int, r = some (.int (iz z)) ∧ n1 = n0 ∧ Po z h1)) (x0 : Nat) (x1 : Int) (x2 : Nat) (x3 : Int) (x4 : Int) (x5 : UInt64) (x7 : Int) (n : Nat) (h : xH) (hn0 : n = n0) (hy : X9_divideRows_w33 G k x0 x1 x2 x3 x4 x5 (x7 + (-1)) n h) : X9_divideRows_w198 G k x0 x1 x2 x3 x4 x5 x7 n h := by
  subst hn0
  refine ww_iinc C 7 6 rfl (by decide) rfl dX9_divideRows_198 ?_
  refine ww_goto C (tg := 33) dX9_divideRows_201 (by decide) ?_
  exact ww_sub [1, 2, 3, 4, 5, 6, 0] rfl (by decide) (by decide) hy
abbrev X9_copyRow_w0 (G : xG) (k : xK) (x0 : Nat) (x1 : Nat) (x2 : Int) (n : Nat) (h : xH) : Prop := WW G k 4 0 0 0 [(0, rf G x0), (1, rf G x1), (2, .int (iz x2))] [] n h
abbrev X9_copyRow_w2 (G : xG) (k : xK) (x0 : Nat) (x1 : Nat) (x2 : Int) (x3 : Int) (n : Nat) (h : xH) : Prop := WW G k 4 0 0 2 [(0, rf G x0), (1, rf G x1), (2, .int (iz x2)), (3, .int (iz x3))] [] n h
abbrev X9_copyRow_w22 (G : xG) (k : xK) (x0 : Nat) (x1 : Nat) (x2 : Int) (x3 : Int) (s0 : Int) (s1 : Int) (s2 : Nat) (n : Nat) (h : xH) : Prop := WW G k 4 0 0 22 [(0, rf G x0), (1, rf G x1), (2, .int (iz x2)), (3, .int (iz x3))] [.int (iz s0), .int (iz s1), rf G s2] n h
theorem S_X9_copyRow_of {G : xG} {l : Launch} {x0 : Nat} {x1 : Nat} {x2 : Int} {n : Nat} {h : xH} {Po : xH → Prop} (body : ∀ k : xK, kl k = l → CC G k cX9_copyRow RX9 4 rm_X9_copyRow → CQ G k none rm_X9_copyRow (fun r n1 h1 => r = none ∧ n1 = n ∧ Po h1) → X9_copyRow_w0 G k x0 x1 x2 n h) : S_X9_copyRow G l x0 x1 x2 n h Po := xS_of (by decide +kernel) (Nat.le_of_ble_eq_true rfl) rfl (fun k hl hnm C E => body k hl C E)
set_option maxRecDepth 100000 in
set_option maxHeartbeats 4000000 in
theorem X9_copyRow_b0 {G : xG} {k : xK} {n0 : Nat} {Po : xH → Prop} (C : CC G k cX9_copyRow RX9 4 rm_X9_copyRow) (E : CQ G k none rm_X9_copyRow (fun r n1 h1 => r = none ∧ n1 = n0 ∧ Po h1)) (x0 : Nat) (x1 : Nat) (x2 : Int) (n : Nat) (h : xH) (hn0 : n = n0) (hy : X9_copyRow_w2 G k x0 x1 x2 0 n h) : X9_copyRow_w0 G k x0 x1 x2 n h := by
  subst hn0
  refine ww_iconst C (z := 0) dX9_copyRow_0 rfl ?_
  refine ww_istore_n C 3 rfl (by decide) rfl dX9_copyRow_1 ?_
  exact ww_sub [1, 2, 3, 0] rfl (by decide) (by decide) hy
set_option maxRecDepth 100000 in
set_option maxHeartbeats 4000000 in
theorem X9_copyRow_b2 {G : xG} {k : xK} {n0 : Nat} {Po : xH → Prop} (C : CC G k cX9_copyRow RX9 4 rm_X9_copyRow) (E : CQ G k none rm_X9_copyRow (fun r n1 h1 => r = none ∧ n1 = n0 ∧ Po h1)) (x0 : Nat) (x1 : Nat) (x2 : Int) (x3 : Int) (n : Nat) (h : xH) (hn0 : n = n0) (hy : (x1 < n ∧ ((h x1).1 = 100 ∨ (h x1).1 = 101)) ∧ (rg x3 ∧ rg ((h x1).2.1 : Int)) ∧ ((((h x1).2.1 : Int) ≤ x3 → Po h) ∧ (¬ ((h x1).2.1 : Int) ≤ x3 → (rg x3 ∧ rg x2) ∧ ((x2 ≤ x3 → X9_copyRow_w22 G k x0 x1 x2 x3 0 x3 x1 n h) ∧ (¬ x2 ≤ x3 → okA n h x0 100 x3 ∧ X9_copyRow_w22 G k x0 x1 x2 x3 (hG h x0 (x3.toNat)) x3 x1 n h))))) : X9_copyRow_w2 G k x0 x1 x2 x3 n h := by
  subst hn0
  refine ww_iload_n C 3 3 rfl rfl dX9_copyRow_2 ?_
  refine ww_aload_n C 1 1 rfl rfl dX9_copyRow_3 ?_
  obtain ⟨p1, hy⟩ := hy
  refine ww_alen C dX9_copyRow_4 p1.1 p1.2 ?_
  obtain ⟨p2, hy⟩ := hy
  refine ww_icmp_ge C (tg := 29) dX9_copyRow_5 (by decide) p2.1 p2.2 (fun c3 => ?_) (fun c3 => ?_)
  · have hy := hy.1 c3
    exact ww_vret C E dX9_copyRow_29 (by decide) (by decide) ⟨rfl, rfl, hy⟩
  · have hy := hy.2 c3
    refine ww_aload_n C 1 1 rfl rfl dX9_copyRow_8 ?_
    refine ww_iload_n C 3 3 rfl rfl dX9_copyRow_9 ?_
    refine ww_iload_n C 3 3 rfl rfl dX9_copyRow_10 ?_
    refine ww_iload_n C 2 2 rfl rfl dX9_copyRow_11 ?_
    obtain ⟨p4, hy⟩ := hy
    refine ww_icmp_ge C (tg := 21) dX9_copyRow_12 (by decide) p4.1 p4.2 (fun c5 => ?_) (fun c5 => ?_)
    · have hy := hy.1 c5
      refine ww_iconst C (z := 0) dX9_copyRow_21 rfl ?_
      exact ww_sub [0, 1, 2, 3] rfl (by decide) (by decide) hy
    · have hy := hy.2 c5
      refine ww_aload_n C 0 0 rfl rfl dX9_copyRow_15 ?_
      refine ww_iload_n C 3 3 rfl rfl dX9_copyRow_16 ?_
      obtain ⟨p6, hy⟩ := hy
      refine ww_iald C dX9_copyRow_17 p6 ?_
      refine ww_goto C (tg := 22) dX9_copyRow_18 (by decide) ?_
      exact ww_sub [0, 1, 2, 3] rfl (by decide) (by decide) hy
set_option maxRecDepth 100000 in
set_option maxHeartbeats 4000000 in
theorem X9_copyRow_b22 {G : xG} {k : xK} {n0 : Nat} {Po : xH → Prop} (C : CC G k cX9_copyRow RX9 4 rm_X9_copyRow) (E : CQ G k none rm_X9_copyRow (fun r n1 h1 => r = none ∧ n1 = n0 ∧ Po h1)) (x0 : Nat) (x1 : Nat) (x2 : Int) (x3 : Int) (s0 : Int) (s1 : Int) (s2 : Nat) (n : Nat) (h : xH) (hn0 : n = n0) (hy : okA n h s2 100 s1 ∧ (∀ h2 : xH, h2 = hS h s2 (s1.toNat) s0 → X9_copyRow_w2 G k x0 x1 x2 (x3 + 1) n h2)) : X9_copyRow_w22 G k x0 x1 x2 x3 s0 s1 s2 n h := by
  subst hn0
  obtain ⟨p1, hy⟩ := hy
  have hy := hy _ rfl
  refine ww_iast C dX9_copyRow_22 p1 ?_
  refine ww_iinc C 3 3 rfl (by decide) rfl dX9_copyRow_23 ?_
  refine ww_goto C (tg := 2) dX9_copyRow_26 (by decide) ?_
  exact ww_sub [1, 2, 3, 0] rfl (by decide) (by decide) hy
abbrev X9_gcd_w0 (G : xG) (k : xK) (x0 : Nat) (x1 : Nat) (x2 : Int) (x3 : Nat) (x4 : Int) (n : Nat) (h : xH) : Prop := WW G k 11 0 0 0 [(0, rf G x0), (1, rf G x1), (2, .int (iz x2)), (3, rf G x3), (4, .int (iz x4))] [] n h
abbrev X9_gcd_w34 (G : xG) (k : xK) (x0 : Nat) (x5 : Nat) (x6 : Nat) (x7 : Int) (x8 : Int) (n : Nat) (h : xH) : Prop := WW G k 11 0 0 34 [(0, rf G x0), (5, rf G x5), (6, rf G x6), (7, .int (iz x7)), (8, .int (iz x8))] [] n h
abbrev X9_gcd_w66 (G : xG) (k : xK) (x0 : Nat) (x5 : Nat) (x6 : Nat) (x7 : Int) (x8 : Int) (n : Nat) (h : xH) : Prop := WW G k 11 0 0 66 [(0, rf G x0), (5, rf G x5), (6, rf G x6), (7, .int (iz x7)), (8, .int (iz x8))] [] n h
theorem S_X9_gcd_of {G : xG} {l : Launch} {x0 : Nat} {x1 : Nat} {x2 : Int} {x3 : Nat} {x4 : Int} {n : Nat} {h : xH} {Po : Int → xH → Prop} (body : ∀ k : xK, kl k = l → CC G k cX9_gcd RX9 11 rm_X9_gcd → CQ G k (some .int) rm_X9_gcd (fun r n1 h1 => ∃ z : Int, r = some (.int (iz z)) ∧ n1 = n ∧ Po z h1) → X9_gcd_w0 G k x0 x1 x2 x3 x4 n h) : S_X9_gcd G l x0 x1 x2 x3 x4 n h Po := xS_of (by decide +kernel) (Nat.le_of_ble_eq_true rfl) rfl (fun k hl hnm C E => body k hl C E)
set_option maxRecDepth 100000 in
set_option maxHeartbeats 4000000 in
theorem X9_gcd_b0 {G : xG} {k : xK} {n0 : Nat} {Po : Int → xH → Prop} (C : CC G k cX9_gcd RX9 11 rm_X9_gcd) (E : CQ G k (some .int) rm_X9_gcd (fun r n1 h1 => ∃ z : Int, r = some (.int (iz z)) ∧ n1 = n0 ∧ Po z h1)) (x0 : Nat) (x1 : Nat) (x2 : Int) (x3 : Nat) (x4 : Int) (n : Nat) (h : xH) (hn0 : n = n0) (hy : okO n h x0 8 ∧ 0 ≤ hG h x0 3 ∧ okO n h x0 8 ∧ 0 ≤ hG h x0 4 ∧ S_X9_copyRow G (kl k) x1 ((hG h x0 3).toNat) x2 n h (fun h5 => S_X9_copyRow G (kl k) x3 ((hG h x0 4).toNat) x4 n h5 (fun h6 => X9_gcd_w34 G k x0 ((hG h x0 3).toNat) ((hG h x0 4).toNat) x2 x4 n h6))) : X9_gcd_w0 G k x0 x1 x2 x3 x4 n h := by
  subst hn0
  refine ww_aload_n C 0 0 rfl rfl dX9_gcd_0 ?_
  obtain ⟨p1, hy⟩ := hy
  obtain ⟨p2, hy⟩ := hy
  refine gf_X9_54 C dX9_gcd_1 p1 p2 ?_
  refine ww_astore C 5 (by decide) rfl dX9_gcd_4 ?_
  refine ww_aload_n C 0 1 rfl rfl dX9_gcd_6 ?_
  obtain ⟨p3, hy⟩ := hy
  obtain ⟨p4, hy⟩ := hy
  refine gf_X9_58 C dX9_gcd_7 p3 p4 ?_
  refine ww_astore C 6 (by decide) rfl dX9_gcd_10 ?_
  refine ww_aload_n C 1 3 rfl rfl dX9_gcd_12 ?_
  refine ww_aload C 5 1 rfl dX9_gcd_13 ?_
  refine ww_iload_n C 2 4 rfl rfl dX9_gcd_15 ?_
  refine cl_X9_61 C dX9_gcd_16 (Nat.le_of_ble_eq_true rfl) ⟨by decide, by decide⟩ ⟨by decide, by decide⟩ ?_
  refine S_X9_copyRow.mono hy (fun h5 hy => ?_)
  refine ww_aload_n C 3 5 rfl rfl dX9_gcd_19 ?_
  refine ww_aload C 6 0 rfl dX9_gcd_20 ?_
  refine ww_iload C 4 6 rfl dX9_gcd_22 ?_
  refine cl_X9_61 C dX9_gcd_24 (Nat.le_of_ble_eq_true rfl) ⟨by decide, by decide⟩ ⟨by decide, by decide⟩ ?_
  refine S_X9_copyRow.mono hy (fun h6 hy => ?_)
  refine ww_iload_n C 2 4 rfl rfl dX9_gcd_27 ?_
  refine ww_istore C 7 (by decide) rfl dX9_gcd_28 ?_
  refine ww_iload C 4 7 rfl dX9_gcd_30 ?_
  refine ww_istore C 8 (by decide) rfl dX9_gcd_32 ?_
  exact ww_sub [4, 3, 2, 1, 0] rfl (by decide) (by decide) hy
set_option maxRecDepth 100000 in
set_option maxHeartbeats 4000000 in
theorem X9_gcd_b34 {G : xG} {k : xK} {n0 : Nat} {Po : Int → xH → Prop} (C : CC G k cX9_gcd RX9 11 rm_X9_gcd) (E : CQ G k (some .int) rm_X9_gcd (fun r n1 h1 => ∃ z : Int, r = some (.int (iz z)) ∧ n1 = n0 ∧ Po z h1)) (x0 : Nat) (x5 : Nat) (x6 : Nat) (x7 : Int) (x8 : Int) (n : Nat) (h : xH) (hn0 : n = n0) (hy : rg x8 ∧ ((x8 ≤ 0 → okO n h x0 8 ∧ (∀ h4 : xH, h4 = hS h x0 22 ((x5 : Nat) : Int) → Po x7 h4)) ∧ (¬ x8 ≤ 0 → (rg x7 ∧ rg x8) ∧ ((x7 < x8 → X9_gcd_w66 G k x0 x5 x6 x7 x8 n h) ∧ (¬ x7 < x8 → okA n h x5 100 x7 ∧ (∀ h8 : xH, h8 = hS h x5 (x7.toNat) 0 → S_X9_divideRows G (kl k) x5 x7 x6 x8 (-1) n h8 (fun z9 h10 => X9_gcd_w66 G k x0 x5 x6 z9 x8 n h10))))))) : X9_gcd_w34 G k x0 x5 x6 x7 x8 n h := by
  subst hn0
  refine ww_iload C 8 4 rfl dX9_gcd_34 ?_
  obtain ⟨p1, hy⟩ := hy
  refine ww_if_le C (tg := 93) dX9_gcd_36 (by decide) p1 (fun c2 => ?_) (fun c2 => ?_)
  · have hy := hy.1 c2
    refine ww_aload_n C 0 0 rfl rfl dX9_gcd_93 ?_
    refine ww_aload C 5 1 rfl dX9_gcd_94 ?_
    obtain ⟨p3, hy⟩ := hy
    have hy := hy _ rfl
    refine pf_X9_69R C dX9_gcd_96 p3 ?_
    refine ww_iload C 7 3 rfl dX9_gcd_99 ?_
    exact ww_iret C E dX9_gcd_101 (by decide) (by decide) ⟨_, rfl, rfl, hy⟩
  · have hy := hy.2 c2
    refine ww_iload C 7 3 rfl dX9_gcd_39 ?_
    refine ww_iload C 8 4 rfl dX9_gcd_41 ?_
    obtain ⟨p5, hy⟩ := hy
    refine ww_icmp_lt C (tg := 66) dX9_gcd_43 (by decide) p5.1 p5.2 (fun c6 => ?_) (fun c6 => ?_)
    · have hy := hy.1 c6
      exact ww_sub [0, 1, 2, 3, 4] rfl (by decide) (by decide) hy
    · have hy := hy.2 c6
      refine ww_aload C 5 1 rfl dX9_gcd_46 ?_
      refine ww_iload C 7 3 rfl dX9_gcd_48 ?_
      refine ww_iconst C (z := 0) dX9_gcd_50 rfl ?_
      obtain ⟨p7, hy⟩ := hy
      have hy := hy _ rfl
      refine ww_iast C dX9_gcd_51 p7 ?_
      refine ww_aload C 5 1 rfl dX9_gcd_52 ?_
      refine ww_iload C 7 3 rfl dX9_gcd_54 ?_
      refine ww_aload C 6 2 rfl dX9_gcd_56 ?_
      refine ww_iload C 8 4 rfl dX9_gcd_58 ?_
      refine ww_null C dX9_gcd_60 ?_
      show WW _ _ _ _ _ _ _ (vR G (-1) :: _) _ _
      refine cl_X9_65 C dX9_gcd_61 (Nat.le_of_ble_eq_true rfl) ⟨by decide, by decide⟩ ⟨by decide, by decide⟩ ?_
      refine S_X9_divideRows.mono hy (fun z9 h10 hy => ?_)
      refine ww_istore C 7 (by decide) rfl dX9_gcd_64 ?_
      exact ww_sub [1, 2, 3, 0, 4] rfl (by decide) (by decide) hy
set_option maxRecDepth 100000 in
set_option maxHeartbeats 4000000 in
theorem X9_gcd_b66 {G : xG} {k : xK} {n0 : Nat} {Po : Int → xH → Prop} (C : CC G k cX9_gcd RX9 11 rm_X9_gcd) (E : CQ G k (some .int) rm_X9_gcd (fun r n1 h1 => ∃ z : Int, r = some (.int (iz z)) ∧ n1 = n0 ∧ Po z h1)) (x0 : Nat) (x5 : Nat) (x6 : Nat) (x7 : Int) (x8 : Int) (n : Nat) (h : xH) (hn0 : n = n0) (hy : X9_gcd_w34 G k x0 x6 x5 x8 x7 n h) : X9_gcd_w66 G k x0 x5 x6 x7 x8 n h := by
  subst hn0
  refine ww_aload C 5 1 rfl dX9_gcd_66 ?_
  refine ww_astore C 9 (by decide) rfl dX9_gcd_68 ?_
  refine ww_aload C 6 3 rfl dX9_gcd_70 ?_
  refine ww_astore C 5 (by decide) rfl dX9_gcd_72 ?_
  refine ww_aload C 9 1 rfl dX9_gcd_74 ?_
  refine ww_astore C 6 (by decide) rfl dX9_gcd_76 ?_
  refine ww_iload C 7 4 rfl dX9_gcd_78 ?_
  refine ww_istore C 10 (by decide) rfl dX9_gcd_80 ?_
  refine ww_iload C 8 6 rfl dX9_gcd_82 ?_
  refine ww_istore C 7 (by decide) rfl dX9_gcd_84 ?_
  refine ww_iload C 10 1 rfl dX9_gcd_86 ?_
  refine ww_istore C 8 (by decide) rfl dX9_gcd_88 ?_
  refine ww_goto C (tg := 34) dX9_gcd_90 (by decide) ?_
  exact ww_sub [6, 4, 3, 1, 0] rfl (by decide) (by decide) hy
abbrev X9_reduced_w0 (G : xG) (k : xK) (x0 : Nat) (x1 : Nat) (x2 : Int) (x3 : Int) (x4 : Nat) (n : Nat) (h : xH) : Prop := WW G k 6 0 0 0 [(0, rf G x0), (1, rf G x1), (2, .int (iz x2)), (3, .int (iz x3)), (4, rf G x4)] [] n h
abbrev X9_reduced_w36 (G : xG) (k : xK) (x0 : Nat) (x2 : Int) (x3 : Int) (x4 : Nat) (n : Nat) (h : xH) : Prop := WW G k 6 0 0 36 [(0, rf G x0), (2, .int (iz x2)), (3, .int (iz x3)), (4, rf G x4)] [] n h
theorem S_X9_reduced_of {G : xG} {l : Launch} {x0 : Nat} {x1 : Nat} {x2 : Int} {x3 : Int} {x4 : Nat} {n : Nat} {h : xH} {Po : Int → xH → Prop} (body : ∀ k : xK, kl k = l → CC G k cX9_reduced RX9 6 rm_X9_reduced → CQ G k (some .int) rm_X9_reduced (fun r n1 h1 => ∃ z : Int, r = some (.int (iz z)) ∧ n1 = n ∧ Po z h1) → X9_reduced_w0 G k x0 x1 x2 x3 x4 n h) : S_X9_reduced G l x0 x1 x2 x3 x4 n h Po := xS_of (by decide +kernel) (Nat.le_of_ble_eq_true rfl) rfl (fun k hl hnm C E => body k hl C E)
set_option maxRecDepth 100000 in
set_option maxHeartbeats 4000000 in
theorem X9_reduced_b0 {G : xG} {k : xK} {n0 : Nat} {Po : Int → xH → Prop} (C : CC G k cX9_reduced RX9 6 rm_X9_reduced) (E : CQ G k (some .int) rm_X9_reduced (fun r n1 h1 => ∃ z : Int, r = some (.int (iz z)) ∧ n1 = n0 ∧ Po z h1)) (x0 : Nat) (x1 : Nat) (x2 : Int) (x3 : Int) (x4 : Nat) (n : Nat) (h : xH) (hn0 : n = n0) (hy : okO n h x0 8 ∧ 0 ≤ hG h x0 1 ∧ S_X9_copyRow G (kl k) x1 ((hG h x0 1).toNat) x2 n h (fun h3 => (rg x3 ∧ rg (1 : Int)) ∧ ((¬ x3 = (1 : Int) → X9_reduced_w36 G k x0 x2 x3 x4 n h3) ∧ (x3 = (1 : Int) → okO n h3 x0 8 ∧ 0 ≤ hG h3 x0 22 ∧ okA n h3 ((hG h3 x0 22).toNat) 100 0 ∧ (rg (hG h3 ((hG h3 x0 22).toNat) 0) ∧ rg (1 : Int)) ∧ ((¬ (hG h3 ((hG h3 x0 22).toNat) 0) = (1 : Int) → X9_reduced_w36 G k x0 x2 x3 x4 n h3) ∧ ((hG h3 ((hG h3 x0 22).toNat) 0) = (1 : Int) → okO n h3 x0 8 ∧ 0 ≤ hG h3 x0 1 ∧ S_X9_copyRow G (kl k) ((hG h3 x0 1).toNat) x4 x2 n h3 (fun h13 => Po x2 h13))))))) : X9_reduced_w0 G k x0 x1 x2 x3 x4 n h := by
  subst hn0
  refine ww_aload_n C 1 1 rfl rfl dX9_reduced_0 ?_
  refine ww_aload_n C 0 0 rfl rfl dX9_reduced_1 ?_
  obtain ⟨p1, hy⟩ := hy
  obtain ⟨p2, hy⟩ := hy
  refine gf_X9_72 C dX9_reduced_2 p1 p2 ?_
  refine ww_iload_n C 2 2 rfl rfl dX9_reduced_5 ?_
  refine cl_X9_61 C dX9_reduced_6 (Nat.le_of_ble_eq_true rfl) ⟨by decide, by decide⟩ ⟨by decide, by decide⟩ ?_
  refine S_X9_copyRow.mono hy (fun h3 hy => ?_)
  refine ww_iload_n C 3 3 rfl rfl dX9_reduced_9 ?_
  refine ww_iconst C (z := 1) dX9_reduced_10 rfl ?_
  obtain ⟨p4, hy⟩ := hy
  refine ww_icmp_ne C (tg := 36) dX9_reduced_11 (by decide) p4.1 p4.2 (fun c5 => ?_) (fun c5 => ?_)
  · have hy := hy.1 c5
    exact ww_sub [0, 2, 3, 4] rfl (by decide) (by decide) hy
  · have hy := hy.2 c5
    refine ww_aload_n C 0 0 rfl rfl dX9_reduced_14 ?_
    obtain ⟨p6, hy⟩ := hy
    obtain ⟨p7, hy⟩ := hy
    refine gf_X9_69 C dX9_reduced_15 p6 p7 ?_
    refine ww_iconst C (z := 0) dX9_reduced_18 rfl ?_
    obtain ⟨p8, hy⟩ := hy
    refine ww_iald C dX9_reduced_19 p8 ?_
    refine ww_iconst C (z := 1) dX9_reduced_20 rfl ?_
    obtain ⟨p9, hy⟩ := hy
    refine ww_icmp_ne C (tg := 36) dX9_reduced_21 (by decide) p9.1 p9.2 (fun c10 => ?_) (fun c10 => ?_)
    · have hy := hy.1 c10
      exact ww_sub [0, 2, 3, 4] rfl (by decide) (by decide) hy
    · have hy := hy.2 c10
      refine ww_aload_n C 0 0 rfl rfl dX9_reduced_24 ?_
      obtain ⟨p11, hy⟩ := hy
      obtain ⟨p12, hy⟩ := hy
      refine gf_X9_72 C dX9_reduced_25 p11 p12 ?_
      refine ww_aload C 4 4 rfl dX9_reduced_28 ?_
      refine ww_iload_n C 2 2 rfl rfl dX9_reduced_30 ?_
      refine cl_X9_61 C dX9_reduced_31 (Nat.le_of_ble_eq_true rfl) ⟨by decide, by decide⟩ ⟨by decide, by decide⟩ ?_
      refine S_X9_copyRow.mono hy (fun h13 hy => ?_)
      refine ww_iload_n C 2 2 rfl rfl dX9_reduced_34 ?_
      exact ww_iret C E dX9_reduced_35 (by decide) (by decide) ⟨_, rfl, rfl, hy⟩
set_option maxRecDepth 100000 in
set_option maxHeartbeats 4000000 in
theorem X9_reduced_b36 {G : xG} {k : xK} {n0 : Nat} {Po : Int → xH → Prop} (C : CC G k cX9_reduced RX9 6 rm_X9_reduced) (E : CQ G k (some .int) rm_X9_reduced (fun r n1 h1 => ∃ z : Int, r = some (.int (iz z)) ∧ n1 = n0 ∧ Po z h1)) (x0 : Nat) (x2 : Int) (x3 : Int) (x4 : Nat) (n : Nat) (h : xH) (hn0 : n = n0) (hy : okO n h x0 8 ∧ 0 ≤ hG h x0 1 ∧ S_X9_copyRow G (kl k) ((hG h x0 1).toNat) x4 0 n h (fun h3 => okO n h3 x0 8 ∧ 0 ≤ hG h3 x0 1 ∧ okO n h3 x0 8 ∧ 0 ≤ hG h3 x0 22 ∧ S_X9_divideRows G (kl k) ((hG h3 x0 1).toNat) x2 ((hG h3 x0 22).toNat) x3 ((x4 : Nat) : Int) n h3 (fun z8 h9 => S_X9_used G (kl k) x4 ((x2 - x3) + 1) n h9 (fun z10 h11 => Po z10 h11)))) : X9_reduced_w36 G k x0 x2 x3 x4 n h := by
  subst hn0
  refine ww_aload_n C 0 0 rfl rfl dX9_reduced_36 ?_
  obtain ⟨p1, hy⟩ := hy
  obtain ⟨p2, hy⟩ := hy
  refine gf_X9_72 C dX9_reduced_37 p1 p2 ?_
  refine ww_aload C 4 3 rfl dX9_reduced_40 ?_
  refine ww_iconst C (z := 0) dX9_reduced_42 rfl ?_
  refine cl_X9_61 C dX9_reduced_43 (Nat.le_of_ble_eq_true rfl) ⟨by decide, by decide⟩ ⟨by decide, by decide⟩ ?_
  refine S_X9_copyRow.mono hy (fun h3 hy => ?_)
  refine ww_aload_n C 0 0 rfl rfl dX9_reduced_46 ?_
  obtain ⟨p4, hy⟩ := hy
  obtain ⟨p5, hy⟩ := hy
  refine gf_X9_72 C dX9_reduced_47 p4 p5 ?_
  refine ww_iload_n C 2 1 rfl rfl dX9_reduced_50 ?_
  refine ww_aload_n C 0 0 rfl rfl dX9_reduced_51 ?_
  obtain ⟨p6, hy⟩ := hy
  obtain ⟨p7, hy⟩ := hy
  refine gf_X9_69 C dX9_reduced_52 p6 p7 ?_
  refine ww_iload_n C 3 2 rfl rfl dX9_reduced_55 ?_
  refine ww_aload C 4 3 rfl dX9_reduced_56 ?_
  refine ww_rv ?_
  refine cl_X9_65 C dX9_reduced_58 (Nat.le_of_ble_eq_true rfl) ⟨by decide, by decide⟩ ⟨by decide, by decide⟩ ?_
  refine S_X9_divideRows.mono hy (fun z8 h9 hy => ?_)
  refine ww_istore C 5 (by decide) rfl dX9_reduced_61 ?_
  refine ww_aload C 4 4 rfl dX9_reduced_63 ?_
  refine ww_iload_n C 2 2 rfl rfl dX9_reduced_65 ?_
  refine ww_iload_n C 3 3 rfl rfl dX9_reduced_66 ?_
  refine ww_isub C dX9_reduced_67 ?_
  refine ww_iconst C (z := 1) dX9_reduced_68 rfl ?_
  refine ww_iadd C dX9_reduced_69 ?_
  refine cl_X9_15 C dX9_reduced_70 (Nat.le_of_ble_eq_true rfl) ⟨by decide, by decide⟩ ⟨by decide, by decide⟩ ?_
  refine S_X9_used.mono hy (fun z10 h11 hy => ?_)
  exact ww_iret C E dX9_reduced_73 (by decide) (by decide) ⟨_, rfl, rfl, hy⟩
abbrev X9_bitsOf_w0 (G : xG) (k : xK) (x0 : Nat) (x1 : Nat) (x2 : Int) (n : Nat) (h : xH) : Prop := WW G k 6 0 0 0 [(0, rf G x0), (1, rf G x1), (2, .int (iz x2))] [] n h
abbrev X9_bitsOf_w14 (G : xG) (k : xK) (x0 : Nat) (x3 : Int) (x4 : Int) (n : Nat) (h : xH) : Prop := WW G k 6 0 0 14 [(0, rf G x0), (3, .int (iz x3)), (4, .int (iz x4))] [] n h
abbrev X9_bitsOf_w36 (G : xG) (k : xK) (x0 : Nat) (x3 : Int) (x4 : Int) (n : Nat) (h : xH) : Prop := WW G k 6 0 0 36 [(0, rf G x0), (3, .int (iz x3)), (4, .int (iz x4))] [] n h
abbrev X9_bitsOf_w64 (G : xG) (k : xK) (x0 : Nat) (x3 : Int) (x4 : Int) (n : Nat) (h : xH) : Prop := WW G k 6 0 0 64 [(0, rf G x0), (3, .int (iz x3)), (4, .int (iz x4))] [] n h
abbrev X9_bitsOf_w78 (G : xG) (k : xK) (x4 : Int) (s0 : Int) (n : Nat) (h : xH) : Prop := WW G k 6 0 0 78 [(4, .int (iz x4))] [.int (iz s0)] n h
abbrev X9_bitsOf_w80 (G : xG) (k : xK) (x4 : Int) (x5 : Int) (n : Nat) (h : xH) : Prop := WW G k 6 0 0 80 [(4, .int (iz x4)), (5, .int (iz x5))] [] n h
theorem S_X9_bitsOf_of {G : xG} {l : Launch} {x0 : Nat} {x1 : Nat} {x2 : Int} {n : Nat} {h : xH} {Po : Int → xH → Prop} (body : ∀ k : xK, kl k = l → CC G k cX9_bitsOf RX9 6 rm_X9_bitsOf → CQ G k (some .int) rm_X9_bitsOf (fun r n1 h1 => ∃ z : Int, r = some (.int (iz z)) ∧ n1 = n ∧ Po z h1) → X9_bitsOf_w0 G k x0 x1 x2 n h) : S_X9_bitsOf G l x0 x1 x2 n h Po := xS_of (by decide +kernel) (Nat.le_of_ble_eq_true rfl) rfl (fun k hl hnm C E => body k hl C E)
set_option maxRecDepth 100000 in
set_option maxHeartbeats 4000000 in
theorem X9_bitsOf_b0 {G : xG} {k : xK} {n0 : Nat} {Po : Int → xH → Prop} (C : CC G k cX9_bitsOf RX9 6 rm_X9_bitsOf) (E : CQ G k (some .int) rm_X9_bitsOf (fun r n1 h1 => ∃ z : Int, r = some (.int (iz z)) ∧ n1 = n0 ∧ Po z h1)) (x0 : Nat) (x1 : Nat) (x2 : Int) (n : Nat) (h : xH) (hn0 : n = n0) (hy : okO n h x0 8 ∧ 0 ≤ hG h x0 1 ∧ S_X9_copyRow G (kl k) x1 ((hG h x0 1).toNat) x2 n h (fun h3 => X9_bitsOf_w14 G k x0 x2 0 n h3)) : X9_bitsOf_w0 G k x0 x1 x2 n h := by
  subst hn0
  refine ww_iload_n C 2 2 rfl rfl dX9_bitsOf_0 ?_
  refine ww_istore_n C 3 rfl (by decide) rfl dX9_bitsOf_1 ?_
  refine ww_iconst C (z := 0) dX9_bitsOf_2 rfl ?_
  refine ww_istore C 4 (by decide) rfl dX9_bitsOf_3 ?_
  refine ww_aload_n C 1 3 rfl rfl dX9_bitsOf_5 ?_
  refine ww_aload_n C 0 2 rfl rfl dX9_bitsOf_6 ?_
  obtain ⟨p1, hy⟩ := hy
  obtain ⟨p2, hy⟩ := hy
  refine gf_X9_72 C dX9_bitsOf_7 p1 p2 ?_
  refine ww_iload_n C 3 1 rfl rfl dX9_bitsOf_10 ?_
  refine cl_X9_61 C dX9_bitsOf_11 (Nat.le_of_ble_eq_true rfl) ⟨by decide, by decide⟩ ⟨by decide, by decide⟩ ?_
  refine S_X9_copyRow.mono hy (fun h3 hy => ?_)
  exact ww_sub [2, 1, 0] rfl (by decide) (by decide) hy
set_option maxRecDepth 100000 in
set_option maxHeartbeats 4000000 in
theorem X9_bitsOf_b14 {G : xG} {k : xK} {n0 : Nat} {Po : Int → xH → Prop} (C : CC G k cX9_bitsOf RX9 6 rm_X9_bitsOf) (E : CQ G k (some .int) rm_X9_bitsOf (fun r n1 h1 => ∃ z : Int, r = some (.int (iz z)) ∧ n1 = n0 ∧ Po z h1)) (x0 : Nat) (x3 : Int) (x4 : Int) (n : Nat) (h : xH) (hn0 : n = n0) (hy : (rg x3 ∧ rg (1 : Int)) ∧ (((1 : Int) < x3 → X9_bitsOf_w36 G k x0 x3 x4 n h) ∧ (¬ (1 : Int) < x3 → (rg x3 ∧ rg (1 : Int)) ∧ ((¬ x3 = (1 : Int) → X9_bitsOf_w64 G k x0 x3 x4 n h) ∧ (x3 = (1 : Int) → okO n h x0 8 ∧ 0 ≤ hG h x0 1 ∧ okA n h ((hG h x0 1).toNat) 100 0 ∧ (rg (hG h ((hG h x0 1).toNat) 0) ∧ rg (8192 : Int)) ∧ (((hG h ((hG h x0 1).toNat) 0) < (8192 : Int) → X9_bitsOf_w64 G k x0 x3 x4 n h) ∧ (¬ (hG h ((hG h x0 1).toNat) 0) < (8192 : Int) → X9_bitsOf_w36 G k x0 x3 x4 n h))))))) : X9_bitsOf_w14 G k x0 x3 x4 n h := by
  subst hn0
  refine ww_iload_n C 3 1 rfl rfl dX9_bitsOf_14 ?_
  refine ww_iconst C (z := 1) dX9_bitsOf_15 rfl ?_
  obtain ⟨p1, hy⟩ := hy
  refine ww_icmp_gt C (tg := 36) dX9_bitsOf_16 (by decide) p1.1 p1.2 (fun c2 => ?_) (fun c2 => ?_)
  · have hy := hy.1 c2
    exact ww_sub [0, 1, 2] rfl (by decide) (by decide) hy
  · have hy := hy.2 c2
    refine ww_iload_n C 3 1 rfl rfl dX9_bitsOf_19 ?_
    refine ww_iconst C (z := 1) dX9_bitsOf_20 rfl ?_
    obtain ⟨p3, hy⟩ := hy
    refine ww_icmp_ne C (tg := 64) dX9_bitsOf_21 (by decide) p3.1 p3.2 (fun c4 => ?_) (fun c4 => ?_)
    · have hy := hy.1 c4
      exact ww_sub [0, 1, 2] rfl (by decide) (by decide) hy
    · have hy := hy.2 c4
      refine ww_aload_n C 0 0 rfl rfl dX9_bitsOf_24 ?_
      obtain ⟨p5, hy⟩ := hy
      obtain ⟨p6, hy⟩ := hy
      refine gf_X9_72 C dX9_bitsOf_25 p5 p6 ?_
      refine ww_iconst C (z := 0) dX9_bitsOf_28 rfl ?_
      obtain ⟨p7, hy⟩ := hy
      refine ww_iald C dX9_bitsOf_29 p7 ?_
      refine ww_sipush C (z := 8192) dX9_bitsOf_30 rfl ?_
      obtain ⟨p8, hy⟩ := hy
      refine ww_icmp_lt C (tg := 64) dX9_bitsOf_33 (by decide) p8.1 p8.2 (fun c9 => ?_) (fun c9 => ?_)
      · have hy := hy.1 c9
        exact ww_sub [0, 1, 2] rfl (by decide) (by decide) hy
      · have hy := hy.2 c9
        exact ww_sub [0, 1, 2] rfl (by decide) (by decide) hy
set_option maxRecDepth 100000 in
set_option maxHeartbeats 4000000 in
theorem X9_bitsOf_b36 {G : xG} {k : xK} {n0 : Nat} {Po : Int → xH → Prop} (C : CC G k cX9_bitsOf RX9 6 rm_X9_bitsOf) (E : CQ G k (some .int) rm_X9_bitsOf (fun r n1 h1 => ∃ z : Int, r = some (.int (iz z)) ∧ n1 = n0 ∧ Po z h1)) (x0 : Nat) (x3 : Int) (x4 : Int) (n : Nat) (h : xH) (hn0 : n = n0) (hy : okO n h x0 8 ∧ 0 ≤ hG h x0 1 ∧ S_X9_cutBy G (kl k) ((hG h x0 1).toNat) x3 8192 n h (fun z3 h4 => okO n h4 x0 8 ∧ 0 ≤ hG h4 x0 1 ∧ S_X9_used G (kl k) ((hG h4 x0 1).toNat) x3 n h4 (fun z7 h8 => X9_bitsOf_w14 G k x0 z7 (x4 + 13) n h8))) : X9_bitsOf_w36 G k x0 x3 x4 n h := by
  subst hn0
  refine ww_aload_n C 0 0 rfl rfl dX9_bitsOf_36 ?_
  obtain ⟨p1, hy⟩ := hy
  obtain ⟨p2, hy⟩ := hy
  refine gf_X9_72 C dX9_bitsOf_37 p1 p2 ?_
  refine ww_iload_n C 3 1 rfl rfl dX9_bitsOf_40 ?_
  refine ww_sipush C (z := 8192) dX9_bitsOf_41 rfl ?_
  refine cl_X9_75 C dX9_bitsOf_44 (Nat.le_of_ble_eq_true rfl) ⟨by decide, by decide⟩ ⟨by decide, by decide⟩ ?_
  refine S_X9_cutBy.mono hy (fun z3 h4 hy => ?_)
  refine ww_istore C 5 (by decide) rfl dX9_bitsOf_47 ?_
  refine ww_aload_n C 0 1 rfl rfl dX9_bitsOf_49 ?_
  obtain ⟨p5, hy⟩ := hy
  obtain ⟨p6, hy⟩ := hy
  refine gf_X9_72 C dX9_bitsOf_50 p5 p6 ?_
  refine ww_iload_n C 3 2 rfl rfl dX9_bitsOf_53 ?_
  refine cl_X9_15 C dX9_bitsOf_54 (Nat.le_of_ble_eq_true rfl) ⟨by decide, by decide⟩ ⟨by decide, by decide⟩ ?_
  refine S_X9_used.mono hy (fun z7 h8 hy => ?_)
  refine ww_istore_n C 3 rfl (by decide) rfl dX9_bitsOf_57 ?_
  refine ww_iinc C 4 3 rfl (by decide) rfl dX9_bitsOf_58 ?_
  refine ww_goto C (tg := 14) dX9_bitsOf_61 (by decide) ?_
  exact ww_sub [3, 1, 0] rfl (by decide) (by decide) hy
set_option maxRecDepth 100000 in
set_option maxHeartbeats 4000000 in
theorem X9_bitsOf_b64 {G : xG} {k : xK} {n0 : Nat} {Po : Int → xH → Prop} (C : CC G k cX9_bitsOf RX9 6 rm_X9_bitsOf) (E : CQ G k (some .int) rm_X9_bitsOf (fun r n1 h1 => ∃ z : Int, r = some (.int (iz z)) ∧ n1 = n0 ∧ Po z h1)) (x0 : Nat) (x3 : Int) (x4 : Int) (n : Nat) (h : xH) (hn0 : n = n0) (hy : rg x3 ∧ ((¬ x3 = 0 → okO n h x0 8 ∧ 0 ≤ hG h x0 1 ∧ okA n h ((hG h x0 1).toNat) 100 0 ∧ X9_bitsOf_w78 G k x4 (hG h ((hG h x0 1).toNat) 0) n h) ∧ (x3 = 0 → X9_bitsOf_w78 G k x4 0 n h))) : X9_bitsOf_w64 G k x0 x3 x4 n h := by
  subst hn0
  refine ww_iload_n C 3 1 rfl rfl dX9_bitsOf_64 ?_
  obtain ⟨p1, hy⟩ := hy
  refine ww_if_ne C (tg := 72) dX9_bitsOf_65 (by decide) p1 (fun c2 => ?_) (fun c2 => ?_)
  · have hy := hy.1 c2
    refine ww_aload_n C 0 0 rfl rfl dX9_bitsOf_72 ?_
    obtain ⟨p3, hy⟩ := hy
    obtain ⟨p4, hy⟩ := hy
    refine gf_X9_72 C dX9_bitsOf_73 p3 p4 ?_
    refine ww_iconst C (z := 0) dX9_bitsOf_76 rfl ?_
    obtain ⟨p5, hy⟩ := hy
    refine ww_iald C dX9_bitsOf_77 p5 ?_
    exact ww_sub [2] rfl (by decide) (by decide) hy
  · have hy := hy.2 c2
    refine ww_iconst C (z := 0) dX9_bitsOf_68 rfl ?_
    refine ww_goto C (tg := 78) dX9_bitsOf_69 (by decide) ?_
    exact ww_sub [2] rfl (by decide) (by decide) hy
set_option maxRecDepth 100000 in
set_option maxHeartbeats 4000000 in
theorem X9_bitsOf_b78 {G : xG} {k : xK} {n0 : Nat} {Po : Int → xH → Prop} (C : CC G k cX9_bitsOf RX9 6 rm_X9_bitsOf) (E : CQ G k (some .int) rm_X9_bitsOf (fun r n1 h1 => ∃ z : Int, r = some (.int (iz z)) ∧ n1 = n0 ∧ Po z h1)) (x4 : Int) (s0 : Int) (n : Nat) (h : xH) (hn0 : n = n0) (hy : X9_bitsOf_w80 G k x4 s0 n h) : X9_bitsOf_w78 G k x4 s0 n h := by
  subst hn0
  refine ww_istore C 5 (by decide) rfl dX9_bitsOf_78 ?_
  exact ww_sub [1, 0] rfl (by decide) (by decide) hy
set_option maxRecDepth 100000 in
set_option maxHeartbeats 4000000 in
theorem X9_bitsOf_b80 {G : xG} {k : xK} {n0 : Nat} {Po : Int → xH → Prop} (C : CC G k cX9_bitsOf RX9 6 rm_X9_bitsOf) (E : CQ G k (some .int) rm_X9_bitsOf (fun r n1 h1 => ∃ z : Int, r = some (.int (iz z)) ∧ n1 = n0 ∧ Po z h1)) (x4 : Int) (x5 : Int) (n : Nat) (h : xH) (hn0 : n = n0) (hy : rg x5 ∧ ((x5 ≤ 0 → Po x4 h) ∧ (¬ x5 ≤ 0 → (rg x5 ∧ rg (2 : Int) ∧ (2 : Int) ≠ 0) ∧ X9_bitsOf_w80 G k (x4 + 1) (x5.tdiv 2) n h))) : X9_bitsOf_w80 G k x4 x5 n h := by
  subst hn0
  refine ww_iload C 5 1 rfl dX9_bitsOf_80 ?_
  obtain ⟨p1, hy⟩ := hy
  refine ww_if_le C (tg := 97) dX9_bitsOf_82 (by decide) p1 (fun c2 => ?_) (fun c2 => ?_)
  · have hy := hy.1 c2
    refine ww_iload C 4 0 rfl dX9_bitsOf_97 ?_
    exact ww_iret C E dX9_bitsOf_99 (by decide) (by decide) ⟨_, rfl, rfl, hy⟩
  · have hy := hy.2 c2
    refine ww_iinc C 4 0 rfl (by decide) rfl dX9_bitsOf_85 ?_
    refine ww_iload C 5 1 rfl dX9_bitsOf_88 ?_
    refine ww_iconst C (z := 2) dX9_bitsOf_90 rfl ?_
    obtain ⟨p3, hy⟩ := hy
    refine ww_idiv C dX9_bitsOf_91 p3.1 p3.2.1 p3.2.2 ?_
    refine ww_istore C 5 (by decide) rfl dX9_bitsOf_92 ?_
    refine ww_goto C (tg := 80) dX9_bitsOf_94 (by decide) ?_
    exact ww_sub [1, 0] rfl (by decide) (by decide) hy
