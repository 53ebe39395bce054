abbrev X4_init_w0 (G : xG) (k : xK) (x0 : Nat) (n : Nat) (h : xH) : Prop := WW G k 1 0 0 0 [(0, rf G x0)] [] n h
theorem S_X4_init_of {G : xG} {l : Launch} {x0 : Nat} {n : Nat} {h : xH} {Po : Nat → xH → Prop} (body : ∀ k : xK, kl k = l → (kt k).name = "<init>" → CC G k cX4_init RX4 1 rm_X4_init → CQ G k none rm_X4_init (fun r n1 h1 => r = none ∧ Po n1 h1) → X4_init_w0 G k x0 n h) : S_X4_init G l x0 n h Po := xS_of (by decide +kernel) (Nat.le_of_ble_eq_true rfl) rfl (fun k hl hnm C E => body k hl hnm C E)
set_option maxRecDepth 100000 in
set_option maxHeartbeats 4000000 in
theorem X4_init_b0 {G : xG} {k : xK} {n0 : Nat} {Po : Nat → xH → Prop} (C : CC G k cX4_init RX4 1 rm_X4_init) (E : CQ G k none rm_X4_init (fun r n1 h1 => r = none ∧ Po n1 h1)) (hin : (kt k).name = "<init>") (x0 : Nat) (n : Nat) (h : xH) (hy : (∀ h1 : xH, h1 = hN h n (2, 0, xZ 2) → S_X2_init G (kl k) n (n + 1) h1 (fun n3 h2 => okO n3 h2 x0 4 ∧ (∀ h5 : xH, h5 = hS h2 x0 0 ((n : Nat) : Int) → okO n3 h5 x0 4 ∧ 0 ≤ hG h5 x0 0 ∧ okO n3 h5 ((hG h5 x0 0).toNat) 2 ∧ S_X2_line G (kl k) ((hG h5 x0 0).toNat) n3 h5 (fun z9 h10 => okO n3 h10 x0 4 ∧ (∀ h12 : xH, h12 = hS h10 x0 1 ((z9 : Nat) : Int) → (∀ h13 : xH, h13 = hN h12 n3 (0, 0, xZ 0) → S_X0_init G (kl k) n3 (n3 + 1) h13 (fun n15 h14 => okO n15 h14 x0 4 ∧ (∀ h17 : xH, h17 = hS h14 x0 2 ((n3 : Nat) : Int) → okO n15 h17 x0 4 ∧ (∀ h19 : xH, h19 = hS h17 x0 3 0 → okO n15 h19 x0 4 ∧ ((0 : Int) = 0 ∨ (0 : Int) = 1) ∧ (∀ h22 : xH, h22 = hS h19 x0 4 0 → okO n15 h22 x0 4 ∧ (∀ h24 : xH, h24 = hS h22 x0 5 0 → okO n15 h24 x0 4 ∧ (∀ h26 : xH, h26 = hS h24 x0 6 0 → (∀ h27 : xH, h27 = hN h26 n15 (1, 0, xZ 1) → S_X1_init G (kl k) n15 (n15 + 1) h27 (fun n29 h28 => okO n29 h28 x0 4 ∧ (∀ h31 : xH, h31 = hS h28 x0 7 ((n15 : Nat) : Int) → (∀ h32 : xH, h32 = hN h31 n29 (1, 0, xZ 1) → S_X1_init G (kl k) n29 (n29 + 1) h32 (fun n34 h33 => okO n34 h33 x0 4 ∧ (∀ h36 : xH, h36 = hS h33 x0 8 ((n29 : Nat) : Int) → (∀ h37 : xH, h37 = hN h36 n34 (1, 0, xZ 1) → S_X1_init G (kl k) n34 (n34 + 1) h37 (fun n39 h38 => okO n39 h38 x0 4 ∧ (∀ h41 : xH, h41 = hS h38 x0 9 ((n34 : Nat) : Int) → (∀ h42 : xH, h42 = hN h41 n39 (1, 0, xZ 1) → S_X1_init G (kl k) n39 (n39 + 1) h42 (fun n44 h43 => okO n44 h43 x0 4 ∧ (∀ h46 : xH, h46 = hS h43 x0 10 ((n39 : Nat) : Int) → (∀ h47 : xH, h47 = hN h46 n44 (3, 0, xZ 3) → S_X3_init G (kl k) n44 (n44 + 1) h47 (fun n49 h48 => okO n49 h48 x0 4 ∧ (∀ h51 : xH, h51 = hS h48 x0 11 ((n44 : Nat) : Int) → Po n49 h51)))))))))))))))))))))))))))) : X4_init_w0 G k x0 n h := by
  refine ww_aload_n C 0 0 rfl rfl dX4_init_0 ?_
  refine ww_objInit C q_287 q_52 q_53 dX4_init_1 (by decide) (by decide) ?_
  refine ww_aload_n C 0 0 rfl rfl dX4_init_4 ?_
  refine nw_X4_7 C dX4_init_5 (by decide) (by decide) ?_
  have hy := hy _ rfl
  refine ww_dup C rfl dX4_init_8 ?_
  refine cl_X4_9 C dX4_init_9 (Nat.le_of_ble_eq_true rfl) ⟨by decide, by decide⟩ ⟨by decide, by decide⟩ ?_
  refine S_X2_init.mono hy (fun n3 h2 hy => ?_)
  obtain ⟨p4, hy⟩ := hy
  have hy := hy _ rfl
  refine pf_X4_10R C hin dX4_init_12 p4 ?_
  refine ww_aload_n C 0 0 rfl rfl dX4_init_15 ?_
  refine ww_aload_n C 0 0 rfl rfl dX4_init_16 ?_
  obtain ⟨p6, hy⟩ := hy
  obtain ⟨p7, hy⟩ := hy
  refine gf_X4_10 C dX4_init_17 p6 p7 ?_
  obtain ⟨p8, hy⟩ := hy
  refine cl_X4_16 C dX4_init_20 (Nat.le_of_ble_eq_true rfl) ⟨by decide, by decide⟩ ⟨by decide, by decide⟩ p8 ?_
  refine S_X2_line.mono hy (fun z9 h10 hy => ?_)
  obtain ⟨p11, hy⟩ := hy
  have hy := hy _ rfl
  refine pf_X4_20R C hin dX4_init_23 p11 ?_
  refine ww_aload_n C 0 0 rfl rfl dX4_init_26 ?_
  refine nw_X4_24 C dX4_init_27 (by decide) (by decide) ?_
  have hy := hy _ rfl
  refine ww_dup C rfl dX4_init_30 ?_
  refine cl_X4_26 C dX4_init_31 (Nat.le_of_ble_eq_true rfl) ⟨by decide, by decide⟩ ⟨by decide, by decide⟩ ?_
  refine S_X0_init.mono hy (fun n15 h14 hy => ?_)
  obtain ⟨p16, hy⟩ := hy
  have hy := hy _ rfl
  refine pf_X4_27R C hin dX4_init_34 p16 ?_
  refine ww_aload_n C 0 0 rfl rfl dX4_init_37 ?_
  refine ww_iconst C (z := 0) dX4_init_38 rfl ?_
  obtain ⟨p18, hy⟩ := hy
  have hy := hy _ rfl
  refine pf_X4_30I C dX4_init_39 p18 ?_
  refine ww_aload_n C 0 0 rfl rfl dX4_init_42 ?_
  refine ww_iconst C (z := 0) dX4_init_43 rfl ?_
  obtain ⟨p20, hy⟩ := hy
  obtain ⟨p21, hy⟩ := hy
  have hy := hy _ rfl
  refine pf_X4_34I C dX4_init_44 p20 p21 ?_
  refine ww_aload_n C 0 0 rfl rfl dX4_init_47 ?_
  refine ww_lconst C (z := 0) dX4_init_48 rfl ?_
  obtain ⟨p23, hy⟩ := hy
  have hy := hy _ rfl
  refine pf_X4_38J C dX4_init_49 p23 ?_
  refine ww_aload_n C 0 0 rfl rfl dX4_init_52 ?_
  refine ww_iconst C (z := 0) dX4_init_53 rfl ?_
  obtain ⟨p25, hy⟩ := hy
  have hy := hy _ rfl
  refine pf_X4_42I C dX4_init_54 p25 ?_
  refine ww_aload_n C 0 0 rfl rfl dX4_init_57 ?_
  refine nw_X4_45 C dX4_init_58 (by decide) (by decide) ?_
  have hy := hy _ rfl
  refine ww_dup C rfl dX4_init_61 ?_
  refine cl_X4_47 C dX4_init_62 (Nat.le_of_ble_eq_true rfl) ⟨by decide, by decide⟩ ⟨by decide, by decide⟩ ?_
  refine S_X1_init.mono hy (fun n29 h28 hy => ?_)
  obtain ⟨p30, hy⟩ := hy
  have hy := hy _ rfl
  refine pf_X4_48R C hin dX4_init_65 p30 ?_
  refine ww_aload_n C 0 0 rfl rfl dX4_init_68 ?_
  refine nw_X4_45 C dX4_init_69 (by decide) (by decide) ?_
  have hy := hy _ rfl
  refine ww_dup C rfl dX4_init_72 ?_
  refine cl_X4_47 C dX4_init_73 (Nat.le_of_ble_eq_true rfl) ⟨by decide, by decide⟩ ⟨by decide, by decide⟩ ?_
  refine S_X1_init.mono hy (fun n34 h33 hy => ?_)
  obtain ⟨p35, hy⟩ := hy
  have hy := hy _ rfl
  refine pf_X4_52R C hin dX4_init_76 p35 ?_
  refine ww_aload_n C 0 0 rfl rfl dX4_init_79 ?_
  refine nw_X4_45 C dX4_init_80 (by decide) (by decide) ?_
  have hy := hy _ rfl
  refine ww_dup C rfl dX4_init_83 ?_
  refine cl_X4_47 C dX4_init_84 (Nat.le_of_ble_eq_true rfl) ⟨by decide, by decide⟩ ⟨by decide, by decide⟩ ?_
  refine S_X1_init.mono hy (fun n39 h38 hy => ?_)
  obtain ⟨p40, hy⟩ := hy
  have hy := hy _ rfl
  refine pf_X4_55R C hin dX4_init_87 p40 ?_
  refine ww_aload_n C 0 0 rfl rfl dX4_init_90 ?_
  refine nw_X4_45 C dX4_init_91 (by decide) (by decide) ?_
  have hy := hy _ rfl
  refine ww_dup C rfl dX4_init_94 ?_
  refine cl_X4_47 C dX4_init_95 (Nat.le_of_ble_eq_true rfl) ⟨by decide, by decide⟩ ⟨by decide, by decide⟩ ?_
  refine S_X1_init.mono hy (fun n44 h43 hy => ?_)
  obtain ⟨p45, hy⟩ := hy
  have hy := hy _ rfl
  refine pf_X4_58R C hin dX4_init_98 p45 ?_
  refine ww_aload_n C 0 0 rfl rfl dX4_init_101 ?_
  refine nw_X4_61 C dX4_init_102 (by decide) (by decide) ?_
  have hy := hy _ rfl
  refine ww_dup C rfl dX4_init_105 ?_
  refine cl_X4_63 C dX4_init_106 (Nat.le_of_ble_eq_true rfl) ⟨by decide, by decide⟩ ⟨by decide, by decide⟩ ?_
  refine S_X3_init.mono hy (fun n49 h48 hy => ?_)
  obtain ⟨p50, hy⟩ := hy
  have hy := hy _ rfl
  refine pf_X4_64R C hin dX4_init_109 p50 ?_
  exact ww_vret C E dX4_init_112 (by decide) (by decide) ⟨rfl, hy⟩
abbrev X4_type_w0 (G : xG) (k : xK) (x0 : Nat) (x1 : Int) (n : Nat) (h : xH) : Prop := WW G k 2 0 0 0 [(0, rf G x0), (1, .int (iz x1))] [] n h
abbrev X4_type_w23 (G : xG) (k : xK)  (n : Nat) (h : xH) : Prop := WW G k 2 0 0 23 [] [] n h
theorem S_X4_type_of {G : xG} {l : Launch} {x0 : Nat} {x1 : Int} {n : Nat} {h : xH} {Po : Int → xH → Prop} (body : ∀ k : xK, kl k = l → CC G k cX4_type RX4 2 rm_X4_type → CQ G k (some .int) rm_X4_type (fun r n1 h1 => ∃ z : Int, r = some (.int (iz z)) ∧ n1 = n ∧ Po z h1) → X4_type_w0 G k x0 x1 n h) : S_X4_type G l x0 x1 n h Po := xS_of (by decide +kernel) (Nat.le_of_ble_eq_true rfl) rfl (fun k hl hnm C E => body k hl C E)
set_option maxRecDepth 100000 in
set_option maxHeartbeats 4000000 in
theorem X4_type_b0 {G : xG} {k : xK} {n0 : Nat} {Po : Int → xH → Prop} (C : CC G k cX4_type RX4 2 rm_X4_type) (E : CQ G k (some .int) rm_X4_type (fun r n1 h1 => ∃ z : Int, r = some (.int (iz z)) ∧ n1 = n0 ∧ Po z h1)) (x0 : Nat) (x1 : Int) (n : Nat) (h : xH) (hn0 : n = n0) (hy : rg x1 ∧ ((x1 < 0 → X4_type_w23 G k  n h) ∧ (¬ x1 < 0 → (rg x1 ∧ rg (127 : Int)) ∧ (((127 : Int) < x1 → X4_type_w23 G k  n h) ∧ (¬ (127 : Int) < x1 → okO n h x0 4 ∧ 0 ≤ hG h x0 1 ∧ okO n h ((hG h x0 1).toNat) 0 ∧ S_X0_size G (kl k) ((hG h x0 1).toNat) n h (fun z8 h9 => (rg z8 ∧ rg (400 : Int)) ∧ ((z8 < (400 : Int) → okO n h9 x0 4 ∧ 0 ≤ hG h9 x0 1 ∧ okO n h9 ((hG h9 x0 1).toNat) 0 ∧ S_X0_append G (kl k) ((hG h9 x0 1).toNat) x1 n h9 (fun h15 => okO n h15 x0 4 ∧ 0 ≤ hG h15 x0 1 ∧ okO n h15 ((hG h15 x0 1).toNat) 0 ∧ S_X0_size G (kl k) ((hG h15 x0 1).toNat) n h15 (fun z19 h20 => Po z19 h20))) ∧ (¬ z8 < (400 : Int) → X4_type_w23 G k  n h9)))))))) : X4_type_w0 G k x0 x1 n h := by
  subst hn0
  refine ww_iload_n C 1 1 rfl rfl dX4_type_0 ?_
  obtain ⟨p1, hy⟩ := hy
  refine ww_if_lt C (tg := 23) dX4_type_1 (by decide) p1 (fun c2 => ?_) (fun c2 => ?_)
  · have hy := hy.1 c2
    exact ww_sub [] rfl (by decide) (by decide) hy
  · have hy := hy.2 c2
    refine ww_iload_n C 1 1 rfl rfl dX4_type_4 ?_
    refine ww_bipush C (z := 127) dX4_type_5 rfl ?_
    obtain ⟨p3, hy⟩ := hy
    refine ww_icmp_gt C (tg := 23) dX4_type_7 (by decide) p3.1 p3.2 (fun c4 => ?_) (fun c4 => ?_)
    · have hy := hy.1 c4
      exact ww_sub [] rfl (by decide) (by decide) hy
    · have hy := hy.2 c4
      refine ww_aload_n C 0 0 rfl rfl dX4_type_10 ?_
      obtain ⟨p5, hy⟩ := hy
      obtain ⟨p6, hy⟩ := hy
      refine gf_X4_20 C dX4_type_11 p5 p6 ?_
      obtain ⟨p7, hy⟩ := hy
      refine cl_X4_68 C dX4_type_14 (Nat.le_of_ble_eq_true rfl) ⟨by decide, by decide⟩ ⟨by decide, by decide⟩ p7 ?_
      refine S_X0_size.mono hy (fun z8 h9 hy => ?_)
      refine ww_sipush C (z := 400) dX4_type_17 rfl ?_
      obtain ⟨p10, hy⟩ := hy
      refine ww_icmp_lt C (tg := 25) dX4_type_20 (by decide) p10.1 p10.2 (fun c11 => ?_) (fun c11 => ?_)
      · have hy := hy.1 c11
        refine ww_aload_n C 0 0 rfl rfl dX4_type_25 ?_
        obtain ⟨p12, hy⟩ := hy
        obtain ⟨p13, hy⟩ := hy
        refine gf_X4_20 C dX4_type_26 p12 p13 ?_
        refine ww_iload_n C 1 1 rfl rfl dX4_type_29 ?_
        obtain ⟨p14, hy⟩ := hy
        refine cl_X4_72 C dX4_type_30 (Nat.le_of_ble_eq_true rfl) ⟨by decide, by decide⟩ ⟨by decide, by decide⟩ p14 ?_
        refine S_X0_append.mono hy (fun h15 hy => ?_)
        refine ww_aload_n C 0 0 rfl rfl dX4_type_33 ?_
        obtain ⟨p16, hy⟩ := hy
        obtain ⟨p17, hy⟩ := hy
        refine gf_X4_20 C dX4_type_34 p16 p17 ?_
        obtain ⟨p18, hy⟩ := hy
        refine cl_X4_68 C dX4_type_37 (Nat.le_of_ble_eq_true rfl) ⟨by decide, by decide⟩ ⟨by decide, by decide⟩ p18 ?_
        refine S_X0_size.mono hy (fun z19 h20 hy => ?_)
        exact ww_iret C E dX4_type_40 (by decide) (by decide) ⟨_, rfl, rfl, hy⟩
      · have hy := hy.2 c11
        exact ww_sub [] rfl (by decide) (by decide) hy
set_option maxRecDepth 100000 in
set_option maxHeartbeats 4000000 in
theorem X4_type_b23 {G : xG} {k : xK} {n0 : Nat} {Po : Int → xH → Prop} (C : CC G k cX4_type RX4 2 rm_X4_type) (E : CQ G k (some .int) rm_X4_type (fun r n1 h1 => ∃ z : Int, r = some (.int (iz z)) ∧ n1 = n0 ∧ Po z h1))  (n : Nat) (h : xH) (hn0 : n = n0) (hy : Po (-1 : Int) h) : X4_type_w23 G k  n h := by
  subst hn0
  refine ww_iconst C (z := (-1)) dX4_type_23 rfl ?_
  exact ww_iret C E dX4_type_24 (by decide) (by decide) ⟨_, rfl, rfl, hy⟩
abbrev X4_clear_w0 (G : xG) (k : xK) (x0 : Nat) (n : Nat) (h : xH) : Prop := WW G k 1 0 0 0 [(0, rf G x0)] [] n h
theorem S_X4_clear_of {G : xG} {l : Launch} {x0 : Nat} {n : Nat} {h : xH} {Po : xH → Prop} (body : ∀ k : xK, kl k = l → CC G k cX4_clear RX4 1 rm_X4_clear → CQ G k none rm_X4_clear (fun r n1 h1 => r = none ∧ n1 = n ∧ Po h1) → X4_clear_w0 G k x0 n h) : S_X4_clear G l x0 n h Po := xS_of (by decide +kernel) (Nat.le_of_ble_eq_true rfl) rfl (fun k hl hnm C E => body k hl C E)
set_option maxRecDepth 100000 in
set_option maxHeartbeats 4000000 in
theorem X4_clear_b0 {G : xG} {k : xK} {n0 : Nat} {Po : xH → Prop} (C : CC G k cX4_clear RX4 1 rm_X4_clear) (E : CQ G k none rm_X4_clear (fun r n1 h1 => r = none ∧ n1 = n0 ∧ Po h1)) (x0 : Nat) (n : Nat) (h : xH) (hn0 : n = n0) (hy : okO n h x0 4 ∧ 0 ≤ hG h x0 1 ∧ okO n h ((hG h x0 1).toNat) 0 ∧ S_X0_empty G (kl k) ((hG h x0 1).toNat) n h (fun h4 => Po h4)) : X4_clear_w0 G k x0 n h := by
  subst hn0
  refine ww_aload_n C 0 0 rfl rfl dX4_clear_0 ?_
  obtain ⟨p1, hy⟩ := hy
  obtain ⟨p2, hy⟩ := hy
  refine gf_X4_20 C dX4_clear_1 p1 p2 ?_
  obtain ⟨p3, hy⟩ := hy
  refine cl_X4_76 C dX4_clear_4 (Nat.le_of_ble_eq_true rfl) ⟨by decide, by decide⟩ ⟨by decide, by decide⟩ p3 ?_
  refine S_X0_empty.mono hy (fun h4 hy => ?_)
  exact ww_vret C E dX4_clear_7 (by decide) (by decide) ⟨rfl, rfl, hy⟩
abbrev X4_becomeNone_w0 (G : xG) (k : xK) (x0 : Nat) (n : Nat) (h : xH) : Prop := WW G k 1 0 0 0 [(0, rf G x0)] [] n h
theorem S_X4_becomeNone_of {G : xG} {l : Launch} {x0 : Nat} {n : Nat} {h : xH} {Po : xH → Prop} (body : ∀ k : xK, kl k = l → CC G k cX4_becomeNone RX4 1 rm_X4_becomeNone → CQ G k none rm_X4_becomeNone (fun r n1 h1 => r = none ∧ n1 = n ∧ Po h1) → X4_becomeNone_w0 G k x0 n h) : S_X4_becomeNone G l x0 n h Po := xS_of (by decide +kernel) (Nat.le_of_ble_eq_true rfl) rfl (fun k hl hnm C E => body k hl C E)
set_option maxRecDepth 100000 in
set_option maxHeartbeats 4000000 in
theorem X4_becomeNone_b0 {G : xG} {k : xK} {n0 : Nat} {Po : xH → Prop} (C : CC G k cX4_becomeNone RX4 1 rm_X4_becomeNone) (E : CQ G k none rm_X4_becomeNone (fun r n1 h1 => r = none ∧ n1 = n0 ∧ Po h1)) (x0 : Nat) (n : Nat) (h : xH) (hn0 : n = n0) (hy : okO n h x0 4 ∧ (∀ h2 : xH, h2 = hS h x0 3 0 → okO n h2 x0 4 ∧ ((0 : Int) = 0 ∨ (0 : Int) = 1) ∧ (∀ h5 : xH, h5 = hS h2 x0 4 0 → Po h5))) : X4_becomeNone_w0 G k x0 n h := by
  subst hn0
  refine ww_aload_n C 0 0 rfl rfl dX4_becomeNone_0 ?_
  refine ww_iconst C (z := 0) dX4_becomeNone_1 rfl ?_
  obtain ⟨p1, hy⟩ := hy
  have hy := hy _ rfl
  refine pf_X4_30I C dX4_becomeNone_2 p1 ?_
  refine ww_aload_n C 0 0 rfl rfl dX4_becomeNone_5 ?_
  refine ww_iconst C (z := 0) dX4_becomeNone_6 rfl ?_
  obtain ⟨p3, hy⟩ := hy
  obtain ⟨p4, hy⟩ := hy
  have hy := hy _ rfl
  refine pf_X4_34I C dX4_becomeNone_7 p3 p4 ?_
  exact ww_vret C E dX4_becomeNone_10 (by decide) (by decide) ⟨rfl, rfl, hy⟩
abbrev X4_becomeInfinite_w0 (G : xG) (k : xK) (x0 : Nat) (x1 : Int) (n : Nat) (h : xH) : Prop := WW G k 2 0 0 0 [(0, rf G x0), (1, .int (iz x1))] [] n h
theorem S_X4_becomeInfinite_of {G : xG} {l : Launch} {x0 : Nat} {x1 : Int} {n : Nat} {h : xH} {Po : xH → Prop} (body : ∀ k : xK, kl k = l → CC G k cX4_becomeInfinite RX4 2 rm_X4_becomeInfinite → CQ G k none rm_X4_becomeInfinite (fun r n1 h1 => r = none ∧ n1 = n ∧ Po h1) → X4_becomeInfinite_w0 G k x0 x1 n h) : S_X4_becomeInfinite G l x0 x1 n h Po := xS_of (by decide +kernel) (Nat.le_of_ble_eq_true rfl) rfl (fun k hl hnm C E => body k hl C E)
set_option maxRecDepth 100000 in
set_option maxHeartbeats 4000000 in
theorem X4_becomeInfinite_b0 {G : xG} {k : xK} {n0 : Nat} {Po : xH → Prop} (C : CC G k cX4_becomeInfinite RX4 2 rm_X4_becomeInfinite) (E : CQ G k none rm_X4_becomeInfinite (fun r n1 h1 => r = none ∧ n1 = n0 ∧ Po h1)) (x0 : Nat) (x1 : Int) (n : Nat) (h : xH) (hn0 : n = n0) (hy : okO n h x0 4 ∧ (∀ h2 : xH, h2 = hS h x0 3 3 → okO n h2 x0 4 ∧ (x1 = 0 ∨ x1 = 1) ∧ (∀ h5 : xH, h5 = hS h2 x0 4 x1 → Po h5))) : X4_becomeInfinite_w0 G k x0 x1 n h := by
  subst hn0
  refine ww_aload_n C 0 0 rfl rfl dX4_becomeInfinite_0 ?_
  refine ww_iconst C (z := 3) dX4_becomeInfinite_1 rfl ?_
  obtain ⟨p1, hy⟩ := hy
  have hy := hy _ rfl
  refine pf_X4_30I C dX4_becomeInfinite_2 p1 ?_
  refine ww_aload_n C 0 0 rfl rfl dX4_becomeInfinite_5 ?_
  refine ww_iload_n C 1 1 rfl rfl dX4_becomeInfinite_6 ?_
  obtain ⟨p3, hy⟩ := hy
  obtain ⟨p4, hy⟩ := hy
  have hy := hy _ rfl
  refine pf_X4_34I C dX4_becomeInfinite_7 p3 p4 ?_
  exact ww_vret C E dX4_becomeInfinite_10 (by decide) (by decide) ⟨rfl, rfl, hy⟩
abbrev X4_becomeNotANumber_w0 (G : xG) (k : xK) (x0 : Nat) (n : Nat) (h : xH) : Prop := WW G k 1 0 0 0 [(0, rf G x0)] [] n h
theorem S_X4_becomeNotANumber_of {G : xG} {l : Launch} {x0 : Nat} {n : Nat} {h : xH} {Po : xH → Prop} (body : ∀ k : xK, kl k = l → CC G k cX4_becomeNotANumber RX4 1 rm_X4_becomeNotANumber → CQ G k none rm_X4_becomeNotANumber (fun r n1 h1 => r = none ∧ n1 = n ∧ Po h1) → X4_becomeNotANumber_w0 G k x0 n h) : S_X4_becomeNotANumber G l x0 n h Po := xS_of (by decide +kernel) (Nat.le_of_ble_eq_true rfl) rfl (fun k hl hnm C E => body k hl C E)
set_option maxRecDepth 100000 in
set_option maxHeartbeats 4000000 in
theorem X4_becomeNotANumber_b0 {G : xG} {k : xK} {n0 : Nat} {Po : xH → Prop} (C : CC G k cX4_becomeNotANumber RX4 1 rm_X4_becomeNotANumber) (E : CQ G k none rm_X4_becomeNotANumber (fun r n1 h1 => r = none ∧ n1 = n0 ∧ Po h1)) (x0 : Nat) (n : Nat) (h : xH) (hn0 : n = n0) (hy : okO n h x0 4 ∧ (∀ h2 : xH, h2 = hS h x0 3 4 → okO n h2 x0 4 ∧ ((0 : Int) = 0 ∨ (0 : Int) = 1) ∧ (∀ h5 : xH, h5 = hS h2 x0 4 0 → Po h5))) : X4_becomeNotANumber_w0 G k x0 n h := by
  subst hn0
  refine ww_aload_n C 0 0 rfl rfl dX4_becomeNotANumber_0 ?_
  refine ww_iconst C (z := 4) dX4_becomeNotANumber_1 rfl ?_
  obtain ⟨p1, hy⟩ := hy
  have hy := hy _ rfl
  refine pf_X4_30I C dX4_becomeNotANumber_2 p1 ?_
  refine ww_aload_n C 0 0 rfl rfl dX4_becomeNotANumber_5 ?_
  refine ww_iconst C (z := 0) dX4_becomeNotANumber_6 rfl ?_
  obtain ⟨p3, hy⟩ := hy
  obtain ⟨p4, hy⟩ := hy
  have hy := hy _ rfl
  refine pf_X4_34I C dX4_becomeNotANumber_7 p3 p4 ?_
  exact ww_vret C E dX4_becomeNotANumber_10 (by decide) (by decide) ⟨rfl, rfl, hy⟩
abbrev X4_becomeFinite_w0 (G : xG) (k : xK) (x0 : Nat) (x1 : Int) (x2 : Int) (x3 : Int) (n : Nat) (h : xH) : Prop := WW G k 5 0 0 0 [(0, rf G x0), (1, .int (iz x1)), (2, .long (lz x2)), (4, .int (iz x3))] [] n h
theorem S_X4_becomeFinite_of {G : xG} {l : Launch} {x0 : Nat} {x1 : Int} {x2 : Int} {x3 : Int} {n : Nat} {h : xH} {Po : xH → Prop} (body : ∀ k : xK, kl k = l → CC G k cX4_becomeFinite RX4 5 rm_X4_becomeFinite → CQ G k none rm_X4_becomeFinite (fun r n1 h1 => r = none ∧ n1 = n ∧ Po h1) → X4_becomeFinite_w0 G k x0 x1 x2 x3 n h) : S_X4_becomeFinite G l x0 x1 x2 x3 n h Po := xS_of (by decide +kernel) (Nat.le_of_ble_eq_true rfl) rfl (fun k hl hnm C E => body k hl C E)
set_option maxRecDepth 100000 in
set_option maxHeartbeats 4000000 in
theorem X4_becomeFinite_b0 {G : xG} {k : xK} {n0 : Nat} {Po : xH → Prop} (C : CC G k cX4_becomeFinite RX4 5 rm_X4_becomeFinite) (E : CQ G k none rm_X4_becomeFinite (fun r n1 h1 => r = none ∧ n1 = n0 ∧ Po h1)) (x0 : Nat) (x1 : Int) (x2 : Int) (x3 : Int) (n : Nat) (h : xH) (hn0 : n = n0) (hy : okO n h x0 4 ∧ (∀ h2 : xH, h2 = hS h x0 3 2 → okO n h2 x0 4 ∧ (x1 = 0 ∨ x1 = 1) ∧ (∀ h5 : xH, h5 = hS h2 x0 4 x1 → okO n h5 x0 4 ∧ (∀ h7 : xH, h7 = hS h5 x0 5 x2 → okO n h7 x0 4 ∧ (∀ h9 : xH, h9 = hS h7 x0 6 x3 → Po h9))))) : X4_becomeFinite_w0 G k x0 x1 x2 x3 n h := by
  subst hn0
  refine ww_aload_n C 0 0 rfl rfl dX4_becomeFinite_0 ?_
  refine ww_iconst C (z := 2) dX4_becomeFinite_1 rfl ?_
  obtain ⟨p1, hy⟩ := hy
  have hy := hy _ rfl
  refine pf_X4_30I C dX4_becomeFinite_2 p1 ?_
  refine ww_aload_n C 0 0 rfl rfl dX4_becomeFinite_5 ?_
  refine ww_iload_n C 1 1 rfl rfl dX4_becomeFinite_6 ?_
  obtain ⟨p3, hy⟩ := hy
  obtain ⟨p4, hy⟩ := hy
  have hy := hy _ rfl
  refine pf_X4_34I C dX4_becomeFinite_7 p3 p4 ?_
  refine ww_aload_n C 0 0 rfl rfl dX4_becomeFinite_10 ?_
  refine ww_lload_n C 2 2 rfl rfl dX4_becomeFinite_11 ?_
  obtain ⟨p6, hy⟩ := hy
  have hy := hy _ rfl
  refine pf_X4_38J C dX4_becomeFinite_12 p6 ?_
  refine ww_aload_n C 0 0 rfl rfl dX4_becomeFinite_15 ?_
  refine ww_iload C 4 3 rfl dX4_becomeFinite_16 ?_
  obtain ⟨p8, hy⟩ := hy
  have hy := hy _ rfl
  refine pf_X4_42I C dX4_becomeFinite_18 p8 ?_
  exact ww_vret C E dX4_becomeFinite_21 (by decide) (by decide) ⟨rfl, rfl, hy⟩
abbrev X4_becomeZero_w0 (G : xG) (k : xK) (x0 : Nat) (x1 : Int) (n : Nat) (h : xH) : Prop := WW G k 2 0 0 0 [(0, rf G x0), (1, .int (iz x1))] [] n h
theorem S_X4_becomeZero_of {G : xG} {l : Launch} {x0 : Nat} {x1 : Int} {n : Nat} {h : xH} {Po : xH → Prop} (body : ∀ k : xK, kl k = l → CC G k cX4_becomeZero RX4 2 rm_X4_becomeZero → CQ G k none rm_X4_becomeZero (fun r n1 h1 => r = none ∧ n1 = n ∧ Po h1) → X4_becomeZero_w0 G k x0 x1 n h) : S_X4_becomeZero G l x0 x1 n h Po := xS_of (by decide +kernel) (Nat.le_of_ble_eq_true rfl) rfl (fun k hl hnm C E => body k hl C E)
set_option maxRecDepth 100000 in
set_option maxHeartbeats 4000000 in
theorem X4_becomeZero_b0 {G : xG} {k : xK} {n0 : Nat} {Po : xH → Prop} (C : CC G k cX4_becomeZero RX4 2 rm_X4_becomeZero) (E : CQ G k none rm_X4_becomeZero (fun r n1 h1 => r = none ∧ n1 = n0 ∧ Po h1)) (x0 : Nat) (x1 : Int) (n : Nat) (h : xH) (hn0 : n = n0) (hy : okO n h x0 4 ∧ S_X4_becomeFinite G (kl k) x0 x1 0 (-1074) n h (fun h2 => Po h2)) : X4_becomeZero_w0 G k x0 x1 n h := by
  subst hn0
  refine ww_aload_n C 0 0 rfl rfl dX4_becomeZero_0 ?_
  refine ww_iload_n C 1 1 rfl rfl dX4_becomeZero_1 ?_
  refine ww_lconst C (z := 0) dX4_becomeZero_2 rfl ?_
  refine ww_sipush C (z := (-1074)) dX4_becomeZero_3 rfl ?_
  obtain ⟨p1, hy⟩ := hy
  refine cl_X4_174 C dX4_becomeZero_6 (Nat.le_of_ble_eq_true rfl) ⟨by decide, by decide⟩ ⟨by decide, by decide⟩ p1 ?_
  refine S_X4_becomeFinite.mono hy (fun h2 hy => ?_)
  exact ww_vret C E dX4_becomeZero_9 (by decide) (by decide) ⟨rfl, rfl, hy⟩
abbrev X4_alignTops_w0 (G : xG) (k : xK) (x0 : Nat) (n : Nat) (h : xH) : Prop := WW G k 2 0 0 0 [(0, rf G x0)] [] n h
theorem S_X4_alignTops_of {G : xG} {l : Launch} {x0 : Nat} {n : Nat} {h : xH} {Po : xH → Prop} (body : ∀ k : xK, kl k = l → CC G k cX4_alignTops RX4 2 rm_X4_alignTops → CQ G k none rm_X4_alignTops (fun r n1 h1 => r = none ∧ n1 = n ∧ Po h1) → X4_alignTops_w0 G k x0 n h) : S_X4_alignTops G l x0 n h Po := xS_of (by decide +kernel) (Nat.le_of_ble_eq_true rfl) rfl (fun k hl hnm C E => body k hl C E)
set_option maxRecDepth 100000 in
set_option maxHeartbeats 4000000 in
theorem X4_alignTops_b0 {G : xG} {k : xK} {n0 : Nat} {Po : xH → Prop} (C : CC G k cX4_alignTops RX4 2 rm_X4_alignTops) (E : CQ G k none rm_X4_alignTops (fun r n1 h1 => r = none ∧ n1 = n0 ∧ Po h1)) (x0 : Nat) (n : Nat) (h : xH) (hn0 : n = n0) (hy : okO n h x0 4 ∧ 0 ≤ hG h x0 7 ∧ okO n h ((hG h x0 7).toNat) 1 ∧ S_X1_bitLength G (kl k) ((hG h x0 7).toNat) n h (fun z4 h5 => okO n h5 x0 4 ∧ 0 ≤ hG h5 x0 8 ∧ okO n h5 ((hG h5 x0 8).toNat) 1 ∧ S_X1_bitLength G (kl k) ((hG h5 x0 8).toNat) n h5 (fun z9 h10 => okO n h10 x0 4 ∧ 0 ≤ hG h10 x0 7 ∧ okO n h10 ((hG h10 x0 7).toNat) 1 ∧ S_X1_shiftLeft G (kl k) ((hG h10 x0 7).toNat) (-(z4 - z9)) n h10 (fun h14 => okO n h14 x0 4 ∧ 0 ≤ hG h14 x0 8 ∧ okO n h14 ((hG h14 x0 8).toNat) 1 ∧ S_X1_shiftLeft G (kl k) ((hG h14 x0 8).toNat) (z4 - z9) n h14 (fun h18 => Po h18))))) : X4_alignTops_w0 G k x0 n h := by
  subst hn0
  refine ww_aload_n C 0 0 rfl rfl dX4_alignTops_0 ?_
  obtain ⟨p1, hy⟩ := hy
  obtain ⟨p2, hy⟩ := hy
  refine gf_X4_48 C dX4_alignTops_1 p1 p2 ?_
  obtain ⟨p3, hy⟩ := hy
  refine cl_X4_150 C dX4_alignTops_4 (Nat.le_of_ble_eq_true rfl) ⟨by decide, by decide⟩ ⟨by decide, by decide⟩ p3 ?_
  refine S_X1_bitLength.mono hy (fun z4 h5 hy => ?_)
  refine ww_aload_n C 0 0 rfl rfl dX4_alignTops_7 ?_
  obtain ⟨p6, hy⟩ := hy
  obtain ⟨p7, hy⟩ := hy
  refine gf_X4_52 C dX4_alignTops_8 p6 p7 ?_
  obtain ⟨p8, hy⟩ := hy
  refine cl_X4_150 C dX4_alignTops_11 (Nat.le_of_ble_eq_true rfl) ⟨by decide, by decide⟩ ⟨by decide, by decide⟩ p8 ?_
  refine S_X1_bitLength.mono hy (fun z9 h10 hy => ?_)
  refine ww_isub C dX4_alignTops_14 ?_
  refine ww_istore_n C 1 rfl (by decide) rfl dX4_alignTops_15 ?_
  refine ww_aload_n C 0 1 rfl rfl dX4_alignTops_16 ?_
  obtain ⟨p11, hy⟩ := hy
  obtain ⟨p12, hy⟩ := hy
  refine gf_X4_48 C dX4_alignTops_17 p11 p12 ?_
  refine ww_iload_n C 1 0 rfl rfl dX4_alignTops_20 ?_
  refine ww_ineg C dX4_alignTops_21 ?_
  obtain ⟨p13, hy⟩ := hy
  refine cl_X4_130 C dX4_alignTops_22 (Nat.le_of_ble_eq_true rfl) ⟨by decide, by decide⟩ ⟨by decide, by decide⟩ p13 ?_
  refine S_X1_shiftLeft.mono hy (fun h14 hy => ?_)
  refine ww_aload_n C 0 1 rfl rfl dX4_alignTops_25 ?_
  obtain ⟨p15, hy⟩ := hy
  obtain ⟨p16, hy⟩ := hy
  refine gf_X4_52 C dX4_alignTops_26 p15 p16 ?_
  refine ww_iload_n C 1 0 rfl rfl dX4_alignTops_29 ?_
  obtain ⟨p17, hy⟩ := hy
  refine cl_X4_130 C dX4_alignTops_30 (Nat.le_of_ble_eq_true rfl) ⟨by decide, by decide⟩ ⟨by decide, by decide⟩ p17 ?_
  refine S_X1_shiftLeft.mono hy (fun h18 hy => ?_)
  exact ww_vret C E dX4_alignTops_33 (by decide) (by decide) ⟨rfl, rfl, hy⟩
abbrev X4_takeQuotient_w0 (G : xG) (k : xK) (x0 : Nat) (x1 : Int) (n : Nat) (h : xH) : Prop := WW G k 5 0 0 0 [(0, rf G x0), (1, .int (iz x1))] [] n h
abbrev X4_takeQuotient_w5 (G : xG) (k : xK) (x0 : Nat) (x1 : Int) (x2 : Int) (x4 : Int) (n : Nat) (h : xH) : Prop := WW G k 5 0 0 5 [(0, rf G x0), (1, .int (iz x1)), (2, .long (lz x2)), (4, .int (iz x4))] [] n h
abbrev X4_takeQuotient_w44 (G : xG) (k : xK) (x0 : Nat) (x1 : Int) (x2 : Int) (x4 : Int) (n : Nat) (h : xH) : Prop := WW G k 5 0 0 44 [(0, rf G x0), (1, .int (iz x1)), (2, .long (lz x2)), (4, .int (iz x4))] [] n h
theorem S_X4_takeQuotient_of {G : xG} {l : Launch} {x0 : Nat} {x1 : Int} {n : Nat} {h : xH} {Po : Int → xH → Prop} (body : ∀ k : xK, kl k = l → CC G k cX4_takeQuotient RX4 5 rm_X4_takeQuotient → CQ G k (some .long) rm_X4_takeQuotient (fun r n1 h1 => ∃ z : Int, r = some (.long (lz z)) ∧ n1 = n ∧ Po z h1) → X4_takeQuotient_w0 G k x0 x1 n h) : S_X4_takeQuotient G l x0 x1 n h Po := xS_of (by decide +kernel) (Nat.le_of_ble_eq_true rfl) rfl (fun k hl hnm C E => body k hl C E)
set_option maxRecDepth 100000 in
set_option maxHeartbeats 4000000 in
theorem X4_takeQuotient_b0 {G : xG} {k : xK} {n0 : Nat} {Po : Int → xH → Prop} (C : CC G k cX4_takeQuotient RX4 5 rm_X4_takeQuotient) (E : CQ G k (some .long) rm_X4_takeQuotient (fun r n1 h1 => ∃ z : Int, r = some (.long (lz z)) ∧ n1 = n0 ∧ Po z h1)) (x0 : Nat) (x1 : Int) (n : Nat) (h : xH) (hn0 : n = n0) (hy : X4_takeQuotient_w5 G k x0 x1 0 0 n h) : X4_takeQuotient_w0 G k x0 x1 n h := by
  subst hn0
  refine ww_lconst C (z := 0) dX4_takeQuotient_0 rfl ?_
  refine ww_lstore_n C 2 rfl (by decide) rfl dX4_takeQuotient_1 ?_
  refine ww_iconst C (z := 0) dX4_takeQuotient_2 rfl ?_
  refine ww_istore C 4 (by decide) rfl dX4_takeQuotient_3 ?_
  exact ww_sub [2, 3, 1, 0] rfl (by decide) (by decide) hy
set_option maxRecDepth 100000 in
set_option maxHeartbeats 4000000 in
theorem X4_takeQuotient_b5 {G : xG} {k : xK} {n0 : Nat} {Po : Int → xH → Prop} (C : CC G k cX4_takeQuotient RX4 5 rm_X4_takeQuotient) (E : CQ G k (some .long) rm_X4_takeQuotient (fun r n1 h1 => ∃ z : Int, r = some (.long (lz z)) ∧ n1 = n0 ∧ Po z h1)) (x0 : Nat) (x1 : Int) (x2 : Int) (x4 : Int) (n : Nat) (h : xH) (hn0 : n = n0) (hy : (rg x4 ∧ rg x1) ∧ ((x1 ≤ x4 → Po x2 h) ∧ (¬ x1 ≤ x4 → okO n h x0 4 ∧ 0 ≤ hG h x0 7 ∧ okO n h x0 4 ∧ 0 ≤ hG h x0 8 ∧ okO n h ((hG h x0 7).toNat) 1 ∧ S_X1_compare G (kl k) ((hG h x0 7).toNat) ((hG h x0 8).toNat) n h (fun z8 h9 => rg z8 ∧ ((z8 < 0 → X4_takeQuotient_w44 G k x0 x1 (lSl x2 1) x4 n h9) ∧ (¬ z8 < 0 → okO n h9 x0 4 ∧ 0 ≤ hG h9 x0 7 ∧ okO n h9 x0 4 ∧ 0 ≤ hG h9 x0 8 ∧ okO n h9 ((hG h9 x0 7).toNat) 1 ∧ S_X1_subtract G (kl k) ((hG h9 x0 7).toNat) ((hG h9 x0 8).toNat) n h9 (fun h17 => X4_takeQuotient_w44 G k x0 x1 (lO (lSl x2 1) 1) x4 n h17))))))) : X4_takeQuotient_w5 G k x0 x1 x2 x4 n h := by
  subst hn0
  refine ww_iload C 4 3 rfl dX4_takeQuotient_5 ?_
  refine ww_iload_n C 1 1 rfl rfl dX4_takeQuotient_7 ?_
  obtain ⟨p1, hy⟩ := hy
  refine ww_icmp_ge C (tg := 59) dX4_takeQuotient_8 (by decide) p1.1 p1.2 (fun c2 => ?_) (fun c2 => ?_)
  · have hy := hy.1 c2
    refine ww_lload_n C 2 2 rfl rfl dX4_takeQuotient_59 ?_
    exact ww_lret C E dX4_takeQuotient_60 (by decide) (by decide) ⟨_, rfl, rfl, hy⟩
  · have hy := hy.2 c2
    refine ww_lload_n C 2 2 rfl rfl dX4_takeQuotient_11 ?_
    refine ww_iconst C (z := 1) dX4_takeQuotient_12 rfl ?_
    refine ww_lshl C dX4_takeQuotient_13 ?_
    refine ww_lstore_n C 2 rfl (by decide) rfl dX4_takeQuotient_14 ?_
    refine ww_aload_n C 0 1 rfl rfl dX4_takeQuotient_15 ?_
    obtain ⟨p3, hy⟩ := hy
    obtain ⟨p4, hy⟩ := hy
    refine gf_X4_48 C dX4_takeQuotient_16 p3 p4 ?_
    refine ww_aload_n C 0 1 rfl rfl dX4_takeQuotient_19 ?_
    obtain ⟨p5, hy⟩ := hy
    obtain ⟨p6, hy⟩ := hy
    refine gf_X4_52 C dX4_takeQuotient_20 p5 p6 ?_
    obtain ⟨p7, hy⟩ := hy
    refine cl_X4_197 C dX4_takeQuotient_23 (Nat.le_of_ble_eq_true rfl) ⟨by decide, by decide⟩ ⟨by decide, by decide⟩ p7 ?_
    refine S_X1_compare.mono hy (fun z8 h9 hy => ?_)
    obtain ⟨p10, hy⟩ := hy
    refine ww_if_lt C (tg := 44) dX4_takeQuotient_26 (by decide) p10 (fun c11 => ?_) (fun c11 => ?_)
    · have hy := hy.1 c11
      exact ww_sub [1, 2, 0, 3] rfl (by decide) (by decide) hy
    · have hy := hy.2 c11
      refine ww_aload_n C 0 1 rfl rfl dX4_takeQuotient_29 ?_
      obtain ⟨p12, hy⟩ := hy
      obtain ⟨p13, hy⟩ := hy
      refine gf_X4_48 C dX4_takeQuotient_30 p12 p13 ?_
      refine ww_aload_n C 0 1 rfl rfl dX4_takeQuotient_33 ?_
      obtain ⟨p14, hy⟩ := hy
      obtain ⟨p15, hy⟩ := hy
      refine gf_X4_52 C dX4_takeQuotient_34 p14 p15 ?_
      obtain ⟨p16, hy⟩ := hy
      refine cl_X4_201 C dX4_takeQuotient_37 (Nat.le_of_ble_eq_true rfl) ⟨by decide, by decide⟩ ⟨by decide, by decide⟩ p16 ?_
      refine S_X1_subtract.mono hy (fun h17 hy => ?_)
      refine ww_lload_n C 2 0 rfl rfl dX4_takeQuotient_40 ?_
      refine ww_lconst C (z := 1) dX4_takeQuotient_41 rfl ?_
      refine ww_lor C dX4_takeQuotient_42 ?_
      refine ww_lstore_n C 2 rfl (by decide) rfl dX4_takeQuotient_43 ?_
      exact ww_sub [1, 2, 0, 3] rfl (by decide) (by decide) hy
set_option maxRecDepth 100000 in
set_option maxHeartbeats 4000000 in
theorem X4_takeQuotient_b44 {G : xG} {k : xK} {n0 : Nat} {Po : Int → xH → Prop} (C : CC G k cX4_takeQuotient RX4 5 rm_X4_takeQuotient) (E : CQ G k (some .long) rm_X4_takeQuotient (fun r n1 h1 => ∃ z : Int, r = some (.long (lz z)) ∧ n1 = n0 ∧ Po z h1)) (x0 : Nat) (x1 : Int) (x2 : Int) (x4 : Int) (n : Nat) (h : xH) (hn0 : n = n0) (hy : okO n h x0 4 ∧ 0 ≤ hG h x0 7 ∧ okO n h ((hG h x0 7).toNat) 1 ∧ S_X1_multiplyAdd G (kl k) ((hG h x0 7).toNat) 2 0 n h (fun h4 => X4_takeQuotient_w5 G k x0 x1 x2 (x4 + 1) n h4)) : X4_takeQuotient_w44 G k x0 x1 x2 x4 n h := by
  subst hn0
  refine ww_aload_n C 0 0 rfl rfl dX4_takeQuotient_44 ?_
  obtain ⟨p1, hy⟩ := hy
  obtain ⟨p2, hy⟩ := hy
  refine gf_X4_48 C dX4_takeQuotient_45 p1 p2 ?_
  refine ww_iconst C (z := 2) dX4_takeQuotient_48 rfl ?_
  refine ww_iconst C (z := 0) dX4_takeQuotient_49 rfl ?_
  obtain ⟨p3, hy⟩ := hy
  refine cl_X4_205 C dX4_takeQuotient_50 (Nat.le_of_ble_eq_true rfl) ⟨by decide, by decide⟩ ⟨by decide, by decide⟩ p3 ?_
  refine S_X1_multiplyAdd.mono hy (fun h4 hy => ?_)
  refine ww_iinc C 4 3 rfl (by decide) rfl dX4_takeQuotient_53 ?_
  refine ww_goto C (tg := 5) dX4_takeQuotient_56 (by decide) ?_
  exact ww_sub [1, 2, 3, 0] rfl (by decide) (by decide) hy
abbrev X4_becomeRounded_w0 (G : xG) (k : xK) (x0 : Nat) (x1 : Int) (x2 : Int) (x3 : Int) (n : Nat) (h : xH) : Prop := WW G k 14 0 0 0 [(0, rf G x0), (1, .int (iz x1)), (2, .long (lz x2)), (4, .int (iz x3))] [] n h
abbrev X4_becomeRounded_w13 (G : xG) (k : xK) (x0 : Nat) (x1 : Int) (x2 : Int) (x4 : Int) (s0 : Int) (n : Nat) (h : xH) : Prop := WW G k 14 0 0 13 [(0, rf G x0), (1, .int (iz x1)), (2, .long (lz x2)), (4, .int (iz x4))] [.int (iz s0)] n h
abbrev X4_becomeRounded_w60 (G : xG) (k : xK) (x0 : Nat) (x1 : Int) (x6 : Int) (x8 : Int) (x9 : Int) (x11 : Int) (s0 : Int) (n : Nat) (h : xH) : Prop := WW G k 14 0 0 60 [(0, rf G x0), (1, .int (iz x1)), (6, .long (lz x6)), (8, .int (iz x8)), (9, .long (lz x9)), (11, .long (lz x11))] [.int (iz s0)] n h
abbrev X4_becomeRounded_w93 (G : xG) (k : xK) (x0 : Nat) (x1 : Int) (x6 : Int) (x8 : Int) (n : Nat) (h : xH) : Prop := WW G k 14 0 0 93 [(0, rf G x0), (1, .int (iz x1)), (6, .long (lz x6)), (8, .int (iz x8))] [] n h
abbrev X4_becomeRounded_w99 (G : xG) (k : xK) (x0 : Nat) (x1 : Int) (x6 : Int) (x8 : Int) (n : Nat) (h : xH) : Prop := WW G k 14 0 0 99 [(0, rf G x0), (1, .int (iz x1)), (6, .long (lz x6)), (8, .int (iz x8))] [] n h
abbrev X4_becomeRounded_w116 (G : xG) (k : xK) (x0 : Nat) (x1 : Int) (x6 : Int) (x8 : Int) (n : Nat) (h : xH) : Prop := WW G k 14 0 0 116 [(0, rf G x0), (1, .int (iz x1)), (6, .long (lz x6)), (8, .int (iz x8))] [] n h
abbrev X4_becomeRounded_w141 (G : xG) (k : xK)  (n : Nat) (h : xH) : Prop := WW G k 14 0 0 141 [] [] n h
theorem S_X4_becomeRounded_of {G : xG} {l : Launch} {x0 : Nat} {x1 : Int} {x2 : Int} {x3 : Int} {n : Nat} {h : xH} {Po : xH → Prop} (body : ∀ k : xK, kl k = l → CC G k cX4_becomeRounded RX4 14 rm_X4_becomeRounded → CQ G k none rm_X4_becomeRounded (fun r n1 h1 => r = none ∧ n1 = n ∧ Po h1) → X4_becomeRounded_w0 G k x0 x1 x2 x3 n h) : S_X4_becomeRounded G l x0 x1 x2 x3 n h Po := xS_of (by decide +kernel) (Nat.le_of_ble_eq_true rfl) rfl (fun k hl hnm C E => body k hl C E)
set_option maxRecDepth 100000 in
set_option maxHeartbeats 4000000 in
theorem X4_becomeRounded_b0 {G : xG} {k : xK} {n0 : Nat} {Po : xH → Prop} (C : CC G k cX4_becomeRounded RX4 14 rm_X4_becomeRounded) (E : CQ G k none rm_X4_becomeRounded (fun r n1 h1 => r = none ∧ n1 = n0 ∧ Po h1)) (x0 : Nat) (x1 : Int) (x2 : Int) (x3 : Int) (n : Nat) (h : xH) (hn0 : n = n0) (hy : (rgL x2 ∧ rgL 18014398509481984) ∧ (((lC x2 18014398509481984) < 0 → X4_becomeRounded_w13 G k x0 x1 x2 x3 1 n h) ∧ (¬ (lC x2 18014398509481984) < 0 → X4_becomeRounded_w13 G k x0 x1 x2 x3 2 n h))) : X4_becomeRounded_w0 G k x0 x1 x2 x3 n h := by
  subst hn0
  refine ww_lload_n C 2 2 rfl rfl dX4_becomeRounded_0 ?_
  refine ww_ldc2 C (z := 18014398509481984) q_330 dX4_becomeRounded_1 ?_
  obtain ⟨p1, hy⟩ := hy
  refine ww_lcmp C dX4_becomeRounded_4 p1.1 p1.2 ?_
  refine ww_if_lt C (tg := 12) dX4_becomeRounded_5 (by decide) (rg_lC _ _) (fun c3 => ?_) (fun c3 => ?_)
  · have hy := hy.1 c3
    refine ww_iconst C (z := 1) dX4_becomeRounded_12 rfl ?_
    exact ww_sub [0, 1, 2, 3] rfl (by decide) (by decide) hy
  · have hy := hy.2 c3
    refine ww_iconst C (z := 2) dX4_becomeRounded_8 rfl ?_
    refine ww_goto C (tg := 13) dX4_becomeRounded_9 (by decide) ?_
    exact ww_sub [0, 1, 2, 3] rfl (by decide) (by decide) hy
set_option maxRecDepth 100000 in
set_option maxHeartbeats 4000000 in
theorem X4_becomeRounded_b13 {G : xG} {k : xK} {n0 : Nat} {Po : xH → Prop} (C : CC G k cX4_becomeRounded RX4 14 rm_X4_becomeRounded) (E : CQ G k none rm_X4_becomeRounded (fun r n1 h1 => r = none ∧ n1 = n0 ∧ Po h1)) (x0 : Nat) (x1 : Int) (x2 : Int) (x4 : Int) (s0 : Int) (n : Nat) (h : xH) (hn0 : n = n0) (hy : (rgL (lA (lSr x2 s0) 1) ∧ rgL 1) ∧ ((¬ (lC (lA (lSr x2 s0) 1) 1) = 0 → X4_becomeRounded_w60 G k x0 x1 (lSr x2 s0) (x4 + s0) (lA x2 ((lSl 1 s0) - 1)) (lSl 1 (s0 - 1)) 0 n h) ∧ ((lC (lA (lSr x2 s0) 1) 1) = 0 → X4_becomeRounded_w60 G k x0 x1 (lSr x2 s0) (x4 + s0) (lA x2 ((lSl 1 s0) - 1)) (lSl 1 (s0 - 1)) 1 n h))) : X4_becomeRounded_w13 G k x0 x1 x2 x4 s0 n h := by
  subst hn0
  refine ww_istore C 5 (by decide) rfl dX4_becomeRounded_13 ?_
  refine ww_lload_n C 2 3 rfl rfl dX4_becomeRounded_15 ?_
  refine ww_iload C 5 0 rfl dX4_becomeRounded_16 ?_
  refine ww_lshr C dX4_becomeRounded_18 ?_
  refine ww_lstore C 6 (by decide) rfl dX4_becomeRounded_19 ?_
  refine ww_iload C 4 5 rfl dX4_becomeRounded_21 ?_
  refine ww_iload C 5 1 rfl dX4_becomeRounded_23 ?_
  refine ww_iadd C dX4_becomeRounded_25 ?_
  refine ww_istore C 8 (by decide) rfl dX4_becomeRounded_26 ?_
  refine ww_lload_n C 2 5 rfl rfl dX4_becomeRounded_28 ?_
  refine ww_lconst C (z := 1) dX4_becomeRounded_29 rfl ?_
  refine ww_iload C 5 2 rfl dX4_becomeRounded_30 ?_
  refine ww_lshl C dX4_becomeRounded_32 ?_
  refine ww_lconst C (z := 1) dX4_becomeRounded_33 rfl ?_
  refine ww_lsub C dX4_becomeRounded_34 ?_
  refine ww_land C dX4_becomeRounded_35 ?_
  refine ww_lstore C 9 (by decide) rfl dX4_becomeRounded_36 ?_
  refine ww_lconst C (z := 1) dX4_becomeRounded_38 rfl ?_
  refine ww_iload C 5 3 rfl dX4_becomeRounded_39 ?_
  refine ww_iconst C (z := 1) dX4_becomeRounded_41 rfl ?_
  refine ww_isub C dX4_becomeRounded_42 ?_
  refine ww_lshl C dX4_becomeRounded_43 ?_
  refine ww_lstore C 11 (by decide) rfl dX4_becomeRounded_44 ?_
  refine ww_lload C 6 3 rfl dX4_becomeRounded_46 ?_
  refine ww_lconst C (z := 1) dX4_becomeRounded_48 rfl ?_
  refine ww_land C dX4_becomeRounded_49 ?_
  refine ww_lconst C (z := 1) dX4_becomeRounded_50 rfl ?_
  obtain ⟨p1, hy⟩ := hy
  refine ww_lcmp C dX4_becomeRounded_51 p1.1 p1.2 ?_
  refine ww_if_ne C (tg := 59) dX4_becomeRounded_52 (by decide) (rg_lC _ _) (fun c3 => ?_) (fun c3 => ?_)
  · have hy := hy.1 c3
    refine ww_iconst C (z := 0) dX4_becomeRounded_59 rfl ?_
    exact ww_sub [5, 6, 3, 2, 1, 0] rfl (by decide) (by decide) hy
  · have hy := hy.2 c3
    refine ww_iconst C (z := 1) dX4_becomeRounded_55 rfl ?_
    refine ww_goto C (tg := 60) dX4_becomeRounded_56 (by decide) ?_
    exact ww_sub [5, 6, 3, 2, 1, 0] rfl (by decide) (by decide) hy
set_option maxRecDepth 100000 in
set_option maxHeartbeats 4000000 in
theorem X4_becomeRounded_b60 {G : xG} {k : xK} {n0 : Nat} {Po : xH → Prop} (C : CC G k cX4_becomeRounded RX4 14 rm_X4_becomeRounded) (E : CQ G k none rm_X4_becomeRounded (fun r n1 h1 => r = none ∧ n1 = n0 ∧ Po h1)) (x0 : Nat) (x1 : Int) (x6 : Int) (x8 : Int) (x9 : Int) (x11 : Int) (s0 : Int) (n : Nat) (h : xH) (hn0 : n = n0) (hy : (rgL x9 ∧ rgL x11) ∧ ((0 < (lC x9 x11) → X4_becomeRounded_w93 G k x0 x1 x6 x8 n h) ∧ (¬ 0 < (lC x9 x11) → (rgL x9 ∧ rgL x11) ∧ ((¬ (lC x9 x11) = 0 → X4_becomeRounded_w99 G k x0 x1 x6 x8 n h) ∧ ((lC x9 x11) = 0 → rg s0 ∧ ((¬ s0 = 0 → X4_becomeRounded_w93 G k x0 x1 x6 x8 n h) ∧ (s0 = 0 → okO n h x0 4 ∧ 0 ≤ hG h x0 7 ∧ okO n h ((hG h x0 7).toNat) 1 ∧ S_X1_isZero G (kl k) ((hG h x0 7).toNat) n h (fun z12 h13 => rg z12 ∧ ((¬ z12 = 0 → X4_becomeRounded_w99 G k x0 x1 x6 x8 n h13) ∧ (z12 = 0 → X4_becomeRounded_w93 G k x0 x1 x6 x8 n h13)))))))))) : X4_becomeRounded_w60 G k x0 x1 x6 x8 x9 x11 s0 n h := by
  subst hn0
  refine ww_istore C 13 (by decide) rfl dX4_becomeRounded_60 ?_
  refine ww_lload C 9 5 rfl dX4_becomeRounded_62 ?_
  refine ww_lload C 11 6 rfl dX4_becomeRounded_64 ?_
  obtain ⟨p1, hy⟩ := hy
  refine ww_lcmp C dX4_becomeRounded_66 p1.1 p1.2 ?_
  refine ww_if_gt C (tg := 93) dX4_becomeRounded_67 (by decide) (rg_lC _ _) (fun c3 => ?_) (fun c3 => ?_)
  · have hy := hy.1 c3
    exact ww_sub [1, 2, 3, 4] rfl (by decide) (by decide) hy
  · have hy := hy.2 c3
    refine ww_lload C 9 5 rfl dX4_becomeRounded_70 ?_
    refine ww_lload C 11 6 rfl dX4_becomeRounded_72 ?_
    obtain ⟨p4, hy⟩ := hy
    refine ww_lcmp C dX4_becomeRounded_74 p4.1 p4.2 ?_
    refine ww_if_ne C (tg := 99) dX4_becomeRounded_75 (by decide) (rg_lC _ _) (fun c6 => ?_) (fun c6 => ?_)
    · have hy := hy.1 c6
      exact ww_sub [1, 2, 3, 4] rfl (by decide) (by decide) hy
    · have hy := hy.2 c6
      refine ww_iload C 13 0 rfl dX4_becomeRounded_78 ?_
      obtain ⟨p7, hy⟩ := hy
      refine ww_if_ne C (tg := 93) dX4_becomeRounded_80 (by decide) p7 (fun c8 => ?_) (fun c8 => ?_)
      · have hy := hy.1 c8
        exact ww_sub [1, 2, 3, 4] rfl (by decide) (by decide) hy
      · have hy := hy.2 c8
        refine ww_aload_n C 0 1 rfl rfl dX4_becomeRounded_83 ?_
        obtain ⟨p9, hy⟩ := hy
        obtain ⟨p10, hy⟩ := hy
        refine gf_X4_48 C dX4_becomeRounded_84 p9 p10 ?_
        obtain ⟨p11, hy⟩ := hy
        refine cl_X4_178 C dX4_becomeRounded_87 (Nat.le_of_ble_eq_true rfl) ⟨by decide, by decide⟩ ⟨by decide, by decide⟩ p11 ?_
        refine S_X1_isZero.mono hy (fun z12 h13 hy => ?_)
        obtain ⟨p14, hy⟩ := hy
        refine ww_if_ne C (tg := 99) dX4_becomeRounded_90 (by decide) p14 (fun c15 => ?_) (fun c15 => ?_)
        · have hy := hy.1 c15
          exact ww_sub [1, 2, 3, 4] rfl (by decide) (by decide) hy
        · have hy := hy.2 c15
          exact ww_sub [1, 2, 3, 4] rfl (by decide) (by decide) hy
set_option maxRecDepth 100000 in
set_option maxHeartbeats 4000000 in
theorem X4_becomeRounded_b93 {G : xG} {k : xK} {n0 : Nat} {Po : xH → Prop} (C : CC G k cX4_becomeRounded RX4 14 rm_X4_becomeRounded) (E : CQ G k none rm_X4_becomeRounded (fun r n1 h1 => r = none ∧ n1 = n0 ∧ Po h1)) (x0 : Nat) (x1 : Int) (x6 : Int) (x8 : Int) (n : Nat) (h : xH) (hn0 : n = n0) (hy : X4_becomeRounded_w99 G k x0 x1 (x6 + 1) x8 n h) : X4_becomeRounded_w93 G k x0 x1 x6 x8 n h := by
  subst hn0
  refine ww_lload C 6 2 rfl dX4_becomeRounded_93 ?_
  refine ww_lconst C (z := 1) dX4_becomeRounded_95 rfl ?_
  refine ww_ladd C dX4_becomeRounded_96 ?_
  refine ww_lstore C 6 (by decide) rfl dX4_becomeRounded_97 ?_
  exact ww_sub [1, 2, 0, 3] rfl (by decide) (by decide) hy
set_option maxRecDepth 100000 in
set_option maxHeartbeats 4000000 in
theorem X4_becomeRounded_b99 {G : xG} {k : xK} {n0 : Nat} {Po : xH → Prop} (C : CC G k cX4_becomeRounded RX4 14 rm_X4_becomeRounded) (E : CQ G k none rm_X4_becomeRounded (fun r n1 h1 => r = none ∧ n1 = n0 ∧ Po h1)) (x0 : Nat) (x1 : Int) (x6 : Int) (x8 : Int) (n : Nat) (h : xH) (hn0 : n = n0) (hy : (rgL x6 ∧ rgL 9007199254740992) ∧ ((¬ (lC x6 9007199254740992) = 0 → X4_becomeRounded_w116 G k x0 x1 x6 x8 n h) ∧ ((lC x6 9007199254740992) = 0 → X4_becomeRounded_w116 G k x0 x1 4503599627370496 (x8 + 1) n h))) : X4_becomeRounded_w99 G k x0 x1 x6 x8 n h := by
  subst hn0
  refine ww_lload C 6 2 rfl dX4_becomeRounded_99 ?_
  refine ww_ldc2 C (z := 9007199254740992) q_332 dX4_becomeRounded_101 ?_
  obtain ⟨p1, hy⟩ := hy
  refine ww_lcmp C dX4_becomeRounded_104 p1.1 p1.2 ?_
  refine ww_if_ne C (tg := 116) dX4_becomeRounded_105 (by decide) (rg_lC _ _) (fun c3 => ?_) (fun c3 => ?_)
  · have hy := hy.1 c3
    exact ww_sub [0, 1, 2, 3] rfl (by decide) (by decide) hy
  · have hy := hy.2 c3
    refine ww_ldc2 C (z := 4503599627370496) q_333 dX4_becomeRounded_108 ?_
    refine ww_lstore C 6 (by decide) rfl dX4_becomeRounded_111 ?_
    refine ww_iinc C 8 3 rfl (by decide) rfl dX4_becomeRounded_113 ?_
    exact ww_sub [2, 3, 1, 0] rfl (by decide) (by decide) hy
set_option maxRecDepth 100000 in
set_option maxHeartbeats 4000000 in
theorem X4_becomeRounded_b116 {G : xG} {k : xK} {n0 : Nat} {Po : xH → Prop} (C : CC G k cX4_becomeRounded RX4 14 rm_X4_becomeRounded) (E : CQ G k none rm_X4_becomeRounded (fun r n1 h1 => r = none ∧ n1 = n0 ∧ Po h1)) (x0 : Nat) (x1 : Int) (x6 : Int) (x8 : Int) (n : Nat) (h : xH) (hn0 : n = n0) (hy : (rg x8 ∧ rg (971 : Int)) ∧ ((x8 ≤ (971 : Int) → okO n h x0 4 ∧ S_X4_becomeFinite G (kl k) x0 x1 x6 x8 n h (fun h4 => X4_becomeRounded_w141 G k  n h4)) ∧ (¬ x8 ≤ (971 : Int) → okO n h x0 4 ∧ S_X4_becomeInfinite G (kl k) x0 x1 n h (fun h6 => X4_becomeRounded_w141 G k  n h6)))) : X4_becomeRounded_w116 G k x0 x1 x6 x8 n h := by
  subst hn0
  refine ww_iload C 8 3 rfl dX4_becomeRounded_116 ?_
  refine ww_sipush C (z := 971) dX4_becomeRounded_118 rfl ?_
  obtain ⟨p1, hy⟩ := hy
  refine ww_icmp_le C (tg := 132) dX4_becomeRounded_121 (by decide) p1.1 p1.2 (fun c2 => ?_) (fun c2 => ?_)
  · have hy := hy.1 c2
    refine ww_aload_n C 0 0 rfl rfl dX4_becomeRounded_132 ?_
    refine ww_iload_n C 1 1 rfl rfl dX4_becomeRounded_133 ?_
    refine ww_lload C 6 2 rfl dX4_becomeRounded_134 ?_
    refine ww_iload C 8 3 rfl dX4_becomeRounded_136 ?_
    obtain ⟨p3, hy⟩ := hy
    refine cl_X4_174 C dX4_becomeRounded_138 (Nat.le_of_ble_eq_true rfl) ⟨by decide, by decide⟩ ⟨by decide, by decide⟩ p3 ?_
    refine S_X4_becomeFinite.mono hy (fun h4 hy => ?_)
    exact ww_sub [] rfl (by decide) (by decide) hy
  · have hy := hy.2 c2
    refine ww_aload_n C 0 0 rfl rfl dX4_becomeRounded_124 ?_
    refine ww_iload_n C 1 1 rfl rfl dX4_becomeRounded_125 ?_
    obtain ⟨p5, hy⟩ := hy
    refine cl_X4_90 C dX4_becomeRounded_126 (Nat.le_of_ble_eq_true rfl) ⟨by decide, by decide⟩ ⟨by decide, by decide⟩ p5 ?_
    refine S_X4_becomeInfinite.mono hy (fun h6 hy => ?_)
    refine ww_goto C (tg := 141) dX4_becomeRounded_129 (by decide) ?_
    exact ww_sub [] rfl (by decide) (by decide) hy
set_option maxRecDepth 100000 in
set_option maxHeartbeats 4000000 in
theorem X4_becomeRounded_b141 {G : xG} {k : xK} {n0 : Nat} {Po : xH → Prop} (C : CC G k cX4_becomeRounded RX4 14 rm_X4_becomeRounded) (E : CQ G k none rm_X4_becomeRounded (fun r n1 h1 => r = none ∧ n1 = n0 ∧ Po h1))  (n : Nat) (h : xH) (hn0 : n = n0) (hy : Po h) : X4_becomeRounded_w141 G k  n h := by
  subst hn0
  exact ww_vret C E dX4_becomeRounded_141 (by decide) (by decide) ⟨rfl, rfl, hy⟩
abbrev X4_becomeNearest_w0 (G : xG) (k : xK) (x0 : Nat) (x1 : Int) (x2 : Int) (n : Nat) (h : xH) : Prop := WW G k 7 0 0 0 [(0, rf G x0), (1, .int (iz x1)), (2, .int (iz x2))] [] n h
abbrev X4_becomeNearest_w20 (G : xG) (k : xK) (x0 : Nat) (x1 : Int) (n : Nat) (h : xH) : Prop := WW G k 7 0 0 20 [(0, rf G x0), (1, .int (iz x1))] [] n h
abbrev X4_becomeNearest_w113 (G : xG) (k : xK)  (n : Nat) (h : xH) : Prop := WW G k 7 0 0 113 [] [] n h
theorem S_X4_becomeNearest_of {G : xG} {l : Launch} {x0 : Nat} {x1 : Int} {x2 : Int} {n : Nat} {h : xH} {Po : xH → Prop} (body : ∀ k : xK, kl k = l → CC G k cX4_becomeNearest RX4 7 rm_X4_becomeNearest → CQ G k none rm_X4_becomeNearest (fun r n1 h1 => r = none ∧ n1 = n ∧ Po h1) → X4_becomeNearest_w0 G k x0 x1 x2 n h) : S_X4_becomeNearest G l x0 x1 x2 n h Po := xS_of (by decide +kernel) (Nat.le_of_ble_eq_true rfl) rfl (fun k hl hnm C E => body k hl C E)
set_option maxRecDepth 100000 in
set_option maxHeartbeats 4000000 in
theorem X4_becomeNearest_b0 {G : xG} {k : xK} {n0 : Nat} {Po : xH → Prop} (C : CC G k cX4_becomeNearest RX4 7 rm_X4_becomeNearest) (E : CQ G k none rm_X4_becomeNearest (fun r n1 h1 => r = none ∧ n1 = n0 ∧ Po h1)) (x0 : Nat) (x1 : Int) (x2 : Int) (n : Nat) (h : xH) (hn0 : n = n0) (hy : okO n h x0 4 ∧ 0 ≤ hG h x0 7 ∧ okO n h ((hG h x0 7).toNat) 1 ∧ S_X1_isZero G (kl k) ((hG h x0 7).toNat) n h (fun z4 h5 => rg z4 ∧ ((¬ z4 = 0 → X4_becomeNearest_w20 G k x0 x1 n h5) ∧ (z4 = 0 → okO n h5 x0 4 ∧ 0 ≤ hG h5 x0 8 ∧ okO n h5 ((hG h5 x0 8).toNat) 1 ∧ S_X1_isZero G (kl k) ((hG h5 x0 8).toNat) n h5 (fun z11 h12 => rg z11 ∧ ((z11 = 0 → okO n h12 x0 4 ∧ 0 ≤ hG h12 x0 7 ∧ okO n h12 ((hG h12 x0 7).toNat) 1 ∧ S_X1_bitLength G (kl k) ((hG h12 x0 7).toNat) n h12 (fun z18 h19 => okO n h19 x0 4 ∧ 0 ≤ hG h19 x0 8 ∧ okO n h19 ((hG h19 x0 8).toNat) 1 ∧ S_X1_bitLength G (kl k) ((hG h19 x0 8).toNat) n h19 (fun z23 h24 => (rg ((z18 - z23) + x2) ∧ rg (-1075 : Int)) ∧ (((-1075 : Int) ≤ ((z18 - z23) + x2) → (rg ((z18 - z23) + x2) ∧ rg (1024 : Int)) ∧ ((((z18 - z23) + x2) ≤ (1024 : Int) → S_J9_max_7cf53 G (kl k) (((z18 - z23) + x2) - 53) (-1074) n h24 (fun z29 h30 => okO n h30 x0 4 ∧ S_X4_alignTops G (kl k) x0 n h30 (fun h32 => okO n h32 x0 4 ∧ S_X4_takeQuotient G (kl k) x0 ((((z18 - z23) + x2) - z29) + 2) n h32 (fun z34 h35 => okO n h35 x0 4 ∧ S_X4_becomeRounded G (kl k) x0 x1 z34 (z29 - 1) n h35 (fun h37 => X4_becomeNearest_w113 G k  n h37))))) ∧ (¬ ((z18 - z23) + x2) ≤ (1024 : Int) → okO n h24 x0 4 ∧ S_X4_becomeInfinite G (kl k) x0 x1 n h24 (fun h39 => X4_becomeNearest_w113 G k  n h39)))) ∧ (¬ (-1075 : Int) ≤ ((z18 - z23) + x2) → okO n h24 x0 4 ∧ S_X4_becomeZero G (kl k) x0 x1 n h24 (fun h41 => X4_becomeNearest_w113 G k  n h41)))))) ∧ (¬ z11 = 0 → X4_becomeNearest_w20 G k x0 x1 n h12))))))) : X4_becomeNearest_w0 G k x0 x1 x2 n h := by
  subst hn0
  refine ww_aload_n C 0 0 rfl rfl dX4_becomeNearest_0 ?_
  obtain ⟨p1, hy⟩ := hy
  obtain ⟨p2, hy⟩ := hy
  refine gf_X4_48 C dX4_becomeNearest_1 p1 p2 ?_
  obtain ⟨p3, hy⟩ := hy
  refine cl_X4_178 C dX4_becomeNearest_4 (Nat.le_of_ble_eq_true rfl) ⟨by decide, by decide⟩ ⟨by decide, by decide⟩ p3 ?_
  refine S_X1_isZero.mono hy (fun z4 h5 hy => ?_)
  obtain ⟨p6, hy⟩ := hy
  refine ww_if_ne C (tg := 20) dX4_becomeNearest_7 (by decide) p6 (fun c7 => ?_) (fun c7 => ?_)
  · have hy := hy.1 c7
    exact ww_sub [0, 1] rfl (by decide) (by decide) hy
  · have hy := hy.2 c7
    refine ww_aload_n C 0 0 rfl rfl dX4_becomeNearest_10 ?_
    obtain ⟨p8, hy⟩ := hy
    obtain ⟨p9, hy⟩ := hy
    refine gf_X4_52 C dX4_becomeNearest_11 p8 p9 ?_
    obtain ⟨p10, hy⟩ := hy
    refine cl_X4_178 C dX4_becomeNearest_14 (Nat.le_of_ble_eq_true rfl) ⟨by decide, by decide⟩ ⟨by decide, by decide⟩ p10 ?_
    refine S_X1_isZero.mono hy (fun z11 h12 hy => ?_)
    obtain ⟨p13, hy⟩ := hy
    refine ww_if_eq C (tg := 26) dX4_becomeNearest_17 (by decide) p13 (fun c14 => ?_) (fun c14 => ?_)
    · have hy := hy.1 c14
      refine ww_aload_n C 0 0 rfl rfl dX4_becomeNearest_26 ?_
      obtain ⟨p15, hy⟩ := hy
      obtain ⟨p16, hy⟩ := hy
      refine gf_X4_48 C dX4_becomeNearest_27 p15 p16 ?_
      obtain ⟨p17, hy⟩ := hy
      refine cl_X4_150 C dX4_becomeNearest_30 (Nat.le_of_ble_eq_true rfl) ⟨by decide, by decide⟩ ⟨by decide, by decide⟩ p17 ?_
      refine S_X1_bitLength.mono hy (fun z18 h19 hy => ?_)
      refine ww_aload_n C 0 0 rfl rfl dX4_becomeNearest_33 ?_
      obtain ⟨p20, hy⟩ := hy
      obtain ⟨p21, hy⟩ := hy
      refine gf_X4_52 C dX4_becomeNearest_34 p20 p21 ?_
      obtain ⟨p22, hy⟩ := hy
      refine cl_X4_150 C dX4_becomeNearest_37 (Nat.le_of_ble_eq_true rfl) ⟨by decide, by decide⟩ ⟨by decide, by decide⟩ p22 ?_
      refine S_X1_bitLength.mono hy (fun z23 h24 hy => ?_)
      refine ww_isub C dX4_becomeNearest_40 ?_
      refine ww_iload_n C 2 2 rfl rfl dX4_becomeNearest_41 ?_
      refine ww_iadd C dX4_becomeNearest_42 ?_
      refine ww_istore_n C 3 rfl (by decide) rfl dX4_becomeNearest_43 ?_
      refine ww_iload_n C 3 0 rfl rfl dX4_becomeNearest_44 ?_
      refine ww_sipush C (z := (-1075)) dX4_becomeNearest_45 rfl ?_
      obtain ⟨p25, hy⟩ := hy
      refine ww_icmp_ge C (tg := 59) dX4_becomeNearest_48 (by decide) p25.1 p25.2 (fun c26 => ?_) (fun c26 => ?_)
      · have hy := hy.1 c26
        refine ww_iload_n C 3 0 rfl rfl dX4_becomeNearest_59 ?_
        refine ww_sipush C (z := 1024) dX4_becomeNearest_60 rfl ?_
        obtain ⟨p27, hy⟩ := hy
        refine ww_icmp_le C (tg := 74) dX4_becomeNearest_63 (by decide) p27.1 p27.2 (fun c28 => ?_) (fun c28 => ?_)
        · have hy := hy.1 c28
          refine ww_iload_n C 3 0 rfl rfl dX4_becomeNearest_74 ?_
          refine ww_bipush C (z := 53) dX4_becomeNearest_75 rfl ?_
          refine ww_isub C dX4_becomeNearest_77 ?_
          refine ww_sipush C (z := (-1074)) dX4_becomeNearest_78 rfl ?_
          refine cl_X4_184 C dX4_becomeNearest_81 (Nat.le_of_ble_eq_true rfl) ⟨by decide, by decide⟩ ⟨by decide, by decide⟩ ?_
          refine S_J9_max_7cf53.mono hy (fun z29 h30 hy => ?_)
          refine ww_istore C 4 (by decide) rfl dX4_becomeNearest_84 ?_
          refine ww_aload_n C 0 2 rfl rfl dX4_becomeNearest_86 ?_
          obtain ⟨p31, hy⟩ := hy
          refine cl_X4_187 C dX4_becomeNearest_87 (Nat.le_of_ble_eq_true rfl) ⟨by decide, by decide⟩ ⟨by decide, by decide⟩ p31 ?_
          refine S_X4_alignTops.mono hy (fun h32 hy => ?_)
          refine ww_aload_n C 0 2 rfl rfl dX4_becomeNearest_90 ?_
          refine ww_iload_n C 3 1 rfl rfl dX4_becomeNearest_91 ?_
          refine ww_iload C 4 0 rfl dX4_becomeNearest_92 ?_
          refine ww_isub C dX4_becomeNearest_94 ?_
          refine ww_iconst C (z := 2) dX4_becomeNearest_95 rfl ?_
          refine ww_iadd C dX4_becomeNearest_96 ?_
          obtain ⟨p33, hy⟩ := hy
          refine cl_X4_190 C dX4_becomeNearest_97 (Nat.le_of_ble_eq_true rfl) ⟨by decide, by decide⟩ ⟨by decide, by decide⟩ p33 ?_
          refine S_X4_takeQuotient.mono hy (fun z34 h35 hy => ?_)
          refine ww_lstore C 5 (by decide) rfl dX4_becomeNearest_100 ?_
          refine ww_aload_n C 0 3 rfl rfl dX4_becomeNearest_102 ?_
          refine ww_iload_n C 1 4 rfl rfl dX4_becomeNearest_103 ?_
          refine ww_lload C 5 0 rfl dX4_becomeNearest_104 ?_
          refine ww_iload C 4 1 rfl dX4_becomeNearest_106 ?_
          refine ww_iconst C (z := 1) dX4_becomeNearest_108 rfl ?_
          refine ww_isub C dX4_becomeNearest_109 ?_
          obtain ⟨p36, hy⟩ := hy
          refine cl_X4_194 C dX4_becomeNearest_110 (Nat.le_of_ble_eq_true rfl) ⟨by decide, by decide⟩ ⟨by decide, by decide⟩ p36 ?_
          refine S_X4_becomeRounded.mono hy (fun h37 hy => ?_)
          exact ww_sub [] rfl (by decide) (by decide) hy
        · have hy := hy.2 c28
          refine ww_aload_n C 0 1 rfl rfl dX4_becomeNearest_66 ?_
          refine ww_iload_n C 1 2 rfl rfl dX4_becomeNearest_67 ?_
          obtain ⟨p38, hy⟩ := hy
          refine cl_X4_90 C dX4_becomeNearest_68 (Nat.le_of_ble_eq_true rfl) ⟨by decide, by decide⟩ ⟨by decide, by decide⟩ p38 ?_
          refine S_X4_becomeInfinite.mono hy (fun h39 hy => ?_)
          refine ww_goto C (tg := 113) dX4_becomeNearest_71 (by decide) ?_
          exact ww_sub [] rfl (by decide) (by decide) hy
      · have hy := hy.2 c26
        refine ww_aload_n C 0 1 rfl rfl dX4_becomeNearest_51 ?_
        refine ww_iload_n C 1 2 rfl rfl dX4_becomeNearest_52 ?_
        obtain ⟨p40, hy⟩ := hy
        refine cl_X4_181 C dX4_becomeNearest_53 (Nat.le_of_ble_eq_true rfl) ⟨by decide, by decide⟩ ⟨by decide, by decide⟩ p40 ?_
        refine S_X4_becomeZero.mono hy (fun h41 hy => ?_)
        refine ww_goto C (tg := 113) dX4_becomeNearest_56 (by decide) ?_
        exact ww_sub [] rfl (by decide) (by decide) hy
    · have hy := hy.2 c14
      exact ww_sub [0, 1] rfl (by decide) (by decide) hy
set_option maxRecDepth 100000 in
set_option maxHeartbeats 4000000 in
theorem X4_becomeNearest_b20 {G : xG} {k : xK} {n0 : Nat} {Po : xH → Prop} (C : CC G k cX4_becomeNearest RX4 7 rm_X4_becomeNearest) (E : CQ G k none rm_X4_becomeNearest (fun r n1 h1 => r = none ∧ n1 = n0 ∧ Po h1)) (x0 : Nat) (x1 : Int) (n : Nat) (h : xH) (hn0 : n = n0) (hy : okO n h x0 4 ∧ S_X4_becomeZero G (kl k) x0 x1 n h (fun h2 => Po h2)) : X4_becomeNearest_w20 G k x0 x1 n h := by
  subst hn0
  refine ww_aload_n C 0 0 rfl rfl dX4_becomeNearest_20 ?_
  refine ww_iload_n C 1 1 rfl rfl dX4_becomeNearest_21 ?_
  obtain ⟨p1, hy⟩ := hy
  refine cl_X4_181 C dX4_becomeNearest_22 (Nat.le_of_ble_eq_true rfl) ⟨by decide, by decide⟩ ⟨by decide, by decide⟩ p1 ?_
  refine S_X4_becomeZero.mono hy (fun h2 hy => ?_)
  exact ww_vret C E dX4_becomeNearest_25 (by decide) (by decide) ⟨rfl, rfl, hy⟩
set_option maxRecDepth 100000 in
set_option maxHeartbeats 4000000 in
theorem X4_becomeNearest_b113 {G : xG} {k : xK} {n0 : Nat} {Po : xH → Prop} (C : CC G k cX4_becomeNearest RX4 7 rm_X4_becomeNearest) (E : CQ G k none rm_X4_becomeNearest (fun r n1 h1 => r = none ∧ n1 = n0 ∧ Po h1))  (n : Nat) (h : xH) (hn0 : n = n0) (hy : Po h) : X4_becomeNearest_w113 G k  n h := by
  subst hn0
  exact ww_vret C E dX4_becomeNearest_113 (by decide) (by decide) ⟨rfl, rfl, hy⟩
abbrev X4_greatestOddDivisor_w0 (G : xG) (k : xK) (x0 : Nat) (n : Nat) (h : xH) : Prop := WW G k 6 0 0 0 [(0, rf G x0)] [] n h
abbrev X4_greatestOddDivisor_w44 (G : xG) (k : xK) (x1 : Nat) (x2 : Nat) (x3 : Int) (n : Nat) (h : xH) : Prop := WW G k 6 0 0 44 [(1, rf G x1), (2, rf G x2), (3, .int (iz x3))] [] n h
abbrev X4_greatestOddDivisor_w98 (G : xG) (k : xK) (x2 : Nat) (n : Nat) (h : xH) : Prop := WW G k 6 0 0 98 [(2, rf G x2)] [] n h
abbrev X4_greatestOddDivisor_w79 (G : xG) (k : xK) (x1 : Nat) (x2 : Nat) (x3 : Int) (n : Nat) (h : xH) : Prop := WW G k 6 0 0 79 [(1, rf G x1), (2, rf G x2), (3, .int (iz x3))] [] n h
theorem S_X4_greatestOddDivisor_of {G : xG} {l : Launch} {x0 : Nat} {n : Nat} {h : xH} {Po : Nat → xH → Prop} (body : ∀ k : xK, kl k = l → CC G k cX4_greatestOddDivisor RX4 6 rm_X4_greatestOddDivisor → CQ G k (some (.object "DoubleTexts$Natural")) rm_X4_greatestOddDivisor (fun r n1 h1 => ∃ z : Nat, r = some (rf G z) ∧ n1 = n ∧ Po z h1) → X4_greatestOddDivisor_w0 G k x0 n h) : S_X4_greatestOddDivisor G l x0 n h Po := xS_of (by decide +kernel) (Nat.le_of_ble_eq_true rfl) rfl (fun k hl hnm C E => body k hl C E)
set_option maxRecDepth 100000 in
set_option maxHeartbeats 4000000 in
theorem X4_greatestOddDivisor_b0 {G : xG} {k : xK} {n0 : Nat} {Po : Nat → xH → Prop} (C : CC G k cX4_greatestOddDivisor RX4 6 rm_X4_greatestOddDivisor) (E : CQ G k (some (.object "DoubleTexts$Natural")) rm_X4_greatestOddDivisor (fun r n1 h1 => ∃ z : Nat, r = some (rf G z) ∧ n1 = n0 ∧ Po z h1)) (x0 : Nat) (n : Nat) (h : xH) (hn0 : n = n0) (hy : okO n h x0 4 ∧ 0 ≤ hG h x0 9 ∧ okO n h x0 4 ∧ 0 ≤ hG h x0 10 ∧ okO n h x0 4 ∧ 0 ≤ hG h x0 7 ∧ okO n h ((hG h x0 9).toNat) 1 ∧ S_X1_copy G (kl k) ((hG h x0 9).toNat) ((hG h x0 7).toNat) n h (fun h8 => okO n h8 x0 4 ∧ 0 ≤ hG h8 x0 8 ∧ okO n h8 ((hG h x0 10).toNat) 1 ∧ S_X1_copy G (kl k) ((hG h x0 10).toNat) ((hG h8 x0 8).toNat) n h8 (fun h12 => okO n h12 ((hG h x0 9).toNat) 1 ∧ S_X1_trailingZeros G (kl k) ((hG h x0 9).toNat) n h12 (fun z14 h15 => okO n h15 ((hG h x0 9).toNat) 1 ∧ S_X1_shiftRight G (kl k) ((hG h x0 9).toNat) z14 n h15 (fun h17 => okO n h17 ((hG h x0 10).toNat) 1 ∧ S_X1_trailingZeros G (kl k) ((hG h x0 10).toNat) n h17 (fun z19 h20 => okO n h20 ((hG h x0 10).toNat) 1 ∧ S_X1_shiftRight G (kl k) ((hG h x0 10).toNat) z19 n h20 (fun h22 => X4_greatestOddDivisor_w44 G k ((hG h x0 9).toNat) ((hG h x0 10).toNat) 0 n h22))))))) : X4_greatestOddDivisor_w0 G k x0 n h := by
  subst hn0
  refine ww_aload_n C 0 0 rfl rfl dX4_greatestOddDivisor_0 ?_
  obtain ⟨p1, hy⟩ := hy
  obtain ⟨p2, hy⟩ := hy
  refine gf_X4_55 C dX4_greatestOddDivisor_1 p1 p2 ?_
  refine ww_astore_n C 1 rfl (by decide) rfl dX4_greatestOddDivisor_4 ?_
  refine ww_aload_n C 0 1 rfl rfl dX4_greatestOddDivisor_5 ?_
  obtain ⟨p3, hy⟩ := hy
  obtain ⟨p4, hy⟩ := hy
  refine gf_X4_58 C dX4_greatestOddDivisor_6 p3 p4 ?_
  refine ww_astore_n C 2 rfl (by decide) rfl dX4_greatestOddDivisor_9 ?_
  refine ww_aload_n C 1 1 rfl rfl dX4_greatestOddDivisor_10 ?_
  refine ww_aload_n C 0 2 rfl rfl dX4_greatestOddDivisor_11 ?_
  obtain ⟨p5, hy⟩ := hy
  obtain ⟨p6, hy⟩ := hy
  refine gf_X4_48 C dX4_greatestOddDivisor_12 p5 p6 ?_
  obtain ⟨p7, hy⟩ := hy
  refine cl_X4_241 C dX4_greatestOddDivisor_15 (Nat.le_of_ble_eq_true rfl) ⟨by decide, by decide⟩ ⟨by decide, by decide⟩ p7 ?_
  refine S_X1_copy.mono hy (fun h8 hy => ?_)
  refine ww_aload_n C 2 0 rfl rfl dX4_greatestOddDivisor_18 ?_
  refine ww_aload_n C 0 2 rfl rfl dX4_greatestOddDivisor_19 ?_
  obtain ⟨p9, hy⟩ := hy
  obtain ⟨p10, hy⟩ := hy
  refine gf_X4_52 C dX4_greatestOddDivisor_20 p9 p10 ?_
  obtain ⟨p11, hy⟩ := hy
  refine cl_X4_241 C dX4_greatestOddDivisor_23 (Nat.le_of_ble_eq_true rfl) ⟨by decide, by decide⟩ ⟨by decide, by decide⟩ p11 ?_
  refine S_X1_copy.mono hy (fun h12 hy => ?_)
  refine ww_aload_n C 1 1 rfl rfl dX4_greatestOddDivisor_26 ?_
  refine ww_aload_n C 1 1 rfl rfl dX4_greatestOddDivisor_27 ?_
  obtain ⟨p13, hy⟩ := hy
  refine cl_X4_225 C dX4_greatestOddDivisor_28 (Nat.le_of_ble_eq_true rfl) ⟨by decide, by decide⟩ ⟨by decide, by decide⟩ p13 ?_
  refine S_X1_trailingZeros.mono hy (fun z14 h15 hy => ?_)
  obtain ⟨p16, hy⟩ := hy
  refine cl_X4_145 C dX4_greatestOddDivisor_31 (Nat.le_of_ble_eq_true rfl) ⟨by decide, by decide⟩ ⟨by decide, by decide⟩ p16 ?_
  refine S_X1_shiftRight.mono hy (fun h17 hy => ?_)
  refine ww_aload_n C 2 0 rfl rfl dX4_greatestOddDivisor_34 ?_
  refine ww_aload_n C 2 0 rfl rfl dX4_greatestOddDivisor_35 ?_
  obtain ⟨p18, hy⟩ := hy
  refine cl_X4_225 C dX4_greatestOddDivisor_36 (Nat.le_of_ble_eq_true rfl) ⟨by decide, by decide⟩ ⟨by decide, by decide⟩ p18 ?_
  refine S_X1_trailingZeros.mono hy (fun z19 h20 hy => ?_)
  obtain ⟨p21, hy⟩ := hy
  refine cl_X4_145 C dX4_greatestOddDivisor_39 (Nat.le_of_ble_eq_true rfl) ⟨by decide, by decide⟩ ⟨by decide, by decide⟩ p21 ?_
  refine S_X1_shiftRight.mono hy (fun h22 hy => ?_)
  refine ww_iconst C (z := 0) dX4_greatestOddDivisor_42 rfl ?_
  refine ww_istore_n C 3 rfl (by decide) rfl dX4_greatestOddDivisor_43 ?_
  exact ww_sub [2, 1, 0] rfl (by decide) (by decide) hy
set_option maxRecDepth 100000 in
set_option maxHeartbeats 4000000 in
theorem X4_greatestOddDivisor_b44 {G : xG} {k : xK} {n0 : Nat} {Po : Nat → xH → Prop} (C : CC G k cX4_greatestOddDivisor RX4 6 rm_X4_greatestOddDivisor) (E : CQ G k (some (.object "DoubleTexts$Natural")) rm_X4_greatestOddDivisor (fun r n1 h1 => ∃ z : Nat, r = some (rf G z) ∧ n1 = n0 ∧ Po z h1)) (x1 : Nat) (x2 : Nat) (x3 : Int) (n : Nat) (h : xH) (hn0 : n = n0) (hy : (rg x3 ∧ rg (8448 : Int)) ∧ (((8448 : Int) ≤ x3 → X4_greatestOddDivisor_w98 G k x2 n h) ∧ (¬ (8448 : Int) ≤ x3 → okO n h x1 1 ∧ S_X1_compare G (kl k) x1 x2 n h (fun z4 h5 => rg z4 ∧ ((¬ z4 = 0 → rg z4 ∧ ((0 ≤ z4 → X4_greatestOddDivisor_w79 G k x1 x2 x3 n h5) ∧ (¬ 0 ≤ z4 → X4_greatestOddDivisor_w79 G k x2 x1 x3 n h5))) ∧ (z4 = 0 → X4_greatestOddDivisor_w98 G k x2 n h5)))))) : X4_greatestOddDivisor_w44 G k x1 x2 x3 n h := by
  subst hn0
  refine ww_iload_n C 3 2 rfl rfl dX4_greatestOddDivisor_44 ?_
  refine ww_sipush C (z := 8448) dX4_greatestOddDivisor_45 rfl ?_
  obtain ⟨p1, hy⟩ := hy
  refine ww_icmp_ge C (tg := 98) dX4_greatestOddDivisor_48 (by decide) p1.1 p1.2 (fun c2 => ?_) (fun c2 => ?_)
  · have hy := hy.1 c2
    exact ww_sub [1] rfl (by decide) (by decide) hy
  · have hy := hy.2 c2
    refine ww_aload_n C 1 0 rfl rfl dX4_greatestOddDivisor_51 ?_
    refine ww_aload_n C 2 1 rfl rfl dX4_greatestOddDivisor_52 ?_
    obtain ⟨p3, hy⟩ := hy
    refine cl_X4_197 C dX4_greatestOddDivisor_53 (Nat.le_of_ble_eq_true rfl) ⟨by decide, by decide⟩ ⟨by decide, by decide⟩ p3 ?_
    refine S_X1_compare.mono hy (fun z4 h5 hy => ?_)
    refine ww_istore C 4 (by decide) rfl dX4_greatestOddDivisor_56 ?_
    refine ww_iload C 4 0 rfl dX4_greatestOddDivisor_58 ?_
    obtain ⟨p6, hy⟩ := hy
    refine ww_if_ne C (tg := 66) dX4_greatestOddDivisor_60 (by decide) p6 (fun c7 => ?_) (fun c7 => ?_)
    · have hy := hy.1 c7
      refine ww_iload C 4 0 rfl dX4_greatestOddDivisor_66 ?_
      obtain ⟨p8, hy⟩ := hy
      refine ww_if_ge C (tg := 79) dX4_greatestOddDivisor_68 (by decide) p8 (fun c9 => ?_) (fun c9 => ?_)
      · have hy := hy.1 c9
        exact ww_sub [1, 2, 3] rfl (by decide) (by decide) hy
      · have hy := hy.2 c9
        refine ww_aload_n C 1 1 rfl rfl dX4_greatestOddDivisor_71 ?_
        refine ww_astore C 5 (by decide) rfl dX4_greatestOddDivisor_72 ?_
        refine ww_aload_n C 2 3 rfl rfl dX4_greatestOddDivisor_74 ?_
        refine ww_astore_n C 1 rfl (by decide) rfl dX4_greatestOddDivisor_75 ?_
        refine ww_aload C 5 1 rfl dX4_greatestOddDivisor_76 ?_
        refine ww_astore_n C 2 rfl (by decide) rfl dX4_greatestOddDivisor_78 ?_
        exact ww_sub [1, 0, 4] rfl (by decide) (by decide) hy
    · have hy := hy.2 c7
      refine ww_goto C (tg := 98) dX4_greatestOddDivisor_63 (by decide) ?_
      exact ww_sub [2] rfl (by decide) (by decide) hy
set_option maxRecDepth 100000 in
set_option maxHeartbeats 4000000 in
theorem X4_greatestOddDivisor_b98 {G : xG} {k : xK} {n0 : Nat} {Po : Nat → xH → Prop} (C : CC G k cX4_greatestOddDivisor RX4 6 rm_X4_greatestOddDivisor) (E : CQ G k (some (.object "DoubleTexts$Natural")) rm_X4_greatestOddDivisor (fun r n1 h1 => ∃ z : Nat, r = some (rf G z) ∧ n1 = n0 ∧ Po z h1)) (x2 : Nat) (n : Nat) (h : xH) (hn0 : n = n0) (hy : Po x2 h) : X4_greatestOddDivisor_w98 G k x2 n h := by
  subst hn0
  refine ww_aload_n C 2 0 rfl rfl dX4_greatestOddDivisor_98 ?_
  exact ww_aretR C E (Or.inl ⟨_, rfl⟩) dX4_greatestOddDivisor_99 (by decide) (by decide) ⟨_, rfl, rfl, hy⟩
set_option maxRecDepth 100000 in
set_option maxHeartbeats 4000000 in
theorem X4_greatestOddDivisor_b79 {G : xG} {k : xK} {n0 : Nat} {Po : Nat → xH → Prop} (C : CC G k cX4_greatestOddDivisor RX4 6 rm_X4_greatestOddDivisor) (E : CQ G k (some (.object "DoubleTexts$Natural")) rm_X4_greatestOddDivisor (fun r n1 h1 => ∃ z : Nat, r = some (rf G z) ∧ n1 = n0 ∧ Po z h1)) (x1 : Nat) (x2 : Nat) (x3 : Int) (n : Nat) (h : xH) (hn0 : n = n0) (hy : okO n h x1 1 ∧ S_X1_subtract G (kl k) x1 x2 n h (fun h2 => okO n h2 x1 1 ∧ S_X1_trailingZeros G (kl k) x1 n h2 (fun z4 h5 => okO n h5 x1 1 ∧ S_X1_shiftRight G (kl k) x1 z4 n h5 (fun h7 => X4_greatestOddDivisor_w44 G k x1 x2 (x3 + 1) n h7)))) : X4_greatestOddDivisor_w79 G k x1 x2 x3 n h := by
  subst hn0
  refine ww_aload_n C 1 0 rfl rfl dX4_greatestOddDivisor_79 ?_
  refine ww_aload_n C 2 1 rfl rfl dX4_greatestOddDivisor_80 ?_
  obtain ⟨p1, hy⟩ := hy
  refine cl_X4_201 C dX4_greatestOddDivisor_81 (Nat.le_of_ble_eq_true rfl) ⟨by decide, by decide⟩ ⟨by decide, by decide⟩ p1 ?_
  refine S_X1_subtract.mono hy (fun h2 hy => ?_)
  refine ww_aload_n C 1 0 rfl rfl dX4_greatestOddDivisor_84 ?_
  refine ww_aload_n C 1 0 rfl rfl dX4_greatestOddDivisor_85 ?_
  obtain ⟨p3, hy⟩ := hy
  refine cl_X4_225 C dX4_greatestOddDivisor_86 (Nat.le_of_ble_eq_true rfl) ⟨by decide, by decide⟩ ⟨by decide, by decide⟩ p3 ?_
  refine S_X1_trailingZeros.mono hy (fun z4 h5 hy => ?_)
  obtain ⟨p6, hy⟩ := hy
  refine cl_X4_145 C dX4_greatestOddDivisor_89 (Nat.le_of_ble_eq_true rfl) ⟨by decide, by decide⟩ ⟨by decide, by decide⟩ p6 ?_
  refine S_X1_shiftRight.mono hy (fun h7 hy => ?_)
  refine ww_iinc C 3 2 rfl (by decide) rfl dX4_greatestOddDivisor_92 ?_
  refine ww_goto C (tg := 44) dX4_greatestOddDivisor_95 (by decide) ?_
  exact ww_sub [1, 2, 0] rfl (by decide) (by decide) hy
abbrev X4_bringToLowestTerms_w0 (G : xG) (k : xK) (x0 : Nat) (n : Nat) (h : xH) : Prop := WW G k 3 0 0 0 [(0, rf G x0)] [] n h
abbrev X4_bringToLowestTerms_w20 (G : xG) (k : xK) (x0 : Nat) (n : Nat) (h : xH) : Prop := WW G k 3 0 0 20 [(0, rf G x0)] [] n h
abbrev X4_bringToLowestTerms_w91 (G : xG) (k : xK)  (n : Nat) (h : xH) : Prop := WW G k 3 0 0 91 [] [] n h
theorem S_X4_bringToLowestTerms_of {G : xG} {l : Launch} {x0 : Nat} {n : Nat} {h : xH} {Po : xH → Prop} (body : ∀ k : xK, kl k = l → CC G k cX4_bringToLowestTerms RX4 3 rm_X4_bringToLowestTerms → CQ G k none rm_X4_bringToLowestTerms (fun r n1 h1 => r = none ∧ n1 = n ∧ Po h1) → X4_bringToLowestTerms_w0 G k x0 n h) : S_X4_bringToLowestTerms G l x0 n h Po := xS_of (by decide +kernel) (Nat.le_of_ble_eq_true rfl) rfl (fun k hl hnm C E => body k hl C E)
set_option maxRecDepth 100000 in
set_option maxHeartbeats 4000000 in
theorem X4_bringToLowestTerms_b0 {G : xG} {k : xK} {n0 : Nat} {Po : xH → Prop} (C : CC G k cX4_bringToLowestTerms RX4 3 rm_X4_bringToLowestTerms) (E : CQ G k none rm_X4_bringToLowestTerms (fun r n1 h1 => r = none ∧ n1 = n0 ∧ Po h1)) (x0 : Nat) (n : Nat) (h : xH) (hn0 : n = n0) (hy : okO n h x0 4 ∧ 0 ≤ hG h x0 7 ∧ okO n h ((hG h x0 7).toNat) 1 ∧ S_X1_isZero G (kl k) ((hG h x0 7).toNat) n h (fun z4 h5 => rg z4 ∧ ((¬ z4 = 0 → X4_bringToLowestTerms_w20 G k x0 n h5) ∧ (z4 = 0 → okO n h5 x0 4 ∧ 0 ≤ hG h5 x0 8 ∧ okO n h5 ((hG h5 x0 8).toNat) 1 ∧ S_X1_isOne G (kl k) ((hG h5 x0 8).toNat) n h5 (fun z11 h12 => rg z11 ∧ ((z11 = 0 → okO n h12 x0 4 ∧ 0 ≤ hG h12 x0 7 ∧ okO n h12 ((hG h12 x0 7).toNat) 1 ∧ S_X1_trailingZeros G (kl k) ((hG h12 x0 7).toNat) n h12 (fun z18 h19 => okO n h19 x0 4 ∧ 0 ≤ hG h19 x0 8 ∧ okO n h19 ((hG h19 x0 8).toNat) 1 ∧ S_X1_trailingZeros G (kl k) ((hG h19 x0 8).toNat) n h19 (fun z23 h24 => S_J9_min_7cf53 G (kl k) z18 z23 n h24 (fun z25 h26 => okO n h26 x0 4 ∧ 0 ≤ hG h26 x0 7 ∧ okO n h26 ((hG h26 x0 7).toNat) 1 ∧ S_X1_shiftRight G (kl k) ((hG h26 x0 7).toNat) z25 n h26 (fun h30 => okO n h30 x0 4 ∧ 0 ≤ hG h30 x0 8 ∧ okO n h30 ((hG h30 x0 8).toNat) 1 ∧ S_X1_shiftRight G (kl k) ((hG h30 x0 8).toNat) z25 n h30 (fun h34 => okO n h34 x0 4 ∧ S_X4_greatestOddDivisor G (kl k) x0 n h34 (fun z36 h37 => okO n h37 z36 1 ∧ S_X1_isOne G (kl k) z36 n h37 (fun z39 h40 => rg z39 ∧ ((¬ z39 = 0 → X4_bringToLowestTerms_w91 G k  n h40) ∧ (z39 = 0 → okO n h40 x0 4 ∧ 0 ≤ hG h40 x0 7 ∧ okO n h40 ((hG h40 x0 7).toNat) 1 ∧ S_X1_divideByOddFactor G (kl k) ((hG h40 x0 7).toNat) z36 n h40 (fun h46 => okO n h46 x0 4 ∧ 0 ≤ hG h46 x0 8 ∧ okO n h46 ((hG h46 x0 8).toNat) 1 ∧ S_X1_divideByOddFactor G (kl k) ((hG h46 x0 8).toNat) z36 n h46 (fun h50 => X4_bringToLowestTerms_w91 G k  n h50)))))))))))) ∧ (¬ z11 = 0 → X4_bringToLowestTerms_w20 G k x0 n h12))))))) : X4_bringToLowestTerms_w0 G k x0 n h := by
  subst hn0
  refine ww_aload_n C 0 0 rfl rfl dX4_bringToLowestTerms_0 ?_
  obtain ⟨p1, hy⟩ := hy
  obtain ⟨p2, hy⟩ := hy
  refine gf_X4_48 C dX4_bringToLowestTerms_1 p1 p2 ?_
  obtain ⟨p3, hy⟩ := hy
  refine cl_X4_178 C dX4_bringToLowestTerms_4 (Nat.le_of_ble_eq_true rfl) ⟨by decide, by decide⟩ ⟨by decide, by decide⟩ p3 ?_
  refine S_X1_isZero.mono hy (fun z4 h5 hy => ?_)
  obtain ⟨p6, hy⟩ := hy
  refine ww_if_ne C (tg := 20) dX4_bringToLowestTerms_7 (by decide) p6 (fun c7 => ?_) (fun c7 => ?_)
  · have hy := hy.1 c7
    exact ww_sub [0] rfl (by decide) (by decide) hy
  · have hy := hy.2 c7
    refine ww_aload_n C 0 0 rfl rfl dX4_bringToLowestTerms_10 ?_
    obtain ⟨p8, hy⟩ := hy
    obtain ⟨p9, hy⟩ := hy
    refine gf_X4_52 C dX4_bringToLowestTerms_11 p8 p9 ?_
    obtain ⟨p10, hy⟩ := hy
    refine cl_X4_231 C dX4_bringToLowestTerms_14 (Nat.le_of_ble_eq_true rfl) ⟨by decide, by decide⟩ ⟨by decide, by decide⟩ p10 ?_
    refine S_X1_isOne.mono hy (fun z11 h12 hy => ?_)
    obtain ⟨p13, hy⟩ := hy
    refine ww_if_eq C (tg := 29) dX4_bringToLowestTerms_17 (by decide) p13 (fun c14 => ?_) (fun c14 => ?_)
    · have hy := hy.1 c14
      refine ww_aload_n C 0 0 rfl rfl dX4_bringToLowestTerms_29 ?_
      obtain ⟨p15, hy⟩ := hy
      obtain ⟨p16, hy⟩ := hy
      refine gf_X4_48 C dX4_bringToLowestTerms_30 p15 p16 ?_
      obtain ⟨p17, hy⟩ := hy
      refine cl_X4_225 C dX4_bringToLowestTerms_33 (Nat.le_of_ble_eq_true rfl) ⟨by decide, by decide⟩ ⟨by decide, by decide⟩ p17 ?_
      refine S_X1_trailingZeros.mono hy (fun z18 h19 hy => ?_)
      refine ww_aload_n C 0 0 rfl rfl dX4_bringToLowestTerms_36 ?_
      obtain ⟨p20, hy⟩ := hy
      obtain ⟨p21, hy⟩ := hy
      refine gf_X4_52 C dX4_bringToLowestTerms_37 p20 p21 ?_
      obtain ⟨p22, hy⟩ := hy
      refine cl_X4_225 C dX4_bringToLowestTerms_40 (Nat.le_of_ble_eq_true rfl) ⟨by decide, by decide⟩ ⟨by decide, by decide⟩ p22 ?_
      refine S_X1_trailingZeros.mono hy (fun z23 h24 hy => ?_)
      refine cl_X4_139 C dX4_bringToLowestTerms_43 (Nat.le_of_ble_eq_true rfl) ⟨by decide, by decide⟩ ⟨by decide, by decide⟩ ?_
      refine S_J9_min_7cf53.mono hy (fun z25 h26 hy => ?_)
      refine ww_istore_n C 1 rfl (by decide) rfl dX4_bringToLowestTerms_46 ?_
      refine ww_aload_n C 0 1 rfl rfl dX4_bringToLowestTerms_47 ?_
      obtain ⟨p27, hy⟩ := hy
      obtain ⟨p28, hy⟩ := hy
      refine gf_X4_48 C dX4_bringToLowestTerms_48 p27 p28 ?_
      refine ww_iload_n C 1 0 rfl rfl dX4_bringToLowestTerms_51 ?_
      obtain ⟨p29, hy⟩ := hy
      refine cl_X4_145 C dX4_bringToLowestTerms_52 (Nat.le_of_ble_eq_true rfl) ⟨by decide, by decide⟩ ⟨by decide, by decide⟩ p29 ?_
      refine S_X1_shiftRight.mono hy (fun h30 hy => ?_)
      refine ww_aload_n C 0 1 rfl rfl dX4_bringToLowestTerms_55 ?_
      obtain ⟨p31, hy⟩ := hy
      obtain ⟨p32, hy⟩ := hy
      refine gf_X4_52 C dX4_bringToLowestTerms_56 p31 p32 ?_
      refine ww_iload_n C 1 0 rfl rfl dX4_bringToLowestTerms_59 ?_
      obtain ⟨p33, hy⟩ := hy
      refine cl_X4_145 C dX4_bringToLowestTerms_60 (Nat.le_of_ble_eq_true rfl) ⟨by decide, by decide⟩ ⟨by decide, by decide⟩ p33 ?_
      refine S_X1_shiftRight.mono hy (fun h34 hy => ?_)
      refine ww_aload_n C 0 1 rfl rfl dX4_bringToLowestTerms_63 ?_
      obtain ⟨p35, hy⟩ := hy
      refine cl_X4_234 C dX4_bringToLowestTerms_64 (Nat.le_of_ble_eq_true rfl) ⟨by decide, by decide⟩ ⟨by decide, by decide⟩ p35 ?_
      refine S_X4_greatestOddDivisor.mono hy (fun z36 h37 hy => ?_)
      refine ww_astore_n C 2 rfl (by decide) rfl dX4_bringToLowestTerms_67 ?_
      refine ww_aload_n C 2 0 rfl rfl dX4_bringToLowestTerms_68 ?_
      obtain ⟨p38, hy⟩ := hy
      refine cl_X4_231 C dX4_bringToLowestTerms_69 (Nat.le_of_ble_eq_true rfl) ⟨by decide, by decide⟩ ⟨by decide, by decide⟩ p38 ?_
      refine S_X1_isOne.mono hy (fun z39 h40 hy => ?_)
      obtain ⟨p41, hy⟩ := hy
      refine ww_if_ne C (tg := 91) dX4_bringToLowestTerms_72 (by decide) p41 (fun c42 => ?_) (fun c42 => ?_)
      · have hy := hy.1 c42
        exact ww_sub [] rfl (by decide) (by decide) hy
      · have hy := hy.2 c42
        refine ww_aload_n C 0 2 rfl rfl dX4_bringToLowestTerms_75 ?_
        obtain ⟨p43, hy⟩ := hy
        obtain ⟨p44, hy⟩ := hy
        refine gf_X4_48 C dX4_bringToLowestTerms_76 p43 p44 ?_
        refine ww_aload_n C 2 0 rfl rfl dX4_bringToLowestTerms_79 ?_
        obtain ⟨p45, hy⟩ := hy
        refine cl_X4_238 C dX4_bringToLowestTerms_80 (Nat.le_of_ble_eq_true rfl) ⟨by decide, by decide⟩ ⟨by decide, by decide⟩ p45 ?_
        refine S_X1_divideByOddFactor.mono hy (fun h46 hy => ?_)
        refine ww_aload_n C 0 2 rfl rfl dX4_bringToLowestTerms_83 ?_
        obtain ⟨p47, hy⟩ := hy
        obtain ⟨p48, hy⟩ := hy
        refine gf_X4_52 C dX4_bringToLowestTerms_84 p47 p48 ?_
        refine ww_aload_n C 2 0 rfl rfl dX4_bringToLowestTerms_87 ?_
        obtain ⟨p49, hy⟩ := hy
        refine cl_X4_238 C dX4_bringToLowestTerms_88 (Nat.le_of_ble_eq_true rfl) ⟨by decide, by decide⟩ ⟨by decide, by decide⟩ p49 ?_
        refine S_X1_divideByOddFactor.mono hy (fun h50 hy => ?_)
        exact ww_sub [] rfl (by decide) (by decide) hy
    · have hy := hy.2 c14
      exact ww_sub [0] rfl (by decide) (by decide) hy
set_option maxRecDepth 100000 in
set_option maxHeartbeats 4000000 in
theorem X4_bringToLowestTerms_b20 {G : xG} {k : xK} {n0 : Nat} {Po : xH → Prop} (C : CC G k cX4_bringToLowestTerms RX4 3 rm_X4_bringToLowestTerms) (E : CQ G k none rm_X4_bringToLowestTerms (fun r n1 h1 => r = none ∧ n1 = n0 ∧ Po h1)) (x0 : Nat) (n : Nat) (h : xH) (hn0 : n = n0) (hy : okO n h x0 4 ∧ 0 ≤ hG h x0 8 ∧ okO n h ((hG h x0 8).toNat) 1 ∧ S_X1_set G (kl k) ((hG h x0 8).toNat) 1 n h (fun h4 => Po h4)) : X4_bringToLowestTerms_w20 G k x0 n h := by
  subst hn0
  refine ww_aload_n C 0 0 rfl rfl dX4_bringToLowestTerms_20 ?_
  obtain ⟨p1, hy⟩ := hy
  obtain ⟨p2, hy⟩ := hy
  refine gf_X4_52 C dX4_bringToLowestTerms_21 p1 p2 ?_
  refine ww_lconst C (z := 1) dX4_bringToLowestTerms_24 rfl ?_
  obtain ⟨p3, hy⟩ := hy
  refine cl_X4_126 C dX4_bringToLowestTerms_25 (Nat.le_of_ble_eq_true rfl) ⟨by decide, by decide⟩ ⟨by decide, by decide⟩ p3 ?_
  refine S_X1_set.mono hy (fun h4 hy => ?_)
  exact ww_vret C E dX4_bringToLowestTerms_28 (by decide) (by decide) ⟨rfl, rfl, hy⟩
set_option maxRecDepth 100000 in
set_option maxHeartbeats 4000000 in
theorem X4_bringToLowestTerms_b91 {G : xG} {k : xK} {n0 : Nat} {Po : xH → Prop} (C : CC G k cX4_bringToLowestTerms RX4 3 rm_X4_bringToLowestTerms) (E : CQ G k none rm_X4_bringToLowestTerms (fun r n1 h1 => r = none ∧ n1 = n0 ∧ Po h1))  (n : Nat) (h : xH) (hn0 : n = n0) (hy : Po h) : X4_bringToLowestTerms_w91 G k  n h := by
  subst hn0
  exact ww_vret C E dX4_bringToLowestTerms_91 (by decide) (by decide) ⟨rfl, rfl, hy⟩
abbrev X4_becomeExactNumber_w0 (G : xG) (k : xK) (x0 : Nat) (x1 : Int) (n : Nat) (h : xH) : Prop := WW G k 2 0 0 0 [(0, rf G x0), (1, .int (iz x1))] [] n h
abbrev X4_becomeExactNumber_w24 (G : xG) (k : xK) (s0 : Nat) (n : Nat) (h : xH) : Prop := WW G k 2 0 0 24 [] [rf G s0] n h
abbrev X4_becomeExactNumber_w25 (G : xG) (k : xK) (s0 : Int) (s1 : Nat) (n : Nat) (h : xH) : Prop := WW G k 2 0 0 25 [] [.int (iz s0), rf G s1] n h
theorem S_X4_becomeExactNumber_of {G : xG} {l : Launch} {x0 : Nat} {x1 : Int} {n : Nat} {h : xH} {Po : xH → Prop} (body : ∀ k : xK, kl k = l → CC G k cX4_becomeExactNumber RX4 2 rm_X4_becomeExactNumber → CQ G k none rm_X4_becomeExactNumber (fun r n1 h1 => r = none ∧ n1 = n ∧ Po h1) → X4_becomeExactNumber_w0 G k x0 x1 n h) : S_X4_becomeExactNumber G l x0 x1 n h Po := xS_of (by decide +kernel) (Nat.le_of_ble_eq_true rfl) rfl (fun k hl hnm C E => body k hl C E)
set_option maxRecDepth 100000 in
set_option maxHeartbeats 4000000 in
theorem X4_becomeExactNumber_b0 {G : xG} {k : xK} {n0 : Nat} {Po : xH → Prop} (C : CC G k cX4_becomeExactNumber RX4 2 rm_X4_becomeExactNumber) (E : CQ G k none rm_X4_becomeExactNumber (fun r n1 h1 => r = none ∧ n1 = n0 ∧ Po h1)) (x0 : Nat) (x1 : Int) (n : Nat) (h : xH) (hn0 : n = n0) (hy : okO n h x0 4 ∧ (∀ h2 : xH, h2 = hS h x0 3 1 → rg x1 ∧ ((x1 = 0 → X4_becomeExactNumber_w24 G k x0 n h2) ∧ (¬ x1 = 0 → okO n h2 x0 4 ∧ 0 ≤ hG h2 x0 7 ∧ okO n h2 ((hG h2 x0 7).toNat) 1 ∧ S_X1_isZero G (kl k) ((hG h2 x0 7).toNat) n h2 (fun z8 h9 => rg z8 ∧ ((¬ z8 = 0 → X4_becomeExactNumber_w24 G k x0 n h9) ∧ (z8 = 0 → X4_becomeExactNumber_w25 G k 1 x0 n h9))))))) : X4_becomeExactNumber_w0 G k x0 x1 n h := by
  subst hn0
  refine ww_aload_n C 0 0 rfl rfl dX4_becomeExactNumber_0 ?_
  refine ww_iconst C (z := 1) dX4_becomeExactNumber_1 rfl ?_
  obtain ⟨p1, hy⟩ := hy
  have hy := hy _ rfl
  refine pf_X4_30I C dX4_becomeExactNumber_2 p1 ?_
  refine ww_aload_n C 0 0 rfl rfl dX4_becomeExactNumber_5 ?_
  refine ww_iload_n C 1 1 rfl rfl dX4_becomeExactNumber_6 ?_
  obtain ⟨p3, hy⟩ := hy
  refine ww_if_eq C (tg := 24) dX4_becomeExactNumber_7 (by decide) p3 (fun c4 => ?_) (fun c4 => ?_)
  · have hy := hy.1 c4
    exact ww_sub [] rfl (by decide) (by decide) hy
  · have hy := hy.2 c4
    refine ww_aload_n C 0 0 rfl rfl dX4_becomeExactNumber_10 ?_
    obtain ⟨p5, hy⟩ := hy
    obtain ⟨p6, hy⟩ := hy
    refine gf_X4_48 C dX4_becomeExactNumber_11 p5 p6 ?_
    obtain ⟨p7, hy⟩ := hy
    refine cl_X4_178 C dX4_becomeExactNumber_14 (Nat.le_of_ble_eq_true rfl) ⟨by decide, by decide⟩ ⟨by decide, by decide⟩ p7 ?_
    refine S_X1_isZero.mono hy (fun z8 h9 hy => ?_)
    obtain ⟨p10, hy⟩ := hy
    refine ww_if_ne C (tg := 24) dX4_becomeExactNumber_17 (by decide) p10 (fun c11 => ?_) (fun c11 => ?_)
    · have hy := hy.1 c11
      exact ww_sub [] rfl (by decide) (by decide) hy
    · have hy := hy.2 c11
      refine ww_iconst C (z := 1) dX4_becomeExactNumber_20 rfl ?_
      refine ww_goto C (tg := 25) dX4_becomeExactNumber_21 (by decide) ?_
      exact ww_sub [] rfl (by decide) (by decide) hy
set_option maxRecDepth 100000 in
set_option maxHeartbeats 4000000 in
theorem X4_becomeExactNumber_b24 {G : xG} {k : xK} {n0 : Nat} {Po : xH → Prop} (C : CC G k cX4_becomeExactNumber RX4 2 rm_X4_becomeExactNumber) (E : CQ G k none rm_X4_becomeExactNumber (fun r n1 h1 => r = none ∧ n1 = n0 ∧ Po h1)) (s0 : Nat) (n : Nat) (h : xH) (hn0 : n = n0) (hy : X4_becomeExactNumber_w25 G k 0 s0 n h) : X4_becomeExactNumber_w24 G k s0 n h := by
  subst hn0
  refine ww_iconst C (z := 0) dX4_becomeExactNumber_24 rfl ?_
  exact ww_sub [] rfl (by decide) (by decide) hy
set_option maxRecDepth 100000 in
set_option maxHeartbeats 4000000 in
theorem X4_becomeExactNumber_b25 {G : xG} {k : xK} {n0 : Nat} {Po : xH → Prop} (C : CC G k cX4_becomeExactNumber RX4 2 rm_X4_becomeExactNumber) (E : CQ G k none rm_X4_becomeExactNumber (fun r n1 h1 => r = none ∧ n1 = n0 ∧ Po h1)) (s0 : Int) (s1 : Nat) (n : Nat) (h : xH) (hn0 : n = n0) (hy : okO n h s1 4 ∧ (s0 = 0 ∨ s0 = 1) ∧ (∀ h3 : xH, h3 = hS h s1 4 s0 → Po h3)) : X4_becomeExactNumber_w25 G k s0 s1 n h := by
  subst hn0
  obtain ⟨p1, hy⟩ := hy
  obtain ⟨p2, hy⟩ := hy
  have hy := hy _ rfl
  refine pf_X4_34I C dX4_becomeExactNumber_25 p1 p2 ?_
  exact ww_vret C E dX4_becomeExactNumber_28 (by decide) (by decide) ⟨rfl, rfl, hy⟩
abbrev X4_multiplyByTens_w0 (G : xG) (k : xK) (x0 : Nat) (x1 : Int) (n : Nat) (h : xH) : Prop := WW G k 2 0 0 0 [(0, rf G x0), (1, .int (iz x1))] [] n h
abbrev X4_multiplyByTens_w61 (G : xG) (k : xK) (s0 : Int) (n : Nat) (h : xH) : Prop := WW G k 2 0 0 61 [] [.int (iz s0)] n h
theorem S_X4_multiplyByTens_of {G : xG} {l : Launch} {x0 : Nat} {x1 : Int} {n : Nat} {h : xH} {Po : Int → xH → Prop} (body : ∀ k : xK, kl k = l → CC G k cX4_multiplyByTens RX4 2 rm_X4_multiplyByTens → CQ G k (some .boolean) rm_X4_multiplyByTens (fun r n1 h1 => ∃ z : Int, r = some (.int (iz z)) ∧ n1 = n ∧ Po z h1) → X4_multiplyByTens_w0 G k x0 x1 n h) : S_X4_multiplyByTens G l x0 x1 n h Po := xS_of (by decide +kernel) (Nat.le_of_ble_eq_true rfl) rfl (fun k hl hnm C E => body k hl C E)
set_option maxRecDepth 100000 in
set_option maxHeartbeats 4000000 in
theorem X4_multiplyByTens_b0 {G : xG} {k : xK} {n0 : Nat} {Po : Int → xH → Prop} (C : CC G k cX4_multiplyByTens RX4 2 rm_X4_multiplyByTens) (E : CQ G k (some .boolean) rm_X4_multiplyByTens (fun r n1 h1 => ∃ z : Int, r = some (.int (iz z)) ∧ n1 = n0 ∧ Po z h1)) (x0 : Nat) (x1 : Int) (n : Nat) (h : xH) (hn0 : n = n0) (hy : okO n h x0 4 ∧ 0 ≤ hG h x0 7 ∧ okO n h ((hG h x0 7).toNat) 1 ∧ S_X1_bitLength G (kl k) ((hG h x0 7).toNat) n h (fun z4 h5 => (rg (x1 * 3321) ∧ rg (1000 : Int) ∧ (1000 : Int) ≠ 0) ∧ (rg ((z4 - 1) + ((x1 * 3321).tdiv 1000)) ∧ rg (4096 : Int)) ∧ ((((z4 - 1) + ((x1 * 3321).tdiv 1000)) < (4096 : Int) → okO n h5 x0 4 ∧ 0 ≤ hG h5 x0 7 ∧ okO n h5 ((hG h5 x0 7).toNat) 1 ∧ S_X1_multiplyByFives G (kl k) ((hG h5 x0 7).toNat) x1 n h5 (fun h12 => okO n h12 x0 4 ∧ 0 ≤ hG h12 x0 7 ∧ okO n h12 ((hG h12 x0 7).toNat) 1 ∧ S_X1_shiftLeft G (kl k) ((hG h12 x0 7).toNat) x1 n h12 (fun h16 => okO n h16 x0 4 ∧ 0 ≤ hG h16 x0 7 ∧ okO n h16 ((hG h16 x0 7).toNat) 1 ∧ S_X1_bitLength G (kl k) ((hG h16 x0 7).toNat) n h16 (fun z20 h21 => (rg z20 ∧ rg (4096 : Int)) ∧ (((4096 : Int) < z20 → X4_multiplyByTens_w61 G k 0 n h21) ∧ (¬ (4096 : Int) < z20 → X4_multiplyByTens_w61 G k 1 n h21)))))) ∧ (¬ ((z4 - 1) + ((x1 * 3321).tdiv 1000)) < (4096 : Int) → ((0 : Int) = 0 ∨ (0 : Int) = 1) ∧ Po (0 : Int) h5)))) : X4_multiplyByTens_w0 G k x0 x1 n h := by
  subst hn0
  refine ww_aload_n C 0 0 rfl rfl dX4_multiplyByTens_0 ?_
  obtain ⟨p1, hy⟩ := hy
  obtain ⟨p2, hy⟩ := hy
  refine gf_X4_48 C dX4_multiplyByTens_1 p1 p2 ?_
  obtain ⟨p3, hy⟩ := hy
  refine cl_X4_150 C dX4_multiplyByTens_4 (Nat.le_of_ble_eq_true rfl) ⟨by decide, by decide⟩ ⟨by decide, by decide⟩ p3 ?_
  refine S_X1_bitLength.mono hy (fun z4 h5 hy => ?_)
  refine ww_iconst C (z := 1) dX4_multiplyByTens_7 rfl ?_
  refine ww_isub C dX4_multiplyByTens_8 ?_
  refine ww_iload_n C 1 1 rfl rfl dX4_multiplyByTens_9 ?_
  refine ww_sipush C (z := 3321) dX4_multiplyByTens_10 rfl ?_
  refine ww_imul C dX4_multiplyByTens_13 ?_
  refine ww_sipush C (z := 1000) dX4_multiplyByTens_14 rfl ?_
  obtain ⟨p6, hy⟩ := hy
  refine ww_idiv C dX4_multiplyByTens_17 p6.1 p6.2.1 p6.2.2 ?_
  refine ww_iadd C dX4_multiplyByTens_18 ?_
  refine ww_sipush C (z := 4096) dX4_multiplyByTens_19 rfl ?_
  obtain ⟨p7, hy⟩ := hy
  refine ww_icmp_lt C (tg := 27) dX4_multiplyByTens_22 (by decide) p7.1 p7.2 (fun c8 => ?_) (fun c8 => ?_)
  · have hy := hy.1 c8
    refine ww_aload_n C 0 0 rfl rfl dX4_multiplyByTens_27 ?_
    obtain ⟨p9, hy⟩ := hy
    obtain ⟨p10, hy⟩ := hy
    refine gf_X4_48 C dX4_multiplyByTens_28 p9 p10 ?_
    refine ww_iload_n C 1 1 rfl rfl dX4_multiplyByTens_31 ?_
    obtain ⟨p11, hy⟩ := hy
    refine cl_X4_215 C dX4_multiplyByTens_32 (Nat.le_of_ble_eq_true rfl) ⟨by decide, by decide⟩ ⟨by decide, by decide⟩ p11 ?_
    refine S_X1_multiplyByFives.mono hy (fun h12 hy => ?_)
    refine ww_aload_n C 0 0 rfl rfl dX4_multiplyByTens_35 ?_
    obtain ⟨p13, hy⟩ := hy
    obtain ⟨p14, hy⟩ := hy
    refine gf_X4_48 C dX4_multiplyByTens_36 p13 p14 ?_
    refine ww_iload_n C 1 1 rfl rfl dX4_multiplyByTens_39 ?_
    obtain ⟨p15, hy⟩ := hy
    refine cl_X4_130 C dX4_multiplyByTens_40 (Nat.le_of_ble_eq_true rfl) ⟨by decide, by decide⟩ ⟨by decide, by decide⟩ p15 ?_
    refine S_X1_shiftLeft.mono hy (fun h16 hy => ?_)
    refine ww_aload_n C 0 0 rfl rfl dX4_multiplyByTens_43 ?_
    obtain ⟨p17, hy⟩ := hy
    obtain ⟨p18, hy⟩ := hy
    refine gf_X4_48 C dX4_multiplyByTens_44 p17 p18 ?_
    obtain ⟨p19, hy⟩ := hy
    refine cl_X4_150 C dX4_multiplyByTens_47 (Nat.le_of_ble_eq_true rfl) ⟨by decide, by decide⟩ ⟨by decide, by decide⟩ p19 ?_
    refine S_X1_bitLength.mono hy (fun z20 h21 hy => ?_)
    refine ww_sipush C (z := 4096) dX4_multiplyByTens_50 rfl ?_
    obtain ⟨p22, hy⟩ := hy
    refine ww_icmp_gt C (tg := 60) dX4_multiplyByTens_53 (by decide) p22.1 p22.2 (fun c23 => ?_) (fun c23 => ?_)
    · have hy := hy.1 c23
      refine ww_iconst C (z := 0) dX4_multiplyByTens_60 rfl ?_
      exact ww_sub [] rfl (by decide) (by decide) hy
    · have hy := hy.2 c23
      refine ww_iconst C (z := 1) dX4_multiplyByTens_56 rfl ?_
      refine ww_goto C (tg := 61) dX4_multiplyByTens_57 (by decide) ?_
      exact ww_sub [] rfl (by decide) (by decide) hy
  · have hy := hy.2 c8
    refine ww_iconst C (z := 0) dX4_multiplyByTens_25 rfl ?_
    obtain ⟨p24, hy⟩ := hy
    exact ww_zret C E dX4_multiplyByTens_26 (nz_b p24) (by decide) (by decide) ⟨_, rfl, rfl, hy⟩
set_option maxRecDepth 100000 in
set_option maxHeartbeats 4000000 in
theorem X4_multiplyByTens_b61 {G : xG} {k : xK} {n0 : Nat} {Po : Int → xH → Prop} (C : CC G k cX4_multiplyByTens RX4 2 rm_X4_multiplyByTens) (E : CQ G k (some .boolean) rm_X4_multiplyByTens (fun r n1 h1 => ∃ z : Int, r = some (.int (iz z)) ∧ n1 = n0 ∧ Po z h1)) (s0 : Int) (n : Nat) (h : xH) (hn0 : n = n0) (hy : (s0 = 0 ∨ s0 = 1) ∧ Po s0 h) : X4_multiplyByTens_w61 G k s0 n h := by
  subst hn0
  obtain ⟨p1, hy⟩ := hy
  exact ww_zret C E dX4_multiplyByTens_61 (nz_b p1) (by decide) (by decide) ⟨_, rfl, rfl, hy⟩
abbrev X4_divideByTens_w0 (G : xG) (k : xK) (x0 : Nat) (x1 : Int) (n : Nat) (h : xH) : Prop := WW G k 4 0 0 0 [(0, rf G x0), (1, .int (iz x1))] [] n h
theorem S_X4_divideByTens_of {G : xG} {l : Launch} {x0 : Nat} {x1 : Int} {n : Nat} {h : xH} {Po : Int → xH → Prop} (body : ∀ k : xK, kl k = l → CC G k cX4_divideByTens RX4 4 rm_X4_divideByTens → CQ G k (some .boolean) rm_X4_divideByTens (fun r n1 h1 => ∃ z : Int, r = some (.int (iz z)) ∧ n1 = n ∧ Po z h1) → X4_divideByTens_w0 G k x0 x1 n h) : S_X4_divideByTens G l x0 x1 n h Po := xS_of (by decide +kernel) (Nat.le_of_ble_eq_true rfl) rfl (fun k hl hnm C E => body k hl C E)
set_option maxRecDepth 100000 in
set_option maxHeartbeats 4000000 in
theorem X4_divideByTens_b0 {G : xG} {k : xK} {n0 : Nat} {Po : Int → xH → Prop} (C : CC G k cX4_divideByTens RX4 4 rm_X4_divideByTens) (E : CQ G k (some .boolean) rm_X4_divideByTens (fun r n1 h1 => ∃ z : Int, r = some (.int (iz z)) ∧ n1 = n0 ∧ Po z h1)) (x0 : Nat) (x1 : Int) (n : Nat) (h : xH) (hn0 : n = n0) (hy : okO n h x0 4 ∧ 0 ≤ hG h x0 7 ∧ okO n h ((hG h x0 7).toNat) 1 ∧ S_X1_trailingZeros G (kl k) ((hG h x0 7).toNat) n h (fun z4 h5 => S_J9_min_7cf53 G (kl k) z4 x1 n h5 (fun z6 h7 => okO n h7 x0 4 ∧ 0 ≤ hG h7 x0 7 ∧ okO n h7 ((hG h7 x0 7).toNat) 1 ∧ S_X1_shiftRight G (kl k) ((hG h7 x0 7).toNat) (x1 - (x1 - z6)) n h7 (fun h11 => okO n h11 x0 4 ∧ 0 ≤ hG h11 x0 7 ∧ okO n h11 ((hG h11 x0 7).toNat) 1 ∧ S_X1_takeFives G (kl k) ((hG h11 x0 7).toNat) x1 n h11 (fun z15 h16 => (rg (x1 - z15) ∧ rg (1764 : Int)) ∧ (((x1 - z15) ≤ (1764 : Int) → okO n h16 x0 4 ∧ 0 ≤ hG h16 x0 8 ∧ okO n h16 ((hG h16 x0 8).toNat) 1 ∧ S_X1_multiplyByFives G (kl k) ((hG h16 x0 8).toNat) (x1 - z15) n h16 (fun h22 => okO n h22 x0 4 ∧ 0 ≤ hG h22 x0 8 ∧ okO n h22 ((hG h22 x0 8).toNat) 1 ∧ S_X1_bitLength G (kl k) ((hG h22 x0 8).toNat) n h22 (fun z26 h27 => (rg (z26 + (x1 - z6)) ∧ rg (4096 : Int)) ∧ (((z26 + (x1 - z6)) ≤ (4096 : Int) → okO n h27 x0 4 ∧ 0 ≤ hG h27 x0 8 ∧ okO n h27 ((hG h27 x0 8).toNat) 1 ∧ S_X1_shiftLeft G (kl k) ((hG h27 x0 8).toNat) (x1 - z6) n h27 (fun h33 => ((1 : Int) = 0 ∨ (1 : Int) = 1) ∧ Po (1 : Int) h33)) ∧ (¬ (z26 + (x1 - z6)) ≤ (4096 : Int) → ((0 : Int) = 0 ∨ (0 : Int) = 1) ∧ Po (0 : Int) h27))))) ∧ (¬ (x1 - z15) ≤ (1764 : Int) → ((0 : Int) = 0 ∨ (0 : Int) = 1) ∧ Po (0 : Int) h16))))))) : X4_divideByTens_w0 G k x0 x1 n h := by
  subst hn0
  refine ww_iload_n C 1 1 rfl rfl dX4_divideByTens_0 ?_
  refine ww_aload_n C 0 0 rfl rfl dX4_divideByTens_1 ?_
  obtain ⟨p1, hy⟩ := hy
  obtain ⟨p2, hy⟩ := hy
  refine gf_X4_48 C dX4_divideByTens_2 p1 p2 ?_
  obtain ⟨p3, hy⟩ := hy
  refine cl_X4_225 C dX4_divideByTens_5 (Nat.le_of_ble_eq_true rfl) ⟨by decide, by decide⟩ ⟨by decide, by decide⟩ p3 ?_
  refine S_X1_trailingZeros.mono hy (fun z4 h5 hy => ?_)
  refine ww_iload_n C 1 1 rfl rfl dX4_divideByTens_8 ?_
  refine cl_X4_139 C dX4_divideByTens_9 (Nat.le_of_ble_eq_true rfl) ⟨by decide, by decide⟩ ⟨by decide, by decide⟩ ?_
  refine S_J9_min_7cf53.mono hy (fun z6 h7 hy => ?_)
  refine ww_isub C dX4_divideByTens_12 ?_
  refine ww_istore_n C 2 rfl (by decide) rfl dX4_divideByTens_13 ?_
  refine ww_aload_n C 0 1 rfl rfl dX4_divideByTens_14 ?_
  obtain ⟨p8, hy⟩ := hy
  obtain ⟨p9, hy⟩ := hy
  refine gf_X4_48 C dX4_divideByTens_15 p8 p9 ?_
  refine ww_iload_n C 1 2 rfl rfl dX4_divideByTens_18 ?_
  refine ww_iload_n C 2 0 rfl rfl dX4_divideByTens_19 ?_
  refine ww_isub C dX4_divideByTens_20 ?_
  obtain ⟨p10, hy⟩ := hy
  refine cl_X4_145 C dX4_divideByTens_21 (Nat.le_of_ble_eq_true rfl) ⟨by decide, by decide⟩ ⟨by decide, by decide⟩ p10 ?_
  refine S_X1_shiftRight.mono hy (fun h11 hy => ?_)
  refine ww_iload_n C 1 2 rfl rfl dX4_divideByTens_24 ?_
  refine ww_aload_n C 0 1 rfl rfl dX4_divideByTens_25 ?_
  obtain ⟨p12, hy⟩ := hy
  obtain ⟨p13, hy⟩ := hy
  refine gf_X4_48 C dX4_divideByTens_26 p12 p13 ?_
  refine ww_iload_n C 1 2 rfl rfl dX4_divideByTens_29 ?_
  obtain ⟨p14, hy⟩ := hy
  refine cl_X4_228 C dX4_divideByTens_30 (Nat.le_of_ble_eq_true rfl) ⟨by decide, by decide⟩ ⟨by decide, by decide⟩ p14 ?_
  refine S_X1_takeFives.mono hy (fun z15 h16 hy => ?_)
  refine ww_isub C dX4_divideByTens_33 ?_
  refine ww_istore_n C 3 rfl (by decide) rfl dX4_divideByTens_34 ?_
  refine ww_iload_n C 3 0 rfl rfl dX4_divideByTens_35 ?_
  refine ww_sipush C (z := 1764) dX4_divideByTens_36 rfl ?_
  obtain ⟨p17, hy⟩ := hy
  refine ww_icmp_le C (tg := 44) dX4_divideByTens_39 (by decide) p17.1 p17.2 (fun c18 => ?_) (fun c18 => ?_)
  · have hy := hy.1 c18
    refine ww_aload_n C 0 2 rfl rfl dX4_divideByTens_44 ?_
    obtain ⟨p19, hy⟩ := hy
    obtain ⟨p20, hy⟩ := hy
    refine gf_X4_52 C dX4_divideByTens_45 p19 p20 ?_
    refine ww_iload_n C 3 0 rfl rfl dX4_divideByTens_48 ?_
    obtain ⟨p21, hy⟩ := hy
    refine cl_X4_215 C dX4_divideByTens_49 (Nat.le_of_ble_eq_true rfl) ⟨by decide, by decide⟩ ⟨by decide, by decide⟩ p21 ?_
    refine S_X1_multiplyByFives.mono hy (fun h22 hy => ?_)
    refine ww_aload_n C 0 2 rfl rfl dX4_divideByTens_52 ?_
    obtain ⟨p23, hy⟩ := hy
    obtain ⟨p24, hy⟩ := hy
    refine gf_X4_52 C dX4_divideByTens_53 p23 p24 ?_
    obtain ⟨p25, hy⟩ := hy
    refine cl_X4_150 C dX4_divideByTens_56 (Nat.le_of_ble_eq_true rfl) ⟨by decide, by decide⟩ ⟨by decide, by decide⟩ p25 ?_
    refine S_X1_bitLength.mono hy (fun z26 h27 hy => ?_)
    refine ww_iload_n C 2 1 rfl rfl dX4_divideByTens_59 ?_
    refine ww_iadd C dX4_divideByTens_60 ?_
    refine ww_sipush C (z := 4096) dX4_divideByTens_61 rfl ?_
    obtain ⟨p28, hy⟩ := hy
    refine ww_icmp_le C (tg := 69) dX4_divideByTens_64 (by decide) p28.1 p28.2 (fun c29 => ?_) (fun c29 => ?_)
    · have hy := hy.1 c29
      refine ww_aload_n C 0 2 rfl rfl dX4_divideByTens_69 ?_
      obtain ⟨p30, hy⟩ := hy
      obtain ⟨p31, hy⟩ := hy
      refine gf_X4_52 C dX4_divideByTens_70 p30 p31 ?_
      refine ww_iload_n C 2 1 rfl rfl dX4_divideByTens_73 ?_
      obtain ⟨p32, hy⟩ := hy
      refine cl_X4_130 C dX4_divideByTens_74 (Nat.le_of_ble_eq_true rfl) ⟨by decide, by decide⟩ ⟨by decide, by decide⟩ p32 ?_
      refine S_X1_shiftLeft.mono hy (fun h33 hy => ?_)
      refine ww_iconst C (z := 1) dX4_divideByTens_77 rfl ?_
      obtain ⟨p34, hy⟩ := hy
      exact ww_zret C E dX4_divideByTens_78 (nz_b p34) (by decide) (by decide) ⟨_, rfl, rfl, hy⟩
    · have hy := hy.2 c29
      refine ww_iconst C (z := 0) dX4_divideByTens_67 rfl ?_
      obtain ⟨p35, hy⟩ := hy
      exact ww_zret C E dX4_divideByTens_68 (nz_b p35) (by decide) (by decide) ⟨_, rfl, rfl, hy⟩
  · have hy := hy.2 c18
    refine ww_iconst C (z := 0) dX4_divideByTens_42 rfl ?_
    obtain ⟨p36, hy⟩ := hy
    exact ww_zret C E dX4_divideByTens_43 (nz_b p36) (by decide) (by decide) ⟨_, rfl, rfl, hy⟩
abbrev X4_becomeExactDecimal_w0 (G : xG) (k : xK) (x0 : Nat) (x1 : Int) (x2 : Int) (n : Nat) (h : xH) : Prop := WW G k 3 0 0 0 [(0, rf G x0), (1, .int (iz x1)), (2, .int (iz x2))] [] n h
abbrev X4_becomeExactDecimal_w42 (G : xG) (k : xK) (x0 : Nat) (x1 : Int) (n : Nat) (h : xH) : Prop := WW G k 3 0 0 42 [(0, rf G x0), (1, .int (iz x1))] [] n h
abbrev X4_becomeExactDecimal_w47 (G : xG) (k : xK)  (n : Nat) (h : xH) : Prop := WW G k 3 0 0 47 [] [] n h
theorem S_X4_becomeExactDecimal_of {G : xG} {l : Launch} {x0 : Nat} {x1 : Int} {x2 : Int} {n : Nat} {h : xH} {Po : xH → Prop} (body : ∀ k : xK, kl k = l → CC G k cX4_becomeExactDecimal RX4 3 rm_X4_becomeExactDecimal → CQ G k none rm_X4_becomeExactDecimal (fun r n1 h1 => r = none ∧ n1 = n ∧ Po h1) → X4_becomeExactDecimal_w0 G k x0 x1 x2 n h) : S_X4_becomeExactDecimal G l x0 x1 x2 n h Po := xS_of (by decide +kernel) (Nat.le_of_ble_eq_true rfl) rfl (fun k hl hnm C E => body k hl C E)
set_option maxRecDepth 100000 in
set_option maxHeartbeats 4000000 in
theorem X4_becomeExactDecimal_b0 {G : xG} {k : xK} {n0 : Nat} {Po : xH → Prop} (C : CC G k cX4_becomeExactDecimal RX4 3 rm_X4_becomeExactDecimal) (E : CQ G k none rm_X4_becomeExactDecimal (fun r n1 h1 => r = none ∧ n1 = n0 ∧ Po h1)) (x0 : Nat) (x1 : Int) (x2 : Int) (n : Nat) (h : xH) (hn0 : n = n0) (hy : okO n h x0 4 ∧ 0 ≤ hG h x0 8 ∧ okO n h ((hG h x0 8).toNat) 1 ∧ S_X1_set G (kl k) ((hG h x0 8).toNat) 1 n h (fun h4 => okO n h4 x0 4 ∧ 0 ≤ hG h4 x0 7 ∧ okO n h4 ((hG h4 x0 7).toNat) 1 ∧ S_X1_isZero G (kl k) ((hG h4 x0 7).toNat) n h4 (fun z8 h9 => rg z8 ∧ ((¬ z8 = 0 → X4_becomeExactDecimal_w42 G k x0 x1 n h9) ∧ (z8 = 0 → rg x2 ∧ ((x2 < 0 → okO n h9 x0 4 ∧ S_X4_divideByTens G (kl k) x0 (-x2) n h9 (fun z15 h16 => rg z15 ∧ ((z15 = 0 → X4_becomeExactDecimal_w47 G k  n h16) ∧ (¬ z15 = 0 → X4_becomeExactDecimal_w42 G k x0 x1 n h16)))) ∧ (¬ x2 < 0 → okO n h9 x0 4 ∧ S_X4_multiplyByTens G (kl k) x0 x2 n h9 (fun z20 h21 => rg z20 ∧ ((z20 = 0 → X4_becomeExactDecimal_w47 G k  n h21) ∧ (¬ z20 = 0 → X4_becomeExactDecimal_w42 G k x0 x1 n h21)))))))))) : X4_becomeExactDecimal_w0 G k x0 x1 x2 n h := by
  subst hn0
  refine ww_aload_n C 0 0 rfl rfl dX4_becomeExactDecimal_0 ?_
  obtain ⟨p1, hy⟩ := hy
  obtain ⟨p2, hy⟩ := hy
  refine gf_X4_52 C dX4_becomeExactDecimal_1 p1 p2 ?_
  refine ww_lconst C (z := 1) dX4_becomeExactDecimal_4 rfl ?_
  obtain ⟨p3, hy⟩ := hy
  refine cl_X4_126 C dX4_becomeExactDecimal_5 (Nat.le_of_ble_eq_true rfl) ⟨by decide, by decide⟩ ⟨by decide, by decide⟩ p3 ?_
  refine S_X1_set.mono hy (fun h4 hy => ?_)
  refine ww_aload_n C 0 0 rfl rfl dX4_becomeExactDecimal_8 ?_
  obtain ⟨p5, hy⟩ := hy
  obtain ⟨p6, hy⟩ := hy
  refine gf_X4_48 C dX4_becomeExactDecimal_9 p5 p6 ?_
  obtain ⟨p7, hy⟩ := hy
  refine cl_X4_178 C dX4_becomeExactDecimal_12 (Nat.le_of_ble_eq_true rfl) ⟨by decide, by decide⟩ ⟨by decide, by decide⟩ p7 ?_
  refine S_X1_isZero.mono hy (fun z8 h9 hy => ?_)
  obtain ⟨p10, hy⟩ := hy
  refine ww_if_ne C (tg := 42) dX4_becomeExactDecimal_15 (by decide) p10 (fun c11 => ?_) (fun c11 => ?_)
  · have hy := hy.1 c11
    exact ww_sub [0, 1] rfl (by decide) (by decide) hy
  · have hy := hy.2 c11
    refine ww_iload_n C 2 2 rfl rfl dX4_becomeExactDecimal_18 ?_
    obtain ⟨p12, hy⟩ := hy
    refine ww_if_lt C (tg := 33) dX4_becomeExactDecimal_19 (by decide) p12 (fun c13 => ?_) (fun c13 => ?_)
    · have hy := hy.1 c13
      refine ww_aload_n C 0 0 rfl rfl dX4_becomeExactDecimal_33 ?_
      refine ww_iload_n C 2 2 rfl rfl dX4_becomeExactDecimal_34 ?_
      refine ww_ineg C dX4_becomeExactDecimal_35 ?_
      obtain ⟨p14, hy⟩ := hy
      refine cl_X4_222 C dX4_becomeExactDecimal_36 (Nat.le_of_ble_eq_true rfl) ⟨by decide, by decide⟩ ⟨by decide, by decide⟩ p14 ?_
      refine S_X4_divideByTens.mono hy (fun z15 h16 hy => ?_)
      obtain ⟨p17, hy⟩ := hy
      refine ww_if_eq C (tg := 47) dX4_becomeExactDecimal_39 (by decide) p17 (fun c18 => ?_) (fun c18 => ?_)
      · have hy := hy.1 c18
        exact ww_sub [] rfl (by decide) (by decide) hy
      · have hy := hy.2 c18
        exact ww_sub [0, 1] rfl (by decide) (by decide) hy
    · have hy := hy.2 c13
      refine ww_aload_n C 0 0 rfl rfl dX4_becomeExactDecimal_22 ?_
      refine ww_iload_n C 2 2 rfl rfl dX4_becomeExactDecimal_23 ?_
      obtain ⟨p19, hy⟩ := hy
      refine cl_X4_218 C dX4_becomeExactDecimal_24 (Nat.le_of_ble_eq_true rfl) ⟨by decide, by decide⟩ ⟨by decide, by decide⟩ p19 ?_
      refine S_X4_multiplyByTens.mono hy (fun z20 h21 hy => ?_)
      obtain ⟨p22, hy⟩ := hy
      refine ww_if_eq C (tg := 47) dX4_becomeExactDecimal_27 (by decide) p22 (fun c23 => ?_) (fun c23 => ?_)
      · have hy := hy.1 c23
        exact ww_sub [] rfl (by decide) (by decide) hy
      · have hy := hy.2 c23
        refine ww_goto C (tg := 42) dX4_becomeExactDecimal_30 (by decide) ?_
        exact ww_sub [0, 1] rfl (by decide) (by decide) hy
set_option maxRecDepth 100000 in
set_option maxHeartbeats 4000000 in
theorem X4_becomeExactDecimal_b42 {G : xG} {k : xK} {n0 : Nat} {Po : xH → Prop} (C : CC G k cX4_becomeExactDecimal RX4 3 rm_X4_becomeExactDecimal) (E : CQ G k none rm_X4_becomeExactDecimal (fun r n1 h1 => r = none ∧ n1 = n0 ∧ Po h1)) (x0 : Nat) (x1 : Int) (n : Nat) (h : xH) (hn0 : n = n0) (hy : okO n h x0 4 ∧ S_X4_becomeExactNumber G (kl k) x0 x1 n h (fun h2 => X4_becomeExactDecimal_w47 G k  n h2)) : X4_becomeExactDecimal_w42 G k x0 x1 n h := by
  subst hn0
  refine ww_aload_n C 0 0 rfl rfl dX4_becomeExactDecimal_42 ?_
  refine ww_iload_n C 1 1 rfl rfl dX4_becomeExactDecimal_43 ?_
  obtain ⟨p1, hy⟩ := hy
  refine cl_X4_107 C dX4_becomeExactDecimal_44 (Nat.le_of_ble_eq_true rfl) ⟨by decide, by decide⟩ ⟨by decide, by decide⟩ p1 ?_
  refine S_X4_becomeExactNumber.mono hy (fun h2 hy => ?_)
  exact ww_sub [] rfl (by decide) (by decide) hy
set_option maxRecDepth 100000 in
set_option maxHeartbeats 4000000 in
theorem X4_becomeExactDecimal_b47 {G : xG} {k : xK} {n0 : Nat} {Po : xH → Prop} (C : CC G k cX4_becomeExactDecimal RX4 3 rm_X4_becomeExactDecimal) (E : CQ G k none rm_X4_becomeExactDecimal (fun r n1 h1 => r = none ∧ n1 = n0 ∧ Po h1))  (n : Nat) (h : xH) (hn0 : n = n0) (hy : Po h) : X4_becomeExactDecimal_w47 G k  n h := by
  subst hn0
  exact ww_vret C E dX4_becomeExactDecimal_47 (by decide) (by decide) ⟨rfl, rfl, hy⟩
abbrev X4_becomeNearestDecimal_w0 (G : xG) (k : xK) (x0 : Nat) (x1 : Int) (x2 : Int) (x3 : Int) (n : Nat) (h : xH) : Prop := WW G k 5 0 0 0 [(0, rf G x0), (1, .int (iz x1)), (2, .int (iz x2)), (3, .int (iz x3))] [] n h
abbrev X4_becomeNearestDecimal_w23 (G : xG) (k : xK) (x0 : Nat) (x1 : Int) (n : Nat) (h : xH) : Prop := WW G k 5 0 0 23 [(0, rf G x0), (1, .int (iz x1))] [] n h
abbrev X4_becomeNearestDecimal_w79 (G : xG) (k : xK) (x0 : Nat) (x1 : Int) (x2 : Int) (n : Nat) (h : xH) : Prop := WW G k 5 0 0 79 [(0, rf G x0), (1, .int (iz x1)), (2, .int (iz x2))] [] n h
abbrev X4_becomeNearestDecimal_w85 (G : xG) (k : xK)  (n : Nat) (h : xH) : Prop := WW G k 5 0 0 85 [] [] n h
theorem S_X4_becomeNearestDecimal_of {G : xG} {l : Launch} {x0 : Nat} {x1 : Int} {x2 : Int} {x3 : Int} {n : Nat} {h : xH} {Po : xH → Prop} (body : ∀ k : xK, kl k = l → CC G k cX4_becomeNearestDecimal RX4 5 rm_X4_becomeNearestDecimal → CQ G k none rm_X4_becomeNearestDecimal (fun r n1 h1 => r = none ∧ n1 = n ∧ Po h1) → X4_becomeNearestDecimal_w0 G k x0 x1 x2 x3 n h) : S_X4_becomeNearestDecimal G l x0 x1 x2 x3 n h Po := xS_of (by decide +kernel) (Nat.le_of_ble_eq_true rfl) rfl (fun k hl hnm C E => body k hl C E)
set_option maxRecDepth 100000 in
set_option maxHeartbeats 4000000 in
theorem X4_becomeNearestDecimal_b0 {G : xG} {k : xK} {n0 : Nat} {Po : xH → Prop} (C : CC G k cX4_becomeNearestDecimal RX4 5 rm_X4_becomeNearestDecimal) (E : CQ G k none rm_X4_becomeNearestDecimal (fun r n1 h1 => r = none ∧ n1 = n0 ∧ Po h1)) (x0 : Nat) (x1 : Int) (x2 : Int) (x3 : Int) (n : Nat) (h : xH) (hn0 : n = n0) (hy : okO n h x0 4 ∧ 0 ≤ hG h x0 7 ∧ okO n h ((hG h x0 7).toNat) 1 ∧ S_X1_isZero G (kl k) ((hG h x0 7).toNat) n h (fun z4 h5 => rg z4 ∧ ((¬ z4 = 0 → X4_becomeNearestDecimal_w23 G k x0 x1 n h5) ∧ (z4 = 0 → (rg (x3 + x2) ∧ rg (-324 : Int)) ∧ (((-324 : Int) ≤ (x3 + x2) → (rg (x3 + x2) ∧ rg (310 : Int)) ∧ (((x3 + x2) ≤ (310 : Int) → okO n h5 x0 4 ∧ 0 ≤ hG h5 x0 8 ∧ okO n h5 ((hG h5 x0 8).toNat) 1 ∧ S_X1_set G (kl k) ((hG h5 x0 8).toNat) 1 n h5 (fun h15 => rg x2 ∧ ((x2 < 0 → okO n h15 x0 4 ∧ 0 ≤ hG h15 x0 8 ∧ okO n h15 ((hG h15 x0 8).toNat) 1 ∧ S_X1_multiplyByFives G (kl k) ((hG h15 x0 8).toNat) (-x2) n h15 (fun h21 => X4_becomeNearestDecimal_w79 G k x0 x1 x2 n h21)) ∧ (¬ x2 < 0 → okO n h15 x0 4 ∧ 0 ≤ hG h15 x0 7 ∧ okO n h15 ((hG h15 x0 7).toNat) 1 ∧ S_X1_multiplyByFives G (kl k) ((hG h15 x0 7).toNat) x2 n h15 (fun h25 => X4_becomeNearestDecimal_w79 G k x0 x1 x2 n h25))))) ∧ (¬ (x3 + x2) ≤ (310 : Int) → okO n h5 x0 4 ∧ S_X4_becomeInfinite G (kl k) x0 x1 n h5 (fun h27 => X4_becomeNearestDecimal_w85 G k  n h27)))) ∧ (¬ (-324 : Int) ≤ (x3 + x2) → X4_becomeNearestDecimal_w23 G k x0 x1 n h5)))))) : X4_becomeNearestDecimal_w0 G k x0 x1 x2 x3 n h := by
  subst hn0
  refine ww_iload_n C 3 3 rfl rfl dX4_becomeNearestDecimal_0 ?_
  refine ww_iload_n C 2 2 rfl rfl dX4_becomeNearestDecimal_1 ?_
  refine ww_iadd C dX4_becomeNearestDecimal_2 ?_
  refine ww_istore C 4 (by decide) rfl dX4_becomeNearestDecimal_3 ?_
  refine ww_aload_n C 0 1 rfl rfl dX4_becomeNearestDecimal_5 ?_
  obtain ⟨p1, hy⟩ := hy
  obtain ⟨p2, hy⟩ := hy
  refine gf_X4_48 C dX4_becomeNearestDecimal_6 p1 p2 ?_
  obtain ⟨p3, hy⟩ := hy
  refine cl_X4_178 C dX4_becomeNearestDecimal_9 (Nat.le_of_ble_eq_true rfl) ⟨by decide, by decide⟩ ⟨by decide, by decide⟩ p3 ?_
  refine S_X1_isZero.mono hy (fun z4 h5 hy => ?_)
  obtain ⟨p6, hy⟩ := hy
  refine ww_if_ne C (tg := 23) dX4_becomeNearestDecimal_12 (by decide) p6 (fun c7 => ?_) (fun c7 => ?_)
  · have hy := hy.1 c7
    exact ww_sub [1, 2] rfl (by decide) (by decide) hy
  · have hy := hy.2 c7
    refine ww_iload C 4 0 rfl dX4_becomeNearestDecimal_15 ?_
    refine ww_sipush C (z := (-324)) dX4_becomeNearestDecimal_17 rfl ?_
    obtain ⟨p8, hy⟩ := hy
    refine ww_icmp_ge C (tg := 31) dX4_becomeNearestDecimal_20 (by decide) p8.1 p8.2 (fun c9 => ?_) (fun c9 => ?_)
    · have hy := hy.1 c9
      refine ww_iload C 4 0 rfl dX4_becomeNearestDecimal_31 ?_
      refine ww_sipush C (z := 310) dX4_becomeNearestDecimal_33 rfl ?_
      obtain ⟨p10, hy⟩ := hy
      refine ww_icmp_le C (tg := 47) dX4_becomeNearestDecimal_36 (by decide) p10.1 p10.2 (fun c11 => ?_) (fun c11 => ?_)
      · have hy := hy.1 c11
        refine ww_aload_n C 0 1 rfl rfl dX4_becomeNearestDecimal_47 ?_
        obtain ⟨p12, hy⟩ := hy
        obtain ⟨p13, hy⟩ := hy
        refine gf_X4_52 C dX4_becomeNearestDecimal_48 p12 p13 ?_
        refine ww_lconst C (z := 1) dX4_becomeNearestDecimal_51 rfl ?_
        obtain ⟨p14, hy⟩ := hy
        refine cl_X4_126 C dX4_becomeNearestDecimal_52 (Nat.le_of_ble_eq_true rfl) ⟨by decide, by decide⟩ ⟨by decide, by decide⟩ p14 ?_
        refine S_X1_set.mono hy (fun h15 hy => ?_)
        refine ww_iload_n C 2 3 rfl rfl dX4_becomeNearestDecimal_55 ?_
        obtain ⟨p16, hy⟩ := hy
        refine ww_if_lt C (tg := 70) dX4_becomeNearestDecimal_56 (by decide) p16 (fun c17 => ?_) (fun c17 => ?_)
        · have hy := hy.1 c17
          refine ww_aload_n C 0 1 rfl rfl dX4_becomeNearestDecimal_70 ?_
          obtain ⟨p18, hy⟩ := hy
          obtain ⟨p19, hy⟩ := hy
          refine gf_X4_52 C dX4_becomeNearestDecimal_71 p18 p19 ?_
          refine ww_iload_n C 2 3 rfl rfl dX4_becomeNearestDecimal_74 ?_
          refine ww_ineg C dX4_becomeNearestDecimal_75 ?_
          obtain ⟨p20, hy⟩ := hy
          refine cl_X4_215 C dX4_becomeNearestDecimal_76 (Nat.le_of_ble_eq_true rfl) ⟨by decide, by decide⟩ ⟨by decide, by decide⟩ p20 ?_
          refine S_X1_multiplyByFives.mono hy (fun h21 hy => ?_)
          exact ww_sub [1, 2, 3] rfl (by decide) (by decide) hy
        · have hy := hy.2 c17
          refine ww_aload_n C 0 1 rfl rfl dX4_becomeNearestDecimal_59 ?_
          obtain ⟨p22, hy⟩ := hy
          obtain ⟨p23, hy⟩ := hy
          refine gf_X4_48 C dX4_becomeNearestDecimal_60 p22 p23 ?_
          refine ww_iload_n C 2 3 rfl rfl dX4_becomeNearestDecimal_63 ?_
          obtain ⟨p24, hy⟩ := hy
          refine cl_X4_215 C dX4_becomeNearestDecimal_64 (Nat.le_of_ble_eq_true rfl) ⟨by decide, by decide⟩ ⟨by decide, by decide⟩ p24 ?_
          refine S_X1_multiplyByFives.mono hy (fun h25 hy => ?_)
          refine ww_goto C (tg := 79) dX4_becomeNearestDecimal_67 (by decide) ?_
          exact ww_sub [1, 2, 3] rfl (by decide) (by decide) hy
      · have hy := hy.2 c11
        refine ww_aload_n C 0 1 rfl rfl dX4_becomeNearestDecimal_39 ?_
        refine ww_iload_n C 1 2 rfl rfl dX4_becomeNearestDecimal_40 ?_
        obtain ⟨p26, hy⟩ := hy
        refine cl_X4_90 C dX4_becomeNearestDecimal_41 (Nat.le_of_ble_eq_true rfl) ⟨by decide, by decide⟩ ⟨by decide, by decide⟩ p26 ?_
        refine S_X4_becomeInfinite.mono hy (fun h27 hy => ?_)
        refine ww_goto C (tg := 85) dX4_becomeNearestDecimal_44 (by decide) ?_
        exact ww_sub [] rfl (by decide) (by decide) hy
    · have hy := hy.2 c9
      exact ww_sub [1, 2] rfl (by decide) (by decide) hy
set_option maxRecDepth 100000 in
set_option maxHeartbeats 4000000 in
theorem X4_becomeNearestDecimal_b23 {G : xG} {k : xK} {n0 : Nat} {Po : xH → Prop} (C : CC G k cX4_becomeNearestDecimal RX4 5 rm_X4_becomeNearestDecimal) (E : CQ G k none rm_X4_becomeNearestDecimal (fun r n1 h1 => r = none ∧ n1 = n0 ∧ Po h1)) (x0 : Nat) (x1 : Int) (n : Nat) (h : xH) (hn0 : n = n0) (hy : okO n h x0 4 ∧ S_X4_becomeZero G (kl k) x0 x1 n h (fun h2 => X4_becomeNearestDecimal_w85 G k  n h2)) : X4_becomeNearestDecimal_w23 G k x0 x1 n h := by
  subst hn0
  refine ww_aload_n C 0 0 rfl rfl dX4_becomeNearestDecimal_23 ?_
  refine ww_iload_n C 1 1 rfl rfl dX4_becomeNearestDecimal_24 ?_
  obtain ⟨p1, hy⟩ := hy
  refine cl_X4_181 C dX4_becomeNearestDecimal_25 (Nat.le_of_ble_eq_true rfl) ⟨by decide, by decide⟩ ⟨by decide, by decide⟩ p1 ?_
  refine S_X4_becomeZero.mono hy (fun h2 hy => ?_)
  refine ww_goto C (tg := 85) dX4_becomeNearestDecimal_28 (by decide) ?_
  exact ww_sub [] rfl (by decide) (by decide) hy
set_option maxRecDepth 100000 in
set_option maxHeartbeats 4000000 in
theorem X4_becomeNearestDecimal_b79 {G : xG} {k : xK} {n0 : Nat} {Po : xH → Prop} (C : CC G k cX4_becomeNearestDecimal RX4 5 rm_X4_becomeNearestDecimal) (E : CQ G k none rm_X4_becomeNearestDecimal (fun r n1 h1 => r = none ∧ n1 = n0 ∧ Po h1)) (x0 : Nat) (x1 : Int) (x2 : Int) (n : Nat) (h : xH) (hn0 : n = n0) (hy : okO n h x0 4 ∧ S_X4_becomeNearest G (kl k) x0 x1 x2 n h (fun h2 => X4_becomeNearestDecimal_w85 G k  n h2)) : X4_becomeNearestDecimal_w79 G k x0 x1 x2 n h := by
  subst hn0
  refine ww_aload_n C 0 0 rfl rfl dX4_becomeNearestDecimal_79 ?_
  refine ww_iload_n C 1 1 rfl rfl dX4_becomeNearestDecimal_80 ?_
  refine ww_iload_n C 2 2 rfl rfl dX4_becomeNearestDecimal_81 ?_
  obtain ⟨p1, hy⟩ := hy
  refine cl_X4_100 C dX4_becomeNearestDecimal_82 (Nat.le_of_ble_eq_true rfl) ⟨by decide, by decide⟩ ⟨by decide, by decide⟩ p1 ?_
  refine S_X4_becomeNearest.mono hy (fun h2 hy => ?_)
  exact ww_sub [] rfl (by decide) (by decide) hy
set_option maxRecDepth 100000 in
set_option maxHeartbeats 4000000 in
theorem X4_becomeNearestDecimal_b85 {G : xG} {k : xK} {n0 : Nat} {Po : xH → Prop} (C : CC G k cX4_becomeNearestDecimal RX4 5 rm_X4_becomeNearestDecimal) (E : CQ G k none rm_X4_becomeNearestDecimal (fun r n1 h1 => r = none ∧ n1 = n0 ∧ Po h1))  (n : Nat) (h : xH) (hn0 : n = n0) (hy : Po h) : X4_becomeNearestDecimal_w85 G k  n h := by
  subst hn0
  exact ww_vret C E dX4_becomeNearestDecimal_85 (by decide) (by decide) ⟨rfl, rfl, hy⟩
abbrev X4_read_w0 (G : xG) (k : xK) (x0 : Nat) (n : Nat) (h : xH) : Prop := WW G k 3 0 0 0 [(0, rf G x0)] [] n h
abbrev X4_read_w77 (G : xG) (k : xK) (x0 : Nat) (x1 : Int) (x2 : Int) (n : Nat) (h : xH) : Prop := WW G k 3 0 0 77 [(0, rf G x0), (1, .int (iz x1)), (2, .int (iz x2))] [] n h
abbrev X4_read_w148 (G : xG) (k : xK) (x0 : Nat) (n : Nat) (h : xH) : Prop := WW G k 3 0 0 148 [(0, rf G x0)] [] n h
abbrev X4_read_w124 (G : xG) (k : xK) (x0 : Nat) (x1 : Int) (x2 : Int) (n : Nat) (h : xH) : Prop := WW G k 3 0 0 124 [(0, rf G x0), (1, .int (iz x1)), (2, .int (iz x2))] [] n h
abbrev X4_read_w172 (G : xG) (k : xK) (s0 : Int) (n : Nat) (h : xH) : Prop := WW G k 3 0 0 172 [] [.int (iz s0)] n h
theorem S_X4_read_of {G : xG} {l : Launch} {x0 : Nat} {n : Nat} {h : xH} {Po : Int → xH → Prop} (body : ∀ k : xK, kl k = l → CC G k cX4_read RX4 3 rm_X4_read → CQ G k (some .int) rm_X4_read (fun r n1 h1 => ∃ z : Int, r = some (.int (iz z)) ∧ n1 = n ∧ Po z h1) → X4_read_w0 G k x0 n h) : S_X4_read G l x0 n h Po := xS_of (by decide +kernel) (Nat.le_of_ble_eq_true rfl) rfl (fun k hl hnm C E => body k hl C E)
set_option maxRecDepth 100000 in
set_option maxHeartbeats 4000000 in
theorem X4_read_b0 {G : xG} {k : xK} {n0 : Nat} {Po : Int → xH → Prop} (C : CC G k cX4_read RX4 3 rm_X4_read) (E : CQ G k (some .int) rm_X4_read (fun r n1 h1 => ∃ z : Int, r = some (.int (iz z)) ∧ n1 = n0 ∧ Po z h1)) (x0 : Nat) (n : Nat) (h : xH) (hn0 : n = n0) (hy : okO n h x0 4 ∧ S_X4_becomeNone G (kl k) x0 n h (fun h2 => okO n h2 x0 4 ∧ 0 ≤ hG h2 x0 0 ∧ okO n h2 x0 4 ∧ 0 ≤ hG h2 x0 7 ∧ okO n h2 x0 4 ∧ 0 ≤ hG h2 x0 8 ∧ okO n h2 ((hG h2 x0 0).toNat) 2 ∧ S_X2_parse G (kl k) ((hG h2 x0 0).toNat) ((hG h2 x0 7).toNat) ((hG h2 x0 8).toNat) n h2 (fun z10 h11 => okO n h11 x0 4 ∧ 0 ≤ hG h11 x0 0 ∧ okO n h11 ((hG h11 x0 0).toNat) 2 ∧ S_X2_hasMinus G (kl k) ((hG h11 x0 0).toNat) n h11 (fun z15 h16 => (rg z10 ∧ rg (3 : Int)) ∧ ((¬ z10 = (3 : Int) → (rg z10 ∧ rg (4 : Int)) ∧ ((¬ z10 = (4 : Int) → (rg z10 ∧ rg (1 : Int)) ∧ ((¬ z10 = (1 : Int) → X4_read_w77 G k x0 z10 z15 n h16) ∧ (z10 = (1 : Int) → okO n h16 x0 4 ∧ 0 ≤ hG h16 x0 0 ∧ okO n h16 ((hG h16 x0 0).toNat) 2 ∧ S_X2_inexactIsAsked G (kl k) ((hG h16 x0 0).toNat) n h16 (fun z26 h27 => rg z26 ∧ ((z26 = 0 → X4_read_w77 G k x0 z10 z15 n h27) ∧ (¬ z26 = 0 → okO n h27 x0 4 ∧ S_X4_becomeNearest G (kl k) x0 z15 0 n h27 (fun h31 => X4_read_w148 G k x0 n h31))))))) ∧ (z10 = (4 : Int) → okO n h16 x0 4 ∧ S_X4_becomeNotANumber G (kl k) x0 n h16 (fun h33 => X4_read_w148 G k x0 n h33)))) ∧ (z10 = (3 : Int) → okO n h16 x0 4 ∧ S_X4_becomeInfinite G (kl k) x0 z15 n h16 (fun h35 => X4_read_w148 G k x0 n h35))))))) : X4_read_w0 G k x0 n h := by
  subst hn0
  refine ww_aload_n C 0 0 rfl rfl dX4_read_0 ?_
  obtain ⟨p1, hy⟩ := hy
  refine cl_X4_79 C dX4_read_1 (Nat.le_of_ble_eq_true rfl) ⟨by decide, by decide⟩ ⟨by decide, by decide⟩ p1 ?_
  refine S_X4_becomeNone.mono hy (fun h2 hy => ?_)
  refine ww_aload_n C 0 0 rfl rfl dX4_read_4 ?_
  obtain ⟨p3, hy⟩ := hy
  obtain ⟨p4, hy⟩ := hy
  refine gf_X4_10 C dX4_read_5 p3 p4 ?_
  refine ww_aload_n C 0 0 rfl rfl dX4_read_8 ?_
  obtain ⟨p5, hy⟩ := hy
  obtain ⟨p6, hy⟩ := hy
  refine gf_X4_48 C dX4_read_9 p5 p6 ?_
  refine ww_aload_n C 0 0 rfl rfl dX4_read_12 ?_
  obtain ⟨p7, hy⟩ := hy
  obtain ⟨p8, hy⟩ := hy
  refine gf_X4_52 C dX4_read_13 p7 p8 ?_
  obtain ⟨p9, hy⟩ := hy
  refine cl_X4_82 C dX4_read_16 (Nat.le_of_ble_eq_true rfl) ⟨by decide, by decide⟩ ⟨by decide, by decide⟩ p9 ?_
  refine S_X2_parse.mono hy (fun z10 h11 hy => ?_)
  refine ww_istore_n C 1 rfl (by decide) rfl dX4_read_19 ?_
  refine ww_aload_n C 0 1 rfl rfl dX4_read_20 ?_
  obtain ⟨p12, hy⟩ := hy
  obtain ⟨p13, hy⟩ := hy
  refine gf_X4_10 C dX4_read_21 p12 p13 ?_
  obtain ⟨p14, hy⟩ := hy
  refine cl_X4_86 C dX4_read_24 (Nat.le_of_ble_eq_true rfl) ⟨by decide, by decide⟩ ⟨by decide, by decide⟩ p14 ?_
  refine S_X2_hasMinus.mono hy (fun z15 h16 hy => ?_)
  refine ww_istore_n C 2 rfl (by decide) rfl dX4_read_27 ?_
  refine ww_iload_n C 1 1 rfl rfl dX4_read_28 ?_
  refine ww_iconst C (z := 3) dX4_read_29 rfl ?_
  obtain ⟨p17, hy⟩ := hy
  refine ww_icmp_ne C (tg := 41) dX4_read_30 (by decide) p17.1 p17.2 (fun c18 => ?_) (fun c18 => ?_)
  · have hy := hy.1 c18
    refine ww_iload_n C 1 1 rfl rfl dX4_read_41 ?_
    refine ww_iconst C (z := 4) dX4_read_42 rfl ?_
    obtain ⟨p19, hy⟩ := hy
    refine ww_icmp_ne C (tg := 53) dX4_read_43 (by decide) p19.1 p19.2 (fun c20 => ?_) (fun c20 => ?_)
    · have hy := hy.1 c20
      refine ww_iload_n C 1 1 rfl rfl dX4_read_53 ?_
      refine ww_iconst C (z := 1) dX4_read_54 rfl ?_
      obtain ⟨p21, hy⟩ := hy
      refine ww_icmp_ne C (tg := 77) dX4_read_55 (by decide) p21.1 p21.2 (fun c22 => ?_) (fun c22 => ?_)
      · have hy := hy.1 c22
        exact ww_sub [2, 1, 0] rfl (by decide) (by decide) hy
      · have hy := hy.2 c22
        refine ww_aload_n C 0 2 rfl rfl dX4_read_58 ?_
        obtain ⟨p23, hy⟩ := hy
        obtain ⟨p24, hy⟩ := hy
        refine gf_X4_10 C dX4_read_59 p23 p24 ?_
        obtain ⟨p25, hy⟩ := hy
        refine cl_X4_97 C dX4_read_62 (Nat.le_of_ble_eq_true rfl) ⟨by decide, by decide⟩ ⟨by decide, by decide⟩ p25 ?_
        refine S_X2_inexactIsAsked.mono hy (fun z26 h27 hy => ?_)
        obtain ⟨p28, hy⟩ := hy
        refine ww_if_eq C (tg := 77) dX4_read_65 (by decide) p28 (fun c29 => ?_) (fun c29 => ?_)
        · have hy := hy.1 c29
          exact ww_sub [2, 1, 0] rfl (by decide) (by decide) hy
        · have hy := hy.2 c29
          refine ww_aload_n C 0 2 rfl rfl dX4_read_68 ?_
          refine ww_iload_n C 2 0 rfl rfl dX4_read_69 ?_
          refine ww_iconst C (z := 0) dX4_read_70 rfl ?_
          obtain ⟨p30, hy⟩ := hy
          refine cl_X4_100 C dX4_read_71 (Nat.le_of_ble_eq_true rfl) ⟨by decide, by decide⟩ ⟨by decide, by decide⟩ p30 ?_
          refine S_X4_becomeNearest.mono hy (fun h31 hy => ?_)
          refine ww_goto C (tg := 148) dX4_read_74 (by decide) ?_
          exact ww_sub [2] rfl (by decide) (by decide) hy
    · have hy := hy.2 c20
      refine ww_aload_n C 0 2 rfl rfl dX4_read_46 ?_
      obtain ⟨p32, hy⟩ := hy
      refine cl_X4_94 C dX4_read_47 (Nat.le_of_ble_eq_true rfl) ⟨by decide, by decide⟩ ⟨by decide, by decide⟩ p32 ?_
      refine S_X4_becomeNotANumber.mono hy (fun h33 hy => ?_)
      refine ww_goto C (tg := 148) dX4_read_50 (by decide) ?_
      exact ww_sub [2] rfl (by decide) (by decide) hy
  · have hy := hy.2 c18
    refine ww_aload_n C 0 2 rfl rfl dX4_read_33 ?_
    refine ww_iload_n C 2 0 rfl rfl dX4_read_34 ?_
    obtain ⟨p34, hy⟩ := hy
    refine cl_X4_90 C dX4_read_35 (Nat.le_of_ble_eq_true rfl) ⟨by decide, by decide⟩ ⟨by decide, by decide⟩ p34 ?_
    refine S_X4_becomeInfinite.mono hy (fun h35 hy => ?_)
    refine ww_goto C (tg := 148) dX4_read_38 (by decide) ?_
    exact ww_sub [2] rfl (by decide) (by decide) hy
set_option maxRecDepth 100000 in
set_option maxHeartbeats 4000000 in
theorem X4_read_b77 {G : xG} {k : xK} {n0 : Nat} {Po : Int → xH → Prop} (C : CC G k cX4_read RX4 3 rm_X4_read) (E : CQ G k (some .int) rm_X4_read (fun r n1 h1 => ∃ z : Int, r = some (.int (iz z)) ∧ n1 = n0 ∧ Po z h1)) (x0 : Nat) (x1 : Int) (x2 : Int) (n : Nat) (h : xH) (hn0 : n = n0) (hy : (rg x1 ∧ rg (1 : Int)) ∧ ((¬ x1 = (1 : Int) → (rg x1 ∧ rg (2 : Int)) ∧ ((¬ x1 = (2 : Int) → X4_read_w124 G k x0 x1 x2 n h) ∧ (x1 = (2 : Int) → okO n h x0 4 ∧ 0 ≤ hG h x0 0 ∧ okO n h ((hG h x0 0).toNat) 2 ∧ S_X2_exactIsAsked G (kl k) ((hG h x0 0).toNat) n h (fun z8 h9 => rg z8 ∧ ((z8 = 0 → X4_read_w124 G k x0 x1 x2 n h9) ∧ (¬ z8 = 0 → okO n h9 x0 4 ∧ 0 ≤ hG h9 x0 0 ∧ okO n h9 ((hG h9 x0 0).toNat) 2 ∧ S_X2_tens G (kl k) ((hG h9 x0 0).toNat) n h9 (fun z15 h16 => okO n h16 x0 4 ∧ S_X4_becomeExactDecimal G (kl k) x0 x2 z15 n h16 (fun h18 => X4_read_w148 G k x0 n h18)))))))) ∧ (x1 = (1 : Int) → okO n h x0 4 ∧ S_X4_bringToLowestTerms G (kl k) x0 n h (fun h20 => okO n h20 x0 4 ∧ S_X4_becomeExactNumber G (kl k) x0 x2 n h20 (fun h22 => X4_read_w148 G k x0 n h22))))) : X4_read_w77 G k x0 x1 x2 n h := by
  subst hn0
  refine ww_iload_n C 1 1 rfl rfl dX4_read_77 ?_
  refine ww_iconst C (z := 1) dX4_read_78 rfl ?_
  obtain ⟨p1, hy⟩ := hy
  refine ww_icmp_ne C (tg := 94) dX4_read_79 (by decide) p1.1 p1.2 (fun c2 => ?_) (fun c2 => ?_)
  · have hy := hy.1 c2
    refine ww_iload_n C 1 1 rfl rfl dX4_read_94 ?_
    refine ww_iconst C (z := 2) dX4_read_95 rfl ?_
    obtain ⟨p3, hy⟩ := hy
    refine ww_icmp_ne C (tg := 124) dX4_read_96 (by decide) p3.1 p3.2 (fun c4 => ?_) (fun c4 => ?_)
    · have hy := hy.1 c4
      exact ww_sub [0, 1, 2] rfl (by decide) (by decide) hy
    · have hy := hy.2 c4
      refine ww_aload_n C 0 0 rfl rfl dX4_read_99 ?_
      obtain ⟨p5, hy⟩ := hy
      obtain ⟨p6, hy⟩ := hy
      refine gf_X4_10 C dX4_read_100 p5 p6 ?_
      obtain ⟨p7, hy⟩ := hy
      refine cl_X4_110 C dX4_read_103 (Nat.le_of_ble_eq_true rfl) ⟨by decide, by decide⟩ ⟨by decide, by decide⟩ p7 ?_
      refine S_X2_exactIsAsked.mono hy (fun z8 h9 hy => ?_)
      obtain ⟨p10, hy⟩ := hy
      refine ww_if_eq C (tg := 124) dX4_read_106 (by decide) p10 (fun c11 => ?_) (fun c11 => ?_)
      · have hy := hy.1 c11
        exact ww_sub [0, 1, 2] rfl (by decide) (by decide) hy
      · have hy := hy.2 c11
        refine ww_aload_n C 0 0 rfl rfl dX4_read_109 ?_
        refine ww_iload_n C 2 2 rfl rfl dX4_read_110 ?_
        refine ww_aload_n C 0 0 rfl rfl dX4_read_111 ?_
        obtain ⟨p12, hy⟩ := hy
        obtain ⟨p13, hy⟩ := hy
        refine gf_X4_10 C dX4_read_112 p12 p13 ?_
        obtain ⟨p14, hy⟩ := hy
        refine cl_X4_113 C dX4_read_115 (Nat.le_of_ble_eq_true rfl) ⟨by decide, by decide⟩ ⟨by decide, by decide⟩ p14 ?_
        refine S_X2_tens.mono hy (fun z15 h16 hy => ?_)
        obtain ⟨p17, hy⟩ := hy
        refine cl_X4_116 C dX4_read_118 (Nat.le_of_ble_eq_true rfl) ⟨by decide, by decide⟩ ⟨by decide, by decide⟩ p17 ?_
        refine S_X4_becomeExactDecimal.mono hy (fun h18 hy => ?_)
        refine ww_goto C (tg := 148) dX4_read_121 (by decide) ?_
        exact ww_sub [0] rfl (by decide) (by decide) hy
  · have hy := hy.2 c2
    refine ww_aload_n C 0 0 rfl rfl dX4_read_82 ?_
    obtain ⟨p19, hy⟩ := hy
    refine cl_X4_104 C dX4_read_83 (Nat.le_of_ble_eq_true rfl) ⟨by decide, by decide⟩ ⟨by decide, by decide⟩ p19 ?_
    refine S_X4_bringToLowestTerms.mono hy (fun h20 hy => ?_)
    refine ww_aload_n C 0 0 rfl rfl dX4_read_86 ?_
    refine ww_iload_n C 2 2 rfl rfl dX4_read_87 ?_
    obtain ⟨p21, hy⟩ := hy
    refine cl_X4_107 C dX4_read_88 (Nat.le_of_ble_eq_true rfl) ⟨by decide, by decide⟩ ⟨by decide, by decide⟩ p21 ?_
    refine S_X4_becomeExactNumber.mono hy (fun h22 hy => ?_)
    refine ww_goto C (tg := 148) dX4_read_91 (by decide) ?_
    exact ww_sub [0] rfl (by decide) (by decide) hy
set_option maxRecDepth 100000 in
set_option maxHeartbeats 4000000 in
theorem X4_read_b148 {G : xG} {k : xK} {n0 : Nat} {Po : Int → xH → Prop} (C : CC G k cX4_read RX4 3 rm_X4_read) (E : CQ G k (some .int) rm_X4_read (fun r n1 h1 => ∃ z : Int, r = some (.int (iz z)) ∧ n1 = n0 ∧ Po z h1)) (x0 : Nat) (n : Nat) (h : xH) (hn0 : n = n0) (hy : okO n h x0 4 ∧ rg (hG h x0 3) ∧ ((¬ (hG h x0 3) = 0 → okO n h x0 4 ∧ (rg (hG h x0 3) ∧ rg (1 : Int)) ∧ ((¬ (hG h x0 3) = (1 : Int) → X4_read_w172 G k 2 n h) ∧ ((hG h x0 3) = (1 : Int) → X4_read_w172 G k 1 n h))) ∧ ((hG h x0 3) = 0 → X4_read_w172 G k 0 n h))) : X4_read_w148 G k x0 n h := by
  subst hn0
  refine ww_aload_n C 0 0 rfl rfl dX4_read_148 ?_
  obtain ⟨p1, hy⟩ := hy
  refine gf_X4_30 C dX4_read_149 p1 ?_
  obtain ⟨p2, hy⟩ := hy
  refine ww_if_ne C (tg := 159) dX4_read_152 (by decide) p2 (fun c3 => ?_) (fun c3 => ?_)
  · have hy := hy.1 c3
    refine ww_aload_n C 0 0 rfl rfl dX4_read_159 ?_
    obtain ⟨p4, hy⟩ := hy
    refine gf_X4_30 C dX4_read_160 p4 ?_
    refine ww_iconst C (z := 1) dX4_read_163 rfl ?_
    obtain ⟨p5, hy⟩ := hy
    refine ww_icmp_ne C (tg := 171) dX4_read_164 (by decide) p5.1 p5.2 (fun c6 => ?_) (fun c6 => ?_)
    · have hy := hy.1 c6
      refine ww_iconst C (z := 2) dX4_read_171 rfl ?_
      exact ww_sub [] rfl (by decide) (by decide) hy
    · have hy := hy.2 c6
      refine ww_iconst C (z := 1) dX4_read_167 rfl ?_
      refine ww_goto C (tg := 172) dX4_read_168 (by decide) ?_
      exact ww_sub [] rfl (by decide) (by decide) hy
  · have hy := hy.2 c3
    refine ww_iconst C (z := 0) dX4_read_155 rfl ?_
    refine ww_goto C (tg := 172) dX4_read_156 (by decide) ?_
    exact ww_sub [] rfl (by decide) (by decide) hy
set_option maxRecDepth 100000 in
set_option maxHeartbeats 4000000 in
theorem X4_read_b124 {G : xG} {k : xK} {n0 : Nat} {Po : Int → xH → Prop} (C : CC G k cX4_read RX4 3 rm_X4_read) (E : CQ G k (some .int) rm_X4_read (fun r n1 h1 => ∃ z : Int, r = some (.int (iz z)) ∧ n1 = n0 ∧ Po z h1)) (x0 : Nat) (x1 : Int) (x2 : Int) (n : Nat) (h : xH) (hn0 : n = n0) (hy : (rg x1 ∧ rg (2 : Int)) ∧ ((¬ x1 = (2 : Int) → X4_read_w148 G k x0 n h) ∧ (x1 = (2 : Int) → okO n h x0 4 ∧ 0 ≤ hG h x0 0 ∧ okO n h ((hG h x0 0).toNat) 2 ∧ S_X2_tens G (kl k) ((hG h x0 0).toNat) n h (fun z6 h7 => okO n h7 x0 4 ∧ 0 ≤ hG h7 x0 0 ∧ okO n h7 ((hG h7 x0 0).toNat) 2 ∧ S_X2_significantDigits G (kl k) ((hG h7 x0 0).toNat) n h7 (fun z11 h12 => okO n h12 x0 4 ∧ S_X4_becomeNearestDecimal G (kl k) x0 x2 z6 z11 n h12 (fun h14 => X4_read_w148 G k x0 n h14)))))) : X4_read_w124 G k x0 x1 x2 n h := by
  subst hn0
  refine ww_iload_n C 1 1 rfl rfl dX4_read_124 ?_
  refine ww_iconst C (z := 2) dX4_read_125 rfl ?_
  obtain ⟨p1, hy⟩ := hy
  refine ww_icmp_ne C (tg := 148) dX4_read_126 (by decide) p1.1 p1.2 (fun c2 => ?_) (fun c2 => ?_)
  · have hy := hy.1 c2
    exact ww_sub [0] rfl (by decide) (by decide) hy
  · have hy := hy.2 c2
    refine ww_aload_n C 0 0 rfl rfl dX4_read_129 ?_
    refine ww_iload_n C 2 2 rfl rfl dX4_read_130 ?_
    refine ww_aload_n C 0 0 rfl rfl dX4_read_131 ?_
    obtain ⟨p3, hy⟩ := hy
    obtain ⟨p4, hy⟩ := hy
    refine gf_X4_10 C dX4_read_132 p3 p4 ?_
    obtain ⟨p5, hy⟩ := hy
    refine cl_X4_113 C dX4_read_135 (Nat.le_of_ble_eq_true rfl) ⟨by decide, by decide⟩ ⟨by decide, by decide⟩ p5 ?_
    refine S_X2_tens.mono hy (fun z6 h7 hy => ?_)
    refine ww_aload_n C 0 0 rfl rfl dX4_read_138 ?_
    obtain ⟨p8, hy⟩ := hy
    obtain ⟨p9, hy⟩ := hy
    refine gf_X4_10 C dX4_read_139 p8 p9 ?_
    obtain ⟨p10, hy⟩ := hy
    refine cl_X4_119 C dX4_read_142 (Nat.le_of_ble_eq_true rfl) ⟨by decide, by decide⟩ ⟨by decide, by decide⟩ p10 ?_
    refine S_X2_significantDigits.mono hy (fun z11 h12 hy => ?_)
    obtain ⟨p13, hy⟩ := hy
    refine cl_X4_122 C dX4_read_145 (Nat.le_of_ble_eq_true rfl) ⟨by decide, by decide⟩ ⟨by decide, by decide⟩ p13 ?_
    refine S_X4_becomeNearestDecimal.mono hy (fun h14 hy => ?_)
    exact ww_sub [0] rfl (by decide) (by decide) hy
set_option maxRecDepth 100000 in
set_option maxHeartbeats 4000000 in
theorem X4_read_b172 {G : xG} {k : xK} {n0 : Nat} {Po : Int → xH → Prop} (C : CC G k cX4_read RX4 3 rm_X4_read) (E : CQ G k (some .int) rm_X4_read (fun r n1 h1 => ∃ z : Int, r = some (.int (iz z)) ∧ n1 = n0 ∧ Po z h1)) (s0 : Int) (n : Nat) (h : xH) (hn0 : n = n0) (hy : Po s0 h) : X4_read_w172 G k s0 n h := by
  subst hn0
  exact ww_iret C E dX4_read_172 (by decide) (by decide) ⟨_, rfl, rfl, hy⟩
abbrev X4_make_w0 (G : xG) (k : xK) (x0 : Nat) (x1 : Int) (x2 : Int) (x3 : Int) (n : Nat) (h : xH) : Prop := WW G k 5 0 0 0 [(0, rf G x0), (1, .int (iz x1)), (2, .long (lz x2)), (4, .int (iz x3))] [] n h
abbrev X4_make_w22 (G : xG) (k : xK)  (n : Nat) (h : xH) : Prop := WW G k 5 0 0 22 [] [] n h
theorem S_X4_make_of {G : xG} {l : Launch} {x0 : Nat} {x1 : Int} {x2 : Int} {x3 : Int} {n : Nat} {h : xH} {Po : Int → xH → Prop} (body : ∀ k : xK, kl k = l → CC G k cX4_make RX4 5 rm_X4_make → CQ G k (some .boolean) rm_X4_make (fun r n1 h1 => ∃ z : Int, r = some (.int (iz z)) ∧ n1 = n ∧ Po z h1) → X4_make_w0 G k x0 x1 x2 x3 n h) : S_X4_make G l x0 x1 x2 x3 n h Po := xS_of (by decide +kernel) (Nat.le_of_ble_eq_true rfl) rfl (fun k hl hnm C E => body k hl C E)
set_option maxRecDepth 100000 in
set_option maxHeartbeats 4000000 in
theorem X4_make_b0 {G : xG} {k : xK} {n0 : Nat} {Po : Int → xH → Prop} (C : CC G k cX4_make RX4 5 rm_X4_make) (E : CQ G k (some .boolean) rm_X4_make (fun r n1 h1 => ∃ z : Int, r = some (.int (iz z)) ∧ n1 = n0 ∧ Po z h1)) (x0 : Nat) (x1 : Int) (x2 : Int) (x3 : Int) (n : Nat) (h : xH) (hn0 : n = n0) (hy : (rgL x2 ∧ rgL 0) ∧ (((lC x2 0) < 0 → X4_make_w22 G k  n h) ∧ (¬ (lC x2 0) < 0 → (rg x3 ∧ rg (-2000 : Int)) ∧ ((x3 < (-2000 : Int) → X4_make_w22 G k  n h) ∧ (¬ x3 < (-2000 : Int) → (rg x3 ∧ rg (2000 : Int)) ∧ ((x3 ≤ (2000 : Int) → okO n h x0 4 ∧ 0 ≤ hG h x0 7 ∧ okO n h ((hG h x0 7).toNat) 1 ∧ S_X1_set G (kl k) ((hG h x0 7).toNat) x2 n h (fun h11 => okO n h11 x0 4 ∧ 0 ≤ hG h11 x0 8 ∧ okO n h11 ((hG h11 x0 8).toNat) 1 ∧ S_X1_set G (kl k) ((hG h11 x0 8).toNat) 1 n h11 (fun h15 => okO n h15 x0 4 ∧ S_X4_becomeNearest G (kl k) x0 x1 x3 n h15 (fun h17 => ((1 : Int) = 0 ∨ (1 : Int) = 1) ∧ Po (1 : Int) h17)))) ∧ (¬ x3 ≤ (2000 : Int) → X4_make_w22 G k  n h))))))) : X4_make_w0 G k x0 x1 x2 x3 n h := by
  subst hn0
  refine ww_lload_n C 2 2 rfl rfl dX4_make_0 ?_
  refine ww_lconst C (z := 0) dX4_make_1 rfl ?_
  obtain ⟨p1, hy⟩ := hy
  refine ww_lcmp C dX4_make_2 p1.1 p1.2 ?_
  refine ww_if_lt C (tg := 22) dX4_make_3 (by decide) (rg_lC _ _) (fun c3 => ?_) (fun c3 => ?_)
  · have hy := hy.1 c3
    exact ww_sub [] rfl (by decide) (by decide) hy
  · have hy := hy.2 c3
    refine ww_iload C 4 3 rfl dX4_make_6 ?_
    refine ww_sipush C (z := (-2000)) dX4_make_8 rfl ?_
    obtain ⟨p4, hy⟩ := hy
    refine ww_icmp_lt C (tg := 22) dX4_make_11 (by decide) p4.1 p4.2 (fun c5 => ?_) (fun c5 => ?_)
    · have hy := hy.1 c5
      exact ww_sub [] rfl (by decide) (by decide) hy
    · have hy := hy.2 c5
      refine ww_iload C 4 3 rfl dX4_make_14 ?_
      refine ww_sipush C (z := 2000) dX4_make_16 rfl ?_
      obtain ⟨p6, hy⟩ := hy
      refine ww_icmp_le C (tg := 24) dX4_make_19 (by decide) p6.1 p6.2 (fun c7 => ?_) (fun c7 => ?_)
      · have hy := hy.1 c7
        refine ww_aload_n C 0 0 rfl rfl dX4_make_24 ?_
        obtain ⟨p8, hy⟩ := hy
        obtain ⟨p9, hy⟩ := hy
        refine gf_X4_48 C dX4_make_25 p8 p9 ?_
        refine ww_lload_n C 2 2 rfl rfl dX4_make_28 ?_
        obtain ⟨p10, hy⟩ := hy
        refine cl_X4_126 C dX4_make_29 (Nat.le_of_ble_eq_true rfl) ⟨by decide, by decide⟩ ⟨by decide, by decide⟩ p10 ?_
        refine S_X1_set.mono hy (fun h11 hy => ?_)
        refine ww_aload_n C 0 0 rfl rfl dX4_make_32 ?_
        obtain ⟨p12, hy⟩ := hy
        obtain ⟨p13, hy⟩ := hy
        refine gf_X4_52 C dX4_make_33 p12 p13 ?_
        refine ww_lconst C (z := 1) dX4_make_36 rfl ?_
        obtain ⟨p14, hy⟩ := hy
        refine cl_X4_126 C dX4_make_37 (Nat.le_of_ble_eq_true rfl) ⟨by decide, by decide⟩ ⟨by decide, by decide⟩ p14 ?_
        refine S_X1_set.mono hy (fun h15 hy => ?_)
        refine ww_aload_n C 0 0 rfl rfl dX4_make_40 ?_
        refine ww_iload_n C 1 1 rfl rfl dX4_make_41 ?_
        refine ww_iload C 4 3 rfl dX4_make_42 ?_
        obtain ⟨p16, hy⟩ := hy
        refine cl_X4_100 C dX4_make_44 (Nat.le_of_ble_eq_true rfl) ⟨by decide, by decide⟩ ⟨by decide, by decide⟩ p16 ?_
        refine S_X4_becomeNearest.mono hy (fun h17 hy => ?_)
        refine ww_iconst C (z := 1) dX4_make_47 rfl ?_
        obtain ⟨p18, hy⟩ := hy
        exact ww_zret C E dX4_make_48 (nz_b p18) (by decide) (by decide) ⟨_, rfl, rfl, hy⟩
      · have hy := hy.2 c7
        exact ww_sub [] rfl (by decide) (by decide) hy
set_option maxRecDepth 100000 in
set_option maxHeartbeats 4000000 in
theorem X4_make_b22 {G : xG} {k : xK} {n0 : Nat} {Po : Int → xH → Prop} (C : CC G k cX4_make RX4 5 rm_X4_make) (E : CQ G k (some .boolean) rm_X4_make (fun r n1 h1 => ∃ z : Int, r = some (.int (iz z)) ∧ n1 = n0 ∧ Po z h1))  (n : Nat) (h : xH) (hn0 : n = n0) (hy : ((0 : Int) = 0 ∨ (0 : Int) = 1) ∧ Po (0 : Int) h) : X4_make_w22 G k  n h := by
  subst hn0
  refine ww_iconst C (z := 0) dX4_make_22 rfl ?_
  obtain ⟨p1, hy⟩ := hy
  exact ww_zret C E dX4_make_23 (nz_b p1) (by decide) (by decide) ⟨_, rfl, rfl, hy⟩
abbrev X4_divide_w0 (G : xG) (k : xK) (x0 : Nat) (x1 : Int) (x2 : Int) (n : Nat) (h : xH) : Prop := WW G k 5 0 0 0 [(0, rf G x0), (1, .long (lz x1)), (3, .long (lz x2))] [] n h
abbrev X4_divide_w24 (G : xG) (k : xK) (x0 : Nat) (x1 : Int) (x3 : Int) (s0 : Int) (s1 : Nat) (n : Nat) (h : xH) : Prop := WW G k 5 0 0 24 [(0, rf G x0), (1, .long (lz x1)), (3, .long (lz x3))] [.long (lz s0), rf G s1] n h
abbrev X4_divide_w47 (G : xG) (k : xK) (s0 : Int) (s1 : Nat) (n : Nat) (h : xH) : Prop := WW G k 5 0 0 47 [] [.int (iz s0), rf G s1] n h
theorem S_X4_divide_of {G : xG} {l : Launch} {x0 : Nat} {x1 : Int} {x2 : Int} {n : Nat} {h : xH} {Po : Int → xH → Prop} (body : ∀ k : xK, kl k = l → CC G k cX4_divide RX4 5 rm_X4_divide → CQ G k (some .boolean) rm_X4_divide (fun r n1 h1 => ∃ z : Int, r = some (.int (iz z)) ∧ n1 = n ∧ Po z h1) → X4_divide_w0 G k x0 x1 x2 n h) : S_X4_divide G l x0 x1 x2 n h Po := xS_of (by decide +kernel) (Nat.le_of_ble_eq_true rfl) rfl (fun k hl hnm C E => body k hl C E)
set_option maxRecDepth 100000 in
set_option maxHeartbeats 4000000 in
theorem X4_divide_b0 {G : xG} {k : xK} {n0 : Nat} {Po : Int → xH → Prop} (C : CC G k cX4_divide RX4 5 rm_X4_divide) (E : CQ G k (some .boolean) rm_X4_divide (fun r n1 h1 => ∃ z : Int, r = some (.int (iz z)) ∧ n1 = n0 ∧ Po z h1)) (x0 : Nat) (x1 : Int) (x2 : Int) (n : Nat) (h : xH) (hn0 : n = n0) (hy : (rgL x2 ∧ rgL 0) ∧ ((0 < (lC x2 0) → okO n h x0 4 ∧ 0 ≤ hG h x0 7 ∧ (rgL x1 ∧ rgL 0) ∧ ((0 ≤ (lC x1 0) → X4_divide_w24 G k x0 x1 x2 x1 ((hG h x0 7).toNat) n h) ∧ (¬ 0 ≤ (lC x1 0) → X4_divide_w24 G k x0 x1 x2 (-x1) ((hG h x0 7).toNat) n h))) ∧ (¬ 0 < (lC x2 0) → ((0 : Int) = 0 ∨ (0 : Int) = 1) ∧ Po (0 : Int) h))) : X4_divide_w0 G k x0 x1 x2 n h := by
  subst hn0
  refine ww_lload_n C 3 2 rfl rfl dX4_divide_0 ?_
  refine ww_lconst C (z := 0) dX4_divide_1 rfl ?_
  obtain ⟨p1, hy⟩ := hy
  refine ww_lcmp C dX4_divide_2 p1.1 p1.2 ?_
  refine ww_if_gt C (tg := 8) dX4_divide_3 (by decide) (rg_lC _ _) (fun c3 => ?_) (fun c3 => ?_)
  · have hy := hy.1 c3
    refine ww_aload_n C 0 0 rfl rfl dX4_divide_8 ?_
    obtain ⟨p4, hy⟩ := hy
    obtain ⟨p5, hy⟩ := hy
    refine gf_X4_48 C dX4_divide_9 p4 p5 ?_
    refine ww_lload_n C 1 1 rfl rfl dX4_divide_12 ?_
    refine ww_lconst C (z := 0) dX4_divide_13 rfl ?_
    obtain ⟨p6, hy⟩ := hy
    refine ww_lcmp C dX4_divide_14 p6.1 p6.2 ?_
    refine ww_if_ge C (tg := 23) dX4_divide_15 (by decide) (rg_lC _ _) (fun c8 => ?_) (fun c8 => ?_)
    · have hy := hy.1 c8
      refine ww_lload_n C 1 1 rfl rfl dX4_divide_23 ?_
      exact ww_sub [0, 1, 2] rfl (by decide) (by decide) hy
    · have hy := hy.2 c8
      refine ww_lload_n C 1 1 rfl rfl dX4_divide_18 ?_
      refine ww_lneg C dX4_divide_19 ?_
      refine ww_goto C (tg := 24) dX4_divide_20 (by decide) ?_
      exact ww_sub [0, 1, 2] rfl (by decide) (by decide) hy
  · have hy := hy.2 c3
    refine ww_iconst C (z := 0) dX4_divide_6 rfl ?_
    obtain ⟨p9, hy⟩ := hy
    exact ww_zret C E dX4_divide_7 (nz_b p9) (by decide) (by decide) ⟨_, rfl, rfl, hy⟩
set_option maxRecDepth 100000 in
set_option maxHeartbeats 4000000 in
theorem X4_divide_b24 {G : xG} {k : xK} {n0 : Nat} {Po : Int → xH → Prop} (C : CC G k cX4_divide RX4 5 rm_X4_divide) (E : CQ G k (some .boolean) rm_X4_divide (fun r n1 h1 => ∃ z : Int, r = some (.int (iz z)) ∧ n1 = n0 ∧ Po z h1)) (x0 : Nat) (x1 : Int) (x3 : Int) (s0 : Int) (s1 : Nat) (n : Nat) (h : xH) (hn0 : n = n0) (hy : okO n h s1 1 ∧ S_X1_set G (kl k) s1 s0 n h (fun h2 => okO n h2 x0 4 ∧ 0 ≤ hG h2 x0 8 ∧ okO n h2 ((hG h2 x0 8).toNat) 1 ∧ S_X1_set G (kl k) ((hG h2 x0 8).toNat) x3 n h2 (fun h6 => (rgL x1 ∧ rgL 0) ∧ ((0 ≤ (lC x1 0) → X4_divide_w47 G k 0 x0 n h6) ∧ (¬ 0 ≤ (lC x1 0) → X4_divide_w47 G k 1 x0 n h6))))) : X4_divide_w24 G k x0 x1 x3 s0 s1 n h := by
  subst hn0
  obtain ⟨p1, hy⟩ := hy
  refine cl_X4_126 C dX4_divide_24 (Nat.le_of_ble_eq_true rfl) ⟨by decide, by decide⟩ ⟨by decide, by decide⟩ p1 ?_
  refine S_X1_set.mono hy (fun h2 hy => ?_)
  refine ww_aload_n C 0 0 rfl rfl dX4_divide_27 ?_
  obtain ⟨p3, hy⟩ := hy
  obtain ⟨p4, hy⟩ := hy
  refine gf_X4_52 C dX4_divide_28 p3 p4 ?_
  refine ww_lload_n C 3 2 rfl rfl dX4_divide_31 ?_
  obtain ⟨p5, hy⟩ := hy
  refine cl_X4_126 C dX4_divide_32 (Nat.le_of_ble_eq_true rfl) ⟨by decide, by decide⟩ ⟨by decide, by decide⟩ p5 ?_
  refine S_X1_set.mono hy (fun h6 hy => ?_)
  refine ww_aload_n C 0 0 rfl rfl dX4_divide_35 ?_
  refine ww_lload_n C 1 1 rfl rfl dX4_divide_36 ?_
  refine ww_lconst C (z := 0) dX4_divide_37 rfl ?_
  obtain ⟨p7, hy⟩ := hy
  refine ww_lcmp C dX4_divide_38 p7.1 p7.2 ?_
  refine ww_if_ge C (tg := 46) dX4_divide_39 (by decide) (rg_lC _ _) (fun c9 => ?_) (fun c9 => ?_)
  · have hy := hy.1 c9
    refine ww_iconst C (z := 0) dX4_divide_46 rfl ?_
    exact ww_sub [] rfl (by decide) (by decide) hy
  · have hy := hy.2 c9
    refine ww_iconst C (z := 1) dX4_divide_42 rfl ?_
    refine ww_goto C (tg := 47) dX4_divide_43 (by decide) ?_
    exact ww_sub [] rfl (by decide) (by decide) hy
set_option maxRecDepth 100000 in
set_option maxHeartbeats 4000000 in
theorem X4_divide_b47 {G : xG} {k : xK} {n0 : Nat} {Po : Int → xH → Prop} (C : CC G k cX4_divide RX4 5 rm_X4_divide) (E : CQ G k (some .boolean) rm_X4_divide (fun r n1 h1 => ∃ z : Int, r = some (.int (iz z)) ∧ n1 = n0 ∧ Po z h1)) (s0 : Int) (s1 : Nat) (n : Nat) (h : xH) (hn0 : n = n0) (hy : okO n h s1 4 ∧ S_X4_becomeNearest G (kl k) s1 s0 0 n h (fun h2 => ((1 : Int) = 0 ∨ (1 : Int) = 1) ∧ Po (1 : Int) h2)) : X4_divide_w47 G k s0 s1 n h := by
  subst hn0
  refine ww_iconst C (z := 0) dX4_divide_47 rfl ?_
  obtain ⟨p1, hy⟩ := hy
  refine cl_X4_100 C dX4_divide_48 (Nat.le_of_ble_eq_true rfl) ⟨by decide, by decide⟩ ⟨by decide, by decide⟩ p1 ?_
  refine S_X4_becomeNearest.mono hy (fun h2 hy => ?_)
  refine ww_iconst C (z := 1) dX4_divide_51 rfl ?_
  obtain ⟨p3, hy⟩ := hy
  exact ww_zret C E dX4_divide_52 (nz_b p3) (by decide) (by decide) ⟨_, rfl, rfl, hy⟩
abbrev X4_exact_w0 (G : xG) (k : xK) (x0 : Nat) (n : Nat) (h : xH) : Prop := WW G k 2 0 0 0 [(0, rf G x0)] [] n h
abbrev X4_exact_w97 (G : xG) (k : xK) (x0 : Nat) (n : Nat) (h : xH) : Prop := WW G k 2 0 0 97 [(0, rf G x0)] [] n h
theorem S_X4_exact_of {G : xG} {l : Launch} {x0 : Nat} {n : Nat} {h : xH} {Po : Int → xH → Prop} (body : ∀ k : xK, kl k = l → CC G k cX4_exact RX4 2 rm_X4_exact → CQ G k (some .boolean) rm_X4_exact (fun r n1 h1 => ∃ z : Int, r = some (.int (iz z)) ∧ n1 = n ∧ Po z h1) → X4_exact_w0 G k x0 n h) : S_X4_exact G l x0 n h Po := xS_of (by decide +kernel) (Nat.le_of_ble_eq_true rfl) rfl (fun k hl hnm C E => body k hl C E)
set_option maxRecDepth 100000 in
set_option maxHeartbeats 4000000 in
theorem X4_exact_b0 {G : xG} {k : xK} {n0 : Nat} {Po : Int → xH → Prop} (C : CC G k cX4_exact RX4 2 rm_X4_exact) (E : CQ G k (some .boolean) rm_X4_exact (fun r n1 h1 => ∃ z : Int, r = some (.int (iz z)) ∧ n1 = n0 ∧ Po z h1)) (x0 : Nat) (n : Nat) (h : xH) (hn0 : n = n0) (hy : okO n h x0 4 ∧ (rg (hG h x0 3) ∧ rg (2 : Int)) ∧ (((hG h x0 3) = (2 : Int) → okO n h x0 4 ∧ 0 ≤ hG h x0 7 ∧ okO n h x0 4 ∧ okO n h ((hG h x0 7).toNat) 1 ∧ S_X1_set G (kl k) ((hG h x0 7).toNat) (hG h x0 5) n h (fun h8 => okO n h8 x0 4 ∧ 0 ≤ hG h8 x0 8 ∧ okO n h8 ((hG h8 x0 8).toNat) 1 ∧ S_X1_set G (kl k) ((hG h8 x0 8).toNat) 1 n h8 (fun h12 => okO n h12 x0 4 ∧ rg (hG h12 x0 6) ∧ (((hG h12 x0 6) < 0 → okO n h12 x0 4 ∧ (rgL (hG h12 x0 5) ∧ rgL 0) ∧ (((lC (hG h12 x0 5) 0) = 0 → X4_exact_w97 G k x0 n h12) ∧ (¬ (lC (hG h12 x0 5) 0) = 0 → okO n h12 x0 4 ∧ S_J13_numberOfTrailingZeros_95d88 G (kl k) (hG h12 x0 5) n h12 (fun z21 h22 => okO n h22 x0 4 ∧ S_J9_min_7cf53 G (kl k) z21 (-(hG h22 x0 6)) n h22 (fun z24 h25 => okO n h25 x0 4 ∧ 0 ≤ hG h25 x0 7 ∧ okO n h25 ((hG h25 x0 7).toNat) 1 ∧ S_X1_shiftRight G (kl k) ((hG h25 x0 7).toNat) z24 n h25 (fun h29 => okO n h29 x0 4 ∧ 0 ≤ hG h29 x0 8 ∧ okO n h29 x0 4 ∧ okO n h29 ((hG h29 x0 8).toNat) 1 ∧ S_X1_shiftLeft G (kl k) ((hG h29 x0 8).toNat) ((-(hG h29 x0 6)) - z24) n h29 (fun h34 => X4_exact_w97 G k x0 n h34))))))) ∧ (¬ (hG h12 x0 6) < 0 → okO n h12 x0 4 ∧ 0 ≤ hG h12 x0 7 ∧ okO n h12 x0 4 ∧ okO n h12 ((hG h12 x0 7).toNat) 1 ∧ S_X1_shiftLeft G (kl k) ((hG h12 x0 7).toNat) (hG h12 x0 6) n h12 (fun h39 => X4_exact_w97 G k x0 n h39)))))) ∧ (¬ (hG h x0 3) = (2 : Int) → ((0 : Int) = 0 ∨ (0 : Int) = 1) ∧ Po (0 : Int) h))) : X4_exact_w0 G k x0 n h := by
  subst hn0
  refine ww_aload_n C 0 0 rfl rfl dX4_exact_0 ?_
  obtain ⟨p1, hy⟩ := hy
  refine gf_X4_30 C dX4_exact_1 p1 ?_
  refine ww_iconst C (z := 2) dX4_exact_4 rfl ?_
  obtain ⟨p2, hy⟩ := hy
  refine ww_icmp_eq C (tg := 10) dX4_exact_5 (by decide) p2.1 p2.2 (fun c3 => ?_) (fun c3 => ?_)
  · have hy := hy.1 c3
    refine ww_aload_n C 0 0 rfl rfl dX4_exact_10 ?_
    obtain ⟨p4, hy⟩ := hy
    obtain ⟨p5, hy⟩ := hy
    refine gf_X4_48 C dX4_exact_11 p4 p5 ?_
    refine ww_aload_n C 0 0 rfl rfl dX4_exact_14 ?_
    obtain ⟨p6, hy⟩ := hy
    refine gf_X4_38 C dX4_exact_15 p6 ?_
    obtain ⟨p7, hy⟩ := hy
    refine cl_X4_126 C dX4_exact_18 (Nat.le_of_ble_eq_true rfl) ⟨by decide, by decide⟩ ⟨by decide, by decide⟩ p7 ?_
    refine S_X1_set.mono hy (fun h8 hy => ?_)
    refine ww_aload_n C 0 0 rfl rfl dX4_exact_21 ?_
    obtain ⟨p9, hy⟩ := hy
    obtain ⟨p10, hy⟩ := hy
    refine gf_X4_52 C dX4_exact_22 p9 p10 ?_
    refine ww_lconst C (z := 1) dX4_exact_25 rfl ?_
    obtain ⟨p11, hy⟩ := hy
    refine cl_X4_126 C dX4_exact_26 (Nat.le_of_ble_eq_true rfl) ⟨by decide, by decide⟩ ⟨by decide, by decide⟩ p11 ?_
    refine S_X1_set.mono hy (fun h12 hy => ?_)
    refine ww_aload_n C 0 0 rfl rfl dX4_exact_29 ?_
    obtain ⟨p13, hy⟩ := hy
    refine gf_X4_42 C dX4_exact_30 p13 ?_
    obtain ⟨p14, hy⟩ := hy
    refine ww_if_lt C (tg := 50) dX4_exact_33 (by decide) p14 (fun c15 => ?_) (fun c15 => ?_)
    · have hy := hy.1 c15
      refine ww_aload_n C 0 0 rfl rfl dX4_exact_50 ?_
      obtain ⟨p16, hy⟩ := hy
      refine gf_X4_38 C dX4_exact_51 p16 ?_
      refine ww_lconst C (z := 0) dX4_exact_54 rfl ?_
      obtain ⟨p17, hy⟩ := hy
      refine ww_lcmp C dX4_exact_55 p17.1 p17.2 ?_
      refine ww_if_eq C (tg := 97) dX4_exact_56 (by decide) (rg_lC _ _) (fun c19 => ?_) (fun c19 => ?_)
      · have hy := hy.1 c19
        exact ww_sub [0] rfl (by decide) (by decide) hy
      · have hy := hy.2 c19
        refine ww_aload_n C 0 0 rfl rfl dX4_exact_59 ?_
        obtain ⟨p20, hy⟩ := hy
        refine gf_X4_38 C dX4_exact_60 p20 ?_
        refine cl_X4_133 C dX4_exact_63 (Nat.le_of_ble_eq_true rfl) ⟨by decide, by decide⟩ ⟨by decide, by decide⟩ ?_
        refine S_J13_numberOfTrailingZeros_95d88.mono hy (fun z21 h22 hy => ?_)
        refine ww_aload_n C 0 0 rfl rfl dX4_exact_66 ?_
        obtain ⟨p23, hy⟩ := hy
        refine gf_X4_42 C dX4_exact_67 p23 ?_
        refine ww_ineg C dX4_exact_70 ?_
        refine cl_X4_139 C dX4_exact_71 (Nat.le_of_ble_eq_true rfl) ⟨by decide, by decide⟩ ⟨by decide, by decide⟩ ?_
        refine S_J9_min_7cf53.mono hy (fun z24 h25 hy => ?_)
        refine ww_istore_n C 1 rfl (by decide) rfl dX4_exact_74 ?_
        refine ww_aload_n C 0 1 rfl rfl dX4_exact_75 ?_
        obtain ⟨p26, hy⟩ := hy
        obtain ⟨p27, hy⟩ := hy
        refine gf_X4_48 C dX4_exact_76 p26 p27 ?_
        refine ww_iload_n C 1 0 rfl rfl dX4_exact_79 ?_
        obtain ⟨p28, hy⟩ := hy
        refine cl_X4_145 C dX4_exact_80 (Nat.le_of_ble_eq_true rfl) ⟨by decide, by decide⟩ ⟨by decide, by decide⟩ p28 ?_
        refine S_X1_shiftRight.mono hy (fun h29 hy => ?_)
        refine ww_aload_n C 0 1 rfl rfl dX4_exact_83 ?_
        obtain ⟨p30, hy⟩ := hy
        obtain ⟨p31, hy⟩ := hy
        refine gf_X4_52 C dX4_exact_84 p30 p31 ?_
        refine ww_aload_n C 0 1 rfl rfl dX4_exact_87 ?_
        obtain ⟨p32, hy⟩ := hy
        refine gf_X4_42 C dX4_exact_88 p32 ?_
        refine ww_ineg C dX4_exact_91 ?_
        refine ww_iload_n C 1 0 rfl rfl dX4_exact_92 ?_
        refine ww_isub C dX4_exact_93 ?_
        obtain ⟨p33, hy⟩ := hy
        refine cl_X4_130 C dX4_exact_94 (Nat.le_of_ble_eq_true rfl) ⟨by decide, by decide⟩ ⟨by decide, by decide⟩ p33 ?_
        refine S_X1_shiftLeft.mono hy (fun h34 hy => ?_)
        exact ww_sub [1] rfl (by decide) (by decide) hy
    · have hy := hy.2 c15
      refine ww_aload_n C 0 0 rfl rfl dX4_exact_36 ?_
      obtain ⟨p35, hy⟩ := hy
      obtain ⟨p36, hy⟩ := hy
      refine gf_X4_48 C dX4_exact_37 p35 p36 ?_
      refine ww_aload_n C 0 0 rfl rfl dX4_exact_40 ?_
      obtain ⟨p37, hy⟩ := hy
      refine gf_X4_42 C dX4_exact_41 p37 ?_
      obtain ⟨p38, hy⟩ := hy
      refine cl_X4_130 C dX4_exact_44 (Nat.le_of_ble_eq_true rfl) ⟨by decide, by decide⟩ ⟨by decide, by decide⟩ p38 ?_
      refine S_X1_shiftLeft.mono hy (fun h39 hy => ?_)
      refine ww_goto C (tg := 97) dX4_exact_47 (by decide) ?_
      exact ww_sub [0] rfl (by decide) (by decide) hy
  · have hy := hy.2 c3
    refine ww_iconst C (z := 0) dX4_exact_8 rfl ?_
    obtain ⟨p40, hy⟩ := hy
    exact ww_zret C E dX4_exact_9 (nz_b p40) (by decide) (by decide) ⟨_, rfl, rfl, hy⟩
set_option maxRecDepth 100000 in
set_option maxHeartbeats 4000000 in
theorem X4_exact_b97 {G : xG} {k : xK} {n0 : Nat} {Po : Int → xH → Prop} (C : CC G k cX4_exact RX4 2 rm_X4_exact) (E : CQ G k (some .boolean) rm_X4_exact (fun r n1 h1 => ∃ z : Int, r = some (.int (iz z)) ∧ n1 = n0 ∧ Po z h1)) (x0 : Nat) (n : Nat) (h : xH) (hn0 : n = n0) (hy : okO n h x0 4 ∧ okO n h x0 4 ∧ S_X4_becomeExactNumber G (kl k) x0 (hG h x0 4) n h (fun h3 => ((1 : Int) = 0 ∨ (1 : Int) = 1) ∧ Po (1 : Int) h3)) : X4_exact_w97 G k x0 n h := by
  subst hn0
  refine ww_aload_n C 0 0 rfl rfl dX4_exact_97 ?_
  refine ww_aload_n C 0 0 rfl rfl dX4_exact_98 ?_
  obtain ⟨p1, hy⟩ := hy
  refine gf_X4_34 C dX4_exact_99 p1 ?_
  obtain ⟨p2, hy⟩ := hy
  refine cl_X4_107 C dX4_exact_102 (Nat.le_of_ble_eq_true rfl) ⟨by decide, by decide⟩ ⟨by decide, by decide⟩ p2 ?_
  refine S_X4_becomeExactNumber.mono hy (fun h3 hy => ?_)
  refine ww_iconst C (z := 1) dX4_exact_105 rfl ?_
  obtain ⟨p4, hy⟩ := hy
  exact ww_zret C E dX4_exact_106 (nz_b p4) (by decide) (by decide) ⟨_, rfl, rfl, hy⟩
abbrev X4_inexact_w0 (G : xG) (k : xK) (x0 : Nat) (n : Nat) (h : xH) : Prop := WW G k 1 0 0 0 [(0, rf G x0)] [] n h
theorem S_X4_inexact_of {G : xG} {l : Launch} {x0 : Nat} {n : Nat} {h : xH} {Po : Int → xH → Prop} (body : ∀ k : xK, kl k = l → CC G k cX4_inexact RX4 1 rm_X4_inexact → CQ G k (some .boolean) rm_X4_inexact (fun r n1 h1 => ∃ z : Int, r = some (.int (iz z)) ∧ n1 = n ∧ Po z h1) → X4_inexact_w0 G k x0 n h) : S_X4_inexact G l x0 n h Po := xS_of (by decide +kernel) (Nat.le_of_ble_eq_true rfl) rfl (fun k hl hnm C E => body k hl C E)
set_option maxRecDepth 100000 in
set_option maxHeartbeats 4000000 in
theorem X4_inexact_b0 {G : xG} {k : xK} {n0 : Nat} {Po : Int → xH → Prop} (C : CC G k cX4_inexact RX4 1 rm_X4_inexact) (E : CQ G k (some .boolean) rm_X4_inexact (fun r n1 h1 => ∃ z : Int, r = some (.int (iz z)) ∧ n1 = n0 ∧ Po z h1)) (x0 : Nat) (n : Nat) (h : xH) (hn0 : n = n0) (hy : okO n h x0 4 ∧ (rg (hG h x0 3) ∧ rg (1 : Int)) ∧ (((hG h x0 3) = (1 : Int) → okO n h x0 4 ∧ okO n h x0 4 ∧ S_X4_becomeNearest G (kl k) x0 (hG h x0 4) 0 n h (fun h6 => ((1 : Int) = 0 ∨ (1 : Int) = 1) ∧ Po (1 : Int) h6)) ∧ (¬ (hG h x0 3) = (1 : Int) → ((0 : Int) = 0 ∨ (0 : Int) = 1) ∧ Po (0 : Int) h))) : X4_inexact_w0 G k x0 n h := by
  subst hn0
  refine ww_aload_n C 0 0 rfl rfl dX4_inexact_0 ?_
  obtain ⟨p1, hy⟩ := hy
  refine gf_X4_30 C dX4_inexact_1 p1 ?_
  refine ww_iconst C (z := 1) dX4_inexact_4 rfl ?_
  obtain ⟨p2, hy⟩ := hy
  refine ww_icmp_eq C (tg := 10) dX4_inexact_5 (by decide) p2.1 p2.2 (fun c3 => ?_) (fun c3 => ?_)
  · have hy := hy.1 c3
    refine ww_aload_n C 0 0 rfl rfl dX4_inexact_10 ?_
    refine ww_aload_n C 0 0 rfl rfl dX4_inexact_11 ?_
    obtain ⟨p4, hy⟩ := hy
    refine gf_X4_34 C dX4_inexact_12 p4 ?_
    refine ww_iconst C (z := 0) dX4_inexact_15 rfl ?_
    obtain ⟨p5, hy⟩ := hy
    refine cl_X4_100 C dX4_inexact_16 (Nat.le_of_ble_eq_true rfl) ⟨by decide, by decide⟩ ⟨by decide, by decide⟩ p5 ?_
    refine S_X4_becomeNearest.mono hy (fun h6 hy => ?_)
    refine ww_iconst C (z := 1) dX4_inexact_19 rfl ?_
    obtain ⟨p7, hy⟩ := hy
    exact ww_zret C E dX4_inexact_20 (nz_b p7) (by decide) (by decide) ⟨_, rfl, rfl, hy⟩
  · have hy := hy.2 c3
    refine ww_iconst C (z := 0) dX4_inexact_8 rfl ?_
    obtain ⟨p8, hy⟩ := hy
    exact ww_zret C E dX4_inexact_9 (nz_b p8) (by decide) (by decide) ⟨_, rfl, rfl, hy⟩
abbrev X4_kind_w0 (G : xG) (k : xK) (x0 : Nat) (n : Nat) (h : xH) : Prop := WW G k 1 0 0 0 [(0, rf G x0)] [] n h
theorem S_X4_kind_of {G : xG} {l : Launch} {x0 : Nat} {n : Nat} {h : xH} {Po : Int → xH → Prop} (body : ∀ k : xK, kl k = l → CC G k cX4_kind RX4 1 rm_X4_kind → CQ G k (some .int) rm_X4_kind (fun r n1 h1 => ∃ z : Int, r = some (.int (iz z)) ∧ n1 = n ∧ Po z h1) → X4_kind_w0 G k x0 n h) : S_X4_kind G l x0 n h Po := xS_of (by decide +kernel) (Nat.le_of_ble_eq_true rfl) rfl (fun k hl hnm C E => body k hl C E)
set_option maxRecDepth 100000 in
set_option maxHeartbeats 4000000 in
theorem X4_kind_b0 {G : xG} {k : xK} {n0 : Nat} {Po : Int → xH → Prop} (C : CC G k cX4_kind RX4 1 rm_X4_kind) (E : CQ G k (some .int) rm_X4_kind (fun r n1 h1 => ∃ z : Int, r = some (.int (iz z)) ∧ n1 = n0 ∧ Po z h1)) (x0 : Nat) (n : Nat) (h : xH) (hn0 : n = n0) (hy : okO n h x0 4 ∧ Po (hG h x0 3) h) : X4_kind_w0 G k x0 n h := by
  subst hn0
  refine ww_aload_n C 0 0 rfl rfl dX4_kind_0 ?_
  obtain ⟨p1, hy⟩ := hy
  refine gf_X4_30 C dX4_kind_1 p1 ?_
  exact ww_iret C E dX4_kind_4 (by decide) (by decide) ⟨_, rfl, rfl, hy⟩
abbrev X4_negative_w0 (G : xG) (k : xK) (x0 : Nat) (n : Nat) (h : xH) : Prop := WW G k 1 0 0 0 [(0, rf G x0)] [] n h
theorem S_X4_negative_of {G : xG} {l : Launch} {x0 : Nat} {n : Nat} {h : xH} {Po : Int → xH → Prop} (body : ∀ k : xK, kl k = l → CC G k cX4_negative RX4 1 rm_X4_negative → CQ G k (some .boolean) rm_X4_negative (fun r n1 h1 => ∃ z : Int, r = some (.int (iz z)) ∧ n1 = n ∧ Po z h1) → X4_negative_w0 G k x0 n h) : S_X4_negative G l x0 n h Po := xS_of (by decide +kernel) (Nat.le_of_ble_eq_true rfl) rfl (fun k hl hnm C E => body k hl C E)
set_option maxRecDepth 100000 in
set_option maxHeartbeats 4000000 in
theorem X4_negative_b0 {G : xG} {k : xK} {n0 : Nat} {Po : Int → xH → Prop} (C : CC G k cX4_negative RX4 1 rm_X4_negative) (E : CQ G k (some .boolean) rm_X4_negative (fun r n1 h1 => ∃ z : Int, r = some (.int (iz z)) ∧ n1 = n0 ∧ Po z h1)) (x0 : Nat) (n : Nat) (h : xH) (hn0 : n = n0) (hy : okO n h x0 4 ∧ ((hG h x0 4) = 0 ∨ (hG h x0 4) = 1) ∧ Po (hG h x0 4) h) : X4_negative_w0 G k x0 n h := by
  subst hn0
  refine ww_aload_n C 0 0 rfl rfl dX4_negative_0 ?_
  obtain ⟨p1, hy⟩ := hy
  refine gf_X4_34 C dX4_negative_1 p1 ?_
  obtain ⟨p2, hy⟩ := hy
  exact ww_zret C E dX4_negative_4 (nz_b p2) (by decide) (by decide) ⟨_, rfl, rfl, hy⟩
abbrev X4_units_w0 (G : xG) (k : xK) (x0 : Nat) (n : Nat) (h : xH) : Prop := WW G k 1 0 0 0 [(0, rf G x0)] [] n h
abbrev X4_units_w18 (G : xG) (k : xK) (s0 : Int) (n : Nat) (h : xH) : Prop := WW G k 1 0 0 18 [] [.long (lz s0)] n h
theorem S_X4_units_of {G : xG} {l : Launch} {x0 : Nat} {n : Nat} {h : xH} {Po : Int → xH → Prop} (body : ∀ k : xK, kl k = l → CC G k cX4_units RX4 1 rm_X4_units → CQ G k (some .long) rm_X4_units (fun r n1 h1 => ∃ z : Int, r = some (.long (lz z)) ∧ n1 = n ∧ Po z h1) → X4_units_w0 G k x0 n h) : S_X4_units G l x0 n h Po := xS_of (by decide +kernel) (Nat.le_of_ble_eq_true rfl) rfl (fun k hl hnm C E => body k hl C E)
set_option maxRecDepth 100000 in
set_option maxHeartbeats 4000000 in
theorem X4_units_b0 {G : xG} {k : xK} {n0 : Nat} {Po : Int → xH → Prop} (C : CC G k cX4_units RX4 1 rm_X4_units) (E : CQ G k (some .long) rm_X4_units (fun r n1 h1 => ∃ z : Int, r = some (.long (lz z)) ∧ n1 = n0 ∧ Po z h1)) (x0 : Nat) (n : Nat) (h : xH) (hn0 : n = n0) (hy : okO n h x0 4 ∧ (rg (hG h x0 3) ∧ rg (2 : Int)) ∧ ((¬ (hG h x0 3) = (2 : Int) → X4_units_w18 G k (-1) n h) ∧ ((hG h x0 3) = (2 : Int) → okO n h x0 4 ∧ X4_units_w18 G k (hG h x0 5) n h))) : X4_units_w0 G k x0 n h := by
  subst hn0
  refine ww_aload_n C 0 0 rfl rfl dX4_units_0 ?_
  obtain ⟨p1, hy⟩ := hy
  refine gf_X4_30 C dX4_units_1 p1 ?_
  refine ww_iconst C (z := 2) dX4_units_4 rfl ?_
  obtain ⟨p2, hy⟩ := hy
  refine ww_icmp_ne C (tg := 15) dX4_units_5 (by decide) p2.1 p2.2 (fun c3 => ?_) (fun c3 => ?_)
  · have hy := hy.1 c3
    refine ww_ldc2 C (z := (-1)) q_443 dX4_units_15 ?_
    exact ww_sub [] rfl (by decide) (by decide) hy
  · have hy := hy.2 c3
    refine ww_aload_n C 0 0 rfl rfl dX4_units_8 ?_
    obtain ⟨p4, hy⟩ := hy
    refine gf_X4_38 C dX4_units_9 p4 ?_
    refine ww_goto C (tg := 18) dX4_units_12 (by decide) ?_
    exact ww_sub [] rfl (by decide) (by decide) hy
set_option maxRecDepth 100000 in
set_option maxHeartbeats 4000000 in
theorem X4_units_b18 {G : xG} {k : xK} {n0 : Nat} {Po : Int → xH → Prop} (C : CC G k cX4_units RX4 1 rm_X4_units) (E : CQ G k (some .long) rm_X4_units (fun r n1 h1 => ∃ z : Int, r = some (.long (lz z)) ∧ n1 = n0 ∧ Po z h1)) (s0 : Int) (n : Nat) (h : xH) (hn0 : n = n0) (hy : Po s0 h) : X4_units_w18 G k s0 n h := by
  subst hn0
  exact ww_lret C E dX4_units_18 (by decide) (by decide) ⟨_, rfl, rfl, hy⟩
abbrev X4_place_w0 (G : xG) (k : xK) (x0 : Nat) (n : Nat) (h : xH) : Prop := WW G k 1 0 0 0 [(0, rf G x0)] [] n h
abbrev X4_place_w16 (G : xG) (k : xK) (s0 : Int) (n : Nat) (h : xH) : Prop := WW G k 1 0 0 16 [] [.int (iz s0)] n h
theorem S_X4_place_of {G : xG} {l : Launch} {x0 : Nat} {n : Nat} {h : xH} {Po : Int → xH → Prop} (body : ∀ k : xK, kl k = l → CC G k cX4_place RX4 1 rm_X4_place → CQ G k (some .int) rm_X4_place (fun r n1 h1 => ∃ z : Int, r = some (.int (iz z)) ∧ n1 = n ∧ Po z h1) → X4_place_w0 G k x0 n h) : S_X4_place G l x0 n h Po := xS_of (by decide +kernel) (Nat.le_of_ble_eq_true rfl) rfl (fun k hl hnm C E => body k hl C E)
set_option maxRecDepth 100000 in
set_option maxHeartbeats 4000000 in
theorem X4_place_b0 {G : xG} {k : xK} {n0 : Nat} {Po : Int → xH → Prop} (C : CC G k cX4_place RX4 1 rm_X4_place) (E : CQ G k (some .int) rm_X4_place (fun r n1 h1 => ∃ z : Int, r = some (.int (iz z)) ∧ n1 = n0 ∧ Po z h1)) (x0 : Nat) (n : Nat) (h : xH) (hn0 : n = n0) (hy : okO n h x0 4 ∧ (rg (hG h x0 3) ∧ rg (2 : Int)) ∧ ((¬ (hG h x0 3) = (2 : Int) → X4_place_w16 G k 0 n h) ∧ ((hG h x0 3) = (2 : Int) → okO n h x0 4 ∧ X4_place_w16 G k (hG h x0 6) n h))) : X4_place_w0 G k x0 n h := by
  subst hn0
  refine ww_aload_n C 0 0 rfl rfl dX4_place_0 ?_
  obtain ⟨p1, hy⟩ := hy
  refine gf_X4_30 C dX4_place_1 p1 ?_
  refine ww_iconst C (z := 2) dX4_place_4 rfl ?_
  obtain ⟨p2, hy⟩ := hy
  refine ww_icmp_ne C (tg := 15) dX4_place_5 (by decide) p2.1 p2.2 (fun c3 => ?_) (fun c3 => ?_)
  · have hy := hy.1 c3
    refine ww_iconst C (z := 0) dX4_place_15 rfl ?_
    exact ww_sub [] rfl (by decide) (by decide) hy
  · have hy := hy.2 c3
    refine ww_aload_n C 0 0 rfl rfl dX4_place_8 ?_
    obtain ⟨p4, hy⟩ := hy
    refine gf_X4_42 C dX4_place_9 p4 ?_
    refine ww_goto C (tg := 16) dX4_place_12 (by decide) ?_
    exact ww_sub [] rfl (by decide) (by decide) hy
set_option maxRecDepth 100000 in
set_option maxHeartbeats 4000000 in
theorem X4_place_b16 {G : xG} {k : xK} {n0 : Nat} {Po : Int → xH → Prop} (C : CC G k cX4_place RX4 1 rm_X4_place) (E : CQ G k (some .int) rm_X4_place (fun r n1 h1 => ∃ z : Int, r = some (.int (iz z)) ∧ n1 = n0 ∧ Po z h1)) (s0 : Int) (n : Nat) (h : xH) (hn0 : n = n0) (hy : Po s0 h) : X4_place_w16 G k s0 n h := by
  subst hn0
  exact ww_iret C E dX4_place_16 (by decide) (by decide) ⟨_, rfl, rfl, hy⟩
abbrev X4_bits_w0 (G : xG) (k : xK) (x0 : Nat) (x1 : Int) (n : Nat) (h : xH) : Prop := WW G k 2 0 0 0 [(0, rf G x0), (1, .int (iz x1))] [] n h
abbrev X4_bits_w31 (G : xG) (k : xK) (s0 : Int) (n : Nat) (h : xH) : Prop := WW G k 2 0 0 31 [] [.int (iz s0)] n h
theorem S_X4_bits_of {G : xG} {l : Launch} {x0 : Nat} {x1 : Int} {n : Nat} {h : xH} {Po : Int → xH → Prop} (body : ∀ k : xK, kl k = l → CC G k cX4_bits RX4 2 rm_X4_bits → CQ G k (some .int) rm_X4_bits (fun r n1 h1 => ∃ z : Int, r = some (.int (iz z)) ∧ n1 = n ∧ Po z h1) → X4_bits_w0 G k x0 x1 n h) : S_X4_bits G l x0 x1 n h Po := xS_of (by decide +kernel) (Nat.le_of_ble_eq_true rfl) rfl (fun k hl hnm C E => body k hl C E)
set_option maxRecDepth 100000 in
set_option maxHeartbeats 4000000 in
theorem X4_bits_b0 {G : xG} {k : xK} {n0 : Nat} {Po : Int → xH → Prop} (C : CC G k cX4_bits RX4 2 rm_X4_bits) (E : CQ G k (some .int) rm_X4_bits (fun r n1 h1 => ∃ z : Int, r = some (.int (iz z)) ∧ n1 = n0 ∧ Po z h1)) (x0 : Nat) (x1 : Int) (n : Nat) (h : xH) (hn0 : n = n0) (hy : okO n h x0 4 ∧ (rg (hG h x0 3) ∧ rg (1 : Int)) ∧ (((hG h x0 3) = (1 : Int) → rg x1 ∧ ((x1 = 0 → okO n h x0 4 ∧ 0 ≤ hG h x0 7 ∧ okO n h ((hG h x0 7).toNat) 1 ∧ S_X1_bitLength G (kl k) ((hG h x0 7).toNat) n h (fun z9 h10 => X4_bits_w31 G k z9 n h10)) ∧ (¬ x1 = 0 → okO n h x0 4 ∧ 0 ≤ hG h x0 8 ∧ okO n h ((hG h x0 8).toNat) 1 ∧ S_X1_bitLength G (kl k) ((hG h x0 8).toNat) n h (fun z14 h15 => X4_bits_w31 G k z14 n h15)))) ∧ (¬ (hG h x0 3) = (1 : Int) → Po (-1 : Int) h))) : X4_bits_w0 G k x0 x1 n h := by
  subst hn0
  refine ww_aload_n C 0 0 rfl rfl dX4_bits_0 ?_
  obtain ⟨p1, hy⟩ := hy
  refine gf_X4_30 C dX4_bits_1 p1 ?_
  refine ww_iconst C (z := 1) dX4_bits_4 rfl ?_
  obtain ⟨p2, hy⟩ := hy
  refine ww_icmp_eq C (tg := 10) dX4_bits_5 (by decide) p2.1 p2.2 (fun c3 => ?_) (fun c3 => ?_)
  · have hy := hy.1 c3
    refine ww_iload_n C 1 1 rfl rfl dX4_bits_10 ?_
    obtain ⟨p4, hy⟩ := hy
    refine ww_if_eq C (tg := 24) dX4_bits_11 (by decide) p4 (fun c5 => ?_) (fun c5 => ?_)
    · have hy := hy.1 c5
      refine ww_aload_n C 0 0 rfl rfl dX4_bits_24 ?_
      obtain ⟨p6, hy⟩ := hy
      obtain ⟨p7, hy⟩ := hy
      refine gf_X4_48 C dX4_bits_25 p6 p7 ?_
      obtain ⟨p8, hy⟩ := hy
      refine cl_X4_150 C dX4_bits_28 (Nat.le_of_ble_eq_true rfl) ⟨by decide, by decide⟩ ⟨by decide, by decide⟩ p8 ?_
      refine S_X1_bitLength.mono hy (fun z9 h10 hy => ?_)
      exact ww_sub [] rfl (by decide) (by decide) hy
    · have hy := hy.2 c5
      refine ww_aload_n C 0 0 rfl rfl dX4_bits_14 ?_
      obtain ⟨p11, hy⟩ := hy
      obtain ⟨p12, hy⟩ := hy
      refine gf_X4_52 C dX4_bits_15 p11 p12 ?_
      obtain ⟨p13, hy⟩ := hy
      refine cl_X4_150 C dX4_bits_18 (Nat.le_of_ble_eq_true rfl) ⟨by decide, by decide⟩ ⟨by decide, by decide⟩ p13 ?_
      refine S_X1_bitLength.mono hy (fun z14 h15 hy => ?_)
      refine ww_goto C (tg := 31) dX4_bits_21 (by decide) ?_
      exact ww_sub [] rfl (by decide) (by decide) hy
  · have hy := hy.2 c3
    refine ww_iconst C (z := (-1)) dX4_bits_8 rfl ?_
    exact ww_iret C E dX4_bits_9 (by decide) (by decide) ⟨_, rfl, rfl, hy⟩
set_option maxRecDepth 100000 in
set_option maxHeartbeats 4000000 in
theorem X4_bits_b31 {G : xG} {k : xK} {n0 : Nat} {Po : Int → xH → Prop} (C : CC G k cX4_bits RX4 2 rm_X4_bits) (E : CQ G k (some .int) rm_X4_bits (fun r n1 h1 => ∃ z : Int, r = some (.int (iz z)) ∧ n1 = n0 ∧ Po z h1)) (s0 : Int) (n : Nat) (h : xH) (hn0 : n = n0) (hy : Po s0 h) : X4_bits_w31 G k s0 n h := by
  subst hn0
  exact ww_iret C E dX4_bits_31 (by decide) (by decide) ⟨_, rfl, rfl, hy⟩
abbrev X4_appendNatural_w0 (G : xG) (k : xK) (x0 : Nat) (x1 : Nat) (x2 : Int) (n : Nat) (h : xH) : Prop := WW G k 7 0 0 0 [(0, rf G x0), (1, rf G x1), (2, .int (iz x2))] [] n h
abbrev X4_appendNatural_w11 (G : xG) (k : xK)  (n : Nat) (h : xH) : Prop := WW G k 7 0 0 11 [] [] n h
abbrev X4_appendNatural_w17 (G : xG) (k : xK) (x0 : Nat) (x1 : Nat) (x2 : Int) (x3 : Int) (x4 : Int) (n : Nat) (h : xH) : Prop := WW G k 7 0 0 17 [(0, rf G x0), (1, rf G x1), (2, .int (iz x2)), (3, .int (iz x3)), (4, .int (iz x4))] [] n h
abbrev X4_appendNatural_w46 (G : xG) (k : xK) (x0 : Nat) (x1 : Nat) (x2 : Int) (x3 : Int) (x4 : Int) (n : Nat) (h : xH) : Prop := WW G k 7 0 0 46 [(0, rf G x0), (1, rf G x1), (2, .int (iz x2)), (3, .int (iz x3)), (4, .int (iz x4))] [] n h
abbrev X4_appendNatural_w66 (G : xG) (k : xK) (x0 : Nat) (x2 : Int) (x3 : Int) (x4 : Int) (x5 : Int) (x6 : Int) (n : Nat) (h : xH) : Prop := WW G k 7 0 0 66 [(0, rf G x0), (2, .int (iz x2)), (3, .int (iz x3)), (4, .int (iz x4)), (5, .int (iz x5)), (6, .int (iz x6))] [] n h
abbrev X4_appendNatural_w108 (G : xG) (k : xK) (x0 : Nat) (x5 : Int) (n : Nat) (h : xH) : Prop := WW G k 7 0 0 108 [(0, rf G x0), (5, .int (iz x5))] [] n h
abbrev X4_appendNatural_w138 (G : xG) (k : xK) (x0 : Nat) (x5 : Int) (n : Nat) (h : xH) : Prop := WW G k 7 0 0 138 [(0, rf G x0), (5, .int (iz x5))] [] n h
theorem S_X4_appendNatural_of {G : xG} {l : Launch} {x0 : Nat} {x1 : Nat} {x2 : Int} {n : Nat} {h : xH} {Po : xH → Prop} (body : ∀ k : xK, kl k = l → CC G k cX4_appendNatural RX4 7 rm_X4_appendNatural → CQ G k none rm_X4_appendNatural (fun r n1 h1 => r = none ∧ n1 = n ∧ Po h1) → X4_appendNatural_w0 G k x0 x1 x2 n h) : S_X4_appendNatural G l x0 x1 x2 n h Po := xS_of (by decide +kernel) (Nat.le_of_ble_eq_true rfl) rfl (fun k hl hnm C E => body k hl C E)
set_option maxRecDepth 100000 in
set_option maxHeartbeats 4000000 in
theorem X4_appendNatural_b0 {G : xG} {k : xK} {n0 : Nat} {Po : xH → Prop} (C : CC G k cX4_appendNatural RX4 7 rm_X4_appendNatural) (E : CQ G k none rm_X4_appendNatural (fun r n1 h1 => r = none ∧ n1 = n0 ∧ Po h1)) (x0 : Nat) (x1 : Nat) (x2 : Int) (n : Nat) (h : xH) (hn0 : n = n0) (hy : (rg x2 ∧ rg (2 : Int)) ∧ ((x2 < (2 : Int) → X4_appendNatural_w11 G k  n h) ∧ (¬ x2 < (2 : Int) → (rg x2 ∧ rg (16 : Int)) ∧ ((x2 ≤ (16 : Int) → X4_appendNatural_w17 G k x0 x1 x2 x2 1 n h) ∧ (¬ x2 ≤ (16 : Int) → X4_appendNatural_w11 G k  n h))))) : X4_appendNatural_w0 G k x0 x1 x2 n h := by
  subst hn0
  refine ww_iload_n C 2 2 rfl rfl dX4_appendNatural_0 ?_
  refine ww_iconst C (z := 2) dX4_appendNatural_1 rfl ?_
  obtain ⟨p1, hy⟩ := hy
  refine ww_icmp_lt C (tg := 11) dX4_appendNatural_2 (by decide) p1.1 p1.2 (fun c2 => ?_) (fun c2 => ?_)
  · have hy := hy.1 c2
    exact ww_sub [] rfl (by decide) (by decide) hy
  · have hy := hy.2 c2
    refine ww_iload_n C 2 2 rfl rfl dX4_appendNatural_5 ?_
    refine ww_bipush C (z := 16) dX4_appendNatural_6 rfl ?_
    obtain ⟨p3, hy⟩ := hy
    refine ww_icmp_le C (tg := 12) dX4_appendNatural_8 (by decide) p3.1 p3.2 (fun c4 => ?_) (fun c4 => ?_)
    · have hy := hy.1 c4
      refine ww_iload_n C 2 2 rfl rfl dX4_appendNatural_12 ?_
      refine ww_istore_n C 3 rfl (by decide) rfl dX4_appendNatural_13 ?_
      refine ww_iconst C (z := 1) dX4_appendNatural_14 rfl ?_
      refine ww_istore C 4 (by decide) rfl dX4_appendNatural_15 ?_
      exact ww_sub [2, 3, 4, 1, 0] rfl (by decide) (by decide) hy
    · have hy := hy.2 c4
      exact ww_sub [] rfl (by decide) (by decide) hy
set_option maxRecDepth 100000 in
set_option maxHeartbeats 4000000 in
theorem X4_appendNatural_b11 {G : xG} {k : xK} {n0 : Nat} {Po : xH → Prop} (C : CC G k cX4_appendNatural RX4 7 rm_X4_appendNatural) (E : CQ G k none rm_X4_appendNatural (fun r n1 h1 => r = none ∧ n1 = n0 ∧ Po h1))  (n : Nat) (h : xH) (hn0 : n = n0) (hy : Po h) : X4_appendNatural_w11 G k  n h := by
  subst hn0
  exact ww_vret C E dX4_appendNatural_11 (by decide) (by decide) ⟨rfl, rfl, hy⟩
set_option maxRecDepth 100000 in
set_option maxHeartbeats 4000000 in
theorem X4_appendNatural_b17 {G : xG} {k : xK} {n0 : Nat} {Po : xH → Prop} (C : CC G k cX4_appendNatural RX4 7 rm_X4_appendNatural) (E : CQ G k none rm_X4_appendNatural (fun r n1 h1 => r = none ∧ n1 = n0 ∧ Po h1)) (x0 : Nat) (x1 : Nat) (x2 : Int) (x3 : Int) (x4 : Int) (n : Nat) (h : xH) (hn0 : n = n0) (hy : (rg x4 ∧ rg (31 : Int)) ∧ (((31 : Int) ≤ x4 → X4_appendNatural_w46 G k x0 x1 x2 x3 x4 n h) ∧ (¬ (31 : Int) ≤ x4 → rg x3 ∧ rg x2 ∧ (rgL (x3 * x2) ∧ rgL 2147483647) ∧ ((0 < (lC (x3 * x2) 2147483647) → X4_appendNatural_w46 G k x0 x1 x2 x3 x4 n h) ∧ (¬ 0 < (lC (x3 * x2) 2147483647) → X4_appendNatural_w17 G k x0 x1 x2 (x3 * x2) (x4 + 1) n h))))) : X4_appendNatural_w17 G k x0 x1 x2 x3 x4 n h := by
  subst hn0
  refine ww_iload C 4 4 rfl dX4_appendNatural_17 ?_
  refine ww_bipush C (z := 31) dX4_appendNatural_19 rfl ?_
  obtain ⟨p1, hy⟩ := hy
  refine ww_icmp_ge C (tg := 46) dX4_appendNatural_21 (by decide) p1.1 p1.2 (fun c2 => ?_) (fun c2 => ?_)
  · have hy := hy.1 c2
    exact ww_sub [0, 1, 2, 3, 4] rfl (by decide) (by decide) hy
  · have hy := hy.2 c2
    refine ww_iload_n C 3 3 rfl rfl dX4_appendNatural_24 ?_
    obtain ⟨p3, hy⟩ := hy
    refine ww_i2l C dX4_appendNatural_25 p3 ?_
    refine ww_iload_n C 2 2 rfl rfl dX4_appendNatural_26 ?_
    obtain ⟨p4, hy⟩ := hy
    refine ww_i2l C dX4_appendNatural_27 p4 ?_
    refine ww_lmul C dX4_appendNatural_28 ?_
    refine ww_ldc2 C (z := 2147483647) q_444 dX4_appendNatural_29 ?_
    obtain ⟨p5, hy⟩ := hy
    refine ww_lcmp C dX4_appendNatural_32 p5.1 p5.2 ?_
    refine ww_if_gt C (tg := 46) dX4_appendNatural_33 (by decide) (rg_lC _ _) (fun c7 => ?_) (fun c7 => ?_)
    · have hy := hy.1 c7
      exact ww_sub [0, 1, 2, 3, 4] rfl (by decide) (by decide) hy
    · have hy := hy.2 c7
      refine ww_iload_n C 3 3 rfl rfl dX4_appendNatural_36 ?_
      refine ww_iload_n C 2 2 rfl rfl dX4_appendNatural_37 ?_
      refine ww_imul C dX4_appendNatural_38 ?_
      refine ww_istore_n C 3 rfl (by decide) rfl dX4_appendNatural_39 ?_
      refine ww_iinc C 4 4 rfl (by decide) rfl dX4_appendNatural_40 ?_
      refine ww_goto C (tg := 17) dX4_appendNatural_43 (by decide) ?_
      exact ww_sub [2, 3, 4, 1, 0] rfl (by decide) (by decide) hy
set_option maxRecDepth 100000 in
set_option maxHeartbeats 4000000 in
theorem X4_appendNatural_b46 {G : xG} {k : xK} {n0 : Nat} {Po : xH → Prop} (C : CC G k cX4_appendNatural RX4 7 rm_X4_appendNatural) (E : CQ G k none rm_X4_appendNatural (fun r n1 h1 => r = none ∧ n1 = n0 ∧ Po h1)) (x0 : Nat) (x1 : Nat) (x2 : Int) (x3 : Int) (x4 : Int) (n : Nat) (h : xH) (hn0 : n = n0) (hy : okO n h x0 4 ∧ 0 ≤ hG h x0 2 ∧ okO n h ((hG h x0 2).toNat) 0 ∧ S_X0_size G (kl k) ((hG h x0 2).toNat) n h (fun z4 h5 => okO n h5 x0 4 ∧ 0 ≤ hG h5 x0 9 ∧ okO n h5 ((hG h5 x0 9).toNat) 1 ∧ S_X1_copy G (kl k) ((hG h5 x0 9).toNat) x1 n h5 (fun h9 => X4_appendNatural_w66 G k x0 x2 x3 x4 z4 0 n h9))) : X4_appendNatural_w46 G k x0 x1 x2 x3 x4 n h := by
  subst hn0
  refine ww_aload_n C 0 0 rfl rfl dX4_appendNatural_46 ?_
  obtain ⟨p1, hy⟩ := hy
  obtain ⟨p2, hy⟩ := hy
  refine gf_X4_27 C dX4_appendNatural_47 p1 p2 ?_
  obtain ⟨p3, hy⟩ := hy
  refine cl_X4_68 C dX4_appendNatural_50 (Nat.le_of_ble_eq_true rfl) ⟨by decide, by decide⟩ ⟨by decide, by decide⟩ p3 ?_
  refine S_X0_size.mono hy (fun z4 h5 hy => ?_)
  refine ww_istore C 5 (by decide) rfl dX4_appendNatural_53 ?_
  refine ww_aload_n C 0 1 rfl rfl dX4_appendNatural_55 ?_
  obtain ⟨p6, hy⟩ := hy
  obtain ⟨p7, hy⟩ := hy
  refine gf_X4_55 C dX4_appendNatural_56 p6 p7 ?_
  refine ww_aload_n C 1 2 rfl rfl dX4_appendNatural_59 ?_
  obtain ⟨p8, hy⟩ := hy
  refine cl_X4_241 C dX4_appendNatural_60 (Nat.le_of_ble_eq_true rfl) ⟨by decide, by decide⟩ ⟨by decide, by decide⟩ p8 ?_
  refine S_X1_copy.mono hy (fun h9 hy => ?_)
  refine ww_iconst C (z := 0) dX4_appendNatural_63 rfl ?_
  refine ww_istore C 6 (by decide) rfl dX4_appendNatural_64 ?_
  exact ww_sub [2, 4, 5, 6, 1, 0] rfl (by decide) (by decide) hy
set_option maxRecDepth 100000 in
set_option maxHeartbeats 4000000 in
theorem X4_appendNatural_b66 {G : xG} {k : xK} {n0 : Nat} {Po : xH → Prop} (C : CC G k cX4_appendNatural RX4 7 rm_X4_appendNatural) (E : CQ G k none rm_X4_appendNatural (fun r n1 h1 => r = none ∧ n1 = n0 ∧ Po h1)) (x0 : Nat) (x2 : Int) (x3 : Int) (x4 : Int) (x5 : Int) (x6 : Int) (n : Nat) (h : xH) (hn0 : n = n0) (hy : (rg x6 ∧ rg (4224 : Int)) ∧ (((4224 : Int) ≤ x6 → X4_appendNatural_w108 G k x0 x5 n h) ∧ (¬ (4224 : Int) ≤ x6 → okO n h x0 4 ∧ 0 ≤ hG h x0 9 ∧ okO n h ((hG h x0 9).toNat) 1 ∧ S_X1_isZero G (kl k) ((hG h x0 9).toNat) n h (fun z6 h7 => rg z6 ∧ ((¬ z6 = 0 → X4_appendNatural_w108 G k x0 x5 n h7) ∧ (z6 = 0 → okO n h7 x0 4 ∧ 0 ≤ hG h7 x0 2 ∧ okO n h7 x0 4 ∧ 0 ≤ hG h7 x0 9 ∧ okO n h7 ((hG h7 x0 9).toNat) 1 ∧ S_X1_divideBySmall G (kl k) ((hG h7 x0 9).toNat) x3 n h7 (fun z15 h16 => okO n h16 ((hG h7 x0 2).toNat) 0 ∧ S_X0_appendLastDigits G (kl k) ((hG h7 x0 2).toNat) z15 x2 x4 n h16 (fun h18 => X4_appendNatural_w66 G k x0 x2 x3 x4 x5 (x6 + 1) n h18)))))))) : X4_appendNatural_w66 G k x0 x2 x3 x4 x5 x6 n h := by
  subst hn0
  refine ww_iload C 6 5 rfl dX4_appendNatural_66 ?_
  refine ww_sipush C (z := 4224) dX4_appendNatural_68 rfl ?_
  obtain ⟨p1, hy⟩ := hy
  refine ww_icmp_ge C (tg := 108) dX4_appendNatural_71 (by decide) p1.1 p1.2 (fun c2 => ?_) (fun c2 => ?_)
  · have hy := hy.1 c2
    exact ww_sub [0, 4] rfl (by decide) (by decide) hy
  · have hy := hy.2 c2
    refine ww_aload_n C 0 0 rfl rfl dX4_appendNatural_74 ?_
    obtain ⟨p3, hy⟩ := hy
    obtain ⟨p4, hy⟩ := hy
    refine gf_X4_55 C dX4_appendNatural_75 p3 p4 ?_
    obtain ⟨p5, hy⟩ := hy
    refine cl_X4_178 C dX4_appendNatural_78 (Nat.le_of_ble_eq_true rfl) ⟨by decide, by decide⟩ ⟨by decide, by decide⟩ p5 ?_
    refine S_X1_isZero.mono hy (fun z6 h7 hy => ?_)
    obtain ⟨p8, hy⟩ := hy
    refine ww_if_ne C (tg := 108) dX4_appendNatural_81 (by decide) p8 (fun c9 => ?_) (fun c9 => ?_)
    · have hy := hy.1 c9
      exact ww_sub [0, 4] rfl (by decide) (by decide) hy
    · have hy := hy.2 c9
      refine ww_aload_n C 0 0 rfl rfl dX4_appendNatural_84 ?_
      obtain ⟨p10, hy⟩ := hy
      obtain ⟨p11, hy⟩ := hy
      refine gf_X4_27 C dX4_appendNatural_85 p10 p11 ?_
      refine ww_aload_n C 0 0 rfl rfl dX4_appendNatural_88 ?_
      obtain ⟨p12, hy⟩ := hy
      obtain ⟨p13, hy⟩ := hy
      refine gf_X4_55 C dX4_appendNatural_89 p12 p13 ?_
      refine ww_iload_n C 3 2 rfl rfl dX4_appendNatural_92 ?_
      obtain ⟨p14, hy⟩ := hy
      refine cl_X4_254 C dX4_appendNatural_93 (Nat.le_of_ble_eq_true rfl) ⟨by decide, by decide⟩ ⟨by decide, by decide⟩ p14 ?_
      refine S_X1_divideBySmall.mono hy (fun z15 h16 hy => ?_)
      refine ww_iload_n C 2 1 rfl rfl dX4_appendNatural_96 ?_
      refine ww_iload C 4 3 rfl dX4_appendNatural_97 ?_
      obtain ⟨p17, hy⟩ := hy
      refine cl_X4_257 C dX4_appendNatural_99 (Nat.le_of_ble_eq_true rfl) ⟨by decide, by decide⟩ ⟨by decide, by decide⟩ p17 ?_
      refine S_X0_appendLastDigits.mono hy (fun h18 hy => ?_)
      refine ww_iinc C 6 5 rfl (by decide) rfl dX4_appendNatural_102 ?_
      refine ww_goto C (tg := 66) dX4_appendNatural_105 (by decide) ?_
      exact ww_sub [1, 2, 3, 4, 5, 0] rfl (by decide) (by decide) hy
set_option maxRecDepth 100000 in
set_option maxHeartbeats 4000000 in
theorem X4_appendNatural_b108 {G : xG} {k : xK} {n0 : Nat} {Po : xH → Prop} (C : CC G k cX4_appendNatural RX4 7 rm_X4_appendNatural) (E : CQ G k none rm_X4_appendNatural (fun r n1 h1 => r = none ∧ n1 = n0 ∧ Po h1)) (x0 : Nat) (x5 : Int) (n : Nat) (h : xH) (hn0 : n = n0) (hy : okO n h x0 4 ∧ 0 ≤ hG h x0 2 ∧ okO n h ((hG h x0 2).toNat) 0 ∧ S_X0_dropZerosAtEnd G (kl k) ((hG h x0 2).toNat) x5 n h (fun h4 => okO n h4 x0 4 ∧ 0 ≤ hG h4 x0 2 ∧ okO n h4 ((hG h4 x0 2).toNat) 0 ∧ S_X0_size G (kl k) ((hG h4 x0 2).toNat) n h4 (fun z8 h9 => (rg z8 ∧ rg x5) ∧ ((¬ z8 = x5 → X4_appendNatural_w138 G k x0 x5 n h9) ∧ (z8 = x5 → okO n h9 x0 4 ∧ 0 ≤ hG h9 x0 2 ∧ okO n h9 ((hG h9 x0 2).toNat) 0 ∧ S_X0_append G (kl k) ((hG h9 x0 2).toNat) 48 n h9 (fun h15 => X4_appendNatural_w138 G k x0 x5 n h15)))))) : X4_appendNatural_w108 G k x0 x5 n h := by
  subst hn0
  refine ww_aload_n C 0 0 rfl rfl dX4_appendNatural_108 ?_
  obtain ⟨p1, hy⟩ := hy
  obtain ⟨p2, hy⟩ := hy
  refine gf_X4_27 C dX4_appendNatural_109 p1 p2 ?_
  refine ww_iload C 5 1 rfl dX4_appendNatural_112 ?_
  obtain ⟨p3, hy⟩ := hy
  refine cl_X4_261 C dX4_appendNatural_114 (Nat.le_of_ble_eq_true rfl) ⟨by decide, by decide⟩ ⟨by decide, by decide⟩ p3 ?_
  refine S_X0_dropZerosAtEnd.mono hy (fun h4 hy => ?_)
  refine ww_aload_n C 0 0 rfl rfl dX4_appendNatural_117 ?_
  obtain ⟨p5, hy⟩ := hy
  obtain ⟨p6, hy⟩ := hy
  refine gf_X4_27 C dX4_appendNatural_118 p5 p6 ?_
  obtain ⟨p7, hy⟩ := hy
  refine cl_X4_68 C dX4_appendNatural_121 (Nat.le_of_ble_eq_true rfl) ⟨by decide, by decide⟩ ⟨by decide, by decide⟩ p7 ?_
  refine S_X0_size.mono hy (fun z8 h9 hy => ?_)
  refine ww_iload C 5 1 rfl dX4_appendNatural_124 ?_
  obtain ⟨p10, hy⟩ := hy
  refine ww_icmp_ne C (tg := 138) dX4_appendNatural_126 (by decide) p10.1 p10.2 (fun c11 => ?_) (fun c11 => ?_)
  · have hy := hy.1 c11
    exact ww_sub [0, 1] rfl (by decide) (by decide) hy
  · have hy := hy.2 c11
    refine ww_aload_n C 0 0 rfl rfl dX4_appendNatural_129 ?_
    obtain ⟨p12, hy⟩ := hy
    obtain ⟨p13, hy⟩ := hy
    refine gf_X4_27 C dX4_appendNatural_130 p12 p13 ?_
    refine ww_bipush C (z := 48) dX4_appendNatural_133 rfl ?_
    obtain ⟨p14, hy⟩ := hy
    refine cl_X4_72 C dX4_appendNatural_135 (Nat.le_of_ble_eq_true rfl) ⟨by decide, by decide⟩ ⟨by decide, by decide⟩ p14 ?_
    refine S_X0_append.mono hy (fun h15 hy => ?_)
    exact ww_sub [0, 1] rfl (by decide) (by decide) hy
set_option maxRecDepth 100000 in
set_option maxHeartbeats 4000000 in
theorem X4_appendNatural_b138 {G : xG} {k : xK} {n0 : Nat} {Po : xH → Prop} (C : CC G k cX4_appendNatural RX4 7 rm_X4_appendNatural) (E : CQ G k none rm_X4_appendNatural (fun r n1 h1 => r = none ∧ n1 = n0 ∧ Po h1)) (x0 : Nat) (x5 : Int) (n : Nat) (h : xH) (hn0 : n = n0) (hy : okO n h x0 4 ∧ 0 ≤ hG h x0 2 ∧ okO n h ((hG h x0 2).toNat) 0 ∧ S_X0_reverseFrom G (kl k) ((hG h x0 2).toNat) x5 n h (fun h4 => Po h4)) : X4_appendNatural_w138 G k x0 x5 n h := by
  subst hn0
  refine ww_aload_n C 0 0 rfl rfl dX4_appendNatural_138 ?_
  obtain ⟨p1, hy⟩ := hy
  obtain ⟨p2, hy⟩ := hy
  refine gf_X4_27 C dX4_appendNatural_139 p1 p2 ?_
  refine ww_iload C 5 1 rfl dX4_appendNatural_142 ?_
  obtain ⟨p3, hy⟩ := hy
  refine cl_X4_264 C dX4_appendNatural_144 (Nat.le_of_ble_eq_true rfl) ⟨by decide, by decide⟩ ⟨by decide, by decide⟩ p3 ?_
  refine S_X0_reverseFrom.mono hy (fun h4 hy => ?_)
  exact ww_vret C E dX4_appendNatural_147 (by decide) (by decide) ⟨rfl, rfl, hy⟩
abbrev X4_appendExactNumber_w0 (G : xG) (k : xK) (x0 : Nat) (x1 : Int) (n : Nat) (h : xH) : Prop := WW G k 2 0 0 0 [(0, rf G x0), (1, .int (iz x1))] [] n h
abbrev X4_appendExactNumber_w38 (G : xG) (k : xK) (x0 : Nat) (x1 : Int) (n : Nat) (h : xH) : Prop := WW G k 2 1 8226 38 [(0, rf G x0), (1, .int (iz x1))] [] n h
abbrev X4_appendExactNumber_w75 (G : xG) (k : xK)  (n : Nat) (h : xH) : Prop := WW G k 2 1 8226 75 [] [] n h
theorem S_X4_appendExactNumber_of {G : xG} {l : Launch} {x0 : Nat} {x1 : Int} {n : Nat} {h : xH} {Po : Nat → xH → Prop} (body : ∀ k : xK, kl k = l → CC G k cX4_appendExactNumber RX4 2 rm_X4_appendExactNumber → CQ G k none rm_X4_appendExactNumber (fun r n1 h1 => r = none ∧ Po n1 h1) → X4_appendExactNumber_w0 G k x0 x1 n h) : S_X4_appendExactNumber G l x0 x1 n h Po := xS_of (by decide +kernel) (Nat.le_of_ble_eq_true rfl) rfl (fun k hl hnm C E => body k hl C E)
set_option maxRecDepth 100000 in
set_option maxHeartbeats 4000000 in
theorem X4_appendExactNumber_b0 {G : xG} {k : xK} {n0 : Nat} {Po : Nat → xH → Prop} (C : CC G k cX4_appendExactNumber RX4 2 rm_X4_appendExactNumber) (E : CQ G k none rm_X4_appendExactNumber (fun r n1 h1 => r = none ∧ Po n1 h1)) (x0 : Nat) (x1 : Int) (n : Nat) (h : xH) (hy : okO n h x0 4 ∧ 0 ≤ hG h x0 2 ∧ okO n h x0 4 ∧ 0 ≤ hG h x0 7 ∧ okO n h ((hG h x0 7).toNat) 1 ∧ S_X1_bitLength G (kl k) ((hG h x0 7).toNat) n h (fun z6 h7 => okO n h7 x0 4 ∧ 0 ≤ hG h7 x0 8 ∧ okO n h7 ((hG h7 x0 8).toNat) 1 ∧ S_X1_bitLength G (kl k) ((hG h7 x0 8).toNat) n h7 (fun z11 h12 => okO n h12 ((hG h x0 2).toNat) 0 ∧ S_X0_makeRoom G (kl k) ((hG h x0 2).toNat) (z6 + z11) n h12 (fun n15 h14 => okO n15 h14 x0 4 ∧ rg (hG h14 x0 4) ∧ (((hG h14 x0 4) = 0 → X4_appendExactNumber_w38 G k x0 x1 n15 h14) ∧ (¬ (hG h14 x0 4) = 0 → okO n15 h14 x0 4 ∧ 0 ≤ hG h14 x0 2 ∧ okO n15 h14 ((hG h14 x0 2).toNat) 0 ∧ S_X0_append G (kl k) ((hG h14 x0 2).toNat) 45 n15 h14 (fun h22 => X4_appendExactNumber_w38 G k x0 x1 n15 h22))))))) : X4_appendExactNumber_w0 G k x0 x1 n h := by
  refine ww_aload_n C 0 0 rfl rfl dX4_appendExactNumber_0 ?_
  obtain ⟨p1, hy⟩ := hy
  obtain ⟨p2, hy⟩ := hy
  refine gf_X4_27 C dX4_appendExactNumber_1 p1 p2 ?_
  refine ww_aload_n C 0 0 rfl rfl dX4_appendExactNumber_4 ?_
  obtain ⟨p3, hy⟩ := hy
  obtain ⟨p4, hy⟩ := hy
  refine gf_X4_48 C dX4_appendExactNumber_5 p3 p4 ?_
  obtain ⟨p5, hy⟩ := hy
  refine cl_X4_150 C dX4_appendExactNumber_8 (Nat.le_of_ble_eq_true rfl) ⟨by decide, by decide⟩ ⟨by decide, by decide⟩ p5 ?_
  refine S_X1_bitLength.mono hy (fun z6 h7 hy => ?_)
  refine ww_aload_n C 0 0 rfl rfl dX4_appendExactNumber_11 ?_
  obtain ⟨p8, hy⟩ := hy
  obtain ⟨p9, hy⟩ := hy
  refine gf_X4_52 C dX4_appendExactNumber_12 p8 p9 ?_
  obtain ⟨p10, hy⟩ := hy
  refine cl_X4_150 C dX4_appendExactNumber_15 (Nat.le_of_ble_eq_true rfl) ⟨by decide, by decide⟩ ⟨by decide, by decide⟩ p10 ?_
  refine S_X1_bitLength.mono hy (fun z11 h12 hy => ?_)
  refine ww_iadd C dX4_appendExactNumber_18 ?_
  obtain ⟨p13, hy⟩ := hy
  refine cl_X4_243 C dX4_appendExactNumber_19 (Nat.le_of_ble_eq_true rfl) ⟨by decide, by decide⟩ ⟨by decide, by decide⟩ p13 ?_
  refine S_X0_makeRoom.mono hy (fun n15 h14 hy => ?_)
  refine ww_aload_n C 0 0 rfl rfl dX4_appendExactNumber_22 ?_
  obtain ⟨p16, hy⟩ := hy
  refine gf_X4_34 C dX4_appendExactNumber_23 p16 ?_
  obtain ⟨p17, hy⟩ := hy
  refine ww_if_eq C (tg := 38) dX4_appendExactNumber_26 (by decide) p17 (fun c18 => ?_) (fun c18 => ?_)
  · have hy := hy.1 c18
    exact ww_sub [0, 1] rfl (by decide) (by decide) hy
  · have hy := hy.2 c18
    refine ww_aload_n C 0 0 rfl rfl dX4_appendExactNumber_29 ?_
    obtain ⟨p19, hy⟩ := hy
    obtain ⟨p20, hy⟩ := hy
    refine gf_X4_27 C dX4_appendExactNumber_30 p19 p20 ?_
    refine ww_bipush C (z := 45) dX4_appendExactNumber_33 rfl ?_
    obtain ⟨p21, hy⟩ := hy
    refine cl_X4_72 C dX4_appendExactNumber_35 (Nat.le_of_ble_eq_true rfl) ⟨by decide, by decide⟩ ⟨by decide, by decide⟩ p21 ?_
    refine S_X0_append.mono hy (fun h22 hy => ?_)
    exact ww_sub [0, 1] rfl (by decide) (by decide) hy
set_option maxRecDepth 100000 in
set_option maxHeartbeats 4000000 in
theorem X4_appendExactNumber_b38 {G : xG} {k : xK} {n0 : Nat} {Po : Nat → xH → Prop} (C : CC G k cX4_appendExactNumber RX4 2 rm_X4_appendExactNumber) (E : CQ G k none rm_X4_appendExactNumber (fun r n1 h1 => r = none ∧ Po n1 h1)) (x0 : Nat) (x1 : Int) (n : Nat) (h : xH) (hy : okO n h x0 4 ∧ 0 ≤ hG h x0 7 ∧ okO n h x0 4 ∧ S_X4_appendNatural G (kl k) x0 ((hG h x0 7).toNat) x1 n h (fun h4 => okO n h4 x0 4 ∧ 0 ≤ hG h4 x0 8 ∧ okO n h4 ((hG h4 x0 8).toNat) 1 ∧ S_X1_isOne G (kl k) ((hG h4 x0 8).toNat) n h4 (fun z8 h9 => rg z8 ∧ ((¬ z8 = 0 → X4_appendExactNumber_w75 G k  n h9) ∧ (z8 = 0 → okO n h9 x0 4 ∧ 0 ≤ hG h9 x0 2 ∧ okO n h9 ((hG h9 x0 2).toNat) 0 ∧ S_X0_append G (kl k) ((hG h9 x0 2).toNat) 47 n h9 (fun h15 => okO n h15 x0 4 ∧ 0 ≤ hG h15 x0 8 ∧ okO n h15 x0 4 ∧ S_X4_appendNatural G (kl k) x0 ((hG h15 x0 8).toNat) x1 n h15 (fun h19 => X4_appendExactNumber_w75 G k  n h19))))))) : X4_appendExactNumber_w38 G k x0 x1 n h := by
  refine ww_aload_n C 0 0 rfl rfl dX4_appendExactNumber_38 ?_
  refine ww_aload_n C 0 0 rfl rfl dX4_appendExactNumber_39 ?_
  obtain ⟨p1, hy⟩ := hy
  obtain ⟨p2, hy⟩ := hy
  refine gf_X4_48 C dX4_appendExactNumber_40 p1 p2 ?_
  refine ww_iload_n C 1 1 rfl rfl dX4_appendExactNumber_43 ?_
  obtain ⟨p3, hy⟩ := hy
  refine cl_X4_246 C dX4_appendExactNumber_44 (Nat.le_of_ble_eq_true rfl) ⟨by decide, by decide⟩ ⟨by decide, by decide⟩ p3 ?_
  refine S_X4_appendNatural.mono hy (fun h4 hy => ?_)
  refine ww_aload_n C 0 0 rfl rfl dX4_appendExactNumber_47 ?_
  obtain ⟨p5, hy⟩ := hy
  obtain ⟨p6, hy⟩ := hy
  refine gf_X4_52 C dX4_appendExactNumber_48 p5 p6 ?_
  obtain ⟨p7, hy⟩ := hy
  refine cl_X4_231 C dX4_appendExactNumber_51 (Nat.le_of_ble_eq_true rfl) ⟨by decide, by decide⟩ ⟨by decide, by decide⟩ p7 ?_
  refine S_X1_isOne.mono hy (fun z8 h9 hy => ?_)
  obtain ⟨p10, hy⟩ := hy
  refine ww_if_ne C (tg := 75) dX4_appendExactNumber_54 (by decide) p10 (fun c11 => ?_) (fun c11 => ?_)
  · have hy := hy.1 c11
    exact ww_sub [] rfl (by decide) (by decide) hy
  · have hy := hy.2 c11
    refine ww_aload_n C 0 0 rfl rfl dX4_appendExactNumber_57 ?_
    obtain ⟨p12, hy⟩ := hy
    obtain ⟨p13, hy⟩ := hy
    refine gf_X4_27 C dX4_appendExactNumber_58 p12 p13 ?_
    refine ww_bipush C (z := 47) dX4_appendExactNumber_61 rfl ?_
    obtain ⟨p14, hy⟩ := hy
    refine cl_X4_72 C dX4_appendExactNumber_63 (Nat.le_of_ble_eq_true rfl) ⟨by decide, by decide⟩ ⟨by decide, by decide⟩ p14 ?_
    refine S_X0_append.mono hy (fun h15 hy => ?_)
    refine ww_aload_n C 0 0 rfl rfl dX4_appendExactNumber_66 ?_
    refine ww_aload_n C 0 0 rfl rfl dX4_appendExactNumber_67 ?_
    obtain ⟨p16, hy⟩ := hy
    obtain ⟨p17, hy⟩ := hy
    refine gf_X4_52 C dX4_appendExactNumber_68 p16 p17 ?_
    refine ww_iload_n C 1 1 rfl rfl dX4_appendExactNumber_71 ?_
    obtain ⟨p18, hy⟩ := hy
    refine cl_X4_246 C dX4_appendExactNumber_72 (Nat.le_of_ble_eq_true rfl) ⟨by decide, by decide⟩ ⟨by decide, by decide⟩ p18 ?_
    refine S_X4_appendNatural.mono hy (fun h19 hy => ?_)
    exact ww_sub [] rfl (by decide) (by decide) hy
set_option maxRecDepth 100000 in
set_option maxHeartbeats 4000000 in
theorem X4_appendExactNumber_b75 {G : xG} {k : xK} {n0 : Nat} {Po : Nat → xH → Prop} (C : CC G k cX4_appendExactNumber RX4 2 rm_X4_appendExactNumber) (E : CQ G k none rm_X4_appendExactNumber (fun r n1 h1 => r = none ∧ Po n1 h1))  (n : Nat) (h : xH) (hy : Po n h) : X4_appendExactNumber_w75 G k  n h := by
  exact ww_vret C E dX4_appendExactNumber_75 (by decide) (by decide) ⟨rfl, hy⟩
abbrev X4_appendShortest_w0 (G : xG) (k : xK) (x0 : Nat) (x1 : Int) (x2 : Int) (n : Nat) (h : xH) : Prop := WW G k 4 0 0 0 [(0, rf G x0), (1, .int (iz x1)), (2, .int (iz x2))] [] n h
abbrev X4_appendShortest_w2 (G : xG) (k : xK) (x0 : Nat) (x2 : Int) (x3 : Int) (n : Nat) (h : xH) : Prop := WW G k 4 0 0 2 [(0, rf G x0), (2, .int (iz x2)), (3, .int (iz x3))] [] n h
theorem S_X4_appendShortest_of {G : xG} {l : Launch} {x0 : Nat} {x1 : Int} {x2 : Int} {n : Nat} {h : xH} {Po : xH → Prop} (body : ∀ k : xK, kl k = l → CC G k cX4_appendShortest RX4 4 rm_X4_appendShortest → CQ G k none rm_X4_appendShortest (fun r n1 h1 => r = none ∧ n1 = n ∧ Po h1) → X4_appendShortest_w0 G k x0 x1 x2 n h) : S_X4_appendShortest G l x0 x1 x2 n h Po := xS_of (by decide +kernel) (Nat.le_of_ble_eq_true rfl) rfl (fun k hl hnm C E => body k hl C E)
set_option maxRecDepth 100000 in
set_option maxHeartbeats 4000000 in
theorem X4_appendShortest_b0 {G : xG} {k : xK} {n0 : Nat} {Po : xH → Prop} (C : CC G k cX4_appendShortest RX4 4 rm_X4_appendShortest) (E : CQ G k none rm_X4_appendShortest (fun r n1 h1 => r = none ∧ n1 = n0 ∧ Po h1)) (x0 : Nat) (x1 : Int) (x2 : Int) (n : Nat) (h : xH) (hn0 : n = n0) (hy : X4_appendShortest_w2 G k x0 x2 x1 n h) : X4_appendShortest_w0 G k x0 x1 x2 n h := by
  subst hn0
  refine ww_iload_n C 1 1 rfl rfl dX4_appendShortest_0 ?_
  refine ww_istore_n C 3 rfl (by decide) rfl dX4_appendShortest_1 ?_
  exact ww_sub [1, 3, 0] rfl (by decide) (by decide) hy
set_option maxRecDepth 100000 in
set_option maxHeartbeats 4000000 in
theorem X4_appendShortest_b2 {G : xG} {k : xK} {n0 : Nat} {Po : xH → Prop} (C : CC G k cX4_appendShortest RX4 4 rm_X4_appendShortest) (E : CQ G k none rm_X4_appendShortest (fun r n1 h1 => r = none ∧ n1 = n0 ∧ Po h1)) (x0 : Nat) (x2 : Int) (x3 : Int) (n : Nat) (h : xH) (hn0 : n = n0) (hy : (rg x3 ∧ rg x2) ∧ ((x2 ≤ x3 → Po h) ∧ (¬ x2 ≤ x3 → okO n h x0 4 ∧ 0 ≤ hG h x0 2 ∧ okO n h x0 4 ∧ 0 ≤ hG h x0 11 ∧ okO n h ((hG h x0 11).toNat) 3 ∧ S_X3_digitAt G (kl k) ((hG h x0 11).toNat) x3 n h (fun z8 h9 => okO n h9 ((hG h x0 2).toNat) 0 ∧ S_X0_append G (kl k) ((hG h x0 2).toNat) (48 + z8) n h9 (fun h11 => X4_appendShortest_w2 G k x0 x2 (x3 + 1) n h11))))) : X4_appendShortest_w2 G k x0 x2 x3 n h := by
  subst hn0
  refine ww_iload_n C 3 2 rfl rfl dX4_appendShortest_2 ?_
  refine ww_iload_n C 2 1 rfl rfl dX4_appendShortest_3 ?_
  obtain ⟨p1, hy⟩ := hy
  refine ww_icmp_ge C (tg := 31) dX4_appendShortest_4 (by decide) p1.1 p1.2 (fun c2 => ?_) (fun c2 => ?_)
  · have hy := hy.1 c2
    exact ww_vret C E dX4_appendShortest_31 (by decide) (by decide) ⟨rfl, rfl, hy⟩
  · have hy := hy.2 c2
    refine ww_aload_n C 0 0 rfl rfl dX4_appendShortest_7 ?_
    obtain ⟨p3, hy⟩ := hy
    obtain ⟨p4, hy⟩ := hy
    refine gf_X4_27 C dX4_appendShortest_8 p3 p4 ?_
    refine ww_bipush C (z := 48) dX4_appendShortest_11 rfl ?_
    refine ww_aload_n C 0 0 rfl rfl dX4_appendShortest_13 ?_
    obtain ⟨p5, hy⟩ := hy
    obtain ⟨p6, hy⟩ := hy
    refine gf_X4_64 C dX4_appendShortest_14 p5 p6 ?_
    refine ww_iload_n C 3 2 rfl rfl dX4_appendShortest_17 ?_
    obtain ⟨p7, hy⟩ := hy
    refine cl_X4_288 C dX4_appendShortest_18 (Nat.le_of_ble_eq_true rfl) ⟨by decide, by decide⟩ ⟨by decide, by decide⟩ p7 ?_
    refine S_X3_digitAt.mono hy (fun z8 h9 hy => ?_)
    refine ww_iadd C dX4_appendShortest_21 ?_
    obtain ⟨p10, hy⟩ := hy
    refine cl_X4_72 C dX4_appendShortest_22 (Nat.le_of_ble_eq_true rfl) ⟨by decide, by decide⟩ ⟨by decide, by decide⟩ p10 ?_
    refine S_X0_append.mono hy (fun h11 hy => ?_)
    refine ww_iinc C 3 2 rfl (by decide) rfl dX4_appendShortest_25 ?_
    refine ww_goto C (tg := 2) dX4_appendShortest_28 (by decide) ?_
    exact ww_sub [1, 2, 0] rfl (by decide) (by decide) hy
abbrev X4_appendWithExponent_w0 (G : xG) (k : xK) (x0 : Nat) (x1 : Int) (n : Nat) (h : xH) : Prop := WW G k 2 0 0 0 [(0, rf G x0), (1, .int (iz x1))] [] n h
abbrev X4_appendWithExponent_w38 (G : xG) (k : xK) (x0 : Nat) (x1 : Int) (n : Nat) (h : xH) : Prop := WW G k 2 0 0 38 [(0, rf G x0), (1, .int (iz x1))] [] n h
abbrev X4_appendWithExponent_w60 (G : xG) (k : xK) (x0 : Nat) (x1 : Int) (n : Nat) (h : xH) : Prop := WW G k 2 0 0 60 [(0, rf G x0), (1, .int (iz x1))] [] n h
theorem S_X4_appendWithExponent_of {G : xG} {l : Launch} {x0 : Nat} {x1 : Int} {n : Nat} {h : xH} {Po : xH → Prop} (body : ∀ k : xK, kl k = l → CC G k cX4_appendWithExponent RX4 2 rm_X4_appendWithExponent → CQ G k none rm_X4_appendWithExponent (fun r n1 h1 => r = none ∧ n1 = n ∧ Po h1) → X4_appendWithExponent_w0 G k x0 x1 n h) : S_X4_appendWithExponent G l x0 x1 n h Po := xS_of (by decide +kernel) (Nat.le_of_ble_eq_true rfl) rfl (fun k hl hnm C E => body k hl C E)
set_option maxRecDepth 100000 in
set_option maxHeartbeats 4000000 in
theorem X4_appendWithExponent_b0 {G : xG} {k : xK} {n0 : Nat} {Po : xH → Prop} (C : CC G k cX4_appendWithExponent RX4 2 rm_X4_appendWithExponent) (E : CQ G k none rm_X4_appendWithExponent (fun r n1 h1 => r = none ∧ n1 = n0 ∧ Po h1)) (x0 : Nat) (x1 : Int) (n : Nat) (h : xH) (hn0 : n = n0) (hy : okO n h x0 4 ∧ S_X4_appendShortest G (kl k) x0 0 1 n h (fun h2 => okO n h2 x0 4 ∧ 0 ≤ hG h2 x0 11 ∧ okO n h2 ((hG h2 x0 11).toNat) 3 ∧ S_X3_count G (kl k) ((hG h2 x0 11).toNat) n h2 (fun z6 h7 => (rg z6 ∧ rg (1 : Int)) ∧ ((z6 ≤ (1 : Int) → X4_appendWithExponent_w38 G k x0 x1 n h7) ∧ (¬ z6 ≤ (1 : Int) → okO n h7 x0 4 ∧ 0 ≤ hG h7 x0 2 ∧ okO n h7 ((hG h7 x0 2).toNat) 0 ∧ S_X0_append G (kl k) ((hG h7 x0 2).toNat) 46 n h7 (fun h13 => okO n h13 x0 4 ∧ 0 ≤ hG h13 x0 11 ∧ okO n h13 ((hG h13 x0 11).toNat) 3 ∧ S_X3_count G (kl k) ((hG h13 x0 11).toNat) n h13 (fun z17 h18 => okO n h18 x0 4 ∧ S_X4_appendShortest G (kl k) x0 1 z17 n h18 (fun h20 => X4_appendWithExponent_w38 G k x0 x1 n h20)))))))) : X4_appendWithExponent_w0 G k x0 x1 n h := by
  subst hn0
  refine ww_aload_n C 0 0 rfl rfl dX4_appendWithExponent_0 ?_
  refine ww_iconst C (z := 0) dX4_appendWithExponent_1 rfl ?_
  refine ww_iconst C (z := 1) dX4_appendWithExponent_2 rfl ?_
  obtain ⟨p1, hy⟩ := hy
  refine cl_X4_274 C dX4_appendWithExponent_3 (Nat.le_of_ble_eq_true rfl) ⟨by decide, by decide⟩ ⟨by decide, by decide⟩ p1 ?_
  refine S_X4_appendShortest.mono hy (fun h2 hy => ?_)
  refine ww_aload_n C 0 0 rfl rfl dX4_appendWithExponent_6 ?_
  obtain ⟨p3, hy⟩ := hy
  obtain ⟨p4, hy⟩ := hy
  refine gf_X4_64 C dX4_appendWithExponent_7 p3 p4 ?_
  obtain ⟨p5, hy⟩ := hy
  refine cl_X4_277 C dX4_appendWithExponent_10 (Nat.le_of_ble_eq_true rfl) ⟨by decide, by decide⟩ ⟨by decide, by decide⟩ p5 ?_
  refine S_X3_count.mono hy (fun z6 h7 hy => ?_)
  refine ww_iconst C (z := 1) dX4_appendWithExponent_13 rfl ?_
  obtain ⟨p8, hy⟩ := hy
  refine ww_icmp_le C (tg := 38) dX4_appendWithExponent_14 (by decide) p8.1 p8.2 (fun c9 => ?_) (fun c9 => ?_)
  · have hy := hy.1 c9
    exact ww_sub [0, 1] rfl (by decide) (by decide) hy
  · have hy := hy.2 c9
    refine ww_aload_n C 0 0 rfl rfl dX4_appendWithExponent_17 ?_
    obtain ⟨p10, hy⟩ := hy
    obtain ⟨p11, hy⟩ := hy
    refine gf_X4_27 C dX4_appendWithExponent_18 p10 p11 ?_
    refine ww_bipush C (z := 46) dX4_appendWithExponent_21 rfl ?_
    obtain ⟨p12, hy⟩ := hy
    refine cl_X4_72 C dX4_appendWithExponent_23 (Nat.le_of_ble_eq_true rfl) ⟨by decide, by decide⟩ ⟨by decide, by decide⟩ p12 ?_
    refine S_X0_append.mono hy (fun h13 hy => ?_)
    refine ww_aload_n C 0 0 rfl rfl dX4_appendWithExponent_26 ?_
    refine ww_iconst C (z := 1) dX4_appendWithExponent_27 rfl ?_
    refine ww_aload_n C 0 0 rfl rfl dX4_appendWithExponent_28 ?_
    obtain ⟨p14, hy⟩ := hy
    obtain ⟨p15, hy⟩ := hy
    refine gf_X4_64 C dX4_appendWithExponent_29 p14 p15 ?_
    obtain ⟨p16, hy⟩ := hy
    refine cl_X4_277 C dX4_appendWithExponent_32 (Nat.le_of_ble_eq_true rfl) ⟨by decide, by decide⟩ ⟨by decide, by decide⟩ p16 ?_
    refine S_X3_count.mono hy (fun z17 h18 hy => ?_)
    obtain ⟨p19, hy⟩ := hy
    refine cl_X4_274 C dX4_appendWithExponent_35 (Nat.le_of_ble_eq_true rfl) ⟨by decide, by decide⟩ ⟨by decide, by decide⟩ p19 ?_
    refine S_X4_appendShortest.mono hy (fun h20 hy => ?_)
    exact ww_sub [0, 1] rfl (by decide) (by decide) hy
set_option maxRecDepth 100000 in
set_option maxHeartbeats 4000000 in
theorem X4_appendWithExponent_b38 {G : xG} {k : xK} {n0 : Nat} {Po : xH → Prop} (C : CC G k cX4_appendWithExponent RX4 2 rm_X4_appendWithExponent) (E : CQ G k none rm_X4_appendWithExponent (fun r n1 h1 => r = none ∧ n1 = n0 ∧ Po h1)) (x0 : Nat) (x1 : Int) (n : Nat) (h : xH) (hn0 : n = n0) (hy : okO n h x0 4 ∧ 0 ≤ hG h x0 2 ∧ okO n h ((hG h x0 2).toNat) 0 ∧ S_X0_append G (kl k) ((hG h x0 2).toNat) 101 n h (fun h4 => rg x1 ∧ ((0 ≤ x1 → X4_appendWithExponent_w60 G k x0 x1 n h4) ∧ (¬ 0 ≤ x1 → okO n h4 x0 4 ∧ 0 ≤ hG h4 x0 2 ∧ okO n h4 ((hG h4 x0 2).toNat) 0 ∧ S_X0_append G (kl k) ((hG h4 x0 2).toNat) 45 n h4 (fun h10 => X4_appendWithExponent_w60 G k x0 x1 n h10))))) : X4_appendWithExponent_w38 G k x0 x1 n h := by
  subst hn0
  refine ww_aload_n C 0 0 rfl rfl dX4_appendWithExponent_38 ?_
  obtain ⟨p1, hy⟩ := hy
  obtain ⟨p2, hy⟩ := hy
  refine gf_X4_27 C dX4_appendWithExponent_39 p1 p2 ?_
  refine ww_bipush C (z := 101) dX4_appendWithExponent_42 rfl ?_
  obtain ⟨p3, hy⟩ := hy
  refine cl_X4_72 C dX4_appendWithExponent_44 (Nat.le_of_ble_eq_true rfl) ⟨by decide, by decide⟩ ⟨by decide, by decide⟩ p3 ?_
  refine S_X0_append.mono hy (fun h4 hy => ?_)
  refine ww_iload_n C 1 1 rfl rfl dX4_appendWithExponent_47 ?_
  obtain ⟨p5, hy⟩ := hy
  refine ww_if_ge C (tg := 60) dX4_appendWithExponent_48 (by decide) p5 (fun c6 => ?_) (fun c6 => ?_)
  · have hy := hy.1 c6
    exact ww_sub [0, 1] rfl (by decide) (by decide) hy
  · have hy := hy.2 c6
    refine ww_aload_n C 0 0 rfl rfl dX4_appendWithExponent_51 ?_
    obtain ⟨p7, hy⟩ := hy
    obtain ⟨p8, hy⟩ := hy
    refine gf_X4_27 C dX4_appendWithExponent_52 p7 p8 ?_
    refine ww_bipush C (z := 45) dX4_appendWithExponent_55 rfl ?_
    obtain ⟨p9, hy⟩ := hy
    refine cl_X4_72 C dX4_appendWithExponent_57 (Nat.le_of_ble_eq_true rfl) ⟨by decide, by decide⟩ ⟨by decide, by decide⟩ p9 ?_
    refine S_X0_append.mono hy (fun h10 hy => ?_)
    exact ww_sub [0, 1] rfl (by decide) (by decide) hy
set_option maxRecDepth 100000 in
set_option maxHeartbeats 4000000 in
theorem X4_appendWithExponent_b60 {G : xG} {k : xK} {n0 : Nat} {Po : xH → Prop} (C : CC G k cX4_appendWithExponent RX4 2 rm_X4_appendWithExponent) (E : CQ G k none rm_X4_appendWithExponent (fun r n1 h1 => r = none ∧ n1 = n0 ∧ Po h1)) (x0 : Nat) (x1 : Int) (n : Nat) (h : xH) (hn0 : n = n0) (hy : okO n h x0 4 ∧ 0 ≤ hG h x0 10 ∧ S_J9_abs_0f7a4 G (kl k) x1 n h (fun z3 h4 => rg z3 ∧ okO n h4 ((hG h x0 10).toNat) 1 ∧ S_X1_set G (kl k) ((hG h x0 10).toNat) z3 n h4 (fun h7 => okO n h7 x0 4 ∧ 0 ≤ hG h7 x0 10 ∧ okO n h7 x0 4 ∧ S_X4_appendNatural G (kl k) x0 ((hG h7 x0 10).toNat) 10 n h7 (fun h11 => Po h11)))) : X4_appendWithExponent_w60 G k x0 x1 n h := by
  subst hn0
  refine ww_aload_n C 0 0 rfl rfl dX4_appendWithExponent_60 ?_
  obtain ⟨p1, hy⟩ := hy
  obtain ⟨p2, hy⟩ := hy
  refine gf_X4_58 C dX4_appendWithExponent_61 p1 p2 ?_
  refine ww_iload_n C 1 1 rfl rfl dX4_appendWithExponent_64 ?_
  refine cl_X4_285 C dX4_appendWithExponent_65 (Nat.le_of_ble_eq_true rfl) ⟨by decide, by decide⟩ ⟨by decide, by decide⟩ ?_
  refine S_J9_abs_0f7a4.mono hy (fun z3 h4 hy => ?_)
  obtain ⟨p5, hy⟩ := hy
  refine ww_i2l C dX4_appendWithExponent_68 p5 ?_
  obtain ⟨p6, hy⟩ := hy
  refine cl_X4_126 C dX4_appendWithExponent_69 (Nat.le_of_ble_eq_true rfl) ⟨by decide, by decide⟩ ⟨by decide, by decide⟩ p6 ?_
  refine S_X1_set.mono hy (fun h7 hy => ?_)
  refine ww_aload_n C 0 0 rfl rfl dX4_appendWithExponent_72 ?_
  refine ww_aload_n C 0 0 rfl rfl dX4_appendWithExponent_73 ?_
  obtain ⟨p8, hy⟩ := hy
  obtain ⟨p9, hy⟩ := hy
  refine gf_X4_58 C dX4_appendWithExponent_74 p8 p9 ?_
  refine ww_bipush C (z := 10) dX4_appendWithExponent_77 rfl ?_
  obtain ⟨p10, hy⟩ := hy
  refine cl_X4_246 C dX4_appendWithExponent_79 (Nat.le_of_ble_eq_true rfl) ⟨by decide, by decide⟩ ⟨by decide, by decide⟩ p10 ?_
  refine S_X4_appendNatural.mono hy (fun h11 hy => ?_)
  exact ww_vret C E dX4_appendWithExponent_82 (by decide) (by decide) ⟨rfl, rfl, hy⟩
abbrev X4_appendFinite_w0 (G : xG) (k : xK) (x0 : Nat) (n : Nat) (h : xH) : Prop := WW G k 3 0 0 0 [(0, rf G x0)] [] n h
abbrev X4_appendFinite_w16 (G : xG) (k : xK) (x0 : Nat) (n : Nat) (h : xH) : Prop := WW G k 3 0 0 16 [(0, rf G x0)] [] n h
abbrev X4_appendFinite_w85 (G : xG) (k : xK) (x0 : Nat) (x1 : Int) (n : Nat) (h : xH) : Prop := WW G k 3 0 0 85 [(0, rf G x0), (1, .int (iz x1))] [] n h
abbrev X4_appendFinite_w148 (G : xG) (k : xK)  (n : Nat) (h : xH) : Prop := WW G k 3 0 0 148 [] [] n h
abbrev X4_appendFinite_w141 (G : xG) (k : xK) (x0 : Nat) (x1 : Int) (n : Nat) (h : xH) : Prop := WW G k 3 0 0 141 [(0, rf G x0), (1, .int (iz x1))] [] n h
abbrev X4_appendFinite_w107 (G : xG) (k : xK) (x0 : Nat) (x2 : Int) (n : Nat) (h : xH) : Prop := WW G k 3 0 0 107 [(0, rf G x0), (2, .int (iz x2))] [] n h
theorem S_X4_appendFinite_of {G : xG} {l : Launch} {x0 : Nat} {n : Nat} {h : xH} {Po : xH → Prop} (body : ∀ k : xK, kl k = l → CC G k cX4_appendFinite RX4 3 rm_X4_appendFinite → CQ G k none rm_X4_appendFinite (fun r n1 h1 => r = none ∧ n1 = n ∧ Po h1) → X4_appendFinite_w0 G k x0 n h) : S_X4_appendFinite G l x0 n h Po := xS_of (by decide +kernel) (Nat.le_of_ble_eq_true rfl) rfl (fun k hl hnm C E => body k hl C E)
set_option maxRecDepth 100000 in
set_option maxHeartbeats 4000000 in
theorem X4_appendFinite_b0 {G : xG} {k : xK} {n0 : Nat} {Po : xH → Prop} (C : CC G k cX4_appendFinite RX4 3 rm_X4_appendFinite) (E : CQ G k none rm_X4_appendFinite (fun r n1 h1 => r = none ∧ n1 = n0 ∧ Po h1)) (x0 : Nat) (n : Nat) (h : xH) (hn0 : n = n0) (hy : okO n h x0 4 ∧ rg (hG h x0 4) ∧ (((hG h x0 4) = 0 → X4_appendFinite_w16 G k x0 n h) ∧ (¬ (hG h x0 4) = 0 → okO n h x0 4 ∧ 0 ≤ hG h x0 2 ∧ okO n h ((hG h x0 2).toNat) 0 ∧ S_X0_append G (kl k) ((hG h x0 2).toNat) 45 n h (fun h7 => X4_appendFinite_w16 G k x0 n h7)))) : X4_appendFinite_w0 G k x0 n h := by
  subst hn0
  refine ww_aload_n C 0 0 rfl rfl dX4_appendFinite_0 ?_
  obtain ⟨p1, hy⟩ := hy
  refine gf_X4_34 C dX4_appendFinite_1 p1 ?_
  obtain ⟨p2, hy⟩ := hy
  refine ww_if_eq C (tg := 16) dX4_appendFinite_4 (by decide) p2 (fun c3 => ?_) (fun c3 => ?_)
  · have hy := hy.1 c3
    exact ww_sub [0] rfl (by decide) (by decide) hy
  · have hy := hy.2 c3
    refine ww_aload_n C 0 0 rfl rfl dX4_appendFinite_7 ?_
    obtain ⟨p4, hy⟩ := hy
    obtain ⟨p5, hy⟩ := hy
    refine gf_X4_27 C dX4_appendFinite_8 p4 p5 ?_
    refine ww_bipush C (z := 45) dX4_appendFinite_11 rfl ?_
    obtain ⟨p6, hy⟩ := hy
    refine cl_X4_72 C dX4_appendFinite_13 (Nat.le_of_ble_eq_true rfl) ⟨by decide, by decide⟩ ⟨by decide, by decide⟩ p6 ?_
    refine S_X0_append.mono hy (fun h7 hy => ?_)
    exact ww_sub [0] rfl (by decide) (by decide) hy
set_option maxRecDepth 100000 in
set_option maxHeartbeats 4000000 in
theorem X4_appendFinite_b16 {G : xG} {k : xK} {n0 : Nat} {Po : xH → Prop} (C : CC G k cX4_appendFinite RX4 3 rm_X4_appendFinite) (E : CQ G k none rm_X4_appendFinite (fun r n1 h1 => r = none ∧ n1 = n0 ∧ Po h1)) (x0 : Nat) (n : Nat) (h : xH) (hn0 : n = n0) (hy : okO n h x0 4 ∧ 0 ≤ hG h x0 11 ∧ okO n h x0 4 ∧ okO n h x0 4 ∧ okO n h ((hG h x0 11).toNat) 3 ∧ S_X3_find G (kl k) ((hG h x0 11).toNat) (hG h x0 5) (hG h x0 6) n h (fun h6 => okO n h6 x0 4 ∧ 0 ≤ hG h6 x0 11 ∧ okO n h6 ((hG h6 x0 11).toNat) 3 ∧ S_X3_point G (kl k) ((hG h6 x0 11).toNat) n h6 (fun z10 h11 => rg z10 ∧ ((z10 ≤ 0 → X4_appendFinite_w85 G k x0 z10 n h11) ∧ (¬ z10 ≤ 0 → (rg z10 ∧ rg (21 : Int)) ∧ (((21 : Int) < z10 → X4_appendFinite_w85 G k x0 z10 n h11) ∧ (¬ (21 : Int) < z10 → okO n h11 x0 4 ∧ S_X4_appendShortest G (kl k) x0 0 z10 n h11 (fun h17 => okO n h17 x0 4 ∧ 0 ≤ hG h17 x0 2 ∧ okO n h17 ((hG h17 x0 2).toNat) 0 ∧ S_X0_append G (kl k) ((hG h17 x0 2).toNat) 46 n h17 (fun h21 => okO n h21 x0 4 ∧ 0 ≤ hG h21 x0 11 ∧ okO n h21 ((hG h21 x0 11).toNat) 3 ∧ S_X3_count G (kl k) ((hG h21 x0 11).toNat) n h21 (fun z25 h26 => S_J9_max_7cf53 G (kl k) z25 (z10 + 1) n h26 (fun z27 h28 => okO n h28 x0 4 ∧ S_X4_appendShortest G (kl k) x0 z10 z27 n h28 (fun h30 => X4_appendFinite_w148 G k  n h30)))))))))))) : X4_appendFinite_w16 G k x0 n h := by
  subst hn0
  refine ww_aload_n C 0 0 rfl rfl dX4_appendFinite_16 ?_
  obtain ⟨p1, hy⟩ := hy
  obtain ⟨p2, hy⟩ := hy
  refine gf_X4_64 C dX4_appendFinite_17 p1 p2 ?_
  refine ww_aload_n C 0 0 rfl rfl dX4_appendFinite_20 ?_
  obtain ⟨p3, hy⟩ := hy
  refine gf_X4_38 C dX4_appendFinite_21 p3 ?_
  refine ww_aload_n C 0 0 rfl rfl dX4_appendFinite_24 ?_
  obtain ⟨p4, hy⟩ := hy
  refine gf_X4_42 C dX4_appendFinite_25 p4 ?_
  obtain ⟨p5, hy⟩ := hy
  refine cl_X4_267 C dX4_appendFinite_28 (Nat.le_of_ble_eq_true rfl) ⟨by decide, by decide⟩ ⟨by decide, by decide⟩ p5 ?_
  refine S_X3_find.mono hy (fun h6 hy => ?_)
  refine ww_aload_n C 0 0 rfl rfl dX4_appendFinite_31 ?_
  obtain ⟨p7, hy⟩ := hy
  obtain ⟨p8, hy⟩ := hy
  refine gf_X4_64 C dX4_appendFinite_32 p7 p8 ?_
  obtain ⟨p9, hy⟩ := hy
  refine cl_X4_271 C dX4_appendFinite_35 (Nat.le_of_ble_eq_true rfl) ⟨by decide, by decide⟩ ⟨by decide, by decide⟩ p9 ?_
  refine S_X3_point.mono hy (fun z10 h11 hy => ?_)
  refine ww_istore_n C 1 rfl (by decide) rfl dX4_appendFinite_38 ?_
  refine ww_iload_n C 1 0 rfl rfl dX4_appendFinite_39 ?_
  obtain ⟨p12, hy⟩ := hy
  refine ww_if_le C (tg := 85) dX4_appendFinite_40 (by decide) p12 (fun c13 => ?_) (fun c13 => ?_)
  · have hy := hy.1 c13
    exact ww_sub [1, 0] rfl (by decide) (by decide) hy
  · have hy := hy.2 c13
    refine ww_iload_n C 1 0 rfl rfl dX4_appendFinite_43 ?_
    refine ww_bipush C (z := 21) dX4_appendFinite_44 rfl ?_
    obtain ⟨p14, hy⟩ := hy
    refine ww_icmp_gt C (tg := 85) dX4_appendFinite_46 (by decide) p14.1 p14.2 (fun c15 => ?_) (fun c15 => ?_)
    · have hy := hy.1 c15
      exact ww_sub [1, 0] rfl (by decide) (by decide) hy
    · have hy := hy.2 c15
      refine ww_aload_n C 0 1 rfl rfl dX4_appendFinite_49 ?_
      refine ww_iconst C (z := 0) dX4_appendFinite_50 rfl ?_
      refine ww_iload_n C 1 0 rfl rfl dX4_appendFinite_51 ?_
      obtain ⟨p16, hy⟩ := hy
      refine cl_X4_274 C dX4_appendFinite_52 (Nat.le_of_ble_eq_true rfl) ⟨by decide, by decide⟩ ⟨by decide, by decide⟩ p16 ?_
      refine S_X4_appendShortest.mono hy (fun h17 hy => ?_)
      refine ww_aload_n C 0 1 rfl rfl dX4_appendFinite_55 ?_
      obtain ⟨p18, hy⟩ := hy
      obtain ⟨p19, hy⟩ := hy
      refine gf_X4_27 C dX4_appendFinite_56 p18 p19 ?_
      refine ww_bipush C (z := 46) dX4_appendFinite_59 rfl ?_
      obtain ⟨p20, hy⟩ := hy
      refine cl_X4_72 C dX4_appendFinite_61 (Nat.le_of_ble_eq_true rfl) ⟨by decide, by decide⟩ ⟨by decide, by decide⟩ p20 ?_
      refine S_X0_append.mono hy (fun h21 hy => ?_)
      refine ww_aload_n C 0 1 rfl rfl dX4_appendFinite_64 ?_
      refine ww_iload_n C 1 0 rfl rfl dX4_appendFinite_65 ?_
      refine ww_aload_n C 0 1 rfl rfl dX4_appendFinite_66 ?_
      obtain ⟨p22, hy⟩ := hy
      obtain ⟨p23, hy⟩ := hy
      refine gf_X4_64 C dX4_appendFinite_67 p22 p23 ?_
      obtain ⟨p24, hy⟩ := hy
      refine cl_X4_277 C dX4_appendFinite_70 (Nat.le_of_ble_eq_true rfl) ⟨by decide, by decide⟩ ⟨by decide, by decide⟩ p24 ?_
      refine S_X3_count.mono hy (fun z25 h26 hy => ?_)
      refine ww_iload_n C 1 0 rfl rfl dX4_appendFinite_73 ?_
      refine ww_iconst C (z := 1) dX4_appendFinite_74 rfl ?_
      refine ww_iadd C dX4_appendFinite_75 ?_
      refine cl_X4_184 C dX4_appendFinite_76 (Nat.le_of_ble_eq_true rfl) ⟨by decide, by decide⟩ ⟨by decide, by decide⟩ ?_
      refine S_J9_max_7cf53.mono hy (fun z27 h28 hy => ?_)
      obtain ⟨p29, hy⟩ := hy
      refine cl_X4_274 C dX4_appendFinite_79 (Nat.le_of_ble_eq_true rfl) ⟨by decide, by decide⟩ ⟨by decide, by decide⟩ p29 ?_
      refine S_X4_appendShortest.mono hy (fun h30 hy => ?_)
      refine ww_goto C (tg := 148) dX4_appendFinite_82 (by decide) ?_
      exact ww_sub [] rfl (by decide) (by decide) hy
set_option maxRecDepth 100000 in
set_option maxHeartbeats 4000000 in
theorem X4_appendFinite_b85 {G : xG} {k : xK} {n0 : Nat} {Po : xH → Prop} (C : CC G k cX4_appendFinite RX4 3 rm_X4_appendFinite) (E : CQ G k none rm_X4_appendFinite (fun r n1 h1 => r = none ∧ n1 = n0 ∧ Po h1)) (x0 : Nat) (x1 : Int) (n : Nat) (h : xH) (hn0 : n = n0) (hy : (rg x1 ∧ rg (-7 : Int)) ∧ ((x1 ≤ (-7 : Int) → X4_appendFinite_w141 G k x0 x1 n h) ∧ (¬ x1 ≤ (-7 : Int) → rg x1 ∧ ((0 < x1 → X4_appendFinite_w141 G k x0 x1 n h) ∧ (¬ 0 < x1 → okO n h x0 4 ∧ 0 ≤ hG h x0 2 ∧ okO n h ((hG h x0 2).toNat) 0 ∧ S_X0_append_ G (kl k) ((hG h x0 2).toNat) 2 n h (fun h8 => X4_appendFinite_w107 G k x0 x1 n h8)))))) : X4_appendFinite_w85 G k x0 x1 n h := by
  subst hn0
  refine ww_iload_n C 1 1 rfl rfl dX4_appendFinite_85 ?_
  refine ww_bipush C (z := (-7)) dX4_appendFinite_86 rfl ?_
  obtain ⟨p1, hy⟩ := hy
  refine ww_icmp_le C (tg := 141) dX4_appendFinite_88 (by decide) p1.1 p1.2 (fun c2 => ?_) (fun c2 => ?_)
  · have hy := hy.1 c2
    exact ww_sub [0, 1] rfl (by decide) (by decide) hy
  · have hy := hy.2 c2
    refine ww_iload_n C 1 1 rfl rfl dX4_appendFinite_91 ?_
    obtain ⟨p3, hy⟩ := hy
    refine ww_if_gt C (tg := 141) dX4_appendFinite_92 (by decide) p3 (fun c4 => ?_) (fun c4 => ?_)
    · have hy := hy.1 c4
      exact ww_sub [0, 1] rfl (by decide) (by decide) hy
    · have hy := hy.2 c4
      refine ww_aload_n C 0 0 rfl rfl dX4_appendFinite_95 ?_
      obtain ⟨p5, hy⟩ := hy
      obtain ⟨p6, hy⟩ := hy
      refine gf_X4_27 C dX4_appendFinite_96 p5 p6 ?_
      refine ww_ldcSw C (i0 := 280) (j := 2) (tx := "0.") (by decide) dX4_appendFinite_99 ?_
      obtain ⟨p7, hy⟩ := hy
      refine cl_X4_161 C dX4_appendFinite_102 (Nat.le_of_ble_eq_true rfl) ⟨by decide, by decide⟩ ⟨by decide, by decide⟩ p7 ?_
      refine S_X0_append_.mono hy (fun h8 hy => ?_)
      refine ww_iload_n C 1 1 rfl rfl dX4_appendFinite_105 ?_
      refine ww_istore_n C 2 rfl (by decide) rfl dX4_appendFinite_106 ?_
      exact ww_sub [1, 0] rfl (by decide) (by decide) hy
set_option maxRecDepth 100000 in
set_option maxHeartbeats 4000000 in
theorem X4_appendFinite_b148 {G : xG} {k : xK} {n0 : Nat} {Po : xH → Prop} (C : CC G k cX4_appendFinite RX4 3 rm_X4_appendFinite) (E : CQ G k none rm_X4_appendFinite (fun r n1 h1 => r = none ∧ n1 = n0 ∧ Po h1))  (n : Nat) (h : xH) (hn0 : n = n0) (hy : Po h) : X4_appendFinite_w148 G k  n h := by
  subst hn0
  exact ww_vret C E dX4_appendFinite_148 (by decide) (by decide) ⟨rfl, rfl, hy⟩
set_option maxRecDepth 100000 in
set_option maxHeartbeats 4000000 in
theorem X4_appendFinite_b141 {G : xG} {k : xK} {n0 : Nat} {Po : xH → Prop} (C : CC G k cX4_appendFinite RX4 3 rm_X4_appendFinite) (E : CQ G k none rm_X4_appendFinite (fun r n1 h1 => r = none ∧ n1 = n0 ∧ Po h1)) (x0 : Nat) (x1 : Int) (n : Nat) (h : xH) (hn0 : n = n0) (hy : okO n h x0 4 ∧ S_X4_appendWithExponent G (kl k) x0 (x1 - 1) n h (fun h2 => X4_appendFinite_w148 G k  n h2)) : X4_appendFinite_w141 G k x0 x1 n h := by
  subst hn0
  refine ww_aload_n C 0 0 rfl rfl dX4_appendFinite_141 ?_
  refine ww_iload_n C 1 1 rfl rfl dX4_appendFinite_142 ?_
  refine ww_iconst C (z := 1) dX4_appendFinite_143 rfl ?_
  refine ww_isub C dX4_appendFinite_144 ?_
  obtain ⟨p1, hy⟩ := hy
  refine cl_X4_282 C dX4_appendFinite_145 (Nat.le_of_ble_eq_true rfl) ⟨by decide, by decide⟩ ⟨by decide, by decide⟩ p1 ?_
  refine S_X4_appendWithExponent.mono hy (fun h2 hy => ?_)
  exact ww_sub [] rfl (by decide) (by decide) hy
set_option maxRecDepth 100000 in
set_option maxHeartbeats 4000000 in
theorem X4_appendFinite_b107 {G : xG} {k : xK} {n0 : Nat} {Po : xH → Prop} (C : CC G k cX4_appendFinite RX4 3 rm_X4_appendFinite) (E : CQ G k none rm_X4_appendFinite (fun r n1 h1 => r = none ∧ n1 = n0 ∧ Po h1)) (x0 : Nat) (x2 : Int) (n : Nat) (h : xH) (hn0 : n = n0) (hy : rg x2 ∧ ((0 ≤ x2 → okO n h x0 4 ∧ 0 ≤ hG h x0 11 ∧ okO n h ((hG h x0 11).toNat) 3 ∧ S_X3_count G (kl k) ((hG h x0 11).toNat) n h (fun z6 h7 => okO n h7 x0 4 ∧ S_X4_appendShortest G (kl k) x0 0 z6 n h7 (fun h9 => X4_appendFinite_w148 G k  n h9))) ∧ (¬ 0 ≤ x2 → okO n h x0 4 ∧ 0 ≤ hG h x0 2 ∧ okO n h ((hG h x0 2).toNat) 0 ∧ S_X0_append G (kl k) ((hG h x0 2).toNat) 48 n h (fun h13 => X4_appendFinite_w107 G k x0 (x2 + 1) n h13)))) : X4_appendFinite_w107 G k x0 x2 n h := by
  subst hn0
  refine ww_iload_n C 2 1 rfl rfl dX4_appendFinite_107 ?_
  obtain ⟨p1, hy⟩ := hy
  refine ww_if_ge C (tg := 126) dX4_appendFinite_108 (by decide) p1 (fun c2 => ?_) (fun c2 => ?_)
  · have hy := hy.1 c2
    refine ww_aload_n C 0 0 rfl rfl dX4_appendFinite_126 ?_
    refine ww_iconst C (z := 0) dX4_appendFinite_127 rfl ?_
    refine ww_aload_n C 0 0 rfl rfl dX4_appendFinite_128 ?_
    obtain ⟨p3, hy⟩ := hy
    obtain ⟨p4, hy⟩ := hy
    refine gf_X4_64 C dX4_appendFinite_129 p3 p4 ?_
    obtain ⟨p5, hy⟩ := hy
    refine cl_X4_277 C dX4_appendFinite_132 (Nat.le_of_ble_eq_true rfl) ⟨by decide, by decide⟩ ⟨by decide, by decide⟩ p5 ?_
    refine S_X3_count.mono hy (fun z6 h7 hy => ?_)
    obtain ⟨p8, hy⟩ := hy
    refine cl_X4_274 C dX4_appendFinite_135 (Nat.le_of_ble_eq_true rfl) ⟨by decide, by decide⟩ ⟨by decide, by decide⟩ p8 ?_
    refine S_X4_appendShortest.mono hy (fun h9 hy => ?_)
    refine ww_goto C (tg := 148) dX4_appendFinite_138 (by decide) ?_
    exact ww_sub [] rfl (by decide) (by decide) hy
  · have hy := hy.2 c2
    refine ww_aload_n C 0 0 rfl rfl dX4_appendFinite_111 ?_
    obtain ⟨p10, hy⟩ := hy
    obtain ⟨p11, hy⟩ := hy
    refine gf_X4_27 C dX4_appendFinite_112 p10 p11 ?_
    refine ww_bipush C (z := 48) dX4_appendFinite_115 rfl ?_
    obtain ⟨p12, hy⟩ := hy
    refine cl_X4_72 C dX4_appendFinite_117 (Nat.le_of_ble_eq_true rfl) ⟨by decide, by decide⟩ ⟨by decide, by decide⟩ p12 ?_
    refine S_X0_append.mono hy (fun h13 hy => ?_)
    refine ww_iinc C 2 1 rfl (by decide) rfl dX4_appendFinite_120 ?_
    refine ww_goto C (tg := 107) dX4_appendFinite_123 (by decide) ?_
    exact ww_sub [1, 0] rfl (by decide) (by decide) hy
abbrev X4_write_w0 (G : xG) (k : xK) (x0 : Nat) (x1 : Int) (n : Nat) (h : xH) : Prop := WW G k 3 0 0 0 [(0, rf G x0), (1, .int (iz x1))] [] n h
abbrev X4_write_w13 (G : xG) (k : xK) (x0 : Nat) (x1 : Int) (s0 : Int) (n : Nat) (h : xH) : Prop := WW G k 3 0 0 13 [(0, rf G x0), (1, .int (iz x1))] [.int (iz s0)] n h
abbrev X4_write_w45 (G : xG) (k : xK)  (n : Nat) (h : xH) : Prop := WW G k 3 0 0 45 [] [] n h
abbrev X4_write_w47 (G : xG) (k : xK) (x0 : Nat) (x1 : Int) (x2 : Int) (n : Nat) (h : xH) : Prop := WW G k 3 0 0 47 [(0, rf G x0), (1, .int (iz x1)), (2, .int (iz x2))] [] n h
abbrev X4_write_w131 (G : xG) (k : xK) (x0 : Nat) (n : Nat) (h : xH) : Prop := WW G k 3 1 8226 131 [(0, rf G x0)] [] n h
abbrev X4_write_w107 (G : xG) (k : xK) (x0 : Nat) (s0 : Int) (s1 : Nat) (n : Nat) (h : xH) : Prop := WW G k 3 0 0 107 [(0, rf G x0)] [.int (iz s0), rf G s1] n h
theorem S_X4_write_of {G : xG} {l : Launch} {x0 : Nat} {x1 : Int} {n : Nat} {h : xH} {Po : Int → Nat → xH → Prop} (body : ∀ k : xK, kl k = l → CC G k cX4_write RX4 3 rm_X4_write → CQ G k (some .int) rm_X4_write (fun r n1 h1 => ∃ z : Int, r = some (.int (iz z)) ∧ Po z n1 h1) → X4_write_w0 G k x0 x1 n h) : S_X4_write G l x0 x1 n h Po := xS_of (by decide +kernel) (Nat.le_of_ble_eq_true rfl) rfl (fun k hl hnm C E => body k hl C E)
set_option maxRecDepth 100000 in
set_option maxHeartbeats 4000000 in
theorem X4_write_b0 {G : xG} {k : xK} {n0 : Nat} {Po : Int → Nat → xH → Prop} (C : CC G k cX4_write RX4 3 rm_X4_write) (E : CQ G k (some .int) rm_X4_write (fun r n1 h1 => ∃ z : Int, r = some (.int (iz z)) ∧ Po z n1 h1)) (x0 : Nat) (x1 : Int) (n : Nat) (h : xH) (hy : okO n h x0 4 ∧ (rg (hG h x0 3) ∧ rg (1 : Int)) ∧ ((¬ (hG h x0 3) = (1 : Int) → X4_write_w13 G k x0 x1 0 n h) ∧ ((hG h x0 3) = (1 : Int) → X4_write_w13 G k x0 x1 1 n h))) : X4_write_w0 G k x0 x1 n h := by
  refine ww_aload_n C 0 0 rfl rfl dX4_write_0 ?_
  obtain ⟨p1, hy⟩ := hy
  refine gf_X4_30 C dX4_write_1 p1 ?_
  refine ww_iconst C (z := 1) dX4_write_4 rfl ?_
  obtain ⟨p2, hy⟩ := hy
  refine ww_icmp_ne C (tg := 12) dX4_write_5 (by decide) p2.1 p2.2 (fun c3 => ?_) (fun c3 => ?_)
  · have hy := hy.1 c3
    refine ww_iconst C (z := 0) dX4_write_12 rfl ?_
    exact ww_sub [0, 1] rfl (by decide) (by decide) hy
  · have hy := hy.2 c3
    refine ww_iconst C (z := 1) dX4_write_8 rfl ?_
    refine ww_goto C (tg := 13) dX4_write_9 (by decide) ?_
    exact ww_sub [0, 1] rfl (by decide) (by decide) hy
set_option maxRecDepth 100000 in
set_option maxHeartbeats 4000000 in
theorem X4_write_b13 {G : xG} {k : xK} {n0 : Nat} {Po : Int → Nat → xH → Prop} (C : CC G k cX4_write RX4 3 rm_X4_write) (E : CQ G k (some .int) rm_X4_write (fun r n1 h1 => ∃ z : Int, r = some (.int (iz z)) ∧ Po z n1 h1)) (x0 : Nat) (x1 : Int) (s0 : Int) (n : Nat) (h : xH) (hy : okO n h x0 4 ∧ rg (hG h x0 3) ∧ (((hG h x0 3) = 0 → X4_write_w45 G k  n h) ∧ (¬ (hG h x0 3) = 0 → rg s0 ∧ ((s0 = 0 → (rg x1 ∧ rg (10 : Int)) ∧ ((x1 = (10 : Int) → X4_write_w47 G k x0 x1 s0 n h) ∧ (¬ x1 = (10 : Int) → X4_write_w45 G k  n h))) ∧ (¬ s0 = 0 → (rg x1 ∧ rg (2 : Int)) ∧ ((x1 < (2 : Int) → X4_write_w45 G k  n h) ∧ (¬ x1 < (2 : Int) → (rg x1 ∧ rg (16 : Int)) ∧ ((x1 ≤ (16 : Int) → X4_write_w47 G k x0 x1 s0 n h) ∧ (¬ x1 ≤ (16 : Int) → X4_write_w45 G k  n h))))))))) : X4_write_w13 G k x0 x1 s0 n h := by
  refine ww_istore_n C 2 rfl (by decide) rfl dX4_write_13 ?_
  refine ww_aload_n C 0 1 rfl rfl dX4_write_14 ?_
  obtain ⟨p1, hy⟩ := hy
  refine gf_X4_30 C dX4_write_15 p1 ?_
  obtain ⟨p2, hy⟩ := hy
  refine ww_if_eq C (tg := 45) dX4_write_18 (by decide) p2 (fun c3 => ?_) (fun c3 => ?_)
  · have hy := hy.1 c3
    exact ww_sub [] rfl (by decide) (by decide) hy
  · have hy := hy.2 c3
    refine ww_iload_n C 2 0 rfl rfl dX4_write_21 ?_
    obtain ⟨p4, hy⟩ := hy
    refine ww_if_eq C (tg := 39) dX4_write_22 (by decide) p4 (fun c5 => ?_) (fun c5 => ?_)
    · have hy := hy.1 c5
      refine ww_iload_n C 1 2 rfl rfl dX4_write_39 ?_
      refine ww_bipush C (z := 10) dX4_write_40 rfl ?_
      obtain ⟨p6, hy⟩ := hy
      refine ww_icmp_eq C (tg := 47) dX4_write_42 (by decide) p6.1 p6.2 (fun c7 => ?_) (fun c7 => ?_)
      · have hy := hy.1 c7
        exact ww_sub [1, 2, 0] rfl (by decide) (by decide) hy
      · have hy := hy.2 c7
        exact ww_sub [] rfl (by decide) (by decide) hy
    · have hy := hy.2 c5
      refine ww_iload_n C 1 2 rfl rfl dX4_write_25 ?_
      refine ww_iconst C (z := 2) dX4_write_26 rfl ?_
      obtain ⟨p8, hy⟩ := hy
      refine ww_icmp_lt C (tg := 45) dX4_write_27 (by decide) p8.1 p8.2 (fun c9 => ?_) (fun c9 => ?_)
      · have hy := hy.1 c9
        exact ww_sub [] rfl (by decide) (by decide) hy
      · have hy := hy.2 c9
        refine ww_iload_n C 1 2 rfl rfl dX4_write_30 ?_
        refine ww_bipush C (z := 16) dX4_write_31 rfl ?_
        obtain ⟨p10, hy⟩ := hy
        refine ww_icmp_le C (tg := 47) dX4_write_33 (by decide) p10.1 p10.2 (fun c11 => ?_) (fun c11 => ?_)
        · have hy := hy.1 c11
          exact ww_sub [1, 2, 0] rfl (by decide) (by decide) hy
        · have hy := hy.2 c11
          refine ww_goto C (tg := 45) dX4_write_36 (by decide) ?_
          exact ww_sub [] rfl (by decide) (by decide) hy
set_option maxRecDepth 100000 in
set_option maxHeartbeats 4000000 in
theorem X4_write_b45 {G : xG} {k : xK} {n0 : Nat} {Po : Int → Nat → xH → Prop} (C : CC G k cX4_write RX4 3 rm_X4_write) (E : CQ G k (some .int) rm_X4_write (fun r n1 h1 => ∃ z : Int, r = some (.int (iz z)) ∧ Po z n1 h1))  (n : Nat) (h : xH) (hy : Po (-1 : Int) n h) : X4_write_w45 G k  n h := by
  refine ww_iconst C (z := (-1)) dX4_write_45 rfl ?_
  exact ww_iret C E dX4_write_46 (by decide) (by decide) ⟨_, rfl, hy⟩
set_option maxRecDepth 100000 in
set_option maxHeartbeats 4000000 in
theorem X4_write_b47 {G : xG} {k : xK} {n0 : Nat} {Po : Int → Nat → xH → Prop} (C : CC G k cX4_write RX4 3 rm_X4_write) (E : CQ G k (some .int) rm_X4_write (fun r n1 h1 => ∃ z : Int, r = some (.int (iz z)) ∧ Po z n1 h1)) (x0 : Nat) (x1 : Int) (x2 : Int) (n : Nat) (h : xH) (hy : okO n h x0 4 ∧ 0 ≤ hG h x0 2 ∧ okO n h ((hG h x0 2).toNat) 0 ∧ S_X0_empty G (kl k) ((hG h x0 2).toNat) n h (fun h4 => rg x2 ∧ ((x2 = 0 → okO n h4 x0 4 ∧ (rg (hG h4 x0 3) ∧ rg (2 : Int)) ∧ ((¬ (hG h4 x0 3) = (2 : Int) → okO n h4 x0 4 ∧ (rg (hG h4 x0 3) ∧ rg (3 : Int)) ∧ ((¬ (hG h4 x0 3) = (3 : Int) → okO n h4 x0 4 ∧ 0 ≤ hG h4 x0 2 ∧ okO n h4 ((hG h4 x0 2).toNat) 0 ∧ S_X0_append_ G (kl k) ((hG h4 x0 2).toNat) 3 n h4 (fun h16 => X4_write_w131 G k x0 n h16)) ∧ ((hG h4 x0 3) = (3 : Int) → okO n h4 x0 4 ∧ 0 ≤ hG h4 x0 2 ∧ okO n h4 x0 4 ∧ rg (hG h4 x0 4) ∧ (((hG h4 x0 4) = 0 → X4_write_w107 G k x0 43 ((hG h4 x0 2).toNat) n h4) ∧ (¬ (hG h4 x0 4) = 0 → X4_write_w107 G k x0 45 ((hG h4 x0 2).toNat) n h4))))) ∧ ((hG h4 x0 3) = (2 : Int) → okO n h4 x0 4 ∧ S_X4_appendFinite G (kl k) x0 n h4 (fun h23 => X4_write_w131 G k x0 n h23)))) ∧ (¬ x2 = 0 → okO n h4 x0 4 ∧ S_X4_appendExactNumber G (kl k) x0 x1 n h4 (fun n26 h25 => X4_write_w131 G k x0 n26 h25))))) : X4_write_w47 G k x0 x1 x2 n h := by
  refine ww_aload_n C 0 0 rfl rfl dX4_write_47 ?_
  obtain ⟨p1, hy⟩ := hy
  obtain ⟨p2, hy⟩ := hy
  refine gf_X4_27 C dX4_write_48 p1 p2 ?_
  obtain ⟨p3, hy⟩ := hy
  refine cl_X4_76 C dX4_write_51 (Nat.le_of_ble_eq_true rfl) ⟨by decide, by decide⟩ ⟨by decide, by decide⟩ p3 ?_
  refine S_X0_empty.mono hy (fun h4 hy => ?_)
  refine ww_iload_n C 2 2 rfl rfl dX4_write_54 ?_
  obtain ⟨p5, hy⟩ := hy
  refine ww_if_eq C (tg := 66) dX4_write_55 (by decide) p5 (fun c6 => ?_) (fun c6 => ?_)
  · have hy := hy.1 c6
    refine ww_aload_n C 0 0 rfl rfl dX4_write_66 ?_
    obtain ⟨p7, hy⟩ := hy
    refine gf_X4_30 C dX4_write_67 p7 ?_
    refine ww_iconst C (z := 2) dX4_write_70 rfl ?_
    obtain ⟨p8, hy⟩ := hy
    refine ww_icmp_ne C (tg := 81) dX4_write_71 (by decide) p8.1 p8.2 (fun c9 => ?_) (fun c9 => ?_)
    · have hy := hy.1 c9
      refine ww_aload_n C 0 0 rfl rfl dX4_write_81 ?_
      obtain ⟨p10, hy⟩ := hy
      refine gf_X4_30 C dX4_write_82 p10 ?_
      refine ww_iconst C (z := 3) dX4_write_85 rfl ?_
      obtain ⟨p11, hy⟩ := hy
      refine ww_icmp_ne C (tg := 122) dX4_write_86 (by decide) p11.1 p11.2 (fun c12 => ?_) (fun c12 => ?_)
      · have hy := hy.1 c12
        refine ww_aload_n C 0 0 rfl rfl dX4_write_122 ?_
        obtain ⟨p13, hy⟩ := hy
        obtain ⟨p14, hy⟩ := hy
        refine gf_X4_27 C dX4_write_123 p13 p14 ?_
        refine ww_ldcS C (i0 := 164) (j := 3) (tx := "+nan.0") (by decide) dX4_write_126 ?_
        obtain ⟨p15, hy⟩ := hy
        refine cl_X4_161 C dX4_write_128 (Nat.le_of_ble_eq_true rfl) ⟨by decide, by decide⟩ ⟨by decide, by decide⟩ p15 ?_
        refine S_X0_append_.mono hy (fun h16 hy => ?_)
        exact ww_sub [0] rfl (by decide) (by decide) hy
      · have hy := hy.2 c12
        refine ww_aload_n C 0 0 rfl rfl dX4_write_89 ?_
        obtain ⟨p17, hy⟩ := hy
        obtain ⟨p18, hy⟩ := hy
        refine gf_X4_27 C dX4_write_90 p17 p18 ?_
        refine ww_aload_n C 0 0 rfl rfl dX4_write_93 ?_
        obtain ⟨p19, hy⟩ := hy
        refine gf_X4_34 C dX4_write_94 p19 ?_
        obtain ⟨p20, hy⟩ := hy
        refine ww_if_eq C (tg := 105) dX4_write_97 (by decide) p20 (fun c21 => ?_) (fun c21 => ?_)
        · have hy := hy.1 c21
          refine ww_bipush C (z := 43) dX4_write_105 rfl ?_
          exact ww_sub [0] rfl (by decide) (by decide) hy
        · have hy := hy.2 c21
          refine ww_bipush C (z := 45) dX4_write_100 rfl ?_
          refine ww_goto C (tg := 107) dX4_write_102 (by decide) ?_
          exact ww_sub [0] rfl (by decide) (by decide) hy
    · have hy := hy.2 c9
      refine ww_aload_n C 0 0 rfl rfl dX4_write_74 ?_
      obtain ⟨p22, hy⟩ := hy
      refine cl_X4_156 C dX4_write_75 (Nat.le_of_ble_eq_true rfl) ⟨by decide, by decide⟩ ⟨by decide, by decide⟩ p22 ?_
      refine S_X4_appendFinite.mono hy (fun h23 hy => ?_)
      refine ww_goto C (tg := 131) dX4_write_78 (by decide) ?_
      exact ww_sub [0] rfl (by decide) (by decide) hy
  · have hy := hy.2 c6
    refine ww_aload_n C 0 0 rfl rfl dX4_write_58 ?_
    refine ww_iload_n C 1 1 rfl rfl dX4_write_59 ?_
    obtain ⟨p24, hy⟩ := hy
    refine cl_X4_153 C dX4_write_60 (Nat.le_of_ble_eq_true rfl) ⟨by decide, by decide⟩ ⟨by decide, by decide⟩ p24 ?_
    refine S_X4_appendExactNumber.mono hy (fun n26 h25 hy => ?_)
    refine ww_goto C (tg := 131) dX4_write_63 (by decide) ?_
    exact ww_sub [0] rfl (by decide) (by decide) hy
set_option maxRecDepth 100000 in
set_option maxHeartbeats 4000000 in
theorem X4_write_b131 {G : xG} {k : xK} {n0 : Nat} {Po : Int → Nat → xH → Prop} (C : CC G k cX4_write RX4 3 rm_X4_write) (E : CQ G k (some .int) rm_X4_write (fun r n1 h1 => ∃ z : Int, r = some (.int (iz z)) ∧ Po z n1 h1)) (x0 : Nat) (n : Nat) (h : xH) (hy : okO n h x0 4 ∧ 0 ≤ hG h x0 2 ∧ okO n h ((hG h x0 2).toNat) 0 ∧ S_X0_size G (kl k) ((hG h x0 2).toNat) n h (fun z4 h5 => Po z4 n h5)) : X4_write_w131 G k x0 n h := by
  refine ww_aload_n C 0 0 rfl rfl dX4_write_131 ?_
  obtain ⟨p1, hy⟩ := hy
  obtain ⟨p2, hy⟩ := hy
  refine gf_X4_27 C dX4_write_132 p1 p2 ?_
  obtain ⟨p3, hy⟩ := hy
  refine cl_X4_68 C dX4_write_135 (Nat.le_of_ble_eq_true rfl) ⟨by decide, by decide⟩ ⟨by decide, by decide⟩ p3 ?_
  refine S_X0_size.mono hy (fun z4 h5 hy => ?_)
  exact ww_iret C E dX4_write_138 (by decide) (by decide) ⟨_, rfl, hy⟩
set_option maxRecDepth 100000 in
set_option maxHeartbeats 4000000 in
theorem X4_write_b107 {G : xG} {k : xK} {n0 : Nat} {Po : Int → Nat → xH → Prop} (C : CC G k cX4_write RX4 3 rm_X4_write) (E : CQ G k (some .int) rm_X4_write (fun r n1 h1 => ∃ z : Int, r = some (.int (iz z)) ∧ Po z n1 h1)) (x0 : Nat) (s0 : Int) (s1 : Nat) (n : Nat) (h : xH) (hy : okO n h s1 0 ∧ S_X0_append G (kl k) s1 s0 n h (fun h2 => okO n h2 x0 4 ∧ 0 ≤ hG h2 x0 2 ∧ okO n h2 ((hG h2 x0 2).toNat) 0 ∧ S_X0_append_ G (kl k) ((hG h2 x0 2).toNat) 0 n h2 (fun h6 => X4_write_w131 G k x0 n h6))) : X4_write_w107 G k x0 s0 s1 n h := by
  obtain ⟨p1, hy⟩ := hy
  refine cl_X4_72 C dX4_write_107 (Nat.le_of_ble_eq_true rfl) ⟨by decide, by decide⟩ ⟨by decide, by decide⟩ p1 ?_
  refine S_X0_append.mono hy (fun h2 hy => ?_)
  refine ww_aload_n C 0 0 rfl rfl dX4_write_110 ?_
  obtain ⟨p3, hy⟩ := hy
  obtain ⟨p4, hy⟩ := hy
  refine gf_X4_27 C dX4_write_111 p3 p4 ?_
  refine ww_ldcS C (i0 := 159) (j := 0) (tx := "inf.0") (by decide) dX4_write_114 ?_
  obtain ⟨p5, hy⟩ := hy
  refine cl_X4_161 C dX4_write_116 (Nat.le_of_ble_eq_true rfl) ⟨by decide, by decide⟩ ⟨by decide, by decide⟩ p5 ?_
  refine S_X0_append_.mono hy (fun h6 hy => ?_)
  refine ww_goto C (tg := 131) dX4_write_119 (by decide) ?_
  exact ww_sub [0] rfl (by decide) (by decide) hy
abbrev X4_out_w0 (G : xG) (k : xK) (x0 : Nat) (x1 : Int) (n : Nat) (h : xH) : Prop := WW G k 2 0 0 0 [(0, rf G x0), (1, .int (iz x1))] [] n h
theorem S_X4_out_of {G : xG} {l : Launch} {x0 : Nat} {x1 : Int} {n : Nat} {h : xH} {Po : Int → xH → Prop} (body : ∀ k : xK, kl k = l → CC G k cX4_out RX4 2 rm_X4_out → CQ G k (some .int) rm_X4_out (fun r n1 h1 => ∃ z : Int, r = some (.int (iz z)) ∧ n1 = n ∧ Po z h1) → X4_out_w0 G k x0 x1 n h) : S_X4_out G l x0 x1 n h Po := xS_of (by decide +kernel) (Nat.le_of_ble_eq_true rfl) rfl (fun k hl hnm C E => body k hl C E)
set_option maxRecDepth 100000 in
set_option maxHeartbeats 4000000 in
theorem X4_out_b0 {G : xG} {k : xK} {n0 : Nat} {Po : Int → xH → Prop} (C : CC G k cX4_out RX4 2 rm_X4_out) (E : CQ G k (some .int) rm_X4_out (fun r n1 h1 => ∃ z : Int, r = some (.int (iz z)) ∧ n1 = n0 ∧ Po z h1)) (x0 : Nat) (x1 : Int) (n : Nat) (h : xH) (hn0 : n = n0) (hy : okO n h x0 4 ∧ 0 ≤ hG h x0 2 ∧ okO n h ((hG h x0 2).toNat) 0 ∧ S_X0_codeAt G (kl k) ((hG h x0 2).toNat) x1 n h (fun z4 h5 => Po z4 h5)) : X4_out_w0 G k x0 x1 n h := by
  subst hn0
  refine ww_aload_n C 0 0 rfl rfl dX4_out_0 ?_
  obtain ⟨p1, hy⟩ := hy
  obtain ⟨p2, hy⟩ := hy
  refine gf_X4_27 C dX4_out_1 p1 p2 ?_
  refine ww_iload_n C 1 1 rfl rfl dX4_out_4 ?_
  obtain ⟨p3, hy⟩ := hy
  refine cl_X4_166 C dX4_out_5 (Nat.le_of_ble_eq_true rfl) ⟨by decide, by decide⟩ ⟨by decide, by decide⟩ p3 ?_
  refine S_X0_codeAt.mono hy (fun z4 h5 hy => ?_)
  exact ww_iret C E dX4_out_8 (by decide) (by decide) ⟨_, rfl, rfl, hy⟩
abbrev X4_back_w0 (G : xG) (k : xK) (x0 : Nat) (n : Nat) (h : xH) : Prop := WW G k 1 0 0 0 [(0, rf G x0)] [] n h
theorem S_X4_back_of {G : xG} {l : Launch} {x0 : Nat} {n : Nat} {h : xH} {Po : Int → xH → Prop} (body : ∀ k : xK, kl k = l → CC G k cX4_back RX4 1 rm_X4_back → CQ G k (some .boolean) rm_X4_back (fun r n1 h1 => ∃ z : Int, r = some (.int (iz z)) ∧ n1 = n ∧ Po z h1) → X4_back_w0 G k x0 n h) : S_X4_back G l x0 n h Po := xS_of (by decide +kernel) (Nat.le_of_ble_eq_true rfl) rfl (fun k hl hnm C E => body k hl C E)
set_option maxRecDepth 100000 in
set_option maxHeartbeats 4000000 in
theorem X4_back_b0 {G : xG} {k : xK} {n0 : Nat} {Po : Int → xH → Prop} (C : CC G k cX4_back RX4 1 rm_X4_back) (E : CQ G k (some .boolean) rm_X4_back (fun r n1 h1 => ∃ z : Int, r = some (.int (iz z)) ∧ n1 = n0 ∧ Po z h1)) (x0 : Nat) (n : Nat) (h : xH) (hn0 : n = n0) (hy : okO n h x0 4 ∧ 0 ≤ hG h x0 2 ∧ okO n h ((hG h x0 2).toNat) 0 ∧ S_X0_size G (kl k) ((hG h x0 2).toNat) n h (fun z4 h5 => (rg z4 ∧ rg (400 : Int)) ∧ ((z4 ≤ (400 : Int) → okO n h5 x0 4 ∧ 0 ≤ hG h5 x0 1 ∧ okO n h5 x0 4 ∧ 0 ≤ hG h5 x0 2 ∧ okO n h5 ((hG h5 x0 1).toNat) 0 ∧ S_X0_copy G (kl k) ((hG h5 x0 1).toNat) ((hG h5 x0 2).toNat) n h5 (fun h13 => ((1 : Int) = 0 ∨ (1 : Int) = 1) ∧ Po (1 : Int) h13)) ∧ (¬ z4 ≤ (400 : Int) → ((0 : Int) = 0 ∨ (0 : Int) = 1) ∧ Po (0 : Int) h5)))) : X4_back_w0 G k x0 n h := by
  subst hn0
  refine ww_aload_n C 0 0 rfl rfl dX4_back_0 ?_
  obtain ⟨p1, hy⟩ := hy
  obtain ⟨p2, hy⟩ := hy
  refine gf_X4_27 C dX4_back_1 p1 p2 ?_
  obtain ⟨p3, hy⟩ := hy
  refine cl_X4_68 C dX4_back_4 (Nat.le_of_ble_eq_true rfl) ⟨by decide, by decide⟩ ⟨by decide, by decide⟩ p3 ?_
  refine S_X0_size.mono hy (fun z4 h5 hy => ?_)
  refine ww_sipush C (z := 400) dX4_back_7 rfl ?_
  obtain ⟨p6, hy⟩ := hy
  refine ww_icmp_le C (tg := 15) dX4_back_10 (by decide) p6.1 p6.2 (fun c7 => ?_) (fun c7 => ?_)
  · have hy := hy.1 c7
    refine ww_aload_n C 0 0 rfl rfl dX4_back_15 ?_
    obtain ⟨p8, hy⟩ := hy
    obtain ⟨p9, hy⟩ := hy
    refine gf_X4_20 C dX4_back_16 p8 p9 ?_
    refine ww_aload_n C 0 0 rfl rfl dX4_back_19 ?_
    obtain ⟨p10, hy⟩ := hy
    obtain ⟨p11, hy⟩ := hy
    refine gf_X4_27 C dX4_back_20 p10 p11 ?_
    obtain ⟨p12, hy⟩ := hy
    refine cl_X4_170 C dX4_back_23 (Nat.le_of_ble_eq_true rfl) ⟨by decide, by decide⟩ ⟨by decide, by decide⟩ p12 ?_
    refine S_X0_copy.mono hy (fun h13 hy => ?_)
    refine ww_iconst C (z := 1) dX4_back_26 rfl ?_
    obtain ⟨p14, hy⟩ := hy
    exact ww_zret C E dX4_back_27 (nz_b p14) (by decide) (by decide) ⟨_, rfl, rfl, hy⟩
  · have hy := hy.2 c7
    refine ww_iconst C (z := 0) dX4_back_13 rfl ?_
    obtain ⟨p15, hy⟩ := hy
    exact ww_zret C E dX4_back_14 (nz_b p15) (by decide) (by decide) ⟨_, rfl, rfl, hy⟩
