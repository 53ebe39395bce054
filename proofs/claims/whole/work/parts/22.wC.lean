abbrev X3_init_w0 (G : xG) (k : xK) (x0 : Nat) (n : Nat) (h : xH) : Prop := WW G k 1 0 0 0 [(0, rf G x0)] [] n h
theorem S_X3_init_of {G : xG} {l : Launch} {x0 : Nat} {n : Nat} {h : xH} {Po : Nat → xH → Prop} (body : ∀ k : xK, kl k = l → (kt k).name = "<init>" → CC G k cX3_init RX3 1 rm_X3_init → CQ G k none rm_X3_init (fun r n1 h1 => r = none ∧ Po n1 h1) → X3_init_w0 G k x0 n h) : S_X3_init G l x0 n h Po := xS_of (by decide +kernel) (Nat.le_of_ble_eq_true rfl) rfl (fun k hl hnm C E => body k hl hnm C E)
set_option maxRecDepth 100000 in
set_option maxHeartbeats 4000000 in
theorem X3_init_b0 {G : xG} {k : xK} {n0 : Nat} {Po : Nat → xH → Prop} (C : CC G k cX3_init RX3 1 rm_X3_init) (E : CQ G k none rm_X3_init (fun r n1 h1 => r = none ∧ Po n1 h1)) (hin : (kt k).name = "<init>") (x0 : Nat) (n : Nat) (h : xH) (hy : (0 ≤ (20 : Int) ∧ (20 : Int) ≤ 20) ∧ (∀ h2 : xH, h2 = hN h n (100, 20, fun _ => 0) → okO (n + 1) h2 x0 3 ∧ (∀ h4 : xH, h4 = hS h2 x0 0 ((n : Nat) : Int) → okO (n + 1) h4 x0 3 ∧ (∀ h6 : xH, h6 = hS h4 x0 1 0 → okO (n + 1) h6 x0 3 ∧ (∀ h8 : xH, h8 = hS h6 x0 2 0 → (∀ h9 : xH, h9 = hN h8 (n + 1) (1, 0, xZ 1) → S_X1_init G (kl k) (n + 1) ((n + 1) + 1) h9 (fun n11 h10 => okO n11 h10 x0 3 ∧ (∀ h13 : xH, h13 = hS h10 x0 3 ((n + 1 : Nat) : Int) → (∀ h14 : xH, h14 = hN h13 n11 (1, 0, xZ 1) → S_X1_init G (kl k) n11 (n11 + 1) h14 (fun n16 h15 => okO n16 h15 x0 3 ∧ (∀ h18 : xH, h18 = hS h15 x0 4 ((n11 : Nat) : Int) → (∀ h19 : xH, h19 = hN h18 n16 (1, 0, xZ 1) → S_X1_init G (kl k) n16 (n16 + 1) h19 (fun n21 h20 => okO n21 h20 x0 3 ∧ (∀ h23 : xH, h23 = hS h20 x0 5 ((n16 : Nat) : Int) → (∀ h24 : xH, h24 = hN h23 n21 (1, 0, xZ 1) → S_X1_init G (kl k) n21 (n21 + 1) h24 (fun n26 h25 => okO n26 h25 x0 3 ∧ (∀ h28 : xH, h28 = hS h25 x0 6 ((n21 : Nat) : Int) → (∀ h29 : xH, h29 = hN h28 n26 (1, 0, xZ 1) → S_X1_init G (kl k) n26 (n26 + 1) h29 (fun n31 h30 => okO n31 h30 x0 3 ∧ (∀ h33 : xH, h33 = hS h30 x0 7 ((n26 : Nat) : Int) → Po n31 h33)))))))))))))))))))) : X3_init_w0 G k x0 n h := by
  refine ww_aload_n C 0 0 rfl rfl dX3_init_0 ?_
  refine ww_objInit C q_213 q_52 q_53 dX3_init_1 (by decide) (by decide) ?_
  refine ww_aload_n C 0 0 rfl rfl dX3_init_4 ?_
  refine ww_bipush C (z := 20) dX3_init_5 rfl ?_
  obtain ⟨p1, hy⟩ := hy
  refine ww_newI C (B := 20) q_36 dX3_init_7 p1.1 p1.2 (by decide) (by decide) (by decide) ?_
  have hy := hy _ rfl
  obtain ⟨p3, hy⟩ := hy
  have hy := hy _ rfl
  refine pf_X3_11R C hin dX3_init_9 p3 ?_
  refine ww_aload_n C 0 0 rfl rfl dX3_init_12 ?_
  refine ww_iconst C (z := 0) dX3_init_13 rfl ?_
  obtain ⟨p5, hy⟩ := hy
  have hy := hy _ rfl
  refine pf_X3_15I C dX3_init_14 p5 ?_
  refine ww_aload_n C 0 0 rfl rfl dX3_init_17 ?_
  refine ww_iconst C (z := 0) dX3_init_18 rfl ?_
  obtain ⟨p7, hy⟩ := hy
  have hy := hy _ rfl
  refine pf_X3_19I C dX3_init_19 p7 ?_
  refine ww_aload_n C 0 0 rfl rfl dX3_init_22 ?_
  refine nw_X3_22 C dX3_init_23 (by decide) (by decide) ?_
  have hy := hy _ rfl
  refine ww_dup C rfl dX3_init_26 ?_
  refine cl_X3_24 C dX3_init_27 (Nat.le_of_ble_eq_true rfl) ⟨by decide, by decide⟩ ⟨by decide, by decide⟩ ?_
  refine S_X1_init.mono hy (fun n11 h10 hy => ?_)
  obtain ⟨p12, hy⟩ := hy
  have hy := hy _ rfl
  refine pf_X3_25R C hin dX3_init_30 p12 ?_
  refine ww_aload_n C 0 0 rfl rfl dX3_init_33 ?_
  refine nw_X3_22 C dX3_init_34 (by decide) (by decide) ?_
  have hy := hy _ rfl
  refine ww_dup C rfl dX3_init_37 ?_
  refine cl_X3_24 C dX3_init_38 (Nat.le_of_ble_eq_true rfl) ⟨by decide, by decide⟩ ⟨by decide, by decide⟩ ?_
  refine S_X1_init.mono hy (fun n16 h15 hy => ?_)
  obtain ⟨p17, hy⟩ := hy
  have hy := hy _ rfl
  refine pf_X3_29R C hin dX3_init_41 p17 ?_
  refine ww_aload_n C 0 0 rfl rfl dX3_init_44 ?_
  refine nw_X3_22 C dX3_init_45 (by decide) (by decide) ?_
  have hy := hy _ rfl
  refine ww_dup C rfl dX3_init_48 ?_
  refine cl_X3_24 C dX3_init_49 (Nat.le_of_ble_eq_true rfl) ⟨by decide, by decide⟩ ⟨by decide, by decide⟩ ?_
  refine S_X1_init.mono hy (fun n21 h20 hy => ?_)
  obtain ⟨p22, hy⟩ := hy
  have hy := hy _ rfl
  refine pf_X3_32R C hin dX3_init_52 p22 ?_
  refine ww_aload_n C 0 0 rfl rfl dX3_init_55 ?_
  refine nw_X3_22 C dX3_init_56 (by decide) (by decide) ?_
  have hy := hy _ rfl
  refine ww_dup C rfl dX3_init_59 ?_
  refine cl_X3_24 C dX3_init_60 (Nat.le_of_ble_eq_true rfl) ⟨by decide, by decide⟩ ⟨by decide, by decide⟩ ?_
  refine S_X1_init.mono hy (fun n26 h25 hy => ?_)
  obtain ⟨p27, hy⟩ := hy
  have hy := hy _ rfl
  refine pf_X3_35R C hin dX3_init_63 p27 ?_
  refine ww_aload_n C 0 0 rfl rfl dX3_init_66 ?_
  refine nw_X3_22 C dX3_init_67 (by decide) (by decide) ?_
  have hy := hy _ rfl
  refine ww_dup C rfl dX3_init_70 ?_
  refine cl_X3_24 C dX3_init_71 (Nat.le_of_ble_eq_true rfl) ⟨by decide, by decide⟩ ⟨by decide, by decide⟩ ?_
  refine S_X1_init.mono hy (fun n31 h30 hy => ?_)
  obtain ⟨p32, hy⟩ := hy
  have hy := hy _ rfl
  refine pf_X3_38R C hin dX3_init_74 p32 ?_
  exact ww_vret C E dX3_init_77 (by decide) (by decide) ⟨rfl, hy⟩
abbrev X3_count_w0 (G : xG) (k : xK) (x0 : Nat) (n : Nat) (h : xH) : Prop := WW G k 1 0 0 0 [(0, rf G x0)] [] n h
theorem S_X3_count_of {G : xG} {l : Launch} {x0 : Nat} {n : Nat} {h : xH} {Po : Int → xH → Prop} (body : ∀ k : xK, kl k = l → CC G k cX3_count RX3 1 rm_X3_count → CQ G k (some .int) rm_X3_count (fun r n1 h1 => ∃ z : Int, r = some (.int (iz z)) ∧ n1 = n ∧ Po z h1) → X3_count_w0 G k x0 n h) : S_X3_count G l x0 n h Po := xS_of (by decide +kernel) (Nat.le_of_ble_eq_true rfl) rfl (fun k hl hnm C E => body k hl C E)
set_option maxRecDepth 100000 in
set_option maxHeartbeats 4000000 in
theorem X3_count_b0 {G : xG} {k : xK} {n0 : Nat} {Po : Int → xH → Prop} (C : CC G k cX3_count RX3 1 rm_X3_count) (E : CQ G k (some .int) rm_X3_count (fun r n1 h1 => ∃ z : Int, r = some (.int (iz z)) ∧ n1 = n0 ∧ Po z h1)) (x0 : Nat) (n : Nat) (h : xH) (hn0 : n = n0) (hy : okO n h x0 3 ∧ Po (hG h x0 1) h) : X3_count_w0 G k x0 n h := by
  subst hn0
  refine ww_aload_n C 0 0 rfl rfl dX3_count_0 ?_
  obtain ⟨p1, hy⟩ := hy
  refine gf_X3_15 C dX3_count_1 p1 ?_
  exact ww_iret C E dX3_count_4 (by decide) (by decide) ⟨_, rfl, rfl, hy⟩
abbrev X3_point_w0 (G : xG) (k : xK) (x0 : Nat) (n : Nat) (h : xH) : Prop := WW G k 1 0 0 0 [(0, rf G x0)] [] n h
theorem S_X3_point_of {G : xG} {l : Launch} {x0 : Nat} {n : Nat} {h : xH} {Po : Int → xH → Prop} (body : ∀ k : xK, kl k = l → CC G k cX3_point RX3 1 rm_X3_point → CQ G k (some .int) rm_X3_point (fun r n1 h1 => ∃ z : Int, r = some (.int (iz z)) ∧ n1 = n ∧ Po z h1) → X3_point_w0 G k x0 n h) : S_X3_point G l x0 n h Po := xS_of (by decide +kernel) (Nat.le_of_ble_eq_true rfl) rfl (fun k hl hnm C E => body k hl C E)
set_option maxRecDepth 100000 in
set_option maxHeartbeats 4000000 in
theorem X3_point_b0 {G : xG} {k : xK} {n0 : Nat} {Po : Int → xH → Prop} (C : CC G k cX3_point RX3 1 rm_X3_point) (E : CQ G k (some .int) rm_X3_point (fun r n1 h1 => ∃ z : Int, r = some (.int (iz z)) ∧ n1 = n0 ∧ Po z h1)) (x0 : Nat) (n : Nat) (h : xH) (hn0 : n = n0) (hy : okO n h x0 3 ∧ Po (hG h x0 2) h) : X3_point_w0 G k x0 n h := by
  subst hn0
  refine ww_aload_n C 0 0 rfl rfl dX3_point_0 ?_
  obtain ⟨p1, hy⟩ := hy
  refine gf_X3_19 C dX3_point_1 p1 ?_
  exact ww_iret C E dX3_point_4 (by decide) (by decide) ⟨_, rfl, rfl, hy⟩
abbrev X3_digitAt_w0 (G : xG) (k : xK) (x0 : Nat) (x1 : Int) (n : Nat) (h : xH) : Prop := WW G k 2 0 0 0 [(0, rf G x0), (1, .int (iz x1))] [] n h
abbrev X3_digitAt_w27 (G : xG) (k : xK)  (n : Nat) (h : xH) : Prop := WW G k 2 0 0 27 [] [] n h
abbrev X3_digitAt_w28 (G : xG) (k : xK) (s0 : Int) (n : Nat) (h : xH) : Prop := WW G k 2 0 0 28 [] [.int (iz s0)] n h
theorem S_X3_digitAt_of {G : xG} {l : Launch} {x0 : Nat} {x1 : Int} {n : Nat} {h : xH} {Po : Int → xH → Prop} (body : ∀ k : xK, kl k = l → CC G k cX3_digitAt RX3 2 rm_X3_digitAt → CQ G k (some .int) rm_X3_digitAt (fun r n1 h1 => ∃ z : Int, r = some (.int (iz z)) ∧ n1 = n ∧ Po z h1) → X3_digitAt_w0 G k x0 x1 n h) : S_X3_digitAt G l x0 x1 n h Po := xS_of (by decide +kernel) (Nat.le_of_ble_eq_true rfl) rfl (fun k hl hnm C E => body k hl C E)
set_option maxRecDepth 100000 in
set_option maxHeartbeats 4000000 in
theorem X3_digitAt_b0 {G : xG} {k : xK} {n0 : Nat} {Po : Int → xH → Prop} (C : CC G k cX3_digitAt RX3 2 rm_X3_digitAt) (E : CQ G k (some .int) rm_X3_digitAt (fun r n1 h1 => ∃ z : Int, r = some (.int (iz z)) ∧ n1 = n0 ∧ Po z h1)) (x0 : Nat) (x1 : Int) (n : Nat) (h : xH) (hn0 : n = n0) (hy : rg x1 ∧ ((x1 < 0 → X3_digitAt_w27 G k  n h) ∧ (¬ x1 < 0 → okO n h x0 3 ∧ (rg x1 ∧ rg (hG h x0 1)) ∧ (((hG h x0 1) ≤ x1 → X3_digitAt_w27 G k  n h) ∧ (¬ (hG h x0 1) ≤ x1 → (rg x1 ∧ rg (20 : Int)) ∧ (((20 : Int) ≤ x1 → X3_digitAt_w27 G k  n h) ∧ (¬ (20 : Int) ≤ x1 → okO n h x0 3 ∧ 0 ≤ hG h x0 0 ∧ okA n h ((hG h x0 0).toNat) 100 x1 ∧ X3_digitAt_w28 G k (hG h ((hG h x0 0).toNat) (x1.toNat)) n h))))))) : X3_digitAt_w0 G k x0 x1 n h := by
  subst hn0
  refine ww_iload_n C 1 1 rfl rfl dX3_digitAt_0 ?_
  obtain ⟨p1, hy⟩ := hy
  refine ww_if_lt C (tg := 27) dX3_digitAt_1 (by decide) p1 (fun c2 => ?_) (fun c2 => ?_)
  · have hy := hy.1 c2
    exact ww_sub [] rfl (by decide) (by decide) hy
  · have hy := hy.2 c2
    refine ww_iload_n C 1 1 rfl rfl dX3_digitAt_4 ?_
    refine ww_aload_n C 0 0 rfl rfl dX3_digitAt_5 ?_
    obtain ⟨p3, hy⟩ := hy
    refine gf_X3_15 C dX3_digitAt_6 p3 ?_
    obtain ⟨p4, hy⟩ := hy
    refine ww_icmp_ge C (tg := 27) dX3_digitAt_9 (by decide) p4.1 p4.2 (fun c5 => ?_) (fun c5 => ?_)
    · have hy := hy.1 c5
      exact ww_sub [] rfl (by decide) (by decide) hy
    · have hy := hy.2 c5
      refine ww_iload_n C 1 1 rfl rfl dX3_digitAt_12 ?_
      refine ww_bipush C (z := 20) dX3_digitAt_13 rfl ?_
      obtain ⟨p6, hy⟩ := hy
      refine ww_icmp_ge C (tg := 27) dX3_digitAt_15 (by decide) p6.1 p6.2 (fun c7 => ?_) (fun c7 => ?_)
      · have hy := hy.1 c7
        exact ww_sub [] rfl (by decide) (by decide) hy
      · have hy := hy.2 c7
        refine ww_aload_n C 0 0 rfl rfl dX3_digitAt_18 ?_
        obtain ⟨p8, hy⟩ := hy
        obtain ⟨p9, hy⟩ := hy
        refine gf_X3_11 C dX3_digitAt_19 p8 p9 ?_
        refine ww_iload_n C 1 1 rfl rfl dX3_digitAt_22 ?_
        obtain ⟨p10, hy⟩ := hy
        refine ww_iald C dX3_digitAt_23 p10 ?_
        refine ww_goto C (tg := 28) dX3_digitAt_24 (by decide) ?_
        exact ww_sub [] rfl (by decide) (by decide) hy
set_option maxRecDepth 100000 in
set_option maxHeartbeats 4000000 in
theorem X3_digitAt_b27 {G : xG} {k : xK} {n0 : Nat} {Po : Int → xH → Prop} (C : CC G k cX3_digitAt RX3 2 rm_X3_digitAt) (E : CQ G k (some .int) rm_X3_digitAt (fun r n1 h1 => ∃ z : Int, r = some (.int (iz z)) ∧ n1 = n0 ∧ Po z h1))  (n : Nat) (h : xH) (hn0 : n = n0) (hy : X3_digitAt_w28 G k 0 n h) : X3_digitAt_w27 G k  n h := by
  subst hn0
  refine ww_iconst C (z := 0) dX3_digitAt_27 rfl ?_
  exact ww_sub [] rfl (by decide) (by decide) hy
set_option maxRecDepth 100000 in
set_option maxHeartbeats 4000000 in
theorem X3_digitAt_b28 {G : xG} {k : xK} {n0 : Nat} {Po : Int → xH → Prop} (C : CC G k cX3_digitAt RX3 2 rm_X3_digitAt) (E : CQ G k (some .int) rm_X3_digitAt (fun r n1 h1 => ∃ z : Int, r = some (.int (iz z)) ∧ n1 = n0 ∧ Po z h1)) (s0 : Int) (n : Nat) (h : xH) (hn0 : n = n0) (hy : Po s0 h) : X3_digitAt_w28 G k s0 n h := by
  subst hn0
  exact ww_iret C E dX3_digitAt_28 (by decide) (by decide) ⟨_, rfl, rfl, hy⟩
abbrev X3_append_w0 (G : xG) (k : xK) (x0 : Nat) (x1 : Int) (n : Nat) (h : xH) : Prop := WW G k 2 0 0 0 [(0, rf G x0), (1, .int (iz x1))] [] n h
abbrev X3_append_w29 (G : xG) (k : xK)  (n : Nat) (h : xH) : Prop := WW G k 2 0 0 29 [] [] n h
theorem S_X3_append_of {G : xG} {l : Launch} {x0 : Nat} {x1 : Int} {n : Nat} {h : xH} {Po : xH → Prop} (body : ∀ k : xK, kl k = l → CC G k cX3_append RX3 2 rm_X3_append → CQ G k none rm_X3_append (fun r n1 h1 => r = none ∧ n1 = n ∧ Po h1) → X3_append_w0 G k x0 x1 n h) : S_X3_append G l x0 x1 n h Po := xS_of (by decide +kernel) (Nat.le_of_ble_eq_true rfl) rfl (fun k hl hnm C E => body k hl C E)
set_option maxRecDepth 100000 in
set_option maxHeartbeats 4000000 in
theorem X3_append_b0 {G : xG} {k : xK} {n0 : Nat} {Po : xH → Prop} (C : CC G k cX3_append RX3 2 rm_X3_append) (E : CQ G k none rm_X3_append (fun r n1 h1 => r = none ∧ n1 = n0 ∧ Po h1)) (x0 : Nat) (x1 : Int) (n : Nat) (h : xH) (hn0 : n = n0) (hy : okO n h x0 3 ∧ (rg (hG h x0 1) ∧ rg (20 : Int)) ∧ (((20 : Int) ≤ (hG h x0 1) → X3_append_w29 G k  n h) ∧ (¬ (20 : Int) ≤ (hG h x0 1) → okO n h x0 3 ∧ 0 ≤ hG h x0 0 ∧ okO n h x0 3 ∧ okA n h ((hG h x0 0).toNat) 100 (hG h x0 1) ∧ (∀ h8 : xH, h8 = hS h ((hG h x0 0).toNat) ((hG h x0 1).toNat) x1 → okO n h8 x0 3 ∧ okO n h8 x0 3 ∧ (∀ h11 : xH, h11 = hS h8 x0 1 ((hG h8 x0 1) + 1) → X3_append_w29 G k  n h11))))) : X3_append_w0 G k x0 x1 n h := by
  subst hn0
  refine ww_aload_n C 0 0 rfl rfl dX3_append_0 ?_
  obtain ⟨p1, hy⟩ := hy
  refine gf_X3_15 C dX3_append_1 p1 ?_
  refine ww_bipush C (z := 20) dX3_append_4 rfl ?_
  obtain ⟨p2, hy⟩ := hy
  refine ww_icmp_ge C (tg := 29) dX3_append_6 (by decide) p2.1 p2.2 (fun c3 => ?_) (fun c3 => ?_)
  · have hy := hy.1 c3
    exact ww_sub [] rfl (by decide) (by decide) hy
  · have hy := hy.2 c3
    refine ww_aload_n C 0 0 rfl rfl dX3_append_9 ?_
    obtain ⟨p4, hy⟩ := hy
    obtain ⟨p5, hy⟩ := hy
    refine gf_X3_11 C dX3_append_10 p4 p5 ?_
    refine ww_aload_n C 0 0 rfl rfl dX3_append_13 ?_
    obtain ⟨p6, hy⟩ := hy
    refine gf_X3_15 C dX3_append_14 p6 ?_
    refine ww_iload_n C 1 1 rfl rfl dX3_append_17 ?_
    obtain ⟨p7, hy⟩ := hy
    have hy := hy _ rfl
    refine ww_iast C dX3_append_18 p7 ?_
    refine ww_aload_n C 0 0 rfl rfl dX3_append_19 ?_
    refine ww_dup C rfl dX3_append_20 ?_
    obtain ⟨p9, hy⟩ := hy
    refine gf_X3_15 C dX3_append_21 p9 ?_
    refine ww_iconst C (z := 1) dX3_append_24 rfl ?_
    refine ww_iadd C dX3_append_25 ?_
    obtain ⟨p10, hy⟩ := hy
    have hy := hy _ rfl
    refine pf_X3_15I C dX3_append_26 p10 ?_
    exact ww_sub [] rfl (by decide) (by decide) hy
set_option maxRecDepth 100000 in
set_option maxHeartbeats 4000000 in
theorem X3_append_b29 {G : xG} {k : xK} {n0 : Nat} {Po : xH → Prop} (C : CC G k cX3_append RX3 2 rm_X3_append) (E : CQ G k none rm_X3_append (fun r n1 h1 => r = none ∧ n1 = n0 ∧ Po h1))  (n : Nat) (h : xH) (hn0 : n = n0) (hy : Po h) : X3_append_w29 G k  n h := by
  subst hn0
  exact ww_vret C E dX3_append_29 (by decide) (by decide) ⟨rfl, rfl, hy⟩
abbrev X3_setUp_w0 (G : xG) (k : xK) (x0 : Nat) (x1 : Int) (x2 : Int) (x3 : Int) (n : Nat) (h : xH) : Prop := WW G k 6 0 0 0 [(0, rf G x0), (1, .long (lz x1)), (3, .int (iz x2)), (4, .int (iz x3))] [] n h
abbrev X3_setUp_w94 (G : xG) (k : xK) (s0 : Int) (s1 : Nat) (n : Nat) (h : xH) : Prop := WW G k 6 0 0 94 [] [.int (iz s0), rf G s1] n h
theorem S_X3_setUp_of {G : xG} {l : Launch} {x0 : Nat} {x1 : Int} {x2 : Int} {x3 : Int} {n : Nat} {h : xH} {Po : xH → Prop} (body : ∀ k : xK, kl k = l → CC G k cX3_setUp RX3 6 rm_X3_setUp → CQ G k none rm_X3_setUp (fun r n1 h1 => r = none ∧ n1 = n ∧ Po h1) → X3_setUp_w0 G k x0 x1 x2 x3 n h) : S_X3_setUp G l x0 x1 x2 x3 n h Po := xS_of (by decide +kernel) (Nat.le_of_ble_eq_true rfl) rfl (fun k hl hnm C E => body k hl C E)
set_option maxRecDepth 100000 in
set_option maxHeartbeats 4000000 in
theorem X3_setUp_b0 {G : xG} {k : xK} {n0 : Nat} {Po : xH → Prop} (C : CC G k cX3_setUp RX3 6 rm_X3_setUp) (E : CQ G k none rm_X3_setUp (fun r n1 h1 => r = none ∧ n1 = n0 ∧ Po h1)) (x0 : Nat) (x1 : Int) (x2 : Int) (x3 : Int) (n : Nat) (h : xH) (hn0 : n = n0) (hy : S_J9_max_7cf53 G (kl k) x2 0 n h (fun z1 h2 => okO n h2 x0 3 ∧ 0 ≤ hG h2 x0 3 ∧ okO n h2 ((hG h2 x0 3).toNat) 1 ∧ S_X1_set G (kl k) ((hG h2 x0 3).toNat) x1 n h2 (fun h6 => okO n h6 x0 3 ∧ 0 ≤ hG h6 x0 3 ∧ okO n h6 ((hG h6 x0 3).toNat) 1 ∧ S_X1_shiftLeft G (kl k) ((hG h6 x0 3).toNat) (z1 + 2) n h6 (fun h10 => okO n h10 x0 3 ∧ 0 ≤ hG h10 x0 4 ∧ okO n h10 ((hG h10 x0 4).toNat) 1 ∧ S_X1_set G (kl k) ((hG h10 x0 4).toNat) 1 n h10 (fun h14 => okO n h14 x0 3 ∧ 0 ≤ hG h14 x0 4 ∧ S_J9_max_7cf53 G (kl k) (-x2) 0 n h14 (fun z17 h18 => okO n h18 ((hG h14 x0 4).toNat) 1 ∧ S_X1_shiftLeft G (kl k) ((hG h14 x0 4).toNat) (z17 + 2) n h18 (fun h20 => okO n h20 x0 3 ∧ 0 ≤ hG h20 x0 5 ∧ okO n h20 ((hG h20 x0 5).toNat) 1 ∧ S_X1_set G (kl k) ((hG h20 x0 5).toNat) 1 n h20 (fun h24 => okO n h24 x0 3 ∧ 0 ≤ hG h24 x0 5 ∧ okO n h24 ((hG h24 x0 5).toNat) 1 ∧ S_X1_shiftLeft G (kl k) ((hG h24 x0 5).toNat) (z1 + 1) n h24 (fun h28 => okO n h28 x0 3 ∧ 0 ≤ hG h28 x0 6 ∧ okO n h28 ((hG h28 x0 6).toNat) 1 ∧ S_X1_set G (kl k) ((hG h28 x0 6).toNat) 1 n h28 (fun h32 => okO n h32 x0 3 ∧ 0 ≤ hG h32 x0 6 ∧ rg x3 ∧ ((x3 = 0 → X3_setUp_w94 G k (z1 + 1) ((hG h32 x0 6).toNat) n h32) ∧ (¬ x3 = 0 → X3_setUp_w94 G k z1 ((hG h32 x0 6).toNat) n h32)))))))))))) : X3_setUp_w0 G k x0 x1 x2 x3 n h := by
  subst hn0
  refine ww_iload_n C 3 2 rfl rfl dX3_setUp_0 ?_
  refine ww_iconst C (z := 0) dX3_setUp_1 rfl ?_
  refine cl_X3_78 C dX3_setUp_2 (Nat.le_of_ble_eq_true rfl) ⟨by decide, by decide⟩ ⟨by decide, by decide⟩ ?_
  refine S_J9_max_7cf53.mono hy (fun z1 h2 hy => ?_)
  refine ww_istore C 5 (by decide) rfl dX3_setUp_5 ?_
  refine ww_aload_n C 0 1 rfl rfl dX3_setUp_7 ?_
  obtain ⟨p3, hy⟩ := hy
  obtain ⟨p4, hy⟩ := hy
  refine gf_X3_25 C dX3_setUp_8 p3 p4 ?_
  refine ww_lload_n C 1 2 rfl rfl dX3_setUp_11 ?_
  obtain ⟨p5, hy⟩ := hy
  refine cl_X3_81 C dX3_setUp_12 (Nat.le_of_ble_eq_true rfl) ⟨by decide, by decide⟩ ⟨by decide, by decide⟩ p5 ?_
  refine S_X1_set.mono hy (fun h6 hy => ?_)
  refine ww_aload_n C 0 1 rfl rfl dX3_setUp_15 ?_
  obtain ⟨p7, hy⟩ := hy
  obtain ⟨p8, hy⟩ := hy
  refine gf_X3_25 C dX3_setUp_16 p7 p8 ?_
  refine ww_iload C 5 0 rfl dX3_setUp_19 ?_
  refine ww_iconst C (z := 2) dX3_setUp_21 rfl ?_
  refine ww_iadd C dX3_setUp_22 ?_
  obtain ⟨p9, hy⟩ := hy
  refine cl_X3_85 C dX3_setUp_23 (Nat.le_of_ble_eq_true rfl) ⟨by decide, by decide⟩ ⟨by decide, by decide⟩ p9 ?_
  refine S_X1_shiftLeft.mono hy (fun h10 hy => ?_)
  refine ww_aload_n C 0 1 rfl rfl dX3_setUp_26 ?_
  obtain ⟨p11, hy⟩ := hy
  obtain ⟨p12, hy⟩ := hy
  refine gf_X3_29 C dX3_setUp_27 p11 p12 ?_
  refine ww_lconst C (z := 1) dX3_setUp_30 rfl ?_
  obtain ⟨p13, hy⟩ := hy
  refine cl_X3_81 C dX3_setUp_31 (Nat.le_of_ble_eq_true rfl) ⟨by decide, by decide⟩ ⟨by decide, by decide⟩ p13 ?_
  refine S_X1_set.mono hy (fun h14 hy => ?_)
  refine ww_aload_n C 0 1 rfl rfl dX3_setUp_34 ?_
  obtain ⟨p15, hy⟩ := hy
  obtain ⟨p16, hy⟩ := hy
  refine gf_X3_29 C dX3_setUp_35 p15 p16 ?_
  refine ww_iload_n C 3 3 rfl rfl dX3_setUp_38 ?_
  refine ww_ineg C dX3_setUp_39 ?_
  refine ww_iconst C (z := 0) dX3_setUp_40 rfl ?_
  refine cl_X3_78 C dX3_setUp_41 (Nat.le_of_ble_eq_true rfl) ⟨by decide, by decide⟩ ⟨by decide, by decide⟩ ?_
  refine S_J9_max_7cf53.mono hy (fun z17 h18 hy => ?_)
  refine ww_iconst C (z := 2) dX3_setUp_44 rfl ?_
  refine ww_iadd C dX3_setUp_45 ?_
  obtain ⟨p19, hy⟩ := hy
  refine cl_X3_85 C dX3_setUp_46 (Nat.le_of_ble_eq_true rfl) ⟨by decide, by decide⟩ ⟨by decide, by decide⟩ p19 ?_
  refine S_X1_shiftLeft.mono hy (fun h20 hy => ?_)
  refine ww_aload_n C 0 1 rfl rfl dX3_setUp_49 ?_
  obtain ⟨p21, hy⟩ := hy
  obtain ⟨p22, hy⟩ := hy
  refine gf_X3_32 C dX3_setUp_50 p21 p22 ?_
  refine ww_lconst C (z := 1) dX3_setUp_53 rfl ?_
  obtain ⟨p23, hy⟩ := hy
  refine cl_X3_81 C dX3_setUp_54 (Nat.le_of_ble_eq_true rfl) ⟨by decide, by decide⟩ ⟨by decide, by decide⟩ p23 ?_
  refine S_X1_set.mono hy (fun h24 hy => ?_)
  refine ww_aload_n C 0 1 rfl rfl dX3_setUp_57 ?_
  obtain ⟨p25, hy⟩ := hy
  obtain ⟨p26, hy⟩ := hy
  refine gf_X3_32 C dX3_setUp_58 p25 p26 ?_
  refine ww_iload C 5 0 rfl dX3_setUp_61 ?_
  refine ww_iconst C (z := 1) dX3_setUp_63 rfl ?_
  refine ww_iadd C dX3_setUp_64 ?_
  obtain ⟨p27, hy⟩ := hy
  refine cl_X3_85 C dX3_setUp_65 (Nat.le_of_ble_eq_true rfl) ⟨by decide, by decide⟩ ⟨by decide, by decide⟩ p27 ?_
  refine S_X1_shiftLeft.mono hy (fun h28 hy => ?_)
  refine ww_aload_n C 0 1 rfl rfl dX3_setUp_68 ?_
  obtain ⟨p29, hy⟩ := hy
  obtain ⟨p30, hy⟩ := hy
  refine gf_X3_35 C dX3_setUp_69 p29 p30 ?_
  refine ww_lconst C (z := 1) dX3_setUp_72 rfl ?_
  obtain ⟨p31, hy⟩ := hy
  refine cl_X3_81 C dX3_setUp_73 (Nat.le_of_ble_eq_true rfl) ⟨by decide, by decide⟩ ⟨by decide, by decide⟩ p31 ?_
  refine S_X1_set.mono hy (fun h32 hy => ?_)
  refine ww_aload_n C 0 1 rfl rfl dX3_setUp_76 ?_
  obtain ⟨p33, hy⟩ := hy
  obtain ⟨p34, hy⟩ := hy
  refine gf_X3_35 C dX3_setUp_77 p33 p34 ?_
  refine ww_iload C 4 4 rfl dX3_setUp_80 ?_
  obtain ⟨p35, hy⟩ := hy
  refine ww_if_eq C (tg := 90) dX3_setUp_82 (by decide) p35 (fun c36 => ?_) (fun c36 => ?_)
  · have hy := hy.1 c36
    refine ww_iload C 5 0 rfl dX3_setUp_90 ?_
    refine ww_iconst C (z := 1) dX3_setUp_92 rfl ?_
    refine ww_iadd C dX3_setUp_93 ?_
    exact ww_sub [] rfl (by decide) (by decide) hy
  · have hy := hy.2 c36
    refine ww_iload C 5 0 rfl dX3_setUp_85 ?_
    refine ww_goto C (tg := 94) dX3_setUp_87 (by decide) ?_
    exact ww_sub [] rfl (by decide) (by decide) hy
set_option maxRecDepth 100000 in
set_option maxHeartbeats 4000000 in
theorem X3_setUp_b94 {G : xG} {k : xK} {n0 : Nat} {Po : xH → Prop} (C : CC G k cX3_setUp RX3 6 rm_X3_setUp) (E : CQ G k none rm_X3_setUp (fun r n1 h1 => r = none ∧ n1 = n0 ∧ Po h1)) (s0 : Int) (s1 : Nat) (n : Nat) (h : xH) (hn0 : n = n0) (hy : okO n h s1 1 ∧ S_X1_shiftLeft G (kl k) s1 s0 n h (fun h2 => Po h2)) : X3_setUp_w94 G k s0 s1 n h := by
  subst hn0
  obtain ⟨p1, hy⟩ := hy
  refine cl_X3_85 C dX3_setUp_94 (Nat.le_of_ble_eq_true rfl) ⟨by decide, by decide⟩ ⟨by decide, by decide⟩ p1 ?_
  refine S_X1_shiftLeft.mono hy (fun h2 hy => ?_)
  exact ww_vret C E dX3_setUp_97 (by decide) (by decide) ⟨rfl, rfl, hy⟩
abbrev X3_scaleByFives_w0 (G : xG) (k : xK) (x0 : Nat) (n : Nat) (h : xH) : Prop := WW G k 1 0 0 0 [(0, rf G x0)] [] n h
abbrev X3_scaleByFives_w57 (G : xG) (k : xK)  (n : Nat) (h : xH) : Prop := WW G k 1 0 0 57 [] [] n h
theorem S_X3_scaleByFives_of {G : xG} {l : Launch} {x0 : Nat} {n : Nat} {h : xH} {Po : xH → Prop} (body : ∀ k : xK, kl k = l → CC G k cX3_scaleByFives RX3 1 rm_X3_scaleByFives → CQ G k none rm_X3_scaleByFives (fun r n1 h1 => r = none ∧ n1 = n ∧ Po h1) → X3_scaleByFives_w0 G k x0 n h) : S_X3_scaleByFives G l x0 n h Po := xS_of (by decide +kernel) (Nat.le_of_ble_eq_true rfl) rfl (fun k hl hnm C E => body k hl C E)
set_option maxRecDepth 100000 in
set_option maxHeartbeats 4000000 in
theorem X3_scaleByFives_b0 {G : xG} {k : xK} {n0 : Nat} {Po : xH → Prop} (C : CC G k cX3_scaleByFives RX3 1 rm_X3_scaleByFives) (E : CQ G k none rm_X3_scaleByFives (fun r n1 h1 => r = none ∧ n1 = n0 ∧ Po h1)) (x0 : Nat) (n : Nat) (h : xH) (hn0 : n = n0) (hy : okO n h x0 3 ∧ rg (hG h x0 2) ∧ (((hG h x0 2) < 0 → okO n h x0 3 ∧ 0 ≤ hG h x0 3 ∧ okO n h x0 3 ∧ okO n h ((hG h x0 3).toNat) 1 ∧ S_X1_multiplyByFives G (kl k) ((hG h x0 3).toNat) (-(hG h x0 2)) n h (fun h8 => okO n h8 x0 3 ∧ 0 ≤ hG h8 x0 5 ∧ okO n h8 x0 3 ∧ okO n h8 ((hG h8 x0 5).toNat) 1 ∧ S_X1_multiplyByFives G (kl k) ((hG h8 x0 5).toNat) (-(hG h8 x0 2)) n h8 (fun h13 => okO n h13 x0 3 ∧ 0 ≤ hG h13 x0 6 ∧ okO n h13 x0 3 ∧ okO n h13 ((hG h13 x0 6).toNat) 1 ∧ S_X1_multiplyByFives G (kl k) ((hG h13 x0 6).toNat) (-(hG h13 x0 2)) n h13 (fun h18 => X3_scaleByFives_w57 G k  n h18)))) ∧ (¬ (hG h x0 2) < 0 → okO n h x0 3 ∧ 0 ≤ hG h x0 4 ∧ okO n h x0 3 ∧ okO n h ((hG h x0 4).toNat) 1 ∧ S_X1_multiplyByFives G (kl k) ((hG h x0 4).toNat) (hG h x0 2) n h (fun h23 => X3_scaleByFives_w57 G k  n h23)))) : X3_scaleByFives_w0 G k x0 n h := by
  subst hn0
  refine ww_aload_n C 0 0 rfl rfl dX3_scaleByFives_0 ?_
  obtain ⟨p1, hy⟩ := hy
  refine gf_X3_19 C dX3_scaleByFives_1 p1 ?_
  obtain ⟨p2, hy⟩ := hy
  refine ww_if_lt C (tg := 21) dX3_scaleByFives_4 (by decide) p2 (fun c3 => ?_) (fun c3 => ?_)
  · have hy := hy.1 c3
    refine ww_aload_n C 0 0 rfl rfl dX3_scaleByFives_21 ?_
    obtain ⟨p4, hy⟩ := hy
    obtain ⟨p5, hy⟩ := hy
    refine gf_X3_25 C dX3_scaleByFives_22 p4 p5 ?_
    refine ww_aload_n C 0 0 rfl rfl dX3_scaleByFives_25 ?_
    obtain ⟨p6, hy⟩ := hy
    refine gf_X3_19 C dX3_scaleByFives_26 p6 ?_
    refine ww_ineg C dX3_scaleByFives_29 ?_
    obtain ⟨p7, hy⟩ := hy
    refine cl_X3_88 C dX3_scaleByFives_30 (Nat.le_of_ble_eq_true rfl) ⟨by decide, by decide⟩ ⟨by decide, by decide⟩ p7 ?_
    refine S_X1_multiplyByFives.mono hy (fun h8 hy => ?_)
    refine ww_aload_n C 0 0 rfl rfl dX3_scaleByFives_33 ?_
    obtain ⟨p9, hy⟩ := hy
    obtain ⟨p10, hy⟩ := hy
    refine gf_X3_32 C dX3_scaleByFives_34 p9 p10 ?_
    refine ww_aload_n C 0 0 rfl rfl dX3_scaleByFives_37 ?_
    obtain ⟨p11, hy⟩ := hy
    refine gf_X3_19 C dX3_scaleByFives_38 p11 ?_
    refine ww_ineg C dX3_scaleByFives_41 ?_
    obtain ⟨p12, hy⟩ := hy
    refine cl_X3_88 C dX3_scaleByFives_42 (Nat.le_of_ble_eq_true rfl) ⟨by decide, by decide⟩ ⟨by decide, by decide⟩ p12 ?_
    refine S_X1_multiplyByFives.mono hy (fun h13 hy => ?_)
    refine ww_aload_n C 0 0 rfl rfl dX3_scaleByFives_45 ?_
    obtain ⟨p14, hy⟩ := hy
    obtain ⟨p15, hy⟩ := hy
    refine gf_X3_35 C dX3_scaleByFives_46 p14 p15 ?_
    refine ww_aload_n C 0 0 rfl rfl dX3_scaleByFives_49 ?_
    obtain ⟨p16, hy⟩ := hy
    refine gf_X3_19 C dX3_scaleByFives_50 p16 ?_
    refine ww_ineg C dX3_scaleByFives_53 ?_
    obtain ⟨p17, hy⟩ := hy
    refine cl_X3_88 C dX3_scaleByFives_54 (Nat.le_of_ble_eq_true rfl) ⟨by decide, by decide⟩ ⟨by decide, by decide⟩ p17 ?_
    refine S_X1_multiplyByFives.mono hy (fun h18 hy => ?_)
    exact ww_sub [] rfl (by decide) (by decide) hy
  · have hy := hy.2 c3
    refine ww_aload_n C 0 0 rfl rfl dX3_scaleByFives_7 ?_
    obtain ⟨p19, hy⟩ := hy
    obtain ⟨p20, hy⟩ := hy
    refine gf_X3_29 C dX3_scaleByFives_8 p19 p20 ?_
    refine ww_aload_n C 0 0 rfl rfl dX3_scaleByFives_11 ?_
    obtain ⟨p21, hy⟩ := hy
    refine gf_X3_19 C dX3_scaleByFives_12 p21 ?_
    obtain ⟨p22, hy⟩ := hy
    refine cl_X3_88 C dX3_scaleByFives_15 (Nat.le_of_ble_eq_true rfl) ⟨by decide, by decide⟩ ⟨by decide, by decide⟩ p22 ?_
    refine S_X1_multiplyByFives.mono hy (fun h23 hy => ?_)
    refine ww_goto C (tg := 57) dX3_scaleByFives_18 (by decide) ?_
    exact ww_sub [] rfl (by decide) (by decide) hy
set_option maxRecDepth 100000 in
set_option maxHeartbeats 4000000 in
theorem X3_scaleByFives_b57 {G : xG} {k : xK} {n0 : Nat} {Po : xH → Prop} (C : CC G k cX3_scaleByFives RX3 1 rm_X3_scaleByFives) (E : CQ G k none rm_X3_scaleByFives (fun r n1 h1 => r = none ∧ n1 = n0 ∧ Po h1))  (n : Nat) (h : xH) (hn0 : n = n0) (hy : Po h) : X3_scaleByFives_w57 G k  n h := by
  subst hn0
  exact ww_vret C E dX3_scaleByFives_57 (by decide) (by decide) ⟨rfl, rfl, hy⟩
abbrev X3_reachesWhole_w0 (G : xG) (k : xK) (x0 : Nat) (x1 : Int) (n : Nat) (h : xH) : Prop := WW G k 3 0 0 0 [(0, rf G x0), (1, .int (iz x1))] [] n h
abbrev X3_reachesWhole_w59 (G : xG) (k : xK) (s0 : Int) (n : Nat) (h : xH) : Prop := WW G k 3 0 0 59 [] [.int (iz s0)] n h
theorem S_X3_reachesWhole_of {G : xG} {l : Launch} {x0 : Nat} {x1 : Int} {n : Nat} {h : xH} {Po : Int → xH → Prop} (body : ∀ k : xK, kl k = l → CC G k cX3_reachesWhole RX3 3 rm_X3_reachesWhole → CQ G k (some .boolean) rm_X3_reachesWhole (fun r n1 h1 => ∃ z : Int, r = some (.int (iz z)) ∧ n1 = n ∧ Po z h1) → X3_reachesWhole_w0 G k x0 x1 n h) : S_X3_reachesWhole G l x0 x1 n h Po := xS_of (by decide +kernel) (Nat.le_of_ble_eq_true rfl) rfl (fun k hl hnm C E => body k hl C E)
set_option maxRecDepth 100000 in
set_option maxHeartbeats 4000000 in
theorem X3_reachesWhole_b0 {G : xG} {k : xK} {n0 : Nat} {Po : Int → xH → Prop} (C : CC G k cX3_reachesWhole RX3 3 rm_X3_reachesWhole) (E : CQ G k (some .boolean) rm_X3_reachesWhole (fun r n1 h1 => ∃ z : Int, r = some (.int (iz z)) ∧ n1 = n0 ∧ Po z h1)) (x0 : Nat) (x1 : Int) (n : Nat) (h : xH) (hn0 : n = n0) (hy : okO n h x0 3 ∧ 0 ≤ hG h x0 7 ∧ okO n h x0 3 ∧ 0 ≤ hG h x0 3 ∧ okO n h ((hG h x0 7).toNat) 1 ∧ S_X1_copy G (kl k) ((hG h x0 7).toNat) ((hG h x0 3).toNat) n h (fun h6 => okO n h6 x0 3 ∧ 0 ≤ hG h6 x0 7 ∧ okO n h6 x0 3 ∧ 0 ≤ hG h6 x0 5 ∧ okO n h6 ((hG h6 x0 7).toNat) 1 ∧ S_X1_add G (kl k) ((hG h6 x0 7).toNat) ((hG h6 x0 5).toNat) n h6 (fun h12 => okO n h12 x0 3 ∧ 0 ≤ hG h12 x0 7 ∧ okO n h12 x0 3 ∧ 0 ≤ hG h12 x0 4 ∧ okO n h12 ((hG h12 x0 7).toNat) 1 ∧ S_X1_compare G (kl k) ((hG h12 x0 7).toNat) ((hG h12 x0 4).toNat) n h12 (fun z18 h19 => rg x1 ∧ ((x1 = 0 → rg z18 ∧ ((z18 ≤ 0 → X3_reachesWhole_w59 G k 0 n h19) ∧ (¬ z18 ≤ 0 → X3_reachesWhole_w59 G k 1 n h19))) ∧ (¬ x1 = 0 → rg z18 ∧ ((z18 < 0 → X3_reachesWhole_w59 G k 0 n h19) ∧ (¬ z18 < 0 → X3_reachesWhole_w59 G k 1 n h19)))))))) : X3_reachesWhole_w0 G k x0 x1 n h := by
  subst hn0
  refine ww_aload_n C 0 0 rfl rfl dX3_reachesWhole_0 ?_
  obtain ⟨p1, hy⟩ := hy
  obtain ⟨p2, hy⟩ := hy
  refine gf_X3_38 C dX3_reachesWhole_1 p1 p2 ?_
  refine ww_aload_n C 0 0 rfl rfl dX3_reachesWhole_4 ?_
  obtain ⟨p3, hy⟩ := hy
  obtain ⟨p4, hy⟩ := hy
  refine gf_X3_25 C dX3_reachesWhole_5 p3 p4 ?_
  obtain ⟨p5, hy⟩ := hy
  refine cl_X3_91 C dX3_reachesWhole_8 (Nat.le_of_ble_eq_true rfl) ⟨by decide, by decide⟩ ⟨by decide, by decide⟩ p5 ?_
  refine S_X1_copy.mono hy (fun h6 hy => ?_)
  refine ww_aload_n C 0 0 rfl rfl dX3_reachesWhole_11 ?_
  obtain ⟨p7, hy⟩ := hy
  obtain ⟨p8, hy⟩ := hy
  refine gf_X3_38 C dX3_reachesWhole_12 p7 p8 ?_
  refine ww_aload_n C 0 0 rfl rfl dX3_reachesWhole_15 ?_
  obtain ⟨p9, hy⟩ := hy
  obtain ⟨p10, hy⟩ := hy
  refine gf_X3_32 C dX3_reachesWhole_16 p9 p10 ?_
  obtain ⟨p11, hy⟩ := hy
  refine cl_X3_95 C dX3_reachesWhole_19 (Nat.le_of_ble_eq_true rfl) ⟨by decide, by decide⟩ ⟨by decide, by decide⟩ p11 ?_
  refine S_X1_add.mono hy (fun h12 hy => ?_)
  refine ww_aload_n C 0 0 rfl rfl dX3_reachesWhole_22 ?_
  obtain ⟨p13, hy⟩ := hy
  obtain ⟨p14, hy⟩ := hy
  refine gf_X3_38 C dX3_reachesWhole_23 p13 p14 ?_
  refine ww_aload_n C 0 0 rfl rfl dX3_reachesWhole_26 ?_
  obtain ⟨p15, hy⟩ := hy
  obtain ⟨p16, hy⟩ := hy
  refine gf_X3_29 C dX3_reachesWhole_27 p15 p16 ?_
  obtain ⟨p17, hy⟩ := hy
  refine cl_X3_98 C dX3_reachesWhole_30 (Nat.le_of_ble_eq_true rfl) ⟨by decide, by decide⟩ ⟨by decide, by decide⟩ p17 ?_
  refine S_X1_compare.mono hy (fun z18 h19 hy => ?_)
  refine ww_istore_n C 2 rfl (by decide) rfl dX3_reachesWhole_33 ?_
  refine ww_iload_n C 1 2 rfl rfl dX3_reachesWhole_34 ?_
  obtain ⟨p20, hy⟩ := hy
  refine ww_if_eq C (tg := 50) dX3_reachesWhole_35 (by decide) p20 (fun c21 => ?_) (fun c21 => ?_)
  · have hy := hy.1 c21
    refine ww_iload_n C 2 0 rfl rfl dX3_reachesWhole_50 ?_
    obtain ⟨p22, hy⟩ := hy
    refine ww_if_le C (tg := 58) dX3_reachesWhole_51 (by decide) p22 (fun c23 => ?_) (fun c23 => ?_)
    · have hy := hy.1 c23
      refine ww_iconst C (z := 0) dX3_reachesWhole_58 rfl ?_
      exact ww_sub [] rfl (by decide) (by decide) hy
    · have hy := hy.2 c23
      refine ww_iconst C (z := 1) dX3_reachesWhole_54 rfl ?_
      refine ww_goto C (tg := 59) dX3_reachesWhole_55 (by decide) ?_
      exact ww_sub [] rfl (by decide) (by decide) hy
  · have hy := hy.2 c21
    refine ww_iload_n C 2 0 rfl rfl dX3_reachesWhole_38 ?_
    obtain ⟨p24, hy⟩ := hy
    refine ww_if_lt C (tg := 46) dX3_reachesWhole_39 (by decide) p24 (fun c25 => ?_) (fun c25 => ?_)
    · have hy := hy.1 c25
      refine ww_iconst C (z := 0) dX3_reachesWhole_46 rfl ?_
      refine ww_goto C (tg := 59) dX3_reachesWhole_47 (by decide) ?_
      exact ww_sub [] rfl (by decide) (by decide) hy
    · have hy := hy.2 c25
      refine ww_iconst C (z := 1) dX3_reachesWhole_42 rfl ?_
      refine ww_goto C (tg := 59) dX3_reachesWhole_43 (by decide) ?_
      exact ww_sub [] rfl (by decide) (by decide) hy
set_option maxRecDepth 100000 in
set_option maxHeartbeats 4000000 in
theorem X3_reachesWhole_b59 {G : xG} {k : xK} {n0 : Nat} {Po : Int → xH → Prop} (C : CC G k cX3_reachesWhole RX3 3 rm_X3_reachesWhole) (E : CQ G k (some .boolean) rm_X3_reachesWhole (fun r n1 h1 => ∃ z : Int, r = some (.int (iz z)) ∧ n1 = n0 ∧ Po z h1)) (s0 : Int) (n : Nat) (h : xH) (hn0 : n = n0) (hy : (s0 = 0 ∨ s0 = 1) ∧ Po s0 h) : X3_reachesWhole_w59 G k s0 n h := by
  subst hn0
  obtain ⟨p1, hy⟩ := hy
  exact ww_zret C E dX3_reachesWhole_59 (nz_b p1) (by decide) (by decide) ⟨_, rfl, rfl, hy⟩
abbrev X3_isNearerUp_w0 (G : xG) (k : xK) (x0 : Nat) (x1 : Int) (n : Nat) (h : xH) : Prop := WW G k 3 0 0 0 [(0, rf G x0), (1, .int (iz x1))] [] n h
abbrev X3_isNearerUp_w46 (G : xG) (k : xK)  (n : Nat) (h : xH) : Prop := WW G k 3 0 0 46 [] [] n h
abbrev X3_isNearerUp_w50 (G : xG) (k : xK)  (n : Nat) (h : xH) : Prop := WW G k 3 0 0 50 [] [] n h
abbrev X3_isNearerUp_w51 (G : xG) (k : xK) (s0 : Int) (n : Nat) (h : xH) : Prop := WW G k 3 0 0 51 [] [.int (iz s0)] n h
theorem S_X3_isNearerUp_of {G : xG} {l : Launch} {x0 : Nat} {x1 : Int} {n : Nat} {h : xH} {Po : Int → xH → Prop} (body : ∀ k : xK, kl k = l → CC G k cX3_isNearerUp RX3 3 rm_X3_isNearerUp → CQ G k (some .boolean) rm_X3_isNearerUp (fun r n1 h1 => ∃ z : Int, r = some (.int (iz z)) ∧ n1 = n ∧ Po z h1) → X3_isNearerUp_w0 G k x0 x1 n h) : S_X3_isNearerUp G l x0 x1 n h Po := xS_of (by decide +kernel) (Nat.le_of_ble_eq_true rfl) rfl (fun k hl hnm C E => body k hl C E)
set_option maxRecDepth 100000 in
set_option maxHeartbeats 4000000 in
theorem X3_isNearerUp_b0 {G : xG} {k : xK} {n0 : Nat} {Po : Int → xH → Prop} (C : CC G k cX3_isNearerUp RX3 3 rm_X3_isNearerUp) (E : CQ G k (some .boolean) rm_X3_isNearerUp (fun r n1 h1 => ∃ z : Int, r = some (.int (iz z)) ∧ n1 = n0 ∧ Po z h1)) (x0 : Nat) (x1 : Int) (n : Nat) (h : xH) (hn0 : n = n0) (hy : okO n h x0 3 ∧ 0 ≤ hG h x0 7 ∧ okO n h x0 3 ∧ 0 ≤ hG h x0 3 ∧ okO n h ((hG h x0 7).toNat) 1 ∧ S_X1_copy G (kl k) ((hG h x0 7).toNat) ((hG h x0 3).toNat) n h (fun h6 => okO n h6 x0 3 ∧ 0 ≤ hG h6 x0 7 ∧ okO n h6 ((hG h6 x0 7).toNat) 1 ∧ S_X1_shiftLeft G (kl k) ((hG h6 x0 7).toNat) 1 n h6 (fun h10 => okO n h10 x0 3 ∧ 0 ≤ hG h10 x0 7 ∧ okO n h10 x0 3 ∧ 0 ≤ hG h10 x0 4 ∧ okO n h10 ((hG h10 x0 7).toNat) 1 ∧ S_X1_compare G (kl k) ((hG h10 x0 7).toNat) ((hG h10 x0 4).toNat) n h10 (fun z16 h17 => rg z16 ∧ ((0 < z16 → X3_isNearerUp_w46 G k  n h17) ∧ (¬ 0 < z16 → rg z16 ∧ ((¬ z16 = 0 → X3_isNearerUp_w50 G k  n h17) ∧ (z16 = 0 → (rg (iA x1 1) ∧ rg (1 : Int)) ∧ ((¬ (iA x1 1) = (1 : Int) → X3_isNearerUp_w50 G k  n h17) ∧ ((iA x1 1) = (1 : Int) → X3_isNearerUp_w46 G k  n h17)))))))))) : X3_isNearerUp_w0 G k x0 x1 n h := by
  subst hn0
  refine ww_aload_n C 0 0 rfl rfl dX3_isNearerUp_0 ?_
  obtain ⟨p1, hy⟩ := hy
  obtain ⟨p2, hy⟩ := hy
  refine gf_X3_38 C dX3_isNearerUp_1 p1 p2 ?_
  refine ww_aload_n C 0 0 rfl rfl dX3_isNearerUp_4 ?_
  obtain ⟨p3, hy⟩ := hy
  obtain ⟨p4, hy⟩ := hy
  refine gf_X3_25 C dX3_isNearerUp_5 p3 p4 ?_
  obtain ⟨p5, hy⟩ := hy
  refine cl_X3_91 C dX3_isNearerUp_8 (Nat.le_of_ble_eq_true rfl) ⟨by decide, by decide⟩ ⟨by decide, by decide⟩ p5 ?_
  refine S_X1_copy.mono hy (fun h6 hy => ?_)
  refine ww_aload_n C 0 0 rfl rfl dX3_isNearerUp_11 ?_
  obtain ⟨p7, hy⟩ := hy
  obtain ⟨p8, hy⟩ := hy
  refine gf_X3_38 C dX3_isNearerUp_12 p7 p8 ?_
  refine ww_iconst C (z := 1) dX3_isNearerUp_15 rfl ?_
  obtain ⟨p9, hy⟩ := hy
  refine cl_X3_85 C dX3_isNearerUp_16 (Nat.le_of_ble_eq_true rfl) ⟨by decide, by decide⟩ ⟨by decide, by decide⟩ p9 ?_
  refine S_X1_shiftLeft.mono hy (fun h10 hy => ?_)
  refine ww_aload_n C 0 0 rfl rfl dX3_isNearerUp_19 ?_
  obtain ⟨p11, hy⟩ := hy
  obtain ⟨p12, hy⟩ := hy
  refine gf_X3_38 C dX3_isNearerUp_20 p11 p12 ?_
  refine ww_aload_n C 0 0 rfl rfl dX3_isNearerUp_23 ?_
  obtain ⟨p13, hy⟩ := hy
  obtain ⟨p14, hy⟩ := hy
  refine gf_X3_29 C dX3_isNearerUp_24 p13 p14 ?_
  obtain ⟨p15, hy⟩ := hy
  refine cl_X3_98 C dX3_isNearerUp_27 (Nat.le_of_ble_eq_true rfl) ⟨by decide, by decide⟩ ⟨by decide, by decide⟩ p15 ?_
  refine S_X1_compare.mono hy (fun z16 h17 hy => ?_)
  refine ww_istore_n C 2 rfl (by decide) rfl dX3_isNearerUp_30 ?_
  refine ww_iload_n C 2 0 rfl rfl dX3_isNearerUp_31 ?_
  obtain ⟨p18, hy⟩ := hy
  refine ww_if_gt C (tg := 46) dX3_isNearerUp_32 (by decide) p18 (fun c19 => ?_) (fun c19 => ?_)
  · have hy := hy.1 c19
    exact ww_sub [] rfl (by decide) (by decide) hy
  · have hy := hy.2 c19
    refine ww_iload_n C 2 0 rfl rfl dX3_isNearerUp_35 ?_
    obtain ⟨p20, hy⟩ := hy
    refine ww_if_ne C (tg := 50) dX3_isNearerUp_36 (by decide) p20 (fun c21 => ?_) (fun c21 => ?_)
    · have hy := hy.1 c21
      exact ww_sub [] rfl (by decide) (by decide) hy
    · have hy := hy.2 c21
      refine ww_iload_n C 1 2 rfl rfl dX3_isNearerUp_39 ?_
      refine ww_iconst C (z := 1) dX3_isNearerUp_40 rfl ?_
      refine ww_iand C dX3_isNearerUp_41 ?_
      refine ww_iconst C (z := 1) dX3_isNearerUp_42 rfl ?_
      obtain ⟨p22, hy⟩ := hy
      refine ww_icmp_ne C (tg := 50) dX3_isNearerUp_43 (by decide) p22.1 p22.2 (fun c23 => ?_) (fun c23 => ?_)
      · have hy := hy.1 c23
        exact ww_sub [] rfl (by decide) (by decide) hy
      · have hy := hy.2 c23
        exact ww_sub [] rfl (by decide) (by decide) hy
set_option maxRecDepth 100000 in
set_option maxHeartbeats 4000000 in
theorem X3_isNearerUp_b46 {G : xG} {k : xK} {n0 : Nat} {Po : Int → xH → Prop} (C : CC G k cX3_isNearerUp RX3 3 rm_X3_isNearerUp) (E : CQ G k (some .boolean) rm_X3_isNearerUp (fun r n1 h1 => ∃ z : Int, r = some (.int (iz z)) ∧ n1 = n0 ∧ Po z h1))  (n : Nat) (h : xH) (hn0 : n = n0) (hy : X3_isNearerUp_w51 G k 1 n h) : X3_isNearerUp_w46 G k  n h := by
  subst hn0
  refine ww_iconst C (z := 1) dX3_isNearerUp_46 rfl ?_
  refine ww_goto C (tg := 51) dX3_isNearerUp_47 (by decide) ?_
  exact ww_sub [] rfl (by decide) (by decide) hy
set_option maxRecDepth 100000 in
set_option maxHeartbeats 4000000 in
theorem X3_isNearerUp_b50 {G : xG} {k : xK} {n0 : Nat} {Po : Int → xH → Prop} (C : CC G k cX3_isNearerUp RX3 3 rm_X3_isNearerUp) (E : CQ G k (some .boolean) rm_X3_isNearerUp (fun r n1 h1 => ∃ z : Int, r = some (.int (iz z)) ∧ n1 = n0 ∧ Po z h1))  (n : Nat) (h : xH) (hn0 : n = n0) (hy : X3_isNearerUp_w51 G k 0 n h) : X3_isNearerUp_w50 G k  n h := by
  subst hn0
  refine ww_iconst C (z := 0) dX3_isNearerUp_50 rfl ?_
  exact ww_sub [] rfl (by decide) (by decide) hy
set_option maxRecDepth 100000 in
set_option maxHeartbeats 4000000 in
theorem X3_isNearerUp_b51 {G : xG} {k : xK} {n0 : Nat} {Po : Int → xH → Prop} (C : CC G k cX3_isNearerUp RX3 3 rm_X3_isNearerUp) (E : CQ G k (some .boolean) rm_X3_isNearerUp (fun r n1 h1 => ∃ z : Int, r = some (.int (iz z)) ∧ n1 = n0 ∧ Po z h1)) (s0 : Int) (n : Nat) (h : xH) (hn0 : n = n0) (hy : (s0 = 0 ∨ s0 = 1) ∧ Po s0 h) : X3_isNearerUp_w51 G k s0 n h := by
  subst hn0
  obtain ⟨p1, hy⟩ := hy
  exact ww_zret C E dX3_isNearerUp_51 (nz_b p1) (by decide) (by decide) ⟨_, rfl, rfl, hy⟩
abbrev X3_takeDigit_w0 (G : xG) (k : xK) (x0 : Nat) (x1 : Int) (n : Nat) (h : xH) : Prop := WW G k 7 0 0 0 [(0, rf G x0), (1, .int (iz x1))] [] n h
abbrev X3_takeDigit_w32 (G : xG) (k : xK) (x0 : Nat) (x1 : Int) (x2 : Int) (n : Nat) (h : xH) : Prop := WW G k 7 0 0 32 [(0, rf G x0), (1, .int (iz x1)), (2, .int (iz x2))] [] n h
abbrev X3_takeDigit_w69 (G : xG) (k : xK) (x0 : Nat) (x1 : Int) (x2 : Int) (n : Nat) (h : xH) : Prop := WW G k 7 0 0 69 [(0, rf G x0), (1, .int (iz x1)), (2, .int (iz x2))] [] n h
abbrev X3_takeDigit_w106 (G : xG) (k : xK) (x0 : Nat) (x1 : Int) (x2 : Int) (s0 : Int) (n : Nat) (h : xH) : Prop := WW G k 7 0 0 106 [(0, rf G x0), (1, .int (iz x1)), (2, .int (iz x2))] [.int (iz s0)] n h
abbrev X3_takeDigit_w137 (G : xG) (k : xK) (x0 : Nat) (x2 : Int) (x4 : Int) (x5 : Int) (n : Nat) (h : xH) : Prop := WW G k 7 0 0 137 [(0, rf G x0), (2, .int (iz x2)), (4, .int (iz x4)), (5, .int (iz x5))] [] n h
abbrev X3_takeDigit_w133 (G : xG) (k : xK) (x0 : Nat) (x2 : Int) (x4 : Int) (x5 : Int) (n : Nat) (h : xH) : Prop := WW G k 7 0 0 133 [(0, rf G x0), (2, .int (iz x2)), (4, .int (iz x4)), (5, .int (iz x5))] [] n h
abbrev X3_takeDigit_w138 (G : xG) (k : xK) (x0 : Nat) (x2 : Int) (x4 : Int) (x5 : Int) (s0 : Int) (n : Nat) (h : xH) : Prop := WW G k 7 0 0 138 [(0, rf G x0), (2, .int (iz x2)), (4, .int (iz x4)), (5, .int (iz x5))] [.int (iz s0)] n h
abbrev X3_takeDigit_w153 (G : xG) (k : xK) (x4 : Int) (x5 : Int) (s0 : Int) (s1 : Nat) (n : Nat) (h : xH) : Prop := WW G k 7 0 0 153 [(4, .int (iz x4)), (5, .int (iz x5))] [.int (iz s0), rf G s1] n h
abbrev X3_takeDigit_w166 (G : xG) (k : xK)  (n : Nat) (h : xH) : Prop := WW G k 7 0 0 166 [] [] n h
abbrev X3_takeDigit_w171 (G : xG) (k : xK) (s0 : Int) (n : Nat) (h : xH) : Prop := WW G k 7 0 0 171 [] [.int (iz s0)] n h
theorem S_X3_takeDigit_of {G : xG} {l : Launch} {x0 : Nat} {x1 : Int} {n : Nat} {h : xH} {Po : Int → xH → Prop} (body : ∀ k : xK, kl k = l → CC G k cX3_takeDigit RX3 7 rm_X3_takeDigit → CQ G k (some .boolean) rm_X3_takeDigit (fun r n1 h1 => ∃ z : Int, r = some (.int (iz z)) ∧ n1 = n ∧ Po z h1) → X3_takeDigit_w0 G k x0 x1 n h) : S_X3_takeDigit G l x0 x1 n h Po := xS_of (by decide +kernel) (Nat.le_of_ble_eq_true rfl) rfl (fun k hl hnm C E => body k hl C E)
set_option maxRecDepth 100000 in
set_option maxHeartbeats 4000000 in
theorem X3_takeDigit_b0 {G : xG} {k : xK} {n0 : Nat} {Po : Int → xH → Prop} (C : CC G k cX3_takeDigit RX3 7 rm_X3_takeDigit) (E : CQ G k (some .boolean) rm_X3_takeDigit (fun r n1 h1 => ∃ z : Int, r = some (.int (iz z)) ∧ n1 = n0 ∧ Po z h1)) (x0 : Nat) (x1 : Int) (n : Nat) (h : xH) (hn0 : n = n0) (hy : okO n h x0 3 ∧ 0 ≤ hG h x0 3 ∧ okO n h ((hG h x0 3).toNat) 1 ∧ S_X1_multiplyAdd G (kl k) ((hG h x0 3).toNat) 10 0 n h (fun h4 => okO n h4 x0 3 ∧ 0 ≤ hG h4 x0 5 ∧ okO n h4 ((hG h4 x0 5).toNat) 1 ∧ S_X1_multiplyAdd G (kl k) ((hG h4 x0 5).toNat) 10 0 n h4 (fun h8 => okO n h8 x0 3 ∧ 0 ≤ hG h8 x0 6 ∧ okO n h8 ((hG h8 x0 6).toNat) 1 ∧ S_X1_multiplyAdd G (kl k) ((hG h8 x0 6).toNat) 10 0 n h8 (fun h12 => X3_takeDigit_w32 G k x0 x1 0 n h12)))) : X3_takeDigit_w0 G k x0 x1 n h := by
  subst hn0
  refine ww_aload_n C 0 0 rfl rfl dX3_takeDigit_0 ?_
  obtain ⟨p1, hy⟩ := hy
  obtain ⟨p2, hy⟩ := hy
  refine gf_X3_25 C dX3_takeDigit_1 p1 p2 ?_
  refine ww_bipush C (z := 10) dX3_takeDigit_4 rfl ?_
  refine ww_iconst C (z := 0) dX3_takeDigit_6 rfl ?_
  obtain ⟨p3, hy⟩ := hy
  refine cl_X3_71 C dX3_takeDigit_7 (Nat.le_of_ble_eq_true rfl) ⟨by decide, by decide⟩ ⟨by decide, by decide⟩ p3 ?_
  refine S_X1_multiplyAdd.mono hy (fun h4 hy => ?_)
  refine ww_aload_n C 0 0 rfl rfl dX3_takeDigit_10 ?_
  obtain ⟨p5, hy⟩ := hy
  obtain ⟨p6, hy⟩ := hy
  refine gf_X3_32 C dX3_takeDigit_11 p5 p6 ?_
  refine ww_bipush C (z := 10) dX3_takeDigit_14 rfl ?_
  refine ww_iconst C (z := 0) dX3_takeDigit_16 rfl ?_
  obtain ⟨p7, hy⟩ := hy
  refine cl_X3_71 C dX3_takeDigit_17 (Nat.le_of_ble_eq_true rfl) ⟨by decide, by decide⟩ ⟨by decide, by decide⟩ p7 ?_
  refine S_X1_multiplyAdd.mono hy (fun h8 hy => ?_)
  refine ww_aload_n C 0 0 rfl rfl dX3_takeDigit_20 ?_
  obtain ⟨p9, hy⟩ := hy
  obtain ⟨p10, hy⟩ := hy
  refine gf_X3_35 C dX3_takeDigit_21 p9 p10 ?_
  refine ww_bipush C (z := 10) dX3_takeDigit_24 rfl ?_
  refine ww_iconst C (z := 0) dX3_takeDigit_26 rfl ?_
  obtain ⟨p11, hy⟩ := hy
  refine cl_X3_71 C dX3_takeDigit_27 (Nat.le_of_ble_eq_true rfl) ⟨by decide, by decide⟩ ⟨by decide, by decide⟩ p11 ?_
  refine S_X1_multiplyAdd.mono hy (fun h12 hy => ?_)
  refine ww_iconst C (z := 0) dX3_takeDigit_30 rfl ?_
  refine ww_istore_n C 2 rfl (by decide) rfl dX3_takeDigit_31 ?_
  exact ww_sub [1, 2, 0] rfl (by decide) (by decide) hy
set_option maxRecDepth 100000 in
set_option maxHeartbeats 4000000 in
theorem X3_takeDigit_b32 {G : xG} {k : xK} {n0 : Nat} {Po : Int → xH → Prop} (C : CC G k cX3_takeDigit RX3 7 rm_X3_takeDigit) (E : CQ G k (some .boolean) rm_X3_takeDigit (fun r n1 h1 => ∃ z : Int, r = some (.int (iz z)) ∧ n1 = n0 ∧ Po z h1)) (x0 : Nat) (x1 : Int) (x2 : Int) (n : Nat) (h : xH) (hn0 : n = n0) (hy : (rg x2 ∧ rg (9 : Int)) ∧ (((9 : Int) ≤ x2 → X3_takeDigit_w69 G k x0 x1 x2 n h) ∧ (¬ (9 : Int) ≤ x2 → okO n h x0 3 ∧ 0 ≤ hG h x0 3 ∧ okO n h x0 3 ∧ 0 ≤ hG h x0 4 ∧ okO n h ((hG h x0 3).toNat) 1 ∧ S_X1_compare G (kl k) ((hG h x0 3).toNat) ((hG h x0 4).toNat) n h (fun z8 h9 => rg z8 ∧ ((z8 < 0 → X3_takeDigit_w69 G k x0 x1 x2 n h9) ∧ (¬ z8 < 0 → okO n h9 x0 3 ∧ 0 ≤ hG h9 x0 3 ∧ okO n h9 x0 3 ∧ 0 ≤ hG h9 x0 4 ∧ okO n h9 ((hG h9 x0 3).toNat) 1 ∧ S_X1_subtract G (kl k) ((hG h9 x0 3).toNat) ((hG h9 x0 4).toNat) n h9 (fun h17 => X3_takeDigit_w32 G k x0 x1 (x2 + 1) n h17))))))) : X3_takeDigit_w32 G k x0 x1 x2 n h := by
  subst hn0
  refine ww_iload_n C 2 2 rfl rfl dX3_takeDigit_32 ?_
  refine ww_bipush C (z := 9) dX3_takeDigit_33 rfl ?_
  obtain ⟨p1, hy⟩ := hy
  refine ww_icmp_ge C (tg := 69) dX3_takeDigit_35 (by decide) p1.1 p1.2 (fun c2 => ?_) (fun c2 => ?_)
  · have hy := hy.1 c2
    exact ww_sub [0, 1, 2] rfl (by decide) (by decide) hy
  · have hy := hy.2 c2
    refine ww_aload_n C 0 0 rfl rfl dX3_takeDigit_38 ?_
    obtain ⟨p3, hy⟩ := hy
    obtain ⟨p4, hy⟩ := hy
    refine gf_X3_25 C dX3_takeDigit_39 p3 p4 ?_
    refine ww_aload_n C 0 0 rfl rfl dX3_takeDigit_42 ?_
    obtain ⟨p5, hy⟩ := hy
    obtain ⟨p6, hy⟩ := hy
    refine gf_X3_29 C dX3_takeDigit_43 p5 p6 ?_
    obtain ⟨p7, hy⟩ := hy
    refine cl_X3_98 C dX3_takeDigit_46 (Nat.le_of_ble_eq_true rfl) ⟨by decide, by decide⟩ ⟨by decide, by decide⟩ p7 ?_
    refine S_X1_compare.mono hy (fun z8 h9 hy => ?_)
    obtain ⟨p10, hy⟩ := hy
    refine ww_if_lt C (tg := 69) dX3_takeDigit_49 (by decide) p10 (fun c11 => ?_) (fun c11 => ?_)
    · have hy := hy.1 c11
      exact ww_sub [0, 1, 2] rfl (by decide) (by decide) hy
    · have hy := hy.2 c11
      refine ww_aload_n C 0 0 rfl rfl dX3_takeDigit_52 ?_
      obtain ⟨p12, hy⟩ := hy
      obtain ⟨p13, hy⟩ := hy
      refine gf_X3_25 C dX3_takeDigit_53 p12 p13 ?_
      refine ww_aload_n C 0 0 rfl rfl dX3_takeDigit_56 ?_
      obtain ⟨p14, hy⟩ := hy
      obtain ⟨p15, hy⟩ := hy
      refine gf_X3_29 C dX3_takeDigit_57 p14 p15 ?_
      obtain ⟨p16, hy⟩ := hy
      refine cl_X3_102 C dX3_takeDigit_60 (Nat.le_of_ble_eq_true rfl) ⟨by decide, by decide⟩ ⟨by decide, by decide⟩ p16 ?_
      refine S_X1_subtract.mono hy (fun h17 hy => ?_)
      refine ww_iinc C 2 2 rfl (by decide) rfl dX3_takeDigit_63 ?_
      refine ww_goto C (tg := 32) dX3_takeDigit_66 (by decide) ?_
      exact ww_sub [1, 2, 0] rfl (by decide) (by decide) hy
set_option maxRecDepth 100000 in
set_option maxHeartbeats 4000000 in
theorem X3_takeDigit_b69 {G : xG} {k : xK} {n0 : Nat} {Po : Int → xH → Prop} (C : CC G k cX3_takeDigit RX3 7 rm_X3_takeDigit) (E : CQ G k (some .boolean) rm_X3_takeDigit (fun r n1 h1 => ∃ z : Int, r = some (.int (iz z)) ∧ n1 = n0 ∧ Po z h1)) (x0 : Nat) (x1 : Int) (x2 : Int) (n : Nat) (h : xH) (hn0 : n = n0) (hy : okO n h x0 3 ∧ 0 ≤ hG h x0 3 ∧ okO n h x0 3 ∧ 0 ≤ hG h x0 6 ∧ okO n h ((hG h x0 3).toNat) 1 ∧ S_X1_compare G (kl k) ((hG h x0 3).toNat) ((hG h x0 6).toNat) n h (fun z6 h7 => rg x1 ∧ ((x1 = 0 → rg z6 ∧ ((0 ≤ z6 → X3_takeDigit_w106 G k x0 x1 x2 0 n h7) ∧ (¬ 0 ≤ z6 → X3_takeDigit_w106 G k x0 x1 x2 1 n h7))) ∧ (¬ x1 = 0 → rg z6 ∧ ((0 < z6 → X3_takeDigit_w106 G k x0 x1 x2 0 n h7) ∧ (¬ 0 < z6 → X3_takeDigit_w106 G k x0 x1 x2 1 n h7)))))) : X3_takeDigit_w69 G k x0 x1 x2 n h := by
  subst hn0
  refine ww_aload_n C 0 0 rfl rfl dX3_takeDigit_69 ?_
  obtain ⟨p1, hy⟩ := hy
  obtain ⟨p2, hy⟩ := hy
  refine gf_X3_25 C dX3_takeDigit_70 p1 p2 ?_
  refine ww_aload_n C 0 0 rfl rfl dX3_takeDigit_73 ?_
  obtain ⟨p3, hy⟩ := hy
  obtain ⟨p4, hy⟩ := hy
  refine gf_X3_35 C dX3_takeDigit_74 p3 p4 ?_
  obtain ⟨p5, hy⟩ := hy
  refine cl_X3_98 C dX3_takeDigit_77 (Nat.le_of_ble_eq_true rfl) ⟨by decide, by decide⟩ ⟨by decide, by decide⟩ p5 ?_
  refine S_X1_compare.mono hy (fun z6 h7 hy => ?_)
  refine ww_istore_n C 3 rfl (by decide) rfl dX3_takeDigit_80 ?_
  refine ww_iload_n C 1 2 rfl rfl dX3_takeDigit_81 ?_
  obtain ⟨p8, hy⟩ := hy
  refine ww_if_eq C (tg := 97) dX3_takeDigit_82 (by decide) p8 (fun c9 => ?_) (fun c9 => ?_)
  · have hy := hy.1 c9
    refine ww_iload_n C 3 0 rfl rfl dX3_takeDigit_97 ?_
    obtain ⟨p10, hy⟩ := hy
    refine ww_if_ge C (tg := 105) dX3_takeDigit_98 (by decide) p10 (fun c11 => ?_) (fun c11 => ?_)
    · have hy := hy.1 c11
      refine ww_iconst C (z := 0) dX3_takeDigit_105 rfl ?_
      exact ww_sub [1, 2, 3] rfl (by decide) (by decide) hy
    · have hy := hy.2 c11
      refine ww_iconst C (z := 1) dX3_takeDigit_101 rfl ?_
      refine ww_goto C (tg := 106) dX3_takeDigit_102 (by decide) ?_
      exact ww_sub [1, 2, 3] rfl (by decide) (by decide) hy
  · have hy := hy.2 c9
    refine ww_iload_n C 3 0 rfl rfl dX3_takeDigit_85 ?_
    obtain ⟨p12, hy⟩ := hy
    refine ww_if_gt C (tg := 93) dX3_takeDigit_86 (by decide) p12 (fun c13 => ?_) (fun c13 => ?_)
    · have hy := hy.1 c13
      refine ww_iconst C (z := 0) dX3_takeDigit_93 rfl ?_
      refine ww_goto C (tg := 106) dX3_takeDigit_94 (by decide) ?_
      exact ww_sub [1, 2, 3] rfl (by decide) (by decide) hy
    · have hy := hy.2 c13
      refine ww_iconst C (z := 1) dX3_takeDigit_89 rfl ?_
      refine ww_goto C (tg := 106) dX3_takeDigit_90 (by decide) ?_
      exact ww_sub [1, 2, 3] rfl (by decide) (by decide) hy
set_option maxRecDepth 100000 in
set_option maxHeartbeats 4000000 in
theorem X3_takeDigit_b106 {G : xG} {k : xK} {n0 : Nat} {Po : Int → xH → Prop} (C : CC G k cX3_takeDigit RX3 7 rm_X3_takeDigit) (E : CQ G k (some .boolean) rm_X3_takeDigit (fun r n1 h1 => ∃ z : Int, r = some (.int (iz z)) ∧ n1 = n0 ∧ Po z h1)) (x0 : Nat) (x1 : Int) (x2 : Int) (s0 : Int) (n : Nat) (h : xH) (hn0 : n = n0) (hy : okO n h x0 3 ∧ S_X3_reachesWhole G (kl k) x0 x1 n h (fun z2 h3 => rg z2 ∧ ((z2 = 0 → X3_takeDigit_w137 G k x0 x2 s0 z2 n h3) ∧ (¬ z2 = 0 → rg s0 ∧ ((s0 = 0 → X3_takeDigit_w133 G k x0 x2 s0 z2 n h3) ∧ (¬ s0 = 0 → okO n h3 x0 3 ∧ S_X3_isNearerUp G (kl k) x0 x2 n h3 (fun z9 h10 => rg z9 ∧ ((z9 = 0 → X3_takeDigit_w137 G k x0 x2 s0 z2 n h10) ∧ (¬ z9 = 0 → X3_takeDigit_w133 G k x0 x2 s0 z2 n h10))))))))) : X3_takeDigit_w106 G k x0 x1 x2 s0 n h := by
  subst hn0
  refine ww_istore C 4 (by decide) rfl dX3_takeDigit_106 ?_
  refine ww_aload_n C 0 1 rfl rfl dX3_takeDigit_108 ?_
  refine ww_iload_n C 1 2 rfl rfl dX3_takeDigit_109 ?_
  obtain ⟨p1, hy⟩ := hy
  refine cl_X3_67 C dX3_takeDigit_110 (Nat.le_of_ble_eq_true rfl) ⟨by decide, by decide⟩ ⟨by decide, by decide⟩ p1 ?_
  refine S_X3_reachesWhole.mono hy (fun z2 h3 hy => ?_)
  refine ww_istore C 5 (by decide) rfl dX3_takeDigit_113 ?_
  refine ww_iload C 5 0 rfl dX3_takeDigit_115 ?_
  obtain ⟨p4, hy⟩ := hy
  refine ww_if_eq C (tg := 137) dX3_takeDigit_117 (by decide) p4 (fun c5 => ?_) (fun c5 => ?_)
  · have hy := hy.1 c5
    exact ww_sub [2, 4, 1, 0] rfl (by decide) (by decide) hy
  · have hy := hy.2 c5
    refine ww_iload C 4 1 rfl dX3_takeDigit_120 ?_
    obtain ⟨p6, hy⟩ := hy
    refine ww_if_eq C (tg := 133) dX3_takeDigit_122 (by decide) p6 (fun c7 => ?_) (fun c7 => ?_)
    · have hy := hy.1 c7
      exact ww_sub [2, 4, 1, 0] rfl (by decide) (by decide) hy
    · have hy := hy.2 c7
      refine ww_aload_n C 0 2 rfl rfl dX3_takeDigit_125 ?_
      refine ww_iload_n C 2 4 rfl rfl dX3_takeDigit_126 ?_
      obtain ⟨p8, hy⟩ := hy
      refine cl_X3_105 C dX3_takeDigit_127 (Nat.le_of_ble_eq_true rfl) ⟨by decide, by decide⟩ ⟨by decide, by decide⟩ p8 ?_
      refine S_X3_isNearerUp.mono hy (fun z9 h10 hy => ?_)
      obtain ⟨p11, hy⟩ := hy
      refine ww_if_eq C (tg := 137) dX3_takeDigit_130 (by decide) p11 (fun c12 => ?_) (fun c12 => ?_)
      · have hy := hy.1 c12
        exact ww_sub [2, 4, 1, 0] rfl (by decide) (by decide) hy
      · have hy := hy.2 c12
        exact ww_sub [2, 4, 1, 0] rfl (by decide) (by decide) hy
set_option maxRecDepth 100000 in
set_option maxHeartbeats 4000000 in
theorem X3_takeDigit_b137 {G : xG} {k : xK} {n0 : Nat} {Po : Int → xH → Prop} (C : CC G k cX3_takeDigit RX3 7 rm_X3_takeDigit) (E : CQ G k (some .boolean) rm_X3_takeDigit (fun r n1 h1 => ∃ z : Int, r = some (.int (iz z)) ∧ n1 = n0 ∧ Po z h1)) (x0 : Nat) (x2 : Int) (x4 : Int) (x5 : Int) (n : Nat) (h : xH) (hn0 : n = n0) (hy : X3_takeDigit_w138 G k x0 x2 x4 x5 0 n h) : X3_takeDigit_w137 G k x0 x2 x4 x5 n h := by
  subst hn0
  refine ww_iconst C (z := 0) dX3_takeDigit_137 rfl ?_
  exact ww_sub [0, 1, 2, 3] rfl (by decide) (by decide) hy
set_option maxRecDepth 100000 in
set_option maxHeartbeats 4000000 in
theorem X3_takeDigit_b133 {G : xG} {k : xK} {n0 : Nat} {Po : Int → xH → Prop} (C : CC G k cX3_takeDigit RX3 7 rm_X3_takeDigit) (E : CQ G k (some .boolean) rm_X3_takeDigit (fun r n1 h1 => ∃ z : Int, r = some (.int (iz z)) ∧ n1 = n0 ∧ Po z h1)) (x0 : Nat) (x2 : Int) (x4 : Int) (x5 : Int) (n : Nat) (h : xH) (hn0 : n = n0) (hy : X3_takeDigit_w138 G k x0 x2 x4 x5 1 n h) : X3_takeDigit_w133 G k x0 x2 x4 x5 n h := by
  subst hn0
  refine ww_iconst C (z := 1) dX3_takeDigit_133 rfl ?_
  refine ww_goto C (tg := 138) dX3_takeDigit_134 (by decide) ?_
  exact ww_sub [0, 1, 2, 3] rfl (by decide) (by decide) hy
set_option maxRecDepth 100000 in
set_option maxHeartbeats 4000000 in
theorem X3_takeDigit_b138 {G : xG} {k : xK} {n0 : Nat} {Po : Int → xH → Prop} (C : CC G k cX3_takeDigit RX3 7 rm_X3_takeDigit) (E : CQ G k (some .boolean) rm_X3_takeDigit (fun r n1 h1 => ∃ z : Int, r = some (.int (iz z)) ∧ n1 = n0 ∧ Po z h1)) (x0 : Nat) (x2 : Int) (x4 : Int) (x5 : Int) (s0 : Int) (n : Nat) (h : xH) (hn0 : n = n0) (hy : rg s0 ∧ ((s0 = 0 → X3_takeDigit_w153 G k x4 x5 x2 x0 n h) ∧ (¬ s0 = 0 → X3_takeDigit_w153 G k x4 x5 (x2 + 1) x0 n h))) : X3_takeDigit_w138 G k x0 x2 x4 x5 s0 n h := by
  subst hn0
  refine ww_istore C 6 (by decide) rfl dX3_takeDigit_138 ?_
  refine ww_aload_n C 0 1 rfl rfl dX3_takeDigit_140 ?_
  refine ww_iload C 6 0 rfl dX3_takeDigit_141 ?_
  obtain ⟨p1, hy⟩ := hy
  refine ww_if_eq C (tg := 152) dX3_takeDigit_143 (by decide) p1 (fun c2 => ?_) (fun c2 => ?_)
  · have hy := hy.1 c2
    refine ww_iload_n C 2 2 rfl rfl dX3_takeDigit_152 ?_
    exact ww_sub [3, 4] rfl (by decide) (by decide) hy
  · have hy := hy.2 c2
    refine ww_iload_n C 2 2 rfl rfl dX3_takeDigit_146 ?_
    refine ww_iconst C (z := 1) dX3_takeDigit_147 rfl ?_
    refine ww_iadd C dX3_takeDigit_148 ?_
    refine ww_goto C (tg := 153) dX3_takeDigit_149 (by decide) ?_
    exact ww_sub [3, 4] rfl (by decide) (by decide) hy
set_option maxRecDepth 100000 in
set_option maxHeartbeats 4000000 in
theorem X3_takeDigit_b153 {G : xG} {k : xK} {n0 : Nat} {Po : Int → xH → Prop} (C : CC G k cX3_takeDigit RX3 7 rm_X3_takeDigit) (E : CQ G k (some .boolean) rm_X3_takeDigit (fun r n1 h1 => ∃ z : Int, r = some (.int (iz z)) ∧ n1 = n0 ∧ Po z h1)) (x4 : Int) (x5 : Int) (s0 : Int) (s1 : Nat) (n : Nat) (h : xH) (hn0 : n = n0) (hy : okO n h s1 3 ∧ S_X3_append G (kl k) s1 s0 n h (fun h2 => rg x4 ∧ ((¬ x4 = 0 → X3_takeDigit_w166 G k  n h2) ∧ (x4 = 0 → rg x5 ∧ ((x5 = 0 → X3_takeDigit_w171 G k 0 n h2) ∧ (¬ x5 = 0 → X3_takeDigit_w166 G k  n h2)))))) : X3_takeDigit_w153 G k x4 x5 s0 s1 n h := by
  subst hn0
  obtain ⟨p1, hy⟩ := hy
  refine cl_X3_41 C dX3_takeDigit_153 (Nat.le_of_ble_eq_true rfl) ⟨by decide, by decide⟩ ⟨by decide, by decide⟩ p1 ?_
  refine S_X3_append.mono hy (fun h2 hy => ?_)
  refine ww_iload C 4 0 rfl dX3_takeDigit_156 ?_
  obtain ⟨p3, hy⟩ := hy
  refine ww_if_ne C (tg := 166) dX3_takeDigit_158 (by decide) p3 (fun c4 => ?_) (fun c4 => ?_)
  · have hy := hy.1 c4
    exact ww_sub [] rfl (by decide) (by decide) hy
  · have hy := hy.2 c4
    refine ww_iload C 5 1 rfl dX3_takeDigit_161 ?_
    obtain ⟨p5, hy⟩ := hy
    refine ww_if_eq C (tg := 170) dX3_takeDigit_163 (by decide) p5 (fun c6 => ?_) (fun c6 => ?_)
    · have hy := hy.1 c6
      refine ww_iconst C (z := 0) dX3_takeDigit_170 rfl ?_
      exact ww_sub [] rfl (by decide) (by decide) hy
    · have hy := hy.2 c6
      exact ww_sub [] rfl (by decide) (by decide) hy
set_option maxRecDepth 100000 in
set_option maxHeartbeats 4000000 in
theorem X3_takeDigit_b166 {G : xG} {k : xK} {n0 : Nat} {Po : Int → xH → Prop} (C : CC G k cX3_takeDigit RX3 7 rm_X3_takeDigit) (E : CQ G k (some .boolean) rm_X3_takeDigit (fun r n1 h1 => ∃ z : Int, r = some (.int (iz z)) ∧ n1 = n0 ∧ Po z h1))  (n : Nat) (h : xH) (hn0 : n = n0) (hy : X3_takeDigit_w171 G k 1 n h) : X3_takeDigit_w166 G k  n h := by
  subst hn0
  refine ww_iconst C (z := 1) dX3_takeDigit_166 rfl ?_
  refine ww_goto C (tg := 171) dX3_takeDigit_167 (by decide) ?_
  exact ww_sub [] rfl (by decide) (by decide) hy
set_option maxRecDepth 100000 in
set_option maxHeartbeats 4000000 in
theorem X3_takeDigit_b171 {G : xG} {k : xK} {n0 : Nat} {Po : Int → xH → Prop} (C : CC G k cX3_takeDigit RX3 7 rm_X3_takeDigit) (E : CQ G k (some .boolean) rm_X3_takeDigit (fun r n1 h1 => ∃ z : Int, r = some (.int (iz z)) ∧ n1 = n0 ∧ Po z h1)) (s0 : Int) (n : Nat) (h : xH) (hn0 : n = n0) (hy : (s0 = 0 ∨ s0 = 1) ∧ Po s0 h) : X3_takeDigit_w171 G k s0 n h := by
  subst hn0
  obtain ⟨p1, hy⟩ := hy
  exact ww_zret C E dX3_takeDigit_171 (nz_b p1) (by decide) (by decide) ⟨_, rfl, rfl, hy⟩
abbrev X3_find_w0 (G : xG) (k : xK) (x0 : Nat) (x1 : Int) (x2 : Int) (n : Nat) (h : xH) : Prop := WW G k 9 0 0 0 [(0, rf G x0), (1, .long (lz x1)), (3, .int (iz x2))] [] n h
abbrev X3_find_w35 (G : xG) (k : xK) (x0 : Nat) (x1 : Int) (x3 : Int) (s0 : Int) (n : Nat) (h : xH) : Prop := WW G k 9 0 0 35 [(0, rf G x0), (1, .long (lz x1)), (3, .int (iz x3))] [.int (iz s0)] n h
abbrev X3_find_w56 (G : xG) (k : xK) (x0 : Nat) (x1 : Int) (x3 : Int) (x4 : Int) (n : Nat) (h : xH) : Prop := WW G k 9 0 0 56 [(0, rf G x0), (1, .long (lz x1)), (3, .int (iz x3)), (4, .int (iz x4))] [] n h
abbrev X3_find_w57 (G : xG) (k : xK) (x0 : Nat) (x1 : Int) (x3 : Int) (x4 : Int) (s0 : Int) (n : Nat) (h : xH) : Prop := WW G k 9 0 0 57 [(0, rf G x0), (1, .long (lz x1)), (3, .int (iz x3)), (4, .int (iz x4))] [.int (iz s0)] n h
abbrev X3_find_w109 (G : xG) (k : xK) (x0 : Nat) (x4 : Int) (x7 : Int) (n : Nat) (h : xH) : Prop := WW G k 9 0 0 109 [(0, rf G x0), (4, .int (iz x4)), (7, .int (iz x7))] [] n h
abbrev X3_find_w150 (G : xG) (k : xK) (x0 : Nat) (x4 : Int) (n : Nat) (h : xH) : Prop := WW G k 9 0 0 150 [(0, rf G x0), (4, .int (iz x4))] [] n h
abbrev X3_find_w156 (G : xG) (k : xK) (x0 : Nat) (x4 : Int) (x7 : Int) (x8 : Int) (n : Nat) (h : xH) : Prop := WW G k 9 0 0 156 [(0, rf G x0), (4, .int (iz x4)), (7, .int (iz x7)), (8, .int (iz x8))] [] n h
abbrev X3_find_w182 (G : xG) (k : xK)  (n : Nat) (h : xH) : Prop := WW G k 9 0 0 182 [] [] n h
theorem S_X3_find_of {G : xG} {l : Launch} {x0 : Nat} {x1 : Int} {x2 : Int} {n : Nat} {h : xH} {Po : xH → Prop} (body : ∀ k : xK, kl k = l → CC G k cX3_find RX3 9 rm_X3_find → CQ G k none rm_X3_find (fun r n1 h1 => r = none ∧ n1 = n ∧ Po h1) → X3_find_w0 G k x0 x1 x2 n h) : S_X3_find G l x0 x1 x2 n h Po := xS_of (by decide +kernel) (Nat.le_of_ble_eq_true rfl) rfl (fun k hl hnm C E => body k hl C E)
set_option maxRecDepth 100000 in
set_option maxHeartbeats 4000000 in
theorem X3_find_b0 {G : xG} {k : xK} {n0 : Nat} {Po : xH → Prop} (C : CC G k cX3_find RX3 9 rm_X3_find) (E : CQ G k none rm_X3_find (fun r n1 h1 => r = none ∧ n1 = n0 ∧ Po h1)) (x0 : Nat) (x1 : Int) (x2 : Int) (n : Nat) (h : xH) (hn0 : n = n0) (hy : okO n h x0 3 ∧ (∀ h2 : xH, h2 = hS h x0 1 0 → (rgL x1 ∧ rgL 0) ∧ ((0 < (lC x1 0) → (rgL (lA x1 1) ∧ rgL 0) ∧ ((¬ (lC (lA x1 1) 0) = 0 → X3_find_w35 G k x0 x1 x2 0 n h2) ∧ ((lC (lA x1 1) 0) = 0 → X3_find_w35 G k x0 x1 x2 1 n h2))) ∧ (¬ 0 < (lC x1 0) → okO n h2 x0 3 ∧ S_X3_append G (kl k) x0 0 n h2 (fun h10 => okO n h10 x0 3 ∧ (∀ h12 : xH, h12 = hS h10 x0 2 1 → Po h12)))))) : X3_find_w0 G k x0 x1 x2 n h := by
  subst hn0
  refine ww_aload_n C 0 0 rfl rfl dX3_find_0 ?_
  refine ww_iconst C (z := 0) dX3_find_1 rfl ?_
  obtain ⟨p1, hy⟩ := hy
  have hy := hy _ rfl
  refine pf_X3_15I C dX3_find_2 p1 ?_
  refine ww_lload_n C 1 1 rfl rfl dX3_find_5 ?_
  refine ww_lconst C (z := 0) dX3_find_6 rfl ?_
  obtain ⟨p3, hy⟩ := hy
  refine ww_lcmp C dX3_find_7 p3.1 p3.2 ?_
  refine ww_if_gt C (tg := 22) dX3_find_8 (by decide) (rg_lC _ _) (fun c5 => ?_) (fun c5 => ?_)
  · have hy := hy.1 c5
    refine ww_lload_n C 1 1 rfl rfl dX3_find_22 ?_
    refine ww_lconst C (z := 1) dX3_find_23 rfl ?_
    refine ww_land C dX3_find_24 ?_
    refine ww_lconst C (z := 0) dX3_find_25 rfl ?_
    obtain ⟨p6, hy⟩ := hy
    refine ww_lcmp C dX3_find_26 p6.1 p6.2 ?_
    refine ww_if_ne C (tg := 34) dX3_find_27 (by decide) (rg_lC _ _) (fun c8 => ?_) (fun c8 => ?_)
    · have hy := hy.1 c8
      refine ww_iconst C (z := 0) dX3_find_34 rfl ?_
      exact ww_sub [0, 1, 2] rfl (by decide) (by decide) hy
    · have hy := hy.2 c8
      refine ww_iconst C (z := 1) dX3_find_30 rfl ?_
      refine ww_goto C (tg := 35) dX3_find_31 (by decide) ?_
      exact ww_sub [0, 1, 2] rfl (by decide) (by decide) hy
  · have hy := hy.2 c5
    refine ww_aload_n C 0 0 rfl rfl dX3_find_11 ?_
    refine ww_iconst C (z := 0) dX3_find_12 rfl ?_
    obtain ⟨p9, hy⟩ := hy
    refine cl_X3_41 C dX3_find_13 (Nat.le_of_ble_eq_true rfl) ⟨by decide, by decide⟩ ⟨by decide, by decide⟩ p9 ?_
    refine S_X3_append.mono hy (fun h10 hy => ?_)
    refine ww_aload_n C 0 0 rfl rfl dX3_find_16 ?_
    refine ww_iconst C (z := 1) dX3_find_17 rfl ?_
    obtain ⟨p11, hy⟩ := hy
    have hy := hy _ rfl
    refine pf_X3_19I C dX3_find_18 p11 ?_
    exact ww_vret C E dX3_find_21 (by decide) (by decide) ⟨rfl, rfl, hy⟩
set_option maxRecDepth 100000 in
set_option maxHeartbeats 4000000 in
theorem X3_find_b35 {G : xG} {k : xK} {n0 : Nat} {Po : xH → Prop} (C : CC G k cX3_find RX3 9 rm_X3_find) (E : CQ G k none rm_X3_find (fun r n1 h1 => r = none ∧ n1 = n0 ∧ Po h1)) (x0 : Nat) (x1 : Int) (x3 : Int) (s0 : Int) (n : Nat) (h : xH) (hn0 : n = n0) (hy : (rgL x1 ∧ rgL 4503599627370496) ∧ ((¬ (lC x1 4503599627370496) = 0 → X3_find_w56 G k x0 x1 x3 s0 n h) ∧ ((lC x1 4503599627370496) = 0 → (rg x3 ∧ rg (-1074 : Int)) ∧ ((x3 ≤ (-1074 : Int) → X3_find_w56 G k x0 x1 x3 s0 n h) ∧ (¬ x3 ≤ (-1074 : Int) → X3_find_w57 G k x0 x1 x3 s0 1 n h))))) : X3_find_w35 G k x0 x1 x3 s0 n h := by
  subst hn0
  refine ww_istore C 4 (by decide) rfl dX3_find_35 ?_
  refine ww_lload_n C 1 2 rfl rfl dX3_find_37 ?_
  refine ww_ldc2 C (z := 4503599627370496) q_266 dX3_find_38 ?_
  obtain ⟨p1, hy⟩ := hy
  refine ww_lcmp C dX3_find_41 p1.1 p1.2 ?_
  refine ww_if_ne C (tg := 56) dX3_find_42 (by decide) (rg_lC _ _) (fun c3 => ?_) (fun c3 => ?_)
  · have hy := hy.1 c3
    exact ww_sub [1, 2, 3, 0] rfl (by decide) (by decide) hy
  · have hy := hy.2 c3
    refine ww_iload_n C 3 3 rfl rfl dX3_find_45 ?_
    refine ww_sipush C (z := (-1074)) dX3_find_46 rfl ?_
    obtain ⟨p4, hy⟩ := hy
    refine ww_icmp_le C (tg := 56) dX3_find_49 (by decide) p4.1 p4.2 (fun c5 => ?_) (fun c5 => ?_)
    · have hy := hy.1 c5
      exact ww_sub [1, 2, 3, 0] rfl (by decide) (by decide) hy
    · have hy := hy.2 c5
      refine ww_iconst C (z := 1) dX3_find_52 rfl ?_
      refine ww_goto C (tg := 57) dX3_find_53 (by decide) ?_
      exact ww_sub [1, 2, 3, 0] rfl (by decide) (by decide) hy
set_option maxRecDepth 100000 in
set_option maxHeartbeats 4000000 in
theorem X3_find_b56 {G : xG} {k : xK} {n0 : Nat} {Po : xH → Prop} (C : CC G k cX3_find RX3 9 rm_X3_find) (E : CQ G k none rm_X3_find (fun r n1 h1 => r = none ∧ n1 = n0 ∧ Po h1)) (x0 : Nat) (x1 : Int) (x3 : Int) (x4 : Int) (n : Nat) (h : xH) (hn0 : n = n0) (hy : X3_find_w57 G k x0 x1 x3 x4 0 n h) : X3_find_w56 G k x0 x1 x3 x4 n h := by
  subst hn0
  refine ww_iconst C (z := 0) dX3_find_56 rfl ?_
  exact ww_sub [0, 1, 2, 3] rfl (by decide) (by decide) hy
set_option maxRecDepth 100000 in
set_option maxHeartbeats 4000000 in
theorem X3_find_b57 {G : xG} {k : xK} {n0 : Nat} {Po : xH → Prop} (C : CC G k cX3_find RX3 9 rm_X3_find) (E : CQ G k none rm_X3_find (fun r n1 h1 => r = none ∧ n1 = n0 ∧ Po h1)) (x0 : Nat) (x1 : Int) (x3 : Int) (x4 : Int) (s0 : Int) (n : Nat) (h : xH) (hn0 : n = n0) (hy : S_J13_numberOfLeadingZeros_95d88 G (kl k) x1 n h (fun z1 h2 => S_J9_floorDiv_7cf53 G (kl k) ((((64 - z1) + x3) - 1) * 30103) 100000 n h2 (fun z3 h4 => okO n h4 x0 3 ∧ (∀ h6 : xH, h6 = hS h4 x0 2 (z3 + 1) → okO n h6 x0 3 ∧ okO n h6 x0 3 ∧ S_X3_setUp G (kl k) x0 x1 (x3 - (hG h6 x0 2)) s0 n h6 (fun h9 => okO n h9 x0 3 ∧ S_X3_scaleByFives G (kl k) x0 n h9 (fun h11 => X3_find_w109 G k x0 x4 0 n h11)))))) : X3_find_w57 G k x0 x1 x3 x4 s0 n h := by
  subst hn0
  refine ww_istore C 5 (by decide) rfl dX3_find_57 ?_
  refine ww_bipush C (z := 64) dX3_find_59 rfl ?_
  refine ww_lload_n C 1 2 rfl rfl dX3_find_61 ?_
  refine cl_X3_47 C dX3_find_62 (Nat.le_of_ble_eq_true rfl) ⟨by decide, by decide⟩ ⟨by decide, by decide⟩ ?_
  refine S_J13_numberOfLeadingZeros_95d88.mono hy (fun z1 h2 hy => ?_)
  refine ww_isub C dX3_find_65 ?_
  refine ww_iload_n C 3 3 rfl rfl dX3_find_66 ?_
  refine ww_iadd C dX3_find_67 ?_
  refine ww_istore C 6 (by decide) rfl dX3_find_68 ?_
  refine ww_aload_n C 0 2 rfl rfl dX3_find_70 ?_
  refine ww_iload C 6 0 rfl dX3_find_71 ?_
  refine ww_iconst C (z := 1) dX3_find_73 rfl ?_
  refine ww_isub C dX3_find_74 ?_
  refine ww_sipush C (z := 30103) dX3_find_75 rfl ?_
  refine ww_imul C dX3_find_78 ?_
  refine ww_ldc C (z := 100000) q_271 dX3_find_79 ?_
  refine cl_X3_54 C dX3_find_81 (Nat.le_of_ble_eq_true rfl) ⟨by decide, by decide⟩ ⟨by decide, by decide⟩ ?_
  refine S_J9_floorDiv_7cf53.mono hy (fun z3 h4 hy => ?_)
  refine ww_iconst C (z := 1) dX3_find_84 rfl ?_
  refine ww_iadd C dX3_find_85 ?_
  obtain ⟨p5, hy⟩ := hy
  have hy := hy _ rfl
  refine pf_X3_19I C dX3_find_86 p5 ?_
  refine ww_aload_n C 0 2 rfl rfl dX3_find_89 ?_
  refine ww_lload_n C 1 3 rfl rfl dX3_find_90 ?_
  refine ww_iload_n C 3 4 rfl rfl dX3_find_91 ?_
  refine ww_aload_n C 0 2 rfl rfl dX3_find_92 ?_
  obtain ⟨p7, hy⟩ := hy
  refine gf_X3_19 C dX3_find_93 p7 ?_
  refine ww_isub C dX3_find_96 ?_
  refine ww_iload C 5 1 rfl dX3_find_97 ?_
  obtain ⟨p8, hy⟩ := hy
  refine cl_X3_60 C dX3_find_99 (Nat.le_of_ble_eq_true rfl) ⟨by decide, by decide⟩ ⟨by decide, by decide⟩ p8 ?_
  refine S_X3_setUp.mono hy (fun h9 hy => ?_)
  refine ww_aload_n C 0 2 rfl rfl dX3_find_102 ?_
  obtain ⟨p10, hy⟩ := hy
  refine cl_X3_64 C dX3_find_103 (Nat.le_of_ble_eq_true rfl) ⟨by decide, by decide⟩ ⟨by decide, by decide⟩ p10 ?_
  refine S_X3_scaleByFives.mono hy (fun h11 hy => ?_)
  refine ww_iconst C (z := 0) dX3_find_106 rfl ?_
  refine ww_istore C 7 (by decide) rfl dX3_find_107 ?_
  exact ww_sub [3, 6, 0] rfl (by decide) (by decide) hy
set_option maxRecDepth 100000 in
set_option maxHeartbeats 4000000 in
theorem X3_find_b109 {G : xG} {k : xK} {n0 : Nat} {Po : xH → Prop} (C : CC G k cX3_find RX3 9 rm_X3_find) (E : CQ G k none rm_X3_find (fun r n1 h1 => r = none ∧ n1 = n0 ∧ Po h1)) (x0 : Nat) (x4 : Int) (x7 : Int) (n : Nat) (h : xH) (hn0 : n = n0) (hy : (rg x7 ∧ rg (3 : Int)) ∧ (((3 : Int) ≤ x7 → X3_find_w150 G k x0 x4 n h) ∧ (¬ (3 : Int) ≤ x7 → okO n h x0 3 ∧ S_X3_reachesWhole G (kl k) x0 x4 n h (fun z4 h5 => rg z4 ∧ ((z4 = 0 → X3_find_w150 G k x0 x4 n h5) ∧ (¬ z4 = 0 → okO n h5 x0 3 ∧ 0 ≤ hG h5 x0 4 ∧ okO n h5 ((hG h5 x0 4).toNat) 1 ∧ S_X1_multiplyAdd G (kl k) ((hG h5 x0 4).toNat) 10 0 n h5 (fun h11 => okO n h11 x0 3 ∧ okO n h11 x0 3 ∧ (∀ h14 : xH, h14 = hS h11 x0 2 ((hG h11 x0 2) + 1) → X3_find_w109 G k x0 x4 (x7 + 1) n h14)))))))) : X3_find_w109 G k x0 x4 x7 n h := by
  subst hn0
  refine ww_iload C 7 2 rfl dX3_find_109 ?_
  refine ww_iconst C (z := 3) dX3_find_111 rfl ?_
  obtain ⟨p1, hy⟩ := hy
  refine ww_icmp_ge C (tg := 150) dX3_find_112 (by decide) p1.1 p1.2 (fun c2 => ?_) (fun c2 => ?_)
  · have hy := hy.1 c2
    exact ww_sub [0, 1] rfl (by decide) (by decide) hy
  · have hy := hy.2 c2
    refine ww_aload_n C 0 0 rfl rfl dX3_find_115 ?_
    refine ww_iload C 4 1 rfl dX3_find_116 ?_
    obtain ⟨p3, hy⟩ := hy
    refine cl_X3_67 C dX3_find_118 (Nat.le_of_ble_eq_true rfl) ⟨by decide, by decide⟩ ⟨by decide, by decide⟩ p3 ?_
    refine S_X3_reachesWhole.mono hy (fun z4 h5 hy => ?_)
    obtain ⟨p6, hy⟩ := hy
    refine ww_if_eq C (tg := 150) dX3_find_121 (by decide) p6 (fun c7 => ?_) (fun c7 => ?_)
    · have hy := hy.1 c7
      exact ww_sub [0, 1] rfl (by decide) (by decide) hy
    · have hy := hy.2 c7
      refine ww_aload_n C 0 0 rfl rfl dX3_find_124 ?_
      obtain ⟨p8, hy⟩ := hy
      obtain ⟨p9, hy⟩ := hy
      refine gf_X3_29 C dX3_find_125 p8 p9 ?_
      refine ww_bipush C (z := 10) dX3_find_128 rfl ?_
      refine ww_iconst C (z := 0) dX3_find_130 rfl ?_
      obtain ⟨p10, hy⟩ := hy
      refine cl_X3_71 C dX3_find_131 (Nat.le_of_ble_eq_true rfl) ⟨by decide, by decide⟩ ⟨by decide, by decide⟩ p10 ?_
      refine S_X1_multiplyAdd.mono hy (fun h11 hy => ?_)
      refine ww_aload_n C 0 0 rfl rfl dX3_find_134 ?_
      refine ww_dup C rfl dX3_find_135 ?_
      obtain ⟨p12, hy⟩ := hy
      refine gf_X3_19 C dX3_find_136 p12 ?_
      refine ww_iconst C (z := 1) dX3_find_139 rfl ?_
      refine ww_iadd C dX3_find_140 ?_
      obtain ⟨p13, hy⟩ := hy
      have hy := hy _ rfl
      refine pf_X3_19I C dX3_find_141 p13 ?_
      refine ww_iinc C 7 2 rfl (by decide) rfl dX3_find_144 ?_
      refine ww_goto C (tg := 109) dX3_find_147 (by decide) ?_
      exact ww_sub [1, 2, 0] rfl (by decide) (by decide) hy
set_option maxRecDepth 100000 in
set_option maxHeartbeats 4000000 in
theorem X3_find_b150 {G : xG} {k : xK} {n0 : Nat} {Po : xH → Prop} (C : CC G k cX3_find RX3 9 rm_X3_find) (E : CQ G k none rm_X3_find (fun r n1 h1 => r = none ∧ n1 = n0 ∧ Po h1)) (x0 : Nat) (x4 : Int) (n : Nat) (h : xH) (hn0 : n = n0) (hy : X3_find_w156 G k x0 x4 0 0 n h) : X3_find_w150 G k x0 x4 n h := by
  subst hn0
  refine ww_iconst C (z := 0) dX3_find_150 rfl ?_
  refine ww_istore C 7 (by decide) rfl dX3_find_151 ?_
  refine ww_iconst C (z := 0) dX3_find_153 rfl ?_
  refine ww_istore C 8 (by decide) rfl dX3_find_154 ?_
  exact ww_sub [2, 3, 1, 0] rfl (by decide) (by decide) hy
set_option maxRecDepth 100000 in
set_option maxHeartbeats 4000000 in
theorem X3_find_b156 {G : xG} {k : xK} {n0 : Nat} {Po : xH → Prop} (C : CC G k cX3_find RX3 9 rm_X3_find) (E : CQ G k none rm_X3_find (fun r n1 h1 => r = none ∧ n1 = n0 ∧ Po h1)) (x0 : Nat) (x4 : Int) (x7 : Int) (x8 : Int) (n : Nat) (h : xH) (hn0 : n = n0) (hy : (rg x8 ∧ rg (20 : Int)) ∧ (((20 : Int) ≤ x8 → X3_find_w182 G k  n h) ∧ (¬ (20 : Int) ≤ x8 → rg x7 ∧ ((¬ x7 = 0 → X3_find_w182 G k  n h) ∧ (x7 = 0 → okO n h x0 3 ∧ S_X3_takeDigit G (kl k) x0 x4 n h (fun z6 h7 => X3_find_w156 G k x0 x4 z6 (x8 + 1) n h7)))))) : X3_find_w156 G k x0 x4 x7 x8 n h := by
  subst hn0
  refine ww_iload C 8 3 rfl dX3_find_156 ?_
  refine ww_bipush C (z := 20) dX3_find_158 rfl ?_
  obtain ⟨p1, hy⟩ := hy
  refine ww_icmp_ge C (tg := 182) dX3_find_160 (by decide) p1.1 p1.2 (fun c2 => ?_) (fun c2 => ?_)
  · have hy := hy.1 c2
    exact ww_sub [] rfl (by decide) (by decide) hy
  · have hy := hy.2 c2
    refine ww_iload C 7 2 rfl dX3_find_163 ?_
    obtain ⟨p3, hy⟩ := hy
    refine ww_if_ne C (tg := 182) dX3_find_165 (by decide) p3 (fun c4 => ?_) (fun c4 => ?_)
    · have hy := hy.1 c4
      exact ww_sub [] rfl (by decide) (by decide) hy
    · have hy := hy.2 c4
      refine ww_aload_n C 0 0 rfl rfl dX3_find_168 ?_
      refine ww_iload C 4 1 rfl dX3_find_169 ?_
      obtain ⟨p5, hy⟩ := hy
      refine cl_X3_75 C dX3_find_171 (Nat.le_of_ble_eq_true rfl) ⟨by decide, by decide⟩ ⟨by decide, by decide⟩ p5 ?_
      refine S_X3_takeDigit.mono hy (fun z6 h7 hy => ?_)
      refine ww_istore C 7 (by decide) rfl dX3_find_174 ?_
      refine ww_iinc C 8 3 rfl (by decide) rfl dX3_find_176 ?_
      refine ww_goto C (tg := 156) dX3_find_179 (by decide) ?_
      exact ww_sub [2, 3, 1, 0] rfl (by decide) (by decide) hy
set_option maxRecDepth 100000 in
set_option maxHeartbeats 4000000 in
theorem X3_find_b182 {G : xG} {k : xK} {n0 : Nat} {Po : xH → Prop} (C : CC G k cX3_find RX3 9 rm_X3_find) (E : CQ G k none rm_X3_find (fun r n1 h1 => r = none ∧ n1 = n0 ∧ Po h1))  (n : Nat) (h : xH) (hn0 : n = n0) (hy : Po h) : X3_find_w182 G k  n h := by
  subst hn0
  exact ww_vret C E dX3_find_182 (by decide) (by decide) ⟨rfl, rfl, hy⟩
