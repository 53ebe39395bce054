abbrev X0_init_w0 (G : xG) (k : xK) (x0 : Nat) (n : Nat) (h : xH) : Prop := WW G k 1 0 0 0 [(0, rf G x0)] [] n h
theorem S_X0_init_of {G : xG} {l : Launch} {x0 : Nat} {n : Nat} {h : xH} {Po : Nat → xH → Prop} (body : ∀ k : xK, kl k = l → (kt k).name = "<init>" → CC G k cX0_init RX0 1 rm_X0_init → CQ G k none rm_X0_init (fun r n1 h1 => r = none ∧ Po n1 h1) → X0_init_w0 G k x0 n h) : S_X0_init G l x0 n h Po := xS_of (by decide +kernel) (Nat.le_of_ble_eq_true rfl) rfl (fun k hl hnm C E => body k hl hnm C E)
set_option maxRecDepth 100000 in
set_option maxHeartbeats 4000000 in
theorem X0_init_b0 {G : xG} {k : xK} {n0 : Nat} {Po : Nat → xH → Prop} (C : CC G k cX0_init RX0 1 rm_X0_init) (E : CQ G k none rm_X0_init (fun r n1 h1 => r = none ∧ Po n1 h1)) (hin : (kt k).name = "<init>") (x0 : Nat) (n : Nat) (h : xH) (hy : (0 ≤ (400 : Int) ∧ (400 : Int) ≤ 400) ∧ (∀ h2 : xH, h2 = hN h n (101, 400, fun _ => 0) → okO (n + 1) h2 x0 0 ∧ (∀ h4 : xH, h4 = hS h2 x0 0 ((n : Nat) : Int) → okO (n + 1) h4 x0 0 ∧ (∀ h6 : xH, h6 = hS h4 x0 1 0 → Po (n + 1) h6)))) : X0_init_w0 G k x0 n h := by
  refine ww_aload_n C 0 0 rfl rfl dX0_init_0 ?_
  refine ww_objInit C q_51 q_52 q_53 dX0_init_1 (by decide) (by decide) ?_
  refine ww_aload_n C 0 0 rfl rfl dX0_init_4 ?_
  refine ww_sipush C (z := 400) dX0_init_5 rfl ?_
  obtain ⟨p1, hy⟩ := hy
  refine ww_newB C (B := 400) q_54 dX0_init_8 p1.1 p1.2 (by decide) (by decide) (by decide) ?_
  have hy := hy _ rfl
  obtain ⟨p3, hy⟩ := hy
  have hy := hy _ rfl
  refine pf_X0_11R C dX0_init_10 p3 ?_
  refine ww_aload_n C 0 0 rfl rfl dX0_init_13 ?_
  refine ww_iconst C (z := 0) dX0_init_14 rfl ?_
  obtain ⟨p5, hy⟩ := hy
  have hy := hy _ rfl
  refine pf_X0_15I C dX0_init_15 p5 ?_
  exact ww_vret C E dX0_init_18 (by decide) (by decide) ⟨rfl, hy⟩
abbrev X0_size_w0 (G : xG) (k : xK) (x0 : Nat) (n : Nat) (h : xH) : Prop := WW G k 1 0 0 0 [(0, rf G x0)] [] n h
theorem S_X0_size_of {G : xG} {l : Launch} {x0 : Nat} {n : Nat} {h : xH} {Po : Int → xH → Prop} (body : ∀ k : xK, kl k = l → CC G k cX0_size RX0 1 rm_X0_size → CQ G k (some .int) rm_X0_size (fun r n1 h1 => ∃ z : Int, r = some (.int (iz z)) ∧ n1 = n ∧ Po z h1) → X0_size_w0 G k x0 n h) : S_X0_size G l x0 n h Po := xS_of (by decide +kernel) (Nat.le_of_ble_eq_true rfl) rfl (fun k hl hnm C E => body k hl C E)
set_option maxRecDepth 100000 in
set_option maxHeartbeats 4000000 in
theorem X0_size_b0 {G : xG} {k : xK} {n0 : Nat} {Po : Int → xH → Prop} (C : CC G k cX0_size RX0 1 rm_X0_size) (E : CQ G k (some .int) rm_X0_size (fun r n1 h1 => ∃ z : Int, r = some (.int (iz z)) ∧ n1 = n0 ∧ Po z h1)) (x0 : Nat) (n : Nat) (h : xH) (hn0 : n = n0) (hy : okO n h x0 0 ∧ Po (hG h x0 1) h) : X0_size_w0 G k x0 n h := by
  subst hn0
  refine ww_aload_n C 0 0 rfl rfl dX0_size_0 ?_
  obtain ⟨p1, hy⟩ := hy
  refine gf_X0_15 C dX0_size_1 p1 ?_
  exact ww_iret C E dX0_size_4 (by decide) (by decide) ⟨_, rfl, rfl, hy⟩
abbrev X0_codeAt_w0 (G : xG) (k : xK) (x0 : Nat) (x1 : Int) (n : Nat) (h : xH) : Prop := WW G k 2 0 0 0 [(0, rf G x0), (1, .int (iz x1))] [] n h
abbrev X0_codeAt_w21 (G : xG) (k : xK)  (n : Nat) (h : xH) : Prop := WW G k 2 0 0 21 [] [] n h
abbrev X0_codeAt_w22 (G : xG) (k : xK) (s0 : Int) (n : Nat) (h : xH) : Prop := WW G k 2 0 0 22 [] [.int (iz s0)] n h
theorem S_X0_codeAt_of {G : xG} {l : Launch} {x0 : Nat} {x1 : Int} {n : Nat} {h : xH} {Po : Int → xH → Prop} (body : ∀ k : xK, kl k = l → CC G k cX0_codeAt RX0 2 rm_X0_codeAt → CQ G k (some .int) rm_X0_codeAt (fun r n1 h1 => ∃ z : Int, r = some (.int (iz z)) ∧ n1 = n ∧ Po z h1) → X0_codeAt_w0 G k x0 x1 n h) : S_X0_codeAt G l x0 x1 n h Po := xS_of (by decide +kernel) (Nat.le_of_ble_eq_true rfl) rfl (fun k hl hnm C E => body k hl C E)
set_option maxRecDepth 100000 in
set_option maxHeartbeats 4000000 in
theorem X0_codeAt_b0 {G : xG} {k : xK} {n0 : Nat} {Po : Int → xH → Prop} (C : CC G k cX0_codeAt RX0 2 rm_X0_codeAt) (E : CQ G k (some .int) rm_X0_codeAt (fun r n1 h1 => ∃ z : Int, r = some (.int (iz z)) ∧ n1 = n0 ∧ Po z h1)) (x0 : Nat) (x1 : Int) (n : Nat) (h : xH) (hn0 : n = n0) (hy : rg x1 ∧ ((x1 < 0 → X0_codeAt_w21 G k  n h) ∧ (¬ x1 < 0 → okO n h x0 0 ∧ (rg x1 ∧ rg (hG h x0 1)) ∧ (((hG h x0 1) ≤ x1 → X0_codeAt_w21 G k  n h) ∧ (¬ (hG h x0 1) ≤ x1 → okO n h x0 0 ∧ 0 ≤ hG h x0 0 ∧ okA n h ((hG h x0 0).toNat) 101 x1 ∧ X0_codeAt_w22 G k (hG h ((hG h x0 0).toNat) (x1.toNat)) n h))))) : X0_codeAt_w0 G k x0 x1 n h := by
  subst hn0
  refine ww_iload_n C 1 1 rfl rfl dX0_codeAt_0 ?_
  obtain ⟨p1, hy⟩ := hy
  refine ww_if_lt C (tg := 21) dX0_codeAt_1 (by decide) p1 (fun c2 => ?_) (fun c2 => ?_)
  · have hy := hy.1 c2
    exact ww_sub [] rfl (by decide) (by decide) hy
  · have hy := hy.2 c2
    refine ww_iload_n C 1 1 rfl rfl dX0_codeAt_4 ?_
    refine ww_aload_n C 0 0 rfl rfl dX0_codeAt_5 ?_
    obtain ⟨p3, hy⟩ := hy
    refine gf_X0_15 C dX0_codeAt_6 p3 ?_
    obtain ⟨p4, hy⟩ := hy
    refine ww_icmp_ge C (tg := 21) dX0_codeAt_9 (by decide) p4.1 p4.2 (fun c5 => ?_) (fun c5 => ?_)
    · have hy := hy.1 c5
      exact ww_sub [] rfl (by decide) (by decide) hy
    · have hy := hy.2 c5
      refine ww_aload_n C 0 0 rfl rfl dX0_codeAt_12 ?_
      obtain ⟨p6, hy⟩ := hy
      obtain ⟨p7, hy⟩ := hy
      refine gf_X0_11 C dX0_codeAt_13 p6 p7 ?_
      refine ww_iload_n C 1 1 rfl rfl dX0_codeAt_16 ?_
      obtain ⟨p8, hy⟩ := hy
      refine ww_bald C dX0_codeAt_17 p8 ?_
      refine ww_goto C (tg := 22) dX0_codeAt_18 (by decide) ?_
      exact ww_sub [] rfl (by decide) (by decide) hy
set_option maxRecDepth 100000 in
set_option maxHeartbeats 4000000 in
theorem X0_codeAt_b21 {G : xG} {k : xK} {n0 : Nat} {Po : Int → xH → Prop} (C : CC G k cX0_codeAt RX0 2 rm_X0_codeAt) (E : CQ G k (some .int) rm_X0_codeAt (fun r n1 h1 => ∃ z : Int, r = some (.int (iz z)) ∧ n1 = n0 ∧ Po z h1))  (n : Nat) (h : xH) (hn0 : n = n0) (hy : X0_codeAt_w22 G k (-1) n h) : X0_codeAt_w21 G k  n h := by
  subst hn0
  refine ww_iconst C (z := (-1)) dX0_codeAt_21 rfl ?_
  exact ww_sub [] rfl (by decide) (by decide) hy
set_option maxRecDepth 100000 in
set_option maxHeartbeats 4000000 in
theorem X0_codeAt_b22 {G : xG} {k : xK} {n0 : Nat} {Po : Int → xH → Prop} (C : CC G k cX0_codeAt RX0 2 rm_X0_codeAt) (E : CQ G k (some .int) rm_X0_codeAt (fun r n1 h1 => ∃ z : Int, r = some (.int (iz z)) ∧ n1 = n0 ∧ Po z h1)) (s0 : Int) (n : Nat) (h : xH) (hn0 : n = n0) (hy : Po s0 h) : X0_codeAt_w22 G k s0 n h := by
  subst hn0
  exact ww_iret C E dX0_codeAt_22 (by decide) (by decide) ⟨_, rfl, rfl, hy⟩
abbrev X0_empty_w0 (G : xG) (k : xK) (x0 : Nat) (n : Nat) (h : xH) : Prop := WW G k 1 0 0 0 [(0, rf G x0)] [] n h
theorem S_X0_empty_of {G : xG} {l : Launch} {x0 : Nat} {n : Nat} {h : xH} {Po : xH → Prop} (body : ∀ k : xK, kl k = l → CC G k cX0_empty RX0 1 rm_X0_empty → CQ G k none rm_X0_empty (fun r n1 h1 => r = none ∧ n1 = n ∧ Po h1) → X0_empty_w0 G k x0 n h) : S_X0_empty G l x0 n h Po := xS_of (by decide +kernel) (Nat.le_of_ble_eq_true rfl) rfl (fun k hl hnm C E => body k hl C E)
set_option maxRecDepth 100000 in
set_option maxHeartbeats 4000000 in
theorem X0_empty_b0 {G : xG} {k : xK} {n0 : Nat} {Po : xH → Prop} (C : CC G k cX0_empty RX0 1 rm_X0_empty) (E : CQ G k none rm_X0_empty (fun r n1 h1 => r = none ∧ n1 = n0 ∧ Po h1)) (x0 : Nat) (n : Nat) (h : xH) (hn0 : n = n0) (hy : okO n h x0 0 ∧ (∀ h2 : xH, h2 = hS h x0 1 0 → Po h2)) : X0_empty_w0 G k x0 n h := by
  subst hn0
  refine ww_aload_n C 0 0 rfl rfl dX0_empty_0 ?_
  refine ww_iconst C (z := 0) dX0_empty_1 rfl ?_
  obtain ⟨p1, hy⟩ := hy
  have hy := hy _ rfl
  refine pf_X0_15I C dX0_empty_2 p1 ?_
  exact ww_vret C E dX0_empty_5 (by decide) (by decide) ⟨rfl, rfl, hy⟩
abbrev X0_makeRoom_w0 (G : xG) (k : xK) (x0 : Nat) (x1 : Int) (n : Nat) (h : xH) : Prop := WW G k 2 0 0 0 [(0, rf G x0), (1, .int (iz x1))] [] n h
abbrev X0_makeRoom_w21 (G : xG) (k : xK)  (n : Nat) (h : xH) : Prop := WW G k 2 1 8226 21 [] [] n h
theorem S_X0_makeRoom_of {G : xG} {l : Launch} {x0 : Nat} {x1 : Int} {n : Nat} {h : xH} {Po : Nat → xH → Prop} (body : ∀ k : xK, kl k = l → CC G k cX0_makeRoom RX0 2 rm_X0_makeRoom → CQ G k none rm_X0_makeRoom (fun r n1 h1 => r = none ∧ Po n1 h1) → X0_makeRoom_w0 G k x0 x1 n h) : S_X0_makeRoom G l x0 x1 n h Po := xS_of (by decide +kernel) (Nat.le_of_ble_eq_true rfl) rfl (fun k hl hnm C E => body k hl C E)
set_option maxRecDepth 100000 in
set_option maxHeartbeats 4000000 in
theorem X0_makeRoom_b0 {G : xG} {k : xK} {n0 : Nat} {Po : Nat → xH → Prop} (C : CC G k cX0_makeRoom RX0 2 rm_X0_makeRoom) (E : CQ G k none rm_X0_makeRoom (fun r n1 h1 => r = none ∧ Po n1 h1)) (x0 : Nat) (x1 : Int) (n : Nat) (h : xH) (hy : okO n h x0 0 ∧ 0 ≤ hG h x0 0 ∧ (((hG h x0 0).toNat) < n ∧ ((h ((hG h x0 0).toNat)).1 = 100 ∨ (h ((hG h x0 0).toNat)).1 = 101)) ∧ (rg (x1 + 34) ∧ rg ((h ((hG h x0 0).toNat)).2.1 : Int)) ∧ (((x1 + 34) ≤ ((h ((hG h x0 0).toNat)).2.1 : Int) → X0_makeRoom_w21 G k  n h) ∧ (¬ (x1 + 34) ≤ ((h ((hG h x0 0).toNat)).2.1 : Int) → (0 ≤ (8226 : Int) ∧ (8226 : Int) ≤ 8226) ∧ (∀ h7 : xH, h7 = hN h n (101, 8226, fun _ => 0) → okO (n + 1) h7 x0 0 ∧ (∀ h9 : xH, h9 = hS h7 x0 0 ((n : Nat) : Int) → X0_makeRoom_w21 G k  (n + 1) h9))))) : X0_makeRoom_w0 G k x0 x1 n h := by
  refine ww_iload_n C 1 1 rfl rfl dX0_makeRoom_0 ?_
  refine ww_bipush C (z := 34) dX0_makeRoom_1 rfl ?_
  refine ww_iadd C dX0_makeRoom_3 ?_
  refine ww_aload_n C 0 0 rfl rfl dX0_makeRoom_4 ?_
  obtain ⟨p1, hy⟩ := hy
  obtain ⟨p2, hy⟩ := hy
  refine gf_X0_11 C dX0_makeRoom_5 p1 p2 ?_
  obtain ⟨p3, hy⟩ := hy
  refine ww_alen C dX0_makeRoom_8 p3.1 p3.2 ?_
  obtain ⟨p4, hy⟩ := hy
  refine ww_icmp_le C (tg := 21) dX0_makeRoom_9 (by decide) p4.1 p4.2 (fun c5 => ?_) (fun c5 => ?_)
  · have hy := hy.1 c5
    exact ww_sub [] rfl (by decide) (by decide) hy
  · have hy := hy.2 c5
    refine ww_aload_n C 0 0 rfl rfl dX0_makeRoom_12 ?_
    refine ww_sipush C (z := 8226) dX0_makeRoom_13 rfl ?_
    obtain ⟨p6, hy⟩ := hy
    refine ww_newB C (B := 8226) q_54 dX0_makeRoom_16 p6.1 p6.2 (by decide) (by decide) (by decide) ?_
    have hy := hy _ rfl
    obtain ⟨p8, hy⟩ := hy
    have hy := hy _ rfl
    refine pf_X0_11R C dX0_makeRoom_18 p8 ?_
    exact ww_sub [] rfl (by decide) (by decide) hy
set_option maxRecDepth 100000 in
set_option maxHeartbeats 4000000 in
theorem X0_makeRoom_b21 {G : xG} {k : xK} {n0 : Nat} {Po : Nat → xH → Prop} (C : CC G k cX0_makeRoom RX0 2 rm_X0_makeRoom) (E : CQ G k none rm_X0_makeRoom (fun r n1 h1 => r = none ∧ Po n1 h1))  (n : Nat) (h : xH) (hy : Po n h) : X0_makeRoom_w21 G k  n h := by
  exact ww_vret C E dX0_makeRoom_21 (by decide) (by decide) ⟨rfl, hy⟩
abbrev X0_append_w0 (G : xG) (k : xK) (x0 : Nat) (x1 : Int) (n : Nat) (h : xH) : Prop := WW G k 2 0 0 0 [(0, rf G x0), (1, .int (iz x1))] [] n h
abbrev X0_append_w33 (G : xG) (k : xK)  (n : Nat) (h : xH) : Prop := WW G k 2 0 0 33 [] [] n h
theorem S_X0_append_of {G : xG} {l : Launch} {x0 : Nat} {x1 : Int} {n : Nat} {h : xH} {Po : xH → Prop} (body : ∀ k : xK, kl k = l → CC G k cX0_append RX0 2 rm_X0_append → CQ G k none rm_X0_append (fun r n1 h1 => r = none ∧ n1 = n ∧ Po h1) → X0_append_w0 G k x0 x1 n h) : S_X0_append G l x0 x1 n h Po := xS_of (by decide +kernel) (Nat.le_of_ble_eq_true rfl) rfl (fun k hl hnm C E => body k hl C E)
set_option maxRecDepth 100000 in
set_option maxHeartbeats 4000000 in
theorem X0_append_b0 {G : xG} {k : xK} {n0 : Nat} {Po : xH → Prop} (C : CC G k cX0_append RX0 2 rm_X0_append) (E : CQ G k none rm_X0_append (fun r n1 h1 => r = none ∧ n1 = n0 ∧ Po h1)) (x0 : Nat) (x1 : Int) (n : Nat) (h : xH) (hn0 : n = n0) (hy : okO n h x0 0 ∧ okO n h x0 0 ∧ 0 ≤ hG h x0 0 ∧ (((hG h x0 0).toNat) < n ∧ ((h ((hG h x0 0).toNat)).1 = 100 ∨ (h ((hG h x0 0).toNat)).1 = 101)) ∧ (rg (hG h x0 1) ∧ rg ((h ((hG h x0 0).toNat)).2.1 : Int)) ∧ ((((h ((hG h x0 0).toNat)).2.1 : Int) ≤ (hG h x0 1) → X0_append_w33 G k  n h) ∧ (¬ ((h ((hG h x0 0).toNat)).2.1 : Int) ≤ (hG h x0 1) → okO n h x0 0 ∧ 0 ≤ hG h x0 0 ∧ okO n h x0 0 ∧ (-128 ≤ x1 ∧ x1 ≤ 127) ∧ okA n h ((hG h x0 0).toNat) 101 (hG h x0 1) ∧ (-128 ≤ x1 ∧ x1 ≤ 127) ∧ (∀ h13 : xH, h13 = hS h ((hG h x0 0).toNat) ((hG h x0 1).toNat) x1 → okO n h13 x0 0 ∧ okO n h13 x0 0 ∧ (∀ h16 : xH, h16 = hS h13 x0 1 ((hG h13 x0 1) + 1) → X0_append_w33 G k  n h16))))) : X0_append_w0 G k x0 x1 n h := by
  subst hn0
  refine ww_aload_n C 0 0 rfl rfl dX0_append_0 ?_
  obtain ⟨p1, hy⟩ := hy
  refine gf_X0_15 C dX0_append_1 p1 ?_
  refine ww_aload_n C 0 0 rfl rfl dX0_append_4 ?_
  obtain ⟨p2, hy⟩ := hy
  obtain ⟨p3, hy⟩ := hy
  refine gf_X0_11 C dX0_append_5 p2 p3 ?_
  obtain ⟨p4, hy⟩ := hy
  refine ww_alen C dX0_append_8 p4.1 p4.2 ?_
  obtain ⟨p5, hy⟩ := hy
  refine ww_icmp_ge C (tg := 33) dX0_append_9 (by decide) p5.1 p5.2 (fun c6 => ?_) (fun c6 => ?_)
  · have hy := hy.1 c6
    exact ww_sub [] rfl (by decide) (by decide) hy
  · have hy := hy.2 c6
    refine ww_aload_n C 0 0 rfl rfl dX0_append_12 ?_
    obtain ⟨p7, hy⟩ := hy
    obtain ⟨p8, hy⟩ := hy
    refine gf_X0_11 C dX0_append_13 p7 p8 ?_
    refine ww_aload_n C 0 0 rfl rfl dX0_append_16 ?_
    obtain ⟨p9, hy⟩ := hy
    refine gf_X0_15 C dX0_append_17 p9 ?_
    refine ww_iload_n C 1 1 rfl rfl dX0_append_20 ?_
    obtain ⟨p10, hy⟩ := hy
    refine ww_i2b C dX0_append_21 p10.1 p10.2 ?_
    obtain ⟨p11, hy⟩ := hy
    obtain ⟨p12, hy⟩ := hy
    have hy := hy _ rfl
    refine ww_bast C dX0_append_22 p11 p12.1 p12.2 ?_
    refine ww_aload_n C 0 0 rfl rfl dX0_append_23 ?_
    refine ww_dup C rfl dX0_append_24 ?_
    obtain ⟨p14, hy⟩ := hy
    refine gf_X0_15 C dX0_append_25 p14 ?_
    refine ww_iconst C (z := 1) dX0_append_28 rfl ?_
    refine ww_iadd C dX0_append_29 ?_
    obtain ⟨p15, hy⟩ := hy
    have hy := hy _ rfl
    refine pf_X0_15I C dX0_append_30 p15 ?_
    exact ww_sub [] rfl (by decide) (by decide) hy
set_option maxRecDepth 100000 in
set_option maxHeartbeats 4000000 in
theorem X0_append_b33 {G : xG} {k : xK} {n0 : Nat} {Po : xH → Prop} (C : CC G k cX0_append RX0 2 rm_X0_append) (E : CQ G k none rm_X0_append (fun r n1 h1 => r = none ∧ n1 = n0 ∧ Po h1))  (n : Nat) (h : xH) (hn0 : n = n0) (hy : Po h) : X0_append_w33 G k  n h := by
  subst hn0
  exact ww_vret C E dX0_append_33 (by decide) (by decide) ⟨rfl, rfl, hy⟩
abbrev X0_append__w0 (G : xG) (k : xK) (x0 : Nat) (x1 : Nat) (n : Nat) (h : xH) : Prop := WW G k 3 0 0 0 [(0, rf G x0), (1, .ref (G.2.2.2.2.1 x1))] [] n h
abbrev X0_append__w2 (G : xG) (k : xK) (x0 : Nat) (x1 : Nat) (x2 : Int) (n : Nat) (h : xH) : Prop := WW G k 3 0 0 2 [(0, rf G x0), (1, .ref (G.2.2.2.2.1 x1)), (2, .int (iz x2))] [] n h
theorem S_X0_append__of {G : xG} {l : Launch} {x0 : Nat} {x1 : Nat} {n : Nat} {h : xH} {Po : xH → Prop} (body : ∀ k : xK, kl k = l → CC G k cX0_append_ RX0 3 rm_X0_append_ → CQ G k none rm_X0_append_ (fun r n1 h1 => r = none ∧ n1 = n ∧ Po h1) → X0_append__w0 G k x0 x1 n h) : S_X0_append_ G l x0 x1 n h Po := xS_of (by decide +kernel) (Nat.le_of_ble_eq_true rfl) rfl (fun k hl hnm C E => body k hl C E)
set_option maxRecDepth 100000 in
set_option maxHeartbeats 4000000 in
theorem X0_append__b0 {G : xG} {k : xK} {n0 : Nat} {Po : xH → Prop} (C : CC G k cX0_append_ RX0 3 rm_X0_append_) (E : CQ G k none rm_X0_append_ (fun r n1 h1 => r = none ∧ n1 = n0 ∧ Po h1)) (x0 : Nat) (x1 : Nat) (n : Nat) (h : xH) (hn0 : n = n0) (hy : X0_append__w2 G k x0 x1 0 n h) : X0_append__w0 G k x0 x1 n h := by
  subst hn0
  refine ww_iconst C (z := 0) dX0_append__0 rfl ?_
  refine ww_istore_n C 2 rfl (by decide) rfl dX0_append__1 ?_
  exact ww_sub [1, 2, 0] rfl (by decide) (by decide) hy
set_option maxRecDepth 100000 in
set_option maxHeartbeats 4000000 in
theorem X0_append__b2 {G : xG} {k : xK} {n0 : Nat} {Po : xH → Prop} (C : CC G k cX0_append_ RX0 3 rm_X0_append_) (E : CQ G k none rm_X0_append_ (fun r n1 h1 => r = none ∧ n1 = n0 ∧ Po h1)) (x0 : Nat) (x1 : Nat) (x2 : Int) (n : Nat) (h : xH) (hn0 : n = n0) (hy : x1 < 8 ∧ S_J0_length_8abf5 G (kl k) x1 n h (fun z2 h3 => (rg x2 ∧ rg z2) ∧ ((z2 ≤ x2 → Po h3) ∧ (¬ z2 ≤ x2 → x1 < 8 ∧ S_J0_charAt_5068e G (kl k) x1 x2 n h3 (fun z7 h8 => okO n h8 x0 0 ∧ S_X0_append G (kl k) x0 z7 n h8 (fun h10 => X0_append__w2 G k x0 x1 (x2 + 1) n h10)))))) : X0_append__w2 G k x0 x1 x2 n h := by
  subst hn0
  refine ww_iload_n C 2 2 rfl rfl dX0_append__2 ?_
  refine ww_aload_n C 1 1 rfl rfl dX0_append__3 ?_
  obtain ⟨p1, hy⟩ := hy
  refine cl_X0_19 C dX0_append__4 (Nat.le_of_ble_eq_true rfl) ⟨by decide, by decide⟩ ⟨by decide, by decide⟩ p1 ?_
  refine S_J0_length_8abf5.mono hy (fun z2 h3 hy => ?_)
  obtain ⟨p4, hy⟩ := hy
  refine ww_icmp_ge C (tg := 25) dX0_append__7 (by decide) p4.1 p4.2 (fun c5 => ?_) (fun c5 => ?_)
  · have hy := hy.1 c5
    exact ww_vret C E dX0_append__25 (by decide) (by decide) ⟨rfl, rfl, hy⟩
  · have hy := hy.2 c5
    refine ww_aload_n C 0 0 rfl rfl dX0_append__10 ?_
    refine ww_aload_n C 1 1 rfl rfl dX0_append__11 ?_
    refine ww_iload_n C 2 2 rfl rfl dX0_append__12 ?_
    obtain ⟨p6, hy⟩ := hy
    refine cl_X0_25 C dX0_append__13 (Nat.le_of_ble_eq_true rfl) ⟨by decide, by decide⟩ ⟨by decide, by decide⟩ p6 ?_
    refine S_J0_charAt_5068e.mono hy (fun z7 h8 hy => ?_)
    obtain ⟨p9, hy⟩ := hy
    refine cl_X0_29 C dX0_append__16 (Nat.le_of_ble_eq_true rfl) ⟨by decide, by decide⟩ ⟨by decide, by decide⟩ p9 ?_
    refine S_X0_append.mono hy (fun h10 hy => ?_)
    refine ww_iinc C 2 2 rfl (by decide) rfl dX0_append__19 ?_
    refine ww_goto C (tg := 2) dX0_append__22 (by decide) ?_
    exact ww_sub [1, 2, 0] rfl (by decide) (by decide) hy
abbrev X0_copy_w0 (G : xG) (k : xK) (x0 : Nat) (x1 : Nat) (n : Nat) (h : xH) : Prop := WW G k 3 0 0 0 [(0, rf G x0), (1, rf G x1)] [] n h
abbrev X0_copy_w6 (G : xG) (k : xK) (x0 : Nat) (x1 : Nat) (x2 : Int) (n : Nat) (h : xH) : Prop := WW G k 3 0 0 6 [(0, rf G x0), (1, rf G x1), (2, .int (iz x2))] [] n h
theorem S_X0_copy_of {G : xG} {l : Launch} {x0 : Nat} {x1 : Nat} {n : Nat} {h : xH} {Po : xH → Prop} (body : ∀ k : xK, kl k = l → CC G k cX0_copy RX0 3 rm_X0_copy → CQ G k none rm_X0_copy (fun r n1 h1 => r = none ∧ n1 = n ∧ Po h1) → X0_copy_w0 G k x0 x1 n h) : S_X0_copy G l x0 x1 n h Po := xS_of (by decide +kernel) (Nat.le_of_ble_eq_true rfl) rfl (fun k hl hnm C E => body k hl C E)
set_option maxRecDepth 100000 in
set_option maxHeartbeats 4000000 in
theorem X0_copy_b0 {G : xG} {k : xK} {n0 : Nat} {Po : xH → Prop} (C : CC G k cX0_copy RX0 3 rm_X0_copy) (E : CQ G k none rm_X0_copy (fun r n1 h1 => r = none ∧ n1 = n0 ∧ Po h1)) (x0 : Nat) (x1 : Nat) (n : Nat) (h : xH) (hn0 : n = n0) (hy : okO n h x0 0 ∧ S_X0_empty G (kl k) x0 n h (fun h2 => X0_copy_w6 G k x0 x1 0 n h2)) : X0_copy_w0 G k x0 x1 n h := by
  subst hn0
  refine ww_aload_n C 0 0 rfl rfl dX0_copy_0 ?_
  obtain ⟨p1, hy⟩ := hy
  refine cl_X0_33 C dX0_copy_1 (Nat.le_of_ble_eq_true rfl) ⟨by decide, by decide⟩ ⟨by decide, by decide⟩ p1 ?_
  refine S_X0_empty.mono hy (fun h2 hy => ?_)
  refine ww_iconst C (z := 0) dX0_copy_4 rfl ?_
  refine ww_istore_n C 2 rfl (by decide) rfl dX0_copy_5 ?_
  exact ww_sub [1, 2, 0] rfl (by decide) (by decide) hy
set_option maxRecDepth 100000 in
set_option maxHeartbeats 4000000 in
theorem X0_copy_b6 {G : xG} {k : xK} {n0 : Nat} {Po : xH → Prop} (C : CC G k cX0_copy RX0 3 rm_X0_copy) (E : CQ G k none rm_X0_copy (fun r n1 h1 => r = none ∧ n1 = n0 ∧ Po h1)) (x0 : Nat) (x1 : Nat) (x2 : Int) (n : Nat) (h : xH) (hn0 : n = n0) (hy : okO n h x1 0 ∧ (rg x2 ∧ rg (hG h x1 1)) ∧ (((hG h x1 1) ≤ x2 → Po h) ∧ (¬ (hG h x1 1) ≤ x2 → okO n h x1 0 ∧ S_X0_codeAt G (kl k) x1 x2 n h (fun z5 h6 => okO n h6 x0 0 ∧ S_X0_append G (kl k) x0 z5 n h6 (fun h8 => X0_copy_w6 G k x0 x1 (x2 + 1) n h8))))) : X0_copy_w6 G k x0 x1 x2 n h := by
  subst hn0
  refine ww_iload_n C 2 2 rfl rfl dX0_copy_6 ?_
  refine ww_aload_n C 1 1 rfl rfl dX0_copy_7 ?_
  obtain ⟨p1, hy⟩ := hy
  refine gf_X0_15 C dX0_copy_8 p1 ?_
  obtain ⟨p2, hy⟩ := hy
  refine ww_icmp_ge C (tg := 29) dX0_copy_11 (by decide) p2.1 p2.2 (fun c3 => ?_) (fun c3 => ?_)
  · have hy := hy.1 c3
    exact ww_vret C E dX0_copy_29 (by decide) (by decide) ⟨rfl, rfl, hy⟩
  · have hy := hy.2 c3
    refine ww_aload_n C 0 0 rfl rfl dX0_copy_14 ?_
    refine ww_aload_n C 1 1 rfl rfl dX0_copy_15 ?_
    refine ww_iload_n C 2 2 rfl rfl dX0_copy_16 ?_
    obtain ⟨p4, hy⟩ := hy
    refine cl_X0_36 C dX0_copy_17 (Nat.le_of_ble_eq_true rfl) ⟨by decide, by decide⟩ ⟨by decide, by decide⟩ p4 ?_
    refine S_X0_codeAt.mono hy (fun z5 h6 hy => ?_)
    obtain ⟨p7, hy⟩ := hy
    refine cl_X0_29 C dX0_copy_20 (Nat.le_of_ble_eq_true rfl) ⟨by decide, by decide⟩ ⟨by decide, by decide⟩ p7 ?_
    refine S_X0_append.mono hy (fun h8 hy => ?_)
    refine ww_iinc C 2 2 rfl (by decide) rfl dX0_copy_23 ?_
    refine ww_goto C (tg := 6) dX0_copy_26 (by decide) ?_
    exact ww_sub [1, 2, 0] rfl (by decide) (by decide) hy
abbrev X0_appendLastDigits_w0 (G : xG) (k : xK) (x0 : Nat) (x1 : Int) (x2 : Int) (x3 : Int) (n : Nat) (h : xH) : Prop := WW G k 7 0 0 0 [(0, rf G x0), (1, .int (iz x1)), (2, .int (iz x2)), (3, .int (iz x3))] [] n h
abbrev X0_appendLastDigits_w12 (G : xG) (k : xK) (x0 : Nat) (x2 : Int) (x3 : Int) (x4 : Int) (x5 : Int) (n : Nat) (h : xH) : Prop := WW G k 7 0 0 12 [(0, rf G x0), (2, .int (iz x2)), (3, .int (iz x3)), (4, .int (iz x4)), (5, .int (iz x5))] [] n h
abbrev X0_appendLastDigits_w48 (G : xG) (k : xK) (x0 : Nat) (x2 : Int) (x3 : Int) (x4 : Int) (x5 : Int) (s0 : Int) (s1 : Nat) (n : Nat) (h : xH) : Prop := WW G k 7 0 0 48 [(0, rf G x0), (2, .int (iz x2)), (3, .int (iz x3)), (4, .int (iz x4)), (5, .int (iz x5))] [.int (iz s0), rf G s1] n h
theorem S_X0_appendLastDigits_of {G : xG} {l : Launch} {x0 : Nat} {x1 : Int} {x2 : Int} {x3 : Int} {n : Nat} {h : xH} {Po : xH → Prop} (body : ∀ k : xK, kl k = l → CC G k cX0_appendLastDigits RX0 7 rm_X0_appendLastDigits → CQ G k none rm_X0_appendLastDigits (fun r n1 h1 => r = none ∧ n1 = n ∧ Po h1) → X0_appendLastDigits_w0 G k x0 x1 x2 x3 n h) : S_X0_appendLastDigits G l x0 x1 x2 x3 n h Po := xS_of (by decide +kernel) (Nat.le_of_ble_eq_true rfl) rfl (fun k hl hnm C E => body k hl C E)
set_option maxRecDepth 100000 in
set_option maxHeartbeats 4000000 in
theorem X0_appendLastDigits_b0 {G : xG} {k : xK} {n0 : Nat} {Po : xH → Prop} (C : CC G k cX0_appendLastDigits RX0 7 rm_X0_appendLastDigits) (E : CQ G k none rm_X0_appendLastDigits (fun r n1 h1 => r = none ∧ n1 = n0 ∧ Po h1)) (x0 : Nat) (x1 : Int) (x2 : Int) (x3 : Int) (n : Nat) (h : xH) (hn0 : n = n0) (hy : (rg x2 ∧ rg (2 : Int)) ∧ (((2 : Int) ≤ x2 → X0_appendLastDigits_w12 G k x0 x2 x3 x1 0 n h) ∧ (¬ (2 : Int) ≤ x2 → Po h))) : X0_appendLastDigits_w0 G k x0 x1 x2 x3 n h := by
  subst hn0
  refine ww_iload_n C 2 2 rfl rfl dX0_appendLastDigits_0 ?_
  refine ww_iconst C (z := 2) dX0_appendLastDigits_1 rfl ?_
  obtain ⟨p1, hy⟩ := hy
  refine ww_icmp_ge C (tg := 6) dX0_appendLastDigits_2 (by decide) p1.1 p1.2 (fun c2 => ?_) (fun c2 => ?_)
  · have hy := hy.1 c2
    refine ww_iload_n C 1 1 rfl rfl dX0_appendLastDigits_6 ?_
    refine ww_istore C 4 (by decide) rfl dX0_appendLastDigits_7 ?_
    refine ww_iconst C (z := 0) dX0_appendLastDigits_9 rfl ?_
    refine ww_istore C 5 (by decide) rfl dX0_appendLastDigits_10 ?_
    exact ww_sub [2, 4, 5, 1, 0] rfl (by decide) (by decide) hy
  · have hy := hy.2 c2
    exact ww_vret C E dX0_appendLastDigits_5 (by decide) (by decide) ⟨rfl, rfl, hy⟩
set_option maxRecDepth 100000 in
set_option maxHeartbeats 4000000 in
theorem X0_appendLastDigits_b12 {G : xG} {k : xK} {n0 : Nat} {Po : xH → Prop} (C : CC G k cX0_appendLastDigits RX0 7 rm_X0_appendLastDigits) (E : CQ G k none rm_X0_appendLastDigits (fun r n1 h1 => r = none ∧ n1 = n0 ∧ Po h1)) (x0 : Nat) (x2 : Int) (x3 : Int) (x4 : Int) (x5 : Int) (n : Nat) (h : xH) (hn0 : n = n0) (hy : (rg x5 ∧ rg x3) ∧ ((x3 ≤ x5 → Po h) ∧ (¬ x3 ≤ x5 → (rg x4 ∧ rg x2 ∧ x2 ≠ 0) ∧ (rg (x4.tmod x2) ∧ rg (10 : Int)) ∧ (((10 : Int) ≤ (x4.tmod x2) → X0_appendLastDigits_w48 G k x0 x2 x3 x4 x5 ((97 + (x4.tmod x2)) - 10) x0 n h) ∧ (¬ (10 : Int) ≤ (x4.tmod x2) → X0_appendLastDigits_w48 G k x0 x2 x3 x4 x5 (48 + (x4.tmod x2)) x0 n h))))) : X0_appendLastDigits_w12 G k x0 x2 x3 x4 x5 n h := by
  subst hn0
  refine ww_iload C 5 4 rfl dX0_appendLastDigits_12 ?_
  refine ww_iload_n C 3 2 rfl rfl dX0_appendLastDigits_14 ?_
  obtain ⟨p1, hy⟩ := hy
  refine ww_icmp_ge C (tg := 63) dX0_appendLastDigits_15 (by decide) p1.1 p1.2 (fun c2 => ?_) (fun c2 => ?_)
  · have hy := hy.1 c2
    exact ww_vret C E dX0_appendLastDigits_63 (by decide) (by decide) ⟨rfl, rfl, hy⟩
  · have hy := hy.2 c2
    refine ww_iload C 4 3 rfl dX0_appendLastDigits_18 ?_
    refine ww_iload_n C 2 1 rfl rfl dX0_appendLastDigits_20 ?_
    obtain ⟨p3, hy⟩ := hy
    refine ww_irem C dX0_appendLastDigits_21 p3.1 p3.2.1 p3.2.2 ?_
    refine ww_istore C 6 (by decide) rfl dX0_appendLastDigits_22 ?_
    refine ww_aload_n C 0 1 rfl rfl dX0_appendLastDigits_24 ?_
    refine ww_iload C 6 0 rfl dX0_appendLastDigits_25 ?_
    refine ww_bipush C (z := 10) dX0_appendLastDigits_27 rfl ?_
    obtain ⟨p4, hy⟩ := hy
    refine ww_icmp_ge C (tg := 40) dX0_appendLastDigits_29 (by decide) p4.1 p4.2 (fun c5 => ?_) (fun c5 => ?_)
    · have hy := hy.1 c5
      refine ww_bipush C (z := 97) dX0_appendLastDigits_40 rfl ?_
      refine ww_iload C 6 0 rfl dX0_appendLastDigits_42 ?_
      refine ww_iadd C dX0_appendLastDigits_44 ?_
      refine ww_bipush C (z := 10) dX0_appendLastDigits_45 rfl ?_
      refine ww_isub C dX0_appendLastDigits_47 ?_
      exact ww_sub [1, 2, 3, 4, 5] rfl (by decide) (by decide) hy
    · have hy := hy.2 c5
      refine ww_bipush C (z := 48) dX0_appendLastDigits_32 rfl ?_
      refine ww_iload C 6 0 rfl dX0_appendLastDigits_34 ?_
      refine ww_iadd C dX0_appendLastDigits_36 ?_
      refine ww_goto C (tg := 48) dX0_appendLastDigits_37 (by decide) ?_
      exact ww_sub [1, 2, 3, 4, 5] rfl (by decide) (by decide) hy
set_option maxRecDepth 100000 in
set_option maxHeartbeats 4000000 in
theorem X0_appendLastDigits_b48 {G : xG} {k : xK} {n0 : Nat} {Po : xH → Prop} (C : CC G k cX0_appendLastDigits RX0 7 rm_X0_appendLastDigits) (E : CQ G k none rm_X0_appendLastDigits (fun r n1 h1 => r = none ∧ n1 = n0 ∧ Po h1)) (x0 : Nat) (x2 : Int) (x3 : Int) (x4 : Int) (x5 : Int) (s0 : Int) (s1 : Nat) (n : Nat) (h : xH) (hn0 : n = n0) (hy : okO n h s1 0 ∧ S_X0_append G (kl k) s1 s0 n h (fun h2 => (rg x4 ∧ rg x2 ∧ x2 ≠ 0) ∧ X0_appendLastDigits_w12 G k x0 x2 x3 (x4.tdiv x2) (x5 + 1) n h2)) : X0_appendLastDigits_w48 G k x0 x2 x3 x4 x5 s0 s1 n h := by
  subst hn0
  obtain ⟨p1, hy⟩ := hy
  refine cl_X0_29 C dX0_appendLastDigits_48 (Nat.le_of_ble_eq_true rfl) ⟨by decide, by decide⟩ ⟨by decide, by decide⟩ p1 ?_
  refine S_X0_append.mono hy (fun h2 hy => ?_)
  refine ww_iload C 4 3 rfl dX0_appendLastDigits_51 ?_
  refine ww_iload_n C 2 1 rfl rfl dX0_appendLastDigits_53 ?_
  obtain ⟨p3, hy⟩ := hy
  refine ww_idiv C dX0_appendLastDigits_54 p3.1 p3.2.1 p3.2.2 ?_
  refine ww_istore C 4 (by decide) rfl dX0_appendLastDigits_55 ?_
  refine ww_iinc C 5 4 rfl (by decide) rfl dX0_appendLastDigits_57 ?_
  refine ww_goto C (tg := 12) dX0_appendLastDigits_60 (by decide) ?_
  exact ww_sub [2, 3, 4, 1, 0] rfl (by decide) (by decide) hy
abbrev X0_dropZerosAtEnd_w0 (G : xG) (k : xK) (x0 : Nat) (x1 : Int) (n : Nat) (h : xH) : Prop := WW G k 2 0 0 0 [(0, rf G x0), (1, .int (iz x1))] [] n h
abbrev X0_dropZerosAtEnd_w36 (G : xG) (k : xK)  (n : Nat) (h : xH) : Prop := WW G k 2 0 0 36 [] [] n h
theorem S_X0_dropZerosAtEnd_of {G : xG} {l : Launch} {x0 : Nat} {x1 : Int} {n : Nat} {h : xH} {Po : xH → Prop} (body : ∀ k : xK, kl k = l → CC G k cX0_dropZerosAtEnd RX0 2 rm_X0_dropZerosAtEnd → CQ G k none rm_X0_dropZerosAtEnd (fun r n1 h1 => r = none ∧ n1 = n ∧ Po h1) → X0_dropZerosAtEnd_w0 G k x0 x1 n h) : S_X0_dropZerosAtEnd G l x0 x1 n h Po := xS_of (by decide +kernel) (Nat.le_of_ble_eq_true rfl) rfl (fun k hl hnm C E => body k hl C E)
set_option maxRecDepth 100000 in
set_option maxHeartbeats 4000000 in
theorem X0_dropZerosAtEnd_b0 {G : xG} {k : xK} {n0 : Nat} {Po : xH → Prop} (C : CC G k cX0_dropZerosAtEnd RX0 2 rm_X0_dropZerosAtEnd) (E : CQ G k none rm_X0_dropZerosAtEnd (fun r n1 h1 => r = none ∧ n1 = n0 ∧ Po h1)) (x0 : Nat) (x1 : Int) (n : Nat) (h : xH) (hn0 : n = n0) (hy : okO n h x0 0 ∧ (rg (hG h x0 1) ∧ rg x1) ∧ (((hG h x0 1) ≤ x1 → X0_dropZerosAtEnd_w36 G k  n h) ∧ (¬ (hG h x0 1) ≤ x1 → okO n h x0 0 ∧ okO n h x0 0 ∧ S_X0_codeAt G (kl k) x0 ((hG h x0 1) - 1) n h (fun z6 h7 => (rg z6 ∧ rg (48 : Int)) ∧ ((¬ z6 = (48 : Int) → X0_dropZerosAtEnd_w36 G k  n h7) ∧ (z6 = (48 : Int) → okO n h7 x0 0 ∧ okO n h7 x0 0 ∧ (∀ h12 : xH, h12 = hS h7 x0 1 ((hG h7 x0 1) - 1) → X0_dropZerosAtEnd_w0 G k x0 x1 n h12))))))) : X0_dropZerosAtEnd_w0 G k x0 x1 n h := by
  subst hn0
  refine ww_aload_n C 0 0 rfl rfl dX0_dropZerosAtEnd_0 ?_
  obtain ⟨p1, hy⟩ := hy
  refine gf_X0_15 C dX0_dropZerosAtEnd_1 p1 ?_
  refine ww_iload_n C 1 1 rfl rfl dX0_dropZerosAtEnd_4 ?_
  obtain ⟨p2, hy⟩ := hy
  refine ww_icmp_le C (tg := 36) dX0_dropZerosAtEnd_5 (by decide) p2.1 p2.2 (fun c3 => ?_) (fun c3 => ?_)
  · have hy := hy.1 c3
    exact ww_sub [] rfl (by decide) (by decide) hy
  · have hy := hy.2 c3
    refine ww_aload_n C 0 0 rfl rfl dX0_dropZerosAtEnd_8 ?_
    refine ww_aload_n C 0 0 rfl rfl dX0_dropZerosAtEnd_9 ?_
    obtain ⟨p4, hy⟩ := hy
    refine gf_X0_15 C dX0_dropZerosAtEnd_10 p4 ?_
    refine ww_iconst C (z := 1) dX0_dropZerosAtEnd_13 rfl ?_
    refine ww_isub C dX0_dropZerosAtEnd_14 ?_
    obtain ⟨p5, hy⟩ := hy
    refine cl_X0_36 C dX0_dropZerosAtEnd_15 (Nat.le_of_ble_eq_true rfl) ⟨by decide, by decide⟩ ⟨by decide, by decide⟩ p5 ?_
    refine S_X0_codeAt.mono hy (fun z6 h7 hy => ?_)
    refine ww_bipush C (z := 48) dX0_dropZerosAtEnd_18 rfl ?_
    obtain ⟨p8, hy⟩ := hy
    refine ww_icmp_ne C (tg := 36) dX0_dropZerosAtEnd_20 (by decide) p8.1 p8.2 (fun c9 => ?_) (fun c9 => ?_)
    · have hy := hy.1 c9
      exact ww_sub [] rfl (by decide) (by decide) hy
    · have hy := hy.2 c9
      refine ww_aload_n C 0 0 rfl rfl dX0_dropZerosAtEnd_23 ?_
      refine ww_dup C rfl dX0_dropZerosAtEnd_24 ?_
      obtain ⟨p10, hy⟩ := hy
      refine gf_X0_15 C dX0_dropZerosAtEnd_25 p10 ?_
      refine ww_iconst C (z := 1) dX0_dropZerosAtEnd_28 rfl ?_
      refine ww_isub C dX0_dropZerosAtEnd_29 ?_
      obtain ⟨p11, hy⟩ := hy
      have hy := hy _ rfl
      refine pf_X0_15I C dX0_dropZerosAtEnd_30 p11 ?_
      refine ww_goto C (tg := 0) dX0_dropZerosAtEnd_33 (by decide) ?_
      exact ww_sub [0, 1] rfl (by decide) (by decide) hy
set_option maxRecDepth 100000 in
set_option maxHeartbeats 4000000 in
theorem X0_dropZerosAtEnd_b36 {G : xG} {k : xK} {n0 : Nat} {Po : xH → Prop} (C : CC G k cX0_dropZerosAtEnd RX0 2 rm_X0_dropZerosAtEnd) (E : CQ G k none rm_X0_dropZerosAtEnd (fun r n1 h1 => r = none ∧ n1 = n0 ∧ Po h1))  (n : Nat) (h : xH) (hn0 : n = n0) (hy : Po h) : X0_dropZerosAtEnd_w36 G k  n h := by
  subst hn0
  exact ww_vret C E dX0_dropZerosAtEnd_36 (by decide) (by decide) ⟨rfl, rfl, hy⟩
abbrev X0_reverseFrom_w0 (G : xG) (k : xK) (x0 : Nat) (x1 : Int) (n : Nat) (h : xH) : Prop := WW G k 5 0 0 0 [(0, rf G x0), (1, .int (iz x1))] [] n h
abbrev X0_reverseFrom_w13 (G : xG) (k : xK) (x0 : Nat) (x2 : Int) (x3 : Int) (n : Nat) (h : xH) : Prop := WW G k 5 0 0 13 [(0, rf G x0), (2, .int (iz x2)), (3, .int (iz x3))] [] n h
theorem S_X0_reverseFrom_of {G : xG} {l : Launch} {x0 : Nat} {x1 : Int} {n : Nat} {h : xH} {Po : xH → Prop} (body : ∀ k : xK, kl k = l → CC G k cX0_reverseFrom RX0 5 rm_X0_reverseFrom → CQ G k none rm_X0_reverseFrom (fun r n1 h1 => r = none ∧ n1 = n ∧ Po h1) → X0_reverseFrom_w0 G k x0 x1 n h) : S_X0_reverseFrom G l x0 x1 n h Po := xS_of (by decide +kernel) (Nat.le_of_ble_eq_true rfl) rfl (fun k hl hnm C E => body k hl C E)
set_option maxRecDepth 100000 in
set_option maxHeartbeats 4000000 in
theorem X0_reverseFrom_b0 {G : xG} {k : xK} {n0 : Nat} {Po : xH → Prop} (C : CC G k cX0_reverseFrom RX0 5 rm_X0_reverseFrom) (E : CQ G k none rm_X0_reverseFrom (fun r n1 h1 => r = none ∧ n1 = n0 ∧ Po h1)) (x0 : Nat) (x1 : Int) (n : Nat) (h : xH) (hn0 : n = n0) (hy : S_J9_max_7cf53 G (kl k) x1 0 n h (fun z1 h2 => okO n h2 x0 0 ∧ X0_reverseFrom_w13 G k x0 z1 ((hG h2 x0 1) - 1) n h2)) : X0_reverseFrom_w0 G k x0 x1 n h := by
  subst hn0
  refine ww_iload_n C 1 1 rfl rfl dX0_reverseFrom_0 ?_
  refine ww_iconst C (z := 0) dX0_reverseFrom_1 rfl ?_
  refine cl_X0_40 C dX0_reverseFrom_2 (Nat.le_of_ble_eq_true rfl) ⟨by decide, by decide⟩ ⟨by decide, by decide⟩ ?_
  refine S_J9_max_7cf53.mono hy (fun z1 h2 hy => ?_)
  refine ww_istore_n C 2 rfl (by decide) rfl dX0_reverseFrom_5 ?_
  refine ww_aload_n C 0 1 rfl rfl dX0_reverseFrom_6 ?_
  obtain ⟨p3, hy⟩ := hy
  refine gf_X0_15 C dX0_reverseFrom_7 p3 ?_
  refine ww_iconst C (z := 1) dX0_reverseFrom_10 rfl ?_
  refine ww_isub C dX0_reverseFrom_11 ?_
  refine ww_istore_n C 3 rfl (by decide) rfl dX0_reverseFrom_12 ?_
  exact ww_sub [2, 1, 0] rfl (by decide) (by decide) hy
set_option maxRecDepth 100000 in
set_option maxHeartbeats 4000000 in
theorem X0_reverseFrom_b13 {G : xG} {k : xK} {n0 : Nat} {Po : xH → Prop} (C : CC G k cX0_reverseFrom RX0 5 rm_X0_reverseFrom) (E : CQ G k none rm_X0_reverseFrom (fun r n1 h1 => r = none ∧ n1 = n0 ∧ Po h1)) (x0 : Nat) (x2 : Int) (x3 : Int) (n : Nat) (h : xH) (hn0 : n = n0) (hy : (rg x2 ∧ rg x3) ∧ ((x3 ≤ x2 → Po h) ∧ (¬ x3 ≤ x2 → okO n h x0 0 ∧ 0 ≤ hG h x0 0 ∧ okA n h ((hG h x0 0).toNat) 101 x2 ∧ okO n h x0 0 ∧ 0 ≤ hG h x0 0 ∧ okO n h x0 0 ∧ 0 ≤ hG h x0 0 ∧ okA n h ((hG h x0 0).toNat) 101 x3 ∧ okA n h ((hG h x0 0).toNat) 101 x2 ∧ (-128 ≤ (hG h ((hG h x0 0).toNat) (x3.toNat)) ∧ (hG h ((hG h x0 0).toNat) (x3.toNat)) ≤ 127) ∧ (∀ h13 : xH, h13 = hS h ((hG h x0 0).toNat) (x2.toNat) (hG h ((hG h x0 0).toNat) (x3.toNat)) → okO n h13 x0 0 ∧ 0 ≤ hG h13 x0 0 ∧ okA n h13 ((hG h13 x0 0).toNat) 101 x3 ∧ (-128 ≤ (hG h ((hG h x0 0).toNat) (x2.toNat)) ∧ (hG h ((hG h x0 0).toNat) (x2.toNat)) ≤ 127) ∧ (∀ h18 : xH, h18 = hS h13 ((hG h13 x0 0).toNat) (x3.toNat) (hG h ((hG h x0 0).toNat) (x2.toNat)) → X0_reverseFrom_w13 G k x0 (x2 + 1) (x3 + (-1)) n h18))))) : X0_reverseFrom_w13 G k x0 x2 x3 n h := by
  subst hn0
  refine ww_iload_n C 2 1 rfl rfl dX0_reverseFrom_13 ?_
  refine ww_iload_n C 3 2 rfl rfl dX0_reverseFrom_14 ?_
  obtain ⟨p1, hy⟩ := hy
  refine ww_icmp_ge C (tg := 55) dX0_reverseFrom_15 (by decide) p1.1 p1.2 (fun c2 => ?_) (fun c2 => ?_)
  · have hy := hy.1 c2
    exact ww_vret C E dX0_reverseFrom_55 (by decide) (by decide) ⟨rfl, rfl, hy⟩
  · have hy := hy.2 c2
    refine ww_aload_n C 0 0 rfl rfl dX0_reverseFrom_18 ?_
    obtain ⟨p3, hy⟩ := hy
    obtain ⟨p4, hy⟩ := hy
    refine gf_X0_11 C dX0_reverseFrom_19 p3 p4 ?_
    refine ww_iload_n C 2 1 rfl rfl dX0_reverseFrom_22 ?_
    obtain ⟨p5, hy⟩ := hy
    refine ww_bald C dX0_reverseFrom_23 p5 ?_
    refine ww_istore C 4 (by decide) rfl dX0_reverseFrom_24 ?_
    refine ww_aload_n C 0 1 rfl rfl dX0_reverseFrom_26 ?_
    obtain ⟨p6, hy⟩ := hy
    obtain ⟨p7, hy⟩ := hy
    refine gf_X0_11 C dX0_reverseFrom_27 p6 p7 ?_
    refine ww_iload_n C 2 2 rfl rfl dX0_reverseFrom_30 ?_
    refine ww_aload_n C 0 1 rfl rfl dX0_reverseFrom_31 ?_
    obtain ⟨p8, hy⟩ := hy
    obtain ⟨p9, hy⟩ := hy
    refine gf_X0_11 C dX0_reverseFrom_32 p8 p9 ?_
    refine ww_iload_n C 3 3 rfl rfl dX0_reverseFrom_35 ?_
    obtain ⟨p10, hy⟩ := hy
    refine ww_bald C dX0_reverseFrom_36 p10 ?_
    obtain ⟨p11, hy⟩ := hy
    obtain ⟨p12, hy⟩ := hy
    have hy := hy _ rfl
    refine ww_bast C dX0_reverseFrom_37 p11 p12.1 p12.2 ?_
    refine ww_aload_n C 0 1 rfl rfl dX0_reverseFrom_38 ?_
    obtain ⟨p14, hy⟩ := hy
    obtain ⟨p15, hy⟩ := hy
    refine gf_X0_11 C dX0_reverseFrom_39 p14 p15 ?_
    refine ww_iload_n C 3 3 rfl rfl dX0_reverseFrom_42 ?_
    refine ww_iload C 4 0 rfl dX0_reverseFrom_43 ?_
    obtain ⟨p16, hy⟩ := hy
    obtain ⟨p17, hy⟩ := hy
    have hy := hy _ rfl
    refine ww_bast C dX0_reverseFrom_45 p16 p17.1 p17.2 ?_
    refine ww_iinc C 2 2 rfl (by decide) rfl dX0_reverseFrom_46 ?_
    refine ww_iinc C 3 3 rfl (by decide) rfl dX0_reverseFrom_49 ?_
    refine ww_goto C (tg := 13) dX0_reverseFrom_52 (by decide) ?_
    exact ww_sub [3, 1, 0] rfl (by decide) (by decide) hy
abbrev X1_init_w0 (G : xG) (k : xK) (x0 : Nat) (n : Nat) (h : xH) : Prop := WW G k 1 0 0 0 [(0, rf G x0)] [] n h
theorem S_X1_init_of {G : xG} {l : Launch} {x0 : Nat} {n : Nat} {h : xH} {Po : Nat → xH → Prop} (body : ∀ k : xK, kl k = l → (kt k).name = "<init>" → CC G k cX1_init RX1 1 rm_X1_init → CQ G k none rm_X1_init (fun r n1 h1 => r = none ∧ Po n1 h1) → X1_init_w0 G k x0 n h) : S_X1_init G l x0 n h Po := xS_of (by decide +kernel) (Nat.le_of_ble_eq_true rfl) rfl (fun k hl hnm C E => body k hl hnm C E)
set_option maxRecDepth 100000 in
set_option maxHeartbeats 4000000 in
theorem X1_init_b0 {G : xG} {k : xK} {n0 : Nat} {Po : Nat → xH → Prop} (C : CC G k cX1_init RX1 1 rm_X1_init) (E : CQ G k none rm_X1_init (fun r n1 h1 => r = none ∧ Po n1 h1)) (hin : (kt k).name = "<init>") (x0 : Nat) (n : Nat) (h : xH) (hy : (0 ≤ (132 : Int) ∧ (132 : Int) ≤ 132) ∧ (∀ h2 : xH, h2 = hN h n (100, 132, fun _ => 0) → okO (n + 1) h2 x0 1 ∧ (∀ h4 : xH, h4 = hS h2 x0 0 ((n : Nat) : Int) → okO (n + 1) h4 x0 1 ∧ (∀ h6 : xH, h6 = hS h4 x0 1 0 → Po (n + 1) h6)))) : X1_init_w0 G k x0 n h := by
  refine ww_aload_n C 0 0 rfl rfl dX1_init_0 ?_
  refine ww_objInit C q_81 q_52 q_53 dX1_init_1 (by decide) (by decide) ?_
  refine ww_aload_n C 0 0 rfl rfl dX1_init_4 ?_
  refine ww_sipush C (z := 132) dX1_init_5 rfl ?_
  obtain ⟨p1, hy⟩ := hy
  refine ww_newI C (B := 132) q_36 dX1_init_8 p1.1 p1.2 (by decide) (by decide) (by decide) ?_
  have hy := hy _ rfl
  obtain ⟨p3, hy⟩ := hy
  have hy := hy _ rfl
  refine pf_X1_9R C hin dX1_init_10 p3 ?_
  refine ww_aload_n C 0 0 rfl rfl dX1_init_13 ?_
  refine ww_iconst C (z := 0) dX1_init_14 rfl ?_
  obtain ⟨p5, hy⟩ := hy
  have hy := hy _ rfl
  refine pf_X1_13I C dX1_init_15 p5 ?_
  exact ww_vret C E dX1_init_18 (by decide) (by decide) ⟨rfl, hy⟩
abbrev X1_wordAt_w0 (G : xG) (k : xK) (x0 : Nat) (x1 : Int) (n : Nat) (h : xH) : Prop := WW G k 2 0 0 0 [(0, rf G x0), (1, .int (iz x1))] [] n h
abbrev X1_wordAt_w28 (G : xG) (k : xK)  (n : Nat) (h : xH) : Prop := WW G k 2 0 0 28 [] [] n h
abbrev X1_wordAt_w29 (G : xG) (k : xK) (s0 : Int) (n : Nat) (h : xH) : Prop := WW G k 2 0 0 29 [] [.int (iz s0)] n h
theorem S_X1_wordAt_of {G : xG} {l : Launch} {x0 : Nat} {x1 : Int} {n : Nat} {h : xH} {Po : Int → xH → Prop} (body : ∀ k : xK, kl k = l → CC G k cX1_wordAt RX1 2 rm_X1_wordAt → CQ G k (some .int) rm_X1_wordAt (fun r n1 h1 => ∃ z : Int, r = some (.int (iz z)) ∧ n1 = n ∧ Po z h1) → X1_wordAt_w0 G k x0 x1 n h) : S_X1_wordAt G l x0 x1 n h Po := xS_of (by decide +kernel) (Nat.le_of_ble_eq_true rfl) rfl (fun k hl hnm C E => body k hl C E)
set_option maxRecDepth 100000 in
set_option maxHeartbeats 4000000 in
theorem X1_wordAt_b0 {G : xG} {k : xK} {n0 : Nat} {Po : Int → xH → Prop} (C : CC G k cX1_wordAt RX1 2 rm_X1_wordAt) (E : CQ G k (some .int) rm_X1_wordAt (fun r n1 h1 => ∃ z : Int, r = some (.int (iz z)) ∧ n1 = n0 ∧ Po z h1)) (x0 : Nat) (x1 : Int) (n : Nat) (h : xH) (hn0 : n = n0) (hy : rg x1 ∧ ((x1 < 0 → X1_wordAt_w28 G k  n h) ∧ (¬ x1 < 0 → okO n h x0 1 ∧ (rg x1 ∧ rg (hG h x0 1)) ∧ (((hG h x0 1) ≤ x1 → X1_wordAt_w28 G k  n h) ∧ (¬ (hG h x0 1) ≤ x1 → (rg x1 ∧ rg (132 : Int)) ∧ (((132 : Int) ≤ x1 → X1_wordAt_w28 G k  n h) ∧ (¬ (132 : Int) ≤ x1 → okO n h x0 1 ∧ 0 ≤ hG h x0 0 ∧ okA n h ((hG h x0 0).toNat) 100 x1 ∧ X1_wordAt_w29 G k (hG h ((hG h x0 0).toNat) (x1.toNat)) n h))))))) : X1_wordAt_w0 G k x0 x1 n h := by
  subst hn0
  refine ww_iload_n C 1 1 rfl rfl dX1_wordAt_0 ?_
  obtain ⟨p1, hy⟩ := hy
  refine ww_if_lt C (tg := 28) dX1_wordAt_1 (by decide) p1 (fun c2 => ?_) (fun c2 => ?_)
  · have hy := hy.1 c2
    exact ww_sub [] rfl (by decide) (by decide) hy
  · have hy := hy.2 c2
    refine ww_iload_n C 1 1 rfl rfl dX1_wordAt_4 ?_
    refine ww_aload_n C 0 0 rfl rfl dX1_wordAt_5 ?_
    obtain ⟨p3, hy⟩ := hy
    refine gf_X1_13 C dX1_wordAt_6 p3 ?_
    obtain ⟨p4, hy⟩ := hy
    refine ww_icmp_ge C (tg := 28) dX1_wordAt_9 (by decide) p4.1 p4.2 (fun c5 => ?_) (fun c5 => ?_)
    · have hy := hy.1 c5
      exact ww_sub [] rfl (by decide) (by decide) hy
    · have hy := hy.2 c5
      refine ww_iload_n C 1 1 rfl rfl dX1_wordAt_12 ?_
      refine ww_sipush C (z := 132) dX1_wordAt_13 rfl ?_
      obtain ⟨p6, hy⟩ := hy
      refine ww_icmp_ge C (tg := 28) dX1_wordAt_16 (by decide) p6.1 p6.2 (fun c7 => ?_) (fun c7 => ?_)
      · have hy := hy.1 c7
        exact ww_sub [] rfl (by decide) (by decide) hy
      · have hy := hy.2 c7
        refine ww_aload_n C 0 0 rfl rfl dX1_wordAt_19 ?_
        obtain ⟨p8, hy⟩ := hy
        obtain ⟨p9, hy⟩ := hy
        refine gf_X1_9 C dX1_wordAt_20 p8 p9 ?_
        refine ww_iload_n C 1 1 rfl rfl dX1_wordAt_23 ?_
        obtain ⟨p10, hy⟩ := hy
        refine ww_iald C dX1_wordAt_24 p10 ?_
        refine ww_goto C (tg := 29) dX1_wordAt_25 (by decide) ?_
        exact ww_sub [] rfl (by decide) (by decide) hy
set_option maxRecDepth 100000 in
set_option maxHeartbeats 4000000 in
theorem X1_wordAt_b28 {G : xG} {k : xK} {n0 : Nat} {Po : Int → xH → Prop} (C : CC G k cX1_wordAt RX1 2 rm_X1_wordAt) (E : CQ G k (some .int) rm_X1_wordAt (fun r n1 h1 => ∃ z : Int, r = some (.int (iz z)) ∧ n1 = n0 ∧ Po z h1))  (n : Nat) (h : xH) (hn0 : n = n0) (hy : X1_wordAt_w29 G k 0 n h) : X1_wordAt_w28 G k  n h := by
  subst hn0
  refine ww_iconst C (z := 0) dX1_wordAt_28 rfl ?_
  exact ww_sub [] rfl (by decide) (by decide) hy
set_option maxRecDepth 100000 in
set_option maxHeartbeats 4000000 in
theorem X1_wordAt_b29 {G : xG} {k : xK} {n0 : Nat} {Po : Int → xH → Prop} (C : CC G k cX1_wordAt RX1 2 rm_X1_wordAt) (E : CQ G k (some .int) rm_X1_wordAt (fun r n1 h1 => ∃ z : Int, r = some (.int (iz z)) ∧ n1 = n0 ∧ Po z h1)) (s0 : Int) (n : Nat) (h : xH) (hn0 : n = n0) (hy : Po s0 h) : X1_wordAt_w29 G k s0 n h := by
  subst hn0
  exact ww_iret C E dX1_wordAt_29 (by decide) (by decide) ⟨_, rfl, rfl, hy⟩
abbrev X1_trim_w0 (G : xG) (k : xK) (x0 : Nat) (n : Nat) (h : xH) : Prop := WW G k 1 0 0 0 [(0, rf G x0)] [] n h
abbrev X1_trim_w33 (G : xG) (k : xK)  (n : Nat) (h : xH) : Prop := WW G k 1 0 0 33 [] [] n h
theorem S_X1_trim_of {G : xG} {l : Launch} {x0 : Nat} {n : Nat} {h : xH} {Po : xH → Prop} (body : ∀ k : xK, kl k = l → CC G k cX1_trim RX1 1 rm_X1_trim → CQ G k none rm_X1_trim (fun r n1 h1 => r = none ∧ n1 = n ∧ Po h1) → X1_trim_w0 G k x0 n h) : S_X1_trim G l x0 n h Po := xS_of (by decide +kernel) (Nat.le_of_ble_eq_true rfl) rfl (fun k hl hnm C E => body k hl C E)
set_option maxRecDepth 100000 in
set_option maxHeartbeats 4000000 in
theorem X1_trim_b0 {G : xG} {k : xK} {n0 : Nat} {Po : xH → Prop} (C : CC G k cX1_trim RX1 1 rm_X1_trim) (E : CQ G k none rm_X1_trim (fun r n1 h1 => r = none ∧ n1 = n0 ∧ Po h1)) (x0 : Nat) (n : Nat) (h : xH) (hn0 : n = n0) (hy : okO n h x0 1 ∧ rg (hG h x0 1) ∧ (((hG h x0 1) ≤ 0 → X1_trim_w33 G k  n h) ∧ (¬ (hG h x0 1) ≤ 0 → okO n h x0 1 ∧ okO n h x0 1 ∧ S_X1_wordAt G (kl k) x0 ((hG h x0 1) - 1) n h (fun z6 h7 => rg z6 ∧ ((¬ z6 = 0 → X1_trim_w33 G k  n h7) ∧ (z6 = 0 → okO n h7 x0 1 ∧ okO n h7 x0 1 ∧ (∀ h12 : xH, h12 = hS h7 x0 1 ((hG h7 x0 1) - 1) → X1_trim_w0 G k x0 n h12))))))) : X1_trim_w0 G k x0 n h := by
  subst hn0
  refine ww_aload_n C 0 0 rfl rfl dX1_trim_0 ?_
  obtain ⟨p1, hy⟩ := hy
  refine gf_X1_13 C dX1_trim_1 p1 ?_
  obtain ⟨p2, hy⟩ := hy
  refine ww_if_le C (tg := 33) dX1_trim_4 (by decide) p2 (fun c3 => ?_) (fun c3 => ?_)
  · have hy := hy.1 c3
    exact ww_sub [] rfl (by decide) (by decide) hy
  · have hy := hy.2 c3
    refine ww_aload_n C 0 0 rfl rfl dX1_trim_7 ?_
    refine ww_aload_n C 0 0 rfl rfl dX1_trim_8 ?_
    obtain ⟨p4, hy⟩ := hy
    refine gf_X1_13 C dX1_trim_9 p4 ?_
    refine ww_iconst C (z := 1) dX1_trim_12 rfl ?_
    refine ww_isub C dX1_trim_13 ?_
    obtain ⟨p5, hy⟩ := hy
    refine cl_X1_20 C dX1_trim_14 (Nat.le_of_ble_eq_true rfl) ⟨by decide, by decide⟩ ⟨by decide, by decide⟩ p5 ?_
    refine S_X1_wordAt.mono hy (fun z6 h7 hy => ?_)
    obtain ⟨p8, hy⟩ := hy
    refine ww_if_ne C (tg := 33) dX1_trim_17 (by decide) p8 (fun c9 => ?_) (fun c9 => ?_)
    · have hy := hy.1 c9
      exact ww_sub [] rfl (by decide) (by decide) hy
    · have hy := hy.2 c9
      refine ww_aload_n C 0 0 rfl rfl dX1_trim_20 ?_
      refine ww_dup C rfl dX1_trim_21 ?_
      obtain ⟨p10, hy⟩ := hy
      refine gf_X1_13 C dX1_trim_22 p10 ?_
      refine ww_iconst C (z := 1) dX1_trim_25 rfl ?_
      refine ww_isub C dX1_trim_26 ?_
      obtain ⟨p11, hy⟩ := hy
      have hy := hy _ rfl
      refine pf_X1_13I C dX1_trim_27 p11 ?_
      refine ww_goto C (tg := 0) dX1_trim_30 (by decide) ?_
      exact ww_sub [0] rfl (by decide) (by decide) hy
set_option maxRecDepth 100000 in
set_option maxHeartbeats 4000000 in
theorem X1_trim_b33 {G : xG} {k : xK} {n0 : Nat} {Po : xH → Prop} (C : CC G k cX1_trim RX1 1 rm_X1_trim) (E : CQ G k none rm_X1_trim (fun r n1 h1 => r = none ∧ n1 = n0 ∧ Po h1))  (n : Nat) (h : xH) (hn0 : n = n0) (hy : Po h) : X1_trim_w33 G k  n h := by
  subst hn0
  exact ww_vret C E dX1_trim_33 (by decide) (by decide) ⟨rfl, rfl, hy⟩
abbrev X1_set_w0 (G : xG) (k : xK) (x0 : Nat) (x1 : Int) (n : Nat) (h : xH) : Prop := WW G k 3 0 0 0 [(0, rf G x0), (1, .long (lz x1))] [] n h
theorem S_X1_set_of {G : xG} {l : Launch} {x0 : Nat} {x1 : Int} {n : Nat} {h : xH} {Po : xH → Prop} (body : ∀ k : xK, kl k = l → CC G k cX1_set RX1 3 rm_X1_set → CQ G k none rm_X1_set (fun r n1 h1 => r = none ∧ n1 = n ∧ Po h1) → X1_set_w0 G k x0 x1 n h) : S_X1_set G l x0 x1 n h Po := xS_of (by decide +kernel) (Nat.le_of_ble_eq_true rfl) rfl (fun k hl hnm C E => body k hl C E)
set_option maxRecDepth 100000 in
set_option maxHeartbeats 4000000 in
theorem X1_set_b0 {G : xG} {k : xK} {n0 : Nat} {Po : xH → Prop} (C : CC G k cX1_set RX1 3 rm_X1_set) (E : CQ G k none rm_X1_set (fun r n1 h1 => r = none ∧ n1 = n0 ∧ Po h1)) (x0 : Nat) (x1 : Int) (n : Nat) (h : xH) (hn0 : n = n0) (hy : okO n h x0 1 ∧ 0 ≤ hG h x0 0 ∧ okA n h ((hG h x0 0).toNat) 100 0 ∧ (∀ h4 : xH, h4 = hS h ((hG h x0 0).toNat) 0 (w32 x1) → okO n h4 x0 1 ∧ 0 ≤ hG h4 x0 0 ∧ okA n h4 ((hG h4 x0 0).toNat) 100 1 ∧ (∀ h8 : xH, h8 = hS h4 ((hG h4 x0 0).toNat) 1 (w32 (lSu x1 32)) → okO n h8 x0 1 ∧ (∀ h10 : xH, h10 = hS h8 x0 1 2 → okO n h10 x0 1 ∧ S_X1_trim G (kl k) x0 n h10 (fun h12 => Po h12))))) : X1_set_w0 G k x0 x1 n h := by
  subst hn0
  refine ww_aload_n C 0 0 rfl rfl dX1_set_0 ?_
  obtain ⟨p1, hy⟩ := hy
  obtain ⟨p2, hy⟩ := hy
  refine gf_X1_9 C dX1_set_1 p1 p2 ?_
  refine ww_iconst C (z := 0) dX1_set_4 rfl ?_
  refine ww_lload_n C 1 1 rfl rfl dX1_set_5 ?_
  refine ww_l2i C dX1_set_6 ?_
  refine ww_w32 ?_
  obtain ⟨p3, hy⟩ := hy
  have hy := hy _ rfl
  refine ww_iast C dX1_set_7 p3 ?_
  refine ww_aload_n C 0 0 rfl rfl dX1_set_8 ?_
  obtain ⟨p5, hy⟩ := hy
  obtain ⟨p6, hy⟩ := hy
  refine gf_X1_9 C dX1_set_9 p5 p6 ?_
  refine ww_iconst C (z := 1) dX1_set_12 rfl ?_
  refine ww_lload_n C 1 1 rfl rfl dX1_set_13 ?_
  refine ww_bipush C (z := 32) dX1_set_14 rfl ?_
  refine ww_lushr C dX1_set_16 ?_
  refine ww_l2i C dX1_set_17 ?_
  refine ww_w32 ?_
  obtain ⟨p7, hy⟩ := hy
  have hy := hy _ rfl
  refine ww_iast C dX1_set_18 p7 ?_
  refine ww_aload_n C 0 0 rfl rfl dX1_set_19 ?_
  refine ww_iconst C (z := 2) dX1_set_20 rfl ?_
  obtain ⟨p9, hy⟩ := hy
  have hy := hy _ rfl
  refine pf_X1_13I C dX1_set_21 p9 ?_
  refine ww_aload_n C 0 0 rfl rfl dX1_set_24 ?_
  obtain ⟨p11, hy⟩ := hy
  refine cl_X1_17 C dX1_set_25 (Nat.le_of_ble_eq_true rfl) ⟨by decide, by decide⟩ ⟨by decide, by decide⟩ p11 ?_
  refine S_X1_trim.mono hy (fun h12 hy => ?_)
  exact ww_vret C E dX1_set_28 (by decide) (by decide) ⟨rfl, rfl, hy⟩
abbrev X1_copy_w0 (G : xG) (k : xK) (x0 : Nat) (x1 : Nat) (n : Nat) (h : xH) : Prop := WW G k 3 0 0 0 [(0, rf G x0), (1, rf G x1)] [] n h
abbrev X1_copy_w2 (G : xG) (k : xK) (x0 : Nat) (x1 : Nat) (x2 : Int) (n : Nat) (h : xH) : Prop := WW G k 3 0 0 2 [(0, rf G x0), (1, rf G x1), (2, .int (iz x2))] [] n h
abbrev X1_copy_w35 (G : xG) (k : xK) (x0 : Nat) (x1 : Nat) (n : Nat) (h : xH) : Prop := WW G k 3 0 0 35 [(0, rf G x0), (1, rf G x1)] [] n h
theorem S_X1_copy_of {G : xG} {l : Launch} {x0 : Nat} {x1 : Nat} {n : Nat} {h : xH} {Po : xH → Prop} (body : ∀ k : xK, kl k = l → CC G k cX1_copy RX1 3 rm_X1_copy → CQ G k none rm_X1_copy (fun r n1 h1 => r = none ∧ n1 = n ∧ Po h1) → X1_copy_w0 G k x0 x1 n h) : S_X1_copy G l x0 x1 n h Po := xS_of (by decide +kernel) (Nat.le_of_ble_eq_true rfl) rfl (fun k hl hnm C E => body k hl C E)
set_option maxRecDepth 100000 in
set_option maxHeartbeats 4000000 in
theorem X1_copy_b0 {G : xG} {k : xK} {n0 : Nat} {Po : xH → Prop} (C : CC G k cX1_copy RX1 3 rm_X1_copy) (E : CQ G k none rm_X1_copy (fun r n1 h1 => r = none ∧ n1 = n0 ∧ Po h1)) (x0 : Nat) (x1 : Nat) (n : Nat) (h : xH) (hn0 : n = n0) (hy : X1_copy_w2 G k x0 x1 0 n h) : X1_copy_w0 G k x0 x1 n h := by
  subst hn0
  refine ww_iconst C (z := 0) dX1_copy_0 rfl ?_
  refine ww_istore_n C 2 rfl (by decide) rfl dX1_copy_1 ?_
  exact ww_sub [1, 2, 0] rfl (by decide) (by decide) hy
set_option maxRecDepth 100000 in
set_option maxHeartbeats 4000000 in
theorem X1_copy_b2 {G : xG} {k : xK} {n0 : Nat} {Po : xH → Prop} (C : CC G k cX1_copy RX1 3 rm_X1_copy) (E : CQ G k none rm_X1_copy (fun r n1 h1 => r = none ∧ n1 = n0 ∧ Po h1)) (x0 : Nat) (x1 : Nat) (x2 : Int) (n : Nat) (h : xH) (hn0 : n = n0) (hy : okO n h x1 1 ∧ (rg x2 ∧ rg (hG h x1 1)) ∧ (((hG h x1 1) ≤ x2 → X1_copy_w35 G k x0 x1 n h) ∧ (¬ (hG h x1 1) ≤ x2 → (rg x2 ∧ rg (132 : Int)) ∧ (((132 : Int) ≤ x2 → X1_copy_w35 G k x0 x1 n h) ∧ (¬ (132 : Int) ≤ x2 → okO n h x0 1 ∧ 0 ≤ hG h x0 0 ∧ okO n h x1 1 ∧ 0 ≤ hG h x1 0 ∧ okA n h ((hG h x1 0).toNat) 100 x2 ∧ okA n h ((hG h x0 0).toNat) 100 x2 ∧ (∀ h12 : xH, h12 = hS h ((hG h x0 0).toNat) (x2.toNat) (hG h ((hG h x1 0).toNat) (x2.toNat)) → X1_copy_w2 G k x0 x1 (x2 + 1) n h12)))))) : X1_copy_w2 G k x0 x1 x2 n h := by
  subst hn0
  refine ww_iload_n C 2 2 rfl rfl dX1_copy_2 ?_
  refine ww_aload_n C 1 1 rfl rfl dX1_copy_3 ?_
  obtain ⟨p1, hy⟩ := hy
  refine gf_X1_13 C dX1_copy_4 p1 ?_
  obtain ⟨p2, hy⟩ := hy
  refine ww_icmp_ge C (tg := 35) dX1_copy_7 (by decide) p2.1 p2.2 (fun c3 => ?_) (fun c3 => ?_)
  · have hy := hy.1 c3
    exact ww_sub [0, 1] rfl (by decide) (by decide) hy
  · have hy := hy.2 c3
    refine ww_iload_n C 2 2 rfl rfl dX1_copy_10 ?_
    refine ww_sipush C (z := 132) dX1_copy_11 rfl ?_
    obtain ⟨p4, hy⟩ := hy
    refine ww_icmp_ge C (tg := 35) dX1_copy_14 (by decide) p4.1 p4.2 (fun c5 => ?_) (fun c5 => ?_)
    · have hy := hy.1 c5
      exact ww_sub [0, 1] rfl (by decide) (by decide) hy
    · have hy := hy.2 c5
      refine ww_aload_n C 0 0 rfl rfl dX1_copy_17 ?_
      obtain ⟨p6, hy⟩ := hy
      obtain ⟨p7, hy⟩ := hy
      refine gf_X1_9 C dX1_copy_18 p6 p7 ?_
      refine ww_iload_n C 2 2 rfl rfl dX1_copy_21 ?_
      refine ww_aload_n C 1 1 rfl rfl dX1_copy_22 ?_
      obtain ⟨p8, hy⟩ := hy
      obtain ⟨p9, hy⟩ := hy
      refine gf_X1_9 C dX1_copy_23 p8 p9 ?_
      refine ww_iload_n C 2 2 rfl rfl dX1_copy_26 ?_
      obtain ⟨p10, hy⟩ := hy
      refine ww_iald C dX1_copy_27 p10 ?_
      obtain ⟨p11, hy⟩ := hy
      have hy := hy _ rfl
      refine ww_iast C dX1_copy_28 p11 ?_
      refine ww_iinc C 2 2 rfl (by decide) rfl dX1_copy_29 ?_
      refine ww_goto C (tg := 2) dX1_copy_32 (by decide) ?_
      exact ww_sub [1, 2, 0] rfl (by decide) (by decide) hy
set_option maxRecDepth 100000 in
set_option maxHeartbeats 4000000 in
theorem X1_copy_b35 {G : xG} {k : xK} {n0 : Nat} {Po : xH → Prop} (C : CC G k cX1_copy RX1 3 rm_X1_copy) (E : CQ G k none rm_X1_copy (fun r n1 h1 => r = none ∧ n1 = n0 ∧ Po h1)) (x0 : Nat) (x1 : Nat) (n : Nat) (h : xH) (hn0 : n = n0) (hy : okO n h x1 1 ∧ okO n h x0 1 ∧ (∀ h3 : xH, h3 = hS h x0 1 (hG h x1 1) → Po h3)) : X1_copy_w35 G k x0 x1 n h := by
  subst hn0
  refine ww_aload_n C 0 0 rfl rfl dX1_copy_35 ?_
  refine ww_aload_n C 1 1 rfl rfl dX1_copy_36 ?_
  obtain ⟨p1, hy⟩ := hy
  refine gf_X1_13 C dX1_copy_37 p1 ?_
  obtain ⟨p2, hy⟩ := hy
  have hy := hy _ rfl
  refine pf_X1_13I C dX1_copy_40 p2 ?_
  exact ww_vret C E dX1_copy_43 (by decide) (by decide) ⟨rfl, rfl, hy⟩
abbrev X1_isZero_w0 (G : xG) (k : xK) (x0 : Nat) (n : Nat) (h : xH) : Prop := WW G k 1 0 0 0 [(0, rf G x0)] [] n h
abbrev X1_isZero_w12 (G : xG) (k : xK) (s0 : Int) (n : Nat) (h : xH) : Prop := WW G k 1 0 0 12 [] [.int (iz s0)] n h
theorem S_X1_isZero_of {G : xG} {l : Launch} {x0 : Nat} {n : Nat} {h : xH} {Po : Int → xH → Prop} (body : ∀ k : xK, kl k = l → CC G k cX1_isZero RX1 1 rm_X1_isZero → CQ G k (some .boolean) rm_X1_isZero (fun r n1 h1 => ∃ z : Int, r = some (.int (iz z)) ∧ n1 = n ∧ Po z h1) → X1_isZero_w0 G k x0 n h) : S_X1_isZero G l x0 n h Po := xS_of (by decide +kernel) (Nat.le_of_ble_eq_true rfl) rfl (fun k hl hnm C E => body k hl C E)
set_option maxRecDepth 100000 in
set_option maxHeartbeats 4000000 in
theorem X1_isZero_b0 {G : xG} {k : xK} {n0 : Nat} {Po : Int → xH → Prop} (C : CC G k cX1_isZero RX1 1 rm_X1_isZero) (E : CQ G k (some .boolean) rm_X1_isZero (fun r n1 h1 => ∃ z : Int, r = some (.int (iz z)) ∧ n1 = n0 ∧ Po z h1)) (x0 : Nat) (n : Nat) (h : xH) (hn0 : n = n0) (hy : okO n h x0 1 ∧ rg (hG h x0 1) ∧ ((¬ (hG h x0 1) = 0 → X1_isZero_w12 G k 0 n h) ∧ ((hG h x0 1) = 0 → X1_isZero_w12 G k 1 n h))) : X1_isZero_w0 G k x0 n h := by
  subst hn0
  refine ww_aload_n C 0 0 rfl rfl dX1_isZero_0 ?_
  obtain ⟨p1, hy⟩ := hy
  refine gf_X1_13 C dX1_isZero_1 p1 ?_
  obtain ⟨p2, hy⟩ := hy
  refine ww_if_ne C (tg := 11) dX1_isZero_4 (by decide) p2 (fun c3 => ?_) (fun c3 => ?_)
  · have hy := hy.1 c3
    refine ww_iconst C (z := 0) dX1_isZero_11 rfl ?_
    exact ww_sub [] rfl (by decide) (by decide) hy
  · have hy := hy.2 c3
    refine ww_iconst C (z := 1) dX1_isZero_7 rfl ?_
    refine ww_goto C (tg := 12) dX1_isZero_8 (by decide) ?_
    exact ww_sub [] rfl (by decide) (by decide) hy
set_option maxRecDepth 100000 in
set_option maxHeartbeats 4000000 in
theorem X1_isZero_b12 {G : xG} {k : xK} {n0 : Nat} {Po : Int → xH → Prop} (C : CC G k cX1_isZero RX1 1 rm_X1_isZero) (E : CQ G k (some .boolean) rm_X1_isZero (fun r n1 h1 => ∃ z : Int, r = some (.int (iz z)) ∧ n1 = n0 ∧ Po z h1)) (s0 : Int) (n : Nat) (h : xH) (hn0 : n = n0) (hy : (s0 = 0 ∨ s0 = 1) ∧ Po s0 h) : X1_isZero_w12 G k s0 n h := by
  subst hn0
  obtain ⟨p1, hy⟩ := hy
  exact ww_zret C E dX1_isZero_12 (nz_b p1) (by decide) (by decide) ⟨_, rfl, rfl, hy⟩
abbrev X1_isOne_w0 (G : xG) (k : xK) (x0 : Nat) (n : Nat) (h : xH) : Prop := WW G k 1 0 0 0 [(0, rf G x0)] [] n h
abbrev X1_isOne_w22 (G : xG) (k : xK)  (n : Nat) (h : xH) : Prop := WW G k 1 0 0 22 [] [] n h
abbrev X1_isOne_w23 (G : xG) (k : xK) (s0 : Int) (n : Nat) (h : xH) : Prop := WW G k 1 0 0 23 [] [.int (iz s0)] n h
theorem S_X1_isOne_of {G : xG} {l : Launch} {x0 : Nat} {n : Nat} {h : xH} {Po : Int → xH → Prop} (body : ∀ k : xK, kl k = l → CC G k cX1_isOne RX1 1 rm_X1_isOne → CQ G k (some .boolean) rm_X1_isOne (fun r n1 h1 => ∃ z : Int, r = some (.int (iz z)) ∧ n1 = n ∧ Po z h1) → X1_isOne_w0 G k x0 n h) : S_X1_isOne G l x0 n h Po := xS_of (by decide +kernel) (Nat.le_of_ble_eq_true rfl) rfl (fun k hl hnm C E => body k hl C E)
set_option maxRecDepth 100000 in
set_option maxHeartbeats 4000000 in
theorem X1_isOne_b0 {G : xG} {k : xK} {n0 : Nat} {Po : Int → xH → Prop} (C : CC G k cX1_isOne RX1 1 rm_X1_isOne) (E : CQ G k (some .boolean) rm_X1_isOne (fun r n1 h1 => ∃ z : Int, r = some (.int (iz z)) ∧ n1 = n0 ∧ Po z h1)) (x0 : Nat) (n : Nat) (h : xH) (hn0 : n = n0) (hy : okO n h x0 1 ∧ (rg (hG h x0 1) ∧ rg (1 : Int)) ∧ ((¬ (hG h x0 1) = (1 : Int) → X1_isOne_w22 G k  n h) ∧ ((hG h x0 1) = (1 : Int) → okO n h x0 1 ∧ 0 ≤ hG h x0 0 ∧ okA n h ((hG h x0 0).toNat) 100 0 ∧ (rg (hG h ((hG h x0 0).toNat) 0) ∧ rg (1 : Int)) ∧ ((¬ (hG h ((hG h x0 0).toNat) 0) = (1 : Int) → X1_isOne_w22 G k  n h) ∧ ((hG h ((hG h x0 0).toNat) 0) = (1 : Int) → X1_isOne_w23 G k 1 n h))))) : X1_isOne_w0 G k x0 n h := by
  subst hn0
  refine ww_aload_n C 0 0 rfl rfl dX1_isOne_0 ?_
  obtain ⟨p1, hy⟩ := hy
  refine gf_X1_13 C dX1_isOne_1 p1 ?_
  refine ww_iconst C (z := 1) dX1_isOne_4 rfl ?_
  obtain ⟨p2, hy⟩ := hy
  refine ww_icmp_ne C (tg := 22) dX1_isOne_5 (by decide) p2.1 p2.2 (fun c3 => ?_) (fun c3 => ?_)
  · have hy := hy.1 c3
    exact ww_sub [] rfl (by decide) (by decide) hy
  · have hy := hy.2 c3
    refine ww_aload_n C 0 0 rfl rfl dX1_isOne_8 ?_
    obtain ⟨p4, hy⟩ := hy
    obtain ⟨p5, hy⟩ := hy
    refine gf_X1_9 C dX1_isOne_9 p4 p5 ?_
    refine ww_iconst C (z := 0) dX1_isOne_12 rfl ?_
    obtain ⟨p6, hy⟩ := hy
    refine ww_iald C dX1_isOne_13 p6 ?_
    refine ww_iconst C (z := 1) dX1_isOne_14 rfl ?_
    obtain ⟨p7, hy⟩ := hy
    refine ww_icmp_ne C (tg := 22) dX1_isOne_15 (by decide) p7.1 p7.2 (fun c8 => ?_) (fun c8 => ?_)
    · have hy := hy.1 c8
      exact ww_sub [] rfl (by decide) (by decide) hy
    · have hy := hy.2 c8
      refine ww_iconst C (z := 1) dX1_isOne_18 rfl ?_
      refine ww_goto C (tg := 23) dX1_isOne_19 (by decide) ?_
      exact ww_sub [] rfl (by decide) (by decide) hy
set_option maxRecDepth 100000 in
set_option maxHeartbeats 4000000 in
theorem X1_isOne_b22 {G : xG} {k : xK} {n0 : Nat} {Po : Int → xH → Prop} (C : CC G k cX1_isOne RX1 1 rm_X1_isOne) (E : CQ G k (some .boolean) rm_X1_isOne (fun r n1 h1 => ∃ z : Int, r = some (.int (iz z)) ∧ n1 = n0 ∧ Po z h1))  (n : Nat) (h : xH) (hn0 : n = n0) (hy : X1_isOne_w23 G k 0 n h) : X1_isOne_w22 G k  n h := by
  subst hn0
  refine ww_iconst C (z := 0) dX1_isOne_22 rfl ?_
  exact ww_sub [] rfl (by decide) (by decide) hy
set_option maxRecDepth 100000 in
set_option maxHeartbeats 4000000 in
theorem X1_isOne_b23 {G : xG} {k : xK} {n0 : Nat} {Po : Int → xH → Prop} (C : CC G k cX1_isOne RX1 1 rm_X1_isOne) (E : CQ G k (some .boolean) rm_X1_isOne (fun r n1 h1 => ∃ z : Int, r = some (.int (iz z)) ∧ n1 = n0 ∧ Po z h1)) (s0 : Int) (n : Nat) (h : xH) (hn0 : n = n0) (hy : (s0 = 0 ∨ s0 = 1) ∧ Po s0 h) : X1_isOne_w23 G k s0 n h := by
  subst hn0
  obtain ⟨p1, hy⟩ := hy
  exact ww_zret C E dX1_isOne_23 (nz_b p1) (by decide) (by decide) ⟨_, rfl, rfl, hy⟩
abbrev X1_bitLength_w0 (G : xG) (k : xK) (x0 : Nat) (n : Nat) (h : xH) : Prop := WW G k 1 0 0 0 [(0, rf G x0)] [] n h
abbrev X1_bitLength_w32 (G : xG) (k : xK) (s0 : Int) (n : Nat) (h : xH) : Prop := WW G k 1 0 0 32 [] [.int (iz s0)] n h
theorem S_X1_bitLength_of {G : xG} {l : Launch} {x0 : Nat} {n : Nat} {h : xH} {Po : Int → xH → Prop} (body : ∀ k : xK, kl k = l → CC G k cX1_bitLength RX1 1 rm_X1_bitLength → CQ G k (some .int) rm_X1_bitLength (fun r n1 h1 => ∃ z : Int, r = some (.int (iz z)) ∧ n1 = n ∧ Po z h1) → X1_bitLength_w0 G k x0 n h) : S_X1_bitLength G l x0 n h Po := xS_of (by decide +kernel) (Nat.le_of_ble_eq_true rfl) rfl (fun k hl hnm C E => body k hl C E)
set_option maxRecDepth 100000 in
set_option maxHeartbeats 4000000 in
theorem X1_bitLength_b0 {G : xG} {k : xK} {n0 : Nat} {Po : Int → xH → Prop} (C : CC G k cX1_bitLength RX1 1 rm_X1_bitLength) (E : CQ G k (some .int) rm_X1_bitLength (fun r n1 h1 => ∃ z : Int, r = some (.int (iz z)) ∧ n1 = n0 ∧ Po z h1)) (x0 : Nat) (n : Nat) (h : xH) (hn0 : n = n0) (hy : okO n h x0 1 ∧ rg (hG h x0 1) ∧ ((¬ (hG h x0 1) = 0 → okO n h x0 1 ∧ okO n h x0 1 ∧ okO n h x0 1 ∧ S_X1_wordAt G (kl k) x0 ((hG h x0 1) - 1) n h (fun z7 h8 => S_J6_numberOfLeadingZeros_0f7a4 G (kl k) z7 n h8 (fun z9 h10 => X1_bitLength_w32 G k ((32 * (hG h x0 1)) - z9) n h10))) ∧ ((hG h x0 1) = 0 → X1_bitLength_w32 G k 0 n h))) : X1_bitLength_w0 G k x0 n h := by
  subst hn0
  refine ww_aload_n C 0 0 rfl rfl dX1_bitLength_0 ?_
  obtain ⟨p1, hy⟩ := hy
  refine gf_X1_13 C dX1_bitLength_1 p1 ?_
  obtain ⟨p2, hy⟩ := hy
  refine ww_if_ne C (tg := 11) dX1_bitLength_4 (by decide) p2 (fun c3 => ?_) (fun c3 => ?_)
  · have hy := hy.1 c3
    refine ww_bipush C (z := 32) dX1_bitLength_11 rfl ?_
    refine ww_aload_n C 0 0 rfl rfl dX1_bitLength_13 ?_
    obtain ⟨p4, hy⟩ := hy
    refine gf_X1_13 C dX1_bitLength_14 p4 ?_
    refine ww_imul C dX1_bitLength_17 ?_
    refine ww_aload_n C 0 0 rfl rfl dX1_bitLength_18 ?_
    refine ww_aload_n C 0 0 rfl rfl dX1_bitLength_19 ?_
    obtain ⟨p5, hy⟩ := hy
    refine gf_X1_13 C dX1_bitLength_20 p5 ?_
    refine ww_iconst C (z := 1) dX1_bitLength_23 rfl ?_
    refine ww_isub C dX1_bitLength_24 ?_
    obtain ⟨p6, hy⟩ := hy
    refine cl_X1_20 C dX1_bitLength_25 (Nat.le_of_ble_eq_true rfl) ⟨by decide, by decide⟩ ⟨by decide, by decide⟩ p6 ?_
    refine S_X1_wordAt.mono hy (fun z7 h8 hy => ?_)
    refine cl_X1_24 C dX1_bitLength_28 (Nat.le_of_ble_eq_true rfl) ⟨by decide, by decide⟩ ⟨by decide, by decide⟩ ?_
    refine S_J6_numberOfLeadingZeros_0f7a4.mono hy (fun z9 h10 hy => ?_)
    refine ww_isub C dX1_bitLength_31 ?_
    exact ww_sub [] rfl (by decide) (by decide) hy
  · have hy := hy.2 c3
    refine ww_iconst C (z := 0) dX1_bitLength_7 rfl ?_
    refine ww_goto C (tg := 32) dX1_bitLength_8 (by decide) ?_
    exact ww_sub [] rfl (by decide) (by decide) hy
set_option maxRecDepth 100000 in
set_option maxHeartbeats 4000000 in
theorem X1_bitLength_b32 {G : xG} {k : xK} {n0 : Nat} {Po : Int → xH → Prop} (C : CC G k cX1_bitLength RX1 1 rm_X1_bitLength) (E : CQ G k (some .int) rm_X1_bitLength (fun r n1 h1 => ∃ z : Int, r = some (.int (iz z)) ∧ n1 = n0 ∧ Po z h1)) (s0 : Int) (n : Nat) (h : xH) (hn0 : n = n0) (hy : Po s0 h) : X1_bitLength_w32 G k s0 n h := by
  subst hn0
  exact ww_iret C E dX1_bitLength_32 (by decide) (by decide) ⟨_, rfl, rfl, hy⟩
abbrev X1_trailingZeros_w0 (G : xG) (k : xK) (x0 : Nat) (n : Nat) (h : xH) : Prop := WW G k 2 0 0 0 [(0, rf G x0)] [] n h
abbrev X1_trailingZeros_w2 (G : xG) (k : xK) (x0 : Nat) (x1 : Int) (n : Nat) (h : xH) : Prop := WW G k 2 0 0 2 [(0, rf G x0), (1, .int (iz x1))] [] n h
theorem S_X1_trailingZeros_of {G : xG} {l : Launch} {x0 : Nat} {n : Nat} {h : xH} {Po : Int → xH → Prop} (body : ∀ k : xK, kl k = l → CC G k cX1_trailingZeros RX1 2 rm_X1_trailingZeros → CQ G k (some .int) rm_X1_trailingZeros (fun r n1 h1 => ∃ z : Int, r = some (.int (iz z)) ∧ n1 = n ∧ Po z h1) → X1_trailingZeros_w0 G k x0 n h) : S_X1_trailingZeros G l x0 n h Po := xS_of (by decide +kernel) (Nat.le_of_ble_eq_true rfl) rfl (fun k hl hnm C E => body k hl C E)
set_option maxRecDepth 100000 in
set_option maxHeartbeats 4000000 in
theorem X1_trailingZeros_b0 {G : xG} {k : xK} {n0 : Nat} {Po : Int → xH → Prop} (C : CC G k cX1_trailingZeros RX1 2 rm_X1_trailingZeros) (E : CQ G k (some .int) rm_X1_trailingZeros (fun r n1 h1 => ∃ z : Int, r = some (.int (iz z)) ∧ n1 = n0 ∧ Po z h1)) (x0 : Nat) (n : Nat) (h : xH) (hn0 : n = n0) (hy : X1_trailingZeros_w2 G k x0 0 n h) : X1_trailingZeros_w0 G k x0 n h := by
  subst hn0
  refine ww_iconst C (z := 0) dX1_trailingZeros_0 rfl ?_
  refine ww_istore_n C 1 rfl (by decide) rfl dX1_trailingZeros_1 ?_
  exact ww_sub [1, 0] rfl (by decide) (by decide) hy
set_option maxRecDepth 100000 in
set_option maxHeartbeats 4000000 in
theorem X1_trailingZeros_b2 {G : xG} {k : xK} {n0 : Nat} {Po : Int → xH → Prop} (C : CC G k cX1_trailingZeros RX1 2 rm_X1_trailingZeros) (E : CQ G k (some .int) rm_X1_trailingZeros (fun r n1 h1 => ∃ z : Int, r = some (.int (iz z)) ∧ n1 = n0 ∧ Po z h1)) (x0 : Nat) (x1 : Int) (n : Nat) (h : xH) (hn0 : n = n0) (hy : okO n h x0 1 ∧ (rg x1 ∧ rg (hG h x0 1)) ∧ (((hG h x0 1) ≤ x1 → Po (0 : Int) h) ∧ (¬ (hG h x0 1) ≤ x1 → okO n h x0 1 ∧ S_X1_wordAt G (kl k) x0 x1 n h (fun z5 h6 => rg z5 ∧ ((z5 = 0 → X1_trailingZeros_w2 G k x0 (x1 + 1) n h6) ∧ (¬ z5 = 0 → okO n h6 x0 1 ∧ S_X1_wordAt G (kl k) x0 x1 n h6 (fun z10 h11 => S_J6_numberOfTrailingZeros_0f7a4 G (kl k) z10 n h11 (fun z12 h13 => Po ((32 * x1) + z12) h13)))))))) : X1_trailingZeros_w2 G k x0 x1 n h := by
  subst hn0
  refine ww_iload_n C 1 1 rfl rfl dX1_trailingZeros_2 ?_
  refine ww_aload_n C 0 0 rfl rfl dX1_trailingZeros_3 ?_
  obtain ⟨p1, hy⟩ := hy
  refine gf_X1_13 C dX1_trailingZeros_4 p1 ?_
  obtain ⟨p2, hy⟩ := hy
  refine ww_icmp_ge C (tg := 38) dX1_trailingZeros_7 (by decide) p2.1 p2.2 (fun c3 => ?_) (fun c3 => ?_)
  · have hy := hy.1 c3
    refine ww_iconst C (z := 0) dX1_trailingZeros_38 rfl ?_
    exact ww_iret C E dX1_trailingZeros_39 (by decide) (by decide) ⟨_, rfl, rfl, hy⟩
  · have hy := hy.2 c3
    refine ww_aload_n C 0 0 rfl rfl dX1_trailingZeros_10 ?_
    refine ww_iload_n C 1 1 rfl rfl dX1_trailingZeros_11 ?_
    obtain ⟨p4, hy⟩ := hy
    refine cl_X1_20 C dX1_trailingZeros_12 (Nat.le_of_ble_eq_true rfl) ⟨by decide, by decide⟩ ⟨by decide, by decide⟩ p4 ?_
    refine S_X1_wordAt.mono hy (fun z5 h6 hy => ?_)
    obtain ⟨p7, hy⟩ := hy
    refine ww_if_eq C (tg := 32) dX1_trailingZeros_15 (by decide) p7 (fun c8 => ?_) (fun c8 => ?_)
    · have hy := hy.1 c8
      refine ww_iinc C 1 1 rfl (by decide) rfl dX1_trailingZeros_32 ?_
      refine ww_goto C (tg := 2) dX1_trailingZeros_35 (by decide) ?_
      exact ww_sub [1, 0] rfl (by decide) (by decide) hy
    · have hy := hy.2 c8
      refine ww_bipush C (z := 32) dX1_trailingZeros_18 rfl ?_
      refine ww_iload_n C 1 1 rfl rfl dX1_trailingZeros_20 ?_
      refine ww_imul C dX1_trailingZeros_21 ?_
      refine ww_aload_n C 0 0 rfl rfl dX1_trailingZeros_22 ?_
      refine ww_iload_n C 1 1 rfl rfl dX1_trailingZeros_23 ?_
      obtain ⟨p9, hy⟩ := hy
      refine cl_X1_20 C dX1_trailingZeros_24 (Nat.le_of_ble_eq_true rfl) ⟨by decide, by decide⟩ ⟨by decide, by decide⟩ p9 ?_
      refine S_X1_wordAt.mono hy (fun z10 h11 hy => ?_)
      refine cl_X1_29 C dX1_trailingZeros_27 (Nat.le_of_ble_eq_true rfl) ⟨by decide, by decide⟩ ⟨by decide, by decide⟩ ?_
      refine S_J6_numberOfTrailingZeros_0f7a4.mono hy (fun z12 h13 hy => ?_)
      refine ww_iadd C dX1_trailingZeros_30 ?_
      exact ww_iret C E dX1_trailingZeros_31 (by decide) (by decide) ⟨_, rfl, rfl, hy⟩
abbrev X1_compare_w0 (G : xG) (k : xK) (x0 : Nat) (x1 : Nat) (n : Nat) (h : xH) : Prop := WW G k 4 0 0 0 [(0, rf G x0), (1, rf G x1)] [] n h
abbrev X1_compare_w30 (G : xG) (k : xK) (x0 : Nat) (x1 : Nat) (x2 : Int) (n : Nat) (h : xH) : Prop := WW G k 4 0 0 30 [(0, rf G x0), (1, rf G x1), (2, .int (iz x2))] [] n h
theorem S_X1_compare_of {G : xG} {l : Launch} {x0 : Nat} {x1 : Nat} {n : Nat} {h : xH} {Po : Int → xH → Prop} (body : ∀ k : xK, kl k = l → CC G k cX1_compare RX1 4 rm_X1_compare → CQ G k (some .int) rm_X1_compare (fun r n1 h1 => ∃ z : Int, r = some (.int (iz z)) ∧ n1 = n ∧ Po z h1) → X1_compare_w0 G k x0 x1 n h) : S_X1_compare G l x0 x1 n h Po := xS_of (by decide +kernel) (Nat.le_of_ble_eq_true rfl) rfl (fun k hl hnm C E => body k hl C E)
set_option maxRecDepth 100000 in
set_option maxHeartbeats 4000000 in
theorem X1_compare_b0 {G : xG} {k : xK} {n0 : Nat} {Po : Int → xH → Prop} (C : CC G k cX1_compare RX1 4 rm_X1_compare) (E : CQ G k (some .int) rm_X1_compare (fun r n1 h1 => ∃ z : Int, r = some (.int (iz z)) ∧ n1 = n0 ∧ Po z h1)) (x0 : Nat) (x1 : Nat) (n : Nat) (h : xH) (hn0 : n = n0) (hy : okO n h x0 1 ∧ okO n h x1 1 ∧ (rg (hG h x0 1) ∧ rg (hG h x1 1)) ∧ (((hG h x0 1) = (hG h x1 1) → okO n h x0 1 ∧ X1_compare_w30 G k x0 x1 ((hG h x0 1) - 1) n h) ∧ (¬ (hG h x0 1) = (hG h x1 1) → okO n h x0 1 ∧ okO n h x1 1 ∧ S_J6_compare_7cf53 G (kl k) (hG h x0 1) (hG h x1 1) n h (fun z8 h9 => Po z8 h9)))) : X1_compare_w0 G k x0 x1 n h := by
  subst hn0
  refine ww_aload_n C 0 0 rfl rfl dX1_compare_0 ?_
  obtain ⟨p1, hy⟩ := hy
  refine gf_X1_13 C dX1_compare_1 p1 ?_
  refine ww_aload_n C 1 1 rfl rfl dX1_compare_4 ?_
  obtain ⟨p2, hy⟩ := hy
  refine gf_X1_13 C dX1_compare_5 p2 ?_
  obtain ⟨p3, hy⟩ := hy
  refine ww_icmp_eq C (tg := 23) dX1_compare_8 (by decide) p3.1 p3.2 (fun c4 => ?_) (fun c4 => ?_)
  · have hy := hy.1 c4
    refine ww_aload_n C 0 0 rfl rfl dX1_compare_23 ?_
    obtain ⟨p5, hy⟩ := hy
    refine gf_X1_13 C dX1_compare_24 p5 ?_
    refine ww_iconst C (z := 1) dX1_compare_27 rfl ?_
    refine ww_isub C dX1_compare_28 ?_
    refine ww_istore_n C 2 rfl (by decide) rfl dX1_compare_29 ?_
    exact ww_sub [1, 2, 0] rfl (by decide) (by decide) hy
  · have hy := hy.2 c4
    refine ww_aload_n C 0 0 rfl rfl dX1_compare_11 ?_
    obtain ⟨p6, hy⟩ := hy
    refine gf_X1_13 C dX1_compare_12 p6 ?_
    refine ww_aload_n C 1 1 rfl rfl dX1_compare_15 ?_
    obtain ⟨p7, hy⟩ := hy
    refine gf_X1_13 C dX1_compare_16 p7 ?_
    refine cl_X1_32 C dX1_compare_19 (Nat.le_of_ble_eq_true rfl) ⟨by decide, by decide⟩ ⟨by decide, by decide⟩ ?_
    refine S_J6_compare_7cf53.mono hy (fun z8 h9 hy => ?_)
    exact ww_iret C E dX1_compare_22 (by decide) (by decide) ⟨_, rfl, rfl, hy⟩
set_option maxRecDepth 100000 in
set_option maxHeartbeats 4000000 in
theorem X1_compare_b30 {G : xG} {k : xK} {n0 : Nat} {Po : Int → xH → Prop} (C : CC G k cX1_compare RX1 4 rm_X1_compare) (E : CQ G k (some .int) rm_X1_compare (fun r n1 h1 => ∃ z : Int, r = some (.int (iz z)) ∧ n1 = n0 ∧ Po z h1)) (x0 : Nat) (x1 : Nat) (x2 : Int) (n : Nat) (h : xH) (hn0 : n = n0) (hy : rg x2 ∧ ((x2 < 0 → Po (0 : Int) h) ∧ (¬ x2 < 0 → okO n h x0 1 ∧ S_X1_wordAt G (kl k) x0 x2 n h (fun z4 h5 => okO n h5 x1 1 ∧ S_X1_wordAt G (kl k) x1 x2 n h5 (fun z7 h8 => S_J6_compareUnsigned_7cf53 G (kl k) z4 z7 n h8 (fun z9 h10 => rg z9 ∧ ((z9 = 0 → X1_compare_w30 G k x0 x1 (x2 + (-1)) n h10) ∧ (¬ z9 = 0 → Po z9 h10)))))))) : X1_compare_w30 G k x0 x1 x2 n h := by
  subst hn0
  refine ww_iload_n C 2 2 rfl rfl dX1_compare_30 ?_
  obtain ⟨p1, hy⟩ := hy
  refine ww_if_lt C (tg := 60) dX1_compare_31 (by decide) p1 (fun c2 => ?_) (fun c2 => ?_)
  · have hy := hy.1 c2
    refine ww_iconst C (z := 0) dX1_compare_60 rfl ?_
    exact ww_iret C E dX1_compare_61 (by decide) (by decide) ⟨_, rfl, rfl, hy⟩
  · have hy := hy.2 c2
    refine ww_aload_n C 0 0 rfl rfl dX1_compare_34 ?_
    refine ww_iload_n C 2 2 rfl rfl dX1_compare_35 ?_
    obtain ⟨p3, hy⟩ := hy
    refine cl_X1_20 C dX1_compare_36 (Nat.le_of_ble_eq_true rfl) ⟨by decide, by decide⟩ ⟨by decide, by decide⟩ p3 ?_
    refine S_X1_wordAt.mono hy (fun z4 h5 hy => ?_)
    refine ww_aload_n C 1 1 rfl rfl dX1_compare_39 ?_
    refine ww_iload_n C 2 2 rfl rfl dX1_compare_40 ?_
    obtain ⟨p6, hy⟩ := hy
    refine cl_X1_20 C dX1_compare_41 (Nat.le_of_ble_eq_true rfl) ⟨by decide, by decide⟩ ⟨by decide, by decide⟩ p6 ?_
    refine S_X1_wordAt.mono hy (fun z7 h8 hy => ?_)
    refine cl_X1_36 C dX1_compare_44 (Nat.le_of_ble_eq_true rfl) ⟨by decide, by decide⟩ ⟨by decide, by decide⟩ ?_
    refine S_J6_compareUnsigned_7cf53.mono hy (fun z9 h10 hy => ?_)
    refine ww_istore_n C 3 rfl (by decide) rfl dX1_compare_47 ?_
    refine ww_iload_n C 3 0 rfl rfl dX1_compare_48 ?_
    obtain ⟨p11, hy⟩ := hy
    refine ww_if_eq C (tg := 54) dX1_compare_49 (by decide) p11 (fun c12 => ?_) (fun c12 => ?_)
    · have hy := hy.1 c12
      refine ww_iinc C 2 3 rfl (by decide) rfl dX1_compare_54 ?_
      refine ww_goto C (tg := 30) dX1_compare_57 (by decide) ?_
      exact ww_sub [2, 3, 0] rfl (by decide) (by decide) hy
    · have hy := hy.2 c12
      refine ww_iload_n C 3 0 rfl rfl dX1_compare_52 ?_
      exact ww_iret C E dX1_compare_53 (by decide) (by decide) ⟨_, rfl, rfl, hy⟩
abbrev X1_append_w0 (G : xG) (k : xK) (x0 : Nat) (x1 : Int) (n : Nat) (h : xH) : Prop := WW G k 2 0 0 0 [(0, rf G x0), (1, .int (iz x1))] [] n h
abbrev X1_append_w41 (G : xG) (k : xK)  (n : Nat) (h : xH) : Prop := WW G k 2 0 0 41 [] [] n h
theorem S_X1_append_of {G : xG} {l : Launch} {x0 : Nat} {x1 : Int} {n : Nat} {h : xH} {Po : xH → Prop} (body : ∀ k : xK, kl k = l → CC G k cX1_append RX1 2 rm_X1_append → CQ G k none rm_X1_append (fun r n1 h1 => r = none ∧ n1 = n ∧ Po h1) → X1_append_w0 G k x0 x1 n h) : S_X1_append G l x0 x1 n h Po := xS_of (by decide +kernel) (Nat.le_of_ble_eq_true rfl) rfl (fun k hl hnm C E => body k hl C E)
set_option maxRecDepth 100000 in
set_option maxHeartbeats 4000000 in
theorem X1_append_b0 {G : xG} {k : xK} {n0 : Nat} {Po : xH → Prop} (C : CC G k cX1_append RX1 2 rm_X1_append) (E : CQ G k none rm_X1_append (fun r n1 h1 => r = none ∧ n1 = n0 ∧ Po h1)) (x0 : Nat) (x1 : Int) (n : Nat) (h : xH) (hn0 : n = n0) (hy : rg x1 ∧ ((x1 = 0 → X1_append_w41 G k  n h) ∧ (¬ x1 = 0 → okO n h x0 1 ∧ rg (hG h x0 1) ∧ (((hG h x0 1) < 0 → X1_append_w41 G k  n h) ∧ (¬ (hG h x0 1) < 0 → okO n h x0 1 ∧ (rg (hG h x0 1) ∧ rg (132 : Int)) ∧ (((132 : Int) ≤ (hG h x0 1) → X1_append_w41 G k  n h) ∧ (¬ (132 : Int) ≤ (hG h x0 1) → okO n h x0 1 ∧ 0 ≤ hG h x0 0 ∧ okO n h x0 1 ∧ okA n h ((hG h x0 0).toNat) 100 (hG h x0 1) ∧ (∀ h13 : xH, h13 = hS h ((hG h x0 0).toNat) ((hG h x0 1).toNat) x1 → okO n h13 x0 1 ∧ okO n h13 x0 1 ∧ (∀ h16 : xH, h16 = hS h13 x0 1 ((hG h13 x0 1) + 1) → X1_append_w41 G k  n h16))))))))) : X1_append_w0 G k x0 x1 n h := by
  subst hn0
  refine ww_iload_n C 1 1 rfl rfl dX1_append_0 ?_
  obtain ⟨p1, hy⟩ := hy
  refine ww_if_eq C (tg := 41) dX1_append_1 (by decide) p1 (fun c2 => ?_) (fun c2 => ?_)
  · have hy := hy.1 c2
    exact ww_sub [] rfl (by decide) (by decide) hy
  · have hy := hy.2 c2
    refine ww_aload_n C 0 0 rfl rfl dX1_append_4 ?_
    obtain ⟨p3, hy⟩ := hy
    refine gf_X1_13 C dX1_append_5 p3 ?_
    obtain ⟨p4, hy⟩ := hy
    refine ww_if_lt C (tg := 41) dX1_append_8 (by decide) p4 (fun c5 => ?_) (fun c5 => ?_)
    · have hy := hy.1 c5
      exact ww_sub [] rfl (by decide) (by decide) hy
    · have hy := hy.2 c5
      refine ww_aload_n C 0 0 rfl rfl dX1_append_11 ?_
      obtain ⟨p6, hy⟩ := hy
      refine gf_X1_13 C dX1_append_12 p6 ?_
      refine ww_sipush C (z := 132) dX1_append_15 rfl ?_
      obtain ⟨p7, hy⟩ := hy
      refine ww_icmp_ge C (tg := 41) dX1_append_18 (by decide) p7.1 p7.2 (fun c8 => ?_) (fun c8 => ?_)
      · have hy := hy.1 c8
        exact ww_sub [] rfl (by decide) (by decide) hy
      · have hy := hy.2 c8
        refine ww_aload_n C 0 0 rfl rfl dX1_append_21 ?_
        obtain ⟨p9, hy⟩ := hy
        obtain ⟨p10, hy⟩ := hy
        refine gf_X1_9 C dX1_append_22 p9 p10 ?_
        refine ww_aload_n C 0 0 rfl rfl dX1_append_25 ?_
        obtain ⟨p11, hy⟩ := hy
        refine gf_X1_13 C dX1_append_26 p11 ?_
        refine ww_iload_n C 1 1 rfl rfl dX1_append_29 ?_
        obtain ⟨p12, hy⟩ := hy
        have hy := hy _ rfl
        refine ww_iast C dX1_append_30 p12 ?_
        refine ww_aload_n C 0 0 rfl rfl dX1_append_31 ?_
        refine ww_dup C rfl dX1_append_32 ?_
        obtain ⟨p14, hy⟩ := hy
        refine gf_X1_13 C dX1_append_33 p14 ?_
        refine ww_iconst C (z := 1) dX1_append_36 rfl ?_
        refine ww_iadd C dX1_append_37 ?_
        obtain ⟨p15, hy⟩ := hy
        have hy := hy _ rfl
        refine pf_X1_13I C dX1_append_38 p15 ?_
        exact ww_sub [] rfl (by decide) (by decide) hy
set_option maxRecDepth 100000 in
set_option maxHeartbeats 4000000 in
theorem X1_append_b41 {G : xG} {k : xK} {n0 : Nat} {Po : xH → Prop} (C : CC G k cX1_append RX1 2 rm_X1_append) (E : CQ G k none rm_X1_append (fun r n1 h1 => r = none ∧ n1 = n0 ∧ Po h1))  (n : Nat) (h : xH) (hn0 : n = n0) (hy : Po h) : X1_append_w41 G k  n h := by
  subst hn0
  exact ww_vret C E dX1_append_41 (by decide) (by decide) ⟨rfl, rfl, hy⟩
abbrev X1_add_w0 (G : xG) (k : xK) (x0 : Nat) (x1 : Nat) (n : Nat) (h : xH) : Prop := WW G k 6 0 0 0 [(0, rf G x0), (1, rf G x1)] [] n h
abbrev X1_add_w17 (G : xG) (k : xK) (x0 : Nat) (x1 : Nat) (x2 : Int) (x3 : Int) (x5 : Int) (n : Nat) (h : xH) : Prop := WW G k 6 0 0 17 [(0, rf G x0), (1, rf G x1), (2, .int (iz x2)), (3, .long (lz x3)), (5, .int (iz x5))] [] n h
abbrev X1_add_w77 (G : xG) (k : xK) (x0 : Nat) (x2 : Int) (x3 : Int) (n : Nat) (h : xH) : Prop := WW G k 6 0 0 77 [(0, rf G x0), (2, .int (iz x2)), (3, .long (lz x3))] [] n h
theorem S_X1_add_of {G : xG} {l : Launch} {x0 : Nat} {x1 : Nat} {n : Nat} {h : xH} {Po : xH → Prop} (body : ∀ k : xK, kl k = l → CC G k cX1_add RX1 6 rm_X1_add → CQ G k none rm_X1_add (fun r n1 h1 => r = none ∧ n1 = n ∧ Po h1) → X1_add_w0 G k x0 x1 n h) : S_X1_add G l x0 x1 n h Po := xS_of (by decide +kernel) (Nat.le_of_ble_eq_true rfl) rfl (fun k hl hnm C E => body k hl C E)
set_option maxRecDepth 100000 in
set_option maxHeartbeats 4000000 in
theorem X1_add_b0 {G : xG} {k : xK} {n0 : Nat} {Po : xH → Prop} (C : CC G k cX1_add RX1 6 rm_X1_add) (E : CQ G k none rm_X1_add (fun r n1 h1 => r = none ∧ n1 = n0 ∧ Po h1)) (x0 : Nat) (x1 : Nat) (n : Nat) (h : xH) (hn0 : n = n0) (hy : okO n h x0 1 ∧ okO n h x1 1 ∧ S_J9_max_7cf53 G (kl k) (hG h x0 1) (hG h x1 1) n h (fun z3 h4 => X1_add_w17 G k x0 x1 z3 0 0 n h4)) : X1_add_w0 G k x0 x1 n h := by
  subst hn0
  refine ww_aload_n C 0 0 rfl rfl dX1_add_0 ?_
  obtain ⟨p1, hy⟩ := hy
  refine gf_X1_13 C dX1_add_1 p1 ?_
  refine ww_aload_n C 1 1 rfl rfl dX1_add_4 ?_
  obtain ⟨p2, hy⟩ := hy
  refine gf_X1_13 C dX1_add_5 p2 ?_
  refine cl_X1_39 C dX1_add_8 (Nat.le_of_ble_eq_true rfl) ⟨by decide, by decide⟩ ⟨by decide, by decide⟩ ?_
  refine S_J9_max_7cf53.mono hy (fun z3 h4 hy => ?_)
  refine ww_istore_n C 2 rfl (by decide) rfl dX1_add_11 ?_
  refine ww_lconst C (z := 0) dX1_add_12 rfl ?_
  refine ww_lstore_n C 3 rfl (by decide) rfl dX1_add_13 ?_
  refine ww_iconst C (z := 0) dX1_add_14 rfl ?_
  refine ww_istore C 5 (by decide) rfl dX1_add_15 ?_
  exact ww_sub [3, 4, 2, 1, 0] rfl (by decide) (by decide) hy
set_option maxRecDepth 100000 in
set_option maxHeartbeats 4000000 in
theorem X1_add_b17 {G : xG} {k : xK} {n0 : Nat} {Po : xH → Prop} (C : CC G k cX1_add RX1 6 rm_X1_add) (E : CQ G k none rm_X1_add (fun r n1 h1 => r = none ∧ n1 = n0 ∧ Po h1)) (x0 : Nat) (x1 : Nat) (x2 : Int) (x3 : Int) (x5 : Int) (n : Nat) (h : xH) (hn0 : n = n0) (hy : (rg x5 ∧ rg x2) ∧ ((x2 ≤ x5 → X1_add_w77 G k x0 x2 x3 n h) ∧ (¬ x2 ≤ x5 → (rg x5 ∧ rg (132 : Int)) ∧ (((132 : Int) ≤ x5 → X1_add_w77 G k x0 x2 x3 n h) ∧ (¬ (132 : Int) ≤ x5 → okO n h x0 1 ∧ S_X1_wordAt G (kl k) x0 x5 n h (fun z6 h7 => rg z6 ∧ okO n h7 x1 1 ∧ S_X1_wordAt G (kl k) x1 x5 n h7 (fun z10 h11 => rg z10 ∧ (∀ y13 : Int, y13 = x3 + ((lA z6 4294967295) + (lA z10 4294967295)) → okO n h11 x0 1 ∧ 0 ≤ hG h11 x0 0 ∧ okA n h11 ((hG h11 x0 0).toNat) 100 x5 ∧ (∀ h17 : xH, h17 = hS h11 ((hG h11 x0 0).toNat) (x5.toNat) (w32 y13) → X1_add_w17 G k x0 x1 x2 (lSu y13 32) (x5 + 1) n h17))))))))) : X1_add_w17 G k x0 x1 x2 x3 x5 n h := by
  subst hn0
  refine ww_iload C 5 4 rfl dX1_add_17 ?_
  refine ww_iload_n C 2 2 rfl rfl dX1_add_19 ?_
  obtain ⟨p1, hy⟩ := hy
  refine ww_icmp_ge C (tg := 77) dX1_add_20 (by decide) p1.1 p1.2 (fun c2 => ?_) (fun c2 => ?_)
  · have hy := hy.1 c2
    exact ww_sub [0, 2, 3] rfl (by decide) (by decide) hy
  · have hy := hy.2 c2
    refine ww_iload C 5 4 rfl dX1_add_23 ?_
    refine ww_sipush C (z := 132) dX1_add_25 rfl ?_
    obtain ⟨p3, hy⟩ := hy
    refine ww_icmp_ge C (tg := 77) dX1_add_28 (by decide) p3.1 p3.2 (fun c4 => ?_) (fun c4 => ?_)
    · have hy := hy.1 c4
      exact ww_sub [0, 2, 3] rfl (by decide) (by decide) hy
    · have hy := hy.2 c4
      refine ww_lload_n C 3 3 rfl rfl dX1_add_31 ?_
      refine ww_aload_n C 0 0 rfl rfl dX1_add_32 ?_
      refine ww_iload C 5 4 rfl dX1_add_33 ?_
      obtain ⟨p5, hy⟩ := hy
      refine cl_X1_20 C dX1_add_35 (Nat.le_of_ble_eq_true rfl) ⟨by decide, by decide⟩ ⟨by decide, by decide⟩ p5 ?_
      refine S_X1_wordAt.mono hy (fun z6 h7 hy => ?_)
      obtain ⟨p8, hy⟩ := hy
      refine ww_i2l C dX1_add_38 p8 ?_
      refine ww_ldc2 C (z := 4294967295) q_100 dX1_add_39 ?_
      refine ww_land C dX1_add_42 ?_
      refine ww_aload_n C 1 1 rfl rfl dX1_add_43 ?_
      refine ww_iload C 5 4 rfl dX1_add_44 ?_
      obtain ⟨p9, hy⟩ := hy
      refine cl_X1_20 C dX1_add_46 (Nat.le_of_ble_eq_true rfl) ⟨by decide, by decide⟩ ⟨by decide, by decide⟩ p9 ?_
      refine S_X1_wordAt.mono hy (fun z10 h11 hy => ?_)
      obtain ⟨p12, hy⟩ := hy
      refine ww_i2l C dX1_add_49 p12 ?_
      refine ww_ldc2 C (z := 4294967295) q_100 dX1_add_50 ?_
      refine ww_land C dX1_add_53 ?_
      refine ww_ladd C dX1_add_54 ?_
      refine ww_ladd C dX1_add_55 ?_
      refine ww_lstore_n C 3 rfl (by decide) rfl dX1_add_56 ?_
      have hy := hy _ rfl
      refine ww_aload_n C 0 1 rfl rfl dX1_add_57 ?_
      obtain ⟨p14, hy⟩ := hy
      obtain ⟨p15, hy⟩ := hy
      refine gf_X1_9 C dX1_add_58 p14 p15 ?_
      refine ww_iload C 5 4 rfl dX1_add_61 ?_
      refine ww_lload_n C 3 0 rfl rfl dX1_add_63 ?_
      refine ww_l2i C dX1_add_64 ?_
      refine ww_w32 ?_
      obtain ⟨p16, hy⟩ := hy
      have hy := hy _ rfl
      refine ww_iast C dX1_add_65 p16 ?_
      refine ww_lload_n C 3 0 rfl rfl dX1_add_66 ?_
      refine ww_bipush C (z := 32) dX1_add_67 rfl ?_
      refine ww_lushr C dX1_add_69 ?_
      refine ww_lstore_n C 3 rfl (by decide) rfl dX1_add_70 ?_
      refine ww_iinc C 5 4 rfl (by decide) rfl dX1_add_71 ?_
      refine ww_goto C (tg := 17) dX1_add_74 (by decide) ?_
      exact ww_sub [2, 3, 4, 1, 0] rfl (by decide) (by decide) hy
set_option maxRecDepth 100000 in
set_option maxHeartbeats 4000000 in
theorem X1_add_b77 {G : xG} {k : xK} {n0 : Nat} {Po : xH → Prop} (C : CC G k cX1_add RX1 6 rm_X1_add) (E : CQ G k none rm_X1_add (fun r n1 h1 => r = none ∧ n1 = n0 ∧ Po h1)) (x0 : Nat) (x2 : Int) (x3 : Int) (n : Nat) (h : xH) (hn0 : n = n0) (hy : okO n h x0 1 ∧ (∀ h2 : xH, h2 = hS h x0 1 x2 → okO n h2 x0 1 ∧ S_X1_append G (kl k) x0 (w32 x3) n h2 (fun h4 => Po h4))) : X1_add_w77 G k x0 x2 x3 n h := by
  subst hn0
  refine ww_aload_n C 0 0 rfl rfl dX1_add_77 ?_
  refine ww_iload_n C 2 1 rfl rfl dX1_add_78 ?_
  obtain ⟨p1, hy⟩ := hy
  have hy := hy _ rfl
  refine pf_X1_13I C dX1_add_79 p1 ?_
  refine ww_aload_n C 0 0 rfl rfl dX1_add_82 ?_
  refine ww_lload_n C 3 2 rfl rfl dX1_add_83 ?_
  refine ww_l2i C dX1_add_84 ?_
  refine ww_w32 ?_
  obtain ⟨p3, hy⟩ := hy
  refine cl_X1_46 C dX1_add_85 (Nat.le_of_ble_eq_true rfl) ⟨by decide, by decide⟩ ⟨by decide, by decide⟩ p3 ?_
  refine S_X1_append.mono hy (fun h4 hy => ?_)
  exact ww_vret C E dX1_add_88 (by decide) (by decide) ⟨rfl, rfl, hy⟩
abbrev X1_subtract_w0 (G : xG) (k : xK) (x0 : Nat) (x1 : Nat) (n : Nat) (h : xH) : Prop := WW G k 5 0 0 0 [(0, rf G x0), (1, rf G x1)] [] n h
abbrev X1_subtract_w5 (G : xG) (k : xK) (x0 : Nat) (x1 : Nat) (x2 : Int) (x4 : Int) (n : Nat) (h : xH) : Prop := WW G k 5 0 0 5 [(0, rf G x0), (1, rf G x1), (2, .long (lz x2)), (4, .int (iz x4))] [] n h
abbrev X1_subtract_w69 (G : xG) (k : xK) (x0 : Nat) (n : Nat) (h : xH) : Prop := WW G k 5 0 0 69 [(0, rf G x0)] [] n h
theorem S_X1_subtract_of {G : xG} {l : Launch} {x0 : Nat} {x1 : Nat} {n : Nat} {h : xH} {Po : xH → Prop} (body : ∀ k : xK, kl k = l → CC G k cX1_subtract RX1 5 rm_X1_subtract → CQ G k none rm_X1_subtract (fun r n1 h1 => r = none ∧ n1 = n ∧ Po h1) → X1_subtract_w0 G k x0 x1 n h) : S_X1_subtract G l x0 x1 n h Po := xS_of (by decide +kernel) (Nat.le_of_ble_eq_true rfl) rfl (fun k hl hnm C E => body k hl C E)
set_option maxRecDepth 100000 in
set_option maxHeartbeats 4000000 in
theorem X1_subtract_b0 {G : xG} {k : xK} {n0 : Nat} {Po : xH → Prop} (C : CC G k cX1_subtract RX1 5 rm_X1_subtract) (E : CQ G k none rm_X1_subtract (fun r n1 h1 => r = none ∧ n1 = n0 ∧ Po h1)) (x0 : Nat) (x1 : Nat) (n : Nat) (h : xH) (hn0 : n = n0) (hy : X1_subtract_w5 G k x0 x1 0 0 n h) : X1_subtract_w0 G k x0 x1 n h := by
  subst hn0
  refine ww_lconst C (z := 0) dX1_subtract_0 rfl ?_
  refine ww_lstore_n C 2 rfl (by decide) rfl dX1_subtract_1 ?_
  refine ww_iconst C (z := 0) dX1_subtract_2 rfl ?_
  refine ww_istore C 4 (by decide) rfl dX1_subtract_3 ?_
  exact ww_sub [2, 3, 1, 0] rfl (by decide) (by decide) hy
set_option maxRecDepth 100000 in
set_option maxHeartbeats 4000000 in
theorem X1_subtract_b5 {G : xG} {k : xK} {n0 : Nat} {Po : xH → Prop} (C : CC G k cX1_subtract RX1 5 rm_X1_subtract) (E : CQ G k none rm_X1_subtract (fun r n1 h1 => r = none ∧ n1 = n0 ∧ Po h1)) (x0 : Nat) (x1 : Nat) (x2 : Int) (x4 : Int) (n : Nat) (h : xH) (hn0 : n = n0) (hy : okO n h x0 1 ∧ (rg x4 ∧ rg (hG h x0 1)) ∧ (((hG h x0 1) ≤ x4 → X1_subtract_w69 G k x0 n h) ∧ (¬ (hG h x0 1) ≤ x4 → (rg x4 ∧ rg (132 : Int)) ∧ (((132 : Int) ≤ x4 → X1_subtract_w69 G k x0 n h) ∧ (¬ (132 : Int) ≤ x4 → okO n h x0 1 ∧ 0 ≤ hG h x0 0 ∧ okA n h ((hG h x0 0).toNat) 100 x4 ∧ rg (hG h ((hG h x0 0).toNat) (x4.toNat)) ∧ okO n h x1 1 ∧ S_X1_wordAt G (kl k) x1 x4 n h (fun z11 h12 => rg z11 ∧ (∀ y14 : Int, y14 = x2 + ((lA (hG h ((hG h x0 0).toNat) (x4.toNat)) 4294967295) - (lA z11 4294967295)) → okO n h12 x0 1 ∧ 0 ≤ hG h12 x0 0 ∧ okA n h12 ((hG h12 x0 0).toNat) 100 x4 ∧ (∀ h18 : xH, h18 = hS h12 ((hG h12 x0 0).toNat) (x4.toNat) (w32 y14) → X1_subtract_w5 G k x0 x1 (lSr y14 32) (x4 + 1) n h18)))))))) : X1_subtract_w5 G k x0 x1 x2 x4 n h := by
  subst hn0
  refine ww_iload C 4 3 rfl dX1_subtract_5 ?_
  refine ww_aload_n C 0 0 rfl rfl dX1_subtract_7 ?_
  obtain ⟨p1, hy⟩ := hy
  refine gf_X1_13 C dX1_subtract_8 p1 ?_
  obtain ⟨p2, hy⟩ := hy
  refine ww_icmp_ge C (tg := 69) dX1_subtract_11 (by decide) p2.1 p2.2 (fun c3 => ?_) (fun c3 => ?_)
  · have hy := hy.1 c3
    exact ww_sub [0] rfl (by decide) (by decide) hy
  · have hy := hy.2 c3
    refine ww_iload C 4 3 rfl dX1_subtract_14 ?_
    refine ww_sipush C (z := 132) dX1_subtract_16 rfl ?_
    obtain ⟨p4, hy⟩ := hy
    refine ww_icmp_ge C (tg := 69) dX1_subtract_19 (by decide) p4.1 p4.2 (fun c5 => ?_) (fun c5 => ?_)
    · have hy := hy.1 c5
      exact ww_sub [0] rfl (by decide) (by decide) hy
    · have hy := hy.2 c5
      refine ww_lload_n C 2 2 rfl rfl dX1_subtract_22 ?_
      refine ww_aload_n C 0 0 rfl rfl dX1_subtract_23 ?_
      obtain ⟨p6, hy⟩ := hy
      obtain ⟨p7, hy⟩ := hy
      refine gf_X1_9 C dX1_subtract_24 p6 p7 ?_
      refine ww_iload C 4 3 rfl dX1_subtract_27 ?_
      obtain ⟨p8, hy⟩ := hy
      refine ww_iald C dX1_subtract_29 p8 ?_
      obtain ⟨p9, hy⟩ := hy
      refine ww_i2l C dX1_subtract_30 p9 ?_
      refine ww_ldc2 C (z := 4294967295) q_100 dX1_subtract_31 ?_
      refine ww_land C dX1_subtract_34 ?_
      refine ww_aload_n C 1 1 rfl rfl dX1_subtract_35 ?_
      refine ww_iload C 4 3 rfl dX1_subtract_36 ?_
      obtain ⟨p10, hy⟩ := hy
      refine cl_X1_20 C dX1_subtract_38 (Nat.le_of_ble_eq_true rfl) ⟨by decide, by decide⟩ ⟨by decide, by decide⟩ p10 ?_
      refine S_X1_wordAt.mono hy (fun z11 h12 hy => ?_)
      obtain ⟨p13, hy⟩ := hy
      refine ww_i2l C dX1_subtract_41 p13 ?_
      refine ww_ldc2 C (z := 4294967295) q_100 dX1_subtract_42 ?_
      refine ww_land C dX1_subtract_45 ?_
      refine ww_lsub C dX1_subtract_46 ?_
      refine ww_ladd C dX1_subtract_47 ?_
      refine ww_lstore_n C 2 rfl (by decide) rfl dX1_subtract_48 ?_
      have hy := hy _ rfl
      refine ww_aload_n C 0 1 rfl rfl dX1_subtract_49 ?_
      obtain ⟨p15, hy⟩ := hy
      obtain ⟨p16, hy⟩ := hy
      refine gf_X1_9 C dX1_subtract_50 p15 p16 ?_
      refine ww_iload C 4 3 rfl dX1_subtract_53 ?_
      refine ww_lload_n C 2 0 rfl rfl dX1_subtract_55 ?_
      refine ww_l2i C dX1_subtract_56 ?_
      refine ww_w32 ?_
      obtain ⟨p17, hy⟩ := hy
      have hy := hy _ rfl
      refine ww_iast C dX1_subtract_57 p17 ?_
      refine ww_lload_n C 2 0 rfl rfl dX1_subtract_58 ?_
      refine ww_bipush C (z := 32) dX1_subtract_59 rfl ?_
      refine ww_lshr C dX1_subtract_61 ?_
      refine ww_lstore_n C 2 rfl (by decide) rfl dX1_subtract_62 ?_
      refine ww_iinc C 4 3 rfl (by decide) rfl dX1_subtract_63 ?_
      refine ww_goto C (tg := 5) dX1_subtract_66 (by decide) ?_
      exact ww_sub [2, 3, 1, 0] rfl (by decide) (by decide) hy
set_option maxRecDepth 100000 in
set_option maxHeartbeats 4000000 in
theorem X1_subtract_b69 {G : xG} {k : xK} {n0 : Nat} {Po : xH → Prop} (C : CC G k cX1_subtract RX1 5 rm_X1_subtract) (E : CQ G k none rm_X1_subtract (fun r n1 h1 => r = none ∧ n1 = n0 ∧ Po h1)) (x0 : Nat) (n : Nat) (h : xH) (hn0 : n = n0) (hy : okO n h x0 1 ∧ S_X1_trim G (kl k) x0 n h (fun h2 => Po h2)) : X1_subtract_w69 G k x0 n h := by
  subst hn0
  refine ww_aload_n C 0 0 rfl rfl dX1_subtract_69 ?_
  obtain ⟨p1, hy⟩ := hy
  refine cl_X1_17 C dX1_subtract_70 (Nat.le_of_ble_eq_true rfl) ⟨by decide, by decide⟩ ⟨by decide, by decide⟩ p1 ?_
  refine S_X1_trim.mono hy (fun h2 hy => ?_)
  exact ww_vret C E dX1_subtract_73 (by decide) (by decide) ⟨rfl, rfl, hy⟩
abbrev X1_multiplyAdd_w0 (G : xG) (k : xK) (x0 : Nat) (x1 : Int) (x2 : Int) (n : Nat) (h : xH) : Prop := WW G k 6 0 0 0 [(0, rf G x0), (1, .int (iz x1)), (2, .int (iz x2))] [] n h
abbrev X1_multiplyAdd_w6 (G : xG) (k : xK) (x0 : Nat) (x1 : Int) (x3 : Int) (x5 : Int) (n : Nat) (h : xH) : Prop := WW G k 6 0 0 6 [(0, rf G x0), (1, .int (iz x1)), (3, .long (lz x3)), (5, .int (iz x5))] [] n h
abbrev X1_multiplyAdd_w61 (G : xG) (k : xK) (x0 : Nat) (x3 : Int) (n : Nat) (h : xH) : Prop := WW G k 6 0 0 61 [(0, rf G x0), (3, .long (lz x3))] [] n h
theorem S_X1_multiplyAdd_of {G : xG} {l : Launch} {x0 : Nat} {x1 : Int} {x2 : Int} {n : Nat} {h : xH} {Po : xH → Prop} (body : ∀ k : xK, kl k = l → CC G k cX1_multiplyAdd RX1 6 rm_X1_multiplyAdd → CQ G k none rm_X1_multiplyAdd (fun r n1 h1 => r = none ∧ n1 = n ∧ Po h1) → X1_multiplyAdd_w0 G k x0 x1 x2 n h) : S_X1_multiplyAdd G l x0 x1 x2 n h Po := xS_of (by decide +kernel) (Nat.le_of_ble_eq_true rfl) rfl (fun k hl hnm C E => body k hl C E)
set_option maxRecDepth 100000 in
set_option maxHeartbeats 4000000 in
theorem X1_multiplyAdd_b0 {G : xG} {k : xK} {n0 : Nat} {Po : xH → Prop} (C : CC G k cX1_multiplyAdd RX1 6 rm_X1_multiplyAdd) (E : CQ G k none rm_X1_multiplyAdd (fun r n1 h1 => r = none ∧ n1 = n0 ∧ Po h1)) (x0 : Nat) (x1 : Int) (x2 : Int) (n : Nat) (h : xH) (hn0 : n = n0) (hy : rg x2 ∧ X1_multiplyAdd_w6 G k x0 x1 x2 0 n h) : X1_multiplyAdd_w0 G k x0 x1 x2 n h := by
  subst hn0
  refine ww_iload_n C 2 2 rfl rfl dX1_multiplyAdd_0 ?_
  obtain ⟨p1, hy⟩ := hy
  refine ww_i2l C dX1_multiplyAdd_1 p1 ?_
  refine ww_lstore_n C 3 rfl (by decide) rfl dX1_multiplyAdd_2 ?_
  refine ww_iconst C (z := 0) dX1_multiplyAdd_3 rfl ?_
  refine ww_istore C 5 (by decide) rfl dX1_multiplyAdd_4 ?_
  exact ww_sub [2, 3, 1, 0] rfl (by decide) (by decide) hy
set_option maxRecDepth 100000 in
set_option maxHeartbeats 4000000 in
theorem X1_multiplyAdd_b6 {G : xG} {k : xK} {n0 : Nat} {Po : xH → Prop} (C : CC G k cX1_multiplyAdd RX1 6 rm_X1_multiplyAdd) (E : CQ G k none rm_X1_multiplyAdd (fun r n1 h1 => r = none ∧ n1 = n0 ∧ Po h1)) (x0 : Nat) (x1 : Int) (x3 : Int) (x5 : Int) (n : Nat) (h : xH) (hn0 : n = n0) (hy : okO n h x0 1 ∧ (rg x5 ∧ rg (hG h x0 1)) ∧ (((hG h x0 1) ≤ x5 → X1_multiplyAdd_w61 G k x0 x3 n h) ∧ (¬ (hG h x0 1) ≤ x5 → (rg x5 ∧ rg (132 : Int)) ∧ (((132 : Int) ≤ x5 → X1_multiplyAdd_w61 G k x0 x3 n h) ∧ (¬ (132 : Int) ≤ x5 → okO n h x0 1 ∧ 0 ≤ hG h x0 0 ∧ okA n h ((hG h x0 0).toNat) 100 x5 ∧ rg (hG h ((hG h x0 0).toNat) (x5.toNat)) ∧ rg x1 ∧ (∀ y11 : Int, y11 = x3 + ((lA (hG h ((hG h x0 0).toNat) (x5.toNat)) 4294967295) * x1) → okO n h x0 1 ∧ 0 ≤ hG h x0 0 ∧ okA n h ((hG h x0 0).toNat) 100 x5 ∧ (∀ h15 : xH, h15 = hS h ((hG h x0 0).toNat) (x5.toNat) (w32 y11) → X1_multiplyAdd_w6 G k x0 x1 (lSu y11 32) (x5 + 1) n h15))))))) : X1_multiplyAdd_w6 G k x0 x1 x3 x5 n h := by
  subst hn0
  refine ww_iload C 5 3 rfl dX1_multiplyAdd_6 ?_
  refine ww_aload_n C 0 0 rfl rfl dX1_multiplyAdd_8 ?_
  obtain ⟨p1, hy⟩ := hy
  refine gf_X1_13 C dX1_multiplyAdd_9 p1 ?_
  obtain ⟨p2, hy⟩ := hy
  refine ww_icmp_ge C (tg := 61) dX1_multiplyAdd_12 (by decide) p2.1 p2.2 (fun c3 => ?_) (fun c3 => ?_)
  · have hy := hy.1 c3
    exact ww_sub [0, 2] rfl (by decide) (by decide) hy
  · have hy := hy.2 c3
    refine ww_iload C 5 3 rfl dX1_multiplyAdd_15 ?_
    refine ww_sipush C (z := 132) dX1_multiplyAdd_17 rfl ?_
    obtain ⟨p4, hy⟩ := hy
    refine ww_icmp_ge C (tg := 61) dX1_multiplyAdd_20 (by decide) p4.1 p4.2 (fun c5 => ?_) (fun c5 => ?_)
    · have hy := hy.1 c5
      exact ww_sub [0, 2] rfl (by decide) (by decide) hy
    · have hy := hy.2 c5
      refine ww_lload_n C 3 2 rfl rfl dX1_multiplyAdd_23 ?_
      refine ww_aload_n C 0 0 rfl rfl dX1_multiplyAdd_24 ?_
      obtain ⟨p6, hy⟩ := hy
      obtain ⟨p7, hy⟩ := hy
      refine gf_X1_9 C dX1_multiplyAdd_25 p6 p7 ?_
      refine ww_iload C 5 3 rfl dX1_multiplyAdd_28 ?_
      obtain ⟨p8, hy⟩ := hy
      refine ww_iald C dX1_multiplyAdd_30 p8 ?_
      obtain ⟨p9, hy⟩ := hy
      refine ww_i2l C dX1_multiplyAdd_31 p9 ?_
      refine ww_ldc2 C (z := 4294967295) q_100 dX1_multiplyAdd_32 ?_
      refine ww_land C dX1_multiplyAdd_35 ?_
      refine ww_iload_n C 1 1 rfl rfl dX1_multiplyAdd_36 ?_
      obtain ⟨p10, hy⟩ := hy
      refine ww_i2l C dX1_multiplyAdd_37 p10 ?_
      refine ww_lmul C dX1_multiplyAdd_38 ?_
      refine ww_ladd C dX1_multiplyAdd_39 ?_
      refine ww_lstore_n C 3 rfl (by decide) rfl dX1_multiplyAdd_40 ?_
      have hy := hy _ rfl
      refine ww_aload_n C 0 1 rfl rfl dX1_multiplyAdd_41 ?_
      obtain ⟨p12, hy⟩ := hy
      obtain ⟨p13, hy⟩ := hy
      refine gf_X1_9 C dX1_multiplyAdd_42 p12 p13 ?_
      refine ww_iload C 5 3 rfl dX1_multiplyAdd_45 ?_
      refine ww_lload_n C 3 0 rfl rfl dX1_multiplyAdd_47 ?_
      refine ww_l2i C dX1_multiplyAdd_48 ?_
      refine ww_w32 ?_
      obtain ⟨p14, hy⟩ := hy
      have hy := hy _ rfl
      refine ww_iast C dX1_multiplyAdd_49 p14 ?_
      refine ww_lload_n C 3 0 rfl rfl dX1_multiplyAdd_50 ?_
      refine ww_bipush C (z := 32) dX1_multiplyAdd_51 rfl ?_
      refine ww_lushr C dX1_multiplyAdd_53 ?_
      refine ww_lstore_n C 3 rfl (by decide) rfl dX1_multiplyAdd_54 ?_
      refine ww_iinc C 5 3 rfl (by decide) rfl dX1_multiplyAdd_55 ?_
      refine ww_goto C (tg := 6) dX1_multiplyAdd_58 (by decide) ?_
      exact ww_sub [2, 3, 1, 0] rfl (by decide) (by decide) hy
set_option maxRecDepth 100000 in
set_option maxHeartbeats 4000000 in
theorem X1_multiplyAdd_b61 {G : xG} {k : xK} {n0 : Nat} {Po : xH → Prop} (C : CC G k cX1_multiplyAdd RX1 6 rm_X1_multiplyAdd) (E : CQ G k none rm_X1_multiplyAdd (fun r n1 h1 => r = none ∧ n1 = n0 ∧ Po h1)) (x0 : Nat) (x3 : Int) (n : Nat) (h : xH) (hn0 : n = n0) (hy : okO n h x0 1 ∧ S_X1_append G (kl k) x0 (w32 x3) n h (fun h2 => Po h2)) : X1_multiplyAdd_w61 G k x0 x3 n h := by
  subst hn0
  refine ww_aload_n C 0 0 rfl rfl dX1_multiplyAdd_61 ?_
  refine ww_lload_n C 3 1 rfl rfl dX1_multiplyAdd_62 ?_
  refine ww_l2i C dX1_multiplyAdd_63 ?_
  refine ww_w32 ?_
  obtain ⟨p1, hy⟩ := hy
  refine cl_X1_46 C dX1_multiplyAdd_64 (Nat.le_of_ble_eq_true rfl) ⟨by decide, by decide⟩ ⟨by decide, by decide⟩ p1 ?_
  refine S_X1_append.mono hy (fun h2 hy => ?_)
  exact ww_vret C E dX1_multiplyAdd_67 (by decide) (by decide) ⟨rfl, rfl, hy⟩
abbrev X1_powerOfFive_w0 (G : xG) (k : xK) (x0 : Int) (n : Nat) (h : xH) : Prop := WW G k 2 0 0 0 [(0, .int (iz x0))] [] n h
abbrev X1_powerOfFive_w27 (G : xG) (k : xK)  (n : Nat) (h : xH) : Prop := WW G k 2 0 0 27 [] [] n h
abbrev X1_powerOfFive_w28 (G : xG) (k : xK) (s0 : Int) (n : Nat) (h : xH) : Prop := WW G k 2 0 0 28 [] [.int (iz s0)] n h
theorem S_X1_powerOfFive_of {G : xG} {l : Launch} {x0 : Int} {n : Nat} {h : xH} {Po : Int → xH → Prop} (body : ∀ k : xK, kl k = l → CC G k cX1_powerOfFive RX1 2 rm_X1_powerOfFive → CQ G k (some .int) rm_X1_powerOfFive (fun r n1 h1 => ∃ z : Int, r = some (.int (iz z)) ∧ n1 = n ∧ Po z h1) → X1_powerOfFive_w0 G k x0 n h) : S_X1_powerOfFive G l x0 n h Po := xS_of (by decide +kernel) (Nat.le_of_ble_eq_true rfl) rfl (fun k hl hnm C E => body k hl C E)
set_option maxRecDepth 100000 in
set_option maxHeartbeats 4000000 in
theorem X1_powerOfFive_b0 {G : xG} {k : xK} {n0 : Nat} {Po : Int → xH → Prop} (C : CC G k cX1_powerOfFive RX1 2 rm_X1_powerOfFive) (E : CQ G k (some .int) rm_X1_powerOfFive (fun r n1 h1 => ∃ z : Int, r = some (.int (iz z)) ∧ n1 = n0 ∧ Po z h1)) (x0 : Int) (n : Nat) (h : xH) (hn0 : n = n0) (hy : S_J9_min_7cf53 G (kl k) x0 13 n h (fun z1 h2 => rg z1 ∧ ((z1 < 0 → X1_powerOfFive_w27 G k  n h2) ∧ (¬ z1 < 0 → (rg z1 ∧ rg (14 : Int)) ∧ (((14 : Int) ≤ z1 → X1_powerOfFive_w27 G k  n h2) ∧ (¬ (14 : Int) ≤ z1 → (0 ≤ z1 ∧ z1 < 14) ∧ X1_powerOfFive_w28 G k (x5 z1.toNat) n h2)))))) : X1_powerOfFive_w0 G k x0 n h := by
  subst hn0
  refine ww_iload_n C 0 0 rfl rfl dX1_powerOfFive_0 ?_
  refine ww_bipush C (z := 13) dX1_powerOfFive_1 rfl ?_
  refine cl_X1_66 C dX1_powerOfFive_3 (Nat.le_of_ble_eq_true rfl) ⟨by decide, by decide⟩ ⟨by decide, by decide⟩ ?_
  refine S_J9_min_7cf53.mono hy (fun z1 h2 hy => ?_)
  refine ww_istore_n C 1 rfl (by decide) rfl dX1_powerOfFive_6 ?_
  refine ww_iload_n C 1 0 rfl rfl dX1_powerOfFive_7 ?_
  obtain ⟨p3, hy⟩ := hy
  refine ww_if_lt C (tg := 27) dX1_powerOfFive_8 (by decide) p3 (fun c4 => ?_) (fun c4 => ?_)
  · have hy := hy.1 c4
    exact ww_sub [] rfl (by decide) (by decide) hy
  · have hy := hy.2 c4
    refine ww_iload_n C 1 0 rfl rfl dX1_powerOfFive_11 ?_
    refine ww_st5 C q_106 dX1_powerOfFive_12 ?_
    refine ww_st5len C dX1_powerOfFive_15 ?_
    obtain ⟨p5, hy⟩ := hy
    refine ww_icmp_ge C (tg := 27) dX1_powerOfFive_16 (by decide) p5.1 p5.2 (fun c6 => ?_) (fun c6 => ?_)
    · have hy := hy.1 c6
      exact ww_sub [] rfl (by decide) (by decide) hy
    · have hy := hy.2 c6
      refine ww_st5 C q_106 dX1_powerOfFive_19 ?_
      refine ww_iload_n C 1 0 rfl rfl dX1_powerOfFive_22 ?_
      obtain ⟨p7, hy⟩ := hy
      refine ww_st5at C dX1_powerOfFive_23 p7.1 p7.2 ?_
      refine ww_goto C (tg := 28) dX1_powerOfFive_24 (by decide) ?_
      exact ww_sub [] rfl (by decide) (by decide) hy
set_option maxRecDepth 100000 in
set_option maxHeartbeats 4000000 in
theorem X1_powerOfFive_b27 {G : xG} {k : xK} {n0 : Nat} {Po : Int → xH → Prop} (C : CC G k cX1_powerOfFive RX1 2 rm_X1_powerOfFive) (E : CQ G k (some .int) rm_X1_powerOfFive (fun r n1 h1 => ∃ z : Int, r = some (.int (iz z)) ∧ n1 = n0 ∧ Po z h1))  (n : Nat) (h : xH) (hn0 : n = n0) (hy : X1_powerOfFive_w28 G k 1 n h) : X1_powerOfFive_w27 G k  n h := by
  subst hn0
  refine ww_iconst C (z := 1) dX1_powerOfFive_27 rfl ?_
  exact ww_sub [] rfl (by decide) (by decide) hy
set_option maxRecDepth 100000 in
set_option maxHeartbeats 4000000 in
theorem X1_powerOfFive_b28 {G : xG} {k : xK} {n0 : Nat} {Po : Int → xH → Prop} (C : CC G k cX1_powerOfFive RX1 2 rm_X1_powerOfFive) (E : CQ G k (some .int) rm_X1_powerOfFive (fun r n1 h1 => ∃ z : Int, r = some (.int (iz z)) ∧ n1 = n0 ∧ Po z h1)) (s0 : Int) (n : Nat) (h : xH) (hn0 : n = n0) (hy : Po s0 h) : X1_powerOfFive_w28 G k s0 n h := by
  subst hn0
  exact ww_iret C E dX1_powerOfFive_28 (by decide) (by decide) ⟨_, rfl, rfl, hy⟩
abbrev X1_multiplyByFives_w0 (G : xG) (k : xK) (x0 : Nat) (x1 : Int) (n : Nat) (h : xH) : Prop := WW G k 3 0 0 0 [(0, rf G x0), (1, .int (iz x1))] [] n h
abbrev X1_multiplyByFives_w2 (G : xG) (k : xK) (x0 : Nat) (x2 : Int) (n : Nat) (h : xH) : Prop := WW G k 3 0 0 2 [(0, rf G x0), (2, .int (iz x2))] [] n h
theorem S_X1_multiplyByFives_of {G : xG} {l : Launch} {x0 : Nat} {x1 : Int} {n : Nat} {h : xH} {Po : xH → Prop} (body : ∀ k : xK, kl k = l → CC G k cX1_multiplyByFives RX1 3 rm_X1_multiplyByFives → CQ G k none rm_X1_multiplyByFives (fun r n1 h1 => r = none ∧ n1 = n ∧ Po h1) → X1_multiplyByFives_w0 G k x0 x1 n h) : S_X1_multiplyByFives G l x0 x1 n h Po := xS_of (by decide +kernel) (Nat.le_of_ble_eq_true rfl) rfl (fun k hl hnm C E => body k hl C E)
set_option maxRecDepth 100000 in
set_option maxHeartbeats 4000000 in
theorem X1_multiplyByFives_b0 {G : xG} {k : xK} {n0 : Nat} {Po : xH → Prop} (C : CC G k cX1_multiplyByFives RX1 3 rm_X1_multiplyByFives) (E : CQ G k none rm_X1_multiplyByFives (fun r n1 h1 => r = none ∧ n1 = n0 ∧ Po h1)) (x0 : Nat) (x1 : Int) (n : Nat) (h : xH) (hn0 : n = n0) (hy : X1_multiplyByFives_w2 G k x0 x1 n h) : X1_multiplyByFives_w0 G k x0 x1 n h := by
  subst hn0
  refine ww_iload_n C 1 1 rfl rfl dX1_multiplyByFives_0 ?_
  refine ww_istore_n C 2 rfl (by decide) rfl dX1_multiplyByFives_1 ?_
  exact ww_sub [1, 0] rfl (by decide) (by decide) hy
set_option maxRecDepth 100000 in
set_option maxHeartbeats 4000000 in
theorem X1_multiplyByFives_b2 {G : xG} {k : xK} {n0 : Nat} {Po : xH → Prop} (C : CC G k cX1_multiplyByFives RX1 3 rm_X1_multiplyByFives) (E : CQ G k none rm_X1_multiplyByFives (fun r n1 h1 => r = none ∧ n1 = n0 ∧ Po h1)) (x0 : Nat) (x2 : Int) (n : Nat) (h : xH) (hn0 : n = n0) (hy : rg x2 ∧ ((x2 ≤ 0 → Po h) ∧ (¬ x2 ≤ 0 → S_X1_powerOfFive G (kl k) x2 n h (fun z3 h4 => okO n h4 x0 1 ∧ S_X1_multiplyAdd G (kl k) x0 z3 0 n h4 (fun h6 => X1_multiplyByFives_w2 G k x0 (x2 + (-13)) n h6))))) : X1_multiplyByFives_w2 G k x0 x2 n h := by
  subst hn0
  refine ww_iload_n C 2 1 rfl rfl dX1_multiplyByFives_2 ?_
  obtain ⟨p1, hy⟩ := hy
  refine ww_if_le C (tg := 21) dX1_multiplyByFives_3 (by decide) p1 (fun c2 => ?_) (fun c2 => ?_)
  · have hy := hy.1 c2
    exact ww_vret C E dX1_multiplyByFives_21 (by decide) (by decide) ⟨rfl, rfl, hy⟩
  · have hy := hy.2 c2
    refine ww_aload_n C 0 0 rfl rfl dX1_multiplyByFives_6 ?_
    refine ww_iload_n C 2 1 rfl rfl dX1_multiplyByFives_7 ?_
    refine cl_X1_50 C dX1_multiplyByFives_8 (Nat.le_of_ble_eq_true rfl) ⟨by decide, by decide⟩ ⟨by decide, by decide⟩ ?_
    refine S_X1_powerOfFive.mono hy (fun z3 h4 hy => ?_)
    refine ww_iconst C (z := 0) dX1_multiplyByFives_11 rfl ?_
    obtain ⟨p5, hy⟩ := hy
    refine cl_X1_53 C dX1_multiplyByFives_12 (Nat.le_of_ble_eq_true rfl) ⟨by decide, by decide⟩ ⟨by decide, by decide⟩ p5 ?_
    refine S_X1_multiplyAdd.mono hy (fun h6 hy => ?_)
    refine ww_iinc C 2 1 rfl (by decide) rfl dX1_multiplyByFives_15 ?_
    refine ww_goto C (tg := 2) dX1_multiplyByFives_18 (by decide) ?_
    exact ww_sub [1, 0] rfl (by decide) (by decide) hy
abbrev X1_remainder_w0 (G : xG) (k : xK) (x0 : Nat) (x1 : Int) (n : Nat) (h : xH) : Prop := WW G k 5 0 0 0 [(0, rf G x0), (1, .int (iz x1))] [] n h
abbrev X1_remainder_w16 (G : xG) (k : xK) (x0 : Nat) (x1 : Int) (x2 : Int) (x4 : Int) (n : Nat) (h : xH) : Prop := WW G k 5 0 0 16 [(0, rf G x0), (1, .int (iz x1)), (2, .long (lz x2)), (4, .int (iz x4))] [] n h
theorem S_X1_remainder_of {G : xG} {l : Launch} {x0 : Nat} {x1 : Int} {n : Nat} {h : xH} {Po : Int → xH → Prop} (body : ∀ k : xK, kl k = l → CC G k cX1_remainder RX1 5 rm_X1_remainder → CQ G k (some .int) rm_X1_remainder (fun r n1 h1 => ∃ z : Int, r = some (.int (iz z)) ∧ n1 = n ∧ Po z h1) → X1_remainder_w0 G k x0 x1 n h) : S_X1_remainder G l x0 x1 n h Po := xS_of (by decide +kernel) (Nat.le_of_ble_eq_true rfl) rfl (fun k hl hnm C E => body k hl C E)
set_option maxRecDepth 100000 in
set_option maxHeartbeats 4000000 in
theorem X1_remainder_b0 {G : xG} {k : xK} {n0 : Nat} {Po : Int → xH → Prop} (C : CC G k cX1_remainder RX1 5 rm_X1_remainder) (E : CQ G k (some .int) rm_X1_remainder (fun r n1 h1 => ∃ z : Int, r = some (.int (iz z)) ∧ n1 = n0 ∧ Po z h1)) (x0 : Nat) (x1 : Int) (n : Nat) (h : xH) (hn0 : n = n0) (hy : rg x1 ∧ ((0 < x1 → okO n h x0 1 ∧ X1_remainder_w16 G k x0 x1 0 ((hG h x0 1) - 1) n h) ∧ (¬ 0 < x1 → Po (0 : Int) h))) : X1_remainder_w0 G k x0 x1 n h := by
  subst hn0
  refine ww_iload_n C 1 1 rfl rfl dX1_remainder_0 ?_
  obtain ⟨p1, hy⟩ := hy
  refine ww_if_gt C (tg := 6) dX1_remainder_1 (by decide) p1 (fun c2 => ?_) (fun c2 => ?_)
  · have hy := hy.1 c2
    refine ww_lconst C (z := 0) dX1_remainder_6 rfl ?_
    refine ww_lstore_n C 2 rfl (by decide) rfl dX1_remainder_7 ?_
    refine ww_aload_n C 0 1 rfl rfl dX1_remainder_8 ?_
    obtain ⟨p3, hy⟩ := hy
    refine gf_X1_13 C dX1_remainder_9 p3 ?_
    refine ww_iconst C (z := 1) dX1_remainder_12 rfl ?_
    refine ww_isub C dX1_remainder_13 ?_
    refine ww_istore C 4 (by decide) rfl dX1_remainder_14 ?_
    exact ww_sub [2, 3, 1, 0] rfl (by decide) (by decide) hy
  · have hy := hy.2 c2
    refine ww_iconst C (z := 0) dX1_remainder_4 rfl ?_
    exact ww_iret C E dX1_remainder_5 (by decide) (by decide) ⟨_, rfl, rfl, hy⟩
set_option maxRecDepth 100000 in
set_option maxHeartbeats 4000000 in
theorem X1_remainder_b16 {G : xG} {k : xK} {n0 : Nat} {Po : Int → xH → Prop} (C : CC G k cX1_remainder RX1 5 rm_X1_remainder) (E : CQ G k (some .int) rm_X1_remainder (fun r n1 h1 => ∃ z : Int, r = some (.int (iz z)) ∧ n1 = n0 ∧ Po z h1)) (x0 : Nat) (x1 : Int) (x2 : Int) (x4 : Int) (n : Nat) (h : xH) (hn0 : n = n0) (hy : rg x4 ∧ ((x4 < 0 → Po (w32 x2) h) ∧ (¬ x4 < 0 → okO n h x0 1 ∧ S_X1_wordAt G (kl k) x0 x4 n h (fun z4 h5 => rg z4 ∧ rg x1 ∧ (rgL (lO (lSl x2 32) (lA z4 4294967295)) ∧ rgL x1 ∧ x1 ≠ 0) ∧ X1_remainder_w16 G k x0 x1 ((lO (lSl x2 32) (lA z4 4294967295)).tmod x1) (x4 + (-1)) n h5)))) : X1_remainder_w16 G k x0 x1 x2 x4 n h := by
  subst hn0
  refine ww_iload C 4 3 rfl dX1_remainder_16 ?_
  obtain ⟨p1, hy⟩ := hy
  refine ww_if_lt C (tg := 47) dX1_remainder_18 (by decide) p1 (fun c2 => ?_) (fun c2 => ?_)
  · have hy := hy.1 c2
    refine ww_lload_n C 2 2 rfl rfl dX1_remainder_47 ?_
    refine ww_l2i C dX1_remainder_48 ?_
    refine ww_w32 ?_
    exact ww_iret C E dX1_remainder_49 (by decide) (by decide) ⟨_, rfl, rfl, hy⟩
  · have hy := hy.2 c2
    refine ww_lload_n C 2 2 rfl rfl dX1_remainder_21 ?_
    refine ww_bipush C (z := 32) dX1_remainder_22 rfl ?_
    refine ww_lshl C dX1_remainder_24 ?_
    refine ww_aload_n C 0 0 rfl rfl dX1_remainder_25 ?_
    refine ww_iload C 4 3 rfl dX1_remainder_26 ?_
    obtain ⟨p3, hy⟩ := hy
    refine cl_X1_20 C dX1_remainder_28 (Nat.le_of_ble_eq_true rfl) ⟨by decide, by decide⟩ ⟨by decide, by decide⟩ p3 ?_
    refine S_X1_wordAt.mono hy (fun z4 h5 hy => ?_)
    obtain ⟨p6, hy⟩ := hy
    refine ww_i2l C dX1_remainder_31 p6 ?_
    refine ww_ldc2 C (z := 4294967295) q_100 dX1_remainder_32 ?_
    refine ww_land C dX1_remainder_35 ?_
    refine ww_lor C dX1_remainder_36 ?_
    refine ww_iload_n C 1 1 rfl rfl dX1_remainder_37 ?_
    obtain ⟨p7, hy⟩ := hy
    refine ww_i2l C dX1_remainder_38 p7 ?_
    obtain ⟨p8, hy⟩ := hy
    refine ww_lrem C dX1_remainder_39 p8.1 p8.2.1 p8.2.2 ?_
    refine ww_lstore_n C 2 rfl (by decide) rfl dX1_remainder_40 ?_
    refine ww_iinc C 4 3 rfl (by decide) rfl dX1_remainder_41 ?_
    refine ww_goto C (tg := 16) dX1_remainder_44 (by decide) ?_
    exact ww_sub [2, 3, 1, 0] rfl (by decide) (by decide) hy
abbrev X1_divideBySmall_w0 (G : xG) (k : xK) (x0 : Nat) (x1 : Int) (n : Nat) (h : xH) : Prop := WW G k 7 0 0 0 [(0, rf G x0), (1, .int (iz x1))] [] n h
abbrev X1_divideBySmall_w22 (G : xG) (k : xK) (x0 : Nat) (x1 : Int) (x2 : Int) (x4 : Int) (n : Nat) (h : xH) : Prop := WW G k 7 0 0 22 [(0, rf G x0), (1, .int (iz x1)), (2, .long (lz x2)), (4, .int (iz x4))] [] n h
theorem S_X1_divideBySmall_of {G : xG} {l : Launch} {x0 : Nat} {x1 : Int} {n : Nat} {h : xH} {Po : Int → xH → Prop} (body : ∀ k : xK, kl k = l → CC G k cX1_divideBySmall RX1 7 rm_X1_divideBySmall → CQ G k (some .int) rm_X1_divideBySmall (fun r n1 h1 => ∃ z : Int, r = some (.int (iz z)) ∧ n1 = n ∧ Po z h1) → X1_divideBySmall_w0 G k x0 x1 n h) : S_X1_divideBySmall G l x0 x1 n h Po := xS_of (by decide +kernel) (Nat.le_of_ble_eq_true rfl) rfl (fun k hl hnm C E => body k hl C E)
set_option maxRecDepth 100000 in
set_option maxHeartbeats 4000000 in
theorem X1_divideBySmall_b0 {G : xG} {k : xK} {n0 : Nat} {Po : Int → xH → Prop} (C : CC G k cX1_divideBySmall RX1 7 rm_X1_divideBySmall) (E : CQ G k (some .int) rm_X1_divideBySmall (fun r n1 h1 => ∃ z : Int, r = some (.int (iz z)) ∧ n1 = n0 ∧ Po z h1)) (x0 : Nat) (x1 : Int) (n : Nat) (h : xH) (hn0 : n = n0) (hy : rg x1 ∧ ((0 < x1 → okO n h x0 1 ∧ S_J9_min_7cf53 G (kl k) (hG h x0 1) 132 n h (fun z4 h5 => X1_divideBySmall_w22 G k x0 x1 0 (z4 - 1) n h5)) ∧ (¬ 0 < x1 → Po (0 : Int) h))) : X1_divideBySmall_w0 G k x0 x1 n h := by
  subst hn0
  refine ww_iload_n C 1 1 rfl rfl dX1_divideBySmall_0 ?_
  obtain ⟨p1, hy⟩ := hy
  refine ww_if_gt C (tg := 6) dX1_divideBySmall_1 (by decide) p1 (fun c2 => ?_) (fun c2 => ?_)
  · have hy := hy.1 c2
    refine ww_lconst C (z := 0) dX1_divideBySmall_6 rfl ?_
    refine ww_lstore_n C 2 rfl (by decide) rfl dX1_divideBySmall_7 ?_
    refine ww_aload_n C 0 1 rfl rfl dX1_divideBySmall_8 ?_
    obtain ⟨p3, hy⟩ := hy
    refine gf_X1_13 C dX1_divideBySmall_9 p3 ?_
    refine ww_sipush C (z := 132) dX1_divideBySmall_12 rfl ?_
    refine cl_X1_66 C dX1_divideBySmall_15 (Nat.le_of_ble_eq_true rfl) ⟨by decide, by decide⟩ ⟨by decide, by decide⟩ ?_
    refine S_J9_min_7cf53.mono hy (fun z4 h5 hy => ?_)
    refine ww_iconst C (z := 1) dX1_divideBySmall_18 rfl ?_
    refine ww_isub C dX1_divideBySmall_19 ?_
    refine ww_istore C 4 (by decide) rfl dX1_divideBySmall_20 ?_
    exact ww_sub [2, 3, 1, 0] rfl (by decide) (by decide) hy
  · have hy := hy.2 c2
    refine ww_iconst C (z := 0) dX1_divideBySmall_4 rfl ?_
    exact ww_iret C E dX1_divideBySmall_5 (by decide) (by decide) ⟨_, rfl, rfl, hy⟩
set_option maxRecDepth 100000 in
set_option maxHeartbeats 4000000 in
theorem X1_divideBySmall_b22 {G : xG} {k : xK} {n0 : Nat} {Po : Int → xH → Prop} (C : CC G k cX1_divideBySmall RX1 7 rm_X1_divideBySmall) (E : CQ G k (some .int) rm_X1_divideBySmall (fun r n1 h1 => ∃ z : Int, r = some (.int (iz z)) ∧ n1 = n0 ∧ Po z h1)) (x0 : Nat) (x1 : Int) (x2 : Int) (x4 : Int) (n : Nat) (h : xH) (hn0 : n = n0) (hy : rg x4 ∧ ((x4 < 0 → okO n h x0 1 ∧ S_X1_trim G (kl k) x0 n h (fun h4 => Po (w32 x2) h4)) ∧ (¬ x4 < 0 → okO n h x0 1 ∧ 0 ≤ hG h x0 0 ∧ okA n h ((hG h x0 0).toNat) 100 x4 ∧ rg (hG h ((hG h x0 0).toNat) (x4.toNat)) ∧ (∀ y9 : Int, y9 = lO (lSl x2 32) (lA (hG h ((hG h x0 0).toNat) (x4.toNat)) 4294967295) → okO n h x0 1 ∧ 0 ≤ hG h x0 0 ∧ rg x1 ∧ (rgL y9 ∧ rgL x1 ∧ x1 ≠ 0) ∧ okA n h ((hG h x0 0).toNat) 100 x4 ∧ (∀ h15 : xH, h15 = hS h ((hG h x0 0).toNat) (x4.toNat) (w32 (y9.tdiv x1)) → rg x1 ∧ (rgL y9 ∧ rgL x1 ∧ x1 ≠ 0) ∧ X1_divideBySmall_w22 G k x0 x1 (y9.tmod x1) (x4 + (-1)) n h15))))) : X1_divideBySmall_w22 G k x0 x1 x2 x4 n h := by
  subst hn0
  refine ww_iload C 4 3 rfl dX1_divideBySmall_22 ?_
  obtain ⟨p1, hy⟩ := hy
  refine ww_if_lt C (tg := 71) dX1_divideBySmall_24 (by decide) p1 (fun c2 => ?_) (fun c2 => ?_)
  · have hy := hy.1 c2
    refine ww_aload_n C 0 0 rfl rfl dX1_divideBySmall_71 ?_
    obtain ⟨p3, hy⟩ := hy
    refine cl_X1_17 C dX1_divideBySmall_72 (Nat.le_of_ble_eq_true rfl) ⟨by decide, by decide⟩ ⟨by decide, by decide⟩ p3 ?_
    refine S_X1_trim.mono hy (fun h4 hy => ?_)
    refine ww_lload_n C 2 2 rfl rfl dX1_divideBySmall_75 ?_
    refine ww_l2i C dX1_divideBySmall_76 ?_
    refine ww_w32 ?_
    exact ww_iret C E dX1_divideBySmall_77 (by decide) (by decide) ⟨_, rfl, rfl, hy⟩
  · have hy := hy.2 c2
    refine ww_lload_n C 2 2 rfl rfl dX1_divideBySmall_27 ?_
    refine ww_bipush C (z := 32) dX1_divideBySmall_28 rfl ?_
    refine ww_lshl C dX1_divideBySmall_30 ?_
    refine ww_aload_n C 0 0 rfl rfl dX1_divideBySmall_31 ?_
    obtain ⟨p5, hy⟩ := hy
    obtain ⟨p6, hy⟩ := hy
    refine gf_X1_9 C dX1_divideBySmall_32 p5 p6 ?_
    refine ww_iload C 4 3 rfl dX1_divideBySmall_35 ?_
    obtain ⟨p7, hy⟩ := hy
    refine ww_iald C dX1_divideBySmall_37 p7 ?_
    obtain ⟨p8, hy⟩ := hy
    refine ww_i2l C dX1_divideBySmall_38 p8 ?_
    refine ww_ldc2 C (z := 4294967295) q_100 dX1_divideBySmall_39 ?_
    refine ww_land C dX1_divideBySmall_42 ?_
    refine ww_lor C dX1_divideBySmall_43 ?_
    refine ww_lstore C 5 (by decide) rfl dX1_divideBySmall_44 ?_
    have hy := hy _ rfl
    refine ww_aload_n C 0 1 rfl rfl dX1_divideBySmall_46 ?_
    obtain ⟨p10, hy⟩ := hy
    obtain ⟨p11, hy⟩ := hy
    refine gf_X1_9 C dX1_divideBySmall_47 p10 p11 ?_
    refine ww_iload C 4 4 rfl dX1_divideBySmall_50 ?_
    refine ww_lload C 5 0 rfl dX1_divideBySmall_52 ?_
    refine ww_iload_n C 1 2 rfl rfl dX1_divideBySmall_54 ?_
    obtain ⟨p12, hy⟩ := hy
    refine ww_i2l C dX1_divideBySmall_55 p12 ?_
    obtain ⟨p13, hy⟩ := hy
    refine ww_ldiv C dX1_divideBySmall_56 p13.1 p13.2.1 p13.2.2 ?_
    refine ww_l2i C dX1_divideBySmall_57 ?_
    refine ww_w32 ?_
    obtain ⟨p14, hy⟩ := hy
    have hy := hy _ rfl
    refine ww_iast C dX1_divideBySmall_58 p14 ?_
    refine ww_lload C 5 0 rfl dX1_divideBySmall_59 ?_
    refine ww_iload_n C 1 2 rfl rfl dX1_divideBySmall_61 ?_
    obtain ⟨p16, hy⟩ := hy
    refine ww_i2l C dX1_divideBySmall_62 p16 ?_
    obtain ⟨p17, hy⟩ := hy
    refine ww_lrem C dX1_divideBySmall_63 p17.1 p17.2.1 p17.2.2 ?_
    refine ww_lstore_n C 2 rfl (by decide) rfl dX1_divideBySmall_64 ?_
    refine ww_iinc C 4 4 rfl (by decide) rfl dX1_divideBySmall_65 ?_
    refine ww_goto C (tg := 22) dX1_divideBySmall_68 (by decide) ?_
    exact ww_sub [3, 4, 1, 0] rfl (by decide) (by decide) hy
abbrev X1_takeFactor_w0 (G : xG) (k : xK) (x0 : Nat) (x1 : Int) (x2 : Int) (n : Nat) (h : xH) : Prop := WW G k 4 0 0 0 [(0, rf G x0), (1, .int (iz x1)), (2, .int (iz x2))] [] n h
abbrev X1_takeFactor_w2 (G : xG) (k : xK) (x0 : Nat) (x1 : Int) (x2 : Int) (x3 : Int) (n : Nat) (h : xH) : Prop := WW G k 4 0 0 2 [(0, rf G x0), (1, .int (iz x1)), (2, .int (iz x2)), (3, .int (iz x3))] [] n h
abbrev X1_takeFactor_w34 (G : xG) (k : xK) (x3 : Int) (n : Nat) (h : xH) : Prop := WW G k 4 0 0 34 [(3, .int (iz x3))] [] n h
theorem S_X1_takeFactor_of {G : xG} {l : Launch} {x0 : Nat} {x1 : Int} {x2 : Int} {n : Nat} {h : xH} {Po : Int → xH → Prop} (body : ∀ k : xK, kl k = l → CC G k cX1_takeFactor RX1 4 rm_X1_takeFactor → CQ G k (some .int) rm_X1_takeFactor (fun r n1 h1 => ∃ z : Int, r = some (.int (iz z)) ∧ n1 = n ∧ Po z h1) → X1_takeFactor_w0 G k x0 x1 x2 n h) : S_X1_takeFactor G l x0 x1 x2 n h Po := xS_of (by decide +kernel) (Nat.le_of_ble_eq_true rfl) rfl (fun k hl hnm C E => body k hl C E)
set_option maxRecDepth 100000 in
set_option maxHeartbeats 4000000 in
theorem X1_takeFactor_b0 {G : xG} {k : xK} {n0 : Nat} {Po : Int → xH → Prop} (C : CC G k cX1_takeFactor RX1 4 rm_X1_takeFactor) (E : CQ G k (some .int) rm_X1_takeFactor (fun r n1 h1 => ∃ z : Int, r = some (.int (iz z)) ∧ n1 = n0 ∧ Po z h1)) (x0 : Nat) (x1 : Int) (x2 : Int) (n : Nat) (h : xH) (hn0 : n = n0) (hy : X1_takeFactor_w2 G k x0 x1 x2 0 n h) : X1_takeFactor_w0 G k x0 x1 x2 n h := by
  subst hn0
  refine ww_iconst C (z := 0) dX1_takeFactor_0 rfl ?_
  refine ww_istore_n C 3 rfl (by decide) rfl dX1_takeFactor_1 ?_
  exact ww_sub [1, 2, 3, 0] rfl (by decide) (by decide) hy
set_option maxRecDepth 100000 in
set_option maxHeartbeats 4000000 in
theorem X1_takeFactor_b2 {G : xG} {k : xK} {n0 : Nat} {Po : Int → xH → Prop} (C : CC G k cX1_takeFactor RX1 4 rm_X1_takeFactor) (E : CQ G k (some .int) rm_X1_takeFactor (fun r n1 h1 => ∃ z : Int, r = some (.int (iz z)) ∧ n1 = n0 ∧ Po z h1)) (x0 : Nat) (x1 : Int) (x2 : Int) (x3 : Int) (n : Nat) (h : xH) (hn0 : n = n0) (hy : (rg x3 ∧ rg x2) ∧ ((x2 ≤ x3 → X1_takeFactor_w34 G k x3 n h) ∧ (¬ x2 ≤ x3 → okO n h x0 1 ∧ rg (hG h x0 1) ∧ (((hG h x0 1) ≤ 0 → X1_takeFactor_w34 G k x3 n h) ∧ (¬ (hG h x0 1) ≤ 0 → okO n h x0 1 ∧ S_X1_remainder G (kl k) x0 x1 n h (fun z7 h8 => rg z7 ∧ ((¬ z7 = 0 → X1_takeFactor_w34 G k x3 n h8) ∧ (z7 = 0 → okO n h8 x0 1 ∧ S_X1_divideBySmall G (kl k) x0 x1 n h8 (fun z12 h13 => X1_takeFactor_w2 G k x0 x1 x2 (x3 + 1) n h13))))))))) : X1_takeFactor_w2 G k x0 x1 x2 x3 n h := by
  subst hn0
  refine ww_iload_n C 3 3 rfl rfl dX1_takeFactor_2 ?_
  refine ww_iload_n C 2 2 rfl rfl dX1_takeFactor_3 ?_
  obtain ⟨p1, hy⟩ := hy
  refine ww_icmp_ge C (tg := 34) dX1_takeFactor_4 (by decide) p1.1 p1.2 (fun c2 => ?_) (fun c2 => ?_)
  · have hy := hy.1 c2
    exact ww_sub [3] rfl (by decide) (by decide) hy
  · have hy := hy.2 c2
    refine ww_aload_n C 0 0 rfl rfl dX1_takeFactor_7 ?_
    obtain ⟨p3, hy⟩ := hy
    refine gf_X1_13 C dX1_takeFactor_8 p3 ?_
    obtain ⟨p4, hy⟩ := hy
    refine ww_if_le C (tg := 34) dX1_takeFactor_11 (by decide) p4 (fun c5 => ?_) (fun c5 => ?_)
    · have hy := hy.1 c5
      exact ww_sub [3] rfl (by decide) (by decide) hy
    · have hy := hy.2 c5
      refine ww_aload_n C 0 0 rfl rfl dX1_takeFactor_14 ?_
      refine ww_iload_n C 1 1 rfl rfl dX1_takeFactor_15 ?_
      obtain ⟨p6, hy⟩ := hy
      refine cl_X1_60 C dX1_takeFactor_16 (Nat.le_of_ble_eq_true rfl) ⟨by decide, by decide⟩ ⟨by decide, by decide⟩ p6 ?_
      refine S_X1_remainder.mono hy (fun z7 h8 hy => ?_)
      obtain ⟨p9, hy⟩ := hy
      refine ww_if_ne C (tg := 34) dX1_takeFactor_19 (by decide) p9 (fun c10 => ?_) (fun c10 => ?_)
      · have hy := hy.1 c10
        exact ww_sub [3] rfl (by decide) (by decide) hy
      · have hy := hy.2 c10
        refine ww_aload_n C 0 0 rfl rfl dX1_takeFactor_22 ?_
        refine ww_iload_n C 1 1 rfl rfl dX1_takeFactor_23 ?_
        obtain ⟨p11, hy⟩ := hy
        refine cl_X1_63 C dX1_takeFactor_24 (Nat.le_of_ble_eq_true rfl) ⟨by decide, by decide⟩ ⟨by decide, by decide⟩ p11 ?_
        refine S_X1_divideBySmall.mono hy (fun z12 h13 hy => ?_)
        refine ww_pop C rfl dX1_takeFactor_27 ?_
        refine ww_iinc C 3 3 rfl (by decide) rfl dX1_takeFactor_28 ?_
        refine ww_goto C (tg := 2) dX1_takeFactor_31 (by decide) ?_
        exact ww_sub [1, 2, 3, 0] rfl (by decide) (by decide) hy
set_option maxRecDepth 100000 in
set_option maxHeartbeats 4000000 in
theorem X1_takeFactor_b34 {G : xG} {k : xK} {n0 : Nat} {Po : Int → xH → Prop} (C : CC G k cX1_takeFactor RX1 4 rm_X1_takeFactor) (E : CQ G k (some .int) rm_X1_takeFactor (fun r n1 h1 => ∃ z : Int, r = some (.int (iz z)) ∧ n1 = n0 ∧ Po z h1)) (x3 : Int) (n : Nat) (h : xH) (hn0 : n = n0) (hy : Po x3 h) : X1_takeFactor_w34 G k x3 n h := by
  subst hn0
  refine ww_iload_n C 3 0 rfl rfl dX1_takeFactor_34 ?_
  exact ww_iret C E dX1_takeFactor_35 (by decide) (by decide) ⟨_, rfl, rfl, hy⟩
abbrev X1_takeFives_w0 (G : xG) (k : xK) (x0 : Nat) (x1 : Int) (n : Nat) (h : xH) : Prop := WW G k 3 0 0 0 [(0, rf G x0), (1, .int (iz x1))] [] n h
theorem S_X1_takeFives_of {G : xG} {l : Launch} {x0 : Nat} {x1 : Int} {n : Nat} {h : xH} {Po : Int → xH → Prop} (body : ∀ k : xK, kl k = l → CC G k cX1_takeFives RX1 3 rm_X1_takeFives → CQ G k (some .int) rm_X1_takeFives (fun r n1 h1 => ∃ z : Int, r = some (.int (iz z)) ∧ n1 = n ∧ Po z h1) → X1_takeFives_w0 G k x0 x1 n h) : S_X1_takeFives G l x0 x1 n h Po := xS_of (by decide +kernel) (Nat.le_of_ble_eq_true rfl) rfl (fun k hl hnm C E => body k hl C E)
set_option maxRecDepth 100000 in
set_option maxHeartbeats 4000000 in
theorem X1_takeFives_b0 {G : xG} {k : xK} {n0 : Nat} {Po : Int → xH → Prop} (C : CC G k cX1_takeFives RX1 3 rm_X1_takeFives) (E : CQ G k (some .int) rm_X1_takeFives (fun r n1 h1 => ∃ z : Int, r = some (.int (iz z)) ∧ n1 = n0 ∧ Po z h1)) (x0 : Nat) (x1 : Int) (n : Nat) (h : xH) (hn0 : n = n0) (hy : S_X1_powerOfFive G (kl k) 13 n h (fun z1 h2 => (rg x1 ∧ rg (13 : Int) ∧ (13 : Int) ≠ 0) ∧ okO n h2 x0 1 ∧ S_X1_takeFactor G (kl k) x0 z1 (x1.tdiv 13) n h2 (fun z5 h6 => okO n h6 x0 1 ∧ S_X1_takeFactor G (kl k) x0 5 (x1 - (13 * z5)) n h6 (fun z8 h9 => Po ((13 * z5) + z8) h9)))) : X1_takeFives_w0 G k x0 x1 n h := by
  subst hn0
  refine ww_bipush C (z := 13) dX1_takeFives_0 rfl ?_
  refine ww_aload_n C 0 0 rfl rfl dX1_takeFives_2 ?_
  refine ww_bipush C (z := 13) dX1_takeFives_3 rfl ?_
  refine cl_X1_50 C dX1_takeFives_5 (Nat.le_of_ble_eq_true rfl) ⟨by decide, by decide⟩ ⟨by decide, by decide⟩ ?_
  refine S_X1_powerOfFive.mono hy (fun z1 h2 hy => ?_)
  refine ww_iload_n C 1 1 rfl rfl dX1_takeFives_8 ?_
  refine ww_bipush C (z := 13) dX1_takeFives_9 rfl ?_
  obtain ⟨p3, hy⟩ := hy
  refine ww_idiv C dX1_takeFives_11 p3.1 p3.2.1 p3.2.2 ?_
  obtain ⟨p4, hy⟩ := hy
  refine cl_X1_57 C dX1_takeFives_12 (Nat.le_of_ble_eq_true rfl) ⟨by decide, by decide⟩ ⟨by decide, by decide⟩ p4 ?_
  refine S_X1_takeFactor.mono hy (fun z5 h6 hy => ?_)
  refine ww_imul C dX1_takeFives_15 ?_
  refine ww_istore_n C 2 rfl (by decide) rfl dX1_takeFives_16 ?_
  refine ww_iload_n C 2 0 rfl rfl dX1_takeFives_17 ?_
  refine ww_aload_n C 0 1 rfl rfl dX1_takeFives_18 ?_
  refine ww_iconst C (z := 5) dX1_takeFives_19 rfl ?_
  refine ww_iload_n C 1 2 rfl rfl dX1_takeFives_20 ?_
  refine ww_iload_n C 2 0 rfl rfl dX1_takeFives_21 ?_
  refine ww_isub C dX1_takeFives_22 ?_
  obtain ⟨p7, hy⟩ := hy
  refine cl_X1_57 C dX1_takeFives_23 (Nat.le_of_ble_eq_true rfl) ⟨by decide, by decide⟩ ⟨by decide, by decide⟩ p7 ?_
  refine S_X1_takeFactor.mono hy (fun z8 h9 hy => ?_)
  refine ww_iadd C dX1_takeFives_26 ?_
  exact ww_iret C E dX1_takeFives_27 (by decide) (by decide) ⟨_, rfl, rfl, hy⟩
abbrev X1_inverse_w0 (G : xG) (k : xK) (x0 : Int) (n : Nat) (h : xH) : Prop := WW G k 3 0 0 0 [(0, .int (iz x0))] [] n h
abbrev X1_inverse_w4 (G : xG) (k : xK) (x0 : Int) (x1 : Int) (x2 : Int) (n : Nat) (h : xH) : Prop := WW G k 3 0 0 4 [(0, .int (iz x0)), (1, .int (iz x1)), (2, .int (iz x2))] [] n h
theorem S_X1_inverse_of {G : xG} {l : Launch} {x0 : Int} {n : Nat} {h : xH} {Po : Int → xH → Prop} (body : ∀ k : xK, kl k = l → CC G k cX1_inverse RX1 3 rm_X1_inverse → CQ G k (some .int) rm_X1_inverse (fun r n1 h1 => ∃ z : Int, r = some (.int (iz z)) ∧ n1 = n ∧ Po z h1) → X1_inverse_w0 G k x0 n h) : S_X1_inverse G l x0 n h Po := xS_of (by decide +kernel) (Nat.le_of_ble_eq_true rfl) rfl (fun k hl hnm C E => body k hl C E)
set_option maxRecDepth 100000 in
set_option maxHeartbeats 4000000 in
theorem X1_inverse_b0 {G : xG} {k : xK} {n0 : Nat} {Po : Int → xH → Prop} (C : CC G k cX1_inverse RX1 3 rm_X1_inverse) (E : CQ G k (some .int) rm_X1_inverse (fun r n1 h1 => ∃ z : Int, r = some (.int (iz z)) ∧ n1 = n0 ∧ Po z h1)) (x0 : Int) (n : Nat) (h : xH) (hn0 : n = n0) (hy : X1_inverse_w4 G k x0 x0 3 n h) : X1_inverse_w0 G k x0 n h := by
  subst hn0
  refine ww_iload_n C 0 0 rfl rfl dX1_inverse_0 ?_
  refine ww_istore_n C 1 rfl (by decide) rfl dX1_inverse_1 ?_
  refine ww_iconst C (z := 3) dX1_inverse_2 rfl ?_
  refine ww_istore_n C 2 rfl (by decide) rfl dX1_inverse_3 ?_
  exact ww_sub [2, 1, 0] rfl (by decide) (by decide) hy
set_option maxRecDepth 100000 in
set_option maxHeartbeats 4000000 in
theorem X1_inverse_b4 {G : xG} {k : xK} {n0 : Nat} {Po : Int → xH → Prop} (C : CC G k cX1_inverse RX1 3 rm_X1_inverse) (E : CQ G k (some .int) rm_X1_inverse (fun r n1 h1 => ∃ z : Int, r = some (.int (iz z)) ∧ n1 = n0 ∧ Po z h1)) (x0 : Int) (x1 : Int) (x2 : Int) (n : Nat) (h : xH) (hn0 : n = n0) (hy : (rg x2 ∧ rg (32 : Int)) ∧ (((32 : Int) ≤ x2 → Po x1 h) ∧ (¬ (32 : Int) ≤ x2 → X1_inverse_w4 G k x0 (w32 (x1 * (w32 (2 - (w32 (x0 * x1)))))) (w32 (x2 * 2)) n h))) : X1_inverse_w4 G k x0 x1 x2 n h := by
  subst hn0
  refine ww_iload_n C 2 2 rfl rfl dX1_inverse_4 ?_
  refine ww_bipush C (z := 32) dX1_inverse_5 rfl ?_
  obtain ⟨p1, hy⟩ := hy
  refine ww_icmp_ge C (tg := 25) dX1_inverse_7 (by decide) p1.1 p1.2 (fun c2 => ?_) (fun c2 => ?_)
  · have hy := hy.1 c2
    refine ww_iload_n C 1 1 rfl rfl dX1_inverse_25 ?_
    exact ww_iret C E dX1_inverse_26 (by decide) (by decide) ⟨_, rfl, rfl, hy⟩
  · have hy := hy.2 c2
    refine ww_iload_n C 1 1 rfl rfl dX1_inverse_10 ?_
    refine ww_iconst C (z := 2) dX1_inverse_11 rfl ?_
    refine ww_iload_n C 0 0 rfl rfl dX1_inverse_12 ?_
    refine ww_iload_n C 1 1 rfl rfl dX1_inverse_13 ?_
    refine ww_imul C dX1_inverse_14 ?_
    refine ww_w32 ?_
    refine ww_isub C dX1_inverse_15 ?_
    refine ww_w32 ?_
    refine ww_imul C dX1_inverse_16 ?_
    refine ww_w32 ?_
    refine ww_istore_n C 1 rfl (by decide) rfl dX1_inverse_17 ?_
    refine ww_iload_n C 2 2 rfl rfl dX1_inverse_18 ?_
    refine ww_iconst C (z := 2) dX1_inverse_19 rfl ?_
    refine ww_imul C dX1_inverse_20 ?_
    refine ww_w32 ?_
    refine ww_istore_n C 2 rfl (by decide) rfl dX1_inverse_21 ?_
    refine ww_goto C (tg := 4) dX1_inverse_22 (by decide) ?_
    exact ww_sub [2, 1, 0] rfl (by decide) (by decide) hy
abbrev X1_subtractProduct_w0 (G : xG) (k : xK) (x0 : Nat) (x1 : Int) (x2 : Nat) (x3 : Int) (n : Nat) (h : xH) : Prop := WW G k 8 0 0 0 [(0, rf G x0), (1, .int (iz x1)), (2, rf G x2), (3, .int (iz x3))] [] n h
abbrev X1_subtractProduct_w10 (G : xG) (k : xK) (x0 : Nat) (x1 : Int) (x2 : Nat) (x3 : Int) (x4 : Int) (x6 : Int) (n : Nat) (h : xH) : Prop := WW G k 8 0 0 10 [(0, rf G x0), (1, .int (iz x1)), (2, rf G x2), (3, .int (iz x3)), (4, .long (lz x4)), (6, .int (iz x6))] [] n h
abbrev X1_subtractProduct_w103 (G : xG) (k : xK)  (n : Nat) (h : xH) : Prop := WW G k 8 0 0 103 [] [] n h
abbrev X1_subtractProduct_w85 (G : xG) (k : xK) (x0 : Nat) (x1 : Int) (x2 : Nat) (x3 : Int) (x4 : Int) (x6 : Int) (x7 : Int) (n : Nat) (h : xH) : Prop := WW G k 8 0 0 85 [(0, rf G x0), (1, .int (iz x1)), (2, rf G x2), (3, .int (iz x3)), (4, .long (lz x4)), (6, .int (iz x6)), (7, .int (iz x7))] [] n h
theorem S_X1_subtractProduct_of {G : xG} {l : Launch} {x0 : Nat} {x1 : Int} {x2 : Nat} {x3 : Int} {n : Nat} {h : xH} {Po : xH → Prop} (body : ∀ k : xK, kl k = l → CC G k cX1_subtractProduct RX1 8 rm_X1_subtractProduct → CQ G k none rm_X1_subtractProduct (fun r n1 h1 => r = none ∧ n1 = n ∧ Po h1) → X1_subtractProduct_w0 G k x0 x1 x2 x3 n h) : S_X1_subtractProduct G l x0 x1 x2 x3 n h Po := xS_of (by decide +kernel) (Nat.le_of_ble_eq_true rfl) rfl (fun k hl hnm C E => body k hl C E)
set_option maxRecDepth 100000 in
set_option maxHeartbeats 4000000 in
theorem X1_subtractProduct_b0 {G : xG} {k : xK} {n0 : Nat} {Po : xH → Prop} (C : CC G k cX1_subtractProduct RX1 8 rm_X1_subtractProduct) (E : CQ G k none rm_X1_subtractProduct (fun r n1 h1 => r = none ∧ n1 = n0 ∧ Po h1)) (x0 : Nat) (x1 : Int) (x2 : Nat) (x3 : Int) (n : Nat) (h : xH) (hn0 : n = n0) (hy : S_J9_max_7cf53 G (kl k) x3 0 n h (fun z1 h2 => X1_subtractProduct_w10 G k x0 x1 x2 x3 0 z1 n h2)) : X1_subtractProduct_w0 G k x0 x1 x2 x3 n h := by
  subst hn0
  refine ww_lconst C (z := 0) dX1_subtractProduct_0 rfl ?_
  refine ww_lstore C 4 (by decide) rfl dX1_subtractProduct_1 ?_
  refine ww_iload_n C 3 4 rfl rfl dX1_subtractProduct_3 ?_
  refine ww_iconst C (z := 0) dX1_subtractProduct_4 rfl ?_
  refine cl_X1_39 C dX1_subtractProduct_5 (Nat.le_of_ble_eq_true rfl) ⟨by decide, by decide⟩ ⟨by decide, by decide⟩ ?_
  refine S_J9_max_7cf53.mono hy (fun z1 h2 hy => ?_)
  refine ww_istore C 6 (by decide) rfl dX1_subtractProduct_8 ?_
  exact ww_sub [2, 3, 4, 5, 1, 0] rfl (by decide) (by decide) hy
set_option maxRecDepth 100000 in
set_option maxHeartbeats 4000000 in
theorem X1_subtractProduct_b10 {G : xG} {k : xK} {n0 : Nat} {Po : xH → Prop} (C : CC G k cX1_subtractProduct RX1 8 rm_X1_subtractProduct) (E : CQ G k none rm_X1_subtractProduct (fun r n1 h1 => r = none ∧ n1 = n0 ∧ Po h1)) (x0 : Nat) (x1 : Int) (x2 : Nat) (x3 : Int) (x4 : Int) (x6 : Int) (n : Nat) (h : xH) (hn0 : n = n0) (hy : okO n h x0 1 ∧ (rg x6 ∧ rg (hG h x0 1)) ∧ (((hG h x0 1) ≤ x6 → X1_subtractProduct_w103 G k  n h) ∧ (¬ (hG h x0 1) ≤ x6 → (rg x6 ∧ rg (132 : Int)) ∧ (((132 : Int) ≤ x6 → X1_subtractProduct_w103 G k  n h) ∧ (¬ (132 : Int) ≤ x6 → rg x1 ∧ okO n h x2 1 ∧ S_X1_wordAt G (kl k) x2 (x6 - x3) n h (fun z8 h9 => rg z8 ∧ (∀ y11 : Int, y11 = x4 + ((lA x1 4294967295) * (lA z8 4294967295)) → okO n h9 x0 1 ∧ 0 ≤ hG h9 x0 0 ∧ okA n h9 ((hG h9 x0 0).toNat) 100 x6 ∧ S_J6_compareUnsigned_7cf53 G (kl k) (hG h9 ((hG h9 x0 0).toNat) (x6.toNat)) (w32 y11) n h9 (fun z15 h16 => rg z15 ∧ ((0 ≤ z15 → X1_subtractProduct_w85 G k x0 x1 x2 x3 (lSu y11 32) x6 (w32 y11) n h16) ∧ (¬ 0 ≤ z15 → X1_subtractProduct_w85 G k x0 x1 x2 x3 ((lSu y11 32) + 1) x6 (w32 y11) n h16)))))))))) : X1_subtractProduct_w10 G k x0 x1 x2 x3 x4 x6 n h := by
  subst hn0
  refine ww_iload C 6 5 rfl dX1_subtractProduct_10 ?_
  refine ww_aload_n C 0 0 rfl rfl dX1_subtractProduct_12 ?_
  obtain ⟨p1, hy⟩ := hy
  refine gf_X1_13 C dX1_subtractProduct_13 p1 ?_
  obtain ⟨p2, hy⟩ := hy
  refine ww_icmp_ge C (tg := 103) dX1_subtractProduct_16 (by decide) p2.1 p2.2 (fun c3 => ?_) (fun c3 => ?_)
  · have hy := hy.1 c3
    exact ww_sub [] rfl (by decide) (by decide) hy
  · have hy := hy.2 c3
    refine ww_iload C 6 5 rfl dX1_subtractProduct_19 ?_
    refine ww_sipush C (z := 132) dX1_subtractProduct_21 rfl ?_
    obtain ⟨p4, hy⟩ := hy
    refine ww_icmp_ge C (tg := 103) dX1_subtractProduct_24 (by decide) p4.1 p4.2 (fun c5 => ?_) (fun c5 => ?_)
    · have hy := hy.1 c5
      exact ww_sub [] rfl (by decide) (by decide) hy
    · have hy := hy.2 c5
      refine ww_lload C 4 4 rfl dX1_subtractProduct_27 ?_
      refine ww_iload_n C 1 1 rfl rfl dX1_subtractProduct_29 ?_
      obtain ⟨p6, hy⟩ := hy
      refine ww_i2l C dX1_subtractProduct_30 p6 ?_
      refine ww_ldc2 C (z := 4294967295) q_100 dX1_subtractProduct_31 ?_
      refine ww_land C dX1_subtractProduct_34 ?_
      refine ww_aload_n C 2 2 rfl rfl dX1_subtractProduct_35 ?_
      refine ww_iload C 6 5 rfl dX1_subtractProduct_36 ?_
      refine ww_iload_n C 3 3 rfl rfl dX1_subtractProduct_38 ?_
      refine ww_isub C dX1_subtractProduct_39 ?_
      obtain ⟨p7, hy⟩ := hy
      refine cl_X1_20 C dX1_subtractProduct_40 (Nat.le_of_ble_eq_true rfl) ⟨by decide, by decide⟩ ⟨by decide, by decide⟩ p7 ?_
      refine S_X1_wordAt.mono hy (fun z8 h9 hy => ?_)
      obtain ⟨p10, hy⟩ := hy
      refine ww_i2l C dX1_subtractProduct_43 p10 ?_
      refine ww_ldc2 C (z := 4294967295) q_100 dX1_subtractProduct_44 ?_
      refine ww_land C dX1_subtractProduct_47 ?_
      refine ww_lmul C dX1_subtractProduct_48 ?_
      refine ww_ladd C dX1_subtractProduct_49 ?_
      refine ww_lstore C 4 (by decide) rfl dX1_subtractProduct_50 ?_
      have hy := hy _ rfl
      refine ww_lload C 4 0 rfl dX1_subtractProduct_52 ?_
      refine ww_l2i C dX1_subtractProduct_54 ?_
      refine ww_w32 ?_
      refine ww_istore C 7 (by decide) rfl dX1_subtractProduct_55 ?_
      refine ww_lload C 4 1 rfl dX1_subtractProduct_57 ?_
      refine ww_bipush C (z := 32) dX1_subtractProduct_59 rfl ?_
      refine ww_lushr C dX1_subtractProduct_61 ?_
      refine ww_lstore C 4 (by decide) rfl dX1_subtractProduct_62 ?_
      refine ww_aload_n C 0 2 rfl rfl dX1_subtractProduct_64 ?_
      obtain ⟨p12, hy⟩ := hy
      obtain ⟨p13, hy⟩ := hy
      refine gf_X1_9 C dX1_subtractProduct_65 p12 p13 ?_
      refine ww_iload C 6 6 rfl dX1_subtractProduct_68 ?_
      obtain ⟨p14, hy⟩ := hy
      refine ww_iald C dX1_subtractProduct_70 p14 ?_
      refine ww_iload C 7 1 rfl dX1_subtractProduct_71 ?_
      refine cl_X1_36 C dX1_subtractProduct_73 (Nat.le_of_ble_eq_true rfl) ⟨by decide, by decide⟩ ⟨by decide, by decide⟩ ?_
      refine S_J6_compareUnsigned_7cf53.mono hy (fun z15 h16 hy => ?_)
      obtain ⟨p17, hy⟩ := hy
      refine ww_if_ge C (tg := 85) dX1_subtractProduct_76 (by decide) p17 (fun c18 => ?_) (fun c18 => ?_)
      · have hy := hy.1 c18
        exact ww_sub [2, 3, 4, 5, 0, 6, 1] rfl (by decide) (by decide) hy
      · have hy := hy.2 c18
        refine ww_lload C 4 0 rfl dX1_subtractProduct_79 ?_
        refine ww_lconst C (z := 1) dX1_subtractProduct_81 rfl ?_
        refine ww_ladd C dX1_subtractProduct_82 ?_
        refine ww_lstore C 4 (by decide) rfl dX1_subtractProduct_83 ?_
        exact ww_sub [2, 3, 4, 5, 0, 6, 1] rfl (by decide) (by decide) hy
set_option maxRecDepth 100000 in
set_option maxHeartbeats 4000000 in
theorem X1_subtractProduct_b103 {G : xG} {k : xK} {n0 : Nat} {Po : xH → Prop} (C : CC G k cX1_subtractProduct RX1 8 rm_X1_subtractProduct) (E : CQ G k none rm_X1_subtractProduct (fun r n1 h1 => r = none ∧ n1 = n0 ∧ Po h1))  (n : Nat) (h : xH) (hn0 : n = n0) (hy : Po h) : X1_subtractProduct_w103 G k  n h := by
  subst hn0
  exact ww_vret C E dX1_subtractProduct_103 (by decide) (by decide) ⟨rfl, rfl, hy⟩
set_option maxRecDepth 100000 in
set_option maxHeartbeats 4000000 in
theorem X1_subtractProduct_b85 {G : xG} {k : xK} {n0 : Nat} {Po : xH → Prop} (C : CC G k cX1_subtractProduct RX1 8 rm_X1_subtractProduct) (E : CQ G k none rm_X1_subtractProduct (fun r n1 h1 => r = none ∧ n1 = n0 ∧ Po h1)) (x0 : Nat) (x1 : Int) (x2 : Nat) (x3 : Int) (x4 : Int) (x6 : Int) (x7 : Int) (n : Nat) (h : xH) (hn0 : n = n0) (hy : okO n h x0 1 ∧ 0 ≤ hG h x0 0 ∧ okA n h ((hG h x0 0).toNat) 100 x6 ∧ okA n h ((hG h x0 0).toNat) 100 x6 ∧ (∀ h5 : xH, h5 = hS h ((hG h x0 0).toNat) (x6.toNat) (w32 ((hG h ((hG h x0 0).toNat) (x6.toNat)) - x7)) → X1_subtractProduct_w10 G k x0 x1 x2 x3 x4 (x6 + 1) n h5)) : X1_subtractProduct_w85 G k x0 x1 x2 x3 x4 x6 x7 n h := by
  subst hn0
  refine ww_aload_n C 0 0 rfl rfl dX1_subtractProduct_85 ?_
  obtain ⟨p1, hy⟩ := hy
  obtain ⟨p2, hy⟩ := hy
  refine gf_X1_9 C dX1_subtractProduct_86 p1 p2 ?_
  refine ww_iload C 6 5 rfl dX1_subtractProduct_89 ?_
  refine ww_dup2_11 C rfl rfl dX1_subtractProduct_91 ?_
  obtain ⟨p3, hy⟩ := hy
  refine ww_iald C dX1_subtractProduct_92 p3 ?_
  refine ww_iload C 7 6 rfl dX1_subtractProduct_93 ?_
  refine ww_isub C dX1_subtractProduct_95 ?_
  refine ww_w32 ?_
  obtain ⟨p4, hy⟩ := hy
  have hy := hy _ rfl
  refine ww_iast C dX1_subtractProduct_96 p4 ?_
  refine ww_iinc C 6 5 rfl (by decide) rfl dX1_subtractProduct_97 ?_
  refine ww_goto C (tg := 10) dX1_subtractProduct_100 (by decide) ?_
  exact ww_sub [1, 2, 3, 4, 5, 0] rfl (by decide) (by decide) hy
abbrev X1_divideByOddFactor_w0 (G : xG) (k : xK) (x0 : Nat) (x1 : Nat) (n : Nat) (h : xH) : Prop := WW G k 5 0 0 0 [(0, rf G x0), (1, rf G x1)] [] n h
abbrev X1_divideByOddFactor_w11 (G : xG) (k : xK) (x0 : Nat) (x1 : Nat) (x2 : Int) (x3 : Int) (n : Nat) (h : xH) : Prop := WW G k 5 0 0 11 [(0, rf G x0), (1, rf G x1), (2, .int (iz x2)), (3, .int (iz x3))] [] n h
abbrev X1_divideByOddFactor_w63 (G : xG) (k : xK) (x0 : Nat) (n : Nat) (h : xH) : Prop := WW G k 5 0 0 63 [(0, rf G x0)] [] n h
abbrev X1_divideByOddFactor_w49 (G : xG) (k : xK) (x0 : Nat) (x1 : Nat) (x2 : Int) (x3 : Int) (x4 : Int) (n : Nat) (h : xH) : Prop := WW G k 5 0 0 49 [(0, rf G x0), (1, rf G x1), (2, .int (iz x2)), (3, .int (iz x3)), (4, .int (iz x4))] [] n h
theorem S_X1_divideByOddFactor_of {G : xG} {l : Launch} {x0 : Nat} {x1 : Nat} {n : Nat} {h : xH} {Po : xH → Prop} (body : ∀ k : xK, kl k = l → CC G k cX1_divideByOddFactor RX1 5 rm_X1_divideByOddFactor → CQ G k none rm_X1_divideByOddFactor (fun r n1 h1 => r = none ∧ n1 = n ∧ Po h1) → X1_divideByOddFactor_w0 G k x0 x1 n h) : S_X1_divideByOddFactor G l x0 x1 n h Po := xS_of (by decide +kernel) (Nat.le_of_ble_eq_true rfl) rfl (fun k hl hnm C E => body k hl C E)
set_option maxRecDepth 100000 in
set_option maxHeartbeats 4000000 in
theorem X1_divideByOddFactor_b0 {G : xG} {k : xK} {n0 : Nat} {Po : xH → Prop} (C : CC G k cX1_divideByOddFactor RX1 5 rm_X1_divideByOddFactor) (E : CQ G k none rm_X1_divideByOddFactor (fun r n1 h1 => r = none ∧ n1 = n0 ∧ Po h1)) (x0 : Nat) (x1 : Nat) (n : Nat) (h : xH) (hn0 : n = n0) (hy : okO n h x1 1 ∧ S_X1_wordAt G (kl k) x1 0 n h (fun z2 h3 => S_X1_inverse G (kl k) z2 n h3 (fun z4 h5 => X1_divideByOddFactor_w11 G k x0 x1 z4 0 n h5))) : X1_divideByOddFactor_w0 G k x0 x1 n h := by
  subst hn0
  refine ww_aload_n C 1 1 rfl rfl dX1_divideByOddFactor_0 ?_
  refine ww_iconst C (z := 0) dX1_divideByOddFactor_1 rfl ?_
  obtain ⟨p1, hy⟩ := hy
  refine cl_X1_20 C dX1_divideByOddFactor_2 (Nat.le_of_ble_eq_true rfl) ⟨by decide, by decide⟩ ⟨by decide, by decide⟩ p1 ?_
  refine S_X1_wordAt.mono hy (fun z2 h3 hy => ?_)
  refine cl_X1_72 C dX1_divideByOddFactor_5 (Nat.le_of_ble_eq_true rfl) ⟨by decide, by decide⟩ ⟨by decide, by decide⟩ ?_
  refine S_X1_inverse.mono hy (fun z4 h5 hy => ?_)
  refine ww_istore_n C 2 rfl (by decide) rfl dX1_divideByOddFactor_8 ?_
  refine ww_iconst C (z := 0) dX1_divideByOddFactor_9 rfl ?_
  refine ww_istore_n C 3 rfl (by decide) rfl dX1_divideByOddFactor_10 ?_
  exact ww_sub [2, 3, 1, 0] rfl (by decide) (by decide) hy
set_option maxRecDepth 100000 in
set_option maxHeartbeats 4000000 in
theorem X1_divideByOddFactor_b11 {G : xG} {k : xK} {n0 : Nat} {Po : xH → Prop} (C : CC G k cX1_divideByOddFactor RX1 5 rm_X1_divideByOddFactor) (E : CQ G k none rm_X1_divideByOddFactor (fun r n1 h1 => r = none ∧ n1 = n0 ∧ Po h1)) (x0 : Nat) (x1 : Nat) (x2 : Int) (x3 : Int) (n : Nat) (h : xH) (hn0 : n = n0) (hy : okO n h x0 1 ∧ (rg x3 ∧ rg (hG h x0 1)) ∧ (((hG h x0 1) ≤ x3 → X1_divideByOddFactor_w63 G k x0 n h) ∧ (¬ (hG h x0 1) ≤ x3 → (rg x3 ∧ rg (132 : Int)) ∧ (((132 : Int) ≤ x3 → X1_divideByOddFactor_w63 G k x0 n h) ∧ (¬ (132 : Int) ≤ x3 → okO n h x0 1 ∧ 0 ≤ hG h x0 0 ∧ okA n h ((hG h x0 0).toNat) 100 x3 ∧ (∀ y9 : Int, y9 = w32 ((hG h ((hG h x0 0).toNat) (x3.toNat)) * x2) → rg y9 ∧ ((y9 = 0 → X1_divideByOddFactor_w49 G k x0 x1 x2 x3 y9 n h) ∧ (¬ y9 = 0 → okO n h x0 1 ∧ S_X1_subtractProduct G (kl k) x0 y9 x1 x3 n h (fun h13 => X1_divideByOddFactor_w49 G k x0 x1 x2 x3 y9 n h13))))))))) : X1_divideByOddFactor_w11 G k x0 x1 x2 x3 n h := by
  subst hn0
  refine ww_iload_n C 3 3 rfl rfl dX1_divideByOddFactor_11 ?_
  refine ww_aload_n C 0 0 rfl rfl dX1_divideByOddFactor_12 ?_
  obtain ⟨p1, hy⟩ := hy
  refine gf_X1_13 C dX1_divideByOddFactor_13 p1 ?_
  obtain ⟨p2, hy⟩ := hy
  refine ww_icmp_ge C (tg := 63) dX1_divideByOddFactor_16 (by decide) p2.1 p2.2 (fun c3 => ?_) (fun c3 => ?_)
  · have hy := hy.1 c3
    exact ww_sub [0] rfl (by decide) (by decide) hy
  · have hy := hy.2 c3
    refine ww_iload_n C 3 3 rfl rfl dX1_divideByOddFactor_19 ?_
    refine ww_sipush C (z := 132) dX1_divideByOddFactor_20 rfl ?_
    obtain ⟨p4, hy⟩ := hy
    refine ww_icmp_ge C (tg := 63) dX1_divideByOddFactor_23 (by decide) p4.1 p4.2 (fun c5 => ?_) (fun c5 => ?_)
    · have hy := hy.1 c5
      exact ww_sub [0] rfl (by decide) (by decide) hy
    · have hy := hy.2 c5
      refine ww_aload_n C 0 0 rfl rfl dX1_divideByOddFactor_26 ?_
      obtain ⟨p6, hy⟩ := hy
      obtain ⟨p7, hy⟩ := hy
      refine gf_X1_9 C dX1_divideByOddFactor_27 p6 p7 ?_
      refine ww_iload_n C 3 3 rfl rfl dX1_divideByOddFactor_30 ?_
      obtain ⟨p8, hy⟩ := hy
      refine ww_iald C dX1_divideByOddFactor_31 p8 ?_
      refine ww_iload_n C 2 2 rfl rfl dX1_divideByOddFactor_32 ?_
      refine ww_imul C dX1_divideByOddFactor_33 ?_
      refine ww_w32 ?_
      refine ww_istore C 4 (by decide) rfl dX1_divideByOddFactor_34 ?_
      have hy := hy _ rfl
      refine ww_iload C 4 0 rfl dX1_divideByOddFactor_36 ?_
      obtain ⟨p10, hy⟩ := hy
      refine ww_if_eq C (tg := 49) dX1_divideByOddFactor_38 (by decide) p10 (fun c11 => ?_) (fun c11 => ?_)
      · have hy := hy.1 c11
        exact ww_sub [1, 2, 3, 4, 0] rfl (by decide) (by decide) hy
      · have hy := hy.2 c11
        refine ww_aload_n C 0 1 rfl rfl dX1_divideByOddFactor_41 ?_
        refine ww_iload C 4 0 rfl dX1_divideByOddFactor_42 ?_
        refine ww_aload_n C 1 2 rfl rfl dX1_divideByOddFactor_44 ?_
        refine ww_iload_n C 3 4 rfl rfl dX1_divideByOddFactor_45 ?_
        obtain ⟨p12, hy⟩ := hy
        refine cl_X1_75 C dX1_divideByOddFactor_46 (Nat.le_of_ble_eq_true rfl) ⟨by decide, by decide⟩ ⟨by decide, by decide⟩ p12 ?_
        refine S_X1_subtractProduct.mono hy (fun h13 hy => ?_)
        exact ww_sub [1, 2, 3, 4, 0] rfl (by decide) (by decide) hy
set_option maxRecDepth 100000 in
set_option maxHeartbeats 4000000 in
theorem X1_divideByOddFactor_b63 {G : xG} {k : xK} {n0 : Nat} {Po : xH → Prop} (C : CC G k cX1_divideByOddFactor RX1 5 rm_X1_divideByOddFactor) (E : CQ G k none rm_X1_divideByOddFactor (fun r n1 h1 => r = none ∧ n1 = n0 ∧ Po h1)) (x0 : Nat) (n : Nat) (h : xH) (hn0 : n = n0) (hy : okO n h x0 1 ∧ S_X1_trim G (kl k) x0 n h (fun h2 => Po h2)) : X1_divideByOddFactor_w63 G k x0 n h := by
  subst hn0
  refine ww_aload_n C 0 0 rfl rfl dX1_divideByOddFactor_63 ?_
  obtain ⟨p1, hy⟩ := hy
  refine cl_X1_17 C dX1_divideByOddFactor_64 (Nat.le_of_ble_eq_true rfl) ⟨by decide, by decide⟩ ⟨by decide, by decide⟩ p1 ?_
  refine S_X1_trim.mono hy (fun h2 hy => ?_)
  exact ww_vret C E dX1_divideByOddFactor_67 (by decide) (by decide) ⟨rfl, rfl, hy⟩
set_option maxRecDepth 100000 in
set_option maxHeartbeats 4000000 in
theorem X1_divideByOddFactor_b49 {G : xG} {k : xK} {n0 : Nat} {Po : xH → Prop} (C : CC G k cX1_divideByOddFactor RX1 5 rm_X1_divideByOddFactor) (E : CQ G k none rm_X1_divideByOddFactor (fun r n1 h1 => r = none ∧ n1 = n0 ∧ Po h1)) (x0 : Nat) (x1 : Nat) (x2 : Int) (x3 : Int) (x4 : Int) (n : Nat) (h : xH) (hn0 : n = n0) (hy : okO n h x0 1 ∧ 0 ≤ hG h x0 0 ∧ okA n h ((hG h x0 0).toNat) 100 x3 ∧ (∀ h4 : xH, h4 = hS h ((hG h x0 0).toNat) (x3.toNat) x4 → X1_divideByOddFactor_w11 G k x0 x1 x2 (x3 + 1) n h4)) : X1_divideByOddFactor_w49 G k x0 x1 x2 x3 x4 n h := by
  subst hn0
  refine ww_aload_n C 0 0 rfl rfl dX1_divideByOddFactor_49 ?_
  obtain ⟨p1, hy⟩ := hy
  obtain ⟨p2, hy⟩ := hy
  refine gf_X1_9 C dX1_divideByOddFactor_50 p1 p2 ?_
  refine ww_iload_n C 3 3 rfl rfl dX1_divideByOddFactor_53 ?_
  refine ww_iload C 4 4 rfl dX1_divideByOddFactor_54 ?_
  obtain ⟨p3, hy⟩ := hy
  have hy := hy _ rfl
  refine ww_iast C dX1_divideByOddFactor_56 p3 ?_
  refine ww_iinc C 3 3 rfl (by decide) rfl dX1_divideByOddFactor_57 ?_
  refine ww_goto C (tg := 11) dX1_divideByOddFactor_60 (by decide) ?_
  exact ww_sub [1, 2, 3, 0] rfl (by decide) (by decide) hy
abbrev X1_shiftLeft_w0 (G : xG) (k : xK) (x0 : Nat) (x1 : Int) (n : Nat) (h : xH) : Prop := WW G k 8 0 0 0 [(0, rf G x0), (1, .int (iz x1))] [] n h
abbrev X1_shiftLeft_w25 (G : xG) (k : xK)  (n : Nat) (h : xH) : Prop := WW G k 8 0 0 25 [] [] n h
abbrev X1_shiftLeft_w52 (G : xG) (k : xK) (x0 : Nat) (x3 : Int) (x4 : Int) (x5 : Int) (x6 : Int) (n : Nat) (h : xH) : Prop := WW G k 8 0 0 52 [(0, rf G x0), (3, .int (iz x3)), (4, .int (iz x4)), (5, .int (iz x5)), (6, .int (iz x6))] [] n h
theorem S_X1_shiftLeft_of {G : xG} {l : Launch} {x0 : Nat} {x1 : Int} {n : Nat} {h : xH} {Po : xH → Prop} (body : ∀ k : xK, kl k = l → CC G k cX1_shiftLeft RX1 8 rm_X1_shiftLeft → CQ G k none rm_X1_shiftLeft (fun r n1 h1 => r = none ∧ n1 = n ∧ Po h1) → X1_shiftLeft_w0 G k x0 x1 n h) : S_X1_shiftLeft G l x0 x1 n h Po := xS_of (by decide +kernel) (Nat.le_of_ble_eq_true rfl) rfl (fun k hl hnm C E => body k hl C E)
set_option maxRecDepth 100000 in
set_option maxHeartbeats 4000000 in
theorem X1_shiftLeft_b0 {G : xG} {k : xK} {n0 : Nat} {Po : xH → Prop} (C : CC G k cX1_shiftLeft RX1 8 rm_X1_shiftLeft) (E : CQ G k none rm_X1_shiftLeft (fun r n1 h1 => r = none ∧ n1 = n0 ∧ Po h1)) (x0 : Nat) (x1 : Int) (n : Nat) (h : xH) (hn0 : n = n0) (hy : okO n h x0 1 ∧ S_X1_bitLength G (kl k) x0 n h (fun z2 h3 => okO n h3 x0 1 ∧ rg (hG h3 x0 1) ∧ (((hG h3 x0 1) = 0 → X1_shiftLeft_w25 G k  n h3) ∧ (¬ (hG h3 x0 1) = 0 → rg x1 ∧ ((x1 ≤ 0 → X1_shiftLeft_w25 G k  n h3) ∧ (¬ x1 ≤ 0 → (rg x1 ∧ rg (4224 - z2)) ∧ ((x1 ≤ (4224 - z2) → X1_shiftLeft_w52 G k x0 (iSr x1 5) (iA x1 31) (iSr ((z2 + x1) + 31) 5) ((iSr ((z2 + x1) + 31) 5) - 1) n h3) ∧ (¬ x1 ≤ (4224 - z2) → X1_shiftLeft_w25 G k  n h3)))))))) : X1_shiftLeft_w0 G k x0 x1 n h := by
  subst hn0
  refine ww_aload_n C 0 0 rfl rfl dX1_shiftLeft_0 ?_
  obtain ⟨p1, hy⟩ := hy
  refine cl_X1_79 C dX1_shiftLeft_1 (Nat.le_of_ble_eq_true rfl) ⟨by decide, by decide⟩ ⟨by decide, by decide⟩ p1 ?_
  refine S_X1_bitLength.mono hy (fun z2 h3 hy => ?_)
  refine ww_istore_n C 2 rfl (by decide) rfl dX1_shiftLeft_4 ?_
  refine ww_aload_n C 0 1 rfl rfl dX1_shiftLeft_5 ?_
  obtain ⟨p4, hy⟩ := hy
  refine gf_X1_13 C dX1_shiftLeft_6 p4 ?_
  obtain ⟨p5, hy⟩ := hy
  refine ww_if_eq C (tg := 25) dX1_shiftLeft_9 (by decide) p5 (fun c6 => ?_) (fun c6 => ?_)
  · have hy := hy.1 c6
    exact ww_sub [] rfl (by decide) (by decide) hy
  · have hy := hy.2 c6
    refine ww_iload_n C 1 2 rfl rfl dX1_shiftLeft_12 ?_
    obtain ⟨p7, hy⟩ := hy
    refine ww_if_le C (tg := 25) dX1_shiftLeft_13 (by decide) p7 (fun c8 => ?_) (fun c8 => ?_)
    · have hy := hy.1 c8
      exact ww_sub [] rfl (by decide) (by decide) hy
    · have hy := hy.2 c8
      refine ww_iload_n C 1 2 rfl rfl dX1_shiftLeft_16 ?_
      refine ww_sipush C (z := 4224) dX1_shiftLeft_17 rfl ?_
      refine ww_iload_n C 2 0 rfl rfl dX1_shiftLeft_20 ?_
      refine ww_isub C dX1_shiftLeft_21 ?_
      obtain ⟨p9, hy⟩ := hy
      refine ww_icmp_le C (tg := 26) dX1_shiftLeft_22 (by decide) p9.1 p9.2 (fun c10 => ?_) (fun c10 => ?_)
      · have hy := hy.1 c10
        refine ww_iload_n C 1 2 rfl rfl dX1_shiftLeft_26 ?_
        refine ww_iconst C (z := 5) dX1_shiftLeft_27 rfl ?_
        refine ww_ishr C dX1_shiftLeft_28 ?_
        refine ww_istore_n C 3 rfl (by decide) rfl dX1_shiftLeft_29 ?_
        refine ww_iload_n C 1 3 rfl rfl dX1_shiftLeft_30 ?_
        refine ww_bipush C (z := 31) dX1_shiftLeft_31 rfl ?_
        refine ww_iand C dX1_shiftLeft_33 ?_
        refine ww_istore C 4 (by decide) rfl dX1_shiftLeft_34 ?_
        refine ww_iload_n C 2 2 rfl rfl dX1_shiftLeft_36 ?_
        refine ww_iload_n C 1 4 rfl rfl dX1_shiftLeft_37 ?_
        refine ww_iadd C dX1_shiftLeft_38 ?_
        refine ww_bipush C (z := 31) dX1_shiftLeft_39 rfl ?_
        refine ww_iadd C dX1_shiftLeft_41 ?_
        refine ww_iconst C (z := 5) dX1_shiftLeft_42 rfl ?_
        refine ww_ishr C dX1_shiftLeft_43 ?_
        refine ww_istore C 5 (by decide) rfl dX1_shiftLeft_44 ?_
        refine ww_iload C 5 0 rfl dX1_shiftLeft_46 ?_
        refine ww_iconst C (z := 1) dX1_shiftLeft_48 rfl ?_
        refine ww_isub C dX1_shiftLeft_49 ?_
        refine ww_istore C 6 (by decide) rfl dX1_shiftLeft_50 ?_
        exact ww_sub [5, 3, 2, 1, 0] rfl (by decide) (by decide) hy
      · have hy := hy.2 c10
        exact ww_sub [] rfl (by decide) (by decide) hy
set_option maxRecDepth 100000 in
set_option maxHeartbeats 4000000 in
theorem X1_shiftLeft_b25 {G : xG} {k : xK} {n0 : Nat} {Po : xH → Prop} (C : CC G k cX1_shiftLeft RX1 8 rm_X1_shiftLeft) (E : CQ G k none rm_X1_shiftLeft (fun r n1 h1 => r = none ∧ n1 = n0 ∧ Po h1))  (n : Nat) (h : xH) (hn0 : n = n0) (hy : Po h) : X1_shiftLeft_w25 G k  n h := by
  subst hn0
  exact ww_vret C E dX1_shiftLeft_25 (by decide) (by decide) ⟨rfl, rfl, hy⟩
set_option maxRecDepth 100000 in
set_option maxHeartbeats 4000000 in
theorem X1_shiftLeft_b52 {G : xG} {k : xK} {n0 : Nat} {Po : xH → Prop} (C : CC G k cX1_shiftLeft RX1 8 rm_X1_shiftLeft) (E : CQ G k none rm_X1_shiftLeft (fun r n1 h1 => r = none ∧ n1 = n0 ∧ Po h1)) (x0 : Nat) (x3 : Int) (x4 : Int) (x5 : Int) (x6 : Int) (n : Nat) (h : xH) (hn0 : n = n0) (hy : rg x6 ∧ ((x6 < 0 → okO n h x0 1 ∧ (∀ h4 : xH, h4 = hS h x0 1 x5 → Po h4)) ∧ (¬ x6 < 0 → okO n h x0 1 ∧ S_X1_wordAt G (kl k) x0 ((x6 - x3) - 1) n h (fun z6 h7 => okO n h7 x0 1 ∧ 0 ≤ hG h7 x0 0 ∧ okO n h7 x0 1 ∧ S_X1_wordAt G (kl k) x0 (x6 - x3) n h7 (fun z11 h12 => okA n h12 ((hG h7 x0 0).toNat) 100 x6 ∧ (∀ h14 : xH, h14 = hS h12 ((hG h7 x0 0).toNat) (x6.toNat) (iO (iSl z11 x4) (iSu (iSu z6 1) (31 - x4))) → X1_shiftLeft_w52 G k x0 x3 x4 x5 (x6 + (-1)) n h14)))))) : X1_shiftLeft_w52 G k x0 x3 x4 x5 x6 n h := by
  subst hn0
  refine ww_iload C 6 4 rfl dX1_shiftLeft_52 ?_
  obtain ⟨p1, hy⟩ := hy
  refine ww_if_lt C (tg := 104) dX1_shiftLeft_54 (by decide) p1 (fun c2 => ?_) (fun c2 => ?_)
  · have hy := hy.1 c2
    refine ww_aload_n C 0 0 rfl rfl dX1_shiftLeft_104 ?_
    refine ww_iload C 5 3 rfl dX1_shiftLeft_105 ?_
    obtain ⟨p3, hy⟩ := hy
    have hy := hy _ rfl
    refine pf_X1_13I C dX1_shiftLeft_107 p3 ?_
    exact ww_vret C E dX1_shiftLeft_110 (by decide) (by decide) ⟨rfl, rfl, hy⟩
  · have hy := hy.2 c2
    refine ww_aload_n C 0 0 rfl rfl dX1_shiftLeft_57 ?_
    refine ww_iload C 6 4 rfl dX1_shiftLeft_58 ?_
    refine ww_iload_n C 3 1 rfl rfl dX1_shiftLeft_60 ?_
    refine ww_isub C dX1_shiftLeft_61 ?_
    refine ww_iconst C (z := 1) dX1_shiftLeft_62 rfl ?_
    refine ww_isub C dX1_shiftLeft_63 ?_
    obtain ⟨p5, hy⟩ := hy
    refine cl_X1_20 C dX1_shiftLeft_64 (Nat.le_of_ble_eq_true rfl) ⟨by decide, by decide⟩ ⟨by decide, by decide⟩ p5 ?_
    refine S_X1_wordAt.mono hy (fun z6 h7 hy => ?_)
    refine ww_iconst C (z := 1) dX1_shiftLeft_67 rfl ?_
    refine ww_iushr C dX1_shiftLeft_68 ?_
    refine ww_bipush C (z := 31) dX1_shiftLeft_69 rfl ?_
    refine ww_iload C 4 2 rfl dX1_shiftLeft_71 ?_
    refine ww_isub C dX1_shiftLeft_73 ?_
    refine ww_iushr C dX1_shiftLeft_74 ?_
    refine ww_istore C 7 (by decide) rfl dX1_shiftLeft_75 ?_
    refine ww_aload_n C 0 1 rfl rfl dX1_shiftLeft_77 ?_
    obtain ⟨p8, hy⟩ := hy
    obtain ⟨p9, hy⟩ := hy
    refine gf_X1_9 C dX1_shiftLeft_78 p8 p9 ?_
    refine ww_iload C 6 5 rfl dX1_shiftLeft_81 ?_
    refine ww_aload_n C 0 1 rfl rfl dX1_shiftLeft_83 ?_
    refine ww_iload C 6 5 rfl dX1_shiftLeft_84 ?_
    refine ww_iload_n C 3 2 rfl rfl dX1_shiftLeft_86 ?_
    refine ww_isub C dX1_shiftLeft_87 ?_
    obtain ⟨p10, hy⟩ := hy
    refine cl_X1_20 C dX1_shiftLeft_88 (Nat.le_of_ble_eq_true rfl) ⟨by decide, by decide⟩ ⟨by decide, by decide⟩ p10 ?_
    refine S_X1_wordAt.mono hy (fun z11 h12 hy => ?_)
    refine ww_iload C 4 3 rfl dX1_shiftLeft_91 ?_
    refine ww_ishl C dX1_shiftLeft_93 ?_
    refine ww_iload C 7 0 rfl dX1_shiftLeft_94 ?_
    refine ww_ior C dX1_shiftLeft_96 ?_
    obtain ⟨p13, hy⟩ := hy
    have hy := hy _ rfl
    refine ww_iast C dX1_shiftLeft_97 p13 ?_
    refine ww_iinc C 6 5 rfl (by decide) rfl dX1_shiftLeft_98 ?_
    refine ww_goto C (tg := 52) dX1_shiftLeft_101 (by decide) ?_
    exact ww_sub [2, 3, 4, 5, 0] rfl (by decide) (by decide) hy
abbrev X1_shiftRight_w0 (G : xG) (k : xK) (x0 : Nat) (x1 : Int) (n : Nat) (h : xH) : Prop := WW G k 7 0 0 0 [(0, rf G x0), (1, .int (iz x1))] [] n h
abbrev X1_shiftRight_w29 (G : xG) (k : xK) (x0 : Nat) (x2 : Int) (x3 : Int) (x4 : Int) (x5 : Int) (n : Nat) (h : xH) : Prop := WW G k 7 0 0 29 [(0, rf G x0), (2, .int (iz x2)), (3, .int (iz x3)), (4, .int (iz x4)), (5, .int (iz x5))] [] n h
abbrev X1_shiftRight_w89 (G : xG) (k : xK) (x0 : Nat) (x4 : Int) (n : Nat) (h : xH) : Prop := WW G k 7 0 0 89 [(0, rf G x0), (4, .int (iz x4))] [] n h
theorem S_X1_shiftRight_of {G : xG} {l : Launch} {x0 : Nat} {x1 : Int} {n : Nat} {h : xH} {Po : xH → Prop} (body : ∀ k : xK, kl k = l → CC G k cX1_shiftRight RX1 7 rm_X1_shiftRight → CQ G k none rm_X1_shiftRight (fun r n1 h1 => r = none ∧ n1 = n ∧ Po h1) → X1_shiftRight_w0 G k x0 x1 n h) : S_X1_shiftRight G l x0 x1 n h Po := xS_of (by decide +kernel) (Nat.le_of_ble_eq_true rfl) rfl (fun k hl hnm C E => body k hl C E)
set_option maxRecDepth 100000 in
set_option maxHeartbeats 4000000 in
theorem X1_shiftRight_b0 {G : xG} {k : xK} {n0 : Nat} {Po : xH → Prop} (C : CC G k cX1_shiftRight RX1 7 rm_X1_shiftRight) (E : CQ G k none rm_X1_shiftRight (fun r n1 h1 => r = none ∧ n1 = n0 ∧ Po h1)) (x0 : Nat) (x1 : Int) (n : Nat) (h : xH) (hn0 : n = n0) (hy : rg x1 ∧ ((0 < x1 → okO n h x0 1 ∧ S_J9_max_7cf53 G (kl k) ((hG h x0 1) - (iSr x1 5)) 0 n h (fun z4 h5 => X1_shiftRight_w29 G k x0 (iSr x1 5) (iA x1 31) z4 0 n h5)) ∧ (¬ 0 < x1 → Po h))) : X1_shiftRight_w0 G k x0 x1 n h := by
  subst hn0
  refine ww_iload_n C 1 1 rfl rfl dX1_shiftRight_0 ?_
  obtain ⟨p1, hy⟩ := hy
  refine ww_if_gt C (tg := 5) dX1_shiftRight_1 (by decide) p1 (fun c2 => ?_) (fun c2 => ?_)
  · have hy := hy.1 c2
    refine ww_iload_n C 1 1 rfl rfl dX1_shiftRight_5 ?_
    refine ww_iconst C (z := 5) dX1_shiftRight_6 rfl ?_
    refine ww_ishr C dX1_shiftRight_7 ?_
    refine ww_istore_n C 2 rfl (by decide) rfl dX1_shiftRight_8 ?_
    refine ww_iload_n C 1 2 rfl rfl dX1_shiftRight_9 ?_
    refine ww_bipush C (z := 31) dX1_shiftRight_10 rfl ?_
    refine ww_iand C dX1_shiftRight_12 ?_
    refine ww_istore_n C 3 rfl (by decide) rfl dX1_shiftRight_13 ?_
    refine ww_aload_n C 0 2 rfl rfl dX1_shiftRight_14 ?_
    obtain ⟨p3, hy⟩ := hy
    refine gf_X1_13 C dX1_shiftRight_15 p3 ?_
    refine ww_iload_n C 2 1 rfl rfl dX1_shiftRight_18 ?_
    refine ww_isub C dX1_shiftRight_19 ?_
    refine ww_iconst C (z := 0) dX1_shiftRight_20 rfl ?_
    refine cl_X1_39 C dX1_shiftRight_21 (Nat.le_of_ble_eq_true rfl) ⟨by decide, by decide⟩ ⟨by decide, by decide⟩ ?_
    refine S_J9_max_7cf53.mono hy (fun z4 h5 hy => ?_)
    refine ww_istore C 4 (by decide) rfl dX1_shiftRight_24 ?_
    refine ww_iconst C (z := 0) dX1_shiftRight_26 rfl ?_
    refine ww_istore C 5 (by decide) rfl dX1_shiftRight_27 ?_
    exact ww_sub [4, 3, 2, 1, 0] rfl (by decide) (by decide) hy
  · have hy := hy.2 c2
    exact ww_vret C E dX1_shiftRight_4 (by decide) (by decide) ⟨rfl, rfl, hy⟩
set_option maxRecDepth 100000 in
set_option maxHeartbeats 4000000 in
theorem X1_shiftRight_b29 {G : xG} {k : xK} {n0 : Nat} {Po : xH → Prop} (C : CC G k cX1_shiftRight RX1 7 rm_X1_shiftRight) (E : CQ G k none rm_X1_shiftRight (fun r n1 h1 => r = none ∧ n1 = n0 ∧ Po h1)) (x0 : Nat) (x2 : Int) (x3 : Int) (x4 : Int) (x5 : Int) (n : Nat) (h : xH) (hn0 : n = n0) (hy : (rg x5 ∧ rg x4) ∧ ((x4 ≤ x5 → X1_shiftRight_w89 G k x0 x4 n h) ∧ (¬ x4 ≤ x5 → (rg x5 ∧ rg (132 : Int)) ∧ (((132 : Int) ≤ x5 → X1_shiftRight_w89 G k x0 x4 n h) ∧ (¬ (132 : Int) ≤ x5 → okO n h x0 1 ∧ S_X1_wordAt G (kl k) x0 ((x5 + x2) + 1) n h (fun z6 h7 => okO n h7 x0 1 ∧ 0 ≤ hG h7 x0 0 ∧ okO n h7 x0 1 ∧ S_X1_wordAt G (kl k) x0 (x5 + x2) n h7 (fun z11 h12 => okA n h12 ((hG h7 x0 0).toNat) 100 x5 ∧ (∀ h14 : xH, h14 = hS h12 ((hG h7 x0 0).toNat) (x5.toNat) (iO (iSu z11 x3) (iSl (iSl z6 1) (31 - x3))) → X1_shiftRight_w29 G k x0 x2 x3 x4 (x5 + 1) n h14)))))))) : X1_shiftRight_w29 G k x0 x2 x3 x4 x5 n h := by
  subst hn0
  refine ww_iload C 5 4 rfl dX1_shiftRight_29 ?_
  refine ww_iload C 4 3 rfl dX1_shiftRight_31 ?_
  obtain ⟨p1, hy⟩ := hy
  refine ww_icmp_ge C (tg := 89) dX1_shiftRight_33 (by decide) p1.1 p1.2 (fun c2 => ?_) (fun c2 => ?_)
  · have hy := hy.1 c2
    exact ww_sub [0, 3] rfl (by decide) (by decide) hy
  · have hy := hy.2 c2
    refine ww_iload C 5 4 rfl dX1_shiftRight_36 ?_
    refine ww_sipush C (z := 132) dX1_shiftRight_38 rfl ?_
    obtain ⟨p3, hy⟩ := hy
    refine ww_icmp_ge C (tg := 89) dX1_shiftRight_41 (by decide) p3.1 p3.2 (fun c4 => ?_) (fun c4 => ?_)
    · have hy := hy.1 c4
      exact ww_sub [0, 3] rfl (by decide) (by decide) hy
    · have hy := hy.2 c4
      refine ww_aload_n C 0 0 rfl rfl dX1_shiftRight_44 ?_
      refine ww_iload C 5 4 rfl dX1_shiftRight_45 ?_
      refine ww_iload_n C 2 1 rfl rfl dX1_shiftRight_47 ?_
      refine ww_iadd C dX1_shiftRight_48 ?_
      refine ww_iconst C (z := 1) dX1_shiftRight_49 rfl ?_
      refine ww_iadd C dX1_shiftRight_50 ?_
      obtain ⟨p5, hy⟩ := hy
      refine cl_X1_20 C dX1_shiftRight_51 (Nat.le_of_ble_eq_true rfl) ⟨by decide, by decide⟩ ⟨by decide, by decide⟩ p5 ?_
      refine S_X1_wordAt.mono hy (fun z6 h7 hy => ?_)
      refine ww_iconst C (z := 1) dX1_shiftRight_54 rfl ?_
      refine ww_ishl C dX1_shiftRight_55 ?_
      refine ww_bipush C (z := 31) dX1_shiftRight_56 rfl ?_
      refine ww_iload_n C 3 2 rfl rfl dX1_shiftRight_58 ?_
      refine ww_isub C dX1_shiftRight_59 ?_
      refine ww_ishl C dX1_shiftRight_60 ?_
      refine ww_istore C 6 (by decide) rfl dX1_shiftRight_61 ?_
      refine ww_aload_n C 0 1 rfl rfl dX1_shiftRight_63 ?_
      obtain ⟨p8, hy⟩ := hy
      obtain ⟨p9, hy⟩ := hy
      refine gf_X1_9 C dX1_shiftRight_64 p8 p9 ?_
      refine ww_iload C 5 5 rfl dX1_shiftRight_67 ?_
      refine ww_aload_n C 0 1 rfl rfl dX1_shiftRight_69 ?_
      refine ww_iload C 5 5 rfl dX1_shiftRight_70 ?_
      refine ww_iload_n C 2 2 rfl rfl dX1_shiftRight_72 ?_
      refine ww_iadd C dX1_shiftRight_73 ?_
      obtain ⟨p10, hy⟩ := hy
      refine cl_X1_20 C dX1_shiftRight_74 (Nat.le_of_ble_eq_true rfl) ⟨by decide, by decide⟩ ⟨by decide, by decide⟩ p10 ?_
      refine S_X1_wordAt.mono hy (fun z11 h12 hy => ?_)
      refine ww_iload_n C 3 3 rfl rfl dX1_shiftRight_77 ?_
      refine ww_iushr C dX1_shiftRight_78 ?_
      refine ww_iload C 6 0 rfl dX1_shiftRight_79 ?_
      refine ww_ior C dX1_shiftRight_81 ?_
      obtain ⟨p13, hy⟩ := hy
      have hy := hy _ rfl
      refine ww_iast C dX1_shiftRight_82 p13 ?_
      refine ww_iinc C 5 5 rfl (by decide) rfl dX1_shiftRight_83 ?_
      refine ww_goto C (tg := 29) dX1_shiftRight_86 (by decide) ?_
      exact ww_sub [2, 3, 4, 5, 0] rfl (by decide) (by decide) hy
set_option maxRecDepth 100000 in
set_option maxHeartbeats 4000000 in
theorem X1_shiftRight_b89 {G : xG} {k : xK} {n0 : Nat} {Po : xH → Prop} (C : CC G k cX1_shiftRight RX1 7 rm_X1_shiftRight) (E : CQ G k none rm_X1_shiftRight (fun r n1 h1 => r = none ∧ n1 = n0 ∧ Po h1)) (x0 : Nat) (x4 : Int) (n : Nat) (h : xH) (hn0 : n = n0) (hy : okO n h x0 1 ∧ (∀ h2 : xH, h2 = hS h x0 1 x4 → okO n h2 x0 1 ∧ S_X1_trim G (kl k) x0 n h2 (fun h4 => Po h4))) : X1_shiftRight_w89 G k x0 x4 n h := by
  subst hn0
  refine ww_aload_n C 0 0 rfl rfl dX1_shiftRight_89 ?_
  refine ww_iload C 4 1 rfl dX1_shiftRight_90 ?_
  obtain ⟨p1, hy⟩ := hy
  have hy := hy _ rfl
  refine pf_X1_13I C dX1_shiftRight_92 p1 ?_
  refine ww_aload_n C 0 0 rfl rfl dX1_shiftRight_95 ?_
  obtain ⟨p3, hy⟩ := hy
  refine cl_X1_17 C dX1_shiftRight_96 (Nat.le_of_ble_eq_true rfl) ⟨by decide, by decide⟩ ⟨by decide, by decide⟩ p3 ?_
  refine S_X1_trim.mono hy (fun h4 hy => ?_)
  exact ww_vret C E dX1_shiftRight_99 (by decide) (by decide) ⟨rfl, rfl, hy⟩
