abbrev X5_init_w0 (G : xG) (k : xK) (x0 : Nat) (n : Nat) (h : xH) : Prop := WW G k 1 0 0 0 [(0, rf G x0)] [] n h
theorem S_X5_init_of {G : xG} {l : Launch} {x0 : Nat} {n : Nat} {h : xH} {Po : xH → Prop} (body : ∀ k : xK, kl k = l → (kt k).name = "<init>" → CC G k cX5_init RX5 1 rm_X5_init → CQ G k none rm_X5_init (fun r n1 h1 => r = none ∧ n1 = n ∧ Po h1) → X5_init_w0 G k x0 n h) : S_X5_init G l x0 n h Po := xS_of (by decide +kernel) (Nat.le_of_ble_eq_true rfl) rfl (fun k hl hnm C E => body k hl hnm C E)
set_option maxRecDepth 100000 in
set_option maxHeartbeats 4000000 in
theorem X5_init_b0 {G : xG} {k : xK} {n0 : Nat} {Po : xH → Prop} (C : CC G k cX5_init RX5 1 rm_X5_init) (E : CQ G k none rm_X5_init (fun r n1 h1 => r = none ∧ n1 = n0 ∧ Po h1)) (hin : (kt k).name = "<init>") (x0 : Nat) (n : Nat) (h : xH) (hn0 : n = n0) (hy : Po h) : X5_init_w0 G k x0 n h := by
  subst hn0
  refine ww_aload_n C 0 0 rfl rfl dX5_init_0 ?_
  refine ww_objInit C q_510 q_52 q_53 dX5_init_1 (by decide) (by decide) ?_
  exact ww_vret C E dX5_init_4 (by decide) (by decide) ⟨rfl, rfl, hy⟩
abbrev X6_init_w0 (G : xG) (k : xK) (x0 : Nat) (x1 : Nat) (x2 : Nat) (n : Nat) (h : xH) : Prop := WW G k 3 0 0 0 [(0, rf G x0), (1, rf G x1), (2, rf G x2)] [] n h
theorem S_X6_init_of {G : xG} {l : Launch} {x0 : Nat} {x1 : Nat} {x2 : Nat} {n : Nat} {h : xH} {Po : xH → Prop} (body : ∀ k : xK, kl k = l → (kt k).name = "<init>" → CC G k cX6_init RX6 3 rm_X6_init → CQ G k none rm_X6_init (fun r n1 h1 => r = none ∧ n1 = n ∧ Po h1) → X6_init_w0 G k x0 x1 x2 n h) : S_X6_init G l x0 x1 x2 n h Po := xS_of (by decide +kernel) (Nat.le_of_ble_eq_true rfl) rfl (fun k hl hnm C E => body k hl hnm C E)
set_option maxRecDepth 100000 in
set_option maxHeartbeats 4000000 in
theorem X6_init_b0 {G : xG} {k : xK} {n0 : Nat} {Po : xH → Prop} (C : CC G k cX6_init RX6 3 rm_X6_init) (E : CQ G k none rm_X6_init (fun r n1 h1 => r = none ∧ n1 = n0 ∧ Po h1)) (hin : (kt k).name = "<init>") (x0 : Nat) (x1 : Nat) (x2 : Nat) (n : Nat) (h : xH) (hn0 : n = n0) (hy : S_X5_init G (kl k) x0 n h (fun h1 => okO n h1 x0 5 ∧ (∀ h3 : xH, h3 = hS h1 x0 0 ((x1 : Nat) : Int) → okO n h3 x0 5 ∧ (∀ h5 : xH, h5 = hS h3 x0 1 ((x2 : Nat) : Int) → Po h5)))) : X6_init_w0 G k x0 x1 x2 n h := by
  subst hn0
  refine ww_aload_n C 0 0 rfl rfl dX6_init_0 ?_
  refine cl_X6_1 C dX6_init_1 (Nat.le_of_ble_eq_true rfl) ⟨by decide, by decide⟩ ⟨by decide, by decide⟩ ?_
  refine S_X5_init.mono hy (fun h1 hy => ?_)
  refine ww_aload_n C 0 0 rfl rfl dX6_init_4 ?_
  refine ww_aload_n C 1 1 rfl rfl dX6_init_5 ?_
  obtain ⟨p2, hy⟩ := hy
  have hy := hy _ rfl
  refine pf_X6_7R C hin dX6_init_6 p2 ?_
  refine ww_aload_n C 0 0 rfl rfl dX6_init_9 ?_
  refine ww_aload_n C 2 2 rfl rfl dX6_init_10 ?_
  obtain ⟨p4, hy⟩ := hy
  have hy := hy _ rfl
  refine pf_X6_13R C hin dX6_init_11 p4 ?_
  exact ww_vret C E dX6_init_14 (by decide) (by decide) ⟨rfl, rfl, hy⟩
abbrev X7_init_w0 (G : xG) (k : xK) (x0 : Nat) (x1 : UInt64) (x2 : Int) (n : Nat) (h : xH) : Prop := WW G k 4 0 0 0 [(0, rf G x0), (1, .double x1), (3, .int (iz x2))] [] n h
theorem S_X7_init_of {G : xG} {l : Launch} {x0 : Nat} {x1 : UInt64} {x2 : Int} {n : Nat} {h : xH} {Po : xH → Prop} (body : ∀ k : xK, kl k = l → (kt k).name = "<init>" → CC G k cX7_init RX7 4 rm_X7_init → CQ G k none rm_X7_init (fun r n1 h1 => r = none ∧ n1 = n ∧ Po h1) → X7_init_w0 G k x0 x1 x2 n h) : S_X7_init G l x0 x1 x2 n h Po := xS_of (by decide +kernel) (Nat.le_of_ble_eq_true rfl) rfl (fun k hl hnm C E => body k hl hnm C E)
set_option maxRecDepth 100000 in
set_option maxHeartbeats 4000000 in
theorem X7_init_b0 {G : xG} {k : xK} {n0 : Nat} {Po : xH → Prop} (C : CC G k cX7_init RX7 4 rm_X7_init) (E : CQ G k none rm_X7_init (fun r n1 h1 => r = none ∧ n1 = n0 ∧ Po h1)) (hin : (kt k).name = "<init>") (x0 : Nat) (x1 : UInt64) (x2 : Int) (n : Nat) (h : xH) (hn0 : n = n0) (hy : S_X5_init G (kl k) x0 n h (fun h1 => okO n h1 x0 6 ∧ (∀ h3 : xH, h3 = hS h1 x0 0 (x1.toNat : Int) → okO n h3 x0 6 ∧ (x2 = 0 ∨ x2 = 1) ∧ (∀ h6 : xH, h6 = hS h3 x0 1 x2 → Po h6)))) : X7_init_w0 G k x0 x1 x2 n h := by
  subst hn0
  refine ww_aload_n C 0 0 rfl rfl dX7_init_0 ?_
  refine cl_X7_1 C dX7_init_1 (Nat.le_of_ble_eq_true rfl) ⟨by decide, by decide⟩ ⟨by decide, by decide⟩ ?_
  refine S_X5_init.mono hy (fun h1 hy => ?_)
  refine ww_aload_n C 0 0 rfl rfl dX7_init_4 ?_
  refine ww_dload_n C 1 1 rfl rfl dX7_init_5 ?_
  obtain ⟨p2, hy⟩ := hy
  have hy := hy _ rfl
  refine pf_X7_7D C hin dX7_init_6 p2 ?_
  refine ww_aload_n C 0 0 rfl rfl dX7_init_9 ?_
  refine ww_iload_n C 3 2 rfl rfl dX7_init_10 ?_
  obtain ⟨p4, hy⟩ := hy
  obtain ⟨p5, hy⟩ := hy
  have hy := hy _ rfl
  refine pf_X7_13I C hin dX7_init_11 p4 p5 ?_
  exact ww_vret C E dX7_init_14 (by decide) (by decide) ⟨rfl, rfl, hy⟩
abbrev X7_of_w0 (G : xG) (k : xK) (x0 : UInt64) (n : Nat) (h : xH) : Prop := WW G k 2 0 0 0 [(0, .double x0)] [] n h
theorem S_X7_of_of {G : xG} {l : Launch} {x0 : UInt64} {n : Nat} {h : xH} {Po : Nat → Nat → xH → Prop} (body : ∀ k : xK, kl k = l → CC G k cX7_of RX7 2 rm_X7_of → CQ G k (some (.object "DoubleTextsModel$Real")) rm_X7_of (fun r n1 h1 => ∃ z : Nat, r = some (rf G z) ∧ Po z n1 h1) → X7_of_w0 G k x0 n h) : S_X7_of G l x0 n h Po := xS_of (by decide +kernel) (Nat.le_of_ble_eq_true rfl) rfl (fun k hl hnm C E => body k hl C E)
set_option maxRecDepth 100000 in
set_option maxHeartbeats 4000000 in
theorem X7_of_b0 {G : xG} {k : xK} {n0 : Nat} {Po : Nat → Nat → xH → Prop} (C : CC G k cX7_of RX7 2 rm_X7_of) (E : CQ G k (some (.object "DoubleTextsModel$Real")) rm_X7_of (fun r n1 h1 => ∃ z : Nat, r = some (rf G z) ∧ Po z n1 h1)) (x0 : UInt64) (n : Nat) (h : xH) (hy : (∀ h1 : xH, h1 = hN h n (6, 0, xZ 6) → S_X7_init G (kl k) n x0 0 (n + 1) h1 (fun h2 => Po n (n + 1) h2))) : X7_of_w0 G k x0 n h := by
  refine nw_X7_8 C dX7_of_0 (by decide) (by decide) ?_
  have hy := hy _ rfl
  refine ww_dup C rfl dX7_of_3 ?_
  refine ww_dload_n C 0 0 rfl rfl dX7_of_4 ?_
  refine ww_iconst C (z := 0) dX7_of_5 rfl ?_
  refine cl_X7_17 C dX7_of_6 (Nat.le_of_ble_eq_true rfl) ⟨by decide, by decide⟩ ⟨by decide, by decide⟩ ?_
  refine S_X7_init.mono hy (fun h2 hy => ?_)
  exact ww_aretR C E (Or.inl ⟨_, rfl⟩) dX7_of_9 (by decide) (by decide) ⟨_, rfl, hy⟩
abbrev X8_init_w0 (G : xG) (k : xK) (x0 : Nat) (x1 : Int) (x2 : Nat) (n : Nat) (h : xH) : Prop := WW G k 3 0 0 0 [(0, rf G x0), (1, .int (iz x1)), (2, rf G x2)] [] n h
theorem S_X8_init_of {G : xG} {l : Launch} {x0 : Nat} {x1 : Int} {x2 : Nat} {n : Nat} {h : xH} {Po : xH → Prop} (body : ∀ k : xK, kl k = l → (kt k).name = "<init>" → CC G k cX8_init RX8 3 rm_X8_init → CQ G k none rm_X8_init (fun r n1 h1 => r = none ∧ n1 = n ∧ Po h1) → X8_init_w0 G k x0 x1 x2 n h) : S_X8_init G l x0 x1 x2 n h Po := xS_of (by decide +kernel) (Nat.le_of_ble_eq_true rfl) rfl (fun k hl hnm C E => body k hl hnm C E)
set_option maxRecDepth 100000 in
set_option maxHeartbeats 4000000 in
theorem X8_init_b0 {G : xG} {k : xK} {n0 : Nat} {Po : xH → Prop} (C : CC G k cX8_init RX8 3 rm_X8_init) (E : CQ G k none rm_X8_init (fun r n1 h1 => r = none ∧ n1 = n0 ∧ Po h1)) (hin : (kt k).name = "<init>") (x0 : Nat) (x1 : Int) (x2 : Nat) (n : Nat) (h : xH) (hn0 : n = n0) (hy : S_X5_init G (kl k) x0 n h (fun h1 => okO n h1 x0 7 ∧ (∀ h3 : xH, h3 = hS h1 x0 0 x1 → okO n h3 x0 7 ∧ (∀ h5 : xH, h5 = hS h3 x0 1 ((x2 : Nat) : Int) → Po h5)))) : X8_init_w0 G k x0 x1 x2 n h := by
  subst hn0
  refine ww_aload_n C 0 0 rfl rfl dX8_init_0 ?_
  refine cl_X8_3 C dX8_init_1 (Nat.le_of_ble_eq_true rfl) ⟨by decide, by decide⟩ ⟨by decide, by decide⟩ ?_
  refine S_X5_init.mono hy (fun h1 hy => ?_)
  refine ww_aload_n C 0 0 rfl rfl dX8_init_4 ?_
  refine ww_iload_n C 1 1 rfl rfl dX8_init_5 ?_
  obtain ⟨p2, hy⟩ := hy
  have hy := hy _ rfl
  refine pf_X8_9I C hin dX8_init_6 p2 ?_
  refine ww_aload_n C 0 0 rfl rfl dX8_init_9 ?_
  refine ww_aload_n C 2 2 rfl rfl dX8_init_10 ?_
  obtain ⟨p4, hy⟩ := hy
  have hy := hy _ rfl
  refine pf_X8_15R C hin dX8_init_11 p4 ?_
  exact ww_vret C E dX8_init_14 (by decide) (by decide) ⟨rfl, rfl, hy⟩
abbrev X8_isZero_w0 (G : xG) (k : xK) (x0 : Nat) (n : Nat) (h : xH) : Prop := WW G k 1 0 0 0 [(0, rf G x0)] [] n h
abbrev X8_isZero_w13 (G : xG) (k : xK) (s0 : Int) (n : Nat) (h : xH) : Prop := WW G k 1 0 0 13 [] [.int (iz s0)] n h
theorem S_X8_isZero_of {G : xG} {l : Launch} {x0 : Nat} {n : Nat} {h : xH} {Po : Int → xH → Prop} (body : ∀ k : xK, kl k = l → CC G k cX8_isZero RX8 1 rm_X8_isZero → CQ G k (some .boolean) rm_X8_isZero (fun r n1 h1 => ∃ z : Int, r = some (.int (iz z)) ∧ n1 = n ∧ Po z h1) → X8_isZero_w0 G k x0 n h) : S_X8_isZero G l x0 n h Po := xS_of (by decide +kernel) (Nat.le_of_ble_eq_true rfl) rfl (fun k hl hnm C E => body k hl C E)
set_option maxRecDepth 100000 in
set_option maxHeartbeats 4000000 in
theorem X8_isZero_b0 {G : xG} {k : xK} {n0 : Nat} {Po : Int → xH → Prop} (C : CC G k cX8_isZero RX8 1 rm_X8_isZero) (E : CQ G k (some .boolean) rm_X8_isZero (fun r n1 h1 => ∃ z : Int, r = some (.int (iz z)) ∧ n1 = n0 ∧ Po z h1)) (x0 : Nat) (n : Nat) (h : xH) (hn0 : n = n0) (hy : okO n h x0 7 ∧ 0 ≤ hG h x0 1 ∧ (((hG h x0 1).toNat) < n ∧ ((h ((hG h x0 1).toNat)).1 = 100 ∨ (h ((hG h x0 1).toNat)).1 = 101)) ∧ rg ((h ((hG h x0 1).toNat)).2.1 : Int) ∧ ((¬ ((h ((hG h x0 1).toNat)).2.1 : Int) = 0 → X8_isZero_w13 G k 0 n h) ∧ (((h ((hG h x0 1).toNat)).2.1 : Int) = 0 → X8_isZero_w13 G k 1 n h))) : X8_isZero_w0 G k x0 n h := by
  subst hn0
  refine ww_aload_n C 0 0 rfl rfl dX8_isZero_0 ?_
  obtain ⟨p1, hy⟩ := hy
  obtain ⟨p2, hy⟩ := hy
  refine gf_X8_15 C dX8_isZero_1 p1 p2 ?_
  obtain ⟨p3, hy⟩ := hy
  refine ww_alen C dX8_isZero_4 p3.1 p3.2 ?_
  obtain ⟨p4, hy⟩ := hy
  refine ww_if_ne C (tg := 12) dX8_isZero_5 (by decide) p4 (fun c5 => ?_) (fun c5 => ?_)
  · have hy := hy.1 c5
    refine ww_iconst C (z := 0) dX8_isZero_12 rfl ?_
    exact ww_sub [] rfl (by decide) (by decide) hy
  · have hy := hy.2 c5
    refine ww_iconst C (z := 1) dX8_isZero_8 rfl ?_
    refine ww_goto C (tg := 13) dX8_isZero_9 (by decide) ?_
    exact ww_sub [] rfl (by decide) (by decide) hy
set_option maxRecDepth 100000 in
set_option maxHeartbeats 4000000 in
theorem X8_isZero_b13 {G : xG} {k : xK} {n0 : Nat} {Po : Int → xH → Prop} (C : CC G k cX8_isZero RX8 1 rm_X8_isZero) (E : CQ G k (some .boolean) rm_X8_isZero (fun r n1 h1 => ∃ z : Int, r = some (.int (iz z)) ∧ n1 = n0 ∧ Po z h1)) (s0 : Int) (n : Nat) (h : xH) (hn0 : n = n0) (hy : (s0 = 0 ∨ s0 = 1) ∧ Po s0 h) : X8_isZero_w13 G k s0 n h := by
  subst hn0
  obtain ⟨p1, hy⟩ := hy
  exact ww_zret C E dX8_isZero_13 (nz_b p1) (by decide) (by decide) ⟨_, rfl, rfl, hy⟩
abbrev X8_isOne_w0 (G : xG) (k : xK) (x0 : Nat) (n : Nat) (h : xH) : Prop := WW G k 1 0 0 0 [(0, rf G x0)] [] n h
abbrev X8_isOne_w30 (G : xG) (k : xK)  (n : Nat) (h : xH) : Prop := WW G k 1 0 0 30 [] [] n h
abbrev X8_isOne_w31 (G : xG) (k : xK) (s0 : Int) (n : Nat) (h : xH) : Prop := WW G k 1 0 0 31 [] [.int (iz s0)] n h
theorem S_X8_isOne_of {G : xG} {l : Launch} {x0 : Nat} {n : Nat} {h : xH} {Po : Int → xH → Prop} (body : ∀ k : xK, kl k = l → CC G k cX8_isOne RX8 1 rm_X8_isOne → CQ G k (some .boolean) rm_X8_isOne (fun r n1 h1 => ∃ z : Int, r = some (.int (iz z)) ∧ n1 = n ∧ Po z h1) → X8_isOne_w0 G k x0 n h) : S_X8_isOne G l x0 n h Po := xS_of (by decide +kernel) (Nat.le_of_ble_eq_true rfl) rfl (fun k hl hnm C E => body k hl C E)
set_option maxRecDepth 100000 in
set_option maxHeartbeats 4000000 in
theorem X8_isOne_b0 {G : xG} {k : xK} {n0 : Nat} {Po : Int → xH → Prop} (C : CC G k cX8_isOne RX8 1 rm_X8_isOne) (E : CQ G k (some .boolean) rm_X8_isOne (fun r n1 h1 => ∃ z : Int, r = some (.int (iz z)) ∧ n1 = n0 ∧ Po z h1)) (x0 : Nat) (n : Nat) (h : xH) (hn0 : n = n0) (hy : okO n h x0 7 ∧ rg (hG h x0 0) ∧ (((hG h x0 0) ≤ 0 → X8_isOne_w30 G k  n h) ∧ (¬ (hG h x0 0) ≤ 0 → okO n h x0 7 ∧ 0 ≤ hG h x0 1 ∧ (((hG h x0 1).toNat) < n ∧ ((h ((hG h x0 1).toNat)).1 = 100 ∨ (h ((hG h x0 1).toNat)).1 = 101)) ∧ (rg ((h ((hG h x0 1).toNat)).2.1 : Int) ∧ rg (1 : Int)) ∧ ((¬ ((h ((hG h x0 1).toNat)).2.1 : Int) = (1 : Int) → X8_isOne_w30 G k  n h) ∧ (((h ((hG h x0 1).toNat)).2.1 : Int) = (1 : Int) → okO n h x0 7 ∧ 0 ≤ hG h x0 1 ∧ okA n h ((hG h x0 1).toNat) 100 0 ∧ (rg (hG h ((hG h x0 1).toNat) 0) ∧ rg (1 : Int)) ∧ ((¬ (hG h ((hG h x0 1).toNat) 0) = (1 : Int) → X8_isOne_w30 G k  n h) ∧ ((hG h ((hG h x0 1).toNat) 0) = (1 : Int) → X8_isOne_w31 G k 1 n h))))))) : X8_isOne_w0 G k x0 n h := by
  subst hn0
  refine ww_aload_n C 0 0 rfl rfl dX8_isOne_0 ?_
  obtain ⟨p1, hy⟩ := hy
  refine gf_X8_9 C dX8_isOne_1 p1 ?_
  obtain ⟨p2, hy⟩ := hy
  refine ww_if_le C (tg := 30) dX8_isOne_4 (by decide) p2 (fun c3 => ?_) (fun c3 => ?_)
  · have hy := hy.1 c3
    exact ww_sub [] rfl (by decide) (by decide) hy
  · have hy := hy.2 c3
    refine ww_aload_n C 0 0 rfl rfl dX8_isOne_7 ?_
    obtain ⟨p4, hy⟩ := hy
    obtain ⟨p5, hy⟩ := hy
    refine gf_X8_15 C dX8_isOne_8 p4 p5 ?_
    obtain ⟨p6, hy⟩ := hy
    refine ww_alen C dX8_isOne_11 p6.1 p6.2 ?_
    refine ww_iconst C (z := 1) dX8_isOne_12 rfl ?_
    obtain ⟨p7, hy⟩ := hy
    refine ww_icmp_ne C (tg := 30) dX8_isOne_13 (by decide) p7.1 p7.2 (fun c8 => ?_) (fun c8 => ?_)
    · have hy := hy.1 c8
      exact ww_sub [] rfl (by decide) (by decide) hy
    · have hy := hy.2 c8
      refine ww_aload_n C 0 0 rfl rfl dX8_isOne_16 ?_
      obtain ⟨p9, hy⟩ := hy
      obtain ⟨p10, hy⟩ := hy
      refine gf_X8_15 C dX8_isOne_17 p9 p10 ?_
      refine ww_iconst C (z := 0) dX8_isOne_20 rfl ?_
      obtain ⟨p11, hy⟩ := hy
      refine ww_iald C dX8_isOne_21 p11 ?_
      refine ww_iconst C (z := 1) dX8_isOne_22 rfl ?_
      obtain ⟨p12, hy⟩ := hy
      refine ww_icmp_ne C (tg := 30) dX8_isOne_23 (by decide) p12.1 p12.2 (fun c13 => ?_) (fun c13 => ?_)
      · have hy := hy.1 c13
        exact ww_sub [] rfl (by decide) (by decide) hy
      · have hy := hy.2 c13
        refine ww_iconst C (z := 1) dX8_isOne_26 rfl ?_
        refine ww_goto C (tg := 31) dX8_isOne_27 (by decide) ?_
        exact ww_sub [] rfl (by decide) (by decide) hy
set_option maxRecDepth 100000 in
set_option maxHeartbeats 4000000 in
theorem X8_isOne_b30 {G : xG} {k : xK} {n0 : Nat} {Po : Int → xH → Prop} (C : CC G k cX8_isOne RX8 1 rm_X8_isOne) (E : CQ G k (some .boolean) rm_X8_isOne (fun r n1 h1 => ∃ z : Int, r = some (.int (iz z)) ∧ n1 = n0 ∧ Po z h1))  (n : Nat) (h : xH) (hn0 : n = n0) (hy : X8_isOne_w31 G k 0 n h) : X8_isOne_w30 G k  n h := by
  subst hn0
  refine ww_iconst C (z := 0) dX8_isOne_30 rfl ?_
  exact ww_sub [] rfl (by decide) (by decide) hy
set_option maxRecDepth 100000 in
set_option maxHeartbeats 4000000 in
theorem X8_isOne_b31 {G : xG} {k : xK} {n0 : Nat} {Po : Int → xH → Prop} (C : CC G k cX8_isOne RX8 1 rm_X8_isOne) (E : CQ G k (some .boolean) rm_X8_isOne (fun r n1 h1 => ∃ z : Int, r = some (.int (iz z)) ∧ n1 = n0 ∧ Po z h1)) (s0 : Int) (n : Nat) (h : xH) (hn0 : n = n0) (hy : (s0 = 0 ∨ s0 = 1) ∧ Po s0 h) : X8_isOne_w31 G k s0 n h := by
  subst hn0
  obtain ⟨p1, hy⟩ := hy
  exact ww_zret C E dX8_isOne_31 (nz_b p1) (by decide) (by decide) ⟨_, rfl, rfl, hy⟩
abbrev X8_negative_w0 (G : xG) (k : xK) (x0 : Nat) (n : Nat) (h : xH) : Prop := WW G k 1 0 0 0 [(0, rf G x0)] [] n h
abbrev X8_negative_w27 (G : xG) (k : xK) (s0 : Nat) (n : Nat) (h : xH) : Prop := WW G k 1 1 2 27 [] [rf G s0] n h
theorem S_X8_negative_of {G : xG} {l : Launch} {x0 : Nat} {n : Nat} {h : xH} {Po : Nat → Nat → xH → Prop} (body : ∀ k : xK, kl k = l → CC G k cX8_negative RX8 1 rm_X8_negative → CQ G k (some (.object "DoubleTextsModel$Whole")) rm_X8_negative (fun r n1 h1 => ∃ z : Nat, r = some (rf G z) ∧ Po z n1 h1) → X8_negative_w0 G k x0 n h) : S_X8_negative G l x0 n h Po := xS_of (by decide +kernel) (Nat.le_of_ble_eq_true rfl) rfl (fun k hl hnm C E => body k hl C E)
set_option maxRecDepth 100000 in
set_option maxHeartbeats 4000000 in
theorem X8_negative_b0 {G : xG} {k : xK} {n0 : Nat} {Po : Nat → Nat → xH → Prop} (C : CC G k cX8_negative RX8 1 rm_X8_negative) (E : CQ G k (some (.object "DoubleTextsModel$Whole")) rm_X8_negative (fun r n1 h1 => ∃ z : Nat, r = some (rf G z) ∧ Po z n1 h1)) (x0 : Nat) (n : Nat) (h : xH) (hy : okO n h x0 7 ∧ S_X8_isZero G (kl k) x0 n h (fun z2 h3 => rg z2 ∧ ((z2 = 0 → (∀ h6 : xH, h6 = hN h3 n (7, 0, xZ 7) → okO (n + 1) h6 x0 7 ∧ okO (n + 1) h6 x0 7 ∧ 0 ≤ hG h6 x0 1 ∧ S_X8_init G (kl k) n (-(hG h6 x0 0)) ((hG h6 x0 1).toNat) (n + 1) h6 (fun h10 => X8_negative_w27 G k n (n + 1) h10))) ∧ (¬ z2 = 0 → X8_negative_w27 G k x0 n h3)))) : X8_negative_w0 G k x0 n h := by
  refine ww_aload_n C 0 0 rfl rfl dX8_negative_0 ?_
  obtain ⟨p1, hy⟩ := hy
  refine cl_X8_19 C dX8_negative_1 (Nat.le_of_ble_eq_true rfl) ⟨by decide, by decide⟩ ⟨by decide, by decide⟩ p1 ?_
  refine S_X8_isZero.mono hy (fun z2 h3 hy => ?_)
  obtain ⟨p4, hy⟩ := hy
  refine ww_if_eq C (tg := 11) dX8_negative_4 (by decide) p4 (fun c5 => ?_) (fun c5 => ?_)
  · have hy := hy.1 c5
    refine nw_X8_10 C dX8_negative_11 (by decide) (by decide) ?_
    have hy := hy _ rfl
    refine ww_dup C rfl dX8_negative_14 ?_
    refine ww_aload_n C 0 0 rfl rfl dX8_negative_15 ?_
    obtain ⟨p7, hy⟩ := hy
    refine gf_X8_9 C dX8_negative_16 p7 ?_
    refine ww_ineg C dX8_negative_19 ?_
    refine ww_aload_n C 0 0 rfl rfl dX8_negative_20 ?_
    obtain ⟨p8, hy⟩ := hy
    obtain ⟨p9, hy⟩ := hy
    refine gf_X8_15 C dX8_negative_21 p8 p9 ?_
    refine cl_X8_23 C dX8_negative_24 (Nat.le_of_ble_eq_true rfl) ⟨by decide, by decide⟩ ⟨by decide, by decide⟩ ?_
    refine S_X8_init.mono hy (fun h10 hy => ?_)
    exact ww_sub [] rfl (by decide) (by decide) hy
  · have hy := hy.2 c5
    refine ww_aload_n C 0 0 rfl rfl dX8_negative_7 ?_
    refine ww_goto C (tg := 27) dX8_negative_8 (by decide) ?_
    exact ww_sub [] rfl (by decide) (by decide) hy
set_option maxRecDepth 100000 in
set_option maxHeartbeats 4000000 in
theorem X8_negative_b27 {G : xG} {k : xK} {n0 : Nat} {Po : Nat → Nat → xH → Prop} (C : CC G k cX8_negative RX8 1 rm_X8_negative) (E : CQ G k (some (.object "DoubleTextsModel$Whole")) rm_X8_negative (fun r n1 h1 => ∃ z : Nat, r = some (rf G z) ∧ Po z n1 h1)) (s0 : Nat) (n : Nat) (h : xH) (hy : Po s0 n h) : X8_negative_w27 G k s0 n h := by
  exact ww_aretR C E (Or.inl ⟨_, rfl⟩) dX8_negative_27 (by decide) (by decide) ⟨_, rfl, hy⟩
abbrev X8_asLong_w0 (G : xG) (k : xK) (x0 : Nat) (n : Nat) (h : xH) : Prop := WW G k 4 0 0 0 [(0, rf G x0)] [] n h
abbrev X8_asLong_w10 (G : xG) (k : xK) (x0 : Nat) (x1 : Int) (x3 : Int) (n : Nat) (h : xH) : Prop := WW G k 4 0 0 10 [(0, rf G x0), (1, .long (lz x1)), (3, .int (iz x3))] [] n h
theorem S_X8_asLong_of {G : xG} {l : Launch} {x0 : Nat} {n : Nat} {h : xH} {Po : Int → xH → Prop} (body : ∀ k : xK, kl k = l → CC G k cX8_asLong RX8 4 rm_X8_asLong → CQ G k (some .long) rm_X8_asLong (fun r n1 h1 => ∃ z : Int, r = some (.long (lz z)) ∧ n1 = n ∧ Po z h1) → X8_asLong_w0 G k x0 n h) : S_X8_asLong G l x0 n h Po := xS_of (by decide +kernel) (Nat.le_of_ble_eq_true rfl) rfl (fun k hl hnm C E => body k hl C E)
set_option maxRecDepth 100000 in
set_option maxHeartbeats 4000000 in
theorem X8_asLong_b0 {G : xG} {k : xK} {n0 : Nat} {Po : Int → xH → Prop} (C : CC G k cX8_asLong RX8 4 rm_X8_asLong) (E : CQ G k (some .long) rm_X8_asLong (fun r n1 h1 => ∃ z : Int, r = some (.long (lz z)) ∧ n1 = n0 ∧ Po z h1)) (x0 : Nat) (n : Nat) (h : xH) (hn0 : n = n0) (hy : okO n h x0 7 ∧ 0 ≤ hG h x0 1 ∧ (((hG h x0 1).toNat) < n ∧ ((h ((hG h x0 1).toNat)).1 = 100 ∨ (h ((hG h x0 1).toNat)).1 = 101)) ∧ X8_asLong_w10 G k x0 0 (((h ((hG h x0 1).toNat)).2.1 : Int) - 1) n h) : X8_asLong_w0 G k x0 n h := by
  subst hn0
  refine ww_lconst C (z := 0) dX8_asLong_0 rfl ?_
  refine ww_lstore_n C 1 rfl (by decide) rfl dX8_asLong_1 ?_
  refine ww_aload_n C 0 1 rfl rfl dX8_asLong_2 ?_
  obtain ⟨p1, hy⟩ := hy
  obtain ⟨p2, hy⟩ := hy
  refine gf_X8_15 C dX8_asLong_3 p1 p2 ?_
  obtain ⟨p3, hy⟩ := hy
  refine ww_alen C dX8_asLong_6 p3.1 p3.2 ?_
  refine ww_iconst C (z := 1) dX8_asLong_7 rfl ?_
  refine ww_isub C dX8_asLong_8 ?_
  refine ww_istore_n C 3 rfl (by decide) rfl dX8_asLong_9 ?_
  exact ww_sub [2, 1, 0] rfl (by decide) (by decide) hy
set_option maxRecDepth 100000 in
set_option maxHeartbeats 4000000 in
theorem X8_asLong_b10 {G : xG} {k : xK} {n0 : Nat} {Po : Int → xH → Prop} (C : CC G k cX8_asLong RX8 4 rm_X8_asLong) (E : CQ G k (some .long) rm_X8_asLong (fun r n1 h1 => ∃ z : Int, r = some (.long (lz z)) ∧ n1 = n0 ∧ Po z h1)) (x0 : Nat) (x1 : Int) (x3 : Int) (n : Nat) (h : xH) (hn0 : n = n0) (hy : rg x3 ∧ ((x3 < 0 → Po x1 h) ∧ (¬ x3 < 0 → okO n h x0 7 ∧ okO n h x0 7 ∧ 0 ≤ hG h x0 1 ∧ okA n h ((hG h x0 1).toNat) 100 x3 ∧ rg ((hG h x0 0) * (hG h ((hG h x0 1).toNat) (x3.toNat))) ∧ (∀ y8 : Int, y8 = (x1 * 10000) + ((hG h x0 0) * (hG h ((hG h x0 1).toNat) (x3.toNat))) → X8_asLong_w10 G k x0 y8 (x3 + (-1)) n h)))) : X8_asLong_w10 G k x0 x1 x3 n h := by
  subst hn0
  refine ww_iload_n C 3 2 rfl rfl dX8_asLong_10 ?_
  obtain ⟨p1, hy⟩ := hy
  refine ww_if_lt C (tg := 39) dX8_asLong_11 (by decide) p1 (fun c2 => ?_) (fun c2 => ?_)
  · have hy := hy.1 c2
    refine ww_lload_n C 1 1 rfl rfl dX8_asLong_39 ?_
    exact ww_lret C E dX8_asLong_40 (by decide) (by decide) ⟨_, rfl, rfl, hy⟩
  · have hy := hy.2 c2
    refine ww_lload_n C 1 1 rfl rfl dX8_asLong_14 ?_
    refine ww_ldc2 C (z := 10000) q_536 dX8_asLong_15 ?_
    refine ww_lmul C dX8_asLong_18 ?_
    refine ww_aload_n C 0 0 rfl rfl dX8_asLong_19 ?_
    obtain ⟨p3, hy⟩ := hy
    refine gf_X8_9 C dX8_asLong_20 p3 ?_
    refine ww_aload_n C 0 0 rfl rfl dX8_asLong_23 ?_
    obtain ⟨p4, hy⟩ := hy
    obtain ⟨p5, hy⟩ := hy
    refine gf_X8_15 C dX8_asLong_24 p4 p5 ?_
    refine ww_iload_n C 3 2 rfl rfl dX8_asLong_27 ?_
    obtain ⟨p6, hy⟩ := hy
    refine ww_iald C dX8_asLong_28 p6 ?_
    refine ww_imul C dX8_asLong_29 ?_
    obtain ⟨p7, hy⟩ := hy
    refine ww_i2l C dX8_asLong_30 p7 ?_
    refine ww_ladd C dX8_asLong_31 ?_
    refine ww_lstore_n C 1 rfl (by decide) rfl dX8_asLong_32 ?_
    have hy := hy _ rfl
    refine ww_iinc C 3 2 rfl (by decide) rfl dX8_asLong_33 ?_
    refine ww_goto C (tg := 10) dX8_asLong_36 (by decide) ?_
    exact ww_sub [2, 1, 0] rfl (by decide) (by decide) hy
