abbrev X9_read_w0 (G : xG) (k : xK) (x0 : Nat) (n : Nat) (h : xH) : Prop := WW G k 1 0 0 0 [(0, rf G x0)] [] n h
abbrev X9_read_w45 (G : xG) (k : xK) (s0 : Int) (n : Nat) (h : xH) : Prop := WW G k 1 13 1781 45 [] [.int (iz s0)] n h
theorem S_X9_read_of {G : xG} {l : Launch} {x0 : Nat} {n : Nat} {h : xH} {Po : Int → Nat → xH → Prop} (body : ∀ k : xK, kl k = l → CC G k cX9_read RX9 1 rm_X9_read → CQ G k (some .int) rm_X9_read (fun r n1 h1 => ∃ z : Int, r = some (.int (iz z)) ∧ Po z n1 h1) → X9_read_w0 G k x0 n h) : S_X9_read G l x0 n h Po := xS_of (by decide +kernel) (Nat.le_of_ble_eq_true rfl) rfl (fun k hl hnm C E => body k hl C E)
set_option maxRecDepth 100000 in
set_option maxHeartbeats 4000000 in
theorem X9_read_b0 {G : xG} {k : xK} {n0 : Nat} {Po : Int → Nat → xH → Prop} (C : CC G k cX9_read RX9 1 rm_X9_read) (E : CQ G k (some .int) rm_X9_read (fun r n1 h1 => ∃ z : Int, r = some (.int (iz z)) ∧ Po z n1 h1)) (x0 : Nat) (n : Nat) (h : xH) (hy : okO n h x0 8 ∧ 0 ≤ hG h x0 23 ∧ okO n h x0 8 ∧ okO n h x0 8 ∧ S_X9_number G (kl k) x0 ((hG h x0 23).toNat) 0 (hG h x0 24) 10 n h (fun z5 n7 h6 => okO n7 h6 x0 8 ∧ (∀ h9 : xH, h9 = hS h6 x0 25 z5 → okO n7 h9 x0 8 ∧ ((¬ (hG h9 x0 25) < 0 → okO n7 h9 x0 8 ∧ S_X9_isExact G (kl k) (hG h9 x0 25) n7 h9 (fun z13 h14 => rg z13 ∧ ((z13 = 0 → X9_read_w45 G k 2 n7 h14) ∧ (¬ z13 = 0 → X9_read_w45 G k 1 n7 h14)))) ∧ ((hG h9 x0 25) < 0 → X9_read_w45 G k 0 n7 h9))))) : X9_read_w0 G k x0 n h := by
  refine ww_aload_n C 0 0 rfl rfl dX9_read_0 ?_
  refine ww_aload_n C 0 0 rfl rfl dX9_read_1 ?_
  refine ww_aload_n C 0 0 rfl rfl dX9_read_2 ?_
  obtain ⟨p1, hy⟩ := hy
  obtain ⟨p2, hy⟩ := hy
  refine gf_X9_356 C dX9_read_3 p1 p2 ?_
  refine ww_iconst C (z := 0) dX9_read_6 rfl ?_
  refine ww_aload_n C 0 0 rfl rfl dX9_read_7 ?_
  obtain ⟨p3, hy⟩ := hy
  refine gf_X9_359 C dX9_read_8 p3 ?_
  refine ww_bipush C (z := 10) dX9_read_11 rfl ?_
  obtain ⟨p4, hy⟩ := hy
  refine cl_X9_361 C dX9_read_13 (Nat.le_of_ble_eq_true rfl) ⟨by decide, by decide⟩ ⟨by decide, by decide⟩ p4 ?_
  refine S_X9_number.mono hy (fun z5 n7 h6 hy => ?_)
  obtain ⟨p8, hy⟩ := hy
  have hy := hy _ rfl
  refine pf_X9_365N C dX9_read_16 p8 ?_
  refine ww_aload_n C 0 0 rfl rfl dX9_read_19 ?_
  obtain ⟨p10, hy⟩ := hy
  refine gf_X9_365 C dX9_read_20 p10 ?_
  refine ww_ifnonnull C (tg := 30) dX9_read_23 (by decide) (fun c11 => ?_) (fun c11 => ?_)
  · have hy := hy.1 c11
    refine ww_aload_n C 0 0 rfl rfl dX9_read_30 ?_
    obtain ⟨p12, hy⟩ := hy
    refine gf_X9_365 C dX9_read_31 p12 ?_
    refine cl_X9_368 C dX9_read_34 (Nat.le_of_ble_eq_true rfl) ⟨by decide, by decide⟩ ⟨by decide, by decide⟩ ?_
    refine S_X9_isExact.mono hy (fun z13 h14 hy => ?_)
    obtain ⟨p15, hy⟩ := hy
    refine ww_if_eq C (tg := 44) dX9_read_37 (by decide) p15 (fun c16 => ?_) (fun c16 => ?_)
    · have hy := hy.1 c16
      refine ww_iconst C (z := 2) dX9_read_44 rfl ?_
      exact ww_sub [] rfl (by decide) (by decide) hy
    · have hy := hy.2 c16
      refine ww_iconst C (z := 1) dX9_read_40 rfl ?_
      refine ww_goto C (tg := 45) dX9_read_41 (by decide) ?_
      exact ww_sub [] rfl (by decide) (by decide) hy
  · have hy := hy.2 c11
    refine ww_iconst C (z := 0) dX9_read_26 rfl ?_
    refine ww_goto C (tg := 45) dX9_read_27 (by decide) ?_
    exact ww_sub [] rfl (by decide) (by decide) hy
set_option maxRecDepth 100000 in
set_option maxHeartbeats 4000000 in
theorem X9_read_b45 {G : xG} {k : xK} {n0 : Nat} {Po : Int → Nat → xH → Prop} (C : CC G k cX9_read RX9 1 rm_X9_read) (E : CQ G k (some .int) rm_X9_read (fun r n1 h1 => ∃ z : Int, r = some (.int (iz z)) ∧ Po z n1 h1)) (s0 : Int) (n : Nat) (h : xH) (hy : Po s0 n h) : X9_read_w45 G k s0 n h := by
  exact ww_iret C E dX9_read_45 (by decide) (by decide) ⟨_, rfl, hy⟩
abbrev X9_near_w0 (G : xG) (k : xK) (x0 : Nat) (x1 : Nat) (x2 : Int) (x3 : Nat) (n : Nat) (h : xH) : Prop := WW G k 6 0 0 0 [(0, rf G x0), (1, rf G x1), (2, .int (iz x2)), (3, rf G x3)] [] n h
abbrev X9_near_w57 (G : xG) (k : xK) (x0 : Nat) (x2 : Int) (x3 : Nat) (s0 : Int) (n : Nat) (h : xH) : Prop := WW G k 6 0 0 57 [(0, rf G x0), (2, .int (iz x2)), (3, rf G x3)] [.int (iz s0)] n h
abbrev X9_near_w85 (G : xG) (k : xK) (x0 : Nat) (x4 : Int) (s0 : Int) (n : Nat) (h : xH) : Prop := WW G k 6 0 0 85 [(0, rf G x0), (4, .int (iz x4))] [.int (iz s0)] n h
theorem S_X9_near_of {G : xG} {l : Launch} {x0 : Nat} {x1 : Nat} {x2 : Int} {x3 : Nat} {n : Nat} {h : xH} {Po : UInt64 → xH → Prop} (body : ∀ k : xK, kl k = l → CC G k cX9_near RX9 6 rm_X9_near → CQ G k (some .double) rm_X9_near (fun r n1 h1 => ∃ z : UInt64, r = some (.double z) ∧ n1 = n ∧ Po z h1) → X9_near_w0 G k x0 x1 x2 x3 n h) : S_X9_near G l x0 x1 x2 x3 n h Po := xS_of (by decide +kernel) (Nat.le_of_ble_eq_true rfl) rfl (fun k hl hnm C E => body k hl C E)
set_option maxRecDepth 100000 in
set_option maxHeartbeats 4000000 in
theorem X9_near_b0 {G : xG} {k : xK} {n0 : Nat} {Po : UInt64 → xH → Prop} (C : CC G k cX9_near RX9 6 rm_X9_near) (E : CQ G k (some .double) rm_X9_near (fun r n1 h1 => ∃ z : UInt64, r = some (.double z) ∧ n1 = n0 ∧ Po z h1)) (x0 : Nat) (x1 : Nat) (x2 : Int) (x3 : Nat) (n : Nat) (h : xH) (hn0 : n = n0) (hy : okO n h x1 7 ∧ 0 ≤ hG h x1 1 ∧ okO n h x0 8 ∧ 0 ≤ hG h x0 11 ∧ okO n h x1 7 ∧ 0 ≤ hG h x1 1 ∧ (((hG h x1 1).toNat) < n ∧ ((h ((hG h x1 1).toNat)).1 = 100 ∨ (h ((hG h x1 1).toNat)).1 = 101)) ∧ S_X9_copyRow G (kl k) ((hG h x1 1).toNat) ((hG h x0 11).toNat) ((h ((hG h x1 1).toNat)).2.1 : Int) n h (fun h8 => okO n h8 x3 7 ∧ 0 ≤ hG h8 x3 1 ∧ okO n h8 x0 8 ∧ 0 ≤ hG h8 x0 12 ∧ okO n h8 x3 7 ∧ 0 ≤ hG h8 x3 1 ∧ (((hG h8 x3 1).toNat) < n ∧ ((h8 ((hG h8 x3 1).toNat)).1 = 100 ∨ (h8 ((hG h8 x3 1).toNat)).1 = 101)) ∧ S_X9_copyRow G (kl k) ((hG h8 x3 1).toNat) ((hG h8 x0 12).toNat) ((h8 ((hG h8 x3 1).toNat)).2.1 : Int) n h8 (fun h16 => rg x2 ∧ ((x2 ≤ 0 → okO n h16 x1 7 ∧ 0 ≤ hG h16 x1 1 ∧ (((hG h16 x1 1).toNat) < n ∧ ((h16 ((hG h16 x1 1).toNat)).1 = 100 ∨ (h16 ((hG h16 x1 1).toNat)).1 = 101)) ∧ X9_near_w57 G k x0 x2 x3 ((h16 ((hG h16 x1 1).toNat)).2.1 : Int) n h16) ∧ (¬ x2 ≤ 0 → okO n h16 x0 8 ∧ 0 ≤ hG h16 x0 11 ∧ okO n h16 x1 7 ∧ 0 ≤ hG h16 x1 1 ∧ (((hG h16 x1 1).toNat) < n ∧ ((h16 ((hG h16 x1 1).toNat)).1 = 100 ∨ (h16 ((hG h16 x1 1).toNat)).1 = 101)) ∧ S_X9_doubled G (kl k) ((hG h16 x0 11).toNat) ((h16 ((hG h16 x1 1).toNat)).2.1 : Int) x2 n h16 (fun z27 h28 => X9_near_w57 G k x0 x2 x3 z27 n h28)))))) : X9_near_w0 G k x0 x1 x2 x3 n h := by
  subst hn0
  refine ww_aload_n C 1 1 rfl rfl dX9_near_0 ?_
  obtain ⟨p1, hy⟩ := hy
  obtain ⟨p2, hy⟩ := hy
  refine gf_X9_104 C dX9_near_1 p1 p2 ?_
  refine ww_aload_n C 0 0 rfl rfl dX9_near_4 ?_
  obtain ⟨p3, hy⟩ := hy
  obtain ⟨p4, hy⟩ := hy
  refine gf_X9_350 C dX9_near_5 p3 p4 ?_
  refine ww_aload_n C 1 1 rfl rfl dX9_near_8 ?_
  obtain ⟨p5, hy⟩ := hy
  obtain ⟨p6, hy⟩ := hy
  refine gf_X9_104 C dX9_near_9 p5 p6 ?_
  obtain ⟨p7, hy⟩ := hy
  refine ww_alen C dX9_near_12 p7.1 p7.2 ?_
  refine cl_X9_61 C dX9_near_13 (Nat.le_of_ble_eq_true rfl) ⟨by decide, by decide⟩ ⟨by decide, by decide⟩ ?_
  refine S_X9_copyRow.mono hy (fun h8 hy => ?_)
  refine ww_aload_n C 3 3 rfl rfl dX9_near_16 ?_
  obtain ⟨p9, hy⟩ := hy
  obtain ⟨p10, hy⟩ := hy
  refine gf_X9_104 C dX9_near_17 p9 p10 ?_
  refine ww_aload_n C 0 0 rfl rfl dX9_near_20 ?_
  obtain ⟨p11, hy⟩ := hy
  obtain ⟨p12, hy⟩ := hy
  refine gf_X9_353 C dX9_near_21 p11 p12 ?_
  refine ww_aload_n C 3 3 rfl rfl dX9_near_24 ?_
  obtain ⟨p13, hy⟩ := hy
  obtain ⟨p14, hy⟩ := hy
  refine gf_X9_104 C dX9_near_25 p13 p14 ?_
  obtain ⟨p15, hy⟩ := hy
  refine ww_alen C dX9_near_28 p15.1 p15.2 ?_
  refine cl_X9_61 C dX9_near_29 (Nat.le_of_ble_eq_true rfl) ⟨by decide, by decide⟩ ⟨by decide, by decide⟩ ?_
  refine S_X9_copyRow.mono hy (fun h16 hy => ?_)
  refine ww_iload_n C 2 2 rfl rfl dX9_near_32 ?_
  obtain ⟨p17, hy⟩ := hy
  refine ww_if_le C (tg := 52) dX9_near_33 (by decide) p17 (fun c18 => ?_) (fun c18 => ?_)
  · have hy := hy.1 c18
    refine ww_aload_n C 1 1 rfl rfl dX9_near_52 ?_
    obtain ⟨p19, hy⟩ := hy
    obtain ⟨p20, hy⟩ := hy
    refine gf_X9_104 C dX9_near_53 p19 p20 ?_
    obtain ⟨p21, hy⟩ := hy
    refine ww_alen C dX9_near_56 p21.1 p21.2 ?_
    exact ww_sub [0, 2, 3] rfl (by decide) (by decide) hy
  · have hy := hy.2 c18
    refine ww_aload_n C 0 0 rfl rfl dX9_near_36 ?_
    obtain ⟨p22, hy⟩ := hy
    obtain ⟨p23, hy⟩ := hy
    refine gf_X9_350 C dX9_near_37 p22 p23 ?_
    refine ww_aload_n C 1 1 rfl rfl dX9_near_40 ?_
    obtain ⟨p24, hy⟩ := hy
    obtain ⟨p25, hy⟩ := hy
    refine gf_X9_104 C dX9_near_41 p24 p25 ?_
    obtain ⟨p26, hy⟩ := hy
    refine ww_alen C dX9_near_44 p26.1 p26.2 ?_
    refine ww_iload_n C 2 2 rfl rfl dX9_near_45 ?_
    refine cl_X9_131 C dX9_near_46 (Nat.le_of_ble_eq_true rfl) ⟨by decide, by decide⟩ ⟨by decide, by decide⟩ ?_
    refine S_X9_doubled.mono hy (fun z27 h28 hy => ?_)
    refine ww_goto C (tg := 57) dX9_near_49 (by decide) ?_
    exact ww_sub [0, 2, 3] rfl (by decide) (by decide) hy
set_option maxRecDepth 100000 in
set_option maxHeartbeats 4000000 in
theorem X9_near_b57 {G : xG} {k : xK} {n0 : Nat} {Po : UInt64 → xH → Prop} (C : CC G k cX9_near RX9 6 rm_X9_near) (E : CQ G k (some .double) rm_X9_near (fun r n1 h1 => ∃ z : UInt64, r = some (.double z) ∧ n1 = n0 ∧ Po z h1)) (x0 : Nat) (x2 : Int) (x3 : Nat) (s0 : Int) (n : Nat) (h : xH) (hn0 : n = n0) (hy : rg x2 ∧ ((0 ≤ x2 → okO n h x3 7 ∧ 0 ≤ hG h x3 1 ∧ (((hG h x3 1).toNat) < n ∧ ((h ((hG h x3 1).toNat)).1 = 100 ∨ (h ((hG h x3 1).toNat)).1 = 101)) ∧ X9_near_w85 G k x0 s0 ((h ((hG h x3 1).toNat)).2.1 : Int) n h) ∧ (¬ 0 ≤ x2 → okO n h x0 8 ∧ 0 ≤ hG h x0 12 ∧ okO n h x3 7 ∧ 0 ≤ hG h x3 1 ∧ (((hG h x3 1).toNat) < n ∧ ((h ((hG h x3 1).toNat)).1 = 100 ∨ (h ((hG h x3 1).toNat)).1 = 101)) ∧ S_X9_doubled G (kl k) ((hG h x0 12).toNat) ((h ((hG h x3 1).toNat)).2.1 : Int) (-x2) n h (fun z11 h12 => X9_near_w85 G k x0 s0 z11 n h12)))) : X9_near_w57 G k x0 x2 x3 s0 n h := by
  subst hn0
  refine ww_istore C 4 (by decide) rfl dX9_near_57 ?_
  refine ww_iload_n C 2 2 rfl rfl dX9_near_59 ?_
  obtain ⟨p1, hy⟩ := hy
  refine ww_if_ge C (tg := 80) dX9_near_60 (by decide) p1 (fun c2 => ?_) (fun c2 => ?_)
  · have hy := hy.1 c2
    refine ww_aload_n C 3 3 rfl rfl dX9_near_80 ?_
    obtain ⟨p3, hy⟩ := hy
    obtain ⟨p4, hy⟩ := hy
    refine gf_X9_104 C dX9_near_81 p3 p4 ?_
    obtain ⟨p5, hy⟩ := hy
    refine ww_alen C dX9_near_84 p5.1 p5.2 ?_
    exact ww_sub [1, 0] rfl (by decide) (by decide) hy
  · have hy := hy.2 c2
    refine ww_aload_n C 0 1 rfl rfl dX9_near_63 ?_
    obtain ⟨p6, hy⟩ := hy
    obtain ⟨p7, hy⟩ := hy
    refine gf_X9_353 C dX9_near_64 p6 p7 ?_
    refine ww_aload_n C 3 3 rfl rfl dX9_near_67 ?_
    obtain ⟨p8, hy⟩ := hy
    obtain ⟨p9, hy⟩ := hy
    refine gf_X9_104 C dX9_near_68 p8 p9 ?_
    obtain ⟨p10, hy⟩ := hy
    refine ww_alen C dX9_near_71 p10.1 p10.2 ?_
    refine ww_iload_n C 2 2 rfl rfl dX9_near_72 ?_
    refine ww_ineg C dX9_near_73 ?_
    refine cl_X9_131 C dX9_near_74 (Nat.le_of_ble_eq_true rfl) ⟨by decide, by decide⟩ ⟨by decide, by decide⟩ ?_
    refine S_X9_doubled.mono hy (fun z11 h12 hy => ?_)
    refine ww_goto C (tg := 85) dX9_near_77 (by decide) ?_
    exact ww_sub [1, 0] rfl (by decide) (by decide) hy
set_option maxRecDepth 100000 in
set_option maxHeartbeats 4000000 in
theorem X9_near_b85 {G : xG} {k : xK} {n0 : Nat} {Po : UInt64 → xH → Prop} (C : CC G k cX9_near RX9 6 rm_X9_near) (E : CQ G k (some .double) rm_X9_near (fun r n1 h1 => ∃ z : UInt64, r = some (.double z) ∧ n1 = n0 ∧ Po z h1)) (x0 : Nat) (x4 : Int) (s0 : Int) (n : Nat) (h : xH) (hn0 : n = n0) (hy : okO n h x0 8 ∧ 0 ≤ hG h x0 11 ∧ okO n h x0 8 ∧ 0 ≤ hG h x0 12 ∧ okO n h x0 8 ∧ S_X9_nearest G (kl k) x0 ((hG h x0 11).toNat) x4 ((hG h x0 12).toNat) s0 n h (fun z6 h7 => Po z6 h7)) : X9_near_w85 G k x0 x4 s0 n h := by
  subst hn0
  refine ww_istore C 5 (by decide) rfl dX9_near_85 ?_
  refine ww_aload_n C 0 1 rfl rfl dX9_near_87 ?_
  refine ww_aload_n C 0 1 rfl rfl dX9_near_88 ?_
  obtain ⟨p1, hy⟩ := hy
  obtain ⟨p2, hy⟩ := hy
  refine gf_X9_350 C dX9_near_89 p1 p2 ?_
  refine ww_iload C 4 2 rfl dX9_near_92 ?_
  refine ww_aload_n C 0 1 rfl rfl dX9_near_94 ?_
  obtain ⟨p3, hy⟩ := hy
  obtain ⟨p4, hy⟩ := hy
  refine gf_X9_353 C dX9_near_95 p3 p4 ?_
  refine ww_iload C 5 0 rfl dX9_near_98 ?_
  obtain ⟨p5, hy⟩ := hy
  refine cl_X9_223 C dX9_near_100 (Nat.le_of_ble_eq_true rfl) ⟨by decide, by decide⟩ ⟨by decide, by decide⟩ p5 ?_
  refine S_X9_nearest.mono hy (fun z6 h7 hy => ?_)
  exact ww_dret C E dX9_near_103 (by decide) (by decide) ⟨_, rfl, rfl, hy⟩
abbrev X9_make_w0 (G : xG) (k : xK) (x0 : Nat) (x1 : Int) (x2 : Int) (x3 : Int) (n : Nat) (h : xH) : Prop := WW G k 7 0 0 0 [(0, rf G x0), (1, .int (iz x1)), (2, .long (lz x2)), (4, .int (iz x3))] [] n h
abbrev X9_make_w22 (G : xG) (k : xK)  (n : Nat) (h : xH) : Prop := WW G k 7 0 0 22 [] [] n h
abbrev X9_make_w48 (G : xG) (k : xK) (x0 : Nat) (x1 : Int) (s0 : UInt64) (n : Nat) (h : xH) : Prop := WW G k 7 4 14 48 [(0, rf G x0), (1, .int (iz x1))] [.double s0] n h
abbrev X9_make_w63 (G : xG) (k : xK) (s0 : UInt64) (s1 : Nat) (n : Nat) (h : xH) : Prop := WW G k 7 4 14 63 [] [.double s0, rf G s1] n h
theorem S_X9_make_of {G : xG} {l : Launch} {x0 : Nat} {x1 : Int} {x2 : Int} {x3 : Int} {n : Nat} {h : xH} {Po : Int → Nat → xH → Prop} (body : ∀ k : xK, kl k = l → CC G k cX9_make RX9 7 rm_X9_make → CQ G k (some .boolean) rm_X9_make (fun r n1 h1 => ∃ z : Int, r = some (.int (iz z)) ∧ Po z n1 h1) → X9_make_w0 G k x0 x1 x2 x3 n h) : S_X9_make G l x0 x1 x2 x3 n h Po := xS_of (by decide +kernel) (Nat.le_of_ble_eq_true rfl) rfl (fun k hl hnm C E => body k hl C E)
set_option maxRecDepth 100000 in
set_option maxHeartbeats 4000000 in
theorem X9_make_b0 {G : xG} {k : xK} {n0 : Nat} {Po : Int → Nat → xH → Prop} (C : CC G k cX9_make RX9 7 rm_X9_make) (E : CQ G k (some .boolean) rm_X9_make (fun r n1 h1 => ∃ z : Int, r = some (.int (iz z)) ∧ Po z n1 h1)) (x0 : Nat) (x1 : Int) (x2 : Int) (x3 : Int) (n : Nat) (h : xH) (hy : (rgL x2 ∧ rgL 0) ∧ (((lC x2 0) < 0 → X9_make_w22 G k  n h) ∧ (¬ (lC x2 0) < 0 → (rg x3 ∧ rg (-2000 : Int)) ∧ ((x3 < (-2000 : Int) → X9_make_w22 G k  n h) ∧ (¬ x3 < (-2000 : Int) → (rg x3 ∧ rg (2000 : Int)) ∧ ((x3 ≤ (2000 : Int) → (rgL x2 ∧ rgL 0) ∧ ((¬ (lC x2 0) = 0 → S_X9_whole G (kl k) x2 n h (fun z11 n13 h12 => S_X9_whole G (kl k) 1 n13 h12 (fun z14 n16 h15 => okO n16 h15 x0 8 ∧ S_X9_near G (kl k) x0 z11 x3 z14 n16 h15 (fun z18 h19 => X9_make_w48 G k x0 x1 z18 n16 h19)))) ∧ ((lC x2 0) = 0 → X9_make_w48 G k x0 x1 FP.dconst0 n h))) ∧ (¬ x3 ≤ (2000 : Int) → X9_make_w22 G k  n h))))))) : X9_make_w0 G k x0 x1 x2 x3 n h := by
  refine ww_lload_n C 2 2 rfl rfl dX9_make_0 ?_
  refine ww_lconst C (z := 0) dX9_make_1 rfl ?_
  obtain ⟨p1, hy⟩ := hy
  refine ww_lcmp C dX9_make_2 p1.1 p1.2 ?_
  refine ww_if_lt C (tg := 22) dX9_make_3 (by decide) (rg_lC _ _) (fun c3 => ?_) (fun c3 => ?_)
  · have hy := hy.1 c3
    exact ww_sub [] rfl (by decide) (by decide) hy
  · have hy := hy.2 c3
    refine ww_iload C 4 3 rfl dX9_make_6 ?_
    refine ww_sipush C (z := (-2000)) dX9_make_8 rfl ?_
    obtain ⟨p4, hy⟩ := hy
    refine ww_icmp_lt C (tg := 22) dX9_make_11 (by decide) p4.1 p4.2 (fun c5 => ?_) (fun c5 => ?_)
    · have hy := hy.1 c5
      exact ww_sub [] rfl (by decide) (by decide) hy
    · have hy := hy.2 c5
      refine ww_iload C 4 3 rfl dX9_make_14 ?_
      refine ww_sipush C (z := 2000) dX9_make_16 rfl ?_
      obtain ⟨p6, hy⟩ := hy
      refine ww_icmp_le C (tg := 24) dX9_make_19 (by decide) p6.1 p6.2 (fun c7 => ?_) (fun c7 => ?_)
      · have hy := hy.1 c7
        refine ww_lload_n C 2 2 rfl rfl dX9_make_24 ?_
        refine ww_lconst C (z := 0) dX9_make_25 rfl ?_
        obtain ⟨p8, hy⟩ := hy
        refine ww_lcmp C dX9_make_26 p8.1 p8.2 ?_
        refine ww_if_ne C (tg := 34) dX9_make_27 (by decide) (rg_lC _ _) (fun c10 => ?_) (fun c10 => ?_)
        · have hy := hy.1 c10
          refine ww_aload_n C 0 0 rfl rfl dX9_make_34 ?_
          refine ww_lload_n C 2 2 rfl rfl dX9_make_35 ?_
          refine cl_X9_163 C dX9_make_36 (Nat.le_of_ble_eq_true rfl) ⟨by decide, by decide⟩ ⟨by decide, by decide⟩ ?_
          refine S_X9_whole.mono hy (fun z11 n13 h12 hy => ?_)
          refine ww_iload C 4 3 rfl dX9_make_39 ?_
          refine ww_lconst C (z := 1) dX9_make_41 rfl ?_
          refine cl_X9_163 C dX9_make_42 (Nat.le_of_ble_eq_true rfl) ⟨by decide, by decide⟩ ⟨by decide, by decide⟩ ?_
          refine S_X9_whole.mono hy (fun z14 n16 h15 hy => ?_)
          obtain ⟨p17, hy⟩ := hy
          refine cl_X9_372 C dX9_make_45 (Nat.le_of_ble_eq_true rfl) ⟨by decide, by decide⟩ ⟨by decide, by decide⟩ p17 ?_
          refine S_X9_near.mono hy (fun z18 h19 hy => ?_)
          exact ww_sub [0, 1] rfl (by decide) (by decide) hy
        · have hy := hy.2 c10
          refine ww_dconst0 C dX9_make_30 ?_
          refine ww_goto C (tg := 48) dX9_make_31 (by decide) ?_
          exact ww_sub [0, 1] rfl (by decide) (by decide) hy
      · have hy := hy.2 c7
        exact ww_sub [] rfl (by decide) (by decide) hy
set_option maxRecDepth 100000 in
set_option maxHeartbeats 4000000 in
theorem X9_make_b22 {G : xG} {k : xK} {n0 : Nat} {Po : Int → Nat → xH → Prop} (C : CC G k cX9_make RX9 7 rm_X9_make) (E : CQ G k (some .boolean) rm_X9_make (fun r n1 h1 => ∃ z : Int, r = some (.int (iz z)) ∧ Po z n1 h1))  (n : Nat) (h : xH) (hy : ((0 : Int) = 0 ∨ (0 : Int) = 1) ∧ Po (0 : Int) n h) : X9_make_w22 G k  n h := by
  refine ww_iconst C (z := 0) dX9_make_22 rfl ?_
  obtain ⟨p1, hy⟩ := hy
  exact ww_zret C E dX9_make_23 (nz_b p1) (by decide) (by decide) ⟨_, rfl, hy⟩
set_option maxRecDepth 100000 in
set_option maxHeartbeats 4000000 in
theorem X9_make_b48 {G : xG} {k : xK} {n0 : Nat} {Po : Int → Nat → xH → Prop} (C : CC G k cX9_make RX9 7 rm_X9_make) (E : CQ G k (some .boolean) rm_X9_make (fun r n1 h1 => ∃ z : Int, r = some (.int (iz z)) ∧ Po z n1 h1)) (x0 : Nat) (x1 : Int) (s0 : UInt64) (n : Nat) (h : xH) (hy : rg x1 ∧ ((x1 = 0 → X9_make_w63 G k s0 x0 n h) ∧ (¬ x1 = 0 → X9_make_w63 G k (FP.dneg s0) x0 n h))) : X9_make_w48 G k x0 x1 s0 n h := by
  refine ww_dstore C 5 (by decide) rfl dX9_make_48 ?_
  refine ww_aload_n C 0 1 rfl rfl dX9_make_50 ?_
  refine ww_iload_n C 1 2 rfl rfl dX9_make_51 ?_
  obtain ⟨p1, hy⟩ := hy
  refine ww_if_eq C (tg := 61) dX9_make_52 (by decide) p1 (fun c2 => ?_) (fun c2 => ?_)
  · have hy := hy.1 c2
    refine ww_dload C 5 0 rfl dX9_make_61 ?_
    exact ww_sub [] rfl (by decide) (by decide) hy
  · have hy := hy.2 c2
    refine ww_dload C 5 0 rfl dX9_make_55 ?_
    refine ww_dneg C dX9_make_57 ?_
    refine ww_goto C (tg := 63) dX9_make_58 (by decide) ?_
    exact ww_sub [] rfl (by decide) (by decide) hy
set_option maxRecDepth 100000 in
set_option maxHeartbeats 4000000 in
theorem X9_make_b63 {G : xG} {k : xK} {n0 : Nat} {Po : Int → Nat → xH → Prop} (C : CC G k cX9_make RX9 7 rm_X9_make) (E : CQ G k (some .boolean) rm_X9_make (fun r n1 h1 => ∃ z : Int, r = some (.int (iz z)) ∧ Po z n1 h1)) (s0 : UInt64) (s1 : Nat) (n : Nat) (h : xH) (hy : S_X7_of G (kl k) s0 n h (fun z1 n3 h2 => okO n3 h2 s1 8 ∧ (∀ h5 : xH, h5 = hS h2 s1 25 ((z1 : Nat) : Int) → ((1 : Int) = 0 ∨ (1 : Int) = 1) ∧ Po (1 : Int) n3 h5))) : X9_make_w63 G k s0 s1 n h := by
  refine cl_X9_238 C dX9_make_63 (Nat.le_of_ble_eq_true rfl) ⟨by decide, by decide⟩ ⟨by decide, by decide⟩ ?_
  refine S_X7_of.mono hy (fun z1 n3 h2 hy => ?_)
  obtain ⟨p4, hy⟩ := hy
  have hy := hy _ rfl
  refine pf_X9_365R C dX9_make_66 p4 ?_
  refine ww_iconst C (z := 1) dX9_make_69 rfl ?_
  obtain ⟨p6, hy⟩ := hy
  exact ww_zret C E dX9_make_70 (nz_b p6) (by decide) (by decide) ⟨_, rfl, hy⟩
abbrev X9_divide_w0 (G : xG) (k : xK) (x0 : Nat) (x1 : Int) (x2 : Int) (n : Nat) (h : xH) : Prop := WW G k 7 0 0 0 [(0, rf G x0), (1, .long (lz x1)), (3, .long (lz x2))] [] n h
abbrev X9_divide_w31 (G : xG) (k : xK) (x0 : Nat) (x1 : Int) (s0 : UInt64) (n : Nat) (h : xH) : Prop := WW G k 7 4 14 31 [(0, rf G x0), (1, .long (lz x1))] [.double s0] n h
abbrev X9_divide_w48 (G : xG) (k : xK) (s0 : UInt64) (s1 : Nat) (n : Nat) (h : xH) : Prop := WW G k 7 4 14 48 [] [.double s0, rf G s1] n h
theorem S_X9_divide_of {G : xG} {l : Launch} {x0 : Nat} {x1 : Int} {x2 : Int} {n : Nat} {h : xH} {Po : Int → Nat → xH → Prop} (body : ∀ k : xK, kl k = l → CC G k cX9_divide RX9 7 rm_X9_divide → CQ G k (some .boolean) rm_X9_divide (fun r n1 h1 => ∃ z : Int, r = some (.int (iz z)) ∧ Po z n1 h1) → X9_divide_w0 G k x0 x1 x2 n h) : S_X9_divide G l x0 x1 x2 n h Po := xS_of (by decide +kernel) (Nat.le_of_ble_eq_true rfl) rfl (fun k hl hnm C E => body k hl C E)
set_option maxRecDepth 100000 in
set_option maxHeartbeats 4000000 in
theorem X9_divide_b0 {G : xG} {k : xK} {n0 : Nat} {Po : Int → Nat → xH → Prop} (C : CC G k cX9_divide RX9 7 rm_X9_divide) (E : CQ G k (some .boolean) rm_X9_divide (fun r n1 h1 => ∃ z : Int, r = some (.int (iz z)) ∧ Po z n1 h1)) (x0 : Nat) (x1 : Int) (x2 : Int) (n : Nat) (h : xH) (hy : (rgL x2 ∧ rgL 0) ∧ ((0 < (lC x2 0) → (rgL x1 ∧ rgL 0) ∧ ((¬ (lC x1 0) = 0 → S_X9_whole G (kl k) x1 n h (fun z7 n9 h8 => S_X9_whole G (kl k) x2 n9 h8 (fun z10 n12 h11 => okO n12 h11 x0 8 ∧ S_X9_near G (kl k) x0 z7 0 z10 n12 h11 (fun z14 h15 => X9_divide_w31 G k x0 x1 z14 n12 h15)))) ∧ ((lC x1 0) = 0 → X9_divide_w31 G k x0 x1 FP.dconst0 n h))) ∧ (¬ 0 < (lC x2 0) → ((0 : Int) = 0 ∨ (0 : Int) = 1) ∧ Po (0 : Int) n h))) : X9_divide_w0 G k x0 x1 x2 n h := by
  refine ww_lload_n C 3 2 rfl rfl dX9_divide_0 ?_
  refine ww_lconst C (z := 0) dX9_divide_1 rfl ?_
  obtain ⟨p1, hy⟩ := hy
  refine ww_lcmp C dX9_divide_2 p1.1 p1.2 ?_
  refine ww_if_gt C (tg := 8) dX9_divide_3 (by decide) (rg_lC _ _) (fun c3 => ?_) (fun c3 => ?_)
  · have hy := hy.1 c3
    refine ww_lload_n C 1 1 rfl rfl dX9_divide_8 ?_
    refine ww_lconst C (z := 0) dX9_divide_9 rfl ?_
    obtain ⟨p4, hy⟩ := hy
    refine ww_lcmp C dX9_divide_10 p4.1 p4.2 ?_
    refine ww_if_ne C (tg := 18) dX9_divide_11 (by decide) (rg_lC _ _) (fun c6 => ?_) (fun c6 => ?_)
    · have hy := hy.1 c6
      refine ww_aload_n C 0 0 rfl rfl dX9_divide_18 ?_
      refine ww_lload_n C 1 1 rfl rfl dX9_divide_19 ?_
      refine cl_X9_163 C dX9_divide_20 (Nat.le_of_ble_eq_true rfl) ⟨by decide, by decide⟩ ⟨by decide, by decide⟩ ?_
      refine S_X9_whole.mono hy (fun z7 n9 h8 hy => ?_)
      refine ww_iconst C (z := 0) dX9_divide_23 rfl ?_
      refine ww_lload_n C 3 2 rfl rfl dX9_divide_24 ?_
      refine cl_X9_163 C dX9_divide_25 (Nat.le_of_ble_eq_true rfl) ⟨by decide, by decide⟩ ⟨by decide, by decide⟩ ?_
      refine S_X9_whole.mono hy (fun z10 n12 h11 hy => ?_)
      obtain ⟨p13, hy⟩ := hy
      refine cl_X9_372 C dX9_divide_28 (Nat.le_of_ble_eq_true rfl) ⟨by decide, by decide⟩ ⟨by decide, by decide⟩ p13 ?_
      refine S_X9_near.mono hy (fun z14 h15 hy => ?_)
      exact ww_sub [0, 1] rfl (by decide) (by decide) hy
    · have hy := hy.2 c6
      refine ww_dconst0 C dX9_divide_14 ?_
      refine ww_goto C (tg := 31) dX9_divide_15 (by decide) ?_
      exact ww_sub [0, 1] rfl (by decide) (by decide) hy
  · have hy := hy.2 c3
    refine ww_iconst C (z := 0) dX9_divide_6 rfl ?_
    obtain ⟨p16, hy⟩ := hy
    exact ww_zret C E dX9_divide_7 (nz_b p16) (by decide) (by decide) ⟨_, rfl, hy⟩
set_option maxRecDepth 100000 in
set_option maxHeartbeats 4000000 in
theorem X9_divide_b31 {G : xG} {k : xK} {n0 : Nat} {Po : Int → Nat → xH → Prop} (C : CC G k cX9_divide RX9 7 rm_X9_divide) (E : CQ G k (some .boolean) rm_X9_divide (fun r n1 h1 => ∃ z : Int, r = some (.int (iz z)) ∧ Po z n1 h1)) (x0 : Nat) (x1 : Int) (s0 : UInt64) (n : Nat) (h : xH) (hy : (rgL x1 ∧ rgL 0) ∧ ((0 ≤ (lC x1 0) → X9_divide_w48 G k s0 x0 n h) ∧ (¬ 0 ≤ (lC x1 0) → X9_divide_w48 G k (FP.dneg s0) x0 n h))) : X9_divide_w31 G k x0 x1 s0 n h := by
  refine ww_dstore C 5 (by decide) rfl dX9_divide_31 ?_
  refine ww_aload_n C 0 1 rfl rfl dX9_divide_33 ?_
  refine ww_lload_n C 1 2 rfl rfl dX9_divide_34 ?_
  refine ww_lconst C (z := 0) dX9_divide_35 rfl ?_
  obtain ⟨p1, hy⟩ := hy
  refine ww_lcmp C dX9_divide_36 p1.1 p1.2 ?_
  refine ww_if_ge C (tg := 46) dX9_divide_37 (by decide) (rg_lC _ _) (fun c3 => ?_) (fun c3 => ?_)
  · have hy := hy.1 c3
    refine ww_dload C 5 0 rfl dX9_divide_46 ?_
    exact ww_sub [] rfl (by decide) (by decide) hy
  · have hy := hy.2 c3
    refine ww_dload C 5 0 rfl dX9_divide_40 ?_
    refine ww_dneg C dX9_divide_42 ?_
    refine ww_goto C (tg := 48) dX9_divide_43 (by decide) ?_
    exact ww_sub [] rfl (by decide) (by decide) hy
set_option maxRecDepth 100000 in
set_option maxHeartbeats 4000000 in
theorem X9_divide_b48 {G : xG} {k : xK} {n0 : Nat} {Po : Int → Nat → xH → Prop} (C : CC G k cX9_divide RX9 7 rm_X9_divide) (E : CQ G k (some .boolean) rm_X9_divide (fun r n1 h1 => ∃ z : Int, r = some (.int (iz z)) ∧ Po z n1 h1)) (s0 : UInt64) (s1 : Nat) (n : Nat) (h : xH) (hy : S_X7_of G (kl k) s0 n h (fun z1 n3 h2 => okO n3 h2 s1 8 ∧ (∀ h5 : xH, h5 = hS h2 s1 25 ((z1 : Nat) : Int) → ((1 : Int) = 0 ∨ (1 : Int) = 1) ∧ Po (1 : Int) n3 h5))) : X9_divide_w48 G k s0 s1 n h := by
  refine cl_X9_238 C dX9_divide_48 (Nat.le_of_ble_eq_true rfl) ⟨by decide, by decide⟩ ⟨by decide, by decide⟩ ?_
  refine S_X7_of.mono hy (fun z1 n3 h2 hy => ?_)
  obtain ⟨p4, hy⟩ := hy
  have hy := hy _ rfl
  refine pf_X9_365R C dX9_divide_51 p4 ?_
  refine ww_iconst C (z := 1) dX9_divide_54 rfl ?_
  obtain ⟨p6, hy⟩ := hy
  exact ww_zret C E dX9_divide_55 (nz_b p6) (by decide) (by decide) ⟨_, rfl, hy⟩
abbrev X9_isDouble_w0 (G : xG) (k : xK) (x0 : Nat) (n : Nat) (h : xH) : Prop := WW G k 1 0 0 0 [(0, rf G x0)] [] n h
theorem S_X9_isDouble_of {G : xG} {l : Launch} {x0 : Nat} {n : Nat} {h : xH} {Po : Int → xH → Prop} (body : ∀ k : xK, kl k = l → CC G k cX9_isDouble RX9 1 rm_X9_isDouble → CQ G k (some .boolean) rm_X9_isDouble (fun r n1 h1 => ∃ z : Int, r = some (.int (iz z)) ∧ n1 = n ∧ Po z h1) → X9_isDouble_w0 G k x0 n h) : S_X9_isDouble G l x0 n h Po := xS_of (by decide +kernel) (Nat.le_of_ble_eq_true rfl) rfl (fun k hl hnm C E => body k hl C E)
set_option maxRecDepth 100000 in
set_option maxHeartbeats 4000000 in
theorem X9_isDouble_b0 {G : xG} {k : xK} {n0 : Nat} {Po : Int → xH → Prop} (C : CC G k cX9_isDouble RX9 1 rm_X9_isDouble) (E : CQ G k (some .boolean) rm_X9_isDouble (fun r n1 h1 => ∃ z : Int, r = some (.int (iz z)) ∧ n1 = n0 ∧ Po z h1)) (x0 : Nat) (n : Nat) (h : xH) (hn0 : n = n0) (hy : okO n h x0 8 ∧ ((hG h x0 25) < 0 ∨ ((hG h x0 25).toNat < n ∧ ((h (hG h x0 25).toNat).1 = 5 ∨ (h (hG h x0 25).toNat).1 = 6 ∨ (h (hG h x0 25).toNat).1 = 7))) ∧ ((xI h 6 (hG h x0 25)) = 0 ∨ (xI h 6 (hG h x0 25)) = 1) ∧ Po (xI h 6 (hG h x0 25)) h) : X9_isDouble_w0 G k x0 n h := by
  subst hn0
  refine ww_aload_n C 0 0 rfl rfl dX9_isDouble_0 ?_
  obtain ⟨p1, hy⟩ := hy
  refine gf_X9_365 C dX9_isDouble_1 p1 ?_
  obtain ⟨p2, hy⟩ := hy
  refine is_X9_201 C dX9_isDouble_4 p2 ?_
  obtain ⟨p3, hy⟩ := hy
  exact ww_zret C E dX9_isDouble_7 (nz_b p3) (by decide) (by decide) ⟨_, rfl, rfl, hy⟩
abbrev X9_value_w0 (G : xG) (k : xK) (x0 : Nat) (n : Nat) (h : xH) : Prop := WW G k 1 0 0 0 [(0, rf G x0)] [] n h
theorem S_X9_value_of {G : xG} {l : Launch} {x0 : Nat} {n : Nat} {h : xH} {Po : UInt64 → xH → Prop} (body : ∀ k : xK, kl k = l → CC G k cX9_value RX9 1 rm_X9_value → CQ G k (some .double) rm_X9_value (fun r n1 h1 => ∃ z : UInt64, r = some (.double z) ∧ n1 = n ∧ Po z h1) → X9_value_w0 G k x0 n h) : S_X9_value G l x0 n h Po := xS_of (by decide +kernel) (Nat.le_of_ble_eq_true rfl) rfl (fun k hl hnm C E => body k hl C E)
set_option maxRecDepth 100000 in
set_option maxHeartbeats 4000000 in
theorem X9_value_b0 {G : xG} {k : xK} {n0 : Nat} {Po : UInt64 → xH → Prop} (C : CC G k cX9_value RX9 1 rm_X9_value) (E : CQ G k (some .double) rm_X9_value (fun r n1 h1 => ∃ z : UInt64, r = some (.double z) ∧ n1 = n0 ∧ Po z h1)) (x0 : Nat) (n : Nat) (h : xH) (hn0 : n = n0) (hy : okO n h x0 8 ∧ ((hG h x0 25) < 0 ∨ ((hG h x0 25).toNat < n ∧ (h (hG h x0 25).toNat).1 = 6)) ∧ 0 ≤ (hG h x0 25) ∧ okO n h ((hG h x0 25).toNat) 6 ∧ Po (UInt64.ofNat (hG h ((hG h x0 25).toNat) 0).toNat) h) : X9_value_w0 G k x0 n h := by
  subst hn0
  refine ww_aload_n C 0 0 rfl rfl dX9_value_0 ?_
  obtain ⟨p1, hy⟩ := hy
  refine gf_X9_365 C dX9_value_1 p1 ?_
  obtain ⟨p2, hy⟩ := hy
  refine ct_X9_201 C dX9_value_4 p2 ?_
  obtain ⟨p3, hy⟩ := hy
  refine ww_vr p3 ?_
  obtain ⟨p4, hy⟩ := hy
  refine gf_X9_203 C dX9_value_7 p4 ?_
  exact ww_dret C E dX9_value_10 (by decide) (by decide) ⟨_, rfl, rfl, hy⟩
abbrev X9_kind_w0 (G : xG) (k : xK) (x0 : Nat) (n : Nat) (h : xH) : Prop := WW G k 1 0 0 0 [(0, rf G x0)] [] n h
abbrev X9_kind_w52 (G : xG) (k : xK) (s0 : Int) (n : Nat) (h : xH) : Prop := WW G k 1 0 0 52 [] [.int (iz s0)] n h
theorem S_X9_kind_of {G : xG} {l : Launch} {x0 : Nat} {n : Nat} {h : xH} {Po : Int → xH → Prop} (body : ∀ k : xK, kl k = l → CC G k cX9_kind RX9 1 rm_X9_kind → CQ G k (some .int) rm_X9_kind (fun r n1 h1 => ∃ z : Int, r = some (.int (iz z)) ∧ n1 = n ∧ Po z h1) → X9_kind_w0 G k x0 n h) : S_X9_kind G l x0 n h Po := xS_of (by decide +kernel) (Nat.le_of_ble_eq_true rfl) rfl (fun k hl hnm C E => body k hl C E)
set_option maxRecDepth 100000 in
set_option maxHeartbeats 4000000 in
theorem X9_kind_b0 {G : xG} {k : xK} {n0 : Nat} {Po : Int → xH → Prop} (C : CC G k cX9_kind RX9 1 rm_X9_kind) (E : CQ G k (some .int) rm_X9_kind (fun r n1 h1 => ∃ z : Int, r = some (.int (iz z)) ∧ n1 = n0 ∧ Po z h1)) (x0 : Nat) (n : Nat) (h : xH) (hn0 : n = n0) (hy : okO n h x0 8 ∧ ((¬ (hG h x0 25) < 0 → okO n h x0 8 ∧ S_X9_isDouble G (kl k) x0 n h (fun z4 h5 => rg z4 ∧ ((¬ z4 = 0 → okO n h5 x0 8 ∧ ((hG h5 x0 25) < 0 ∨ ((hG h5 x0 25).toNat < n ∧ (h5 (hG h5 x0 25).toNat).1 = 6)) ∧ 0 ≤ (hG h5 x0 25) ∧ okO n h5 ((hG h5 x0 25).toNat) 6 ∧ rg (hG h5 ((hG h5 x0 25).toNat) 1) ∧ (((hG h5 ((hG h5 x0 25).toNat) 1) = 0 → okO n h5 x0 8 ∧ S_X9_value G (kl k) x0 n h5 (fun z15 h16 => S_X9_isFinite G (kl k) z15 n h16 (fun z17 h18 => rg z17 ∧ ((z17 = 0 → X9_kind_w52 G k 3 n h18) ∧ (¬ z17 = 0 → X9_kind_w52 G k 2 n h18))))) ∧ (¬ (hG h5 ((hG h5 x0 25).toNat) 1) = 0 → X9_kind_w52 G k 4 n h5))) ∧ (z4 = 0 → X9_kind_w52 G k 1 n h5)))) ∧ ((hG h x0 25) < 0 → Po (0 : Int) h))) : X9_kind_w0 G k x0 n h := by
  subst hn0
  refine ww_aload_n C 0 0 rfl rfl dX9_kind_0 ?_
  obtain ⟨p1, hy⟩ := hy
  refine gf_X9_365 C dX9_kind_1 p1 ?_
  refine ww_ifnonnull C (tg := 9) dX9_kind_4 (by decide) (fun c2 => ?_) (fun c2 => ?_)
  · have hy := hy.1 c2
    refine ww_aload_n C 0 0 rfl rfl dX9_kind_9 ?_
    obtain ⟨p3, hy⟩ := hy
    refine cl_X9_387 C dX9_kind_10 (Nat.le_of_ble_eq_true rfl) ⟨by decide, by decide⟩ ⟨by decide, by decide⟩ p3 ?_
    refine S_X9_isDouble.mono hy (fun z4 h5 hy => ?_)
    obtain ⟨p6, hy⟩ := hy
    refine ww_if_ne C (tg := 20) dX9_kind_13 (by decide) p6 (fun c7 => ?_) (fun c7 => ?_)
    · have hy := hy.1 c7
      refine ww_aload_n C 0 0 rfl rfl dX9_kind_20 ?_
      obtain ⟨p8, hy⟩ := hy
      refine gf_X9_365 C dX9_kind_21 p8 ?_
      obtain ⟨p9, hy⟩ := hy
      refine ct_X9_201 C dX9_kind_24 p9 ?_
      obtain ⟨p10, hy⟩ := hy
      refine ww_vr p10 ?_
      obtain ⟨p11, hy⟩ := hy
      refine gf_X9_394 C dX9_kind_27 p11 ?_
      obtain ⟨p12, hy⟩ := hy
      refine ww_if_eq C (tg := 37) dX9_kind_30 (by decide) p12 (fun c13 => ?_) (fun c13 => ?_)
      · have hy := hy.1 c13
        refine ww_aload_n C 0 0 rfl rfl dX9_kind_37 ?_
        obtain ⟨p14, hy⟩ := hy
        refine cl_X9_379 C dX9_kind_38 (Nat.le_of_ble_eq_true rfl) ⟨by decide, by decide⟩ ⟨by decide, by decide⟩ p14 ?_
        refine S_X9_value.mono hy (fun z15 h16 hy => ?_)
        refine cl_X9_245 C dX9_kind_41 (Nat.le_of_ble_eq_true rfl) ⟨by decide, by decide⟩ ⟨by decide, by decide⟩ ?_
        refine S_X9_isFinite.mono hy (fun z17 h18 hy => ?_)
        obtain ⟨p19, hy⟩ := hy
        refine ww_if_eq C (tg := 51) dX9_kind_44 (by decide) p19 (fun c20 => ?_) (fun c20 => ?_)
        · have hy := hy.1 c20
          refine ww_iconst C (z := 3) dX9_kind_51 rfl ?_
          exact ww_sub [] rfl (by decide) (by decide) hy
        · have hy := hy.2 c20
          refine ww_iconst C (z := 2) dX9_kind_47 rfl ?_
          refine ww_goto C (tg := 52) dX9_kind_48 (by decide) ?_
          exact ww_sub [] rfl (by decide) (by decide) hy
      · have hy := hy.2 c13
        refine ww_iconst C (z := 4) dX9_kind_33 rfl ?_
        refine ww_goto C (tg := 52) dX9_kind_34 (by decide) ?_
        exact ww_sub [] rfl (by decide) (by decide) hy
    · have hy := hy.2 c7
      refine ww_iconst C (z := 1) dX9_kind_16 rfl ?_
      refine ww_goto C (tg := 52) dX9_kind_17 (by decide) ?_
      exact ww_sub [] rfl (by decide) (by decide) hy
  · have hy := hy.2 c2
    refine ww_iconst C (z := 0) dX9_kind_7 rfl ?_
    exact ww_iret C E dX9_kind_8 (by decide) (by decide) ⟨_, rfl, rfl, hy⟩
set_option maxRecDepth 100000 in
set_option maxHeartbeats 4000000 in
theorem X9_kind_b52 {G : xG} {k : xK} {n0 : Nat} {Po : Int → xH → Prop} (C : CC G k cX9_kind RX9 1 rm_X9_kind) (E : CQ G k (some .int) rm_X9_kind (fun r n1 h1 => ∃ z : Int, r = some (.int (iz z)) ∧ n1 = n0 ∧ Po z h1)) (s0 : Int) (n : Nat) (h : xH) (hn0 : n = n0) (hy : Po s0 h) : X9_kind_w52 G k s0 n h := by
  subst hn0
  exact ww_iret C E dX9_kind_52 (by decide) (by decide) ⟨_, rfl, rfl, hy⟩
abbrev X9_exact_w0 (G : xG) (k : xK) (x0 : Nat) (n : Nat) (h : xH) : Prop := WW G k 1 0 0 0 [(0, rf G x0)] [] n h
theorem S_X9_exact_of {G : xG} {l : Launch} {x0 : Nat} {n : Nat} {h : xH} {Po : Int → Nat → xH → Prop} (body : ∀ k : xK, kl k = l → CC G k cX9_exact RX9 1 rm_X9_exact → CQ G k (some .boolean) rm_X9_exact (fun r n1 h1 => ∃ z : Int, r = some (.int (iz z)) ∧ Po z n1 h1) → X9_exact_w0 G k x0 n h) : S_X9_exact G l x0 n h Po := xS_of (by decide +kernel) (Nat.le_of_ble_eq_true rfl) rfl (fun k hl hnm C E => body k hl C E)
set_option maxRecDepth 100000 in
set_option maxHeartbeats 4000000 in
theorem X9_exact_b0 {G : xG} {k : xK} {n0 : Nat} {Po : Int → Nat → xH → Prop} (C : CC G k cX9_exact RX9 1 rm_X9_exact) (E : CQ G k (some .boolean) rm_X9_exact (fun r n1 h1 => ∃ z : Int, r = some (.int (iz z)) ∧ Po z n1 h1)) (x0 : Nat) (n : Nat) (h : xH) (hy : okO n h x0 8 ∧ S_X9_kind G (kl k) x0 n h (fun z2 h3 => (rg z2 ∧ rg (2 : Int)) ∧ ((z2 = (2 : Int) → okO n h3 x0 8 ∧ S_X9_value G (kl k) x0 n h3 (fun z7 h8 => okO n h8 x0 8 ∧ S_X9_exactOf G (kl k) x0 z7 n h8 (fun z10 n12 h11 => okO n12 h11 x0 8 ∧ (∀ h14 : xH, h14 = hS h11 x0 25 z10 → ((1 : Int) = 0 ∨ (1 : Int) = 1) ∧ Po (1 : Int) n12 h14)))) ∧ (¬ z2 = (2 : Int) → ((0 : Int) = 0 ∨ (0 : Int) = 1) ∧ Po (0 : Int) n h3)))) : X9_exact_w0 G k x0 n h := by
  refine ww_aload_n C 0 0 rfl rfl dX9_exact_0 ?_
  obtain ⟨p1, hy⟩ := hy
  refine cl_X9_376 C dX9_exact_1 (Nat.le_of_ble_eq_true rfl) ⟨by decide, by decide⟩ ⟨by decide, by decide⟩ p1 ?_
  refine S_X9_kind.mono hy (fun z2 h3 hy => ?_)
  refine ww_iconst C (z := 2) dX9_exact_4 rfl ?_
  obtain ⟨p4, hy⟩ := hy
  refine ww_icmp_eq C (tg := 10) dX9_exact_5 (by decide) p4.1 p4.2 (fun c5 => ?_) (fun c5 => ?_)
  · have hy := hy.1 c5
    refine ww_aload_n C 0 0 rfl rfl dX9_exact_10 ?_
    refine ww_aload_n C 0 0 rfl rfl dX9_exact_11 ?_
    refine ww_aload_n C 0 0 rfl rfl dX9_exact_12 ?_
    obtain ⟨p6, hy⟩ := hy
    refine cl_X9_379 C dX9_exact_13 (Nat.le_of_ble_eq_true rfl) ⟨by decide, by decide⟩ ⟨by decide, by decide⟩ p6 ?_
    refine S_X9_value.mono hy (fun z7 h8 hy => ?_)
    obtain ⟨p9, hy⟩ := hy
    refine cl_X9_383 C dX9_exact_16 (Nat.le_of_ble_eq_true rfl) ⟨by decide, by decide⟩ ⟨by decide, by decide⟩ p9 ?_
    refine S_X9_exactOf.mono hy (fun z10 n12 h11 hy => ?_)
    obtain ⟨p13, hy⟩ := hy
    have hy := hy _ rfl
    refine pf_X9_365N C dX9_exact_19 p13 ?_
    refine ww_iconst C (z := 1) dX9_exact_22 rfl ?_
    obtain ⟨p15, hy⟩ := hy
    exact ww_zret C E dX9_exact_23 (nz_b p15) (by decide) (by decide) ⟨_, rfl, hy⟩
  · have hy := hy.2 c5
    refine ww_iconst C (z := 0) dX9_exact_8 rfl ?_
    obtain ⟨p16, hy⟩ := hy
    exact ww_zret C E dX9_exact_9 (nz_b p16) (by decide) (by decide) ⟨_, rfl, hy⟩
abbrev X9_inexact_w0 (G : xG) (k : xK) (x0 : Nat) (n : Nat) (h : xH) : Prop := WW G k 1 0 0 0 [(0, rf G x0)] [] n h
abbrev X9_inexact_w14 (G : xG) (k : xK)  (n : Nat) (h : xH) : Prop := WW G k 1 0 0 14 [] [] n h
theorem S_X9_inexact_of {G : xG} {l : Launch} {x0 : Nat} {n : Nat} {h : xH} {Po : Int → Nat → xH → Prop} (body : ∀ k : xK, kl k = l → CC G k cX9_inexact RX9 1 rm_X9_inexact → CQ G k (some .boolean) rm_X9_inexact (fun r n1 h1 => ∃ z : Int, r = some (.int (iz z)) ∧ Po z n1 h1) → X9_inexact_w0 G k x0 n h) : S_X9_inexact G l x0 n h Po := xS_of (by decide +kernel) (Nat.le_of_ble_eq_true rfl) rfl (fun k hl hnm C E => body k hl C E)
set_option maxRecDepth 100000 in
set_option maxHeartbeats 4000000 in
theorem X9_inexact_b0 {G : xG} {k : xK} {n0 : Nat} {Po : Int → Nat → xH → Prop} (C : CC G k cX9_inexact RX9 1 rm_X9_inexact) (E : CQ G k (some .boolean) rm_X9_inexact (fun r n1 h1 => ∃ z : Int, r = some (.int (iz z)) ∧ Po z n1 h1)) (x0 : Nat) (n : Nat) (h : xH) (hy : okO n h x0 8 ∧ (((hG h x0 25) < 0 → X9_inexact_w14 G k  n h) ∧ (¬ (hG h x0 25) < 0 → okO n h x0 8 ∧ S_X9_isDouble G (kl k) x0 n h (fun z4 h5 => rg z4 ∧ ((z4 = 0 → okO n h5 x0 8 ∧ okO n h5 x0 8 ∧ S_X9_real G (kl k) x0 (hG h5 x0 25) n h5 (fun z10 n12 h11 => S_X7_of G (kl k) z10 n12 h11 (fun z13 n15 h14 => okO n15 h14 x0 8 ∧ (∀ h17 : xH, h17 = hS h14 x0 25 ((z13 : Nat) : Int) → ((1 : Int) = 0 ∨ (1 : Int) = 1) ∧ Po (1 : Int) n15 h17)))) ∧ (¬ z4 = 0 → X9_inexact_w14 G k  n h5)))))) : X9_inexact_w0 G k x0 n h := by
  refine ww_aload_n C 0 0 rfl rfl dX9_inexact_0 ?_
  obtain ⟨p1, hy⟩ := hy
  refine gf_X9_365 C dX9_inexact_1 p1 ?_
  refine ww_ifnull C (tg := 14) dX9_inexact_4 (by decide) (fun c2 => ?_) (fun c2 => ?_)
  · have hy := hy.1 c2
    exact ww_sub [] rfl (by decide) (by decide) hy
  · have hy := hy.2 c2
    refine ww_aload_n C 0 0 rfl rfl dX9_inexact_7 ?_
    obtain ⟨p3, hy⟩ := hy
    refine cl_X9_387 C dX9_inexact_8 (Nat.le_of_ble_eq_true rfl) ⟨by decide, by decide⟩ ⟨by decide, by decide⟩ p3 ?_
    refine S_X9_isDouble.mono hy (fun z4 h5 hy => ?_)
    obtain ⟨p6, hy⟩ := hy
    refine ww_if_eq C (tg := 16) dX9_inexact_11 (by decide) p6 (fun c7 => ?_) (fun c7 => ?_)
    · have hy := hy.1 c7
      refine ww_aload_n C 0 0 rfl rfl dX9_inexact_16 ?_
      refine ww_aload_n C 0 0 rfl rfl dX9_inexact_17 ?_
      refine ww_aload_n C 0 0 rfl rfl dX9_inexact_18 ?_
      obtain ⟨p8, hy⟩ := hy
      refine gf_X9_365 C dX9_inexact_19 p8 ?_
      obtain ⟨p9, hy⟩ := hy
      refine cl_X9_390 C dX9_inexact_22 (Nat.le_of_ble_eq_true rfl) ⟨by decide, by decide⟩ ⟨by decide, by decide⟩ p9 ?_
      refine S_X9_real.mono hy (fun z10 n12 h11 hy => ?_)
      refine cl_X9_238 C dX9_inexact_25 (Nat.le_of_ble_eq_true rfl) ⟨by decide, by decide⟩ ⟨by decide, by decide⟩ ?_
      refine S_X7_of.mono hy (fun z13 n15 h14 hy => ?_)
      obtain ⟨p16, hy⟩ := hy
      have hy := hy _ rfl
      refine pf_X9_365R C dX9_inexact_28 p16 ?_
      refine ww_iconst C (z := 1) dX9_inexact_31 rfl ?_
      obtain ⟨p18, hy⟩ := hy
      exact ww_zret C E dX9_inexact_32 (nz_b p18) (by decide) (by decide) ⟨_, rfl, hy⟩
    · have hy := hy.2 c7
      exact ww_sub [] rfl (by decide) (by decide) hy
set_option maxRecDepth 100000 in
set_option maxHeartbeats 4000000 in
theorem X9_inexact_b14 {G : xG} {k : xK} {n0 : Nat} {Po : Int → Nat → xH → Prop} (C : CC G k cX9_inexact RX9 1 rm_X9_inexact) (E : CQ G k (some .boolean) rm_X9_inexact (fun r n1 h1 => ∃ z : Int, r = some (.int (iz z)) ∧ Po z n1 h1))  (n : Nat) (h : xH) (hy : ((0 : Int) = 0 ∨ (0 : Int) = 1) ∧ Po (0 : Int) n h) : X9_inexact_w14 G k  n h := by
  refine ww_iconst C (z := 0) dX9_inexact_14 rfl ?_
  obtain ⟨p1, hy⟩ := hy
  exact ww_zret C E dX9_inexact_15 (nz_b p1) (by decide) (by decide) ⟨_, rfl, hy⟩
abbrev X9_negative_w0 (G : xG) (k : xK) (x0 : Nat) (n : Nat) (h : xH) : Prop := WW G k 1 0 0 0 [(0, rf G x0)] [] n h
abbrev X9_negative_w72 (G : xG) (k : xK) (s0 : Int) (n : Nat) (h : xH) : Prop := WW G k 1 0 0 72 [] [.int (iz s0)] n h
abbrev X9_negative_w52 (G : xG) (k : xK)  (n : Nat) (h : xH) : Prop := WW G k 1 0 0 52 [] [] n h
abbrev X9_negative_w48 (G : xG) (k : xK)  (n : Nat) (h : xH) : Prop := WW G k 1 0 0 48 [] [] n h
abbrev X9_negative_w53 (G : xG) (k : xK) (s0 : Int) (n : Nat) (h : xH) : Prop := WW G k 1 0 0 53 [] [.int (iz s0)] n h
theorem S_X9_negative_of {G : xG} {l : Launch} {x0 : Nat} {n : Nat} {h : xH} {Po : Int → xH → Prop} (body : ∀ k : xK, kl k = l → CC G k cX9_negative RX9 1 rm_X9_negative → CQ G k (some .boolean) rm_X9_negative (fun r n1 h1 => ∃ z : Int, r = some (.int (iz z)) ∧ n1 = n ∧ Po z h1) → X9_negative_w0 G k x0 n h) : S_X9_negative G l x0 n h Po := xS_of (by decide +kernel) (Nat.le_of_ble_eq_true rfl) rfl (fun k hl hnm C E => body k hl C E)
set_option maxRecDepth 100000 in
set_option maxHeartbeats 4000000 in
theorem X9_negative_b0 {G : xG} {k : xK} {n0 : Nat} {Po : Int → xH → Prop} (C : CC G k cX9_negative RX9 1 rm_X9_negative) (E : CQ G k (some .boolean) rm_X9_negative (fun r n1 h1 => ∃ z : Int, r = some (.int (iz z)) ∧ n1 = n0 ∧ Po z h1)) (x0 : Nat) (n : Nat) (h : xH) (hn0 : n = n0) (hy : okO n h x0 8 ∧ ((¬ (hG h x0 25) < 0 → okO n h x0 8 ∧ S_X9_isDouble G (kl k) x0 n h (fun z4 h5 => rg z4 ∧ ((z4 = 0 → okO n h5 x0 8 ∧ S_X9_above G (kl k) (hG h5 x0 25) n h5 (fun z9 h10 => okO n h10 z9 7 ∧ rg (hG h10 z9 0) ∧ ((0 ≤ (hG h10 z9 0) → X9_negative_w72 G k 0 n h10) ∧ (¬ 0 ≤ (hG h10 z9 0) → X9_negative_w72 G k 1 n h10)))) ∧ (¬ z4 = 0 → okO n h5 x0 8 ∧ ((hG h5 x0 25) < 0 ∨ ((hG h5 x0 25).toNat < n ∧ (h5 (hG h5 x0 25).toNat).1 = 6)) ∧ 0 ≤ (hG h5 x0 25) ∧ okO n h5 ((hG h5 x0 25).toNat) 6 ∧ rg (hG h5 ((hG h5 x0 25).toNat) 1) ∧ ((¬ (hG h5 ((hG h5 x0 25).toNat) 1) = 0 → X9_negative_w52 G k  n h5) ∧ ((hG h5 ((hG h5 x0 25).toNat) 1) = 0 → okO n h5 x0 8 ∧ S_X9_value G (kl k) x0 n h5 (fun z21 h22 => (((dC .g z21 FP.dconst0) < 0 → X9_negative_w48 G k  n h22) ∧ (¬ (dC .g z21 FP.dconst0) < 0 → okO n h22 x0 8 ∧ S_X9_value G (kl k) x0 n h22 (fun z26 h27 => S_X9_isNegativeZero G (kl k) z26 n h27 (fun z28 h29 => rg z28 ∧ ((z28 = 0 → X9_negative_w52 G k  n h29) ∧ (¬ z28 = 0 → X9_negative_w48 G k  n h29))))))))))))) ∧ ((hG h x0 25) < 0 → ((0 : Int) = 0 ∨ (0 : Int) = 1) ∧ Po (0 : Int) h))) : X9_negative_w0 G k x0 n h := by
  subst hn0
  refine ww_aload_n C 0 0 rfl rfl dX9_negative_0 ?_
  obtain ⟨p1, hy⟩ := hy
  refine gf_X9_365 C dX9_negative_1 p1 ?_
  refine ww_ifnonnull C (tg := 9) dX9_negative_4 (by decide) (fun c2 => ?_) (fun c2 => ?_)
  · have hy := hy.1 c2
    refine ww_aload_n C 0 0 rfl rfl dX9_negative_9 ?_
    obtain ⟨p3, hy⟩ := hy
    refine cl_X9_387 C dX9_negative_10 (Nat.le_of_ble_eq_true rfl) ⟨by decide, by decide⟩ ⟨by decide, by decide⟩ p3 ?_
    refine S_X9_isDouble.mono hy (fun z4 h5 hy => ?_)
    obtain ⟨p6, hy⟩ := hy
    refine ww_if_eq C (tg := 54) dX9_negative_13 (by decide) p6 (fun c7 => ?_) (fun c7 => ?_)
    · have hy := hy.1 c7
      refine ww_aload_n C 0 0 rfl rfl dX9_negative_54 ?_
      obtain ⟨p8, hy⟩ := hy
      refine gf_X9_365 C dX9_negative_55 p8 ?_
      refine cl_X9_207 C dX9_negative_58 (Nat.le_of_ble_eq_true rfl) ⟨by decide, by decide⟩ ⟨by decide, by decide⟩ ?_
      refine S_X9_above.mono hy (fun z9 h10 hy => ?_)
      obtain ⟨p11, hy⟩ := hy
      refine gf_X9_109 C dX9_negative_61 p11 ?_
      obtain ⟨p12, hy⟩ := hy
      refine ww_if_ge C (tg := 71) dX9_negative_64 (by decide) p12 (fun c13 => ?_) (fun c13 => ?_)
      · have hy := hy.1 c13
        refine ww_iconst C (z := 0) dX9_negative_71 rfl ?_
        exact ww_sub [] rfl (by decide) (by decide) hy
      · have hy := hy.2 c13
        refine ww_iconst C (z := 1) dX9_negative_67 rfl ?_
        refine ww_goto C (tg := 72) dX9_negative_68 (by decide) ?_
        exact ww_sub [] rfl (by decide) (by decide) hy
    · have hy := hy.2 c7
      refine ww_aload_n C 0 0 rfl rfl dX9_negative_16 ?_
      obtain ⟨p14, hy⟩ := hy
      refine gf_X9_365 C dX9_negative_17 p14 ?_
      obtain ⟨p15, hy⟩ := hy
      refine ct_X9_201 C dX9_negative_20 p15 ?_
      obtain ⟨p16, hy⟩ := hy
      refine ww_vr p16 ?_
      obtain ⟨p17, hy⟩ := hy
      refine gf_X9_394 C dX9_negative_23 p17 ?_
      obtain ⟨p18, hy⟩ := hy
      refine ww_if_ne C (tg := 52) dX9_negative_26 (by decide) p18 (fun c19 => ?_) (fun c19 => ?_)
      · have hy := hy.1 c19
        exact ww_sub [] rfl (by decide) (by decide) hy
      · have hy := hy.2 c19
        refine ww_aload_n C 0 0 rfl rfl dX9_negative_29 ?_
        obtain ⟨p20, hy⟩ := hy
        refine cl_X9_379 C dX9_negative_30 (Nat.le_of_ble_eq_true rfl) ⟨by decide, by decide⟩ ⟨by decide, by decide⟩ p20 ?_
        refine S_X9_value.mono hy (fun z21 h22 hy => ?_)
        refine ww_dconst0 C dX9_negative_33 ?_
        refine ww_dcmp C dX9_negative_34 ?_
        refine ww_if_lt C (tg := 48) dX9_negative_35 (by decide) (rg_dC _ _ _) (fun c24 => ?_) (fun c24 => ?_)
        · have hy := hy.1 c24
          exact ww_sub [] rfl (by decide) (by decide) hy
        · have hy := hy.2 c24
          refine ww_aload_n C 0 0 rfl rfl dX9_negative_38 ?_
          obtain ⟨p25, hy⟩ := hy
          refine cl_X9_379 C dX9_negative_39 (Nat.le_of_ble_eq_true rfl) ⟨by decide, by decide⟩ ⟨by decide, by decide⟩ p25 ?_
          refine S_X9_value.mono hy (fun z26 h27 hy => ?_)
          refine cl_X9_257 C dX9_negative_42 (Nat.le_of_ble_eq_true rfl) ⟨by decide, by decide⟩ ⟨by decide, by decide⟩ ?_
          refine S_X9_isNegativeZero.mono hy (fun z28 h29 hy => ?_)
          obtain ⟨p30, hy⟩ := hy
          refine ww_if_eq C (tg := 52) dX9_negative_45 (by decide) p30 (fun c31 => ?_) (fun c31 => ?_)
          · have hy := hy.1 c31
            exact ww_sub [] rfl (by decide) (by decide) hy
          · have hy := hy.2 c31
            exact ww_sub [] rfl (by decide) (by decide) hy
  · have hy := hy.2 c2
    refine ww_iconst C (z := 0) dX9_negative_7 rfl ?_
    obtain ⟨p32, hy⟩ := hy
    exact ww_zret C E dX9_negative_8 (nz_b p32) (by decide) (by decide) ⟨_, rfl, rfl, hy⟩
set_option maxRecDepth 100000 in
set_option maxHeartbeats 4000000 in
theorem X9_negative_b72 {G : xG} {k : xK} {n0 : Nat} {Po : Int → xH → Prop} (C : CC G k cX9_negative RX9 1 rm_X9_negative) (E : CQ G k (some .boolean) rm_X9_negative (fun r n1 h1 => ∃ z : Int, r = some (.int (iz z)) ∧ n1 = n0 ∧ Po z h1)) (s0 : Int) (n : Nat) (h : xH) (hn0 : n = n0) (hy : (s0 = 0 ∨ s0 = 1) ∧ Po s0 h) : X9_negative_w72 G k s0 n h := by
  subst hn0
  obtain ⟨p1, hy⟩ := hy
  exact ww_zret C E dX9_negative_72 (nz_b p1) (by decide) (by decide) ⟨_, rfl, rfl, hy⟩
set_option maxRecDepth 100000 in
set_option maxHeartbeats 4000000 in
theorem X9_negative_b52 {G : xG} {k : xK} {n0 : Nat} {Po : Int → xH → Prop} (C : CC G k cX9_negative RX9 1 rm_X9_negative) (E : CQ G k (some .boolean) rm_X9_negative (fun r n1 h1 => ∃ z : Int, r = some (.int (iz z)) ∧ n1 = n0 ∧ Po z h1))  (n : Nat) (h : xH) (hn0 : n = n0) (hy : X9_negative_w53 G k 0 n h) : X9_negative_w52 G k  n h := by
  subst hn0
  refine ww_iconst C (z := 0) dX9_negative_52 rfl ?_
  exact ww_sub [] rfl (by decide) (by decide) hy
set_option maxRecDepth 100000 in
set_option maxHeartbeats 4000000 in
theorem X9_negative_b48 {G : xG} {k : xK} {n0 : Nat} {Po : Int → xH → Prop} (C : CC G k cX9_negative RX9 1 rm_X9_negative) (E : CQ G k (some .boolean) rm_X9_negative (fun r n1 h1 => ∃ z : Int, r = some (.int (iz z)) ∧ n1 = n0 ∧ Po z h1))  (n : Nat) (h : xH) (hn0 : n = n0) (hy : X9_negative_w53 G k 1 n h) : X9_negative_w48 G k  n h := by
  subst hn0
  refine ww_iconst C (z := 1) dX9_negative_48 rfl ?_
  refine ww_goto C (tg := 53) dX9_negative_49 (by decide) ?_
  exact ww_sub [] rfl (by decide) (by decide) hy
set_option maxRecDepth 100000 in
set_option maxHeartbeats 4000000 in
theorem X9_negative_b53 {G : xG} {k : xK} {n0 : Nat} {Po : Int → xH → Prop} (C : CC G k cX9_negative RX9 1 rm_X9_negative) (E : CQ G k (some .boolean) rm_X9_negative (fun r n1 h1 => ∃ z : Int, r = some (.int (iz z)) ∧ n1 = n0 ∧ Po z h1)) (s0 : Int) (n : Nat) (h : xH) (hn0 : n = n0) (hy : (s0 = 0 ∨ s0 = 1) ∧ Po s0 h) : X9_negative_w53 G k s0 n h := by
  subst hn0
  obtain ⟨p1, hy⟩ := hy
  exact ww_zret C E dX9_negative_53 (nz_b p1) (by decide) (by decide) ⟨_, rfl, rfl, hy⟩
abbrev X9_doublings_w0 (G : xG) (k : xK) (x0 : Nat) (n : Nat) (h : xH) : Prop := WW G k 4 0 0 0 [(0, rf G x0)] [] n h
abbrev X9_doublings_w21 (G : xG) (k : xK) (x0 : Nat) (x1 : Int) (x2 : Int) (n : Nat) (h : xH) : Prop := WW G k 4 0 0 21 [(0, rf G x0), (1, .int (iz x1)), (2, .long (lz x2))] [] n h
abbrev X9_doublings_w56 (G : xG) (k : xK) (x1 : Int) (n : Nat) (h : xH) : Prop := WW G k 4 0 0 56 [(1, .int (iz x1))] [] n h
theorem S_X9_doublings_of {G : xG} {l : Launch} {x0 : Nat} {n : Nat} {h : xH} {Po : Int → xH → Prop} (body : ∀ k : xK, kl k = l → CC G k cX9_doublings RX9 4 rm_X9_doublings → CQ G k (some .int) rm_X9_doublings (fun r n1 h1 => ∃ z : Int, r = some (.int (iz z)) ∧ n1 = n ∧ Po z h1) → X9_doublings_w0 G k x0 n h) : S_X9_doublings G l x0 n h Po := xS_of (by decide +kernel) (Nat.le_of_ble_eq_true rfl) rfl (fun k hl hnm C E => body k hl C E)
set_option maxRecDepth 100000 in
set_option maxHeartbeats 4000000 in
theorem X9_doublings_b0 {G : xG} {k : xK} {n0 : Nat} {Po : Int → xH → Prop} (C : CC G k cX9_doublings RX9 4 rm_X9_doublings) (E : CQ G k (some .int) rm_X9_doublings (fun r n1 h1 => ∃ z : Int, r = some (.int (iz z)) ∧ n1 = n0 ∧ Po z h1)) (x0 : Nat) (n : Nat) (h : xH) (hn0 : n = n0) (hy : okO n h x0 8 ∧ S_X9_value G (kl k) x0 n h (fun z2 h3 => ((¬ (dC .l z2 FP.dconst0) = 0 → okO n h3 x0 8 ∧ S_X9_value G (kl k) x0 n h3 (fun z7 h8 => S_X9_significand G (kl k) z7 n h8 (fun z9 h10 => X9_doublings_w21 G k x0 0 z9 n h10))) ∧ ((dC .l z2 FP.dconst0) = 0 → Po (0 : Int) h3)))) : X9_doublings_w0 G k x0 n h := by
  subst hn0
  refine ww_aload_n C 0 0 rfl rfl dX9_doublings_0 ?_
  obtain ⟨p1, hy⟩ := hy
  refine cl_X9_379 C dX9_doublings_1 (Nat.le_of_ble_eq_true rfl) ⟨by decide, by decide⟩ ⟨by decide, by decide⟩ p1 ?_
  refine S_X9_value.mono hy (fun z2 h3 hy => ?_)
  refine ww_dconst0 C dX9_doublings_4 ?_
  refine ww_dcmp C dX9_doublings_5 ?_
  refine ww_if_ne C (tg := 11) dX9_doublings_6 (by decide) (rg_dC _ _ _) (fun c5 => ?_) (fun c5 => ?_)
  · have hy := hy.1 c5
    refine ww_iconst C (z := 0) dX9_doublings_11 rfl ?_
    refine ww_istore_n C 1 rfl (by decide) rfl dX9_doublings_12 ?_
    refine ww_aload_n C 0 1 rfl rfl dX9_doublings_13 ?_
    obtain ⟨p6, hy⟩ := hy
    refine cl_X9_379 C dX9_doublings_14 (Nat.le_of_ble_eq_true rfl) ⟨by decide, by decide⟩ ⟨by decide, by decide⟩ p6 ?_
    refine S_X9_value.mono hy (fun z7 h8 hy => ?_)
    refine cl_X9_227 C dX9_doublings_17 (Nat.le_of_ble_eq_true rfl) ⟨by decide, by decide⟩ ⟨by decide, by decide⟩ ?_
    refine S_X9_significand.mono hy (fun z9 h10 hy => ?_)
    refine ww_lstore_n C 2 rfl (by decide) rfl dX9_doublings_20 ?_
    exact ww_sub [2, 1, 0] rfl (by decide) (by decide) hy
  · have hy := hy.2 c5
    refine ww_iconst C (z := 0) dX9_doublings_9 rfl ?_
    exact ww_iret C E dX9_doublings_10 (by decide) (by decide) ⟨_, rfl, rfl, hy⟩
set_option maxRecDepth 100000 in
set_option maxHeartbeats 4000000 in
theorem X9_doublings_b21 {G : xG} {k : xK} {n0 : Nat} {Po : Int → xH → Prop} (C : CC G k cX9_doublings RX9 4 rm_X9_doublings) (E : CQ G k (some .int) rm_X9_doublings (fun r n1 h1 => ∃ z : Int, r = some (.int (iz z)) ∧ n1 = n0 ∧ Po z h1)) (x0 : Nat) (x1 : Int) (x2 : Int) (n : Nat) (h : xH) (hn0 : n = n0) (hy : (rgL x2 ∧ rgL 4503599627370496) ∧ ((0 ≤ (lC x2 4503599627370496) → X9_doublings_w56 G k x1 n h) ∧ (¬ 0 ≤ (lC x2 4503599627370496) → okO n h x0 8 ∧ S_X9_value G (kl k) x0 n h (fun z5 h6 => S_X9_exponent G (kl k) z5 n h6 (fun z7 h8 => (rg (z7 - x1) ∧ rg (-1074 : Int)) ∧ (((z7 - x1) ≤ (-1074 : Int) → X9_doublings_w56 G k x1 n h8) ∧ (¬ (z7 - x1) ≤ (-1074 : Int) → X9_doublings_w21 G k x0 (x1 + 1) (x2 * 2) n h8))))))) : X9_doublings_w21 G k x0 x1 x2 n h := by
  subst hn0
  refine ww_lload_n C 2 2 rfl rfl dX9_doublings_21 ?_
  refine ww_ldc2 C (z := 4503599627370496) q_607 dX9_doublings_22 ?_
  obtain ⟨p1, hy⟩ := hy
  refine ww_lcmp C dX9_doublings_25 p1.1 p1.2 ?_
  refine ww_if_ge C (tg := 56) dX9_doublings_26 (by decide) (rg_lC _ _) (fun c3 => ?_) (fun c3 => ?_)
  · have hy := hy.1 c3
    exact ww_sub [1] rfl (by decide) (by decide) hy
  · have hy := hy.2 c3
    refine ww_aload_n C 0 0 rfl rfl dX9_doublings_29 ?_
    obtain ⟨p4, hy⟩ := hy
    refine cl_X9_379 C dX9_doublings_30 (Nat.le_of_ble_eq_true rfl) ⟨by decide, by decide⟩ ⟨by decide, by decide⟩ p4 ?_
    refine S_X9_value.mono hy (fun z5 h6 hy => ?_)
    refine cl_X9_231 C dX9_doublings_33 (Nat.le_of_ble_eq_true rfl) ⟨by decide, by decide⟩ ⟨by decide, by decide⟩ ?_
    refine S_X9_exponent.mono hy (fun z7 h8 hy => ?_)
    refine ww_iload_n C 1 1 rfl rfl dX9_doublings_36 ?_
    refine ww_isub C dX9_doublings_37 ?_
    refine ww_sipush C (z := (-1074)) dX9_doublings_38 rfl ?_
    obtain ⟨p9, hy⟩ := hy
    refine ww_icmp_le C (tg := 56) dX9_doublings_41 (by decide) p9.1 p9.2 (fun c10 => ?_) (fun c10 => ?_)
    · have hy := hy.1 c10
      exact ww_sub [1] rfl (by decide) (by decide) hy
    · have hy := hy.2 c10
      refine ww_iinc C 1 1 rfl (by decide) rfl dX9_doublings_44 ?_
      refine ww_lload_n C 2 2 rfl rfl dX9_doublings_47 ?_
      refine ww_ldc2 C (z := 2) q_611 dX9_doublings_48 ?_
      refine ww_lmul C dX9_doublings_51 ?_
      refine ww_lstore_n C 2 rfl (by decide) rfl dX9_doublings_52 ?_
      refine ww_goto C (tg := 21) dX9_doublings_53 (by decide) ?_
      exact ww_sub [2, 1, 0] rfl (by decide) (by decide) hy
set_option maxRecDepth 100000 in
set_option maxHeartbeats 4000000 in
theorem X9_doublings_b56 {G : xG} {k : xK} {n0 : Nat} {Po : Int → xH → Prop} (C : CC G k cX9_doublings RX9 4 rm_X9_doublings) (E : CQ G k (some .int) rm_X9_doublings (fun r n1 h1 => ∃ z : Int, r = some (.int (iz z)) ∧ n1 = n0 ∧ Po z h1)) (x1 : Int) (n : Nat) (h : xH) (hn0 : n = n0) (hy : Po x1 h) : X9_doublings_w56 G k x1 n h := by
  subst hn0
  refine ww_iload_n C 1 0 rfl rfl dX9_doublings_56 ?_
  exact ww_iret C E dX9_doublings_57 (by decide) (by decide) ⟨_, rfl, rfl, hy⟩
abbrev X9_units_w0 (G : xG) (k : xK) (x0 : Nat) (n : Nat) (h : xH) : Prop := WW G k 1 0 0 0 [(0, rf G x0)] [] n h
abbrev X9_units_w37 (G : xG) (k : xK) (s0 : Int) (n : Nat) (h : xH) : Prop := WW G k 1 0 0 37 [] [.long (lz s0)] n h
theorem S_X9_units_of {G : xG} {l : Launch} {x0 : Nat} {n : Nat} {h : xH} {Po : Int → xH → Prop} (body : ∀ k : xK, kl k = l → CC G k cX9_units RX9 1 rm_X9_units → CQ G k (some .long) rm_X9_units (fun r n1 h1 => ∃ z : Int, r = some (.long (lz z)) ∧ n1 = n ∧ Po z h1) → X9_units_w0 G k x0 n h) : S_X9_units G l x0 n h Po := xS_of (by decide +kernel) (Nat.le_of_ble_eq_true rfl) rfl (fun k hl hnm C E => body k hl C E)
set_option maxRecDepth 100000 in
set_option maxHeartbeats 4000000 in
theorem X9_units_b0 {G : xG} {k : xK} {n0 : Nat} {Po : Int → xH → Prop} (C : CC G k cX9_units RX9 1 rm_X9_units) (E : CQ G k (some .long) rm_X9_units (fun r n1 h1 => ∃ z : Int, r = some (.long (lz z)) ∧ n1 = n0 ∧ Po z h1)) (x0 : Nat) (n : Nat) (h : xH) (hn0 : n = n0) (hy : okO n h x0 8 ∧ S_X9_kind G (kl k) x0 n h (fun z2 h3 => (rg z2 ∧ rg (2 : Int)) ∧ ((z2 = (2 : Int) → okO n h3 x0 8 ∧ S_X9_value G (kl k) x0 n h3 (fun z7 h8 => ((¬ (dC .l z7 FP.dconst0) = 0 → okO n h8 x0 8 ∧ S_X9_value G (kl k) x0 n h8 (fun z12 h13 => S_X9_significand G (kl k) z12 n h13 (fun z14 h15 => okO n h15 x0 8 ∧ S_X9_doublings G (kl k) x0 n h15 (fun z17 h18 => X9_units_w37 G k (lSl z14 z17) n h18)))) ∧ ((dC .l z7 FP.dconst0) = 0 → X9_units_w37 G k 0 n h8)))) ∧ (¬ z2 = (2 : Int) → Po (-1 : Int) h3)))) : X9_units_w0 G k x0 n h := by
  subst hn0
  refine ww_aload_n C 0 0 rfl rfl dX9_units_0 ?_
  obtain ⟨p1, hy⟩ := hy
  refine cl_X9_376 C dX9_units_1 (Nat.le_of_ble_eq_true rfl) ⟨by decide, by decide⟩ ⟨by decide, by decide⟩ p1 ?_
  refine S_X9_kind.mono hy (fun z2 h3 hy => ?_)
  refine ww_iconst C (z := 2) dX9_units_4 rfl ?_
  obtain ⟨p4, hy⟩ := hy
  refine ww_icmp_eq C (tg := 12) dX9_units_5 (by decide) p4.1 p4.2 (fun c5 => ?_) (fun c5 => ?_)
  · have hy := hy.1 c5
    refine ww_aload_n C 0 0 rfl rfl dX9_units_12 ?_
    obtain ⟨p6, hy⟩ := hy
    refine cl_X9_379 C dX9_units_13 (Nat.le_of_ble_eq_true rfl) ⟨by decide, by decide⟩ ⟨by decide, by decide⟩ p6 ?_
    refine S_X9_value.mono hy (fun z7 h8 hy => ?_)
    refine ww_dconst0 C dX9_units_16 ?_
    refine ww_dcmp C dX9_units_17 ?_
    refine ww_if_ne C (tg := 25) dX9_units_18 (by decide) (rg_dC _ _ _) (fun c10 => ?_) (fun c10 => ?_)
    · have hy := hy.1 c10
      refine ww_aload_n C 0 0 rfl rfl dX9_units_25 ?_
      obtain ⟨p11, hy⟩ := hy
      refine cl_X9_379 C dX9_units_26 (Nat.le_of_ble_eq_true rfl) ⟨by decide, by decide⟩ ⟨by decide, by decide⟩ p11 ?_
      refine S_X9_value.mono hy (fun z12 h13 hy => ?_)
      refine cl_X9_227 C dX9_units_29 (Nat.le_of_ble_eq_true rfl) ⟨by decide, by decide⟩ ⟨by decide, by decide⟩ ?_
      refine S_X9_significand.mono hy (fun z14 h15 hy => ?_)
      refine ww_aload_n C 0 0 rfl rfl dX9_units_32 ?_
      obtain ⟨p16, hy⟩ := hy
      refine cl_X9_400 C dX9_units_33 (Nat.le_of_ble_eq_true rfl) ⟨by decide, by decide⟩ ⟨by decide, by decide⟩ p16 ?_
      refine S_X9_doublings.mono hy (fun z17 h18 hy => ?_)
      refine ww_lshl C dX9_units_36 ?_
      exact ww_sub [] rfl (by decide) (by decide) hy
    · have hy := hy.2 c10
      refine ww_lconst C (z := 0) dX9_units_21 rfl ?_
      refine ww_goto C (tg := 37) dX9_units_22 (by decide) ?_
      exact ww_sub [] rfl (by decide) (by decide) hy
  · have hy := hy.2 c5
    refine ww_ldc2 C (z := (-1)) q_798 dX9_units_8 ?_
    exact ww_lret C E dX9_units_11 (by decide) (by decide) ⟨_, rfl, rfl, hy⟩
set_option maxRecDepth 100000 in
set_option maxHeartbeats 4000000 in
theorem X9_units_b37 {G : xG} {k : xK} {n0 : Nat} {Po : Int → xH → Prop} (C : CC G k cX9_units RX9 1 rm_X9_units) (E : CQ G k (some .long) rm_X9_units (fun r n1 h1 => ∃ z : Int, r = some (.long (lz z)) ∧ n1 = n0 ∧ Po z h1)) (s0 : Int) (n : Nat) (h : xH) (hn0 : n = n0) (hy : Po s0 h) : X9_units_w37 G k s0 n h := by
  subst hn0
  exact ww_lret C E dX9_units_37 (by decide) (by decide) ⟨_, rfl, rfl, hy⟩
abbrev X9_place_w0 (G : xG) (k : xK) (x0 : Nat) (n : Nat) (h : xH) : Prop := WW G k 1 0 0 0 [(0, rf G x0)] [] n h
abbrev X9_place_w37 (G : xG) (k : xK) (s0 : Int) (n : Nat) (h : xH) : Prop := WW G k 1 0 0 37 [] [.int (iz s0)] n h
theorem S_X9_place_of {G : xG} {l : Launch} {x0 : Nat} {n : Nat} {h : xH} {Po : Int → xH → Prop} (body : ∀ k : xK, kl k = l → CC G k cX9_place RX9 1 rm_X9_place → CQ G k (some .int) rm_X9_place (fun r n1 h1 => ∃ z : Int, r = some (.int (iz z)) ∧ n1 = n ∧ Po z h1) → X9_place_w0 G k x0 n h) : S_X9_place G l x0 n h Po := xS_of (by decide +kernel) (Nat.le_of_ble_eq_true rfl) rfl (fun k hl hnm C E => body k hl C E)
set_option maxRecDepth 100000 in
set_option maxHeartbeats 4000000 in
theorem X9_place_b0 {G : xG} {k : xK} {n0 : Nat} {Po : Int → xH → Prop} (C : CC G k cX9_place RX9 1 rm_X9_place) (E : CQ G k (some .int) rm_X9_place (fun r n1 h1 => ∃ z : Int, r = some (.int (iz z)) ∧ n1 = n0 ∧ Po z h1)) (x0 : Nat) (n : Nat) (h : xH) (hn0 : n = n0) (hy : okO n h x0 8 ∧ S_X9_kind G (kl k) x0 n h (fun z2 h3 => (rg z2 ∧ rg (2 : Int)) ∧ ((z2 = (2 : Int) → okO n h3 x0 8 ∧ S_X9_value G (kl k) x0 n h3 (fun z7 h8 => ((¬ (dC .l z7 FP.dconst0) = 0 → okO n h8 x0 8 ∧ S_X9_value G (kl k) x0 n h8 (fun z12 h13 => S_X9_exponent G (kl k) z12 n h13 (fun z14 h15 => okO n h15 x0 8 ∧ S_X9_doublings G (kl k) x0 n h15 (fun z17 h18 => X9_place_w37 G k (z14 - z17) n h18)))) ∧ ((dC .l z7 FP.dconst0) = 0 → X9_place_w37 G k (-1074) n h8)))) ∧ (¬ z2 = (2 : Int) → Po (0 : Int) h3)))) : X9_place_w0 G k x0 n h := by
  subst hn0
  refine ww_aload_n C 0 0 rfl rfl dX9_place_0 ?_
  obtain ⟨p1, hy⟩ := hy
  refine cl_X9_376 C dX9_place_1 (Nat.le_of_ble_eq_true rfl) ⟨by decide, by decide⟩ ⟨by decide, by decide⟩ p1 ?_
  refine S_X9_kind.mono hy (fun z2 h3 hy => ?_)
  refine ww_iconst C (z := 2) dX9_place_4 rfl ?_
  obtain ⟨p4, hy⟩ := hy
  refine ww_icmp_eq C (tg := 10) dX9_place_5 (by decide) p4.1 p4.2 (fun c5 => ?_) (fun c5 => ?_)
  · have hy := hy.1 c5
    refine ww_aload_n C 0 0 rfl rfl dX9_place_10 ?_
    obtain ⟨p6, hy⟩ := hy
    refine cl_X9_379 C dX9_place_11 (Nat.le_of_ble_eq_true rfl) ⟨by decide, by decide⟩ ⟨by decide, by decide⟩ p6 ?_
    refine S_X9_value.mono hy (fun z7 h8 hy => ?_)
    refine ww_dconst0 C dX9_place_14 ?_
    refine ww_dcmp C dX9_place_15 ?_
    refine ww_if_ne C (tg := 25) dX9_place_16 (by decide) (rg_dC _ _ _) (fun c10 => ?_) (fun c10 => ?_)
    · have hy := hy.1 c10
      refine ww_aload_n C 0 0 rfl rfl dX9_place_25 ?_
      obtain ⟨p11, hy⟩ := hy
      refine cl_X9_379 C dX9_place_26 (Nat.le_of_ble_eq_true rfl) ⟨by decide, by decide⟩ ⟨by decide, by decide⟩ p11 ?_
      refine S_X9_value.mono hy (fun z12 h13 hy => ?_)
      refine cl_X9_231 C dX9_place_29 (Nat.le_of_ble_eq_true rfl) ⟨by decide, by decide⟩ ⟨by decide, by decide⟩ ?_
      refine S_X9_exponent.mono hy (fun z14 h15 hy => ?_)
      refine ww_aload_n C 0 0 rfl rfl dX9_place_32 ?_
      obtain ⟨p16, hy⟩ := hy
      refine cl_X9_400 C dX9_place_33 (Nat.le_of_ble_eq_true rfl) ⟨by decide, by decide⟩ ⟨by decide, by decide⟩ p16 ?_
      refine S_X9_doublings.mono hy (fun z17 h18 hy => ?_)
      refine ww_isub C dX9_place_36 ?_
      exact ww_sub [] rfl (by decide) (by decide) hy
    · have hy := hy.2 c10
      refine ww_sipush C (z := (-1074)) dX9_place_19 rfl ?_
      refine ww_goto C (tg := 37) dX9_place_22 (by decide) ?_
      exact ww_sub [] rfl (by decide) (by decide) hy
  · have hy := hy.2 c5
    refine ww_iconst C (z := 0) dX9_place_8 rfl ?_
    exact ww_iret C E dX9_place_9 (by decide) (by decide) ⟨_, rfl, rfl, hy⟩
set_option maxRecDepth 100000 in
set_option maxHeartbeats 4000000 in
theorem X9_place_b37 {G : xG} {k : xK} {n0 : Nat} {Po : Int → xH → Prop} (C : CC G k cX9_place RX9 1 rm_X9_place) (E : CQ G k (some .int) rm_X9_place (fun r n1 h1 => ∃ z : Int, r = some (.int (iz z)) ∧ n1 = n0 ∧ Po z h1)) (s0 : Int) (n : Nat) (h : xH) (hn0 : n = n0) (hy : Po s0 h) : X9_place_w37 G k s0 n h := by
  subst hn0
  exact ww_iret C E dX9_place_37 (by decide) (by decide) ⟨_, rfl, rfl, hy⟩
abbrev X9_bits_w0 (G : xG) (k : xK) (x0 : Nat) (x1 : Int) (n : Nat) (h : xH) : Prop := WW G k 3 0 0 0 [(0, rf G x0), (1, .int (iz x1))] [] n h
abbrev X9_bits_w31 (G : xG) (k : xK) (x0 : Nat) (s0 : Nat) (n : Nat) (h : xH) : Prop := WW G k 3 2 7 31 [(0, rf G x0)] [rf G s0] n h
theorem S_X9_bits_of {G : xG} {l : Launch} {x0 : Nat} {x1 : Int} {n : Nat} {h : xH} {Po : Int → Nat → xH → Prop} (body : ∀ k : xK, kl k = l → CC G k cX9_bits RX9 3 rm_X9_bits → CQ G k (some .int) rm_X9_bits (fun r n1 h1 => ∃ z : Int, r = some (.int (iz z)) ∧ Po z n1 h1) → X9_bits_w0 G k x0 x1 n h) : S_X9_bits G l x0 x1 n h Po := xS_of (by decide +kernel) (Nat.le_of_ble_eq_true rfl) rfl (fun k hl hnm C E => body k hl C E)
set_option maxRecDepth 100000 in
set_option maxHeartbeats 4000000 in
theorem X9_bits_b0 {G : xG} {k : xK} {n0 : Nat} {Po : Int → Nat → xH → Prop} (C : CC G k cX9_bits RX9 3 rm_X9_bits) (E : CQ G k (some .int) rm_X9_bits (fun r n1 h1 => ∃ z : Int, r = some (.int (iz z)) ∧ Po z n1 h1)) (x0 : Nat) (x1 : Int) (n : Nat) (h : xH) (hy : okO n h x0 8 ∧ S_X9_kind G (kl k) x0 n h (fun z2 h3 => (rg z2 ∧ rg (1 : Int)) ∧ ((z2 = (1 : Int) → rg x1 ∧ ((x1 = 0 → okO n h3 x0 8 ∧ S_X9_above G (kl k) (hG h3 x0 25) n h3 (fun z9 h10 => X9_bits_w31 G k x0 z9 n h10)) ∧ (¬ x1 = 0 → okO n h3 x0 8 ∧ S_X9_below G (kl k) (hG h3 x0 25) n h3 (fun z12 n14 h13 => X9_bits_w31 G k x0 z12 n14 h13)))) ∧ (¬ z2 = (1 : Int) → Po (-1 : Int) n h3)))) : X9_bits_w0 G k x0 x1 n h := by
  refine ww_aload_n C 0 0 rfl rfl dX9_bits_0 ?_
  obtain ⟨p1, hy⟩ := hy
  refine cl_X9_376 C dX9_bits_1 (Nat.le_of_ble_eq_true rfl) ⟨by decide, by decide⟩ ⟨by decide, by decide⟩ p1 ?_
  refine S_X9_kind.mono hy (fun z2 h3 hy => ?_)
  refine ww_iconst C (z := 1) dX9_bits_4 rfl ?_
  obtain ⟨p4, hy⟩ := hy
  refine ww_icmp_eq C (tg := 10) dX9_bits_5 (by decide) p4.1 p4.2 (fun c5 => ?_) (fun c5 => ?_)
  · have hy := hy.1 c5
    refine ww_iload_n C 1 1 rfl rfl dX9_bits_10 ?_
    obtain ⟨p6, hy⟩ := hy
    refine ww_if_eq C (tg := 24) dX9_bits_11 (by decide) p6 (fun c7 => ?_) (fun c7 => ?_)
    · have hy := hy.1 c7
      refine ww_aload_n C 0 0 rfl rfl dX9_bits_24 ?_
      obtain ⟨p8, hy⟩ := hy
      refine gf_X9_365 C dX9_bits_25 p8 ?_
      refine cl_X9_207 C dX9_bits_28 (Nat.le_of_ble_eq_true rfl) ⟨by decide, by decide⟩ ⟨by decide, by decide⟩ ?_
      refine S_X9_above.mono hy (fun z9 h10 hy => ?_)
      exact ww_sub [0] rfl (by decide) (by decide) hy
    · have hy := hy.2 c7
      refine ww_aload_n C 0 0 rfl rfl dX9_bits_14 ?_
      obtain ⟨p11, hy⟩ := hy
      refine gf_X9_365 C dX9_bits_15 p11 ?_
      refine cl_X9_210 C dX9_bits_18 (Nat.le_of_ble_eq_true rfl) ⟨by decide, by decide⟩ ⟨by decide, by decide⟩ ?_
      refine S_X9_below.mono hy (fun z12 n14 h13 hy => ?_)
      refine ww_goto C (tg := 31) dX9_bits_21 (by decide) ?_
      exact ww_sub [0] rfl (by decide) (by decide) hy
  · have hy := hy.2 c5
    refine ww_iconst C (z := (-1)) dX9_bits_8 rfl ?_
    exact ww_iret C E dX9_bits_9 (by decide) (by decide) ⟨_, rfl, hy⟩
set_option maxRecDepth 100000 in
set_option maxHeartbeats 4000000 in
theorem X9_bits_b31 {G : xG} {k : xK} {n0 : Nat} {Po : Int → Nat → xH → Prop} (C : CC G k cX9_bits RX9 3 rm_X9_bits) (E : CQ G k (some .int) rm_X9_bits (fun r n1 h1 => ∃ z : Int, r = some (.int (iz z)) ∧ Po z n1 h1)) (x0 : Nat) (s0 : Nat) (n : Nat) (h : xH) (hy : okO n h s0 7 ∧ 0 ≤ hG h s0 1 ∧ okO n h s0 7 ∧ 0 ≤ hG h s0 1 ∧ (((hG h s0 1).toNat) < n ∧ ((h ((hG h s0 1).toNat)).1 = 100 ∨ (h ((hG h s0 1).toNat)).1 = 101)) ∧ okO n h x0 8 ∧ S_X9_bitsOf G (kl k) x0 ((hG h s0 1).toNat) ((h ((hG h s0 1).toNat)).2.1 : Int) n h (fun z7 h8 => Po z7 n h8)) : X9_bits_w31 G k x0 s0 n h := by
  refine ww_astore_n C 2 rfl (by decide) rfl dX9_bits_31 ?_
  refine ww_aload_n C 0 1 rfl rfl dX9_bits_32 ?_
  refine ww_aload_n C 2 0 rfl rfl dX9_bits_33 ?_
  obtain ⟨p1, hy⟩ := hy
  obtain ⟨p2, hy⟩ := hy
  refine gf_X9_104 C dX9_bits_34 p1 p2 ?_
  refine ww_aload_n C 2 0 rfl rfl dX9_bits_37 ?_
  obtain ⟨p3, hy⟩ := hy
  obtain ⟨p4, hy⟩ := hy
  refine gf_X9_104 C dX9_bits_38 p3 p4 ?_
  obtain ⟨p5, hy⟩ := hy
  refine ww_alen C dX9_bits_41 p5.1 p5.2 ?_
  obtain ⟨p6, hy⟩ := hy
  refine cl_X9_170 C dX9_bits_42 (Nat.le_of_ble_eq_true rfl) ⟨by decide, by decide⟩ ⟨by decide, by decide⟩ p6 ?_
  refine S_X9_bitsOf.mono hy (fun z7 h8 hy => ?_)
  exact ww_iret C E dX9_bits_45 (by decide) (by decide) ⟨_, rfl, hy⟩
abbrev X9_write_w0 (G : xG) (k : xK) (x0 : Nat) (x1 : Int) (n : Nat) (h : xH) : Prop := WW G k 2 0 0 0 [(0, rf G x0), (1, .int (iz x1))] [] n h
abbrev X9_write_w31 (G : xG) (k : xK)  (n : Nat) (h : xH) : Prop := WW G k 2 0 0 31 [] [] n h
abbrev X9_write_w33 (G : xG) (k : xK) (x0 : Nat) (x1 : Int) (n : Nat) (h : xH) : Prop := WW G k 2 0 0 33 [(0, rf G x0), (1, .int (iz x1))] [] n h
abbrev X9_write_w119 (G : xG) (k : xK) (x0 : Nat) (n : Nat) (h : xH) : Prop := WW G k 2 2 7 119 [(0, rf G x0)] [] n h
theorem S_X9_write_of {G : xG} {l : Launch} {x0 : Nat} {x1 : Int} {n : Nat} {h : xH} {Po : Int → Nat → xH → Prop} (body : ∀ k : xK, kl k = l → CC G k cX9_write RX9 2 rm_X9_write → CQ G k (some .int) rm_X9_write (fun r n1 h1 => ∃ z : Int, r = some (.int (iz z)) ∧ Po z n1 h1) → X9_write_w0 G k x0 x1 n h) : S_X9_write G l x0 x1 n h Po := xS_of (by decide +kernel) (Nat.le_of_ble_eq_true rfl) rfl (fun k hl hnm C E => body k hl C E)
set_option maxRecDepth 100000 in
set_option maxHeartbeats 4000000 in
theorem X9_write_b0 {G : xG} {k : xK} {n0 : Nat} {Po : Int → Nat → xH → Prop} (C : CC G k cX9_write RX9 2 rm_X9_write) (E : CQ G k (some .int) rm_X9_write (fun r n1 h1 => ∃ z : Int, r = some (.int (iz z)) ∧ Po z n1 h1)) (x0 : Nat) (x1 : Int) (n : Nat) (h : xH) (hy : okO n h x0 8 ∧ (((hG h x0 25) < 0 → X9_write_w31 G k  n h) ∧ (¬ (hG h x0 25) < 0 → (rg x1 ∧ rg (2 : Int)) ∧ ((x1 < (2 : Int) → X9_write_w31 G k  n h) ∧ (¬ x1 < (2 : Int) → (rg x1 ∧ rg (16 : Int)) ∧ (((16 : Int) < x1 → X9_write_w31 G k  n h) ∧ (¬ (16 : Int) < x1 → okO n h x0 8 ∧ S_X9_isDouble G (kl k) x0 n h (fun z8 h9 => rg z8 ∧ ((z8 = 0 → X9_write_w33 G k x0 x1 n h9) ∧ (¬ z8 = 0 → (rg x1 ∧ rg (10 : Int)) ∧ ((x1 = (10 : Int) → X9_write_w33 G k x0 x1 n h9) ∧ (¬ x1 = (10 : Int) → X9_write_w31 G k  n h9)))))))))))) : X9_write_w0 G k x0 x1 n h := by
  refine ww_aload_n C 0 0 rfl rfl dX9_write_0 ?_
  obtain ⟨p1, hy⟩ := hy
  refine gf_X9_365 C dX9_write_1 p1 ?_
  refine ww_ifnull C (tg := 31) dX9_write_4 (by decide) (fun c2 => ?_) (fun c2 => ?_)
  · have hy := hy.1 c2
    exact ww_sub [] rfl (by decide) (by decide) hy
  · have hy := hy.2 c2
    refine ww_iload_n C 1 1 rfl rfl dX9_write_7 ?_
    refine ww_iconst C (z := 2) dX9_write_8 rfl ?_
    obtain ⟨p3, hy⟩ := hy
    refine ww_icmp_lt C (tg := 31) dX9_write_9 (by decide) p3.1 p3.2 (fun c4 => ?_) (fun c4 => ?_)
    · have hy := hy.1 c4
      exact ww_sub [] rfl (by decide) (by decide) hy
    · have hy := hy.2 c4
      refine ww_iload_n C 1 1 rfl rfl dX9_write_12 ?_
      refine ww_bipush C (z := 16) dX9_write_13 rfl ?_
      obtain ⟨p5, hy⟩ := hy
      refine ww_icmp_gt C (tg := 31) dX9_write_15 (by decide) p5.1 p5.2 (fun c6 => ?_) (fun c6 => ?_)
      · have hy := hy.1 c6
        exact ww_sub [] rfl (by decide) (by decide) hy
      · have hy := hy.2 c6
        refine ww_aload_n C 0 0 rfl rfl dX9_write_18 ?_
        obtain ⟨p7, hy⟩ := hy
        refine cl_X9_387 C dX9_write_19 (Nat.le_of_ble_eq_true rfl) ⟨by decide, by decide⟩ ⟨by decide, by decide⟩ p7 ?_
        refine S_X9_isDouble.mono hy (fun z8 h9 hy => ?_)
        obtain ⟨p10, hy⟩ := hy
        refine ww_if_eq C (tg := 33) dX9_write_22 (by decide) p10 (fun c11 => ?_) (fun c11 => ?_)
        · have hy := hy.1 c11
          exact ww_sub [0, 1] rfl (by decide) (by decide) hy
        · have hy := hy.2 c11
          refine ww_iload_n C 1 1 rfl rfl dX9_write_25 ?_
          refine ww_bipush C (z := 10) dX9_write_26 rfl ?_
          obtain ⟨p12, hy⟩ := hy
          refine ww_icmp_eq C (tg := 33) dX9_write_28 (by decide) p12.1 p12.2 (fun c13 => ?_) (fun c13 => ?_)
          · have hy := hy.1 c13
            exact ww_sub [0, 1] rfl (by decide) (by decide) hy
          · have hy := hy.2 c13
            exact ww_sub [] rfl (by decide) (by decide) hy
set_option maxRecDepth 100000 in
set_option maxHeartbeats 4000000 in
theorem X9_write_b31 {G : xG} {k : xK} {n0 : Nat} {Po : Int → Nat → xH → Prop} (C : CC G k cX9_write RX9 2 rm_X9_write) (E : CQ G k (some .int) rm_X9_write (fun r n1 h1 => ∃ z : Int, r = some (.int (iz z)) ∧ Po z n1 h1))  (n : Nat) (h : xH) (hy : Po (-1 : Int) n h) : X9_write_w31 G k  n h := by
  refine ww_iconst C (z := (-1)) dX9_write_31 rfl ?_
  exact ww_iret C E dX9_write_32 (by decide) (by decide) ⟨_, rfl, hy⟩
set_option maxRecDepth 100000 in
set_option maxHeartbeats 4000000 in
theorem X9_write_b33 {G : xG} {k : xK} {n0 : Nat} {Po : Int → Nat → xH → Prop} (C : CC G k cX9_write RX9 2 rm_X9_write) (E : CQ G k (some .int) rm_X9_write (fun r n1 h1 => ∃ z : Int, r = some (.int (iz z)) ∧ Po z n1 h1)) (x0 : Nat) (x1 : Int) (n : Nat) (h : xH) (hy : okO n h x0 8 ∧ (∀ h2 : xH, h2 = hS h x0 21 0 → okO n h2 x0 8 ∧ S_X9_isDouble G (kl k) x0 n h2 (fun z4 h5 => rg z4 ∧ ((¬ z4 = 0 → okO n h5 x0 8 ∧ ((hG h5 x0 25) < 0 ∨ ((hG h5 x0 25).toNat < n ∧ (h5 (hG h5 x0 25).toNat).1 = 6)) ∧ 0 ≤ (hG h5 x0 25) ∧ okO n h5 ((hG h5 x0 25).toNat) 6 ∧ rg (hG h5 ((hG h5 x0 25).toNat) 1) ∧ (((hG h5 ((hG h5 x0 25).toNat) 1) = 0 → okO n h5 x0 8 ∧ S_X9_value G (kl k) x0 n h5 (fun z15 h16 => okO n h16 x0 8 ∧ S_X9_sayReal G (kl k) x0 z15 n h16 (fun n19 h18 => X9_write_w119 G k x0 n19 h18))) ∧ (¬ (hG h5 ((hG h5 x0 25).toNat) 1) = 0 → okO n h5 x0 8 ∧ S_X9_sayWord G (kl k) x0 3 n h5 (fun h21 => X9_write_w119 G k x0 n h21)))) ∧ (z4 = 0 → okO n h5 x0 8 ∧ S_X9_above G (kl k) (hG h5 x0 25) n h5 (fun z23 h24 => okO n h24 x0 8 ∧ S_X9_sayWhole G (kl k) x0 z23 x1 n h24 (fun h26 => okO n h26 x0 8 ∧ ((hG h26 x0 25) < 0 ∨ ((hG h26 x0 25).toNat < n ∧ ((h26 (hG h26 x0 25).toNat).1 = 5 ∨ (h26 (hG h26 x0 25).toNat).1 = 6 ∨ (h26 (hG h26 x0 25).toNat).1 = 7))) ∧ rg (xI h26 5 (hG h26 x0 25)) ∧ (((xI h26 5 (hG h26 x0 25)) = 0 → X9_write_w119 G k x0 n h26) ∧ (¬ (xI h26 5 (hG h26 x0 25)) = 0 → okO n h26 x0 8 ∧ S_X9_say G (kl k) x0 47 n h26 (fun h32 => okO n h32 x0 8 ∧ S_X9_below G (kl k) (hG h32 x0 25) n h32 (fun z34 n36 h35 => okO n36 h35 x0 8 ∧ S_X9_sayWhole G (kl k) x0 z34 x1 n36 h35 (fun h38 => X9_write_w119 G k x0 n36 h38)))))))))))) : X9_write_w33 G k x0 x1 n h := by
  refine ww_aload_n C 0 0 rfl rfl dX9_write_33 ?_
  refine ww_iconst C (z := 0) dX9_write_34 rfl ?_
  obtain ⟨p1, hy⟩ := hy
  have hy := hy _ rfl
  refine pf_X9_82I C dX9_write_35 p1 ?_
  refine ww_aload_n C 0 0 rfl rfl dX9_write_38 ?_
  obtain ⟨p3, hy⟩ := hy
  refine cl_X9_387 C dX9_write_39 (Nat.le_of_ble_eq_true rfl) ⟨by decide, by decide⟩ ⟨by decide, by decide⟩ p3 ?_
  refine S_X9_isDouble.mono hy (fun z4 h5 hy => ?_)
  obtain ⟨p6, hy⟩ := hy
  refine ww_if_ne C (tg := 88) dX9_write_42 (by decide) p6 (fun c7 => ?_) (fun c7 => ?_)
  · have hy := hy.1 c7
    refine ww_aload_n C 0 0 rfl rfl dX9_write_88 ?_
    obtain ⟨p8, hy⟩ := hy
    refine gf_X9_365 C dX9_write_89 p8 ?_
    obtain ⟨p9, hy⟩ := hy
    refine ct_X9_201 C dX9_write_92 p9 ?_
    obtain ⟨p10, hy⟩ := hy
    refine ww_vr p10 ?_
    obtain ⟨p11, hy⟩ := hy
    refine gf_X9_394 C dX9_write_95 p11 ?_
    obtain ⟨p12, hy⟩ := hy
    refine ww_if_eq C (tg := 111) dX9_write_98 (by decide) p12 (fun c13 => ?_) (fun c13 => ?_)
    · have hy := hy.1 c13
      refine ww_aload_n C 0 0 rfl rfl dX9_write_111 ?_
      refine ww_aload_n C 0 0 rfl rfl dX9_write_112 ?_
      obtain ⟨p14, hy⟩ := hy
      refine cl_X9_379 C dX9_write_113 (Nat.le_of_ble_eq_true rfl) ⟨by decide, by decide⟩ ⟨by decide, by decide⟩ p14 ?_
      refine S_X9_value.mono hy (fun z15 h16 hy => ?_)
      obtain ⟨p17, hy⟩ := hy
      refine cl_X9_409 C dX9_write_116 (Nat.le_of_ble_eq_true rfl) ⟨by decide, by decide⟩ ⟨by decide, by decide⟩ p17 ?_
      refine S_X9_sayReal.mono hy (fun n19 h18 hy => ?_)
      exact ww_sub [0] rfl (by decide) (by decide) hy
    · have hy := hy.2 c13
      refine ww_aload_n C 0 0 rfl rfl dX9_write_101 ?_
      refine ww_ldcSw C (i0 := 407) (j := 3) (tx := "+nan.0") (by decide) dX9_write_102 ?_
      obtain ⟨p20, hy⟩ := hy
      refine cl_X9_253 C dX9_write_105 (Nat.le_of_ble_eq_true rfl) ⟨by decide, by decide⟩ ⟨by decide, by decide⟩ p20 ?_
      refine S_X9_sayWord.mono hy (fun h21 hy => ?_)
      refine ww_goto C (tg := 119) dX9_write_108 (by decide) ?_
      exact ww_sub [0] rfl (by decide) (by decide) hy
  · have hy := hy.2 c7
    refine ww_aload_n C 0 0 rfl rfl dX9_write_45 ?_
    refine ww_aload_n C 0 0 rfl rfl dX9_write_46 ?_
    obtain ⟨p22, hy⟩ := hy
    refine gf_X9_365 C dX9_write_47 p22 ?_
    refine cl_X9_207 C dX9_write_50 (Nat.le_of_ble_eq_true rfl) ⟨by decide, by decide⟩ ⟨by decide, by decide⟩ ?_
    refine S_X9_above.mono hy (fun z23 h24 hy => ?_)
    refine ww_iload_n C 1 1 rfl rfl dX9_write_53 ?_
    obtain ⟨p25, hy⟩ := hy
    refine cl_X9_403 C dX9_write_54 (Nat.le_of_ble_eq_true rfl) ⟨by decide, by decide⟩ ⟨by decide, by decide⟩ p25 ?_
    refine S_X9_sayWhole.mono hy (fun h26 hy => ?_)
    refine ww_aload_n C 0 0 rfl rfl dX9_write_57 ?_
    obtain ⟨p27, hy⟩ := hy
    refine gf_X9_365 C dX9_write_58 p27 ?_
    obtain ⟨p28, hy⟩ := hy
    refine is_X9_157 C dX9_write_61 p28 ?_
    obtain ⟨p29, hy⟩ := hy
    refine ww_if_eq C (tg := 119) dX9_write_64 (by decide) p29 (fun c30 => ?_) (fun c30 => ?_)
    · have hy := hy.1 c30
      exact ww_sub [0] rfl (by decide) (by decide) hy
    · have hy := hy.2 c30
      refine ww_aload_n C 0 0 rfl rfl dX9_write_67 ?_
      refine ww_bipush C (z := 47) dX9_write_68 rfl ?_
      obtain ⟨p31, hy⟩ := hy
      refine cl_X9_96 C dX9_write_70 (Nat.le_of_ble_eq_true rfl) ⟨by decide, by decide⟩ ⟨by decide, by decide⟩ p31 ?_
      refine S_X9_say.mono hy (fun h32 hy => ?_)
      refine ww_aload_n C 0 0 rfl rfl dX9_write_73 ?_
      refine ww_aload_n C 0 0 rfl rfl dX9_write_74 ?_
      obtain ⟨p33, hy⟩ := hy
      refine gf_X9_365 C dX9_write_75 p33 ?_
      refine cl_X9_210 C dX9_write_78 (Nat.le_of_ble_eq_true rfl) ⟨by decide, by decide⟩ ⟨by decide, by decide⟩ ?_
      refine S_X9_below.mono hy (fun z34 n36 h35 hy => ?_)
      refine ww_iload_n C 1 1 rfl rfl dX9_write_81 ?_
      obtain ⟨p37, hy⟩ := hy
      refine cl_X9_403 C dX9_write_82 (Nat.le_of_ble_eq_true rfl) ⟨by decide, by decide⟩ ⟨by decide, by decide⟩ p37 ?_
      refine S_X9_sayWhole.mono hy (fun h38 hy => ?_)
      refine ww_goto C (tg := 119) dX9_write_85 (by decide) ?_
      exact ww_sub [0] rfl (by decide) (by decide) hy
set_option maxRecDepth 100000 in
set_option maxHeartbeats 4000000 in
theorem X9_write_b119 {G : xG} {k : xK} {n0 : Nat} {Po : Int → Nat → xH → Prop} (C : CC G k cX9_write RX9 2 rm_X9_write) (E : CQ G k (some .int) rm_X9_write (fun r n1 h1 => ∃ z : Int, r = some (.int (iz z)) ∧ Po z n1 h1)) (x0 : Nat) (n : Nat) (h : xH) (hy : okO n h x0 8 ∧ Po (hG h x0 21) n h) : X9_write_w119 G k x0 n h := by
  refine ww_aload_n C 0 0 rfl rfl dX9_write_119 ?_
  obtain ⟨p1, hy⟩ := hy
  refine gf_X9_82 C dX9_write_120 p1 ?_
  exact ww_iret C E dX9_write_123 (by decide) (by decide) ⟨_, rfl, hy⟩
abbrev X9_out_w0 (G : xG) (k : xK) (x0 : Nat) (x1 : Int) (n : Nat) (h : xH) : Prop := WW G k 2 0 0 0 [(0, rf G x0), (1, .int (iz x1))] [] n h
abbrev X9_out_w12 (G : xG) (k : xK)  (n : Nat) (h : xH) : Prop := WW G k 2 0 0 12 [] [] n h
abbrev X9_out_w22 (G : xG) (k : xK) (s0 : Int) (n : Nat) (h : xH) : Prop := WW G k 2 0 0 22 [] [.int (iz s0)] n h
theorem S_X9_out_of {G : xG} {l : Launch} {x0 : Nat} {x1 : Int} {n : Nat} {h : xH} {Po : Int → xH → Prop} (body : ∀ k : xK, kl k = l → CC G k cX9_out RX9 2 rm_X9_out → CQ G k (some .int) rm_X9_out (fun r n1 h1 => ∃ z : Int, r = some (.int (iz z)) ∧ n1 = n ∧ Po z h1) → X9_out_w0 G k x0 x1 n h) : S_X9_out G l x0 x1 n h Po := xS_of (by decide +kernel) (Nat.le_of_ble_eq_true rfl) rfl (fun k hl hnm C E => body k hl C E)
set_option maxRecDepth 100000 in
set_option maxHeartbeats 4000000 in
theorem X9_out_b0 {G : xG} {k : xK} {n0 : Nat} {Po : Int → xH → Prop} (C : CC G k cX9_out RX9 2 rm_X9_out) (E : CQ G k (some .int) rm_X9_out (fun r n1 h1 => ∃ z : Int, r = some (.int (iz z)) ∧ n1 = n0 ∧ Po z h1)) (x0 : Nat) (x1 : Int) (n : Nat) (h : xH) (hn0 : n = n0) (hy : rg x1 ∧ ((x1 < 0 → X9_out_w12 G k  n h) ∧ (¬ x1 < 0 → okO n h x0 8 ∧ (rg x1 ∧ rg (hG h x0 21)) ∧ ((x1 < (hG h x0 21) → okO n h x0 8 ∧ 0 ≤ hG h x0 20 ∧ okA n h ((hG h x0 20).toNat) 100 x1 ∧ X9_out_w22 G k (hG h ((hG h x0 20).toNat) (x1.toNat)) n h) ∧ (¬ x1 < (hG h x0 21) → X9_out_w12 G k  n h))))) : X9_out_w0 G k x0 x1 n h := by
  subst hn0
  refine ww_iload_n C 1 1 rfl rfl dX9_out_0 ?_
  obtain ⟨p1, hy⟩ := hy
  refine ww_if_lt C (tg := 12) dX9_out_1 (by decide) p1 (fun c2 => ?_) (fun c2 => ?_)
  · have hy := hy.1 c2
    exact ww_sub [] rfl (by decide) (by decide) hy
  · have hy := hy.2 c2
    refine ww_iload_n C 1 1 rfl rfl dX9_out_4 ?_
    refine ww_aload_n C 0 0 rfl rfl dX9_out_5 ?_
    obtain ⟨p3, hy⟩ := hy
    refine gf_X9_82 C dX9_out_6 p3 ?_
    obtain ⟨p4, hy⟩ := hy
    refine ww_icmp_lt C (tg := 16) dX9_out_9 (by decide) p4.1 p4.2 (fun c5 => ?_) (fun c5 => ?_)
    · have hy := hy.1 c5
      refine ww_aload_n C 0 0 rfl rfl dX9_out_16 ?_
      obtain ⟨p6, hy⟩ := hy
      obtain ⟨p7, hy⟩ := hy
      refine gf_X9_79 C dX9_out_17 p6 p7 ?_
      refine ww_iload_n C 1 1 rfl rfl dX9_out_20 ?_
      obtain ⟨p8, hy⟩ := hy
      refine ww_iald C dX9_out_21 p8 ?_
      exact ww_sub [] rfl (by decide) (by decide) hy
    · have hy := hy.2 c5
      exact ww_sub [] rfl (by decide) (by decide) hy
set_option maxRecDepth 100000 in
set_option maxHeartbeats 4000000 in
theorem X9_out_b12 {G : xG} {k : xK} {n0 : Nat} {Po : Int → xH → Prop} (C : CC G k cX9_out RX9 2 rm_X9_out) (E : CQ G k (some .int) rm_X9_out (fun r n1 h1 => ∃ z : Int, r = some (.int (iz z)) ∧ n1 = n0 ∧ Po z h1))  (n : Nat) (h : xH) (hn0 : n = n0) (hy : X9_out_w22 G k (-1) n h) : X9_out_w12 G k  n h := by
  subst hn0
  refine ww_iconst C (z := (-1)) dX9_out_12 rfl ?_
  refine ww_goto C (tg := 22) dX9_out_13 (by decide) ?_
  exact ww_sub [] rfl (by decide) (by decide) hy
set_option maxRecDepth 100000 in
set_option maxHeartbeats 4000000 in
theorem X9_out_b22 {G : xG} {k : xK} {n0 : Nat} {Po : Int → xH → Prop} (C : CC G k cX9_out RX9 2 rm_X9_out) (E : CQ G k (some .int) rm_X9_out (fun r n1 h1 => ∃ z : Int, r = some (.int (iz z)) ∧ n1 = n0 ∧ Po z h1)) (s0 : Int) (n : Nat) (h : xH) (hn0 : n = n0) (hy : Po s0 h) : X9_out_w22 G k s0 n h := by
  subst hn0
  exact ww_iret C E dX9_out_22 (by decide) (by decide) ⟨_, rfl, rfl, hy⟩
abbrev X9_back_w0 (G : xG) (k : xK) (x0 : Nat) (n : Nat) (h : xH) : Prop := WW G k 2 0 0 0 [(0, rf G x0)] [] n h
abbrev X9_back_w22 (G : xG) (k : xK) (x0 : Nat) (x1 : Int) (n : Nat) (h : xH) : Prop := WW G k 2 0 0 22 [(0, rf G x0), (1, .int (iz x1))] [] n h
theorem S_X9_back_of {G : xG} {l : Launch} {x0 : Nat} {n : Nat} {h : xH} {Po : Int → xH → Prop} (body : ∀ k : xK, kl k = l → CC G k cX9_back RX9 2 rm_X9_back → CQ G k (some .boolean) rm_X9_back (fun r n1 h1 => ∃ z : Int, r = some (.int (iz z)) ∧ n1 = n ∧ Po z h1) → X9_back_w0 G k x0 n h) : S_X9_back G l x0 n h Po := xS_of (by decide +kernel) (Nat.le_of_ble_eq_true rfl) rfl (fun k hl hnm C E => body k hl C E)
set_option maxRecDepth 100000 in
set_option maxHeartbeats 4000000 in
theorem X9_back_b0 {G : xG} {k : xK} {n0 : Nat} {Po : Int → xH → Prop} (C : CC G k cX9_back RX9 2 rm_X9_back) (E : CQ G k (some .boolean) rm_X9_back (fun r n1 h1 => ∃ z : Int, r = some (.int (iz z)) ∧ n1 = n0 ∧ Po z h1)) (x0 : Nat) (n : Nat) (h : xH) (hn0 : n = n0) (hy : okO n h x0 8 ∧ (rg (hG h x0 21) ∧ rg (400 : Int)) ∧ (((hG h x0 21) ≤ (400 : Int) → okO n h x0 8 ∧ okO n h x0 8 ∧ (∀ h6 : xH, h6 = hS h x0 24 (hG h x0 21) → X9_back_w22 G k x0 0 n h6)) ∧ (¬ (hG h x0 21) ≤ (400 : Int) → ((0 : Int) = 0 ∨ (0 : Int) = 1) ∧ Po (0 : Int) h))) : X9_back_w0 G k x0 n h := by
  subst hn0
  refine ww_aload_n C 0 0 rfl rfl dX9_back_0 ?_
  obtain ⟨p1, hy⟩ := hy
  refine gf_X9_82 C dX9_back_1 p1 ?_
  refine ww_sipush C (z := 400) dX9_back_4 rfl ?_
  obtain ⟨p2, hy⟩ := hy
  refine ww_icmp_le C (tg := 12) dX9_back_7 (by decide) p2.1 p2.2 (fun c3 => ?_) (fun c3 => ?_)
  · have hy := hy.1 c3
    refine ww_aload_n C 0 0 rfl rfl dX9_back_12 ?_
    refine ww_aload_n C 0 0 rfl rfl dX9_back_13 ?_
    obtain ⟨p4, hy⟩ := hy
    refine gf_X9_82 C dX9_back_14 p4 ?_
    obtain ⟨p5, hy⟩ := hy
    have hy := hy _ rfl
    refine pf_X9_359I C dX9_back_17 p5 ?_
    refine ww_iconst C (z := 0) dX9_back_20 rfl ?_
    refine ww_istore_n C 1 rfl (by decide) rfl dX9_back_21 ?_
    exact ww_sub [1, 0] rfl (by decide) (by decide) hy
  · have hy := hy.2 c3
    refine ww_iconst C (z := 0) dX9_back_10 rfl ?_
    obtain ⟨p7, hy⟩ := hy
    exact ww_zret C E dX9_back_11 (nz_b p7) (by decide) (by decide) ⟨_, rfl, rfl, hy⟩
set_option maxRecDepth 100000 in
set_option maxHeartbeats 4000000 in
theorem X9_back_b22 {G : xG} {k : xK} {n0 : Nat} {Po : Int → xH → Prop} (C : CC G k cX9_back RX9 2 rm_X9_back) (E : CQ G k (some .boolean) rm_X9_back (fun r n1 h1 => ∃ z : Int, r = some (.int (iz z)) ∧ n1 = n0 ∧ Po z h1)) (x0 : Nat) (x1 : Int) (n : Nat) (h : xH) (hn0 : n = n0) (hy : okO n h x0 8 ∧ (rg x1 ∧ rg (hG h x0 24)) ∧ (((hG h x0 24) ≤ x1 → ((1 : Int) = 0 ∨ (1 : Int) = 1) ∧ Po (1 : Int) h) ∧ (¬ (hG h x0 24) ≤ x1 → okO n h x0 8 ∧ 0 ≤ hG h x0 23 ∧ okO n h x0 8 ∧ 0 ≤ hG h x0 20 ∧ okA n h ((hG h x0 20).toNat) 100 x1 ∧ okA n h ((hG h x0 23).toNat) 100 x1 ∧ (∀ h11 : xH, h11 = hS h ((hG h x0 23).toNat) (x1.toNat) (hG h ((hG h x0 20).toNat) (x1.toNat)) → X9_back_w22 G k x0 (x1 + 1) n h11)))) : X9_back_w22 G k x0 x1 n h := by
  subst hn0
  refine ww_iload_n C 1 1 rfl rfl dX9_back_22 ?_
  refine ww_aload_n C 0 0 rfl rfl dX9_back_23 ?_
  obtain ⟨p1, hy⟩ := hy
  refine gf_X9_359 C dX9_back_24 p1 ?_
  obtain ⟨p2, hy⟩ := hy
  refine ww_icmp_ge C (tg := 48) dX9_back_27 (by decide) p2.1 p2.2 (fun c3 => ?_) (fun c3 => ?_)
  · have hy := hy.1 c3
    refine ww_iconst C (z := 1) dX9_back_48 rfl ?_
    obtain ⟨p4, hy⟩ := hy
    exact ww_zret C E dX9_back_49 (nz_b p4) (by decide) (by decide) ⟨_, rfl, rfl, hy⟩
  · have hy := hy.2 c3
    refine ww_aload_n C 0 0 rfl rfl dX9_back_30 ?_
    obtain ⟨p5, hy⟩ := hy
    obtain ⟨p6, hy⟩ := hy
    refine gf_X9_356 C dX9_back_31 p5 p6 ?_
    refine ww_iload_n C 1 1 rfl rfl dX9_back_34 ?_
    refine ww_aload_n C 0 0 rfl rfl dX9_back_35 ?_
    obtain ⟨p7, hy⟩ := hy
    obtain ⟨p8, hy⟩ := hy
    refine gf_X9_79 C dX9_back_36 p7 p8 ?_
    refine ww_iload_n C 1 1 rfl rfl dX9_back_39 ?_
    obtain ⟨p9, hy⟩ := hy
    refine ww_iald C dX9_back_40 p9 ?_
    obtain ⟨p10, hy⟩ := hy
    have hy := hy _ rfl
    refine ww_iast C dX9_back_41 p10 ?_
    refine ww_iinc C 1 1 rfl (by decide) rfl dX9_back_42 ?_
    refine ww_goto C (tg := 22) dX9_back_45 (by decide) ?_
    exact ww_sub [1, 0] rfl (by decide) (by decide) hy
