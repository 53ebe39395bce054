abbrev X2_init_w0 (G : xG) (k : xK) (x0 : Nat) (n : Nat) (h : xH) : Prop := WW G k 1 0 0 0 [(0, rf G x0)] [] n h
theorem S_X2_init_of {G : xG} {l : Launch} {x0 : Nat} {n : Nat} {h : xH} {Po : Nat → xH → Prop} (body : ∀ k : xK, kl k = l → (kt k).name = "<init>" → CC G k cX2_init RX2 1 rm_X2_init → CQ G k none rm_X2_init (fun r n1 h1 => r = none ∧ Po n1 h1) → X2_init_w0 G k x0 n h) : S_X2_init G l x0 n h Po := xS_of (by decide +kernel) (Nat.le_of_ble_eq_true rfl) rfl (fun k hl hnm C E => body k hl hnm C E)
set_option maxRecDepth 100000 in
set_option maxHeartbeats 4000000 in
theorem X2_init_b0 {G : xG} {k : xK} {n0 : Nat} {Po : Nat → xH → Prop} (C : CC G k cX2_init RX2 1 rm_X2_init) (E : CQ G k none rm_X2_init (fun r n1 h1 => r = none ∧ Po n1 h1)) (hin : (kt k).name = "<init>") (x0 : Nat) (n : Nat) (h : xH) (hy : (∀ h1 : xH, h1 = hN h n (0, 0, xZ 0) → S_X0_init G (kl k) n (n + 1) h1 (fun n3 h2 => okO n3 h2 x0 2 ∧ (∀ h5 : xH, h5 = hS h2 x0 0 ((n : Nat) : Int) → okO n3 h5 x0 2 ∧ (∀ h7 : xH, h7 = hS h5 x0 1 0 → okO n3 h7 x0 2 ∧ (∀ h9 : xH, h9 = hS h7 x0 2 0 → okO n3 h9 x0 2 ∧ (∀ h11 : xH, h11 = hS h9 x0 3 0 → okO n3 h11 x0 2 ∧ ((0 : Int) = 0 ∨ (0 : Int) = 1) ∧ (∀ h14 : xH, h14 = hS h11 x0 4 0 → okO n3 h14 x0 2 ∧ ((0 : Int) = 0 ∨ (0 : Int) = 1) ∧ (∀ h17 : xH, h17 = hS h14 x0 5 0 → okO n3 h17 x0 2 ∧ (∀ h19 : xH, h19 = hS h17 x0 6 0 → okO n3 h19 x0 2 ∧ (∀ h21 : xH, h21 = hS h19 x0 7 0 → Po n3 h21))))))))))) : X2_init_w0 G k x0 n h := by
  refine ww_aload_n C 0 0 rfl rfl dX2_init_0 ?_
  refine ww_objInit C q_137 q_52 q_53 dX2_init_1 (by decide) (by decide) ?_
  refine ww_aload_n C 0 0 rfl rfl dX2_init_4 ?_
  refine nw_X2_9 C dX2_init_5 (by decide) (by decide) ?_
  have hy := hy _ rfl
  refine ww_dup C rfl dX2_init_8 ?_
  refine cl_X2_11 C dX2_init_9 (Nat.le_of_ble_eq_true rfl) ⟨by decide, by decide⟩ ⟨by decide, by decide⟩ ?_
  refine S_X0_init.mono hy (fun n3 h2 hy => ?_)
  obtain ⟨p4, hy⟩ := hy
  have hy := hy _ rfl
  refine pf_X2_12R C hin dX2_init_12 p4 ?_
  refine ww_aload_n C 0 0 rfl rfl dX2_init_15 ?_
  refine ww_iconst C (z := 0) dX2_init_16 rfl ?_
  obtain ⟨p6, hy⟩ := hy
  have hy := hy _ rfl
  refine pf_X2_18I C dX2_init_17 p6 ?_
  refine ww_aload_n C 0 0 rfl rfl dX2_init_20 ?_
  refine ww_iconst C (z := 0) dX2_init_21 rfl ?_
  obtain ⟨p8, hy⟩ := hy
  have hy := hy _ rfl
  refine pf_X2_22I C dX2_init_22 p8 ?_
  refine ww_aload_n C 0 0 rfl rfl dX2_init_25 ?_
  refine ww_iconst C (z := 0) dX2_init_26 rfl ?_
  obtain ⟨p10, hy⟩ := hy
  have hy := hy _ rfl
  refine pf_X2_25I C dX2_init_27 p10 ?_
  refine ww_aload_n C 0 0 rfl rfl dX2_init_30 ?_
  refine ww_iconst C (z := 0) dX2_init_31 rfl ?_
  obtain ⟨p12, hy⟩ := hy
  obtain ⟨p13, hy⟩ := hy
  have hy := hy _ rfl
  refine pf_X2_28I C dX2_init_32 p12 p13 ?_
  refine ww_aload_n C 0 0 rfl rfl dX2_init_35 ?_
  refine ww_iconst C (z := 0) dX2_init_36 rfl ?_
  obtain ⟨p15, hy⟩ := hy
  obtain ⟨p16, hy⟩ := hy
  have hy := hy _ rfl
  refine pf_X2_32I C dX2_init_37 p15 p16 ?_
  refine ww_aload_n C 0 0 rfl rfl dX2_init_40 ?_
  refine ww_iconst C (z := 0) dX2_init_41 rfl ?_
  obtain ⟨p18, hy⟩ := hy
  have hy := hy _ rfl
  refine pf_X2_35I C dX2_init_42 p18 ?_
  refine ww_aload_n C 0 0 rfl rfl dX2_init_45 ?_
  refine ww_iconst C (z := 0) dX2_init_46 rfl ?_
  obtain ⟨p20, hy⟩ := hy
  have hy := hy _ rfl
  refine pf_X2_38I C dX2_init_47 p20 ?_
  exact ww_vret C E dX2_init_50 (by decide) (by decide) ⟨rfl, hy⟩
abbrev X2_line_w0 (G : xG) (k : xK) (x0 : Nat) (n : Nat) (h : xH) : Prop := WW G k 1 0 0 0 [(0, rf G x0)] [] n h
theorem S_X2_line_of {G : xG} {l : Launch} {x0 : Nat} {n : Nat} {h : xH} {Po : Nat → xH → Prop} (body : ∀ k : xK, kl k = l → CC G k cX2_line RX2 1 rm_X2_line → CQ G k (some (.object "DoubleTexts$Line")) rm_X2_line (fun r n1 h1 => ∃ z : Nat, r = some (rf G z) ∧ n1 = n ∧ Po z h1) → X2_line_w0 G k x0 n h) : S_X2_line G l x0 n h Po := xS_of (by decide +kernel) (Nat.le_of_ble_eq_true rfl) rfl (fun k hl hnm C E => body k hl C E)
set_option maxRecDepth 100000 in
set_option maxHeartbeats 4000000 in
theorem X2_line_b0 {G : xG} {k : xK} {n0 : Nat} {Po : Nat → xH → Prop} (C : CC G k cX2_line RX2 1 rm_X2_line) (E : CQ G k (some (.object "DoubleTexts$Line")) rm_X2_line (fun r n1 h1 => ∃ z : Nat, r = some (rf G z) ∧ n1 = n0 ∧ Po z h1)) (x0 : Nat) (n : Nat) (h : xH) (hn0 : n = n0) (hy : okO n h x0 2 ∧ 0 ≤ hG h x0 0 ∧ Po ((hG h x0 0).toNat) h) : X2_line_w0 G k x0 n h := by
  subst hn0
  refine ww_aload_n C 0 0 rfl rfl dX2_line_0 ?_
  obtain ⟨p1, hy⟩ := hy
  obtain ⟨p2, hy⟩ := hy
  refine gf_X2_12 C dX2_line_1 p1 p2 ?_
  exact ww_aretR C E (Or.inl ⟨_, rfl⟩) dX2_line_4 (by decide) (by decide) ⟨_, rfl, rfl, hy⟩
abbrev X2_exactIsAsked_w0 (G : xG) (k : xK) (x0 : Nat) (n : Nat) (h : xH) : Prop := WW G k 1 0 0 0 [(0, rf G x0)] [] n h
abbrev X2_exactIsAsked_w14 (G : xG) (k : xK) (s0 : Int) (n : Nat) (h : xH) : Prop := WW G k 1 0 0 14 [] [.int (iz s0)] n h
theorem S_X2_exactIsAsked_of {G : xG} {l : Launch} {x0 : Nat} {n : Nat} {h : xH} {Po : Int → xH → Prop} (body : ∀ k : xK, kl k = l → CC G k cX2_exactIsAsked RX2 1 rm_X2_exactIsAsked → CQ G k (some .boolean) rm_X2_exactIsAsked (fun r n1 h1 => ∃ z : Int, r = some (.int (iz z)) ∧ n1 = n ∧ Po z h1) → X2_exactIsAsked_w0 G k x0 n h) : S_X2_exactIsAsked G l x0 n h Po := xS_of (by decide +kernel) (Nat.le_of_ble_eq_true rfl) rfl (fun k hl hnm C E => body k hl C E)
set_option maxRecDepth 100000 in
set_option maxHeartbeats 4000000 in
theorem X2_exactIsAsked_b0 {G : xG} {k : xK} {n0 : Nat} {Po : Int → xH → Prop} (C : CC G k cX2_exactIsAsked RX2 1 rm_X2_exactIsAsked) (E : CQ G k (some .boolean) rm_X2_exactIsAsked (fun r n1 h1 => ∃ z : Int, r = some (.int (iz z)) ∧ n1 = n0 ∧ Po z h1)) (x0 : Nat) (n : Nat) (h : xH) (hn0 : n = n0) (hy : okO n h x0 2 ∧ (rg (hG h x0 3) ∧ rg (101 : Int)) ∧ ((¬ (hG h x0 3) = (101 : Int) → X2_exactIsAsked_w14 G k 0 n h) ∧ ((hG h x0 3) = (101 : Int) → X2_exactIsAsked_w14 G k 1 n h))) : X2_exactIsAsked_w0 G k x0 n h := by
  subst hn0
  refine ww_aload_n C 0 0 rfl rfl dX2_exactIsAsked_0 ?_
  obtain ⟨p1, hy⟩ := hy
  refine gf_X2_25 C dX2_exactIsAsked_1 p1 ?_
  refine ww_bipush C (z := 101) dX2_exactIsAsked_4 rfl ?_
  obtain ⟨p2, hy⟩ := hy
  refine ww_icmp_ne C (tg := 13) dX2_exactIsAsked_6 (by decide) p2.1 p2.2 (fun c3 => ?_) (fun c3 => ?_)
  · have hy := hy.1 c3
    refine ww_iconst C (z := 0) dX2_exactIsAsked_13 rfl ?_
    exact ww_sub [] rfl (by decide) (by decide) hy
  · have hy := hy.2 c3
    refine ww_iconst C (z := 1) dX2_exactIsAsked_9 rfl ?_
    refine ww_goto C (tg := 14) dX2_exactIsAsked_10 (by decide) ?_
    exact ww_sub [] rfl (by decide) (by decide) hy
set_option maxRecDepth 100000 in
set_option maxHeartbeats 4000000 in
theorem X2_exactIsAsked_b14 {G : xG} {k : xK} {n0 : Nat} {Po : Int → xH → Prop} (C : CC G k cX2_exactIsAsked RX2 1 rm_X2_exactIsAsked) (E : CQ G k (some .boolean) rm_X2_exactIsAsked (fun r n1 h1 => ∃ z : Int, r = some (.int (iz z)) ∧ n1 = n0 ∧ Po z h1)) (s0 : Int) (n : Nat) (h : xH) (hn0 : n = n0) (hy : (s0 = 0 ∨ s0 = 1) ∧ Po s0 h) : X2_exactIsAsked_w14 G k s0 n h := by
  subst hn0
  obtain ⟨p1, hy⟩ := hy
  exact ww_zret C E dX2_exactIsAsked_14 (nz_b p1) (by decide) (by decide) ⟨_, rfl, rfl, hy⟩
abbrev X2_inexactIsAsked_w0 (G : xG) (k : xK) (x0 : Nat) (n : Nat) (h : xH) : Prop := WW G k 1 0 0 0 [(0, rf G x0)] [] n h
abbrev X2_inexactIsAsked_w14 (G : xG) (k : xK) (s0 : Int) (n : Nat) (h : xH) : Prop := WW G k 1 0 0 14 [] [.int (iz s0)] n h
theorem S_X2_inexactIsAsked_of {G : xG} {l : Launch} {x0 : Nat} {n : Nat} {h : xH} {Po : Int → xH → Prop} (body : ∀ k : xK, kl k = l → CC G k cX2_inexactIsAsked RX2 1 rm_X2_inexactIsAsked → CQ G k (some .boolean) rm_X2_inexactIsAsked (fun r n1 h1 => ∃ z : Int, r = some (.int (iz z)) ∧ n1 = n ∧ Po z h1) → X2_inexactIsAsked_w0 G k x0 n h) : S_X2_inexactIsAsked G l x0 n h Po := xS_of (by decide +kernel) (Nat.le_of_ble_eq_true rfl) rfl (fun k hl hnm C E => body k hl C E)
set_option maxRecDepth 100000 in
set_option maxHeartbeats 4000000 in
theorem X2_inexactIsAsked_b0 {G : xG} {k : xK} {n0 : Nat} {Po : Int → xH → Prop} (C : CC G k cX2_inexactIsAsked RX2 1 rm_X2_inexactIsAsked) (E : CQ G k (some .boolean) rm_X2_inexactIsAsked (fun r n1 h1 => ∃ z : Int, r = some (.int (iz z)) ∧ n1 = n0 ∧ Po z h1)) (x0 : Nat) (n : Nat) (h : xH) (hn0 : n = n0) (hy : okO n h x0 2 ∧ (rg (hG h x0 3) ∧ rg (105 : Int)) ∧ ((¬ (hG h x0 3) = (105 : Int) → X2_inexactIsAsked_w14 G k 0 n h) ∧ ((hG h x0 3) = (105 : Int) → X2_inexactIsAsked_w14 G k 1 n h))) : X2_inexactIsAsked_w0 G k x0 n h := by
  subst hn0
  refine ww_aload_n C 0 0 rfl rfl dX2_inexactIsAsked_0 ?_
  obtain ⟨p1, hy⟩ := hy
  refine gf_X2_25 C dX2_inexactIsAsked_1 p1 ?_
  refine ww_bipush C (z := 105) dX2_inexactIsAsked_4 rfl ?_
  obtain ⟨p2, hy⟩ := hy
  refine ww_icmp_ne C (tg := 13) dX2_inexactIsAsked_6 (by decide) p2.1 p2.2 (fun c3 => ?_) (fun c3 => ?_)
  · have hy := hy.1 c3
    refine ww_iconst C (z := 0) dX2_inexactIsAsked_13 rfl ?_
    exact ww_sub [] rfl (by decide) (by decide) hy
  · have hy := hy.2 c3
    refine ww_iconst C (z := 1) dX2_inexactIsAsked_9 rfl ?_
    refine ww_goto C (tg := 14) dX2_inexactIsAsked_10 (by decide) ?_
    exact ww_sub [] rfl (by decide) (by decide) hy
set_option maxRecDepth 100000 in
set_option maxHeartbeats 4000000 in
theorem X2_inexactIsAsked_b14 {G : xG} {k : xK} {n0 : Nat} {Po : Int → xH → Prop} (C : CC G k cX2_inexactIsAsked RX2 1 rm_X2_inexactIsAsked) (E : CQ G k (some .boolean) rm_X2_inexactIsAsked (fun r n1 h1 => ∃ z : Int, r = some (.int (iz z)) ∧ n1 = n0 ∧ Po z h1)) (s0 : Int) (n : Nat) (h : xH) (hn0 : n = n0) (hy : (s0 = 0 ∨ s0 = 1) ∧ Po s0 h) : X2_inexactIsAsked_w14 G k s0 n h := by
  subst hn0
  obtain ⟨p1, hy⟩ := hy
  exact ww_zret C E dX2_inexactIsAsked_14 (nz_b p1) (by decide) (by decide) ⟨_, rfl, rfl, hy⟩
abbrev X2_hasMinus_w0 (G : xG) (k : xK) (x0 : Nat) (n : Nat) (h : xH) : Prop := WW G k 1 0 0 0 [(0, rf G x0)] [] n h
theorem S_X2_hasMinus_of {G : xG} {l : Launch} {x0 : Nat} {n : Nat} {h : xH} {Po : Int → xH → Prop} (body : ∀ k : xK, kl k = l → CC G k cX2_hasMinus RX2 1 rm_X2_hasMinus → CQ G k (some .boolean) rm_X2_hasMinus (fun r n1 h1 => ∃ z : Int, r = some (.int (iz z)) ∧ n1 = n ∧ Po z h1) → X2_hasMinus_w0 G k x0 n h) : S_X2_hasMinus G l x0 n h Po := xS_of (by decide +kernel) (Nat.le_of_ble_eq_true rfl) rfl (fun k hl hnm C E => body k hl C E)
set_option maxRecDepth 100000 in
set_option maxHeartbeats 4000000 in
theorem X2_hasMinus_b0 {G : xG} {k : xK} {n0 : Nat} {Po : Int → xH → Prop} (C : CC G k cX2_hasMinus RX2 1 rm_X2_hasMinus) (E : CQ G k (some .boolean) rm_X2_hasMinus (fun r n1 h1 => ∃ z : Int, r = some (.int (iz z)) ∧ n1 = n0 ∧ Po z h1)) (x0 : Nat) (n : Nat) (h : xH) (hn0 : n = n0) (hy : okO n h x0 2 ∧ ((hG h x0 5) = 0 ∨ (hG h x0 5) = 1) ∧ Po (hG h x0 5) h) : X2_hasMinus_w0 G k x0 n h := by
  subst hn0
  refine ww_aload_n C 0 0 rfl rfl dX2_hasMinus_0 ?_
  obtain ⟨p1, hy⟩ := hy
  refine gf_X2_32 C dX2_hasMinus_1 p1 ?_
  obtain ⟨p2, hy⟩ := hy
  exact ww_zret C E dX2_hasMinus_4 (nz_b p2) (by decide) (by decide) ⟨_, rfl, rfl, hy⟩
abbrev X2_tens_w0 (G : xG) (k : xK) (x0 : Nat) (n : Nat) (h : xH) : Prop := WW G k 1 0 0 0 [(0, rf G x0)] [] n h
theorem S_X2_tens_of {G : xG} {l : Launch} {x0 : Nat} {n : Nat} {h : xH} {Po : Int → xH → Prop} (body : ∀ k : xK, kl k = l → CC G k cX2_tens RX2 1 rm_X2_tens → CQ G k (some .int) rm_X2_tens (fun r n1 h1 => ∃ z : Int, r = some (.int (iz z)) ∧ n1 = n ∧ Po z h1) → X2_tens_w0 G k x0 n h) : S_X2_tens G l x0 n h Po := xS_of (by decide +kernel) (Nat.le_of_ble_eq_true rfl) rfl (fun k hl hnm C E => body k hl C E)
set_option maxRecDepth 100000 in
set_option maxHeartbeats 4000000 in
theorem X2_tens_b0 {G : xG} {k : xK} {n0 : Nat} {Po : Int → xH → Prop} (C : CC G k cX2_tens RX2 1 rm_X2_tens) (E : CQ G k (some .int) rm_X2_tens (fun r n1 h1 => ∃ z : Int, r = some (.int (iz z)) ∧ n1 = n0 ∧ Po z h1)) (x0 : Nat) (n : Nat) (h : xH) (hn0 : n = n0) (hy : okO n h x0 2 ∧ Po (hG h x0 6) h) : X2_tens_w0 G k x0 n h := by
  subst hn0
  refine ww_aload_n C 0 0 rfl rfl dX2_tens_0 ?_
  obtain ⟨p1, hy⟩ := hy
  refine gf_X2_35 C dX2_tens_1 p1 ?_
  exact ww_iret C E dX2_tens_4 (by decide) (by decide) ⟨_, rfl, rfl, hy⟩
abbrev X2_significantDigits_w0 (G : xG) (k : xK) (x0 : Nat) (n : Nat) (h : xH) : Prop := WW G k 1 0 0 0 [(0, rf G x0)] [] n h
theorem S_X2_significantDigits_of {G : xG} {l : Launch} {x0 : Nat} {n : Nat} {h : xH} {Po : Int → xH → Prop} (body : ∀ k : xK, kl k = l → CC G k cX2_significantDigits RX2 1 rm_X2_significantDigits → CQ G k (some .int) rm_X2_significantDigits (fun r n1 h1 => ∃ z : Int, r = some (.int (iz z)) ∧ n1 = n ∧ Po z h1) → X2_significantDigits_w0 G k x0 n h) : S_X2_significantDigits G l x0 n h Po := xS_of (by decide +kernel) (Nat.le_of_ble_eq_true rfl) rfl (fun k hl hnm C E => body k hl C E)
set_option maxRecDepth 100000 in
set_option maxHeartbeats 4000000 in
theorem X2_significantDigits_b0 {G : xG} {k : xK} {n0 : Nat} {Po : Int → xH → Prop} (C : CC G k cX2_significantDigits RX2 1 rm_X2_significantDigits) (E : CQ G k (some .int) rm_X2_significantDigits (fun r n1 h1 => ∃ z : Int, r = some (.int (iz z)) ∧ n1 = n0 ∧ Po z h1)) (x0 : Nat) (n : Nat) (h : xH) (hn0 : n = n0) (hy : okO n h x0 2 ∧ Po (hG h x0 7) h) : X2_significantDigits_w0 G k x0 n h := by
  subst hn0
  refine ww_aload_n C 0 0 rfl rfl dX2_significantDigits_0 ?_
  obtain ⟨p1, hy⟩ := hy
  refine gf_X2_38 C dX2_significantDigits_1 p1 ?_
  exact ww_iret C E dX2_significantDigits_4 (by decide) (by decide) ⟨_, rfl, rfl, hy⟩
abbrev X2_current_w0 (G : xG) (k : xK) (x0 : Nat) (n : Nat) (h : xH) : Prop := WW G k 1 0 0 0 [(0, rf G x0)] [] n h
theorem S_X2_current_of {G : xG} {l : Launch} {x0 : Nat} {n : Nat} {h : xH} {Po : Int → xH → Prop} (body : ∀ k : xK, kl k = l → CC G k cX2_current RX2 1 rm_X2_current → CQ G k (some .int) rm_X2_current (fun r n1 h1 => ∃ z : Int, r = some (.int (iz z)) ∧ n1 = n ∧ Po z h1) → X2_current_w0 G k x0 n h) : S_X2_current G l x0 n h Po := xS_of (by decide +kernel) (Nat.le_of_ble_eq_true rfl) rfl (fun k hl hnm C E => body k hl C E)
set_option maxRecDepth 100000 in
set_option maxHeartbeats 4000000 in
theorem X2_current_b0 {G : xG} {k : xK} {n0 : Nat} {Po : Int → xH → Prop} (C : CC G k cX2_current RX2 1 rm_X2_current) (E : CQ G k (some .int) rm_X2_current (fun r n1 h1 => ∃ z : Int, r = some (.int (iz z)) ∧ n1 = n0 ∧ Po z h1)) (x0 : Nat) (n : Nat) (h : xH) (hn0 : n = n0) (hy : okO n h x0 2 ∧ 0 ≤ hG h x0 0 ∧ okO n h x0 2 ∧ okO n h ((hG h x0 0).toNat) 0 ∧ S_X0_codeAt G (kl k) ((hG h x0 0).toNat) (hG h x0 1) n h (fun z5 h6 => Po z5 h6)) : X2_current_w0 G k x0 n h := by
  subst hn0
  refine ww_aload_n C 0 0 rfl rfl dX2_current_0 ?_
  obtain ⟨p1, hy⟩ := hy
  obtain ⟨p2, hy⟩ := hy
  refine gf_X2_12 C dX2_current_1 p1 p2 ?_
  refine ww_aload_n C 0 0 rfl rfl dX2_current_4 ?_
  obtain ⟨p3, hy⟩ := hy
  refine gf_X2_18 C dX2_current_5 p3 ?_
  obtain ⟨p4, hy⟩ := hy
  refine cl_X2_106 C dX2_current_8 (Nat.le_of_ble_eq_true rfl) ⟨by decide, by decide⟩ ⟨by decide, by decide⟩ p4 ?_
  refine S_X0_codeAt.mono hy (fun z5 h6 hy => ?_)
  exact ww_iret C E dX2_current_11 (by decide) (by decide) ⟨_, rfl, rfl, hy⟩
abbrev X2_baseOf_w0 (G : xG) (k : xK) (x0 : Int) (n : Nat) (h : xH) : Prop := WW G k 1 0 0 0 [(0, .int (iz x0))] [] n h
theorem S_X2_baseOf_of {G : xG} {l : Launch} {x0 : Int} {n : Nat} {h : xH} {Po : Int → xH → Prop} (body : ∀ k : xK, kl k = l → CC G k cX2_baseOf RX2 1 rm_X2_baseOf → CQ G k (some .int) rm_X2_baseOf (fun r n1 h1 => ∃ z : Int, r = some (.int (iz z)) ∧ n1 = n ∧ Po z h1) → X2_baseOf_w0 G k x0 n h) : S_X2_baseOf G l x0 n h Po := xS_of (by decide +kernel) (Nat.le_of_ble_eq_true rfl) rfl (fun k hl hnm C E => body k hl C E)
set_option maxRecDepth 100000 in
set_option maxHeartbeats 4000000 in
theorem X2_baseOf_b0 {G : xG} {k : xK} {n0 : Nat} {Po : Int → xH → Prop} (C : CC G k cX2_baseOf RX2 1 rm_X2_baseOf) (E : CQ G k (some .int) rm_X2_baseOf (fun r n1 h1 => ∃ z : Int, r = some (.int (iz z)) ∧ n1 = n0 ∧ Po z h1)) (x0 : Int) (n : Nat) (h : xH) (hn0 : n = n0) (hy : rg x0 ∧ ((x0 = 98 → Po (2 : Int) h) ∧ (¬ x0 = 98 → ((x0 = 100 → Po (10 : Int) h) ∧ (¬ x0 = 100 → ((x0 = 111 → Po (8 : Int) h) ∧ (¬ x0 = 111 → ((x0 = 120 → Po (16 : Int) h) ∧ (¬ x0 = 120 → Po (0 : Int) h))))))))) : X2_baseOf_w0 G k x0 n h := by
  subst hn0
  refine ww_iload_n C 0 0 rfl rfl dX2_baseOf_0 ?_
  obtain ⟨p1, hy⟩ := hy
  by_cases c2 : x0 = 98
  · have hy := hy.1 c2
    refine ww_lookup C (tg := 47) dX2_baseOf_1 rfl p1 (o := 46) (by rw [c2]; rfl) (by decide) ?_
    refine ww_iconst C (z := 2) dX2_baseOf_47 rfl ?_
    exact ww_iret C E dX2_baseOf_48 (by decide) (by decide) ⟨_, rfl, rfl, hy⟩
  have hy := hy.2 c2
  by_cases c3 : x0 = 100
  · have hy := hy.1 c3
    refine ww_lookup C (tg := 52) dX2_baseOf_1 rfl p1 (o := 51) (by rw [c3]; rfl) (by decide) ?_
    refine ww_bipush C (z := 10) dX2_baseOf_52 rfl ?_
    exact ww_iret C E dX2_baseOf_54 (by decide) (by decide) ⟨_, rfl, rfl, hy⟩
  have hy := hy.2 c3
  by_cases c4 : x0 = 111
  · have hy := hy.1 c4
    refine ww_lookup C (tg := 49) dX2_baseOf_1 rfl p1 (o := 48) (by rw [c4]; rfl) (by decide) ?_
    refine ww_bipush C (z := 8) dX2_baseOf_49 rfl ?_
    exact ww_iret C E dX2_baseOf_51 (by decide) (by decide) ⟨_, rfl, rfl, hy⟩
  have hy := hy.2 c4
  by_cases c5 : x0 = 120
  · have hy := hy.1 c5
    refine ww_lookup C (tg := 44) dX2_baseOf_1 rfl p1 (o := 43) (by rw [c5]; rfl) (by decide) ?_
    refine ww_bipush C (z := 16) dX2_baseOf_44 rfl ?_
    exact ww_iret C E dX2_baseOf_46 (by decide) (by decide) ⟨_, rfl, rfl, hy⟩
  have hy := hy.2 c5
  refine ww_lookup C (tg := 55) dX2_baseOf_1 rfl p1 (o := 54) (by simp [Op.lookupswitch.offset, c2, Ne.symm c2, c3, Ne.symm c3, c4, Ne.symm c4, c5, Ne.symm c5]) (by decide) ?_
  refine ww_iconst C (z := 0) dX2_baseOf_55 rfl ?_
  exact ww_iret C E dX2_baseOf_56 (by decide) (by decide) ⟨_, rfl, rfl, hy⟩
abbrev X2_takePrefixes_w0 (G : xG) (k : xK) (x0 : Nat) (n : Nat) (h : xH) : Prop := WW G k 5 0 0 0 [(0, rf G x0)] [] n h
abbrev X2_takePrefixes_w2 (G : xG) (k : xK) (x0 : Nat) (x1 : Int) (n : Nat) (h : xH) : Prop := WW G k 5 0 0 2 [(0, rf G x0), (1, .int (iz x1))] [] n h
abbrev X2_takePrefixes_w112 (G : xG) (k : xK)  (n : Nat) (h : xH) : Prop := WW G k 5 0 0 112 [] [] n h
abbrev X2_takePrefixes_w58 (G : xG) (k : xK) (x0 : Nat) (x1 : Int) (x2 : Int) (x3 : Int) (n : Nat) (h : xH) : Prop := WW G k 5 0 0 58 [(0, rf G x0), (1, .int (iz x1)), (2, .int (iz x2)), (3, .int (iz x3))] [] n h
abbrev X2_takePrefixes_w63 (G : xG) (k : xK) (x0 : Nat) (x1 : Int) (x2 : Int) (x3 : Int) (s0 : Int) (n : Nat) (h : xH) : Prop := WW G k 5 0 0 63 [(0, rf G x0), (1, .int (iz x1)), (2, .int (iz x2)), (3, .int (iz x3))] [.int (iz s0)] n h
abbrev X2_takePrefixes_w84 (G : xG) (k : xK) (x0 : Nat) (x1 : Int) (x2 : Int) (x4 : Int) (n : Nat) (h : xH) : Prop := WW G k 5 0 0 84 [(0, rf G x0), (1, .int (iz x1)), (2, .int (iz x2)), (4, .int (iz x4))] [] n h
abbrev X2_takePrefixes_w106 (G : xG) (k : xK) (x0 : Nat) (x1 : Int) (n : Nat) (h : xH) : Prop := WW G k 5 0 0 106 [(0, rf G x0), (1, .int (iz x1))] [] n h
abbrev X2_takePrefixes_w104 (G : xG) (k : xK)  (n : Nat) (h : xH) : Prop := WW G k 5 0 0 104 [] [] n h
theorem S_X2_takePrefixes_of {G : xG} {l : Launch} {x0 : Nat} {n : Nat} {h : xH} {Po : Int → xH → Prop} (body : ∀ k : xK, kl k = l → CC G k cX2_takePrefixes RX2 5 rm_X2_takePrefixes → CQ G k (some .boolean) rm_X2_takePrefixes (fun r n1 h1 => ∃ z : Int, r = some (.int (iz z)) ∧ n1 = n ∧ Po z h1) → X2_takePrefixes_w0 G k x0 n h) : S_X2_takePrefixes G l x0 n h Po := xS_of (by decide +kernel) (Nat.le_of_ble_eq_true rfl) rfl (fun k hl hnm C E => body k hl C E)
set_option maxRecDepth 100000 in
set_option maxHeartbeats 4000000 in
theorem X2_takePrefixes_b0 {G : xG} {k : xK} {n0 : Nat} {Po : Int → xH → Prop} (C : CC G k cX2_takePrefixes RX2 5 rm_X2_takePrefixes) (E : CQ G k (some .boolean) rm_X2_takePrefixes (fun r n1 h1 => ∃ z : Int, r = some (.int (iz z)) ∧ n1 = n0 ∧ Po z h1)) (x0 : Nat) (n : Nat) (h : xH) (hn0 : n = n0) (hy : X2_takePrefixes_w2 G k x0 0 n h) : X2_takePrefixes_w0 G k x0 n h := by
  subst hn0
  refine ww_iconst C (z := 0) dX2_takePrefixes_0 rfl ?_
  refine ww_istore_n C 1 rfl (by decide) rfl dX2_takePrefixes_1 ?_
  exact ww_sub [1, 0] rfl (by decide) (by decide) hy
set_option maxRecDepth 100000 in
set_option maxHeartbeats 4000000 in
theorem X2_takePrefixes_b2 {G : xG} {k : xK} {n0 : Nat} {Po : Int → xH → Prop} (C : CC G k cX2_takePrefixes RX2 5 rm_X2_takePrefixes) (E : CQ G k (some .boolean) rm_X2_takePrefixes (fun r n1 h1 => ∃ z : Int, r = some (.int (iz z)) ∧ n1 = n0 ∧ Po z h1)) (x0 : Nat) (x1 : Int) (n : Nat) (h : xH) (hn0 : n = n0) (hy : (rg x1 ∧ rg (2 : Int)) ∧ (((2 : Int) ≤ x1 → X2_takePrefixes_w112 G k  n h) ∧ (¬ (2 : Int) ≤ x1 → okO n h x0 2 ∧ S_X2_current G (kl k) x0 n h (fun z4 h5 => (rg z4 ∧ rg (35 : Int)) ∧ ((¬ z4 = (35 : Int) → X2_takePrefixes_w112 G k  n h5) ∧ (z4 = (35 : Int) → okO n h5 x0 2 ∧ okO n h5 x0 2 ∧ (∀ h10 : xH, h10 = hS h5 x0 1 ((hG h5 x0 1) + 1) → okO n h10 x0 2 ∧ S_X2_current G (kl k) x0 n h10 (fun z12 h13 => okO n h13 x0 2 ∧ okO n h13 x0 2 ∧ (∀ h16 : xH, h16 = hS h13 x0 1 ((hG h13 x0 1) + 1) → S_X2_baseOf G (kl k) z12 n h16 (fun z17 h18 => (rg z12 ∧ rg (101 : Int)) ∧ ((z12 = (101 : Int) → X2_takePrefixes_w58 G k x0 x1 z12 z17 n h18) ∧ (¬ z12 = (101 : Int) → (rg z12 ∧ rg (105 : Int)) ∧ ((¬ z12 = (105 : Int) → X2_takePrefixes_w63 G k x0 x1 z12 z17 0 n h18) ∧ (z12 = (105 : Int) → X2_takePrefixes_w58 G k x0 x1 z12 z17 n h18)))))))))))))) : X2_takePrefixes_w2 G k x0 x1 n h := by
  subst hn0
  refine ww_iload_n C 1 1 rfl rfl dX2_takePrefixes_2 ?_
  refine ww_iconst C (z := 2) dX2_takePrefixes_3 rfl ?_
  obtain ⟨p1, hy⟩ := hy
  refine ww_icmp_ge C (tg := 112) dX2_takePrefixes_4 (by decide) p1.1 p1.2 (fun c2 => ?_) (fun c2 => ?_)
  · have hy := hy.1 c2
    exact ww_sub [] rfl (by decide) (by decide) hy
  · have hy := hy.2 c2
    refine ww_aload_n C 0 0 rfl rfl dX2_takePrefixes_7 ?_
    obtain ⟨p3, hy⟩ := hy
    refine cl_X2_61 C dX2_takePrefixes_8 (Nat.le_of_ble_eq_true rfl) ⟨by decide, by decide⟩ ⟨by decide, by decide⟩ p3 ?_
    refine S_X2_current.mono hy (fun z4 h5 hy => ?_)
    refine ww_bipush C (z := 35) dX2_takePrefixes_11 rfl ?_
    obtain ⟨p6, hy⟩ := hy
    refine ww_icmp_ne C (tg := 112) dX2_takePrefixes_13 (by decide) p6.1 p6.2 (fun c7 => ?_) (fun c7 => ?_)
    · have hy := hy.1 c7
      exact ww_sub [] rfl (by decide) (by decide) hy
    · have hy := hy.2 c7
      refine ww_aload_n C 0 0 rfl rfl dX2_takePrefixes_16 ?_
      refine ww_dup C rfl dX2_takePrefixes_17 ?_
      obtain ⟨p8, hy⟩ := hy
      refine gf_X2_18 C dX2_takePrefixes_18 p8 ?_
      refine ww_iconst C (z := 1) dX2_takePrefixes_21 rfl ?_
      refine ww_iadd C dX2_takePrefixes_22 ?_
      obtain ⟨p9, hy⟩ := hy
      have hy := hy _ rfl
      refine pf_X2_18I C dX2_takePrefixes_23 p9 ?_
      refine ww_aload_n C 0 0 rfl rfl dX2_takePrefixes_26 ?_
      obtain ⟨p11, hy⟩ := hy
      refine cl_X2_61 C dX2_takePrefixes_27 (Nat.le_of_ble_eq_true rfl) ⟨by decide, by decide⟩ ⟨by decide, by decide⟩ p11 ?_
      refine S_X2_current.mono hy (fun z12 h13 hy => ?_)
      refine ww_istore_n C 2 rfl (by decide) rfl dX2_takePrefixes_30 ?_
      refine ww_aload_n C 0 1 rfl rfl dX2_takePrefixes_31 ?_
      refine ww_dup C rfl dX2_takePrefixes_32 ?_
      obtain ⟨p14, hy⟩ := hy
      refine gf_X2_18 C dX2_takePrefixes_33 p14 ?_
      refine ww_iconst C (z := 1) dX2_takePrefixes_36 rfl ?_
      refine ww_iadd C dX2_takePrefixes_37 ?_
      obtain ⟨p15, hy⟩ := hy
      have hy := hy _ rfl
      refine pf_X2_18I C dX2_takePrefixes_38 p15 ?_
      refine ww_iload_n C 2 0 rfl rfl dX2_takePrefixes_41 ?_
      refine cl_X2_97 C dX2_takePrefixes_42 (Nat.le_of_ble_eq_true rfl) ⟨by decide, by decide⟩ ⟨by decide, by decide⟩ ?_
      refine S_X2_baseOf.mono hy (fun z17 h18 hy => ?_)
      refine ww_istore_n C 3 rfl (by decide) rfl dX2_takePrefixes_45 ?_
      refine ww_iload_n C 2 1 rfl rfl dX2_takePrefixes_46 ?_
      refine ww_bipush C (z := 101) dX2_takePrefixes_47 rfl ?_
      obtain ⟨p19, hy⟩ := hy
      refine ww_icmp_eq C (tg := 58) dX2_takePrefixes_49 (by decide) p19.1 p19.2 (fun c20 => ?_) (fun c20 => ?_)
      · have hy := hy.1 c20
        exact ww_sub [2, 3, 1, 0] rfl (by decide) (by decide) hy
      · have hy := hy.2 c20
        refine ww_iload_n C 2 1 rfl rfl dX2_takePrefixes_52 ?_
        refine ww_bipush C (z := 105) dX2_takePrefixes_53 rfl ?_
        obtain ⟨p21, hy⟩ := hy
        refine ww_icmp_ne C (tg := 62) dX2_takePrefixes_55 (by decide) p21.1 p21.2 (fun c22 => ?_) (fun c22 => ?_)
        · have hy := hy.1 c22
          refine ww_iconst C (z := 0) dX2_takePrefixes_62 rfl ?_
          exact ww_sub [2, 3, 1, 0] rfl (by decide) (by decide) hy
        · have hy := hy.2 c22
          exact ww_sub [2, 3, 1, 0] rfl (by decide) (by decide) hy
set_option maxRecDepth 100000 in
set_option maxHeartbeats 4000000 in
theorem X2_takePrefixes_b112 {G : xG} {k : xK} {n0 : Nat} {Po : Int → xH → Prop} (C : CC G k cX2_takePrefixes RX2 5 rm_X2_takePrefixes) (E : CQ G k (some .boolean) rm_X2_takePrefixes (fun r n1 h1 => ∃ z : Int, r = some (.int (iz z)) ∧ n1 = n0 ∧ Po z h1))  (n : Nat) (h : xH) (hn0 : n = n0) (hy : ((1 : Int) = 0 ∨ (1 : Int) = 1) ∧ Po (1 : Int) h) : X2_takePrefixes_w112 G k  n h := by
  subst hn0
  refine ww_iconst C (z := 1) dX2_takePrefixes_112 rfl ?_
  obtain ⟨p1, hy⟩ := hy
  exact ww_zret C E dX2_takePrefixes_113 (nz_b p1) (by decide) (by decide) ⟨_, rfl, rfl, hy⟩
set_option maxRecDepth 100000 in
set_option maxHeartbeats 4000000 in
theorem X2_takePrefixes_b58 {G : xG} {k : xK} {n0 : Nat} {Po : Int → xH → Prop} (C : CC G k cX2_takePrefixes RX2 5 rm_X2_takePrefixes) (E : CQ G k (some .boolean) rm_X2_takePrefixes (fun r n1 h1 => ∃ z : Int, r = some (.int (iz z)) ∧ n1 = n0 ∧ Po z h1)) (x0 : Nat) (x1 : Int) (x2 : Int) (x3 : Int) (n : Nat) (h : xH) (hn0 : n = n0) (hy : X2_takePrefixes_w63 G k x0 x1 x2 x3 1 n h) : X2_takePrefixes_w58 G k x0 x1 x2 x3 n h := by
  subst hn0
  refine ww_iconst C (z := 1) dX2_takePrefixes_58 rfl ?_
  refine ww_goto C (tg := 63) dX2_takePrefixes_59 (by decide) ?_
  exact ww_sub [0, 1, 2, 3] rfl (by decide) (by decide) hy
set_option maxRecDepth 100000 in
set_option maxHeartbeats 4000000 in
theorem X2_takePrefixes_b63 {G : xG} {k : xK} {n0 : Nat} {Po : Int → xH → Prop} (C : CC G k cX2_takePrefixes RX2 5 rm_X2_takePrefixes) (E : CQ G k (some .boolean) rm_X2_takePrefixes (fun r n1 h1 => ∃ z : Int, r = some (.int (iz z)) ∧ n1 = n0 ∧ Po z h1)) (x0 : Nat) (x1 : Int) (x2 : Int) (x3 : Int) (s0 : Int) (n : Nat) (h : xH) (hn0 : n = n0) (hy : rg x3 ∧ ((x3 = 0 → X2_takePrefixes_w84 G k x0 x1 x2 s0 n h) ∧ (¬ x3 = 0 → okO n h x0 2 ∧ rg (hG h x0 2) ∧ ((¬ (hG h x0 2) = 0 → X2_takePrefixes_w84 G k x0 x1 x2 s0 n h) ∧ ((hG h x0 2) = 0 → okO n h x0 2 ∧ (∀ h7 : xH, h7 = hS h x0 2 x3 → X2_takePrefixes_w106 G k x0 x1 n h7)))))) : X2_takePrefixes_w63 G k x0 x1 x2 x3 s0 n h := by
  subst hn0
  refine ww_istore C 4 (by decide) rfl dX2_takePrefixes_63 ?_
  refine ww_iload_n C 3 4 rfl rfl dX2_takePrefixes_65 ?_
  obtain ⟨p1, hy⟩ := hy
  refine ww_if_eq C (tg := 84) dX2_takePrefixes_66 (by decide) p1 (fun c2 => ?_) (fun c2 => ?_)
  · have hy := hy.1 c2
    exact ww_sub [1, 2, 3, 0] rfl (by decide) (by decide) hy
  · have hy := hy.2 c2
    refine ww_aload_n C 0 1 rfl rfl dX2_takePrefixes_69 ?_
    obtain ⟨p3, hy⟩ := hy
    refine gf_X2_22 C dX2_takePrefixes_70 p3 ?_
    obtain ⟨p4, hy⟩ := hy
    refine ww_if_ne C (tg := 84) dX2_takePrefixes_73 (by decide) p4 (fun c5 => ?_) (fun c5 => ?_)
    · have hy := hy.1 c5
      exact ww_sub [1, 2, 3, 0] rfl (by decide) (by decide) hy
    · have hy := hy.2 c5
      refine ww_aload_n C 0 1 rfl rfl dX2_takePrefixes_76 ?_
      refine ww_iload_n C 3 4 rfl rfl dX2_takePrefixes_77 ?_
      obtain ⟨p6, hy⟩ := hy
      have hy := hy _ rfl
      refine pf_X2_22I C dX2_takePrefixes_78 p6 ?_
      refine ww_goto C (tg := 106) dX2_takePrefixes_81 (by decide) ?_
      exact ww_sub [1, 2] rfl (by decide) (by decide) hy
set_option maxRecDepth 100000 in
set_option maxHeartbeats 4000000 in
theorem X2_takePrefixes_b84 {G : xG} {k : xK} {n0 : Nat} {Po : Int → xH → Prop} (C : CC G k cX2_takePrefixes RX2 5 rm_X2_takePrefixes) (E : CQ G k (some .boolean) rm_X2_takePrefixes (fun r n1 h1 => ∃ z : Int, r = some (.int (iz z)) ∧ n1 = n0 ∧ Po z h1)) (x0 : Nat) (x1 : Int) (x2 : Int) (x4 : Int) (n : Nat) (h : xH) (hn0 : n = n0) (hy : rg x4 ∧ ((x4 = 0 → X2_takePrefixes_w104 G k  n h) ∧ (¬ x4 = 0 → okO n h x0 2 ∧ rg (hG h x0 3) ∧ ((¬ (hG h x0 3) = 0 → X2_takePrefixes_w104 G k  n h) ∧ ((hG h x0 3) = 0 → okO n h x0 2 ∧ (∀ h7 : xH, h7 = hS h x0 3 x2 → X2_takePrefixes_w106 G k x0 x1 n h7)))))) : X2_takePrefixes_w84 G k x0 x1 x2 x4 n h := by
  subst hn0
  refine ww_iload C 4 3 rfl dX2_takePrefixes_84 ?_
  obtain ⟨p1, hy⟩ := hy
  refine ww_if_eq C (tg := 104) dX2_takePrefixes_86 (by decide) p1 (fun c2 => ?_) (fun c2 => ?_)
  · have hy := hy.1 c2
    exact ww_sub [] rfl (by decide) (by decide) hy
  · have hy := hy.2 c2
    refine ww_aload_n C 0 0 rfl rfl dX2_takePrefixes_89 ?_
    obtain ⟨p3, hy⟩ := hy
    refine gf_X2_25 C dX2_takePrefixes_90 p3 ?_
    obtain ⟨p4, hy⟩ := hy
    refine ww_if_ne C (tg := 104) dX2_takePrefixes_93 (by decide) p4 (fun c5 => ?_) (fun c5 => ?_)
    · have hy := hy.1 c5
      exact ww_sub [] rfl (by decide) (by decide) hy
    · have hy := hy.2 c5
      refine ww_aload_n C 0 0 rfl rfl dX2_takePrefixes_96 ?_
      refine ww_iload_n C 2 2 rfl rfl dX2_takePrefixes_97 ?_
      obtain ⟨p6, hy⟩ := hy
      have hy := hy _ rfl
      refine pf_X2_25I C dX2_takePrefixes_98 p6 ?_
      refine ww_goto C (tg := 106) dX2_takePrefixes_101 (by decide) ?_
      exact ww_sub [0, 1] rfl (by decide) (by decide) hy
set_option maxRecDepth 100000 in
set_option maxHeartbeats 4000000 in
theorem X2_takePrefixes_b106 {G : xG} {k : xK} {n0 : Nat} {Po : Int → xH → Prop} (C : CC G k cX2_takePrefixes RX2 5 rm_X2_takePrefixes) (E : CQ G k (some .boolean) rm_X2_takePrefixes (fun r n1 h1 => ∃ z : Int, r = some (.int (iz z)) ∧ n1 = n0 ∧ Po z h1)) (x0 : Nat) (x1 : Int) (n : Nat) (h : xH) (hn0 : n = n0) (hy : X2_takePrefixes_w2 G k x0 (x1 + 1) n h) : X2_takePrefixes_w106 G k x0 x1 n h := by
  subst hn0
  refine ww_iinc C 1 1 rfl (by decide) rfl dX2_takePrefixes_106 ?_
  refine ww_goto C (tg := 2) dX2_takePrefixes_109 (by decide) ?_
  exact ww_sub [1, 0] rfl (by decide) (by decide) hy
set_option maxRecDepth 100000 in
set_option maxHeartbeats 4000000 in
theorem X2_takePrefixes_b104 {G : xG} {k : xK} {n0 : Nat} {Po : Int → xH → Prop} (C : CC G k cX2_takePrefixes RX2 5 rm_X2_takePrefixes) (E : CQ G k (some .boolean) rm_X2_takePrefixes (fun r n1 h1 => ∃ z : Int, r = some (.int (iz z)) ∧ n1 = n0 ∧ Po z h1))  (n : Nat) (h : xH) (hn0 : n = n0) (hy : ((0 : Int) = 0 ∨ (0 : Int) = 1) ∧ Po (0 : Int) h) : X2_takePrefixes_w104 G k  n h := by
  subst hn0
  refine ww_iconst C (z := 0) dX2_takePrefixes_104 rfl ?_
  obtain ⟨p1, hy⟩ := hy
  exact ww_zret C E dX2_takePrefixes_105 (nz_b p1) (by decide) (by decide) ⟨_, rfl, rfl, hy⟩
abbrev X2_takeSign_w0 (G : xG) (k : xK) (x0 : Nat) (n : Nat) (h : xH) : Prop := WW G k 1 0 0 0 [(0, rf G x0)] [] n h
abbrev X2_takeSign_w15 (G : xG) (k : xK) (x0 : Nat) (s0 : Int) (s1 : Nat) (n : Nat) (h : xH) : Prop := WW G k 1 0 0 15 [(0, rf G x0)] [.int (iz s0), rf G s1] n h
abbrev X2_takeSign_w35 (G : xG) (k : xK) (x0 : Nat) (s0 : Nat) (n : Nat) (h : xH) : Prop := WW G k 1 0 0 35 [(0, rf G x0)] [rf G s0] n h
abbrev X2_takeSign_w40 (G : xG) (k : xK) (x0 : Nat) (s0 : Int) (s1 : Nat) (n : Nat) (h : xH) : Prop := WW G k 1 0 0 40 [(0, rf G x0)] [.int (iz s0), rf G s1] n h
abbrev X2_takeSign_w60 (G : xG) (k : xK)  (n : Nat) (h : xH) : Prop := WW G k 1 0 0 60 [] [] n h
theorem S_X2_takeSign_of {G : xG} {l : Launch} {x0 : Nat} {n : Nat} {h : xH} {Po : xH → Prop} (body : ∀ k : xK, kl k = l → CC G k cX2_takeSign RX2 1 rm_X2_takeSign → CQ G k none rm_X2_takeSign (fun r n1 h1 => r = none ∧ n1 = n ∧ Po h1) → X2_takeSign_w0 G k x0 n h) : S_X2_takeSign G l x0 n h Po := xS_of (by decide +kernel) (Nat.le_of_ble_eq_true rfl) rfl (fun k hl hnm C E => body k hl C E)
set_option maxRecDepth 100000 in
set_option maxHeartbeats 4000000 in
theorem X2_takeSign_b0 {G : xG} {k : xK} {n0 : Nat} {Po : xH → Prop} (C : CC G k cX2_takeSign RX2 1 rm_X2_takeSign) (E : CQ G k none rm_X2_takeSign (fun r n1 h1 => r = none ∧ n1 = n0 ∧ Po h1)) (x0 : Nat) (n : Nat) (h : xH) (hn0 : n = n0) (hy : okO n h x0 2 ∧ S_X2_current G (kl k) x0 n h (fun z2 h3 => (rg z2 ∧ rg (45 : Int)) ∧ ((¬ z2 = (45 : Int) → X2_takeSign_w15 G k x0 0 x0 n h3) ∧ (z2 = (45 : Int) → X2_takeSign_w15 G k x0 1 x0 n h3)))) : X2_takeSign_w0 G k x0 n h := by
  subst hn0
  refine ww_aload_n C 0 0 rfl rfl dX2_takeSign_0 ?_
  refine ww_aload_n C 0 0 rfl rfl dX2_takeSign_1 ?_
  obtain ⟨p1, hy⟩ := hy
  refine cl_X2_61 C dX2_takeSign_2 (Nat.le_of_ble_eq_true rfl) ⟨by decide, by decide⟩ ⟨by decide, by decide⟩ p1 ?_
  refine S_X2_current.mono hy (fun z2 h3 hy => ?_)
  refine ww_bipush C (z := 45) dX2_takeSign_5 rfl ?_
  obtain ⟨p4, hy⟩ := hy
  refine ww_icmp_ne C (tg := 14) dX2_takeSign_7 (by decide) p4.1 p4.2 (fun c5 => ?_) (fun c5 => ?_)
  · have hy := hy.1 c5
    refine ww_iconst C (z := 0) dX2_takeSign_14 rfl ?_
    exact ww_sub [0] rfl (by decide) (by decide) hy
  · have hy := hy.2 c5
    refine ww_iconst C (z := 1) dX2_takeSign_10 rfl ?_
    refine ww_goto C (tg := 15) dX2_takeSign_11 (by decide) ?_
    exact ww_sub [0] rfl (by decide) (by decide) hy
set_option maxRecDepth 100000 in
set_option maxHeartbeats 4000000 in
theorem X2_takeSign_b15 {G : xG} {k : xK} {n0 : Nat} {Po : xH → Prop} (C : CC G k cX2_takeSign RX2 1 rm_X2_takeSign) (E : CQ G k none rm_X2_takeSign (fun r n1 h1 => r = none ∧ n1 = n0 ∧ Po h1)) (x0 : Nat) (s0 : Int) (s1 : Nat) (n : Nat) (h : xH) (hn0 : n = n0) (hy : okO n h s1 2 ∧ (s0 = 0 ∨ s0 = 1) ∧ (∀ h3 : xH, h3 = hS h s1 5 s0 → okO n h3 x0 2 ∧ rg (hG h3 x0 5) ∧ ((¬ (hG h3 x0 5) = 0 → X2_takeSign_w35 G k x0 x0 n h3) ∧ ((hG h3 x0 5) = 0 → okO n h3 x0 2 ∧ S_X2_current G (kl k) x0 n h3 (fun z8 h9 => (rg z8 ∧ rg (43 : Int)) ∧ ((¬ z8 = (43 : Int) → X2_takeSign_w40 G k x0 0 x0 n h9) ∧ (z8 = (43 : Int) → X2_takeSign_w35 G k x0 x0 n h9))))))) : X2_takeSign_w15 G k x0 s0 s1 n h := by
  subst hn0
  obtain ⟨p1, hy⟩ := hy
  obtain ⟨p2, hy⟩ := hy
  have hy := hy _ rfl
  refine pf_X2_32I C dX2_takeSign_15 p1 p2 ?_
  refine ww_aload_n C 0 0 rfl rfl dX2_takeSign_18 ?_
  refine ww_aload_n C 0 0 rfl rfl dX2_takeSign_19 ?_
  obtain ⟨p4, hy⟩ := hy
  refine gf_X2_32 C dX2_takeSign_20 p4 ?_
  obtain ⟨p5, hy⟩ := hy
  refine ww_if_ne C (tg := 35) dX2_takeSign_23 (by decide) p5 (fun c6 => ?_) (fun c6 => ?_)
  · have hy := hy.1 c6
    exact ww_sub [0] rfl (by decide) (by decide) hy
  · have hy := hy.2 c6
    refine ww_aload_n C 0 0 rfl rfl dX2_takeSign_26 ?_
    obtain ⟨p7, hy⟩ := hy
    refine cl_X2_61 C dX2_takeSign_27 (Nat.le_of_ble_eq_true rfl) ⟨by decide, by decide⟩ ⟨by decide, by decide⟩ p7 ?_
    refine S_X2_current.mono hy (fun z8 h9 hy => ?_)
    refine ww_bipush C (z := 43) dX2_takeSign_30 rfl ?_
    obtain ⟨p10, hy⟩ := hy
    refine ww_icmp_ne C (tg := 39) dX2_takeSign_32 (by decide) p10.1 p10.2 (fun c11 => ?_) (fun c11 => ?_)
    · have hy := hy.1 c11
      refine ww_iconst C (z := 0) dX2_takeSign_39 rfl ?_
      exact ww_sub [0] rfl (by decide) (by decide) hy
    · have hy := hy.2 c11
      exact ww_sub [0] rfl (by decide) (by decide) hy
set_option maxRecDepth 100000 in
set_option maxHeartbeats 4000000 in
theorem X2_takeSign_b35 {G : xG} {k : xK} {n0 : Nat} {Po : xH → Prop} (C : CC G k cX2_takeSign RX2 1 rm_X2_takeSign) (E : CQ G k none rm_X2_takeSign (fun r n1 h1 => r = none ∧ n1 = n0 ∧ Po h1)) (x0 : Nat) (s0 : Nat) (n : Nat) (h : xH) (hn0 : n = n0) (hy : X2_takeSign_w40 G k x0 1 s0 n h) : X2_takeSign_w35 G k x0 s0 n h := by
  subst hn0
  refine ww_iconst C (z := 1) dX2_takeSign_35 rfl ?_
  refine ww_goto C (tg := 40) dX2_takeSign_36 (by decide) ?_
  exact ww_sub [0] rfl (by decide) (by decide) hy
set_option maxRecDepth 100000 in
set_option maxHeartbeats 4000000 in
theorem X2_takeSign_b40 {G : xG} {k : xK} {n0 : Nat} {Po : xH → Prop} (C : CC G k cX2_takeSign RX2 1 rm_X2_takeSign) (E : CQ G k none rm_X2_takeSign (fun r n1 h1 => r = none ∧ n1 = n0 ∧ Po h1)) (x0 : Nat) (s0 : Int) (s1 : Nat) (n : Nat) (h : xH) (hn0 : n = n0) (hy : okO n h s1 2 ∧ (s0 = 0 ∨ s0 = 1) ∧ (∀ h3 : xH, h3 = hS h s1 4 s0 → okO n h3 x0 2 ∧ rg (hG h3 x0 4) ∧ (((hG h3 x0 4) = 0 → X2_takeSign_w60 G k  n h3) ∧ (¬ (hG h3 x0 4) = 0 → okO n h3 x0 2 ∧ okO n h3 x0 2 ∧ (∀ h9 : xH, h9 = hS h3 x0 1 ((hG h3 x0 1) + 1) → X2_takeSign_w60 G k  n h9))))) : X2_takeSign_w40 G k x0 s0 s1 n h := by
  subst hn0
  obtain ⟨p1, hy⟩ := hy
  obtain ⟨p2, hy⟩ := hy
  have hy := hy _ rfl
  refine pf_X2_28I C dX2_takeSign_40 p1 p2 ?_
  refine ww_aload_n C 0 0 rfl rfl dX2_takeSign_43 ?_
  obtain ⟨p4, hy⟩ := hy
  refine gf_X2_28 C dX2_takeSign_44 p4 ?_
  obtain ⟨p5, hy⟩ := hy
  refine ww_if_eq C (tg := 60) dX2_takeSign_47 (by decide) p5 (fun c6 => ?_) (fun c6 => ?_)
  · have hy := hy.1 c6
    exact ww_sub [] rfl (by decide) (by decide) hy
  · have hy := hy.2 c6
    refine ww_aload_n C 0 0 rfl rfl dX2_takeSign_50 ?_
    refine ww_dup C rfl dX2_takeSign_51 ?_
    obtain ⟨p7, hy⟩ := hy
    refine gf_X2_18 C dX2_takeSign_52 p7 ?_
    refine ww_iconst C (z := 1) dX2_takeSign_55 rfl ?_
    refine ww_iadd C dX2_takeSign_56 ?_
    obtain ⟨p8, hy⟩ := hy
    have hy := hy _ rfl
    refine pf_X2_18I C dX2_takeSign_57 p8 ?_
    exact ww_sub [] rfl (by decide) (by decide) hy
set_option maxRecDepth 100000 in
set_option maxHeartbeats 4000000 in
theorem X2_takeSign_b60 {G : xG} {k : xK} {n0 : Nat} {Po : xH → Prop} (C : CC G k cX2_takeSign RX2 1 rm_X2_takeSign) (E : CQ G k none rm_X2_takeSign (fun r n1 h1 => r = none ∧ n1 = n0 ∧ Po h1))  (n : Nat) (h : xH) (hn0 : n = n0) (hy : Po h) : X2_takeSign_w60 G k  n h := by
  subst hn0
  exact ww_vret C E dX2_takeSign_60 (by decide) (by decide) ⟨rfl, rfl, hy⟩
abbrev X2_takeWord_w0 (G : xG) (k : xK) (x0 : Nat) (x1 : Nat) (n : Nat) (h : xH) : Prop := WW G k 3 0 0 0 [(0, rf G x0), (1, .ref (G.2.2.2.2.1 x1))] [] n h
abbrev X2_takeWord_w2 (G : xG) (k : xK) (x0 : Nat) (x1 : Nat) (x2 : Int) (n : Nat) (h : xH) : Prop := WW G k 3 0 0 2 [(0, rf G x0), (1, .ref (G.2.2.2.2.1 x1)), (2, .int (iz x2))] [] n h
theorem S_X2_takeWord_of {G : xG} {l : Launch} {x0 : Nat} {x1 : Nat} {n : Nat} {h : xH} {Po : Int → xH → Prop} (body : ∀ k : xK, kl k = l → CC G k cX2_takeWord RX2 3 rm_X2_takeWord → CQ G k (some .boolean) rm_X2_takeWord (fun r n1 h1 => ∃ z : Int, r = some (.int (iz z)) ∧ n1 = n ∧ Po z h1) → X2_takeWord_w0 G k x0 x1 n h) : S_X2_takeWord G l x0 x1 n h Po := xS_of (by decide +kernel) (Nat.le_of_ble_eq_true rfl) rfl (fun k hl hnm C E => body k hl C E)
set_option maxRecDepth 100000 in
set_option maxHeartbeats 4000000 in
theorem X2_takeWord_b0 {G : xG} {k : xK} {n0 : Nat} {Po : Int → xH → Prop} (C : CC G k cX2_takeWord RX2 3 rm_X2_takeWord) (E : CQ G k (some .boolean) rm_X2_takeWord (fun r n1 h1 => ∃ z : Int, r = some (.int (iz z)) ∧ n1 = n0 ∧ Po z h1)) (x0 : Nat) (x1 : Nat) (n : Nat) (h : xH) (hn0 : n = n0) (hy : X2_takeWord_w2 G k x0 x1 0 n h) : X2_takeWord_w0 G k x0 x1 n h := by
  subst hn0
  refine ww_iconst C (z := 0) dX2_takeWord_0 rfl ?_
  refine ww_istore_n C 2 rfl (by decide) rfl dX2_takeWord_1 ?_
  exact ww_sub [1, 2, 0] rfl (by decide) (by decide) hy
set_option maxRecDepth 100000 in
set_option maxHeartbeats 4000000 in
theorem X2_takeWord_b2 {G : xG} {k : xK} {n0 : Nat} {Po : Int → xH → Prop} (C : CC G k cX2_takeWord RX2 3 rm_X2_takeWord) (E : CQ G k (some .boolean) rm_X2_takeWord (fun r n1 h1 => ∃ z : Int, r = some (.int (iz z)) ∧ n1 = n0 ∧ Po z h1)) (x0 : Nat) (x1 : Nat) (x2 : Int) (n : Nat) (h : xH) (hn0 : n = n0) (hy : x1 < 8 ∧ S_J0_length_8abf5 G (kl k) x1 n h (fun z2 h3 => (rg x2 ∧ rg z2) ∧ ((z2 ≤ x2 → okO n h3 x0 2 ∧ x1 < 8 ∧ S_J0_length_8abf5 G (kl k) x1 n h3 (fun z8 h9 => okO n h9 x0 2 ∧ (∀ h11 : xH, h11 = hS h9 x0 1 ((hG h3 x0 1) + z8) → ((1 : Int) = 0 ∨ (1 : Int) = 1) ∧ Po (1 : Int) h11))) ∧ (¬ z2 ≤ x2 → okO n h3 x0 2 ∧ 0 ≤ hG h3 x0 0 ∧ okO n h3 x0 2 ∧ okO n h3 ((hG h3 x0 0).toNat) 0 ∧ S_X0_codeAt G (kl k) ((hG h3 x0 0).toNat) ((hG h3 x0 1) + x2) n h3 (fun z17 h18 => x1 < 8 ∧ S_J0_charAt_5068e G (kl k) x1 x2 n h18 (fun z20 h21 => (rg z17 ∧ rg z20) ∧ ((z17 = z20 → X2_takeWord_w2 G k x0 x1 (x2 + 1) n h21) ∧ (¬ z17 = z20 → ((0 : Int) = 0 ∨ (0 : Int) = 1) ∧ Po (0 : Int) h21)))))))) : X2_takeWord_w2 G k x0 x1 x2 n h := by
  subst hn0
  refine ww_iload_n C 2 2 rfl rfl dX2_takeWord_2 ?_
  refine ww_aload_n C 1 1 rfl rfl dX2_takeWord_3 ?_
  obtain ⟨p1, hy⟩ := hy
  refine cl_X2_101 C dX2_takeWord_4 (Nat.le_of_ble_eq_true rfl) ⟨by decide, by decide⟩ ⟨by decide, by decide⟩ p1 ?_
  refine S_J0_length_8abf5.mono hy (fun z2 h3 hy => ?_)
  obtain ⟨p4, hy⟩ := hy
  refine ww_icmp_ge C (tg := 39) dX2_takeWord_7 (by decide) p4.1 p4.2 (fun c5 => ?_) (fun c5 => ?_)
  · have hy := hy.1 c5
    refine ww_aload_n C 0 0 rfl rfl dX2_takeWord_39 ?_
    refine ww_dup C rfl dX2_takeWord_40 ?_
    obtain ⟨p6, hy⟩ := hy
    refine gf_X2_18 C dX2_takeWord_41 p6 ?_
    refine ww_aload_n C 1 1 rfl rfl dX2_takeWord_44 ?_
    obtain ⟨p7, hy⟩ := hy
    refine cl_X2_101 C dX2_takeWord_45 (Nat.le_of_ble_eq_true rfl) ⟨by decide, by decide⟩ ⟨by decide, by decide⟩ p7 ?_
    refine S_J0_length_8abf5.mono hy (fun z8 h9 hy => ?_)
    refine ww_iadd C dX2_takeWord_48 ?_
    obtain ⟨p10, hy⟩ := hy
    have hy := hy _ rfl
    refine pf_X2_18I C dX2_takeWord_49 p10 ?_
    refine ww_iconst C (z := 1) dX2_takeWord_52 rfl ?_
    obtain ⟨p12, hy⟩ := hy
    exact ww_zret C E dX2_takeWord_53 (nz_b p12) (by decide) (by decide) ⟨_, rfl, rfl, hy⟩
  · have hy := hy.2 c5
    refine ww_aload_n C 0 0 rfl rfl dX2_takeWord_10 ?_
    obtain ⟨p13, hy⟩ := hy
    obtain ⟨p14, hy⟩ := hy
    refine gf_X2_12 C dX2_takeWord_11 p13 p14 ?_
    refine ww_aload_n C 0 0 rfl rfl dX2_takeWord_14 ?_
    obtain ⟨p15, hy⟩ := hy
    refine gf_X2_18 C dX2_takeWord_15 p15 ?_
    refine ww_iload_n C 2 2 rfl rfl dX2_takeWord_18 ?_
    refine ww_iadd C dX2_takeWord_19 ?_
    obtain ⟨p16, hy⟩ := hy
    refine cl_X2_106 C dX2_takeWord_20 (Nat.le_of_ble_eq_true rfl) ⟨by decide, by decide⟩ ⟨by decide, by decide⟩ p16 ?_
    refine S_X0_codeAt.mono hy (fun z17 h18 hy => ?_)
    refine ww_aload_n C 1 1 rfl rfl dX2_takeWord_23 ?_
    refine ww_iload_n C 2 2 rfl rfl dX2_takeWord_24 ?_
    obtain ⟨p19, hy⟩ := hy
    refine cl_X2_109 C dX2_takeWord_25 (Nat.le_of_ble_eq_true rfl) ⟨by decide, by decide⟩ ⟨by decide, by decide⟩ p19 ?_
    refine S_J0_charAt_5068e.mono hy (fun z20 h21 hy => ?_)
    obtain ⟨p22, hy⟩ := hy
    refine ww_icmp_eq C (tg := 33) dX2_takeWord_28 (by decide) p22.1 p22.2 (fun c23 => ?_) (fun c23 => ?_)
    · have hy := hy.1 c23
      refine ww_iinc C 2 2 rfl (by decide) rfl dX2_takeWord_33 ?_
      refine ww_goto C (tg := 2) dX2_takeWord_36 (by decide) ?_
      exact ww_sub [1, 2, 0] rfl (by decide) (by decide) hy
    · have hy := hy.2 c23
      refine ww_iconst C (z := 0) dX2_takeWord_31 rfl ?_
      obtain ⟨p24, hy⟩ := hy
      exact ww_zret C E dX2_takeWord_32 (nz_b p24) (by decide) (by decide) ⟨_, rfl, rfl, hy⟩
abbrev X2_currentDigit_w0 (G : xG) (k : xK) (x0 : Nat) (n : Nat) (h : xH) : Prop := WW G k 3 0 0 0 [(0, rf G x0)] [] n h
abbrev X2_currentDigit_w34 (G : xG) (k : xK) (x0 : Nat) (x1 : Int) (x2 : Int) (n : Nat) (h : xH) : Prop := WW G k 3 0 0 34 [(0, rf G x0), (1, .int (iz x1)), (2, .int (iz x2))] [] n h
abbrev X2_currentDigit_w77 (G : xG) (k : xK) (x0 : Nat) (x2 : Int) (n : Nat) (h : xH) : Prop := WW G k 3 0 0 77 [(0, rf G x0), (2, .int (iz x2))] [] n h
abbrev X2_currentDigit_w57 (G : xG) (k : xK) (x0 : Nat) (x1 : Int) (x2 : Int) (n : Nat) (h : xH) : Prop := WW G k 3 0 0 57 [(0, rf G x0), (1, .int (iz x1)), (2, .int (iz x2))] [] n h
abbrev X2_currentDigit_w90 (G : xG) (k : xK) (s0 : Int) (n : Nat) (h : xH) : Prop := WW G k 3 0 0 90 [] [.int (iz s0)] n h
theorem S_X2_currentDigit_of {G : xG} {l : Launch} {x0 : Nat} {n : Nat} {h : xH} {Po : Int → xH → Prop} (body : ∀ k : xK, kl k = l → CC G k cX2_currentDigit RX2 3 rm_X2_currentDigit → CQ G k (some .int) rm_X2_currentDigit (fun r n1 h1 => ∃ z : Int, r = some (.int (iz z)) ∧ n1 = n ∧ Po z h1) → X2_currentDigit_w0 G k x0 n h) : S_X2_currentDigit G l x0 n h Po := xS_of (by decide +kernel) (Nat.le_of_ble_eq_true rfl) rfl (fun k hl hnm C E => body k hl C E)
set_option maxRecDepth 100000 in
set_option maxHeartbeats 4000000 in
theorem X2_currentDigit_b0 {G : xG} {k : xK} {n0 : Nat} {Po : Int → xH → Prop} (C : CC G k cX2_currentDigit RX2 3 rm_X2_currentDigit) (E : CQ G k (some .int) rm_X2_currentDigit (fun r n1 h1 => ∃ z : Int, r = some (.int (iz z)) ∧ n1 = n0 ∧ Po z h1)) (x0 : Nat) (n : Nat) (h : xH) (hn0 : n = n0) (hy : okO n h x0 2 ∧ 0 ≤ hG h x0 0 ∧ okO n h x0 2 ∧ okO n h ((hG h x0 0).toNat) 0 ∧ S_X0_codeAt G (kl k) ((hG h x0 0).toNat) (hG h x0 1) n h (fun z5 h6 => (rg z5 ∧ rg (48 : Int)) ∧ ((z5 < (48 : Int) → X2_currentDigit_w34 G k x0 z5 (-1) n h6) ∧ (¬ z5 < (48 : Int) → (rg z5 ∧ rg (57 : Int)) ∧ (((57 : Int) < z5 → X2_currentDigit_w34 G k x0 z5 (-1) n h6) ∧ (¬ (57 : Int) < z5 → X2_currentDigit_w77 G k x0 (z5 - 48) n h6)))))) : X2_currentDigit_w0 G k x0 n h := by
  subst hn0
  refine ww_aload_n C 0 0 rfl rfl dX2_currentDigit_0 ?_
  obtain ⟨p1, hy⟩ := hy
  obtain ⟨p2, hy⟩ := hy
  refine gf_X2_12 C dX2_currentDigit_1 p1 p2 ?_
  refine ww_aload_n C 0 0 rfl rfl dX2_currentDigit_4 ?_
  obtain ⟨p3, hy⟩ := hy
  refine gf_X2_18 C dX2_currentDigit_5 p3 ?_
  obtain ⟨p4, hy⟩ := hy
  refine cl_X2_106 C dX2_currentDigit_8 (Nat.le_of_ble_eq_true rfl) ⟨by decide, by decide⟩ ⟨by decide, by decide⟩ p4 ?_
  refine S_X0_codeAt.mono hy (fun z5 h6 hy => ?_)
  refine ww_istore_n C 1 rfl (by decide) rfl dX2_currentDigit_11 ?_
  refine ww_iconst C (z := (-1)) dX2_currentDigit_12 rfl ?_
  refine ww_istore_n C 2 rfl (by decide) rfl dX2_currentDigit_13 ?_
  refine ww_iload_n C 1 1 rfl rfl dX2_currentDigit_14 ?_
  refine ww_bipush C (z := 48) dX2_currentDigit_15 rfl ?_
  obtain ⟨p7, hy⟩ := hy
  refine ww_icmp_lt C (tg := 34) dX2_currentDigit_17 (by decide) p7.1 p7.2 (fun c8 => ?_) (fun c8 => ?_)
  · have hy := hy.1 c8
    exact ww_sub [2, 1, 0] rfl (by decide) (by decide) hy
  · have hy := hy.2 c8
    refine ww_iload_n C 1 1 rfl rfl dX2_currentDigit_20 ?_
    refine ww_bipush C (z := 57) dX2_currentDigit_21 rfl ?_
    obtain ⟨p9, hy⟩ := hy
    refine ww_icmp_gt C (tg := 34) dX2_currentDigit_23 (by decide) p9.1 p9.2 (fun c10 => ?_) (fun c10 => ?_)
    · have hy := hy.1 c10
      exact ww_sub [2, 1, 0] rfl (by decide) (by decide) hy
    · have hy := hy.2 c10
      refine ww_iload_n C 1 1 rfl rfl dX2_currentDigit_26 ?_
      refine ww_bipush C (z := 48) dX2_currentDigit_27 rfl ?_
      refine ww_isub C dX2_currentDigit_29 ?_
      refine ww_istore_n C 2 rfl (by decide) rfl dX2_currentDigit_30 ?_
      refine ww_goto C (tg := 77) dX2_currentDigit_31 (by decide) ?_
      exact ww_sub [2, 0] rfl (by decide) (by decide) hy
set_option maxRecDepth 100000 in
set_option maxHeartbeats 4000000 in
theorem X2_currentDigit_b34 {G : xG} {k : xK} {n0 : Nat} {Po : Int → xH → Prop} (C : CC G k cX2_currentDigit RX2 3 rm_X2_currentDigit) (E : CQ G k (some .int) rm_X2_currentDigit (fun r n1 h1 => ∃ z : Int, r = some (.int (iz z)) ∧ n1 = n0 ∧ Po z h1)) (x0 : Nat) (x1 : Int) (x2 : Int) (n : Nat) (h : xH) (hn0 : n = n0) (hy : (rg x1 ∧ rg (97 : Int)) ∧ ((x1 < (97 : Int) → X2_currentDigit_w57 G k x0 x1 x2 n h) ∧ (¬ x1 < (97 : Int) → (rg x1 ∧ rg (102 : Int)) ∧ (((102 : Int) < x1 → X2_currentDigit_w57 G k x0 x1 x2 n h) ∧ (¬ (102 : Int) < x1 → X2_currentDigit_w77 G k x0 ((x1 - 97) + 10) n h))))) : X2_currentDigit_w34 G k x0 x1 x2 n h := by
  subst hn0
  refine ww_iload_n C 1 1 rfl rfl dX2_currentDigit_34 ?_
  refine ww_bipush C (z := 97) dX2_currentDigit_35 rfl ?_
  obtain ⟨p1, hy⟩ := hy
  refine ww_icmp_lt C (tg := 57) dX2_currentDigit_37 (by decide) p1.1 p1.2 (fun c2 => ?_) (fun c2 => ?_)
  · have hy := hy.1 c2
    exact ww_sub [0, 1, 2] rfl (by decide) (by decide) hy
  · have hy := hy.2 c2
    refine ww_iload_n C 1 1 rfl rfl dX2_currentDigit_40 ?_
    refine ww_bipush C (z := 102) dX2_currentDigit_41 rfl ?_
    obtain ⟨p3, hy⟩ := hy
    refine ww_icmp_gt C (tg := 57) dX2_currentDigit_43 (by decide) p3.1 p3.2 (fun c4 => ?_) (fun c4 => ?_)
    · have hy := hy.1 c4
      exact ww_sub [0, 1, 2] rfl (by decide) (by decide) hy
    · have hy := hy.2 c4
      refine ww_iload_n C 1 1 rfl rfl dX2_currentDigit_46 ?_
      refine ww_bipush C (z := 97) dX2_currentDigit_47 rfl ?_
      refine ww_isub C dX2_currentDigit_49 ?_
      refine ww_bipush C (z := 10) dX2_currentDigit_50 rfl ?_
      refine ww_iadd C dX2_currentDigit_52 ?_
      refine ww_istore_n C 2 rfl (by decide) rfl dX2_currentDigit_53 ?_
      refine ww_goto C (tg := 77) dX2_currentDigit_54 (by decide) ?_
      exact ww_sub [1, 0] rfl (by decide) (by decide) hy
set_option maxRecDepth 100000 in
set_option maxHeartbeats 4000000 in
theorem X2_currentDigit_b77 {G : xG} {k : xK} {n0 : Nat} {Po : Int → xH → Prop} (C : CC G k cX2_currentDigit RX2 3 rm_X2_currentDigit) (E : CQ G k (some .int) rm_X2_currentDigit (fun r n1 h1 => ∃ z : Int, r = some (.int (iz z)) ∧ n1 = n0 ∧ Po z h1)) (x0 : Nat) (x2 : Int) (n : Nat) (h : xH) (hn0 : n = n0) (hy : okO n h x0 2 ∧ (rg x2 ∧ rg (hG h x0 2)) ∧ (((hG h x0 2) ≤ x2 → X2_currentDigit_w90 G k (-1) n h) ∧ (¬ (hG h x0 2) ≤ x2 → X2_currentDigit_w90 G k x2 n h))) : X2_currentDigit_w77 G k x0 x2 n h := by
  subst hn0
  refine ww_iload_n C 2 1 rfl rfl dX2_currentDigit_77 ?_
  refine ww_aload_n C 0 0 rfl rfl dX2_currentDigit_78 ?_
  obtain ⟨p1, hy⟩ := hy
  refine gf_X2_22 C dX2_currentDigit_79 p1 ?_
  obtain ⟨p2, hy⟩ := hy
  refine ww_icmp_ge C (tg := 89) dX2_currentDigit_82 (by decide) p2.1 p2.2 (fun c3 => ?_) (fun c3 => ?_)
  · have hy := hy.1 c3
    refine ww_iconst C (z := (-1)) dX2_currentDigit_89 rfl ?_
    exact ww_sub [] rfl (by decide) (by decide) hy
  · have hy := hy.2 c3
    refine ww_iload_n C 2 1 rfl rfl dX2_currentDigit_85 ?_
    refine ww_goto C (tg := 90) dX2_currentDigit_86 (by decide) ?_
    exact ww_sub [] rfl (by decide) (by decide) hy
set_option maxRecDepth 100000 in
set_option maxHeartbeats 4000000 in
theorem X2_currentDigit_b57 {G : xG} {k : xK} {n0 : Nat} {Po : Int → xH → Prop} (C : CC G k cX2_currentDigit RX2 3 rm_X2_currentDigit) (E : CQ G k (some .int) rm_X2_currentDigit (fun r n1 h1 => ∃ z : Int, r = some (.int (iz z)) ∧ n1 = n0 ∧ Po z h1)) (x0 : Nat) (x1 : Int) (x2 : Int) (n : Nat) (h : xH) (hn0 : n = n0) (hy : (rg x1 ∧ rg (65 : Int)) ∧ ((x1 < (65 : Int) → X2_currentDigit_w77 G k x0 x2 n h) ∧ (¬ x1 < (65 : Int) → (rg x1 ∧ rg (70 : Int)) ∧ (((70 : Int) < x1 → X2_currentDigit_w77 G k x0 x2 n h) ∧ (¬ (70 : Int) < x1 → X2_currentDigit_w77 G k x0 ((x1 - 65) + 10) n h))))) : X2_currentDigit_w57 G k x0 x1 x2 n h := by
  subst hn0
  refine ww_iload_n C 1 1 rfl rfl dX2_currentDigit_57 ?_
  refine ww_bipush C (z := 65) dX2_currentDigit_58 rfl ?_
  obtain ⟨p1, hy⟩ := hy
  refine ww_icmp_lt C (tg := 77) dX2_currentDigit_60 (by decide) p1.1 p1.2 (fun c2 => ?_) (fun c2 => ?_)
  · have hy := hy.1 c2
    exact ww_sub [0, 2] rfl (by decide) (by decide) hy
  · have hy := hy.2 c2
    refine ww_iload_n C 1 1 rfl rfl dX2_currentDigit_63 ?_
    refine ww_bipush C (z := 70) dX2_currentDigit_64 rfl ?_
    obtain ⟨p3, hy⟩ := hy
    refine ww_icmp_gt C (tg := 77) dX2_currentDigit_66 (by decide) p3.1 p3.2 (fun c4 => ?_) (fun c4 => ?_)
    · have hy := hy.1 c4
      exact ww_sub [0, 2] rfl (by decide) (by decide) hy
    · have hy := hy.2 c4
      refine ww_iload_n C 1 1 rfl rfl dX2_currentDigit_69 ?_
      refine ww_bipush C (z := 65) dX2_currentDigit_70 rfl ?_
      refine ww_isub C dX2_currentDigit_72 ?_
      refine ww_bipush C (z := 10) dX2_currentDigit_73 rfl ?_
      refine ww_iadd C dX2_currentDigit_75 ?_
      refine ww_istore_n C 2 rfl (by decide) rfl dX2_currentDigit_76 ?_
      exact ww_sub [1, 0] rfl (by decide) (by decide) hy
set_option maxRecDepth 100000 in
set_option maxHeartbeats 4000000 in
theorem X2_currentDigit_b90 {G : xG} {k : xK} {n0 : Nat} {Po : Int → xH → Prop} (C : CC G k cX2_currentDigit RX2 3 rm_X2_currentDigit) (E : CQ G k (some .int) rm_X2_currentDigit (fun r n1 h1 => ∃ z : Int, r = some (.int (iz z)) ∧ n1 = n0 ∧ Po z h1)) (s0 : Int) (n : Nat) (h : xH) (hn0 : n = n0) (hy : Po s0 h) : X2_currentDigit_w90 G k s0 n h := by
  subst hn0
  exact ww_iret C E dX2_currentDigit_90 (by decide) (by decide) ⟨_, rfl, rfl, hy⟩
abbrev X2_takeDigits_w0 (G : xG) (k : xK) (x0 : Nat) (x1 : Nat) (n : Nat) (h : xH) : Prop := WW G k 3 0 0 0 [(0, rf G x0), (1, rf G x1)] [] n h
abbrev X2_takeDigits_w2 (G : xG) (k : xK) (x0 : Nat) (x1 : Nat) (x2 : Int) (n : Nat) (h : xH) : Prop := WW G k 3 0 0 2 [(0, rf G x0), (1, rf G x1), (2, .int (iz x2))] [] n h
abbrev X2_takeDigits_w61 (G : xG) (k : xK) (x2 : Int) (n : Nat) (h : xH) : Prop := WW G k 3 0 0 61 [(2, .int (iz x2))] [] n h
abbrev X2_takeDigits_w45 (G : xG) (k : xK) (x0 : Nat) (x1 : Nat) (x2 : Int) (n : Nat) (h : xH) : Prop := WW G k 3 0 0 45 [(0, rf G x0), (1, rf G x1), (2, .int (iz x2))] [] n h
theorem S_X2_takeDigits_of {G : xG} {l : Launch} {x0 : Nat} {x1 : Nat} {n : Nat} {h : xH} {Po : Int → xH → Prop} (body : ∀ k : xK, kl k = l → CC G k cX2_takeDigits RX2 3 rm_X2_takeDigits → CQ G k (some .int) rm_X2_takeDigits (fun r n1 h1 => ∃ z : Int, r = some (.int (iz z)) ∧ n1 = n ∧ Po z h1) → X2_takeDigits_w0 G k x0 x1 n h) : S_X2_takeDigits G l x0 x1 n h Po := xS_of (by decide +kernel) (Nat.le_of_ble_eq_true rfl) rfl (fun k hl hnm C E => body k hl C E)
set_option maxRecDepth 100000 in
set_option maxHeartbeats 4000000 in
theorem X2_takeDigits_b0 {G : xG} {k : xK} {n0 : Nat} {Po : Int → xH → Prop} (C : CC G k cX2_takeDigits RX2 3 rm_X2_takeDigits) (E : CQ G k (some .int) rm_X2_takeDigits (fun r n1 h1 => ∃ z : Int, r = some (.int (iz z)) ∧ n1 = n0 ∧ Po z h1)) (x0 : Nat) (x1 : Nat) (n : Nat) (h : xH) (hn0 : n = n0) (hy : X2_takeDigits_w2 G k x0 x1 0 n h) : X2_takeDigits_w0 G k x0 x1 n h := by
  subst hn0
  refine ww_iconst C (z := 0) dX2_takeDigits_0 rfl ?_
  refine ww_istore_n C 2 rfl (by decide) rfl dX2_takeDigits_1 ?_
  exact ww_sub [1, 2, 0] rfl (by decide) (by decide) hy
set_option maxRecDepth 100000 in
set_option maxHeartbeats 4000000 in
theorem X2_takeDigits_b2 {G : xG} {k : xK} {n0 : Nat} {Po : Int → xH → Prop} (C : CC G k cX2_takeDigits RX2 3 rm_X2_takeDigits) (E : CQ G k (some .int) rm_X2_takeDigits (fun r n1 h1 => ∃ z : Int, r = some (.int (iz z)) ∧ n1 = n0 ∧ Po z h1)) (x0 : Nat) (x1 : Nat) (x2 : Int) (n : Nat) (h : xH) (hn0 : n = n0) (hy : (rg x2 ∧ rg (400 : Int)) ∧ (((400 : Int) ≤ x2 → X2_takeDigits_w61 G k x2 n h) ∧ (¬ (400 : Int) ≤ x2 → okO n h x0 2 ∧ S_X2_currentDigit G (kl k) x0 n h (fun z4 h5 => rg z4 ∧ ((z4 < 0 → X2_takeDigits_w61 G k x2 n h5) ∧ (¬ z4 < 0 → okO n h5 x0 2 ∧ okO n h5 x0 2 ∧ S_X2_currentDigit G (kl k) x0 n h5 (fun z10 h11 => okO n h11 x1 1 ∧ S_X1_multiplyAdd G (kl k) x1 (hG h5 x0 2) z10 n h11 (fun h13 => okO n h13 x1 1 ∧ S_X1_isZero G (kl k) x1 n h13 (fun z15 h16 => rg z15 ∧ ((¬ z15 = 0 → X2_takeDigits_w45 G k x0 x1 x2 n h16) ∧ (z15 = 0 → okO n h16 x0 2 ∧ okO n h16 x0 2 ∧ (∀ h21 : xH, h21 = hS h16 x0 7 ((hG h16 x0 7) + 1) → X2_takeDigits_w45 G k x0 x1 x2 n h21)))))))))))) : X2_takeDigits_w2 G k x0 x1 x2 n h := by
  subst hn0
  refine ww_iload_n C 2 2 rfl rfl dX2_takeDigits_2 ?_
  refine ww_sipush C (z := 400) dX2_takeDigits_3 rfl ?_
  obtain ⟨p1, hy⟩ := hy
  refine ww_icmp_ge C (tg := 61) dX2_takeDigits_6 (by decide) p1.1 p1.2 (fun c2 => ?_) (fun c2 => ?_)
  · have hy := hy.1 c2
    exact ww_sub [2] rfl (by decide) (by decide) hy
  · have hy := hy.2 c2
    refine ww_aload_n C 0 0 rfl rfl dX2_takeDigits_9 ?_
    obtain ⟨p3, hy⟩ := hy
    refine cl_X2_94 C dX2_takeDigits_10 (Nat.le_of_ble_eq_true rfl) ⟨by decide, by decide⟩ ⟨by decide, by decide⟩ p3 ?_
    refine S_X2_currentDigit.mono hy (fun z4 h5 hy => ?_)
    obtain ⟨p6, hy⟩ := hy
    refine ww_if_lt C (tg := 61) dX2_takeDigits_13 (by decide) p6 (fun c7 => ?_) (fun c7 => ?_)
    · have hy := hy.1 c7
      exact ww_sub [2] rfl (by decide) (by decide) hy
    · have hy := hy.2 c7
      refine ww_aload_n C 1 1 rfl rfl dX2_takeDigits_16 ?_
      refine ww_aload_n C 0 0 rfl rfl dX2_takeDigits_17 ?_
      obtain ⟨p8, hy⟩ := hy
      refine gf_X2_22 C dX2_takeDigits_18 p8 ?_
      refine ww_aload_n C 0 0 rfl rfl dX2_takeDigits_21 ?_
      obtain ⟨p9, hy⟩ := hy
      refine cl_X2_94 C dX2_takeDigits_22 (Nat.le_of_ble_eq_true rfl) ⟨by decide, by decide⟩ ⟨by decide, by decide⟩ p9 ?_
      refine S_X2_currentDigit.mono hy (fun z10 h11 hy => ?_)
      obtain ⟨p12, hy⟩ := hy
      refine cl_X2_113 C dX2_takeDigits_25 (Nat.le_of_ble_eq_true rfl) ⟨by decide, by decide⟩ ⟨by decide, by decide⟩ p12 ?_
      refine S_X1_multiplyAdd.mono hy (fun h13 hy => ?_)
      refine ww_aload_n C 1 1 rfl rfl dX2_takeDigits_28 ?_
      obtain ⟨p14, hy⟩ := hy
      refine cl_X2_80 C dX2_takeDigits_29 (Nat.le_of_ble_eq_true rfl) ⟨by decide, by decide⟩ ⟨by decide, by decide⟩ p14 ?_
      refine S_X1_isZero.mono hy (fun z15 h16 hy => ?_)
      obtain ⟨p17, hy⟩ := hy
      refine ww_if_ne C (tg := 45) dX2_takeDigits_32 (by decide) p17 (fun c18 => ?_) (fun c18 => ?_)
      · have hy := hy.1 c18
        exact ww_sub [0, 1, 2] rfl (by decide) (by decide) hy
      · have hy := hy.2 c18
        refine ww_aload_n C 0 0 rfl rfl dX2_takeDigits_35 ?_
        refine ww_dup C rfl dX2_takeDigits_36 ?_
        obtain ⟨p19, hy⟩ := hy
        refine gf_X2_38 C dX2_takeDigits_37 p19 ?_
        refine ww_iconst C (z := 1) dX2_takeDigits_40 rfl ?_
        refine ww_iadd C dX2_takeDigits_41 ?_
        obtain ⟨p20, hy⟩ := hy
        have hy := hy _ rfl
        refine pf_X2_38I C dX2_takeDigits_42 p20 ?_
        exact ww_sub [0, 1, 2] rfl (by decide) (by decide) hy
set_option maxRecDepth 100000 in
set_option maxHeartbeats 4000000 in
theorem X2_takeDigits_b61 {G : xG} {k : xK} {n0 : Nat} {Po : Int → xH → Prop} (C : CC G k cX2_takeDigits RX2 3 rm_X2_takeDigits) (E : CQ G k (some .int) rm_X2_takeDigits (fun r n1 h1 => ∃ z : Int, r = some (.int (iz z)) ∧ n1 = n0 ∧ Po z h1)) (x2 : Int) (n : Nat) (h : xH) (hn0 : n = n0) (hy : Po x2 h) : X2_takeDigits_w61 G k x2 n h := by
  subst hn0
  refine ww_iload_n C 2 0 rfl rfl dX2_takeDigits_61 ?_
  exact ww_iret C E dX2_takeDigits_62 (by decide) (by decide) ⟨_, rfl, rfl, hy⟩
set_option maxRecDepth 100000 in
set_option maxHeartbeats 4000000 in
theorem X2_takeDigits_b45 {G : xG} {k : xK} {n0 : Nat} {Po : Int → xH → Prop} (C : CC G k cX2_takeDigits RX2 3 rm_X2_takeDigits) (E : CQ G k (some .int) rm_X2_takeDigits (fun r n1 h1 => ∃ z : Int, r = some (.int (iz z)) ∧ n1 = n0 ∧ Po z h1)) (x0 : Nat) (x1 : Nat) (x2 : Int) (n : Nat) (h : xH) (hn0 : n = n0) (hy : okO n h x0 2 ∧ okO n h x0 2 ∧ (∀ h3 : xH, h3 = hS h x0 1 ((hG h x0 1) + 1) → X2_takeDigits_w2 G k x0 x1 (x2 + 1) n h3)) : X2_takeDigits_w45 G k x0 x1 x2 n h := by
  subst hn0
  refine ww_aload_n C 0 0 rfl rfl dX2_takeDigits_45 ?_
  refine ww_dup C rfl dX2_takeDigits_46 ?_
  obtain ⟨p1, hy⟩ := hy
  refine gf_X2_18 C dX2_takeDigits_47 p1 ?_
  refine ww_iconst C (z := 1) dX2_takeDigits_50 rfl ?_
  refine ww_iadd C dX2_takeDigits_51 ?_
  obtain ⟨p2, hy⟩ := hy
  have hy := hy _ rfl
  refine pf_X2_18I C dX2_takeDigits_52 p2 ?_
  refine ww_iinc C 2 2 rfl (by decide) rfl dX2_takeDigits_55 ?_
  refine ww_goto C (tg := 2) dX2_takeDigits_58 (by decide) ?_
  exact ww_sub [1, 2, 0] rfl (by decide) (by decide) hy
abbrev X2_isExponentMark_w0 (G : xG) (k : xK) (x0 : Int) (n : Nat) (h : xH) : Prop := WW G k 1 0 0 0 [(0, .int (iz x0))] [] n h
abbrev X2_isExponentMark_w12 (G : xG) (k : xK)  (n : Nat) (h : xH) : Prop := WW G k 1 0 0 12 [] [] n h
abbrev X2_isExponentMark_w17 (G : xG) (k : xK) (s0 : Int) (n : Nat) (h : xH) : Prop := WW G k 1 0 0 17 [] [.int (iz s0)] n h
theorem S_X2_isExponentMark_of {G : xG} {l : Launch} {x0 : Int} {n : Nat} {h : xH} {Po : Int → xH → Prop} (body : ∀ k : xK, kl k = l → CC G k cX2_isExponentMark RX2 1 rm_X2_isExponentMark → CQ G k (some .boolean) rm_X2_isExponentMark (fun r n1 h1 => ∃ z : Int, r = some (.int (iz z)) ∧ n1 = n ∧ Po z h1) → X2_isExponentMark_w0 G k x0 n h) : S_X2_isExponentMark G l x0 n h Po := xS_of (by decide +kernel) (Nat.le_of_ble_eq_true rfl) rfl (fun k hl hnm C E => body k hl C E)
set_option maxRecDepth 100000 in
set_option maxHeartbeats 4000000 in
theorem X2_isExponentMark_b0 {G : xG} {k : xK} {n0 : Nat} {Po : Int → xH → Prop} (C : CC G k cX2_isExponentMark RX2 1 rm_X2_isExponentMark) (E : CQ G k (some .boolean) rm_X2_isExponentMark (fun r n1 h1 => ∃ z : Int, r = some (.int (iz z)) ∧ n1 = n0 ∧ Po z h1)) (x0 : Int) (n : Nat) (h : xH) (hn0 : n = n0) (hy : (rg x0 ∧ rg (101 : Int)) ∧ ((x0 = (101 : Int) → X2_isExponentMark_w12 G k  n h) ∧ (¬ x0 = (101 : Int) → (rg x0 ∧ rg (69 : Int)) ∧ ((¬ x0 = (69 : Int) → X2_isExponentMark_w17 G k 0 n h) ∧ (x0 = (69 : Int) → X2_isExponentMark_w12 G k  n h))))) : X2_isExponentMark_w0 G k x0 n h := by
  subst hn0
  refine ww_iload_n C 0 0 rfl rfl dX2_isExponentMark_0 ?_
  refine ww_bipush C (z := 101) dX2_isExponentMark_1 rfl ?_
  obtain ⟨p1, hy⟩ := hy
  refine ww_icmp_eq C (tg := 12) dX2_isExponentMark_3 (by decide) p1.1 p1.2 (fun c2 => ?_) (fun c2 => ?_)
  · have hy := hy.1 c2
    exact ww_sub [] rfl (by decide) (by decide) hy
  · have hy := hy.2 c2
    refine ww_iload_n C 0 0 rfl rfl dX2_isExponentMark_6 ?_
    refine ww_bipush C (z := 69) dX2_isExponentMark_7 rfl ?_
    obtain ⟨p3, hy⟩ := hy
    refine ww_icmp_ne C (tg := 16) dX2_isExponentMark_9 (by decide) p3.1 p3.2 (fun c4 => ?_) (fun c4 => ?_)
    · have hy := hy.1 c4
      refine ww_iconst C (z := 0) dX2_isExponentMark_16 rfl ?_
      exact ww_sub [] rfl (by decide) (by decide) hy
    · have hy := hy.2 c4
      exact ww_sub [] rfl (by decide) (by decide) hy
set_option maxRecDepth 100000 in
set_option maxHeartbeats 4000000 in
theorem X2_isExponentMark_b12 {G : xG} {k : xK} {n0 : Nat} {Po : Int → xH → Prop} (C : CC G k cX2_isExponentMark RX2 1 rm_X2_isExponentMark) (E : CQ G k (some .boolean) rm_X2_isExponentMark (fun r n1 h1 => ∃ z : Int, r = some (.int (iz z)) ∧ n1 = n0 ∧ Po z h1))  (n : Nat) (h : xH) (hn0 : n = n0) (hy : X2_isExponentMark_w17 G k 1 n h) : X2_isExponentMark_w12 G k  n h := by
  subst hn0
  refine ww_iconst C (z := 1) dX2_isExponentMark_12 rfl ?_
  refine ww_goto C (tg := 17) dX2_isExponentMark_13 (by decide) ?_
  exact ww_sub [] rfl (by decide) (by decide) hy
set_option maxRecDepth 100000 in
set_option maxHeartbeats 4000000 in
theorem X2_isExponentMark_b17 {G : xG} {k : xK} {n0 : Nat} {Po : Int → xH → Prop} (C : CC G k cX2_isExponentMark RX2 1 rm_X2_isExponentMark) (E : CQ G k (some .boolean) rm_X2_isExponentMark (fun r n1 h1 => ∃ z : Int, r = some (.int (iz z)) ∧ n1 = n0 ∧ Po z h1)) (s0 : Int) (n : Nat) (h : xH) (hn0 : n = n0) (hy : (s0 = 0 ∨ s0 = 1) ∧ Po s0 h) : X2_isExponentMark_w17 G k s0 n h := by
  subst hn0
  obtain ⟨p1, hy⟩ := hy
  exact ww_zret C E dX2_isExponentMark_17 (nz_b p1) (by decide) (by decide) ⟨_, rfl, rfl, hy⟩
abbrev X2_takeExponent_w0 (G : xG) (k : xK) (x0 : Nat) (n : Nat) (h : xH) : Prop := WW G k 4 0 0 0 [(0, rf G x0)] [] n h
abbrev X2_takeExponent_w24 (G : xG) (k : xK) (x0 : Nat) (s0 : Int) (n : Nat) (h : xH) : Prop := WW G k 4 0 0 24 [(0, rf G x0)] [.int (iz s0)] n h
abbrev X2_takeExponent_w38 (G : xG) (k : xK) (x0 : Nat) (x1 : Int) (n : Nat) (h : xH) : Prop := WW G k 4 0 0 38 [(0, rf G x0), (1, .int (iz x1))] [] n h
abbrev X2_takeExponent_w48 (G : xG) (k : xK) (x0 : Nat) (x1 : Int) (n : Nat) (h : xH) : Prop := WW G k 4 0 0 48 [(0, rf G x0), (1, .int (iz x1))] [] n h
abbrev X2_takeExponent_w52 (G : xG) (k : xK) (x0 : Nat) (x1 : Int) (x2 : Int) (x3 : Int) (n : Nat) (h : xH) : Prop := WW G k 4 0 0 52 [(0, rf G x0), (1, .int (iz x1)), (2, .int (iz x2)), (3, .int (iz x3))] [] n h
abbrev X2_takeExponent_w90 (G : xG) (k : xK) (x0 : Nat) (x1 : Int) (x2 : Int) (x3 : Int) (n : Nat) (h : xH) : Prop := WW G k 4 0 0 90 [(0, rf G x0), (1, .int (iz x1)), (2, .int (iz x2)), (3, .int (iz x3))] [] n h
abbrev X2_takeExponent_w105 (G : xG) (k : xK) (x3 : Int) (s0 : Int) (s1 : Int) (s2 : Nat) (n : Nat) (h : xH) : Prop := WW G k 4 0 0 105 [(3, .int (iz x3))] [.int (iz s0), .int (iz s1), rf G s2] n h
abbrev X2_takeExponent_w118 (G : xG) (k : xK) (s0 : Int) (n : Nat) (h : xH) : Prop := WW G k 4 0 0 118 [] [.int (iz s0)] n h
theorem S_X2_takeExponent_of {G : xG} {l : Launch} {x0 : Nat} {n : Nat} {h : xH} {Po : Int → xH → Prop} (body : ∀ k : xK, kl k = l → CC G k cX2_takeExponent RX2 4 rm_X2_takeExponent → CQ G k (some .boolean) rm_X2_takeExponent (fun r n1 h1 => ∃ z : Int, r = some (.int (iz z)) ∧ n1 = n ∧ Po z h1) → X2_takeExponent_w0 G k x0 n h) : S_X2_takeExponent G l x0 n h Po := xS_of (by decide +kernel) (Nat.le_of_ble_eq_true rfl) rfl (fun k hl hnm C E => body k hl C E)
set_option maxRecDepth 100000 in
set_option maxHeartbeats 4000000 in
theorem X2_takeExponent_b0 {G : xG} {k : xK} {n0 : Nat} {Po : Int → xH → Prop} (C : CC G k cX2_takeExponent RX2 4 rm_X2_takeExponent) (E : CQ G k (some .boolean) rm_X2_takeExponent (fun r n1 h1 => ∃ z : Int, r = some (.int (iz z)) ∧ n1 = n0 ∧ Po z h1)) (x0 : Nat) (n : Nat) (h : xH) (hn0 : n = n0) (hy : okO n h x0 2 ∧ okO n h x0 2 ∧ (∀ h3 : xH, h3 = hS h x0 1 ((hG h x0 1) + 1) → okO n h3 x0 2 ∧ S_X2_current G (kl k) x0 n h3 (fun z5 h6 => (rg z5 ∧ rg (45 : Int)) ∧ ((¬ z5 = (45 : Int) → X2_takeExponent_w24 G k x0 0 n h6) ∧ (z5 = (45 : Int) → X2_takeExponent_w24 G k x0 1 n h6))))) : X2_takeExponent_w0 G k x0 n h := by
  subst hn0
  refine ww_aload_n C 0 0 rfl rfl dX2_takeExponent_0 ?_
  refine ww_dup C rfl dX2_takeExponent_1 ?_
  obtain ⟨p1, hy⟩ := hy
  refine gf_X2_18 C dX2_takeExponent_2 p1 ?_
  refine ww_iconst C (z := 1) dX2_takeExponent_5 rfl ?_
  refine ww_iadd C dX2_takeExponent_6 ?_
  obtain ⟨p2, hy⟩ := hy
  have hy := hy _ rfl
  refine pf_X2_18I C dX2_takeExponent_7 p2 ?_
  refine ww_aload_n C 0 0 rfl rfl dX2_takeExponent_10 ?_
  obtain ⟨p4, hy⟩ := hy
  refine cl_X2_61 C dX2_takeExponent_11 (Nat.le_of_ble_eq_true rfl) ⟨by decide, by decide⟩ ⟨by decide, by decide⟩ p4 ?_
  refine S_X2_current.mono hy (fun z5 h6 hy => ?_)
  refine ww_bipush C (z := 45) dX2_takeExponent_14 rfl ?_
  obtain ⟨p7, hy⟩ := hy
  refine ww_icmp_ne C (tg := 23) dX2_takeExponent_16 (by decide) p7.1 p7.2 (fun c8 => ?_) (fun c8 => ?_)
  · have hy := hy.1 c8
    refine ww_iconst C (z := 0) dX2_takeExponent_23 rfl ?_
    exact ww_sub [0] rfl (by decide) (by decide) hy
  · have hy := hy.2 c8
    refine ww_iconst C (z := 1) dX2_takeExponent_19 rfl ?_
    refine ww_goto C (tg := 24) dX2_takeExponent_20 (by decide) ?_
    exact ww_sub [0] rfl (by decide) (by decide) hy
set_option maxRecDepth 100000 in
set_option maxHeartbeats 4000000 in
theorem X2_takeExponent_b24 {G : xG} {k : xK} {n0 : Nat} {Po : Int → xH → Prop} (C : CC G k cX2_takeExponent RX2 4 rm_X2_takeExponent) (E : CQ G k (some .boolean) rm_X2_takeExponent (fun r n1 h1 => ∃ z : Int, r = some (.int (iz z)) ∧ n1 = n0 ∧ Po z h1)) (x0 : Nat) (s0 : Int) (n : Nat) (h : xH) (hn0 : n = n0) (hy : rg s0 ∧ ((¬ s0 = 0 → X2_takeExponent_w38 G k x0 s0 n h) ∧ (s0 = 0 → okO n h x0 2 ∧ S_X2_current G (kl k) x0 n h (fun z4 h5 => (rg z4 ∧ rg (43 : Int)) ∧ ((¬ z4 = (43 : Int) → X2_takeExponent_w48 G k x0 s0 n h5) ∧ (z4 = (43 : Int) → X2_takeExponent_w38 G k x0 s0 n h5)))))) : X2_takeExponent_w24 G k x0 s0 n h := by
  subst hn0
  refine ww_istore_n C 1 rfl (by decide) rfl dX2_takeExponent_24 ?_
  refine ww_iload_n C 1 0 rfl rfl dX2_takeExponent_25 ?_
  obtain ⟨p1, hy⟩ := hy
  refine ww_if_ne C (tg := 38) dX2_takeExponent_26 (by decide) p1 (fun c2 => ?_) (fun c2 => ?_)
  · have hy := hy.1 c2
    exact ww_sub [1, 0] rfl (by decide) (by decide) hy
  · have hy := hy.2 c2
    refine ww_aload_n C 0 1 rfl rfl dX2_takeExponent_29 ?_
    obtain ⟨p3, hy⟩ := hy
    refine cl_X2_61 C dX2_takeExponent_30 (Nat.le_of_ble_eq_true rfl) ⟨by decide, by decide⟩ ⟨by decide, by decide⟩ p3 ?_
    refine S_X2_current.mono hy (fun z4 h5 hy => ?_)
    refine ww_bipush C (z := 43) dX2_takeExponent_33 rfl ?_
    obtain ⟨p6, hy⟩ := hy
    refine ww_icmp_ne C (tg := 48) dX2_takeExponent_35 (by decide) p6.1 p6.2 (fun c7 => ?_) (fun c7 => ?_)
    · have hy := hy.1 c7
      exact ww_sub [1, 0] rfl (by decide) (by decide) hy
    · have hy := hy.2 c7
      exact ww_sub [1, 0] rfl (by decide) (by decide) hy
set_option maxRecDepth 100000 in
set_option maxHeartbeats 4000000 in
theorem X2_takeExponent_b38 {G : xG} {k : xK} {n0 : Nat} {Po : Int → xH → Prop} (C : CC G k cX2_takeExponent RX2 4 rm_X2_takeExponent) (E : CQ G k (some .boolean) rm_X2_takeExponent (fun r n1 h1 => ∃ z : Int, r = some (.int (iz z)) ∧ n1 = n0 ∧ Po z h1)) (x0 : Nat) (x1 : Int) (n : Nat) (h : xH) (hn0 : n = n0) (hy : okO n h x0 2 ∧ okO n h x0 2 ∧ (∀ h3 : xH, h3 = hS h x0 1 ((hG h x0 1) + 1) → X2_takeExponent_w48 G k x0 x1 n h3)) : X2_takeExponent_w38 G k x0 x1 n h := by
  subst hn0
  refine ww_aload_n C 0 0 rfl rfl dX2_takeExponent_38 ?_
  refine ww_dup C rfl dX2_takeExponent_39 ?_
  obtain ⟨p1, hy⟩ := hy
  refine gf_X2_18 C dX2_takeExponent_40 p1 ?_
  refine ww_iconst C (z := 1) dX2_takeExponent_43 rfl ?_
  refine ww_iadd C dX2_takeExponent_44 ?_
  obtain ⟨p2, hy⟩ := hy
  have hy := hy _ rfl
  refine pf_X2_18I C dX2_takeExponent_45 p2 ?_
  exact ww_sub [0, 1] rfl (by decide) (by decide) hy
set_option maxRecDepth 100000 in
set_option maxHeartbeats 4000000 in
theorem X2_takeExponent_b48 {G : xG} {k : xK} {n0 : Nat} {Po : Int → xH → Prop} (C : CC G k cX2_takeExponent RX2 4 rm_X2_takeExponent) (E : CQ G k (some .boolean) rm_X2_takeExponent (fun r n1 h1 => ∃ z : Int, r = some (.int (iz z)) ∧ n1 = n0 ∧ Po z h1)) (x0 : Nat) (x1 : Int) (n : Nat) (h : xH) (hn0 : n = n0) (hy : X2_takeExponent_w52 G k x0 x1 0 0 n h) : X2_takeExponent_w48 G k x0 x1 n h := by
  subst hn0
  refine ww_iconst C (z := 0) dX2_takeExponent_48 rfl ?_
  refine ww_istore_n C 2 rfl (by decide) rfl dX2_takeExponent_49 ?_
  refine ww_iconst C (z := 0) dX2_takeExponent_50 rfl ?_
  refine ww_istore_n C 3 rfl (by decide) rfl dX2_takeExponent_51 ?_
  exact ww_sub [2, 3, 1, 0] rfl (by decide) (by decide) hy
set_option maxRecDepth 100000 in
set_option maxHeartbeats 4000000 in
theorem X2_takeExponent_b52 {G : xG} {k : xK} {n0 : Nat} {Po : Int → xH → Prop} (C : CC G k cX2_takeExponent RX2 4 rm_X2_takeExponent) (E : CQ G k (some .boolean) rm_X2_takeExponent (fun r n1 h1 => ∃ z : Int, r = some (.int (iz z)) ∧ n1 = n0 ∧ Po z h1)) (x0 : Nat) (x1 : Int) (x2 : Int) (x3 : Int) (n : Nat) (h : xH) (hn0 : n = n0) (hy : (rg x3 ∧ rg (4 : Int)) ∧ (((4 : Int) ≤ x3 → X2_takeExponent_w90 G k x0 x1 x2 x3 n h) ∧ (¬ (4 : Int) ≤ x3 → okO n h x0 2 ∧ S_X2_currentDigit G (kl k) x0 n h (fun z4 h5 => rg z4 ∧ ((z4 < 0 → X2_takeExponent_w90 G k x0 x1 x2 x3 n h5) ∧ (¬ z4 < 0 → okO n h5 x0 2 ∧ S_X2_currentDigit G (kl k) x0 n h5 (fun z9 h10 => okO n h10 x0 2 ∧ okO n h10 x0 2 ∧ (∀ h13 : xH, h13 = hS h10 x0 1 ((hG h10 x0 1) + 1) → X2_takeExponent_w52 G k x0 x1 ((10 * x2) + z9) (x3 + 1) n h13)))))))) : X2_takeExponent_w52 G k x0 x1 x2 x3 n h := by
  subst hn0
  refine ww_iload_n C 3 3 rfl rfl dX2_takeExponent_52 ?_
  refine ww_iconst C (z := 4) dX2_takeExponent_53 rfl ?_
  obtain ⟨p1, hy⟩ := hy
  refine ww_icmp_ge C (tg := 90) dX2_takeExponent_54 (by decide) p1.1 p1.2 (fun c2 => ?_) (fun c2 => ?_)
  · have hy := hy.1 c2
    exact ww_sub [0, 1, 2, 3] rfl (by decide) (by decide) hy
  · have hy := hy.2 c2
    refine ww_aload_n C 0 0 rfl rfl dX2_takeExponent_57 ?_
    obtain ⟨p3, hy⟩ := hy
    refine cl_X2_94 C dX2_takeExponent_58 (Nat.le_of_ble_eq_true rfl) ⟨by decide, by decide⟩ ⟨by decide, by decide⟩ p3 ?_
    refine S_X2_currentDigit.mono hy (fun z4 h5 hy => ?_)
    obtain ⟨p6, hy⟩ := hy
    refine ww_if_lt C (tg := 90) dX2_takeExponent_61 (by decide) p6 (fun c7 => ?_) (fun c7 => ?_)
    · have hy := hy.1 c7
      exact ww_sub [0, 1, 2, 3] rfl (by decide) (by decide) hy
    · have hy := hy.2 c7
      refine ww_bipush C (z := 10) dX2_takeExponent_64 rfl ?_
      refine ww_iload_n C 2 2 rfl rfl dX2_takeExponent_66 ?_
      refine ww_imul C dX2_takeExponent_67 ?_
      refine ww_aload_n C 0 0 rfl rfl dX2_takeExponent_68 ?_
      obtain ⟨p8, hy⟩ := hy
      refine cl_X2_94 C dX2_takeExponent_69 (Nat.le_of_ble_eq_true rfl) ⟨by decide, by decide⟩ ⟨by decide, by decide⟩ p8 ?_
      refine S_X2_currentDigit.mono hy (fun z9 h10 hy => ?_)
      refine ww_iadd C dX2_takeExponent_72 ?_
      refine ww_istore_n C 2 rfl (by decide) rfl dX2_takeExponent_73 ?_
      refine ww_aload_n C 0 1 rfl rfl dX2_takeExponent_74 ?_
      refine ww_dup C rfl dX2_takeExponent_75 ?_
      obtain ⟨p11, hy⟩ := hy
      refine gf_X2_18 C dX2_takeExponent_76 p11 ?_
      refine ww_iconst C (z := 1) dX2_takeExponent_79 rfl ?_
      refine ww_iadd C dX2_takeExponent_80 ?_
      obtain ⟨p12, hy⟩ := hy
      have hy := hy _ rfl
      refine pf_X2_18I C dX2_takeExponent_81 p12 ?_
      refine ww_iinc C 3 3 rfl (by decide) rfl dX2_takeExponent_84 ?_
      refine ww_goto C (tg := 52) dX2_takeExponent_87 (by decide) ?_
      exact ww_sub [2, 3, 1, 0] rfl (by decide) (by decide) hy
set_option maxRecDepth 100000 in
set_option maxHeartbeats 4000000 in
theorem X2_takeExponent_b90 {G : xG} {k : xK} {n0 : Nat} {Po : Int → xH → Prop} (C : CC G k cX2_takeExponent RX2 4 rm_X2_takeExponent) (E : CQ G k (some .boolean) rm_X2_takeExponent (fun r n1 h1 => ∃ z : Int, r = some (.int (iz z)) ∧ n1 = n0 ∧ Po z h1)) (x0 : Nat) (x1 : Int) (x2 : Int) (x3 : Int) (n : Nat) (h : xH) (hn0 : n = n0) (hy : okO n h x0 2 ∧ rg x1 ∧ ((x1 = 0 → X2_takeExponent_w105 G k x3 x2 (hG h x0 6) x0 n h) ∧ (¬ x1 = 0 → X2_takeExponent_w105 G k x3 (-x2) (hG h x0 6) x0 n h))) : X2_takeExponent_w90 G k x0 x1 x2 x3 n h := by
  subst hn0
  refine ww_aload_n C 0 0 rfl rfl dX2_takeExponent_90 ?_
  refine ww_dup C rfl dX2_takeExponent_91 ?_
  obtain ⟨p1, hy⟩ := hy
  refine gf_X2_35 C dX2_takeExponent_92 p1 ?_
  refine ww_iload_n C 1 1 rfl rfl dX2_takeExponent_95 ?_
  obtain ⟨p2, hy⟩ := hy
  refine ww_if_eq C (tg := 104) dX2_takeExponent_96 (by decide) p2 (fun c3 => ?_) (fun c3 => ?_)
  · have hy := hy.1 c3
    refine ww_iload_n C 2 2 rfl rfl dX2_takeExponent_104 ?_
    exact ww_sub [3] rfl (by decide) (by decide) hy
  · have hy := hy.2 c3
    refine ww_iload_n C 2 2 rfl rfl dX2_takeExponent_99 ?_
    refine ww_ineg C dX2_takeExponent_100 ?_
    refine ww_goto C (tg := 105) dX2_takeExponent_101 (by decide) ?_
    exact ww_sub [3] rfl (by decide) (by decide) hy
set_option maxRecDepth 100000 in
set_option maxHeartbeats 4000000 in
theorem X2_takeExponent_b105 {G : xG} {k : xK} {n0 : Nat} {Po : Int → xH → Prop} (C : CC G k cX2_takeExponent RX2 4 rm_X2_takeExponent) (E : CQ G k (some .boolean) rm_X2_takeExponent (fun r n1 h1 => ∃ z : Int, r = some (.int (iz z)) ∧ n1 = n0 ∧ Po z h1)) (x3 : Int) (s0 : Int) (s1 : Int) (s2 : Nat) (n : Nat) (h : xH) (hn0 : n = n0) (hy : okO n h s2 2 ∧ (∀ h2 : xH, h2 = hS h s2 6 (s1 + s0) → rg x3 ∧ ((x3 ≤ 0 → X2_takeExponent_w118 G k 0 n h2) ∧ (¬ x3 ≤ 0 → X2_takeExponent_w118 G k 1 n h2)))) : X2_takeExponent_w105 G k x3 s0 s1 s2 n h := by
  subst hn0
  refine ww_iadd C dX2_takeExponent_105 ?_
  obtain ⟨p1, hy⟩ := hy
  have hy := hy _ rfl
  refine pf_X2_35I C dX2_takeExponent_106 p1 ?_
  refine ww_iload_n C 3 0 rfl rfl dX2_takeExponent_109 ?_
  obtain ⟨p3, hy⟩ := hy
  refine ww_if_le C (tg := 117) dX2_takeExponent_110 (by decide) p3 (fun c4 => ?_) (fun c4 => ?_)
  · have hy := hy.1 c4
    refine ww_iconst C (z := 0) dX2_takeExponent_117 rfl ?_
    exact ww_sub [] rfl (by decide) (by decide) hy
  · have hy := hy.2 c4
    refine ww_iconst C (z := 1) dX2_takeExponent_113 rfl ?_
    refine ww_goto C (tg := 118) dX2_takeExponent_114 (by decide) ?_
    exact ww_sub [] rfl (by decide) (by decide) hy
set_option maxRecDepth 100000 in
set_option maxHeartbeats 4000000 in
theorem X2_takeExponent_b118 {G : xG} {k : xK} {n0 : Nat} {Po : Int → xH → Prop} (C : CC G k cX2_takeExponent RX2 4 rm_X2_takeExponent) (E : CQ G k (some .boolean) rm_X2_takeExponent (fun r n1 h1 => ∃ z : Int, r = some (.int (iz z)) ∧ n1 = n0 ∧ Po z h1)) (s0 : Int) (n : Nat) (h : xH) (hn0 : n = n0) (hy : (s0 = 0 ∨ s0 = 1) ∧ Po s0 h) : X2_takeExponent_w118 G k s0 n h := by
  subst hn0
  obtain ⟨p1, hy⟩ := hy
  exact ww_zret C E dX2_takeExponent_118 (nz_b p1) (by decide) (by decide) ⟨_, rfl, rfl, hy⟩
abbrev X2_takeDecimal_w0 (G : xG) (k : xK) (x0 : Nat) (x1 : Nat) (x2 : Int) (n : Nat) (h : xH) : Prop := WW G k 4 0 0 0 [(0, rf G x0), (1, rf G x1), (2, .int (iz x2))] [] n h
abbrev X2_takeDecimal_w27 (G : xG) (k : xK) (x0 : Nat) (x2 : Int) (x3 : Int) (n : Nat) (h : xH) : Prop := WW G k 4 0 0 27 [(0, rf G x0), (2, .int (iz x2)), (3, .int (iz x3))] [] n h
abbrev X2_takeDecimal_w58 (G : xG) (k : xK)  (n : Nat) (h : xH) : Prop := WW G k 4 0 0 58 [] [] n h
abbrev X2_takeDecimal_w63 (G : xG) (k : xK) (s0 : Int) (n : Nat) (h : xH) : Prop := WW G k 4 0 0 63 [] [.int (iz s0)] n h
theorem S_X2_takeDecimal_of {G : xG} {l : Launch} {x0 : Nat} {x1 : Nat} {x2 : Int} {n : Nat} {h : xH} {Po : Int → xH → Prop} (body : ∀ k : xK, kl k = l → CC G k cX2_takeDecimal RX2 4 rm_X2_takeDecimal → CQ G k (some .int) rm_X2_takeDecimal (fun r n1 h1 => ∃ z : Int, r = some (.int (iz z)) ∧ n1 = n ∧ Po z h1) → X2_takeDecimal_w0 G k x0 x1 x2 n h) : S_X2_takeDecimal G l x0 x1 x2 n h Po := xS_of (by decide +kernel) (Nat.le_of_ble_eq_true rfl) rfl (fun k hl hnm C E => body k hl C E)
set_option maxRecDepth 100000 in
set_option maxHeartbeats 4000000 in
theorem X2_takeDecimal_b0 {G : xG} {k : xK} {n0 : Nat} {Po : Int → xH → Prop} (C : CC G k cX2_takeDecimal RX2 4 rm_X2_takeDecimal) (E : CQ G k (some .int) rm_X2_takeDecimal (fun r n1 h1 => ∃ z : Int, r = some (.int (iz z)) ∧ n1 = n0 ∧ Po z h1)) (x0 : Nat) (x1 : Nat) (x2 : Int) (n : Nat) (h : xH) (hn0 : n = n0) (hy : okO n h x0 2 ∧ S_X2_current G (kl k) x0 n h (fun z2 h3 => (rg z2 ∧ rg (46 : Int)) ∧ ((¬ z2 = (46 : Int) → X2_takeDecimal_w27 G k x0 x2 0 n h3) ∧ (z2 = (46 : Int) → okO n h3 x0 2 ∧ okO n h3 x0 2 ∧ (∀ h8 : xH, h8 = hS h3 x0 1 ((hG h3 x0 1) + 1) → okO n h8 x0 2 ∧ S_X2_takeDigits G (kl k) x0 x1 n h8 (fun z10 h11 => X2_takeDecimal_w27 G k x0 x2 z10 n h11)))))) : X2_takeDecimal_w0 G k x0 x1 x2 n h := by
  subst hn0
  refine ww_iconst C (z := 0) dX2_takeDecimal_0 rfl ?_
  refine ww_istore_n C 3 rfl (by decide) rfl dX2_takeDecimal_1 ?_
  refine ww_aload_n C 0 1 rfl rfl dX2_takeDecimal_2 ?_
  obtain ⟨p1, hy⟩ := hy
  refine cl_X2_61 C dX2_takeDecimal_3 (Nat.le_of_ble_eq_true rfl) ⟨by decide, by decide⟩ ⟨by decide, by decide⟩ p1 ?_
  refine S_X2_current.mono hy (fun z2 h3 hy => ?_)
  refine ww_bipush C (z := 46) dX2_takeDecimal_6 rfl ?_
  obtain ⟨p4, hy⟩ := hy
  refine ww_icmp_ne C (tg := 27) dX2_takeDecimal_8 (by decide) p4.1 p4.2 (fun c5 => ?_) (fun c5 => ?_)
  · have hy := hy.1 c5
    exact ww_sub [1, 3, 0] rfl (by decide) (by decide) hy
  · have hy := hy.2 c5
    refine ww_aload_n C 0 1 rfl rfl dX2_takeDecimal_11 ?_
    refine ww_dup C rfl dX2_takeDecimal_12 ?_
    obtain ⟨p6, hy⟩ := hy
    refine gf_X2_18 C dX2_takeDecimal_13 p6 ?_
    refine ww_iconst C (z := 1) dX2_takeDecimal_16 rfl ?_
    refine ww_iadd C dX2_takeDecimal_17 ?_
    obtain ⟨p7, hy⟩ := hy
    have hy := hy _ rfl
    refine pf_X2_18I C dX2_takeDecimal_18 p7 ?_
    refine ww_aload_n C 0 1 rfl rfl dX2_takeDecimal_21 ?_
    refine ww_aload_n C 1 2 rfl rfl dX2_takeDecimal_22 ?_
    obtain ⟨p9, hy⟩ := hy
    refine cl_X2_76 C dX2_takeDecimal_23 (Nat.le_of_ble_eq_true rfl) ⟨by decide, by decide⟩ ⟨by decide, by decide⟩ p9 ?_
    refine S_X2_takeDigits.mono hy (fun z10 h11 hy => ?_)
    refine ww_istore_n C 3 rfl (by decide) rfl dX2_takeDecimal_26 ?_
    exact ww_sub [1, 3, 0] rfl (by decide) (by decide) hy
set_option maxRecDepth 100000 in
set_option maxHeartbeats 4000000 in
theorem X2_takeDecimal_b27 {G : xG} {k : xK} {n0 : Nat} {Po : Int → xH → Prop} (C : CC G k cX2_takeDecimal RX2 4 rm_X2_takeDecimal) (E : CQ G k (some .int) rm_X2_takeDecimal (fun r n1 h1 => ∃ z : Int, r = some (.int (iz z)) ∧ n1 = n0 ∧ Po z h1)) (x0 : Nat) (x2 : Int) (x3 : Int) (n : Nat) (h : xH) (hn0 : n = n0) (hy : rg (x2 + x3) ∧ ((¬ (x2 + x3) = 0 → okO n h x0 2 ∧ (∀ h4 : xH, h4 = hS h x0 6 (-x3) → okO n h4 x0 2 ∧ S_X2_current G (kl k) x0 n h4 (fun z6 h7 => S_X2_isExponentMark G (kl k) z6 n h7 (fun z8 h9 => rg z8 ∧ ((z8 = 0 → X2_takeDecimal_w58 G k  n h9) ∧ (¬ z8 = 0 → okO n h9 x0 2 ∧ S_X2_takeExponent G (kl k) x0 n h9 (fun z13 h14 => rg z13 ∧ ((z13 = 0 → X2_takeDecimal_w63 G k 0 n h14) ∧ (¬ z13 = 0 → X2_takeDecimal_w58 G k  n h14))))))))) ∧ ((x2 + x3) = 0 → Po (0 : Int) h))) : X2_takeDecimal_w27 G k x0 x2 x3 n h := by
  subst hn0
  refine ww_iload_n C 2 1 rfl rfl dX2_takeDecimal_27 ?_
  refine ww_iload_n C 3 2 rfl rfl dX2_takeDecimal_28 ?_
  refine ww_iadd C dX2_takeDecimal_29 ?_
  obtain ⟨p1, hy⟩ := hy
  refine ww_if_ne C (tg := 35) dX2_takeDecimal_30 (by decide) p1 (fun c2 => ?_) (fun c2 => ?_)
  · have hy := hy.1 c2
    refine ww_aload_n C 0 0 rfl rfl dX2_takeDecimal_35 ?_
    refine ww_iload_n C 3 2 rfl rfl dX2_takeDecimal_36 ?_
    refine ww_ineg C dX2_takeDecimal_37 ?_
    obtain ⟨p3, hy⟩ := hy
    have hy := hy _ rfl
    refine pf_X2_35I C dX2_takeDecimal_38 p3 ?_
    refine ww_aload_n C 0 0 rfl rfl dX2_takeDecimal_41 ?_
    obtain ⟨p5, hy⟩ := hy
    refine cl_X2_61 C dX2_takeDecimal_42 (Nat.le_of_ble_eq_true rfl) ⟨by decide, by decide⟩ ⟨by decide, by decide⟩ p5 ?_
    refine S_X2_current.mono hy (fun z6 h7 hy => ?_)
    refine cl_X2_83 C dX2_takeDecimal_45 (Nat.le_of_ble_eq_true rfl) ⟨by decide, by decide⟩ ⟨by decide, by decide⟩ ?_
    refine S_X2_isExponentMark.mono hy (fun z8 h9 hy => ?_)
    obtain ⟨p10, hy⟩ := hy
    refine ww_if_eq C (tg := 58) dX2_takeDecimal_48 (by decide) p10 (fun c11 => ?_) (fun c11 => ?_)
    · have hy := hy.1 c11
      exact ww_sub [] rfl (by decide) (by decide) hy
    · have hy := hy.2 c11
      refine ww_aload_n C 0 0 rfl rfl dX2_takeDecimal_51 ?_
      obtain ⟨p12, hy⟩ := hy
      refine cl_X2_91 C dX2_takeDecimal_52 (Nat.le_of_ble_eq_true rfl) ⟨by decide, by decide⟩ ⟨by decide, by decide⟩ p12 ?_
      refine S_X2_takeExponent.mono hy (fun z13 h14 hy => ?_)
      obtain ⟨p15, hy⟩ := hy
      refine ww_if_eq C (tg := 62) dX2_takeDecimal_55 (by decide) p15 (fun c16 => ?_) (fun c16 => ?_)
      · have hy := hy.1 c16
        refine ww_iconst C (z := 0) dX2_takeDecimal_62 rfl ?_
        exact ww_sub [] rfl (by decide) (by decide) hy
      · have hy := hy.2 c16
        exact ww_sub [] rfl (by decide) (by decide) hy
  · have hy := hy.2 c2
    refine ww_iconst C (z := 0) dX2_takeDecimal_33 rfl ?_
    exact ww_iret C E dX2_takeDecimal_34 (by decide) (by decide) ⟨_, rfl, rfl, hy⟩
set_option maxRecDepth 100000 in
set_option maxHeartbeats 4000000 in
theorem X2_takeDecimal_b58 {G : xG} {k : xK} {n0 : Nat} {Po : Int → xH → Prop} (C : CC G k cX2_takeDecimal RX2 4 rm_X2_takeDecimal) (E : CQ G k (some .int) rm_X2_takeDecimal (fun r n1 h1 => ∃ z : Int, r = some (.int (iz z)) ∧ n1 = n0 ∧ Po z h1))  (n : Nat) (h : xH) (hn0 : n = n0) (hy : X2_takeDecimal_w63 G k 2 n h) : X2_takeDecimal_w58 G k  n h := by
  subst hn0
  refine ww_iconst C (z := 2) dX2_takeDecimal_58 rfl ?_
  refine ww_goto C (tg := 63) dX2_takeDecimal_59 (by decide) ?_
  exact ww_sub [] rfl (by decide) (by decide) hy
set_option maxRecDepth 100000 in
set_option maxHeartbeats 4000000 in
theorem X2_takeDecimal_b63 {G : xG} {k : xK} {n0 : Nat} {Po : Int → xH → Prop} (C : CC G k cX2_takeDecimal RX2 4 rm_X2_takeDecimal) (E : CQ G k (some .int) rm_X2_takeDecimal (fun r n1 h1 => ∃ z : Int, r = some (.int (iz z)) ∧ n1 = n0 ∧ Po z h1)) (s0 : Int) (n : Nat) (h : xH) (hn0 : n = n0) (hy : Po s0 h) : X2_takeDecimal_w63 G k s0 n h := by
  subst hn0
  exact ww_iret C E dX2_takeDecimal_63 (by decide) (by decide) ⟨_, rfl, rfl, hy⟩
abbrev X2_takeNumber_w0 (G : xG) (k : xK) (x0 : Nat) (x1 : Nat) (x2 : Nat) (n : Nat) (h : xH) : Prop := WW G k 4 0 0 0 [(0, rf G x0), (1, rf G x1), (2, rf G x2)] [] n h
abbrev X2_takeNumber_w53 (G : xG) (k : xK) (x0 : Nat) (x1 : Nat) (x3 : Int) (n : Nat) (h : xH) : Prop := WW G k 4 0 0 53 [(0, rf G x0), (1, rf G x1), (3, .int (iz x3))] [] n h
abbrev X2_takeNumber_w52 (G : xG) (k : xK) (s0 : Int) (n : Nat) (h : xH) : Prop := WW G k 4 0 0 52 [] [.int (iz s0)] n h
abbrev X2_takeNumber_w88 (G : xG) (k : xK) (x3 : Int) (n : Nat) (h : xH) : Prop := WW G k 4 0 0 88 [(3, .int (iz x3))] [] n h
abbrev X2_takeNumber_w81 (G : xG) (k : xK) (x0 : Nat) (x1 : Nat) (x3 : Int) (n : Nat) (h : xH) : Prop := WW G k 4 0 0 81 [(0, rf G x0), (1, rf G x1), (3, .int (iz x3))] [] n h
abbrev X2_takeNumber_w97 (G : xG) (k : xK) (s0 : Int) (n : Nat) (h : xH) : Prop := WW G k 4 0 0 97 [] [.int (iz s0)] n h
theorem S_X2_takeNumber_of {G : xG} {l : Launch} {x0 : Nat} {x1 : Nat} {x2 : Nat} {n : Nat} {h : xH} {Po : Int → xH → Prop} (body : ∀ k : xK, kl k = l → CC G k cX2_takeNumber RX2 4 rm_X2_takeNumber → CQ G k (some .int) rm_X2_takeNumber (fun r n1 h1 => ∃ z : Int, r = some (.int (iz z)) ∧ n1 = n ∧ Po z h1) → X2_takeNumber_w0 G k x0 x1 x2 n h) : S_X2_takeNumber G l x0 x1 x2 n h Po := xS_of (by decide +kernel) (Nat.le_of_ble_eq_true rfl) rfl (fun k hl hnm C E => body k hl C E)
set_option maxRecDepth 100000 in
set_option maxHeartbeats 4000000 in
theorem X2_takeNumber_b0 {G : xG} {k : xK} {n0 : Nat} {Po : Int → xH → Prop} (C : CC G k cX2_takeNumber RX2 4 rm_X2_takeNumber) (E : CQ G k (some .int) rm_X2_takeNumber (fun r n1 h1 => ∃ z : Int, r = some (.int (iz z)) ∧ n1 = n0 ∧ Po z h1)) (x0 : Nat) (x1 : Nat) (x2 : Nat) (n : Nat) (h : xH) (hn0 : n = n0) (hy : okO n h x0 2 ∧ S_X2_takeDigits G (kl k) x0 x1 n h (fun z2 h3 => rg z2 ∧ ((z2 ≤ 0 → X2_takeNumber_w53 G k x0 x1 z2 n h3) ∧ (¬ z2 ≤ 0 → okO n h3 x0 2 ∧ S_X2_current G (kl k) x0 n h3 (fun z7 h8 => (rg z7 ∧ rg (47 : Int)) ∧ ((¬ z7 = (47 : Int) → X2_takeNumber_w53 G k x0 x1 z2 n h8) ∧ (z7 = (47 : Int) → okO n h8 x0 2 ∧ okO n h8 x0 2 ∧ (∀ h13 : xH, h13 = hS h8 x0 1 ((hG h8 x0 1) + 1) → okO n h13 x2 1 ∧ S_X1_set G (kl k) x2 0 n h13 (fun h15 => okO n h15 x0 2 ∧ S_X2_takeDigits G (kl k) x0 x2 n h15 (fun z17 h18 => okO n h18 x2 1 ∧ S_X1_isZero G (kl k) x2 n h18 (fun z20 h21 => rg z20 ∧ ((z20 = 0 → X2_takeNumber_w52 G k 1 n h21) ∧ (¬ z20 = 0 → X2_takeNumber_w52 G k 0 n h21))))))))))))) : X2_takeNumber_w0 G k x0 x1 x2 n h := by
  subst hn0
  refine ww_aload_n C 0 0 rfl rfl dX2_takeNumber_0 ?_
  refine ww_aload_n C 1 1 rfl rfl dX2_takeNumber_1 ?_
  obtain ⟨p1, hy⟩ := hy
  refine cl_X2_76 C dX2_takeNumber_2 (Nat.le_of_ble_eq_true rfl) ⟨by decide, by decide⟩ ⟨by decide, by decide⟩ p1 ?_
  refine S_X2_takeDigits.mono hy (fun z2 h3 hy => ?_)
  refine ww_istore_n C 3 rfl (by decide) rfl dX2_takeNumber_5 ?_
  refine ww_iload_n C 3 0 rfl rfl dX2_takeNumber_6 ?_
  obtain ⟨p4, hy⟩ := hy
  refine ww_if_le C (tg := 53) dX2_takeNumber_7 (by decide) p4 (fun c5 => ?_) (fun c5 => ?_)
  · have hy := hy.1 c5
    exact ww_sub [1, 2, 0] rfl (by decide) (by decide) hy
  · have hy := hy.2 c5
    refine ww_aload_n C 0 1 rfl rfl dX2_takeNumber_10 ?_
    obtain ⟨p6, hy⟩ := hy
    refine cl_X2_61 C dX2_takeNumber_11 (Nat.le_of_ble_eq_true rfl) ⟨by decide, by decide⟩ ⟨by decide, by decide⟩ p6 ?_
    refine S_X2_current.mono hy (fun z7 h8 hy => ?_)
    refine ww_bipush C (z := 47) dX2_takeNumber_14 rfl ?_
    obtain ⟨p9, hy⟩ := hy
    refine ww_icmp_ne C (tg := 53) dX2_takeNumber_16 (by decide) p9.1 p9.2 (fun c10 => ?_) (fun c10 => ?_)
    · have hy := hy.1 c10
      exact ww_sub [1, 2, 0] rfl (by decide) (by decide) hy
    · have hy := hy.2 c10
      refine ww_aload_n C 0 1 rfl rfl dX2_takeNumber_19 ?_
      refine ww_dup C rfl dX2_takeNumber_20 ?_
      obtain ⟨p11, hy⟩ := hy
      refine gf_X2_18 C dX2_takeNumber_21 p11 ?_
      refine ww_iconst C (z := 1) dX2_takeNumber_24 rfl ?_
      refine ww_iadd C dX2_takeNumber_25 ?_
      obtain ⟨p12, hy⟩ := hy
      have hy := hy _ rfl
      refine pf_X2_18I C dX2_takeNumber_26 p12 ?_
      refine ww_aload_n C 2 3 rfl rfl dX2_takeNumber_29 ?_
      refine ww_lconst C (z := 0) dX2_takeNumber_30 rfl ?_
      obtain ⟨p14, hy⟩ := hy
      refine cl_X2_41 C dX2_takeNumber_31 (Nat.le_of_ble_eq_true rfl) ⟨by decide, by decide⟩ ⟨by decide, by decide⟩ p14 ?_
      refine S_X1_set.mono hy (fun h15 hy => ?_)
      refine ww_aload_n C 0 1 rfl rfl dX2_takeNumber_34 ?_
      refine ww_aload_n C 2 3 rfl rfl dX2_takeNumber_35 ?_
      obtain ⟨p16, hy⟩ := hy
      refine cl_X2_76 C dX2_takeNumber_36 (Nat.le_of_ble_eq_true rfl) ⟨by decide, by decide⟩ ⟨by decide, by decide⟩ p16 ?_
      refine S_X2_takeDigits.mono hy (fun z17 h18 hy => ?_)
      refine ww_pop C rfl dX2_takeNumber_39 ?_
      refine ww_aload_n C 2 3 rfl rfl dX2_takeNumber_40 ?_
      obtain ⟨p19, hy⟩ := hy
      refine cl_X2_80 C dX2_takeNumber_41 (Nat.le_of_ble_eq_true rfl) ⟨by decide, by decide⟩ ⟨by decide, by decide⟩ p19 ?_
      refine S_X1_isZero.mono hy (fun z20 h21 hy => ?_)
      obtain ⟨p22, hy⟩ := hy
      refine ww_if_eq C (tg := 51) dX2_takeNumber_44 (by decide) p22 (fun c23 => ?_) (fun c23 => ?_)
      · have hy := hy.1 c23
        refine ww_iconst C (z := 1) dX2_takeNumber_51 rfl ?_
        exact ww_sub [] rfl (by decide) (by decide) hy
      · have hy := hy.2 c23
        refine ww_iconst C (z := 0) dX2_takeNumber_47 rfl ?_
        refine ww_goto C (tg := 52) dX2_takeNumber_48 (by decide) ?_
        exact ww_sub [] rfl (by decide) (by decide) hy
set_option maxRecDepth 100000 in
set_option maxHeartbeats 4000000 in
theorem X2_takeNumber_b53 {G : xG} {k : xK} {n0 : Nat} {Po : Int → xH → Prop} (C : CC G k cX2_takeNumber RX2 4 rm_X2_takeNumber) (E : CQ G k (some .int) rm_X2_takeNumber (fun r n1 h1 => ∃ z : Int, r = some (.int (iz z)) ∧ n1 = n0 ∧ Po z h1)) (x0 : Nat) (x1 : Nat) (x3 : Int) (n : Nat) (h : xH) (hn0 : n = n0) (hy : okO n h x0 2 ∧ (rg (hG h x0 2) ∧ rg (10 : Int)) ∧ ((¬ (hG h x0 2) = (10 : Int) → X2_takeNumber_w88 G k x3 n h) ∧ ((hG h x0 2) = (10 : Int) → okO n h x0 2 ∧ S_X2_current G (kl k) x0 n h (fun z5 h6 => (rg z5 ∧ rg (46 : Int)) ∧ ((z5 = (46 : Int) → X2_takeNumber_w81 G k x0 x1 x3 n h6) ∧ (¬ z5 = (46 : Int) → okO n h6 x0 2 ∧ S_X2_current G (kl k) x0 n h6 (fun z10 h11 => S_X2_isExponentMark G (kl k) z10 n h11 (fun z12 h13 => rg z12 ∧ ((z12 = 0 → X2_takeNumber_w88 G k x3 n h13) ∧ (¬ z12 = 0 → X2_takeNumber_w81 G k x0 x1 x3 n h13)))))))))) : X2_takeNumber_w53 G k x0 x1 x3 n h := by
  subst hn0
  refine ww_aload_n C 0 0 rfl rfl dX2_takeNumber_53 ?_
  obtain ⟨p1, hy⟩ := hy
  refine gf_X2_22 C dX2_takeNumber_54 p1 ?_
  refine ww_bipush C (z := 10) dX2_takeNumber_57 rfl ?_
  obtain ⟨p2, hy⟩ := hy
  refine ww_icmp_ne C (tg := 88) dX2_takeNumber_59 (by decide) p2.1 p2.2 (fun c3 => ?_) (fun c3 => ?_)
  · have hy := hy.1 c3
    exact ww_sub [2] rfl (by decide) (by decide) hy
  · have hy := hy.2 c3
    refine ww_aload_n C 0 0 rfl rfl dX2_takeNumber_62 ?_
    obtain ⟨p4, hy⟩ := hy
    refine cl_X2_61 C dX2_takeNumber_63 (Nat.le_of_ble_eq_true rfl) ⟨by decide, by decide⟩ ⟨by decide, by decide⟩ p4 ?_
    refine S_X2_current.mono hy (fun z5 h6 hy => ?_)
    refine ww_bipush C (z := 46) dX2_takeNumber_66 rfl ?_
    obtain ⟨p7, hy⟩ := hy
    refine ww_icmp_eq C (tg := 81) dX2_takeNumber_68 (by decide) p7.1 p7.2 (fun c8 => ?_) (fun c8 => ?_)
    · have hy := hy.1 c8
      exact ww_sub [0, 1, 2] rfl (by decide) (by decide) hy
    · have hy := hy.2 c8
      refine ww_aload_n C 0 0 rfl rfl dX2_takeNumber_71 ?_
      obtain ⟨p9, hy⟩ := hy
      refine cl_X2_61 C dX2_takeNumber_72 (Nat.le_of_ble_eq_true rfl) ⟨by decide, by decide⟩ ⟨by decide, by decide⟩ p9 ?_
      refine S_X2_current.mono hy (fun z10 h11 hy => ?_)
      refine cl_X2_83 C dX2_takeNumber_75 (Nat.le_of_ble_eq_true rfl) ⟨by decide, by decide⟩ ⟨by decide, by decide⟩ ?_
      refine S_X2_isExponentMark.mono hy (fun z12 h13 hy => ?_)
      obtain ⟨p14, hy⟩ := hy
      refine ww_if_eq C (tg := 88) dX2_takeNumber_78 (by decide) p14 (fun c15 => ?_) (fun c15 => ?_)
      · have hy := hy.1 c15
        exact ww_sub [2] rfl (by decide) (by decide) hy
      · have hy := hy.2 c15
        exact ww_sub [0, 1, 2] rfl (by decide) (by decide) hy
set_option maxRecDepth 100000 in
set_option maxHeartbeats 4000000 in
theorem X2_takeNumber_b52 {G : xG} {k : xK} {n0 : Nat} {Po : Int → xH → Prop} (C : CC G k cX2_takeNumber RX2 4 rm_X2_takeNumber) (E : CQ G k (some .int) rm_X2_takeNumber (fun r n1 h1 => ∃ z : Int, r = some (.int (iz z)) ∧ n1 = n0 ∧ Po z h1)) (s0 : Int) (n : Nat) (h : xH) (hn0 : n = n0) (hy : Po s0 h) : X2_takeNumber_w52 G k s0 n h := by
  subst hn0
  exact ww_iret C E dX2_takeNumber_52 (by decide) (by decide) ⟨_, rfl, rfl, hy⟩
set_option maxRecDepth 100000 in
set_option maxHeartbeats 4000000 in
theorem X2_takeNumber_b88 {G : xG} {k : xK} {n0 : Nat} {Po : Int → xH → Prop} (C : CC G k cX2_takeNumber RX2 4 rm_X2_takeNumber) (E : CQ G k (some .int) rm_X2_takeNumber (fun r n1 h1 => ∃ z : Int, r = some (.int (iz z)) ∧ n1 = n0 ∧ Po z h1)) (x3 : Int) (n : Nat) (h : xH) (hn0 : n = n0) (hy : rg x3 ∧ ((x3 ≤ 0 → X2_takeNumber_w97 G k 0 n h) ∧ (¬ x3 ≤ 0 → X2_takeNumber_w97 G k 1 n h))) : X2_takeNumber_w88 G k x3 n h := by
  subst hn0
  refine ww_iload_n C 3 0 rfl rfl dX2_takeNumber_88 ?_
  obtain ⟨p1, hy⟩ := hy
  refine ww_if_le C (tg := 96) dX2_takeNumber_89 (by decide) p1 (fun c2 => ?_) (fun c2 => ?_)
  · have hy := hy.1 c2
    refine ww_iconst C (z := 0) dX2_takeNumber_96 rfl ?_
    exact ww_sub [] rfl (by decide) (by decide) hy
  · have hy := hy.2 c2
    refine ww_iconst C (z := 1) dX2_takeNumber_92 rfl ?_
    refine ww_goto C (tg := 97) dX2_takeNumber_93 (by decide) ?_
    exact ww_sub [] rfl (by decide) (by decide) hy
set_option maxRecDepth 100000 in
set_option maxHeartbeats 4000000 in
theorem X2_takeNumber_b81 {G : xG} {k : xK} {n0 : Nat} {Po : Int → xH → Prop} (C : CC G k cX2_takeNumber RX2 4 rm_X2_takeNumber) (E : CQ G k (some .int) rm_X2_takeNumber (fun r n1 h1 => ∃ z : Int, r = some (.int (iz z)) ∧ n1 = n0 ∧ Po z h1)) (x0 : Nat) (x1 : Nat) (x3 : Int) (n : Nat) (h : xH) (hn0 : n = n0) (hy : okO n h x0 2 ∧ S_X2_takeDecimal G (kl k) x0 x1 x3 n h (fun z2 h3 => Po z2 h3)) : X2_takeNumber_w81 G k x0 x1 x3 n h := by
  subst hn0
  refine ww_aload_n C 0 0 rfl rfl dX2_takeNumber_81 ?_
  refine ww_aload_n C 1 1 rfl rfl dX2_takeNumber_82 ?_
  refine ww_iload_n C 3 2 rfl rfl dX2_takeNumber_83 ?_
  obtain ⟨p1, hy⟩ := hy
  refine cl_X2_87 C dX2_takeNumber_84 (Nat.le_of_ble_eq_true rfl) ⟨by decide, by decide⟩ ⟨by decide, by decide⟩ p1 ?_
  refine S_X2_takeDecimal.mono hy (fun z2 h3 hy => ?_)
  exact ww_iret C E dX2_takeNumber_87 (by decide) (by decide) ⟨_, rfl, rfl, hy⟩
set_option maxRecDepth 100000 in
set_option maxHeartbeats 4000000 in
theorem X2_takeNumber_b97 {G : xG} {k : xK} {n0 : Nat} {Po : Int → xH → Prop} (C : CC G k cX2_takeNumber RX2 4 rm_X2_takeNumber) (E : CQ G k (some .int) rm_X2_takeNumber (fun r n1 h1 => ∃ z : Int, r = some (.int (iz z)) ∧ n1 = n0 ∧ Po z h1)) (s0 : Int) (n : Nat) (h : xH) (hn0 : n = n0) (hy : Po s0 h) : X2_takeNumber_w97 G k s0 n h := by
  subst hn0
  exact ww_iret C E dX2_takeNumber_97 (by decide) (by decide) ⟨_, rfl, rfl, hy⟩
abbrev X2_takeWordOrNumber_w0 (G : xG) (k : xK) (x0 : Nat) (x1 : Nat) (x2 : Nat) (n : Nat) (h : xH) : Prop := WW G k 4 0 0 0 [(0, rf G x0), (1, rf G x1), (2, rf G x2)] [] n h
abbrev X2_takeWordOrNumber_w27 (G : xG) (k : xK) (x0 : Nat) (x1 : Nat) (x2 : Nat) (s0 : Int) (n : Nat) (h : xH) : Prop := WW G k 4 0 0 27 [(0, rf G x0), (1, rf G x1), (2, rf G x2)] [.int (iz s0)] n h
abbrev X2_takeWordOrNumber_w51 (G : xG) (k : xK) (s0 : Int) (n : Nat) (h : xH) : Prop := WW G k 4 0 0 51 [] [.int (iz s0)] n h
theorem S_X2_takeWordOrNumber_of {G : xG} {l : Launch} {x0 : Nat} {x1 : Nat} {x2 : Nat} {n : Nat} {h : xH} {Po : Int → xH → Prop} (body : ∀ k : xK, kl k = l → CC G k cX2_takeWordOrNumber RX2 4 rm_X2_takeWordOrNumber → CQ G k (some .int) rm_X2_takeWordOrNumber (fun r n1 h1 => ∃ z : Int, r = some (.int (iz z)) ∧ n1 = n ∧ Po z h1) → X2_takeWordOrNumber_w0 G k x0 x1 x2 n h) : S_X2_takeWordOrNumber G l x0 x1 x2 n h Po := xS_of (by decide +kernel) (Nat.le_of_ble_eq_true rfl) rfl (fun k hl hnm C E => body k hl C E)
set_option maxRecDepth 100000 in
set_option maxHeartbeats 4000000 in
theorem X2_takeWordOrNumber_b0 {G : xG} {k : xK} {n0 : Nat} {Po : Int → xH → Prop} (C : CC G k cX2_takeWordOrNumber RX2 4 rm_X2_takeWordOrNumber) (E : CQ G k (some .int) rm_X2_takeWordOrNumber (fun r n1 h1 => ∃ z : Int, r = some (.int (iz z)) ∧ n1 = n0 ∧ Po z h1)) (x0 : Nat) (x1 : Nat) (x2 : Nat) (n : Nat) (h : xH) (hn0 : n = n0) (hy : okO n h x0 2 ∧ S_X2_takeWord G (kl k) x0 0 n h (fun z2 h3 => rg z2 ∧ ((z2 = 0 → okO n h3 x0 2 ∧ S_X2_takeWord G (kl k) x0 1 n h3 (fun z7 h8 => rg z7 ∧ ((z7 = 0 → X2_takeWordOrNumber_w27 G k x0 x1 x2 0 n h8) ∧ (¬ z7 = 0 → X2_takeWordOrNumber_w27 G k x0 x1 x2 4 n h8)))) ∧ (¬ z2 = 0 → X2_takeWordOrNumber_w27 G k x0 x1 x2 3 n h3)))) : X2_takeWordOrNumber_w0 G k x0 x1 x2 n h := by
  subst hn0
  refine ww_aload_n C 0 0 rfl rfl dX2_takeWordOrNumber_0 ?_
  refine ww_ldcS C (i0 := 65) (j := 0) (tx := "inf.0") (by decide) dX2_takeWordOrNumber_1 ?_
  obtain ⟨p1, hy⟩ := hy
  refine cl_X2_67 C dX2_takeWordOrNumber_3 (Nat.le_of_ble_eq_true rfl) ⟨by decide, by decide⟩ ⟨by decide, by decide⟩ p1 ?_
  refine S_X2_takeWord.mono hy (fun z2 h3 hy => ?_)
  obtain ⟨p4, hy⟩ := hy
  refine ww_if_eq C (tg := 13) dX2_takeWordOrNumber_6 (by decide) p4 (fun c5 => ?_) (fun c5 => ?_)
  · have hy := hy.1 c5
    refine ww_aload_n C 0 0 rfl rfl dX2_takeWordOrNumber_13 ?_
    refine ww_ldcS C (i0 := 71) (j := 1) (tx := "nan.0") (by decide) dX2_takeWordOrNumber_14 ?_
    obtain ⟨p6, hy⟩ := hy
    refine cl_X2_67 C dX2_takeWordOrNumber_16 (Nat.le_of_ble_eq_true rfl) ⟨by decide, by decide⟩ ⟨by decide, by decide⟩ p6 ?_
    refine S_X2_takeWord.mono hy (fun z7 h8 hy => ?_)
    obtain ⟨p9, hy⟩ := hy
    refine ww_if_eq C (tg := 26) dX2_takeWordOrNumber_19 (by decide) p9 (fun c10 => ?_) (fun c10 => ?_)
    · have hy := hy.1 c10
      refine ww_iconst C (z := 0) dX2_takeWordOrNumber_26 rfl ?_
      exact ww_sub [0, 1, 2] rfl (by decide) (by decide) hy
    · have hy := hy.2 c10
      refine ww_iconst C (z := 4) dX2_takeWordOrNumber_22 rfl ?_
      refine ww_goto C (tg := 27) dX2_takeWordOrNumber_23 (by decide) ?_
      exact ww_sub [0, 1, 2] rfl (by decide) (by decide) hy
  · have hy := hy.2 c5
    refine ww_iconst C (z := 3) dX2_takeWordOrNumber_9 rfl ?_
    refine ww_goto C (tg := 27) dX2_takeWordOrNumber_10 (by decide) ?_
    exact ww_sub [0, 1, 2] rfl (by decide) (by decide) hy
set_option maxRecDepth 100000 in
set_option maxHeartbeats 4000000 in
theorem X2_takeWordOrNumber_b27 {G : xG} {k : xK} {n0 : Nat} {Po : Int → xH → Prop} (C : CC G k cX2_takeWordOrNumber RX2 4 rm_X2_takeWordOrNumber) (E : CQ G k (some .int) rm_X2_takeWordOrNumber (fun r n1 h1 => ∃ z : Int, r = some (.int (iz z)) ∧ n1 = n0 ∧ Po z h1)) (x0 : Nat) (x1 : Nat) (x2 : Nat) (s0 : Int) (n : Nat) (h : xH) (hn0 : n = n0) (hy : rg s0 ∧ ((¬ s0 = 0 → okO n h x0 2 ∧ S_X2_exactIsAsked G (kl k) x0 n h (fun z4 h5 => rg z4 ∧ ((z4 = 0 → X2_takeWordOrNumber_w51 G k s0 n h5) ∧ (¬ z4 = 0 → X2_takeWordOrNumber_w51 G k 0 n h5)))) ∧ (s0 = 0 → okO n h x0 2 ∧ S_X2_takeNumber G (kl k) x0 x1 x2 n h (fun z9 h10 => Po z9 h10)))) : X2_takeWordOrNumber_w27 G k x0 x1 x2 s0 n h := by
  subst hn0
  refine ww_istore_n C 3 rfl (by decide) rfl dX2_takeWordOrNumber_27 ?_
  refine ww_iload_n C 3 0 rfl rfl dX2_takeWordOrNumber_28 ?_
  obtain ⟨p1, hy⟩ := hy
  refine ww_if_ne C (tg := 39) dX2_takeWordOrNumber_29 (by decide) p1 (fun c2 => ?_) (fun c2 => ?_)
  · have hy := hy.1 c2
    refine ww_aload_n C 0 1 rfl rfl dX2_takeWordOrNumber_39 ?_
    obtain ⟨p3, hy⟩ := hy
    refine cl_X2_73 C dX2_takeWordOrNumber_40 (Nat.le_of_ble_eq_true rfl) ⟨by decide, by decide⟩ ⟨by decide, by decide⟩ p3 ?_
    refine S_X2_exactIsAsked.mono hy (fun z4 h5 hy => ?_)
    obtain ⟨p6, hy⟩ := hy
    refine ww_if_eq C (tg := 50) dX2_takeWordOrNumber_43 (by decide) p6 (fun c7 => ?_) (fun c7 => ?_)
    · have hy := hy.1 c7
      refine ww_iload_n C 3 0 rfl rfl dX2_takeWordOrNumber_50 ?_
      exact ww_sub [] rfl (by decide) (by decide) hy
    · have hy := hy.2 c7
      refine ww_iconst C (z := 0) dX2_takeWordOrNumber_46 rfl ?_
      refine ww_goto C (tg := 51) dX2_takeWordOrNumber_47 (by decide) ?_
      exact ww_sub [] rfl (by decide) (by decide) hy
  · have hy := hy.2 c2
    refine ww_aload_n C 0 1 rfl rfl dX2_takeWordOrNumber_32 ?_
    refine ww_aload_n C 1 2 rfl rfl dX2_takeWordOrNumber_33 ?_
    refine ww_aload_n C 2 3 rfl rfl dX2_takeWordOrNumber_34 ?_
    obtain ⟨p8, hy⟩ := hy
    refine cl_X2_58 C dX2_takeWordOrNumber_35 (Nat.le_of_ble_eq_true rfl) ⟨by decide, by decide⟩ ⟨by decide, by decide⟩ p8 ?_
    refine S_X2_takeNumber.mono hy (fun z9 h10 hy => ?_)
    exact ww_iret C E dX2_takeWordOrNumber_38 (by decide) (by decide) ⟨_, rfl, rfl, hy⟩
set_option maxRecDepth 100000 in
set_option maxHeartbeats 4000000 in
theorem X2_takeWordOrNumber_b51 {G : xG} {k : xK} {n0 : Nat} {Po : Int → xH → Prop} (C : CC G k cX2_takeWordOrNumber RX2 4 rm_X2_takeWordOrNumber) (E : CQ G k (some .int) rm_X2_takeWordOrNumber (fun r n1 h1 => ∃ z : Int, r = some (.int (iz z)) ∧ n1 = n0 ∧ Po z h1)) (s0 : Int) (n : Nat) (h : xH) (hn0 : n = n0) (hy : Po s0 h) : X2_takeWordOrNumber_w51 G k s0 n h := by
  subst hn0
  exact ww_iret C E dX2_takeWordOrNumber_51 (by decide) (by decide) ⟨_, rfl, rfl, hy⟩
abbrev X2_parse_w0 (G : xG) (k : xK) (x0 : Nat) (x1 : Nat) (x2 : Nat) (n : Nat) (h : xH) : Prop := WW G k 5 0 0 0 [(0, rf G x0), (1, rf G x1), (2, rf G x2)] [] n h
abbrev X2_parse_w53 (G : xG) (k : xK) (x0 : Nat) (x1 : Nat) (x2 : Nat) (x3 : Int) (n : Nat) (h : xH) : Prop := WW G k 5 0 0 53 [(0, rf G x0), (1, rf G x1), (2, rf G x2), (3, .int (iz x3))] [] n h
abbrev X2_parse_w87 (G : xG) (k : xK) (x0 : Nat) (s0 : Int) (n : Nat) (h : xH) : Prop := WW G k 5 0 0 87 [(0, rf G x0)] [.int (iz s0)] n h
abbrev X2_parse_w102 (G : xG) (k : xK) (s0 : Int) (n : Nat) (h : xH) : Prop := WW G k 5 0 0 102 [] [.int (iz s0)] n h
theorem S_X2_parse_of {G : xG} {l : Launch} {x0 : Nat} {x1 : Nat} {x2 : Nat} {n : Nat} {h : xH} {Po : Int → xH → Prop} (body : ∀ k : xK, kl k = l → CC G k cX2_parse RX2 5 rm_X2_parse → CQ G k (some .int) rm_X2_parse (fun r n1 h1 => ∃ z : Int, r = some (.int (iz z)) ∧ n1 = n ∧ Po z h1) → X2_parse_w0 G k x0 x1 x2 n h) : S_X2_parse G l x0 x1 x2 n h Po := xS_of (by decide +kernel) (Nat.le_of_ble_eq_true rfl) rfl (fun k hl hnm C E => body k hl C E)
set_option maxRecDepth 100000 in
set_option maxHeartbeats 4000000 in
theorem X2_parse_b0 {G : xG} {k : xK} {n0 : Nat} {Po : Int → xH → Prop} (C : CC G k cX2_parse RX2 5 rm_X2_parse) (E : CQ G k (some .int) rm_X2_parse (fun r n1 h1 => ∃ z : Int, r = some (.int (iz z)) ∧ n1 = n0 ∧ Po z h1)) (x0 : Nat) (x1 : Nat) (x2 : Nat) (n : Nat) (h : xH) (hn0 : n = n0) (hy : okO n h x0 2 ∧ (∀ h2 : xH, h2 = hS h x0 1 0 → okO n h2 x0 2 ∧ (∀ h4 : xH, h4 = hS h2 x0 2 0 → okO n h4 x0 2 ∧ (∀ h6 : xH, h6 = hS h4 x0 3 0 → okO n h6 x0 2 ∧ (∀ h8 : xH, h8 = hS h6 x0 6 0 → okO n h8 x0 2 ∧ (∀ h10 : xH, h10 = hS h8 x0 7 0 → okO n h10 x1 1 ∧ S_X1_set G (kl k) x1 0 n h10 (fun h12 => okO n h12 x2 1 ∧ S_X1_set G (kl k) x2 1 n h12 (fun h14 => okO n h14 x0 2 ∧ S_X2_takePrefixes G (kl k) x0 n h14 (fun z16 h17 => okO n h17 x0 2 ∧ rg (hG h17 x0 2) ∧ ((¬ (hG h17 x0 2) = 0 → X2_parse_w53 G k x0 x1 x2 z16 n h17) ∧ ((hG h17 x0 2) = 0 → okO n h17 x0 2 ∧ (∀ h22 : xH, h22 = hS h17 x0 2 10 → X2_parse_w53 G k x0 x1 x2 z16 n h22)))))))))))) : X2_parse_w0 G k x0 x1 x2 n h := by
  subst hn0
  refine ww_aload_n C 0 0 rfl rfl dX2_parse_0 ?_
  refine ww_iconst C (z := 0) dX2_parse_1 rfl ?_
  obtain ⟨p1, hy⟩ := hy
  have hy := hy _ rfl
  refine pf_X2_18I C dX2_parse_2 p1 ?_
  refine ww_aload_n C 0 0 rfl rfl dX2_parse_5 ?_
  refine ww_iconst C (z := 0) dX2_parse_6 rfl ?_
  obtain ⟨p3, hy⟩ := hy
  have hy := hy _ rfl
  refine pf_X2_22I C dX2_parse_7 p3 ?_
  refine ww_aload_n C 0 0 rfl rfl dX2_parse_10 ?_
  refine ww_iconst C (z := 0) dX2_parse_11 rfl ?_
  obtain ⟨p5, hy⟩ := hy
  have hy := hy _ rfl
  refine pf_X2_25I C dX2_parse_12 p5 ?_
  refine ww_aload_n C 0 0 rfl rfl dX2_parse_15 ?_
  refine ww_iconst C (z := 0) dX2_parse_16 rfl ?_
  obtain ⟨p7, hy⟩ := hy
  have hy := hy _ rfl
  refine pf_X2_35I C dX2_parse_17 p7 ?_
  refine ww_aload_n C 0 0 rfl rfl dX2_parse_20 ?_
  refine ww_iconst C (z := 0) dX2_parse_21 rfl ?_
  obtain ⟨p9, hy⟩ := hy
  have hy := hy _ rfl
  refine pf_X2_38I C dX2_parse_22 p9 ?_
  refine ww_aload_n C 1 1 rfl rfl dX2_parse_25 ?_
  refine ww_lconst C (z := 0) dX2_parse_26 rfl ?_
  obtain ⟨p11, hy⟩ := hy
  refine cl_X2_41 C dX2_parse_27 (Nat.le_of_ble_eq_true rfl) ⟨by decide, by decide⟩ ⟨by decide, by decide⟩ p11 ?_
  refine S_X1_set.mono hy (fun h12 hy => ?_)
  refine ww_aload_n C 2 2 rfl rfl dX2_parse_30 ?_
  refine ww_lconst C (z := 1) dX2_parse_31 rfl ?_
  obtain ⟨p13, hy⟩ := hy
  refine cl_X2_41 C dX2_parse_32 (Nat.le_of_ble_eq_true rfl) ⟨by decide, by decide⟩ ⟨by decide, by decide⟩ p13 ?_
  refine S_X1_set.mono hy (fun h14 hy => ?_)
  refine ww_aload_n C 0 0 rfl rfl dX2_parse_35 ?_
  obtain ⟨p15, hy⟩ := hy
  refine cl_X2_47 C dX2_parse_36 (Nat.le_of_ble_eq_true rfl) ⟨by decide, by decide⟩ ⟨by decide, by decide⟩ p15 ?_
  refine S_X2_takePrefixes.mono hy (fun z16 h17 hy => ?_)
  refine ww_istore_n C 3 rfl (by decide) rfl dX2_parse_39 ?_
  refine ww_aload_n C 0 1 rfl rfl dX2_parse_40 ?_
  obtain ⟨p18, hy⟩ := hy
  refine gf_X2_22 C dX2_parse_41 p18 ?_
  obtain ⟨p19, hy⟩ := hy
  refine ww_if_ne C (tg := 53) dX2_parse_44 (by decide) p19 (fun c20 => ?_) (fun c20 => ?_)
  · have hy := hy.1 c20
    exact ww_sub [1, 2, 3, 0] rfl (by decide) (by decide) hy
  · have hy := hy.2 c20
    refine ww_aload_n C 0 1 rfl rfl dX2_parse_47 ?_
    refine ww_bipush C (z := 10) dX2_parse_48 rfl ?_
    obtain ⟨p21, hy⟩ := hy
    have hy := hy _ rfl
    refine pf_X2_22I C dX2_parse_50 p21 ?_
    exact ww_sub [1, 2, 3, 0] rfl (by decide) (by decide) hy
set_option maxRecDepth 100000 in
set_option maxHeartbeats 4000000 in
theorem X2_parse_b53 {G : xG} {k : xK} {n0 : Nat} {Po : Int → xH → Prop} (C : CC G k cX2_parse RX2 5 rm_X2_parse) (E : CQ G k (some .int) rm_X2_parse (fun r n1 h1 => ∃ z : Int, r = some (.int (iz z)) ∧ n1 = n0 ∧ Po z h1)) (x0 : Nat) (x1 : Nat) (x2 : Nat) (x3 : Int) (n : Nat) (h : xH) (hn0 : n = n0) (hy : okO n h x0 2 ∧ S_X2_takeSign G (kl k) x0 n h (fun h2 => rg x3 ∧ ((¬ x3 = 0 → okO n h2 x0 2 ∧ rg (hG h2 x0 4) ∧ (((hG h2 x0 4) = 0 → okO n h2 x0 2 ∧ S_X2_takeNumber G (kl k) x0 x1 x2 n h2 (fun z9 h10 => X2_parse_w87 G k x0 z9 n h10)) ∧ (¬ (hG h2 x0 4) = 0 → okO n h2 x0 2 ∧ S_X2_takeWordOrNumber G (kl k) x0 x1 x2 n h2 (fun z12 h13 => X2_parse_w87 G k x0 z12 n h13)))) ∧ (x3 = 0 → X2_parse_w87 G k x0 0 n h2)))) : X2_parse_w53 G k x0 x1 x2 x3 n h := by
  subst hn0
  refine ww_aload_n C 0 0 rfl rfl dX2_parse_53 ?_
  obtain ⟨p1, hy⟩ := hy
  refine cl_X2_51 C dX2_parse_54 (Nat.le_of_ble_eq_true rfl) ⟨by decide, by decide⟩ ⟨by decide, by decide⟩ p1 ?_
  refine S_X2_takeSign.mono hy (fun h2 hy => ?_)
  refine ww_iload_n C 3 3 rfl rfl dX2_parse_57 ?_
  obtain ⟨p3, hy⟩ := hy
  refine ww_if_ne C (tg := 65) dX2_parse_58 (by decide) p3 (fun c4 => ?_) (fun c4 => ?_)
  · have hy := hy.1 c4
    refine ww_aload_n C 0 0 rfl rfl dX2_parse_65 ?_
    obtain ⟨p5, hy⟩ := hy
    refine gf_X2_28 C dX2_parse_66 p5 ?_
    obtain ⟨p6, hy⟩ := hy
    refine ww_if_eq C (tg := 81) dX2_parse_69 (by decide) p6 (fun c7 => ?_) (fun c7 => ?_)
    · have hy := hy.1 c7
      refine ww_aload_n C 0 0 rfl rfl dX2_parse_81 ?_
      refine ww_aload_n C 1 1 rfl rfl dX2_parse_82 ?_
      refine ww_aload_n C 2 2 rfl rfl dX2_parse_83 ?_
      obtain ⟨p8, hy⟩ := hy
      refine cl_X2_58 C dX2_parse_84 (Nat.le_of_ble_eq_true rfl) ⟨by decide, by decide⟩ ⟨by decide, by decide⟩ p8 ?_
      refine S_X2_takeNumber.mono hy (fun z9 h10 hy => ?_)
      exact ww_sub [0] rfl (by decide) (by decide) hy
    · have hy := hy.2 c7
      refine ww_aload_n C 0 0 rfl rfl dX2_parse_72 ?_
      refine ww_aload_n C 1 1 rfl rfl dX2_parse_73 ?_
      refine ww_aload_n C 2 2 rfl rfl dX2_parse_74 ?_
      obtain ⟨p11, hy⟩ := hy
      refine cl_X2_54 C dX2_parse_75 (Nat.le_of_ble_eq_true rfl) ⟨by decide, by decide⟩ ⟨by decide, by decide⟩ p11 ?_
      refine S_X2_takeWordOrNumber.mono hy (fun z12 h13 hy => ?_)
      refine ww_goto C (tg := 87) dX2_parse_78 (by decide) ?_
      exact ww_sub [0] rfl (by decide) (by decide) hy
  · have hy := hy.2 c4
    refine ww_iconst C (z := 0) dX2_parse_61 rfl ?_
    refine ww_goto C (tg := 87) dX2_parse_62 (by decide) ?_
    exact ww_sub [0] rfl (by decide) (by decide) hy
set_option maxRecDepth 100000 in
set_option maxHeartbeats 4000000 in
theorem X2_parse_b87 {G : xG} {k : xK} {n0 : Nat} {Po : Int → xH → Prop} (C : CC G k cX2_parse RX2 5 rm_X2_parse) (E : CQ G k (some .int) rm_X2_parse (fun r n1 h1 => ∃ z : Int, r = some (.int (iz z)) ∧ n1 = n0 ∧ Po z h1)) (x0 : Nat) (s0 : Int) (n : Nat) (h : xH) (hn0 : n = n0) (hy : okO n h x0 2 ∧ S_X2_current G (kl k) x0 n h (fun z2 h3 => rg z2 ∧ ((0 ≤ z2 → X2_parse_w102 G k 0 n h3) ∧ (¬ 0 ≤ z2 → X2_parse_w102 G k s0 n h3)))) : X2_parse_w87 G k x0 s0 n h := by
  subst hn0
  refine ww_istore C 4 (by decide) rfl dX2_parse_87 ?_
  refine ww_aload_n C 0 1 rfl rfl dX2_parse_89 ?_
  obtain ⟨p1, hy⟩ := hy
  refine cl_X2_61 C dX2_parse_90 (Nat.le_of_ble_eq_true rfl) ⟨by decide, by decide⟩ ⟨by decide, by decide⟩ p1 ?_
  refine S_X2_current.mono hy (fun z2 h3 hy => ?_)
  obtain ⟨p4, hy⟩ := hy
  refine ww_if_ge C (tg := 101) dX2_parse_93 (by decide) p4 (fun c5 => ?_) (fun c5 => ?_)
  · have hy := hy.1 c5
    refine ww_iconst C (z := 0) dX2_parse_101 rfl ?_
    exact ww_sub [] rfl (by decide) (by decide) hy
  · have hy := hy.2 c5
    refine ww_iload C 4 0 rfl dX2_parse_96 ?_
    refine ww_goto C (tg := 102) dX2_parse_98 (by decide) ?_
    exact ww_sub [] rfl (by decide) (by decide) hy
set_option maxRecDepth 100000 in
set_option maxHeartbeats 4000000 in
theorem X2_parse_b102 {G : xG} {k : xK} {n0 : Nat} {Po : Int → xH → Prop} (C : CC G k cX2_parse RX2 5 rm_X2_parse) (E : CQ G k (some .int) rm_X2_parse (fun r n1 h1 => ∃ z : Int, r = some (.int (iz z)) ∧ n1 = n0 ∧ Po z h1)) (s0 : Int) (n : Nat) (h : xH) (hn0 : n = n0) (hy : Po s0 h) : X2_parse_w102 G k s0 n h := by
  subst hn0
  exact ww_iret C E dX2_parse_102 (by decide) (by decide) ⟨_, rfl, rfl, hy⟩
