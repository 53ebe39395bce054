abbrev X9_say_w0 (G : xG) (k : xK) (x0 : Nat) (x1 : Int) (n : Nat) (h : xH) : Prop := WW G k 2 0 0 0 [(0, rf G x0), (1, .int (iz x1))] [] n h
theorem S_X9_say_of {G : xG} {l : Launch} {x0 : Nat} {x1 : Int} {n : Nat} {h : xH} {Po : xH → Prop} (body : ∀ k : xK, kl k = l → CC G k cX9_say RX9 2 rm_X9_say → CQ G k none rm_X9_say (fun r n1 h1 => r = none ∧ n1 = n ∧ Po h1) → X9_say_w0 G k x0 x1 n h) : S_X9_say G l x0 x1 n h Po := xS_of (by decide +kernel) (Nat.le_of_ble_eq_true rfl) rfl (fun k hl hnm C E => body k hl C E)
set_option maxRecDepth 100000 in
set_option maxHeartbeats 4000000 in
theorem X9_say_b0 {G : xG} {k : xK} {n0 : Nat} {Po : xH → Prop} (C : CC G k cX9_say RX9 2 rm_X9_say) (E : CQ G k none rm_X9_say (fun r n1 h1 => r = none ∧ n1 = n0 ∧ Po h1)) (x0 : Nat) (x1 : Int) (n : Nat) (h : xH) (hn0 : n = n0) (hy : okO n h x0 8 ∧ 0 ≤ hG h x0 20 ∧ okO n h x0 8 ∧ okA n h ((hG h x0 20).toNat) 100 (hG h x0 21) ∧ (∀ h5 : xH, h5 = hS h ((hG h x0 20).toNat) ((hG h x0 21).toNat) x1 → okO n h5 x0 8 ∧ okO n h5 x0 8 ∧ (∀ h8 : xH, h8 = hS h5 x0 21 ((hG h5 x0 21) + 1) → Po h8))) : X9_say_w0 G k x0 x1 n h := by
  subst hn0
  refine ww_aload_n C 0 0 rfl rfl dX9_say_0 ?_
  obtain ⟨p1, hy⟩ := hy
  obtain ⟨p2, hy⟩ := hy
  refine gf_X9_79 C dX9_say_1 p1 p2 ?_
  refine ww_aload_n C 0 0 rfl rfl dX9_say_4 ?_
  obtain ⟨p3, hy⟩ := hy
  refine gf_X9_82 C dX9_say_5 p3 ?_
  refine ww_iload_n C 1 1 rfl rfl dX9_say_8 ?_
  obtain ⟨p4, hy⟩ := hy
  have hy := hy _ rfl
  refine ww_iast C dX9_say_9 p4 ?_
  refine ww_aload_n C 0 0 rfl rfl dX9_say_10 ?_
  refine ww_dup C rfl dX9_say_11 ?_
  obtain ⟨p6, hy⟩ := hy
  refine gf_X9_82 C dX9_say_12 p6 ?_
  refine ww_iconst C (z := 1) dX9_say_15 rfl ?_
  refine ww_iadd C dX9_say_16 ?_
  obtain ⟨p7, hy⟩ := hy
  have hy := hy _ rfl
  refine pf_X9_82I C dX9_say_17 p7 ?_
  exact ww_vret C E dX9_say_20 (by decide) (by decide) ⟨rfl, rfl, hy⟩
abbrev X9_sayWord_w0 (G : xG) (k : xK) (x0 : Nat) (x1 : Nat) (n : Nat) (h : xH) : Prop := WW G k 3 0 0 0 [(0, rf G x0), (1, .ref (G.2.2.2.2.1 x1))] [] n h
abbrev X9_sayWord_w2 (G : xG) (k : xK) (x0 : Nat) (x1 : Nat) (x2 : Int) (n : Nat) (h : xH) : Prop := WW G k 3 0 0 2 [(0, rf G x0), (1, .ref (G.2.2.2.2.1 x1)), (2, .int (iz x2))] [] n h
theorem S_X9_sayWord_of {G : xG} {l : Launch} {x0 : Nat} {x1 : Nat} {n : Nat} {h : xH} {Po : xH → Prop} (body : ∀ k : xK, kl k = l → CC G k cX9_sayWord RX9 3 rm_X9_sayWord → CQ G k none rm_X9_sayWord (fun r n1 h1 => r = none ∧ n1 = n ∧ Po h1) → X9_sayWord_w0 G k x0 x1 n h) : S_X9_sayWord G l x0 x1 n h Po := xS_of (by decide +kernel) (Nat.le_of_ble_eq_true rfl) rfl (fun k hl hnm C E => body k hl C E)
set_option maxRecDepth 100000 in
set_option maxHeartbeats 4000000 in
theorem X9_sayWord_b0 {G : xG} {k : xK} {n0 : Nat} {Po : xH → Prop} (C : CC G k cX9_sayWord RX9 3 rm_X9_sayWord) (E : CQ G k none rm_X9_sayWord (fun r n1 h1 => r = none ∧ n1 = n0 ∧ Po h1)) (x0 : Nat) (x1 : Nat) (n : Nat) (h : xH) (hn0 : n = n0) (hy : X9_sayWord_w2 G k x0 x1 0 n h) : X9_sayWord_w0 G k x0 x1 n h := by
  subst hn0
  refine ww_iconst C (z := 0) dX9_sayWord_0 rfl ?_
  refine ww_istore_n C 2 rfl (by decide) rfl dX9_sayWord_1 ?_
  exact ww_sub [1, 2, 0] rfl (by decide) (by decide) hy
set_option maxRecDepth 100000 in
set_option maxHeartbeats 4000000 in
theorem X9_sayWord_b2 {G : xG} {k : xK} {n0 : Nat} {Po : xH → Prop} (C : CC G k cX9_sayWord RX9 3 rm_X9_sayWord) (E : CQ G k none rm_X9_sayWord (fun r n1 h1 => r = none ∧ n1 = n0 ∧ Po h1)) (x0 : Nat) (x1 : Nat) (x2 : Int) (n : Nat) (h : xH) (hn0 : n = n0) (hy : x1 < 8 ∧ S_J0_length_8abf5 G (kl k) x1 n h (fun z2 h3 => (rg x2 ∧ rg z2) ∧ ((z2 ≤ x2 → Po h3) ∧ (¬ z2 ≤ x2 → x1 < 8 ∧ S_J0_charAt_5068e G (kl k) x1 x2 n h3 (fun z7 h8 => okO n h8 x0 8 ∧ S_X9_say G (kl k) x0 z7 n h8 (fun h10 => X9_sayWord_w2 G k x0 x1 (x2 + 1) n h10)))))) : X9_sayWord_w2 G k x0 x1 x2 n h := by
  subst hn0
  refine ww_iload_n C 2 2 rfl rfl dX9_sayWord_2 ?_
  refine ww_aload_n C 1 1 rfl rfl dX9_sayWord_3 ?_
  obtain ⟨p1, hy⟩ := hy
  refine cl_X9_86 C dX9_sayWord_4 (Nat.le_of_ble_eq_true rfl) ⟨by decide, by decide⟩ ⟨by decide, by decide⟩ p1 ?_
  refine S_J0_length_8abf5.mono hy (fun z2 h3 hy => ?_)
  obtain ⟨p4, hy⟩ := hy
  refine ww_icmp_ge C (tg := 25) dX9_sayWord_7 (by decide) p4.1 p4.2 (fun c5 => ?_) (fun c5 => ?_)
  · have hy := hy.1 c5
    exact ww_vret C E dX9_sayWord_25 (by decide) (by decide) ⟨rfl, rfl, hy⟩
  · have hy := hy.2 c5
    refine ww_aload_n C 0 0 rfl rfl dX9_sayWord_10 ?_
    refine ww_aload_n C 1 1 rfl rfl dX9_sayWord_11 ?_
    refine ww_iload_n C 2 2 rfl rfl dX9_sayWord_12 ?_
    obtain ⟨p6, hy⟩ := hy
    refine cl_X9_92 C dX9_sayWord_13 (Nat.le_of_ble_eq_true rfl) ⟨by decide, by decide⟩ ⟨by decide, by decide⟩ p6 ?_
    refine S_J0_charAt_5068e.mono hy (fun z7 h8 hy => ?_)
    obtain ⟨p9, hy⟩ := hy
    refine cl_X9_96 C dX9_sayWord_16 (Nat.le_of_ble_eq_true rfl) ⟨by decide, by decide⟩ ⟨by decide, by decide⟩ p9 ?_
    refine S_X9_say.mono hy (fun h10 hy => ?_)
    refine ww_iinc C 2 2 rfl (by decide) rfl dX9_sayWord_19 ?_
    refine ww_goto C (tg := 2) dX9_sayWord_22 (by decide) ?_
    exact ww_sub [1, 2, 0] rfl (by decide) (by decide) hy
abbrev X9_saySmall_w0 (G : xG) (k : xK) (x0 : Nat) (x1 : Int) (n : Nat) (h : xH) : Prop := WW G k 3 0 0 0 [(0, rf G x0), (1, .int (iz x1))] [] n h
abbrev X9_saySmall_w10 (G : xG) (k : xK) (x0 : Nat) (x1 : Int) (s0 : Int) (n : Nat) (h : xH) : Prop := WW G k 3 0 0 10 [(0, rf G x0), (1, .int (iz x1))] [.int (iz s0)] n h
abbrev X9_saySmall_w21 (G : xG) (k : xK) (x0 : Nat) (x2 : Int) (n : Nat) (h : xH) : Prop := WW G k 3 0 0 21 [(0, rf G x0), (2, .int (iz x2))] [] n h
abbrev X9_saySmall_w38 (G : xG) (k : xK) (x0 : Nat) (x2 : Int) (n : Nat) (h : xH) : Prop := WW G k 3 0 0 38 [(0, rf G x0), (2, .int (iz x2))] [] n h
abbrev X9_saySmall_w58 (G : xG) (k : xK) (x0 : Nat) (x2 : Int) (n : Nat) (h : xH) : Prop := WW G k 3 0 0 58 [(0, rf G x0), (2, .int (iz x2))] [] n h
theorem S_X9_saySmall_of {G : xG} {l : Launch} {x0 : Nat} {x1 : Int} {n : Nat} {h : xH} {Po : xH → Prop} (body : ∀ k : xK, kl k = l → CC G k cX9_saySmall RX9 3 rm_X9_saySmall → CQ G k none rm_X9_saySmall (fun r n1 h1 => r = none ∧ n1 = n ∧ Po h1) → X9_saySmall_w0 G k x0 x1 n h) : S_X9_saySmall G l x0 x1 n h Po := xS_of (by decide +kernel) (Nat.le_of_ble_eq_true rfl) rfl (fun k hl hnm C E => body k hl C E)
set_option maxRecDepth 100000 in
set_option maxHeartbeats 4000000 in
theorem X9_saySmall_b0 {G : xG} {k : xK} {n0 : Nat} {Po : xH → Prop} (C : CC G k cX9_saySmall RX9 3 rm_X9_saySmall) (E : CQ G k none rm_X9_saySmall (fun r n1 h1 => r = none ∧ n1 = n0 ∧ Po h1)) (x0 : Nat) (x1 : Int) (n : Nat) (h : xH) (hn0 : n = n0) (hy : rg x1 ∧ ((0 ≤ x1 → X9_saySmall_w10 G k x0 x1 x1 n h) ∧ (¬ 0 ≤ x1 → X9_saySmall_w10 G k x0 x1 (-x1) n h))) : X9_saySmall_w0 G k x0 x1 n h := by
  subst hn0
  refine ww_iload_n C 1 1 rfl rfl dX9_saySmall_0 ?_
  obtain ⟨p1, hy⟩ := hy
  refine ww_if_ge C (tg := 9) dX9_saySmall_1 (by decide) p1 (fun c2 => ?_) (fun c2 => ?_)
  · have hy := hy.1 c2
    refine ww_iload_n C 1 1 rfl rfl dX9_saySmall_9 ?_
    exact ww_sub [0, 1] rfl (by decide) (by decide) hy
  · have hy := hy.2 c2
    refine ww_iload_n C 1 1 rfl rfl dX9_saySmall_4 ?_
    refine ww_ineg C dX9_saySmall_5 ?_
    refine ww_goto C (tg := 10) dX9_saySmall_6 (by decide) ?_
    exact ww_sub [0, 1] rfl (by decide) (by decide) hy
set_option maxRecDepth 100000 in
set_option maxHeartbeats 4000000 in
theorem X9_saySmall_b10 {G : xG} {k : xK} {n0 : Nat} {Po : xH → Prop} (C : CC G k cX9_saySmall RX9 3 rm_X9_saySmall) (E : CQ G k none rm_X9_saySmall (fun r n1 h1 => r = none ∧ n1 = n0 ∧ Po h1)) (x0 : Nat) (x1 : Int) (s0 : Int) (n : Nat) (h : xH) (hn0 : n = n0) (hy : rg x1 ∧ ((0 ≤ x1 → X9_saySmall_w21 G k x0 s0 n h) ∧ (¬ 0 ≤ x1 → okO n h x0 8 ∧ S_X9_say G (kl k) x0 45 n h (fun h4 => X9_saySmall_w21 G k x0 s0 n h4)))) : X9_saySmall_w10 G k x0 x1 s0 n h := by
  subst hn0
  refine ww_istore_n C 2 rfl (by decide) rfl dX9_saySmall_10 ?_
  refine ww_iload_n C 1 2 rfl rfl dX9_saySmall_11 ?_
  obtain ⟨p1, hy⟩ := hy
  refine ww_if_ge C (tg := 21) dX9_saySmall_12 (by decide) p1 (fun c2 => ?_) (fun c2 => ?_)
  · have hy := hy.1 c2
    exact ww_sub [1, 0] rfl (by decide) (by decide) hy
  · have hy := hy.2 c2
    refine ww_aload_n C 0 1 rfl rfl dX9_saySmall_15 ?_
    refine ww_bipush C (z := 45) dX9_saySmall_16 rfl ?_
    obtain ⟨p3, hy⟩ := hy
    refine cl_X9_96 C dX9_saySmall_18 (Nat.le_of_ble_eq_true rfl) ⟨by decide, by decide⟩ ⟨by decide, by decide⟩ p3 ?_
    refine S_X9_say.mono hy (fun h4 hy => ?_)
    exact ww_sub [1, 0] rfl (by decide) (by decide) hy
set_option maxRecDepth 100000 in
set_option maxHeartbeats 4000000 in
theorem X9_saySmall_b21 {G : xG} {k : xK} {n0 : Nat} {Po : xH → Prop} (C : CC G k cX9_saySmall RX9 3 rm_X9_saySmall) (E : CQ G k none rm_X9_saySmall (fun r n1 h1 => r = none ∧ n1 = n0 ∧ Po h1)) (x0 : Nat) (x2 : Int) (n : Nat) (h : xH) (hn0 : n = n0) (hy : (rg x2 ∧ rg (99 : Int)) ∧ ((x2 ≤ (99 : Int) → X9_saySmall_w38 G k x0 x2 n h) ∧ (¬ x2 ≤ (99 : Int) → (rg x2 ∧ rg (100 : Int) ∧ (100 : Int) ≠ 0) ∧ okO n h x0 8 ∧ S_X9_say G (kl k) x0 (48 + (x2.tdiv 100)) n h (fun h5 => X9_saySmall_w38 G k x0 x2 n h5)))) : X9_saySmall_w21 G k x0 x2 n h := by
  subst hn0
  refine ww_iload_n C 2 1 rfl rfl dX9_saySmall_21 ?_
  refine ww_bipush C (z := 99) dX9_saySmall_22 rfl ?_
  obtain ⟨p1, hy⟩ := hy
  refine ww_icmp_le C (tg := 38) dX9_saySmall_24 (by decide) p1.1 p1.2 (fun c2 => ?_) (fun c2 => ?_)
  · have hy := hy.1 c2
    exact ww_sub [0, 1] rfl (by decide) (by decide) hy
  · have hy := hy.2 c2
    refine ww_aload_n C 0 0 rfl rfl dX9_saySmall_27 ?_
    refine ww_bipush C (z := 48) dX9_saySmall_28 rfl ?_
    refine ww_iload_n C 2 1 rfl rfl dX9_saySmall_30 ?_
    refine ww_bipush C (z := 100) dX9_saySmall_31 rfl ?_
    obtain ⟨p3, hy⟩ := hy
    refine ww_idiv C dX9_saySmall_33 p3.1 p3.2.1 p3.2.2 ?_
    refine ww_iadd C dX9_saySmall_34 ?_
    obtain ⟨p4, hy⟩ := hy
    refine cl_X9_96 C dX9_saySmall_35 (Nat.le_of_ble_eq_true rfl) ⟨by decide, by decide⟩ ⟨by decide, by decide⟩ p4 ?_
    refine S_X9_say.mono hy (fun h5 hy => ?_)
    exact ww_sub [0, 1] rfl (by decide) (by decide) hy
set_option maxRecDepth 100000 in
set_option maxHeartbeats 4000000 in
theorem X9_saySmall_b38 {G : xG} {k : xK} {n0 : Nat} {Po : xH → Prop} (C : CC G k cX9_saySmall RX9 3 rm_X9_saySmall) (E : CQ G k none rm_X9_saySmall (fun r n1 h1 => r = none ∧ n1 = n0 ∧ Po h1)) (x0 : Nat) (x2 : Int) (n : Nat) (h : xH) (hn0 : n = n0) (hy : (rg x2 ∧ rg (9 : Int)) ∧ ((x2 ≤ (9 : Int) → X9_saySmall_w58 G k x0 x2 n h) ∧ (¬ x2 ≤ (9 : Int) → (rg x2 ∧ rg (10 : Int) ∧ (10 : Int) ≠ 0) ∧ (rg (x2.tdiv 10) ∧ rg (10 : Int) ∧ (10 : Int) ≠ 0) ∧ okO n h x0 8 ∧ S_X9_say G (kl k) x0 (48 + ((x2.tdiv 10).tmod 10)) n h (fun h6 => X9_saySmall_w58 G k x0 x2 n h6)))) : X9_saySmall_w38 G k x0 x2 n h := by
  subst hn0
  refine ww_iload_n C 2 1 rfl rfl dX9_saySmall_38 ?_
  refine ww_bipush C (z := 9) dX9_saySmall_39 rfl ?_
  obtain ⟨p1, hy⟩ := hy
  refine ww_icmp_le C (tg := 58) dX9_saySmall_41 (by decide) p1.1 p1.2 (fun c2 => ?_) (fun c2 => ?_)
  · have hy := hy.1 c2
    exact ww_sub [0, 1] rfl (by decide) (by decide) hy
  · have hy := hy.2 c2
    refine ww_aload_n C 0 0 rfl rfl dX9_saySmall_44 ?_
    refine ww_bipush C (z := 48) dX9_saySmall_45 rfl ?_
    refine ww_iload_n C 2 1 rfl rfl dX9_saySmall_47 ?_
    refine ww_bipush C (z := 10) dX9_saySmall_48 rfl ?_
    obtain ⟨p3, hy⟩ := hy
    refine ww_idiv C dX9_saySmall_50 p3.1 p3.2.1 p3.2.2 ?_
    refine ww_bipush C (z := 10) dX9_saySmall_51 rfl ?_
    obtain ⟨p4, hy⟩ := hy
    refine ww_irem C dX9_saySmall_53 p4.1 p4.2.1 p4.2.2 ?_
    refine ww_iadd C dX9_saySmall_54 ?_
    obtain ⟨p5, hy⟩ := hy
    refine cl_X9_96 C dX9_saySmall_55 (Nat.le_of_ble_eq_true rfl) ⟨by decide, by decide⟩ ⟨by decide, by decide⟩ p5 ?_
    refine S_X9_say.mono hy (fun h6 hy => ?_)
    exact ww_sub [0, 1] rfl (by decide) (by decide) hy
set_option maxRecDepth 100000 in
set_option maxHeartbeats 4000000 in
theorem X9_saySmall_b58 {G : xG} {k : xK} {n0 : Nat} {Po : xH → Prop} (C : CC G k cX9_saySmall RX9 3 rm_X9_saySmall) (E : CQ G k none rm_X9_saySmall (fun r n1 h1 => r = none ∧ n1 = n0 ∧ Po h1)) (x0 : Nat) (x2 : Int) (n : Nat) (h : xH) (hn0 : n = n0) (hy : (rg x2 ∧ rg (10 : Int) ∧ (10 : Int) ≠ 0) ∧ okO n h x0 8 ∧ S_X9_say G (kl k) x0 (48 + (x2.tmod 10)) n h (fun h3 => Po h3)) : X9_saySmall_w58 G k x0 x2 n h := by
  subst hn0
  refine ww_aload_n C 0 0 rfl rfl dX9_saySmall_58 ?_
  refine ww_bipush C (z := 48) dX9_saySmall_59 rfl ?_
  refine ww_iload_n C 2 1 rfl rfl dX9_saySmall_61 ?_
  refine ww_bipush C (z := 10) dX9_saySmall_62 rfl ?_
  obtain ⟨p1, hy⟩ := hy
  refine ww_irem C dX9_saySmall_64 p1.1 p1.2.1 p1.2.2 ?_
  refine ww_iadd C dX9_saySmall_65 ?_
  obtain ⟨p2, hy⟩ := hy
  refine cl_X9_96 C dX9_saySmall_66 (Nat.le_of_ble_eq_true rfl) ⟨by decide, by decide⟩ ⟨by decide, by decide⟩ p2 ?_
  refine S_X9_say.mono hy (fun h3 hy => ?_)
  exact ww_vret C E dX9_saySmall_69 (by decide) (by decide) ⟨rfl, rfl, hy⟩
abbrev X9_sayWhole_w0 (G : xG) (k : xK) (x0 : Nat) (x1 : Nat) (x2 : Int) (n : Nat) (h : xH) : Prop := WW G k 8 0 0 0 [(0, rf G x0), (1, rf G x1), (2, .int (iz x2))] [] n h
abbrev X9_sayWhole_w39 (G : xG) (k : xK) (x0 : Nat) (x1 : Nat) (x2 : Int) (x3 : Int) (x4 : Int) (n : Nat) (h : xH) : Prop := WW G k 8 0 0 39 [(0, rf G x0), (1, rf G x1), (2, .int (iz x2)), (3, .int (iz x3)), (4, .int (iz x4))] [] n h
abbrev X9_sayWhole_w90 (G : xG) (k : xK) (x0 : Nat) (x3 : Int) (n : Nat) (h : xH) : Prop := WW G k 8 0 0 90 [(0, rf G x0), (3, .int (iz x3))] [] n h
abbrev X9_sayWhole_w101 (G : xG) (k : xK) (x0 : Nat) (x5 : Int) (x6 : Int) (n : Nat) (h : xH) : Prop := WW G k 8 0 0 101 [(0, rf G x0), (5, .int (iz x5)), (6, .int (iz x6))] [] n h
theorem S_X9_sayWhole_of {G : xG} {l : Launch} {x0 : Nat} {x1 : Nat} {x2 : Int} {n : Nat} {h : xH} {Po : xH → Prop} (body : ∀ k : xK, kl k = l → CC G k cX9_sayWhole RX9 8 rm_X9_sayWhole → CQ G k none rm_X9_sayWhole (fun r n1 h1 => r = none ∧ n1 = n ∧ Po h1) → X9_sayWhole_w0 G k x0 x1 x2 n h) : S_X9_sayWhole G l x0 x1 x2 n h Po := xS_of (by decide +kernel) (Nat.le_of_ble_eq_true rfl) rfl (fun k hl hnm C E => body k hl C E)
set_option maxRecDepth 100000 in
set_option maxHeartbeats 4000000 in
theorem X9_sayWhole_b0 {G : xG} {k : xK} {n0 : Nat} {Po : xH → Prop} (C : CC G k cX9_sayWhole RX9 8 rm_X9_sayWhole) (E : CQ G k none rm_X9_sayWhole (fun r n1 h1 => r = none ∧ n1 = n0 ∧ Po h1)) (x0 : Nat) (x1 : Nat) (x2 : Int) (n : Nat) (h : xH) (hn0 : n = n0) (hy : okO n h x1 7 ∧ S_X8_isZero G (kl k) x1 n h (fun z2 h3 => rg z2 ∧ ((z2 = 0 → okO n h3 x0 8 ∧ okO n h3 x1 7 ∧ 0 ≤ hG h3 x1 1 ∧ (((hG h3 x1 1).toNat) < n ∧ ((h3 ((hG h3 x1 1).toNat)).1 = 100 ∨ (h3 ((hG h3 x1 1).toNat)).1 = 101)) ∧ okO n h3 x1 7 ∧ 0 ≤ hG h3 x1 1 ∧ okO n h3 x0 8 ∧ 0 ≤ hG h3 x0 1 ∧ S_X9_copyRow G (kl k) ((hG h3 x1 1).toNat) ((hG h3 x0 1).toNat) ((h3 ((hG h3 x1 1).toNat)).2.1 : Int) n h3 (fun h14 => X9_sayWhole_w39 G k x0 x1 x2 (hG h3 x0 21) ((h3 ((hG h3 x1 1).toNat)).2.1 : Int) n h14)) ∧ (¬ z2 = 0 → okO n h3 x0 8 ∧ S_X9_say G (kl k) x0 48 n h3 (fun h16 => Po h16))))) : X9_sayWhole_w0 G k x0 x1 x2 n h := by
  subst hn0
  refine ww_aload_n C 1 1 rfl rfl dX9_sayWhole_0 ?_
  obtain ⟨p1, hy⟩ := hy
  refine cl_X9_100 C dX9_sayWhole_1 (Nat.le_of_ble_eq_true rfl) ⟨by decide, by decide⟩ ⟨by decide, by decide⟩ p1 ?_
  refine S_X8_isZero.mono hy (fun z2 h3 hy => ?_)
  obtain ⟨p4, hy⟩ := hy
  refine ww_if_eq C (tg := 14) dX9_sayWhole_4 (by decide) p4 (fun c5 => ?_) (fun c5 => ?_)
  · have hy := hy.1 c5
    refine ww_aload_n C 0 0 rfl rfl dX9_sayWhole_14 ?_
    obtain ⟨p6, hy⟩ := hy
    refine gf_X9_82 C dX9_sayWhole_15 p6 ?_
    refine ww_istore_n C 3 rfl (by decide) rfl dX9_sayWhole_18 ?_
    refine ww_aload_n C 1 2 rfl rfl dX9_sayWhole_19 ?_
    obtain ⟨p7, hy⟩ := hy
    obtain ⟨p8, hy⟩ := hy
    refine gf_X9_104 C dX9_sayWhole_20 p7 p8 ?_
    obtain ⟨p9, hy⟩ := hy
    refine ww_alen C dX9_sayWhole_23 p9.1 p9.2 ?_
    refine ww_istore C 4 (by decide) rfl dX9_sayWhole_24 ?_
    refine ww_aload_n C 1 3 rfl rfl dX9_sayWhole_26 ?_
    obtain ⟨p10, hy⟩ := hy
    obtain ⟨p11, hy⟩ := hy
    refine gf_X9_104 C dX9_sayWhole_27 p10 p11 ?_
    refine ww_aload_n C 0 2 rfl rfl dX9_sayWhole_30 ?_
    obtain ⟨p12, hy⟩ := hy
    obtain ⟨p13, hy⟩ := hy
    refine gf_X9_72 C dX9_sayWhole_31 p12 p13 ?_
    refine ww_iload C 4 0 rfl dX9_sayWhole_34 ?_
    refine cl_X9_61 C dX9_sayWhole_36 (Nat.le_of_ble_eq_true rfl) ⟨by decide, by decide⟩ ⟨by decide, by decide⟩ ?_
    refine S_X9_copyRow.mono hy (fun h14 hy => ?_)
    exact ww_sub [2, 3, 4, 1, 0] rfl (by decide) (by decide) hy
  · have hy := hy.2 c5
    refine ww_aload_n C 0 0 rfl rfl dX9_sayWhole_7 ?_
    refine ww_bipush C (z := 48) dX9_sayWhole_8 rfl ?_
    obtain ⟨p15, hy⟩ := hy
    refine cl_X9_96 C dX9_sayWhole_10 (Nat.le_of_ble_eq_true rfl) ⟨by decide, by decide⟩ ⟨by decide, by decide⟩ p15 ?_
    refine S_X9_say.mono hy (fun h16 hy => ?_)
    exact ww_vret C E dX9_sayWhole_13 (by decide) (by decide) ⟨rfl, rfl, hy⟩
set_option maxRecDepth 100000 in
set_option maxHeartbeats 4000000 in
theorem X9_sayWhole_b39 {G : xG} {k : xK} {n0 : Nat} {Po : xH → Prop} (C : CC G k cX9_sayWhole RX9 8 rm_X9_sayWhole) (E : CQ G k none rm_X9_sayWhole (fun r n1 h1 => r = none ∧ n1 = n0 ∧ Po h1)) (x0 : Nat) (x1 : Nat) (x2 : Int) (x3 : Int) (x4 : Int) (n : Nat) (h : xH) (hn0 : n = n0) (hy : rg x4 ∧ ((x4 ≤ 0 → okO n h x1 7 ∧ rg (hG h x1 0) ∧ ((0 ≤ (hG h x1 0) → X9_sayWhole_w90 G k x0 x3 n h) ∧ (¬ 0 ≤ (hG h x1 0) → okO n h x0 8 ∧ S_X9_say G (kl k) x0 45 n h (fun h7 => X9_sayWhole_w90 G k x0 x3 n h7)))) ∧ (¬ x4 ≤ 0 → okO n h x0 8 ∧ 0 ≤ hG h x0 1 ∧ S_X9_cutBy G (kl k) ((hG h x0 1).toNat) x4 x2 n h (fun z10 h11 => 4 < 8 ∧ S_J0_charAt_5068e G (kl k) 4 z10 n h11 (fun z13 h14 => okO n h14 x0 8 ∧ S_X9_say G (kl k) x0 z13 n h14 (fun h16 => okO n h16 x0 8 ∧ 0 ≤ hG h16 x0 1 ∧ S_X9_used G (kl k) ((hG h16 x0 1).toNat) x4 n h16 (fun z19 h20 => X9_sayWhole_w39 G k x0 x1 x2 x3 z19 n h20))))))) : X9_sayWhole_w39 G k x0 x1 x2 x3 x4 n h := by
  subst hn0
  refine ww_iload C 4 4 rfl dX9_sayWhole_39 ?_
  obtain ⟨p1, hy⟩ := hy
  refine ww_if_le C (tg := 77) dX9_sayWhole_41 (by decide) p1 (fun c2 => ?_) (fun c2 => ?_)
  · have hy := hy.1 c2
    refine ww_aload_n C 1 1 rfl rfl dX9_sayWhole_77 ?_
    obtain ⟨p3, hy⟩ := hy
    refine gf_X9_109 C dX9_sayWhole_78 p3 ?_
    obtain ⟨p4, hy⟩ := hy
    refine ww_if_ge C (tg := 90) dX9_sayWhole_81 (by decide) p4 (fun c5 => ?_) (fun c5 => ?_)
    · have hy := hy.1 c5
      exact ww_sub [0, 3] rfl (by decide) (by decide) hy
    · have hy := hy.2 c5
      refine ww_aload_n C 0 0 rfl rfl dX9_sayWhole_84 ?_
      refine ww_bipush C (z := 45) dX9_sayWhole_85 rfl ?_
      obtain ⟨p6, hy⟩ := hy
      refine cl_X9_96 C dX9_sayWhole_87 (Nat.le_of_ble_eq_true rfl) ⟨by decide, by decide⟩ ⟨by decide, by decide⟩ p6 ?_
      refine S_X9_say.mono hy (fun h7 hy => ?_)
      exact ww_sub [0, 3] rfl (by decide) (by decide) hy
  · have hy := hy.2 c2
    refine ww_aload_n C 0 0 rfl rfl dX9_sayWhole_44 ?_
    refine ww_ldcS C (i0 := 107) (j := 4) (tx := "0123456789abcdefghijklmnopqrstuvwxyz") (by decide) dX9_sayWhole_45 ?_
    refine ww_aload_n C 0 0 rfl rfl dX9_sayWhole_47 ?_
    obtain ⟨p8, hy⟩ := hy
    obtain ⟨p9, hy⟩ := hy
    refine gf_X9_72 C dX9_sayWhole_48 p8 p9 ?_
    refine ww_iload C 4 4 rfl dX9_sayWhole_51 ?_
    refine ww_iload_n C 2 2 rfl rfl dX9_sayWhole_53 ?_
    refine cl_X9_75 C dX9_sayWhole_54 (Nat.le_of_ble_eq_true rfl) ⟨by decide, by decide⟩ ⟨by decide, by decide⟩ ?_
    refine S_X9_cutBy.mono hy (fun z10 h11 hy => ?_)
    obtain ⟨p12, hy⟩ := hy
    refine cl_X9_92 C dX9_sayWhole_57 (Nat.le_of_ble_eq_true rfl) ⟨by decide, by decide⟩ ⟨by decide, by decide⟩ p12 ?_
    refine S_J0_charAt_5068e.mono hy (fun z13 h14 hy => ?_)
    obtain ⟨p15, hy⟩ := hy
    refine cl_X9_96 C dX9_sayWhole_60 (Nat.le_of_ble_eq_true rfl) ⟨by decide, by decide⟩ ⟨by decide, by decide⟩ p15 ?_
    refine S_X9_say.mono hy (fun h16 hy => ?_)
    refine ww_aload_n C 0 0 rfl rfl dX9_sayWhole_63 ?_
    obtain ⟨p17, hy⟩ := hy
    obtain ⟨p18, hy⟩ := hy
    refine gf_X9_72 C dX9_sayWhole_64 p17 p18 ?_
    refine ww_iload C 4 4 rfl dX9_sayWhole_67 ?_
    refine cl_X9_15 C dX9_sayWhole_69 (Nat.le_of_ble_eq_true rfl) ⟨by decide, by decide⟩ ⟨by decide, by decide⟩ ?_
    refine S_X9_used.mono hy (fun z19 h20 hy => ?_)
    refine ww_istore C 4 (by decide) rfl dX9_sayWhole_72 ?_
    refine ww_goto C (tg := 39) dX9_sayWhole_74 (by decide) ?_
    exact ww_sub [1, 2, 3, 4, 0] rfl (by decide) (by decide) hy
set_option maxRecDepth 100000 in
set_option maxHeartbeats 4000000 in
theorem X9_sayWhole_b90 {G : xG} {k : xK} {n0 : Nat} {Po : xH → Prop} (C : CC G k cX9_sayWhole RX9 8 rm_X9_sayWhole) (E : CQ G k none rm_X9_sayWhole (fun r n1 h1 => r = none ∧ n1 = n0 ∧ Po h1)) (x0 : Nat) (x3 : Int) (n : Nat) (h : xH) (hn0 : n = n0) (hy : okO n h x0 8 ∧ X9_sayWhole_w101 G k x0 x3 ((hG h x0 21) - 1) n h) : X9_sayWhole_w90 G k x0 x3 n h := by
  subst hn0
  refine ww_iload_n C 3 1 rfl rfl dX9_sayWhole_90 ?_
  refine ww_istore C 5 (by decide) rfl dX9_sayWhole_91 ?_
  refine ww_aload_n C 0 1 rfl rfl dX9_sayWhole_93 ?_
  obtain ⟨p1, hy⟩ := hy
  refine gf_X9_82 C dX9_sayWhole_94 p1 ?_
  refine ww_iconst C (z := 1) dX9_sayWhole_97 rfl ?_
  refine ww_isub C dX9_sayWhole_98 ?_
  refine ww_istore C 6 (by decide) rfl dX9_sayWhole_99 ?_
  exact ww_sub [2, 1, 0] rfl (by decide) (by decide) hy
set_option maxRecDepth 100000 in
set_option maxHeartbeats 4000000 in
theorem X9_sayWhole_b101 {G : xG} {k : xK} {n0 : Nat} {Po : xH → Prop} (C : CC G k cX9_sayWhole RX9 8 rm_X9_sayWhole) (E : CQ G k none rm_X9_sayWhole (fun r n1 h1 => r = none ∧ n1 = n0 ∧ Po h1)) (x0 : Nat) (x5 : Int) (x6 : Int) (n : Nat) (h : xH) (hn0 : n = n0) (hy : (rg x5 ∧ rg x6) ∧ ((x6 ≤ x5 → Po h) ∧ (¬ x6 ≤ x5 → okO n h x0 8 ∧ 0 ≤ hG h x0 20 ∧ okA n h ((hG h x0 20).toNat) 100 x5 ∧ okO n h x0 8 ∧ 0 ≤ hG h x0 20 ∧ okO n h x0 8 ∧ 0 ≤ hG h x0 20 ∧ okA n h ((hG h x0 20).toNat) 100 x6 ∧ okA n h ((hG h x0 20).toNat) 100 x5 ∧ (∀ h12 : xH, h12 = hS h ((hG h x0 20).toNat) (x5.toNat) (hG h ((hG h x0 20).toNat) (x6.toNat)) → okO n h12 x0 8 ∧ 0 ≤ hG h12 x0 20 ∧ okA n h12 ((hG h12 x0 20).toNat) 100 x6 ∧ (∀ h16 : xH, h16 = hS h12 ((hG h12 x0 20).toNat) (x6.toNat) (hG h ((hG h x0 20).toNat) (x5.toNat)) → X9_sayWhole_w101 G k x0 (x5 + 1) (x6 + (-1)) n h16))))) : X9_sayWhole_w101 G k x0 x5 x6 n h := by
  subst hn0
  refine ww_iload C 5 1 rfl dX9_sayWhole_101 ?_
  refine ww_iload C 6 2 rfl dX9_sayWhole_103 ?_
  obtain ⟨p1, hy⟩ := hy
  refine ww_icmp_ge C (tg := 149) dX9_sayWhole_105 (by decide) p1.1 p1.2 (fun c2 => ?_) (fun c2 => ?_)
  · have hy := hy.1 c2
    exact ww_vret C E dX9_sayWhole_149 (by decide) (by decide) ⟨rfl, rfl, hy⟩
  · have hy := hy.2 c2
    refine ww_aload_n C 0 0 rfl rfl dX9_sayWhole_108 ?_
    obtain ⟨p3, hy⟩ := hy
    obtain ⟨p4, hy⟩ := hy
    refine gf_X9_79 C dX9_sayWhole_109 p3 p4 ?_
    refine ww_iload C 5 1 rfl dX9_sayWhole_112 ?_
    obtain ⟨p5, hy⟩ := hy
    refine ww_iald C dX9_sayWhole_114 p5 ?_
    refine ww_istore C 7 (by decide) rfl dX9_sayWhole_115 ?_
    refine ww_aload_n C 0 1 rfl rfl dX9_sayWhole_117 ?_
    obtain ⟨p6, hy⟩ := hy
    obtain ⟨p7, hy⟩ := hy
    refine gf_X9_79 C dX9_sayWhole_118 p6 p7 ?_
    refine ww_iload C 5 2 rfl dX9_sayWhole_121 ?_
    refine ww_aload_n C 0 1 rfl rfl dX9_sayWhole_123 ?_
    obtain ⟨p8, hy⟩ := hy
    obtain ⟨p9, hy⟩ := hy
    refine gf_X9_79 C dX9_sayWhole_124 p8 p9 ?_
    refine ww_iload C 6 3 rfl dX9_sayWhole_127 ?_
    obtain ⟨p10, hy⟩ := hy
    refine ww_iald C dX9_sayWhole_129 p10 ?_
    obtain ⟨p11, hy⟩ := hy
    have hy := hy _ rfl
    refine ww_iast C dX9_sayWhole_130 p11 ?_
    refine ww_aload_n C 0 1 rfl rfl dX9_sayWhole_131 ?_
    obtain ⟨p13, hy⟩ := hy
    obtain ⟨p14, hy⟩ := hy
    refine gf_X9_79 C dX9_sayWhole_132 p13 p14 ?_
    refine ww_iload C 6 3 rfl dX9_sayWhole_135 ?_
    refine ww_iload C 7 0 rfl dX9_sayWhole_137 ?_
    obtain ⟨p15, hy⟩ := hy
    have hy := hy _ rfl
    refine ww_iast C dX9_sayWhole_139 p15 ?_
    refine ww_iinc C 5 2 rfl (by decide) rfl dX9_sayWhole_140 ?_
    refine ww_iinc C 6 3 rfl (by decide) rfl dX9_sayWhole_143 ?_
    refine ww_goto C (tg := 101) dX9_sayWhole_146 (by decide) ?_
    exact ww_sub [3, 1, 0] rfl (by decide) (by decide) hy
abbrev X9_scaled_w0 (G : xG) (k : xK) (x0 : Int) (x1 : Int) (n : Nat) (h : xH) : Prop := WW G k 6 0 0 0 [(0, .long (lz x0)), (2, .int (iz x1))] [] n h
abbrev X9_scaled_w6 (G : xG) (k : xK) (x2 : Int) (x3 : UInt64) (x5 : Int) (n : Nat) (h : xH) : Prop := WW G k 6 0 0 6 [(2, .int (iz x2)), (3, .double x3), (5, .int (iz x5))] [] n h
abbrev X9_scaled_w26 (G : xG) (k : xK) (x3 : UInt64) (x5 : Int) (n : Nat) (h : xH) : Prop := WW G k 6 0 0 26 [(3, .double x3), (5, .int (iz x5))] [] n h
theorem S_X9_scaled_of {G : xG} {l : Launch} {x0 : Int} {x1 : Int} {n : Nat} {h : xH} {Po : UInt64 → xH → Prop} (body : ∀ k : xK, kl k = l → CC G k cX9_scaled RX9 6 rm_X9_scaled → CQ G k (some .double) rm_X9_scaled (fun r n1 h1 => ∃ z : UInt64, r = some (.double z) ∧ n1 = n ∧ Po z h1) → X9_scaled_w0 G k x0 x1 n h) : S_X9_scaled G l x0 x1 n h Po := xS_of (by decide +kernel) (Nat.le_of_ble_eq_true rfl) rfl (fun k hl hnm C E => body k hl C E)
set_option maxRecDepth 100000 in
set_option maxHeartbeats 4000000 in
theorem X9_scaled_b0 {G : xG} {k : xK} {n0 : Nat} {Po : UInt64 → xH → Prop} (C : CC G k cX9_scaled RX9 6 rm_X9_scaled) (E : CQ G k (some .double) rm_X9_scaled (fun r n1 h1 => ∃ z : UInt64, r = some (.double z) ∧ n1 = n0 ∧ Po z h1)) (x0 : Int) (x1 : Int) (n : Nat) (h : xH) (hn0 : n = n0) (hy : X9_scaled_w6 G k x1 (FP.l2d (lz x0)) x1 n h) : X9_scaled_w0 G k x0 x1 n h := by
  subst hn0
  refine ww_lload_n C 0 0 rfl rfl dX9_scaled_0 ?_
  refine ww_l2d C dX9_scaled_1 ?_
  refine ww_dstore_n C 3 rfl (by decide) rfl dX9_scaled_2 ?_
  refine ww_iload_n C 2 2 rfl rfl dX9_scaled_3 ?_
  refine ww_istore C 5 (by decide) rfl dX9_scaled_4 ?_
  exact ww_sub [3, 1, 0] rfl (by decide) (by decide) hy
set_option maxRecDepth 100000 in
set_option maxHeartbeats 4000000 in
theorem X9_scaled_b6 {G : xG} {k : xK} {n0 : Nat} {Po : UInt64 → xH → Prop} (C : CC G k cX9_scaled RX9 6 rm_X9_scaled) (E : CQ G k (some .double) rm_X9_scaled (fun r n1 h1 => ∃ z : UInt64, r = some (.double z) ∧ n1 = n0 ∧ Po z h1)) (x2 : Int) (x3 : UInt64) (x5 : Int) (n : Nat) (h : xH) (hn0 : n = n0) (hy : rg x5 ∧ ((x5 ≤ 0 → X9_scaled_w26 G k x3 x2 n h) ∧ (¬ x5 ≤ 0 → vf_n64 (FP.dmul x3 4611686018427387904) ∧ X9_scaled_w6 G k x2 (FP.dmul x3 4611686018427387904) (x5 + (-1)) n h))) : X9_scaled_w6 G k x2 x3 x5 n h := by
  subst hn0
  refine ww_iload C 5 2 rfl dX9_scaled_6 ?_
  obtain ⟨p1, hy⟩ := hy
  refine ww_if_le C (tg := 23) dX9_scaled_8 (by decide) p1 (fun c2 => ?_) (fun c2 => ?_)
  · have hy := hy.1 c2
    refine ww_iload_n C 2 0 rfl rfl dX9_scaled_23 ?_
    refine ww_istore C 5 (by decide) rfl dX9_scaled_24 ?_
    exact ww_sub [2, 0] rfl (by decide) (by decide) hy
  · have hy := hy.2 c2
    refine ww_dload_n C 3 1 rfl rfl dX9_scaled_11 ?_
    refine ww_ldc2d C q_591 dX9_scaled_12 ?_
    obtain ⟨p3, hy⟩ := hy
    refine ww_dmul C dX9_scaled_15 p3 ?_
    refine ww_dstore_n C 3 rfl (by decide) rfl dX9_scaled_16 ?_
    refine ww_iinc C 5 2 rfl (by decide) rfl dX9_scaled_17 ?_
    refine ww_goto C (tg := 6) dX9_scaled_20 (by decide) ?_
    exact ww_sub [2, 1, 0] rfl (by decide) (by decide) hy
set_option maxRecDepth 100000 in
set_option maxHeartbeats 4000000 in
theorem X9_scaled_b26 {G : xG} {k : xK} {n0 : Nat} {Po : UInt64 → xH → Prop} (C : CC G k cX9_scaled RX9 6 rm_X9_scaled) (E : CQ G k (some .double) rm_X9_scaled (fun r n1 h1 => ∃ z : UInt64, r = some (.double z) ∧ n1 = n0 ∧ Po z h1)) (x3 : UInt64) (x5 : Int) (n : Nat) (h : xH) (hn0 : n = n0) (hy : rg x5 ∧ ((0 ≤ x5 → Po x3 h) ∧ (¬ 0 ≤ x5 → vf_n64 (FP.dmul x3 4602678819172646912) ∧ X9_scaled_w26 G k (FP.dmul x3 4602678819172646912) (x5 + 1) n h))) : X9_scaled_w26 G k x3 x5 n h := by
  subst hn0
  refine ww_iload C 5 1 rfl dX9_scaled_26 ?_
  obtain ⟨p1, hy⟩ := hy
  refine ww_if_ge C (tg := 43) dX9_scaled_28 (by decide) p1 (fun c2 => ?_) (fun c2 => ?_)
  · have hy := hy.1 c2
    refine ww_dload_n C 3 0 rfl rfl dX9_scaled_43 ?_
    exact ww_dret C E dX9_scaled_44 (by decide) (by decide) ⟨_, rfl, rfl, hy⟩
  · have hy := hy.2 c2
    refine ww_dload_n C 3 0 rfl rfl dX9_scaled_31 ?_
    refine ww_ldc2d C q_592 dX9_scaled_32 ?_
    obtain ⟨p3, hy⟩ := hy
    refine ww_dmul C dX9_scaled_35 p3 ?_
    refine ww_dstore_n C 3 rfl (by decide) rfl dX9_scaled_36 ?_
    refine ww_iinc C 5 1 rfl (by decide) rfl dX9_scaled_37 ?_
    refine ww_goto C (tg := 26) dX9_scaled_40 (by decide) ?_
    exact ww_sub [1, 0] rfl (by decide) (by decide) hy
abbrev X9_nearest_w0 (G : xG) (k : xK) (x0 : Nat) (x1 : Nat) (x2 : Int) (x3 : Nat) (x4 : Int) (n : Nat) (h : xH) : Prop := WW G k 13 0 0 0 [(0, rf G x0), (1, rf G x1), (2, .int (iz x2)), (3, rf G x3), (4, .int (iz x4))] [] n h
abbrev X9_nearest_w58 (G : xG) (k : xK) (x0 : Nat) (x1 : Nat) (x2 : Int) (x3 : Nat) (x4 : Int) (x5 : Int) (n : Nat) (h : xH) : Prop := WW G k 13 0 0 58 [(0, rf G x0), (1, rf G x1), (2, .int (iz x2)), (3, rf G x3), (4, .int (iz x4)), (5, .int (iz x5))] [] n h
abbrev X9_nearest_w109 (G : xG) (k : xK) (x0 : Nat) (x1 : Nat) (x2 : Int) (x3 : Nat) (x4 : Int) (x5 : Int) (s0 : Int) (n : Nat) (h : xH) : Prop := WW G k 13 0 0 109 [(0, rf G x0), (1, rf G x1), (2, .int (iz x2)), (3, rf G x3), (4, .int (iz x4)), (5, .int (iz x5))] [.int (iz s0)] n h
abbrev X9_nearest_w132 (G : xG) (k : xK) (x0 : Nat) (x1 : Nat) (x2 : Int) (x3 : Nat) (x4 : Int) (x5 : Int) (x6 : Int) (s0 : Int) (n : Nat) (h : xH) : Prop := WW G k 13 0 0 132 [(0, rf G x0), (1, rf G x1), (2, .int (iz x2)), (3, rf G x3), (4, .int (iz x4)), (5, .int (iz x5)), (6, .int (iz x6))] [.int (iz s0)] n h
abbrev X9_nearest_w165 (G : xG) (k : xK) (x0 : Nat) (x1 : Nat) (x2 : Int) (x3 : Nat) (x4 : Int) (x5 : Int) (x6 : Int) (x7 : Int) (s0 : Int) (n : Nat) (h : xH) : Prop := WW G k 13 0 0 165 [(0, rf G x0), (1, rf G x1), (2, .int (iz x2)), (3, rf G x3), (4, .int (iz x4)), (5, .int (iz x5)), (6, .int (iz x6)), (7, .int (iz x7))] [.int (iz s0)] n h
abbrev X9_nearest_w200 (G : xG) (k : xK) (x0 : Nat) (x1 : Nat) (x2 : Int) (x3 : Nat) (x4 : Int) (x5 : Int) (x7 : Int) (x8 : Int) (x9 : Int) (x10 : Int) (x12 : Int) (n : Nat) (h : xH) : Prop := WW G k 13 0 0 200 [(0, rf G x0), (1, rf G x1), (2, .int (iz x2)), (3, rf G x3), (4, .int (iz x4)), (5, .int (iz x5)), (7, .int (iz x7)), (8, .int (iz x8)), (9, .int (iz x9)), (10, .long (lz x10)), (12, .int (iz x12))] [] n h
abbrev X9_nearest_w243 (G : xG) (k : xK) (x0 : Nat) (x1 : Nat) (x2 : Int) (x3 : Nat) (x4 : Int) (x5 : Int) (n : Nat) (h : xH) : Prop := WW G k 13 0 0 243 [(0, rf G x0), (1, rf G x1), (2, .int (iz x2)), (3, rf G x3), (4, .int (iz x4)), (5, .int (iz x5))] [] n h
abbrev X9_nearest_w272 (G : xG) (k : xK) (x0 : Nat) (x5 : Int) (x7 : Int) (x8 : Int) (x10 : Int) (n : Nat) (h : xH) : Prop := WW G k 13 0 0 272 [(0, rf G x0), (5, .int (iz x5)), (7, .int (iz x7)), (8, .int (iz x8)), (10, .long (lz x10))] [] n h
abbrev X9_nearest_w338 (G : xG) (k : xK) (x0 : Nat) (x1 : Nat) (x2 : Int) (x3 : Nat) (x4 : Int) (x5 : Int) (n : Nat) (h : xH) : Prop := WW G k 13 0 0 338 [(0, rf G x0), (1, rf G x1), (2, .int (iz x2)), (3, rf G x3), (4, .int (iz x4)), (5, .int (iz x5))] [] n h
abbrev X9_nearest_w325 (G : xG) (k : xK) (x5 : Int) (s0 : Int) (n : Nat) (h : xH) : Prop := WW G k 13 0 0 325 [(5, .int (iz x5))] [.long (lz s0)] n h
abbrev X9_nearest_w329 (G : xG) (k : xK) (x5 : Int) (s0 : Int) (n : Nat) (h : xH) : Prop := WW G k 13 0 0 329 [(5, .int (iz x5))] [.long (lz s0)] n h
abbrev X9_nearest_w330 (G : xG) (k : xK) (x5 : Int) (s0 : Int) (s1 : Int) (n : Nat) (h : xH) : Prop := WW G k 13 0 0 330 [(5, .int (iz x5))] [.int (iz s0), .long (lz s1)] n h
theorem S_X9_nearest_of {G : xG} {l : Launch} {x0 : Nat} {x1 : Nat} {x2 : Int} {x3 : Nat} {x4 : Int} {n : Nat} {h : xH} {Po : UInt64 → xH → Prop} (body : ∀ k : xK, kl k = l → CC G k cX9_nearest RX9 13 rm_X9_nearest → CQ G k (some .double) rm_X9_nearest (fun r n1 h1 => ∃ z : UInt64, r = some (.double z) ∧ n1 = n ∧ Po z h1) → X9_nearest_w0 G k x0 x1 x2 x3 x4 n h) : S_X9_nearest G l x0 x1 x2 x3 x4 n h Po := xS_of (by decide +kernel) (Nat.le_of_ble_eq_true rfl) rfl (fun k hl hnm C E => body k hl C E)
set_option maxRecDepth 100000 in
set_option maxHeartbeats 4000000 in
theorem X9_nearest_b0 {G : xG} {k : xK} {n0 : Nat} {Po : UInt64 → xH → Prop} (C : CC G k cX9_nearest RX9 13 rm_X9_nearest) (E : CQ G k (some .double) rm_X9_nearest (fun r n1 h1 => ∃ z : UInt64, r = some (.double z) ∧ n1 = n0 ∧ Po z h1)) (x0 : Nat) (x1 : Nat) (x2 : Int) (x3 : Nat) (x4 : Int) (n : Nat) (h : xH) (hn0 : n = n0) (hy : S_X9_decimals G (kl k) x1 x2 n h (fun z1 h2 => S_X9_decimals G (kl k) x3 x4 n h2 (fun z3 h4 => vf_n64 (FP.dmul (FP.i2d (iz (z1 - z3))) 4614662735865160562) ∧ (∀ y6 : Int, y6 = ((FP.d2i (FP.dmul (FP.i2d (iz (z1 - z3))) 4614662735865160562)).toInt) - 53 → (rg y6 ∧ rg (1100 : Int)) ∧ ((y6 ≤ (1100 : Int) → (rg y6 ∧ rg (-1200 : Int)) ∧ (((-1200 : Int) ≤ y6 → (rg y6 ∧ rg (-1074 : Int)) ∧ (((-1074 : Int) ≤ y6 → X9_nearest_w58 G k x0 x1 x2 x3 x4 y6 n h4) ∧ (¬ (-1074 : Int) ≤ y6 → X9_nearest_w58 G k x0 x1 x2 x3 x4 (-1074) n h4))) ∧ (¬ (-1200 : Int) ≤ y6 → Po FP.dconst0 h4))) ∧ (¬ y6 ≤ (1100 : Int) → Po 9218868437227405312 h4)))))) : X9_nearest_w0 G k x0 x1 x2 x3 x4 n h := by
  subst hn0
  refine ww_aload_n C 1 1 rfl rfl dX9_nearest_0 ?_
  refine ww_iload_n C 2 2 rfl rfl dX9_nearest_1 ?_
  refine cl_X9_112 C dX9_nearest_2 (Nat.le_of_ble_eq_true rfl) ⟨by decide, by decide⟩ ⟨by decide, by decide⟩ ?_
  refine S_X9_decimals.mono hy (fun z1 h2 hy => ?_)
  refine ww_aload_n C 3 3 rfl rfl dX9_nearest_5 ?_
  refine ww_iload C 4 4 rfl dX9_nearest_6 ?_
  refine cl_X9_112 C dX9_nearest_8 (Nat.le_of_ble_eq_true rfl) ⟨by decide, by decide⟩ ⟨by decide, by decide⟩ ?_
  refine S_X9_decimals.mono hy (fun z3 h4 hy => ?_)
  refine ww_isub C dX9_nearest_11 ?_
  refine ww_i2d C dX9_nearest_12 ?_
  refine ww_ldc2d C q_596 dX9_nearest_13 ?_
  obtain ⟨p5, hy⟩ := hy
  refine ww_dmul C dX9_nearest_16 p5 ?_
  refine ww_d2i C dX9_nearest_17 ?_
  refine ww_bipush C (z := 53) dX9_nearest_18 rfl ?_
  refine ww_isub C dX9_nearest_20 ?_
  refine ww_istore C 5 (by decide) rfl dX9_nearest_21 ?_
  have hy := hy _ rfl
  refine ww_iload C 5 0 rfl dX9_nearest_23 ?_
  refine ww_sipush C (z := 1100) dX9_nearest_25 rfl ?_
  obtain ⟨p7, hy⟩ := hy
  refine ww_icmp_le C (tg := 35) dX9_nearest_28 (by decide) p7.1 p7.2 (fun c8 => ?_) (fun c8 => ?_)
  · have hy := hy.1 c8
    refine ww_iload C 5 0 rfl dX9_nearest_35 ?_
    refine ww_sipush C (z := (-1200)) dX9_nearest_37 rfl ?_
    obtain ⟨p9, hy⟩ := hy
    refine ww_icmp_ge C (tg := 45) dX9_nearest_40 (by decide) p9.1 p9.2 (fun c10 => ?_) (fun c10 => ?_)
    · have hy := hy.1 c10
      refine ww_iload C 5 0 rfl dX9_nearest_45 ?_
      refine ww_sipush C (z := (-1074)) dX9_nearest_47 rfl ?_
      obtain ⟨p11, hy⟩ := hy
      refine ww_icmp_ge C (tg := 58) dX9_nearest_50 (by decide) p11.1 p11.2 (fun c12 => ?_) (fun c12 => ?_)
      · have hy := hy.1 c12
        exact ww_sub [1, 2, 3, 4, 5, 0] rfl (by decide) (by decide) hy
      · have hy := hy.2 c12
        refine ww_sipush C (z := (-1074)) dX9_nearest_53 rfl ?_
        refine ww_istore C 5 (by decide) rfl dX9_nearest_56 ?_
        exact ww_sub [1, 2, 3, 4, 5, 0] rfl (by decide) (by decide) hy
    · have hy := hy.2 c10
      refine ww_dconst0 C dX9_nearest_43 ?_
      exact ww_dret C E dX9_nearest_44 (by decide) (by decide) ⟨_, rfl, rfl, hy⟩
  · have hy := hy.2 c8
    refine ww_ldc2d C q_597 dX9_nearest_31 ?_
    exact ww_dret C E dX9_nearest_34 (by decide) (by decide) ⟨_, rfl, rfl, hy⟩
set_option maxRecDepth 100000 in
set_option maxHeartbeats 4000000 in
theorem X9_nearest_b58 {G : xG} {k : xK} {n0 : Nat} {Po : UInt64 → xH → Prop} (C : CC G k cX9_nearest RX9 13 rm_X9_nearest) (E : CQ G k (some .double) rm_X9_nearest (fun r n1 h1 => ∃ z : UInt64, r = some (.double z) ∧ n1 = n0 ∧ Po z h1)) (x0 : Nat) (x1 : Nat) (x2 : Int) (x3 : Nat) (x4 : Int) (x5 : Int) (n : Nat) (h : xH) (hn0 : n = n0) (hy : okO n h x0 8 ∧ 0 ≤ hG h x0 8 ∧ S_X9_copyRow G (kl k) x1 ((hG h x0 8).toNat) x2 n h (fun h3 => okO n h3 x0 8 ∧ 0 ≤ hG h3 x0 9 ∧ S_X9_copyRow G (kl k) x3 ((hG h3 x0 9).toNat) x4 n h3 (fun h6 => okO n h6 x0 8 ∧ 0 ≤ hG h6 x0 0 ∧ okO n h6 x0 8 ∧ 0 ≤ hG h6 x0 10 ∧ S_X9_copyRow G (kl k) ((hG h6 x0 0).toNat) ((hG h6 x0 10).toNat) 0 n h6 (fun h11 => rg x5 ∧ ((0 ≤ x5 → X9_nearest_w109 G k x0 x1 x2 x3 x4 x5 x2 n h11) ∧ (¬ 0 ≤ x5 → okO n h11 x0 8 ∧ 0 ≤ hG h11 x0 8 ∧ S_X9_doubled G (kl k) ((hG h11 x0 8).toNat) x2 (-x5) n h11 (fun z16 h17 => X9_nearest_w109 G k x0 x1 x2 x3 x4 x5 z16 n h17))))))) : X9_nearest_w58 G k x0 x1 x2 x3 x4 x5 n h := by
  subst hn0
  refine ww_aload_n C 1 1 rfl rfl dX9_nearest_58 ?_
  refine ww_aload_n C 0 0 rfl rfl dX9_nearest_59 ?_
  obtain ⟨p1, hy⟩ := hy
  obtain ⟨p2, hy⟩ := hy
  refine gf_X9_119 C dX9_nearest_60 p1 p2 ?_
  refine ww_iload_n C 2 2 rfl rfl dX9_nearest_63 ?_
  refine cl_X9_61 C dX9_nearest_64 (Nat.le_of_ble_eq_true rfl) ⟨by decide, by decide⟩ ⟨by decide, by decide⟩ ?_
  refine S_X9_copyRow.mono hy (fun h3 hy => ?_)
  refine ww_aload_n C 3 3 rfl rfl dX9_nearest_67 ?_
  refine ww_aload_n C 0 0 rfl rfl dX9_nearest_68 ?_
  obtain ⟨p4, hy⟩ := hy
  obtain ⟨p5, hy⟩ := hy
  refine gf_X9_122 C dX9_nearest_69 p4 p5 ?_
  refine ww_iload C 4 4 rfl dX9_nearest_72 ?_
  refine cl_X9_61 C dX9_nearest_74 (Nat.le_of_ble_eq_true rfl) ⟨by decide, by decide⟩ ⟨by decide, by decide⟩ ?_
  refine S_X9_copyRow.mono hy (fun h6 hy => ?_)
  refine ww_aload_n C 0 0 rfl rfl dX9_nearest_77 ?_
  obtain ⟨p7, hy⟩ := hy
  obtain ⟨p8, hy⟩ := hy
  refine gf_X9_125 C dX9_nearest_78 p7 p8 ?_
  refine ww_aload_n C 0 0 rfl rfl dX9_nearest_81 ?_
  obtain ⟨p9, hy⟩ := hy
  obtain ⟨p10, hy⟩ := hy
  refine gf_X9_128 C dX9_nearest_82 p9 p10 ?_
  refine ww_iconst C (z := 0) dX9_nearest_85 rfl ?_
  refine cl_X9_61 C dX9_nearest_86 (Nat.le_of_ble_eq_true rfl) ⟨by decide, by decide⟩ ⟨by decide, by decide⟩ ?_
  refine S_X9_copyRow.mono hy (fun h11 hy => ?_)
  refine ww_iload C 5 5 rfl dX9_nearest_89 ?_
  obtain ⟨p12, hy⟩ := hy
  refine ww_if_ge C (tg := 108) dX9_nearest_91 (by decide) p12 (fun c13 => ?_) (fun c13 => ?_)
  · have hy := hy.1 c13
    refine ww_iload_n C 2 2 rfl rfl dX9_nearest_108 ?_
    exact ww_sub [0, 1, 2, 3, 4, 5] rfl (by decide) (by decide) hy
  · have hy := hy.2 c13
    refine ww_aload_n C 0 0 rfl rfl dX9_nearest_94 ?_
    obtain ⟨p14, hy⟩ := hy
    obtain ⟨p15, hy⟩ := hy
    refine gf_X9_119 C dX9_nearest_95 p14 p15 ?_
    refine ww_iload_n C 2 2 rfl rfl dX9_nearest_98 ?_
    refine ww_iload C 5 5 rfl dX9_nearest_99 ?_
    refine ww_ineg C dX9_nearest_101 ?_
    refine cl_X9_131 C dX9_nearest_102 (Nat.le_of_ble_eq_true rfl) ⟨by decide, by decide⟩ ⟨by decide, by decide⟩ ?_
    refine S_X9_doubled.mono hy (fun z16 h17 hy => ?_)
    refine ww_goto C (tg := 109) dX9_nearest_105 (by decide) ?_
    exact ww_sub [0, 1, 2, 3, 4, 5] rfl (by decide) (by decide) hy
set_option maxRecDepth 100000 in
set_option maxHeartbeats 4000000 in
theorem X9_nearest_b109 {G : xG} {k : xK} {n0 : Nat} {Po : UInt64 → xH → Prop} (C : CC G k cX9_nearest RX9 13 rm_X9_nearest) (E : CQ G k (some .double) rm_X9_nearest (fun r n1 h1 => ∃ z : UInt64, r = some (.double z) ∧ n1 = n0 ∧ Po z h1)) (x0 : Nat) (x1 : Nat) (x2 : Int) (x3 : Nat) (x4 : Int) (x5 : Int) (s0 : Int) (n : Nat) (h : xH) (hn0 : n = n0) (hy : rg x5 ∧ ((x5 ≤ 0 → X9_nearest_w132 G k x0 x1 x2 x3 x4 x5 s0 x4 n h) ∧ (¬ x5 ≤ 0 → okO n h x0 8 ∧ 0 ≤ hG h x0 9 ∧ S_X9_doubled G (kl k) ((hG h x0 9).toNat) x4 x5 n h (fun z5 h6 => X9_nearest_w132 G k x0 x1 x2 x3 x4 x5 s0 z5 n h6)))) : X9_nearest_w109 G k x0 x1 x2 x3 x4 x5 s0 n h := by
  subst hn0
  refine ww_istore C 6 (by decide) rfl dX9_nearest_109 ?_
  refine ww_iload C 5 6 rfl dX9_nearest_111 ?_
  obtain ⟨p1, hy⟩ := hy
  refine ww_if_le C (tg := 130) dX9_nearest_113 (by decide) p1 (fun c2 => ?_) (fun c2 => ?_)
  · have hy := hy.1 c2
    refine ww_iload C 4 5 rfl dX9_nearest_130 ?_
    exact ww_sub [1, 2, 3, 4, 5, 6, 0] rfl (by decide) (by decide) hy
  · have hy := hy.2 c2
    refine ww_aload_n C 0 1 rfl rfl dX9_nearest_116 ?_
    obtain ⟨p3, hy⟩ := hy
    obtain ⟨p4, hy⟩ := hy
    refine gf_X9_122 C dX9_nearest_117 p3 p4 ?_
    refine ww_iload C 4 5 rfl dX9_nearest_120 ?_
    refine ww_iload C 5 6 rfl dX9_nearest_122 ?_
    refine cl_X9_131 C dX9_nearest_124 (Nat.le_of_ble_eq_true rfl) ⟨by decide, by decide⟩ ⟨by decide, by decide⟩ ?_
    refine S_X9_doubled.mono hy (fun z5 h6 hy => ?_)
    refine ww_goto C (tg := 132) dX9_nearest_127 (by decide) ?_
    exact ww_sub [1, 2, 3, 4, 5, 6, 0] rfl (by decide) (by decide) hy
set_option maxRecDepth 100000 in
set_option maxHeartbeats 4000000 in
theorem X9_nearest_b132 {G : xG} {k : xK} {n0 : Nat} {Po : UInt64 → xH → Prop} (C : CC G k cX9_nearest RX9 13 rm_X9_nearest) (E : CQ G k (some .double) rm_X9_nearest (fun r n1 h1 => ∃ z : UInt64, r = some (.double z) ∧ n1 = n0 ∧ Po z h1)) (x0 : Nat) (x1 : Nat) (x2 : Int) (x3 : Nat) (x4 : Int) (x5 : Int) (x6 : Int) (s0 : Int) (n : Nat) (h : xH) (hn0 : n = n0) (hy : (rg x6 ∧ rg s0) ∧ ((s0 ≤ x6 → okO n h x0 8 ∧ 0 ≤ hG h x0 8 ∧ okO n h x0 8 ∧ 0 ≤ hG h x0 9 ∧ okO n h x0 8 ∧ 0 ≤ hG h x0 10 ∧ S_X9_divideRows G (kl k) ((hG h x0 8).toNat) x6 ((hG h x0 9).toNat) s0 (((hG h x0 10).toNat : Nat) : Int) n h (fun z9 h10 => X9_nearest_w165 G k x0 x1 x2 x3 x4 x5 x6 s0 z9 n h10)) ∧ (¬ s0 ≤ x6 → X9_nearest_w165 G k x0 x1 x2 x3 x4 x5 x6 s0 x6 n h))) : X9_nearest_w132 G k x0 x1 x2 x3 x4 x5 x6 s0 n h := by
  subst hn0
  refine ww_istore C 7 (by decide) rfl dX9_nearest_132 ?_
  refine ww_iload C 6 7 rfl dX9_nearest_134 ?_
  refine ww_iload C 7 0 rfl dX9_nearest_136 ?_
  obtain ⟨p1, hy⟩ := hy
  refine ww_icmp_ge C (tg := 146) dX9_nearest_138 (by decide) p1.1 p1.2 (fun c2 => ?_) (fun c2 => ?_)
  · have hy := hy.1 c2
    refine ww_aload_n C 0 1 rfl rfl dX9_nearest_146 ?_
    obtain ⟨p3, hy⟩ := hy
    obtain ⟨p4, hy⟩ := hy
    refine gf_X9_119 C dX9_nearest_147 p3 p4 ?_
    refine ww_iload C 6 7 rfl dX9_nearest_150 ?_
    refine ww_aload_n C 0 1 rfl rfl dX9_nearest_152 ?_
    obtain ⟨p5, hy⟩ := hy
    obtain ⟨p6, hy⟩ := hy
    refine gf_X9_122 C dX9_nearest_153 p5 p6 ?_
    refine ww_iload C 7 0 rfl dX9_nearest_156 ?_
    refine ww_aload_n C 0 1 rfl rfl dX9_nearest_158 ?_
    obtain ⟨p7, hy⟩ := hy
    obtain ⟨p8, hy⟩ := hy
    refine gf_X9_128 C dX9_nearest_159 p7 p8 ?_
    refine ww_rv ?_
    refine cl_X9_65 C dX9_nearest_162 (Nat.le_of_ble_eq_true rfl) ⟨by decide, by decide⟩ ⟨by decide, by decide⟩ ?_
    refine S_X9_divideRows.mono hy (fun z9 h10 hy => ?_)
    exact ww_sub [1, 2, 3, 4, 5, 6, 7, 0] rfl (by decide) (by decide) hy
  · have hy := hy.2 c2
    refine ww_iload C 6 7 rfl dX9_nearest_141 ?_
    refine ww_goto C (tg := 165) dX9_nearest_143 (by decide) ?_
    exact ww_sub [1, 2, 3, 4, 5, 6, 7, 0] rfl (by decide) (by decide) hy
set_option maxRecDepth 100000 in
set_option maxHeartbeats 4000000 in
theorem X9_nearest_b165 {G : xG} {k : xK} {n0 : Nat} {Po : UInt64 → xH → Prop} (C : CC G k cX9_nearest RX9 13 rm_X9_nearest) (E : CQ G k (some .double) rm_X9_nearest (fun r n1 h1 => ∃ z : UInt64, r = some (.double z) ∧ n1 = n0 ∧ Po z h1)) (x0 : Nat) (x1 : Nat) (x2 : Int) (x3 : Nat) (x4 : Int) (x5 : Int) (x6 : Int) (x7 : Int) (s0 : Int) (n : Nat) (h : xH) (hn0 : n = n0) (hy : okO n h x0 8 ∧ 0 ≤ hG h x0 10 ∧ S_J9_max_7cf53 G (kl k) 1 ((x6 - x7) + 1) n h (fun z3 h4 => S_X9_used G (kl k) ((hG h x0 10).toNat) z3 n h4 (fun z5 h6 => S_J9_min_7cf53 G (kl k) z5 4 n h6 (fun z7 h8 => X9_nearest_w200 G k x0 x1 x2 x3 x4 x5 x7 s0 z5 0 (z7 - 1) n h8)))) : X9_nearest_w165 G k x0 x1 x2 x3 x4 x5 x6 x7 s0 n h := by
  subst hn0
  refine ww_istore C 8 (by decide) rfl dX9_nearest_165 ?_
  refine ww_aload_n C 0 1 rfl rfl dX9_nearest_167 ?_
  obtain ⟨p1, hy⟩ := hy
  obtain ⟨p2, hy⟩ := hy
  refine gf_X9_128 C dX9_nearest_168 p1 p2 ?_
  refine ww_iconst C (z := 1) dX9_nearest_171 rfl ?_
  refine ww_iload C 6 7 rfl dX9_nearest_172 ?_
  refine ww_iload C 7 8 rfl dX9_nearest_174 ?_
  refine ww_isub C dX9_nearest_176 ?_
  refine ww_iconst C (z := 1) dX9_nearest_177 rfl ?_
  refine ww_iadd C dX9_nearest_178 ?_
  refine cl_X9_134 C dX9_nearest_179 (Nat.le_of_ble_eq_true rfl) ⟨by decide, by decide⟩ ⟨by decide, by decide⟩ ?_
  refine S_J9_max_7cf53.mono hy (fun z3 h4 hy => ?_)
  refine cl_X9_15 C dX9_nearest_182 (Nat.le_of_ble_eq_true rfl) ⟨by decide, by decide⟩ ⟨by decide, by decide⟩ ?_
  refine S_X9_used.mono hy (fun z5 h6 hy => ?_)
  refine ww_istore C 9 (by decide) rfl dX9_nearest_185 ?_
  refine ww_lconst C (z := 0) dX9_nearest_187 rfl ?_
  refine ww_lstore C 10 (by decide) rfl dX9_nearest_188 ?_
  refine ww_iload C 9 1 rfl dX9_nearest_190 ?_
  refine ww_iconst C (z := 4) dX9_nearest_192 rfl ?_
  refine cl_X9_25 C dX9_nearest_193 (Nat.le_of_ble_eq_true rfl) ⟨by decide, by decide⟩ ⟨by decide, by decide⟩ ?_
  refine S_J9_min_7cf53.mono hy (fun z7 h8 hy => ?_)
  refine ww_iconst C (z := 1) dX9_nearest_196 rfl ?_
  refine ww_isub C dX9_nearest_197 ?_
  refine ww_istore C 12 (by decide) rfl dX9_nearest_198 ?_
  exact ww_sub [4, 5, 6, 7, 8, 9, 11, 3, 2, 1, 0] rfl (by decide) (by decide) hy
set_option maxRecDepth 100000 in
set_option maxHeartbeats 4000000 in
theorem X9_nearest_b200 {G : xG} {k : xK} {n0 : Nat} {Po : UInt64 → xH → Prop} (C : CC G k cX9_nearest RX9 13 rm_X9_nearest) (E : CQ G k (some .double) rm_X9_nearest (fun r n1 h1 => ∃ z : UInt64, r = some (.double z) ∧ n1 = n0 ∧ Po z h1)) (x0 : Nat) (x1 : Nat) (x2 : Int) (x3 : Nat) (x4 : Int) (x5 : Int) (x7 : Int) (x8 : Int) (x9 : Int) (x10 : Int) (x12 : Int) (n : Nat) (h : xH) (hn0 : n = n0) (hy : rg x12 ∧ ((x12 < 0 → (rg x9 ∧ rg (4 : Int)) ∧ (((4 : Int) < x9 → X9_nearest_w243 G k x0 x1 x2 x3 x4 x5 n h) ∧ (¬ (4 : Int) < x9 → (rgL x10 ∧ rgL 9007199254740992) ∧ (((lC x10 9007199254740992) < 0 → (rgL x10 ∧ rgL 4503599627370496) ∧ ((0 ≤ (lC x10 4503599627370496) → X9_nearest_w272 G k x0 x5 x7 x8 x10 n h) ∧ (¬ 0 ≤ (lC x10 4503599627370496) → (rg x5 ∧ rg (-1074 : Int)) ∧ ((x5 ≤ (-1074 : Int) → X9_nearest_w272 G k x0 x5 x7 x8 x10 n h) ∧ (¬ x5 ≤ (-1074 : Int) → X9_nearest_w338 G k x0 x1 x2 x3 x4 (x5 + (-1)) n h))))) ∧ (¬ (lC x10 9007199254740992) < 0 → X9_nearest_w243 G k x0 x1 x2 x3 x4 x5 n h))))) ∧ (¬ x12 < 0 → okO n h x0 8 ∧ 0 ≤ hG h x0 10 ∧ okA n h ((hG h x0 10).toNat) 100 x12 ∧ rg (hG h ((hG h x0 10).toNat) (x12.toNat)) ∧ (∀ y17 : Int, y17 = (x10 * 10000) + (hG h ((hG h x0 10).toNat) (x12.toNat)) → X9_nearest_w200 G k x0 x1 x2 x3 x4 x5 x7 x8 x9 y17 (x12 + (-1)) n h)))) : X9_nearest_w200 G k x0 x1 x2 x3 x4 x5 x7 x8 x9 x10 x12 n h := by
  subst hn0
  refine ww_iload C 12 10 rfl dX9_nearest_200 ?_
  obtain ⟨p1, hy⟩ := hy
  refine ww_if_lt C (tg := 228) dX9_nearest_202 (by decide) p1 (fun c2 => ?_) (fun c2 => ?_)
  · have hy := hy.1 c2
    refine ww_iload C 9 8 rfl dX9_nearest_228 ?_
    refine ww_iconst C (z := 4) dX9_nearest_230 rfl ?_
    obtain ⟨p3, hy⟩ := hy
    refine ww_icmp_gt C (tg := 243) dX9_nearest_231 (by decide) p3.1 p3.2 (fun c4 => ?_) (fun c4 => ?_)
    · have hy := hy.1 c4
      exact ww_sub [0, 1, 2, 3, 4, 5] rfl (by decide) (by decide) hy
    · have hy := hy.2 c4
      refine ww_lload C 10 9 rfl dX9_nearest_234 ?_
      refine ww_ldc2 C (z := 9007199254740992) q_606 dX9_nearest_236 ?_
      obtain ⟨p5, hy⟩ := hy
      refine ww_lcmp C dX9_nearest_239 p5.1 p5.2 ?_
      refine ww_if_lt C (tg := 249) dX9_nearest_240 (by decide) (rg_lC _ _) (fun c7 => ?_) (fun c7 => ?_)
      · have hy := hy.1 c7
        refine ww_lload C 10 9 rfl dX9_nearest_249 ?_
        refine ww_ldc2 C (z := 4503599627370496) q_607 dX9_nearest_251 ?_
        obtain ⟨p8, hy⟩ := hy
        refine ww_lcmp C dX9_nearest_254 p8.1 p8.2 ?_
        refine ww_if_ge C (tg := 272) dX9_nearest_255 (by decide) (rg_lC _ _) (fun c10 => ?_) (fun c10 => ?_)
        · have hy := hy.1 c10
          exact ww_sub [0, 5, 6, 7, 9] rfl (by decide) (by decide) hy
        · have hy := hy.2 c10
          refine ww_iload C 5 5 rfl dX9_nearest_258 ?_
          refine ww_sipush C (z := (-1074)) dX9_nearest_260 rfl ?_
          obtain ⟨p11, hy⟩ := hy
          refine ww_icmp_le C (tg := 272) dX9_nearest_263 (by decide) p11.1 p11.2 (fun c12 => ?_) (fun c12 => ?_)
          · have hy := hy.1 c12
            exact ww_sub [0, 5, 6, 7, 9] rfl (by decide) (by decide) hy
          · have hy := hy.2 c12
            refine ww_iinc C 5 5 rfl (by decide) rfl dX9_nearest_266 ?_
            refine ww_goto C (tg := 338) dX9_nearest_269 (by decide) ?_
            exact ww_sub [1, 2, 3, 4, 5, 0] rfl (by decide) (by decide) hy
      · have hy := hy.2 c7
        exact ww_sub [0, 1, 2, 3, 4, 5] rfl (by decide) (by decide) hy
  · have hy := hy.2 c2
    refine ww_lload C 10 9 rfl dX9_nearest_205 ?_
    refine ww_ldc2 C (z := 10000) q_543 dX9_nearest_207 ?_
    refine ww_lmul C dX9_nearest_210 ?_
    refine ww_aload_n C 0 0 rfl rfl dX9_nearest_211 ?_
    obtain ⟨p13, hy⟩ := hy
    obtain ⟨p14, hy⟩ := hy
    refine gf_X9_128 C dX9_nearest_212 p13 p14 ?_
    refine ww_iload C 12 10 rfl dX9_nearest_215 ?_
    obtain ⟨p15, hy⟩ := hy
    refine ww_iald C dX9_nearest_217 p15 ?_
    obtain ⟨p16, hy⟩ := hy
    refine ww_i2l C dX9_nearest_218 p16 ?_
    refine ww_ladd C dX9_nearest_219 ?_
    refine ww_lstore C 10 (by decide) rfl dX9_nearest_220 ?_
    have hy := hy _ rfl
    refine ww_iinc C 12 10 rfl (by decide) rfl dX9_nearest_222 ?_
    refine ww_goto C (tg := 200) dX9_nearest_225 (by decide) ?_
    exact ww_sub [2, 3, 4, 5, 6, 7, 8, 9, 10, 1, 0] rfl (by decide) (by decide) hy
set_option maxRecDepth 100000 in
set_option maxHeartbeats 4000000 in
theorem X9_nearest_b243 {G : xG} {k : xK} {n0 : Nat} {Po : UInt64 → xH → Prop} (C : CC G k cX9_nearest RX9 13 rm_X9_nearest) (E : CQ G k (some .double) rm_X9_nearest (fun r n1 h1 => ∃ z : UInt64, r = some (.double z) ∧ n1 = n0 ∧ Po z h1)) (x0 : Nat) (x1 : Nat) (x2 : Int) (x3 : Nat) (x4 : Int) (x5 : Int) (n : Nat) (h : xH) (hn0 : n = n0) (hy : X9_nearest_w338 G k x0 x1 x2 x3 x4 (x5 + 1) n h) : X9_nearest_w243 G k x0 x1 x2 x3 x4 x5 n h := by
  subst hn0
  refine ww_iinc C 5 5 rfl (by decide) rfl dX9_nearest_243 ?_
  refine ww_goto C (tg := 338) dX9_nearest_246 (by decide) ?_
  exact ww_sub [1, 2, 3, 4, 5, 0] rfl (by decide) (by decide) hy
set_option maxRecDepth 100000 in
set_option maxHeartbeats 4000000 in
theorem X9_nearest_b272 {G : xG} {k : xK} {n0 : Nat} {Po : UInt64 → xH → Prop} (C : CC G k cX9_nearest RX9 13 rm_X9_nearest) (E : CQ G k (some .double) rm_X9_nearest (fun r n1 h1 => ∃ z : UInt64, r = some (.double z) ∧ n1 = n0 ∧ Po z h1)) (x0 : Nat) (x5 : Int) (x7 : Int) (x8 : Int) (x10 : Int) (n : Nat) (h : xH) (hn0 : n = n0) (hy : okO n h x0 8 ∧ 0 ≤ hG h x0 8 ∧ S_X9_scale G (kl k) ((hG h x0 8).toNat) x8 2 0 n h (fun z3 h4 => okO n h4 x0 8 ∧ 0 ≤ hG h4 x0 8 ∧ okO n h4 x0 8 ∧ 0 ≤ hG h4 x0 9 ∧ S_X9_compareRows G (kl k) ((hG h4 x0 8).toNat) z3 ((hG h4 x0 9).toNat) x7 n h4 (fun z9 h10 => rg z9 ∧ ((0 < z9 → X9_nearest_w325 G k x5 x10 n h10) ∧ (¬ 0 < z9 → rg z9 ∧ ((¬ z9 = 0 → X9_nearest_w329 G k x5 x10 n h10) ∧ (z9 = 0 → (rgL x10 ∧ rgL (2 : Int) ∧ (2 : Int) ≠ 0) ∧ (rgL (x10.tmod 2) ∧ rgL 1) ∧ ((¬ (lC (x10.tmod 2) 1) = 0 → X9_nearest_w329 G k x5 x10 n h10) ∧ ((lC (x10.tmod 2) 1) = 0 → X9_nearest_w325 G k x5 x10 n h10))))))))) : X9_nearest_w272 G k x0 x5 x7 x8 x10 n h := by
  subst hn0
  refine ww_aload_n C 0 0 rfl rfl dX9_nearest_272 ?_
  obtain ⟨p1, hy⟩ := hy
  obtain ⟨p2, hy⟩ := hy
  refine gf_X9_119 C dX9_nearest_273 p1 p2 ?_
  refine ww_iload C 8 3 rfl dX9_nearest_276 ?_
  refine ww_iconst C (z := 2) dX9_nearest_278 rfl ?_
  refine ww_iconst C (z := 0) dX9_nearest_279 rfl ?_
  refine cl_X9_31 C dX9_nearest_280 (Nat.le_of_ble_eq_true rfl) ⟨by decide, by decide⟩ ⟨by decide, by decide⟩ ?_
  refine S_X9_scale.mono hy (fun z3 h4 hy => ?_)
  refine ww_istore C 8 (by decide) rfl dX9_nearest_283 ?_
  refine ww_aload_n C 0 1 rfl rfl dX9_nearest_285 ?_
  obtain ⟨p5, hy⟩ := hy
  obtain ⟨p6, hy⟩ := hy
  refine gf_X9_119 C dX9_nearest_286 p5 p6 ?_
  refine ww_iload C 8 0 rfl dX9_nearest_289 ?_
  refine ww_aload_n C 0 1 rfl rfl dX9_nearest_291 ?_
  obtain ⟨p7, hy⟩ := hy
  obtain ⟨p8, hy⟩ := hy
  refine gf_X9_122 C dX9_nearest_292 p7 p8 ?_
  refine ww_iload C 7 3 rfl dX9_nearest_295 ?_
  refine cl_X9_141 C dX9_nearest_297 (Nat.le_of_ble_eq_true rfl) ⟨by decide, by decide⟩ ⟨by decide, by decide⟩ ?_
  refine S_X9_compareRows.mono hy (fun z9 h10 hy => ?_)
  refine ww_istore C 12 (by decide) rfl dX9_nearest_300 ?_
  refine ww_lload C 10 5 rfl dX9_nearest_302 ?_
  refine ww_iload C 12 0 rfl dX9_nearest_304 ?_
  obtain ⟨p11, hy⟩ := hy
  refine ww_if_gt C (tg := 325) dX9_nearest_306 (by decide) p11 (fun c12 => ?_) (fun c12 => ?_)
  · have hy := hy.1 c12
    exact ww_sub [3] rfl (by decide) (by decide) hy
  · have hy := hy.2 c12
    refine ww_iload C 12 0 rfl dX9_nearest_309 ?_
    obtain ⟨p13, hy⟩ := hy
    refine ww_if_ne C (tg := 329) dX9_nearest_311 (by decide) p13 (fun c14 => ?_) (fun c14 => ?_)
    · have hy := hy.1 c14
      exact ww_sub [3] rfl (by decide) (by decide) hy
    · have hy := hy.2 c14
      refine ww_lload C 10 5 rfl dX9_nearest_314 ?_
      refine ww_ldc2 C (z := 2) q_611 dX9_nearest_316 ?_
      obtain ⟨p15, hy⟩ := hy
      refine ww_lrem C dX9_nearest_319 p15.1 p15.2.1 p15.2.2 ?_
      refine ww_lconst C (z := 1) dX9_nearest_320 rfl ?_
      obtain ⟨p16, hy⟩ := hy
      refine ww_lcmp C dX9_nearest_321 p16.1 p16.2 ?_
      refine ww_if_ne C (tg := 329) dX9_nearest_322 (by decide) (rg_lC _ _) (fun c18 => ?_) (fun c18 => ?_)
      · have hy := hy.1 c18
        exact ww_sub [3] rfl (by decide) (by decide) hy
      · have hy := hy.2 c18
        exact ww_sub [3] rfl (by decide) (by decide) hy
set_option maxRecDepth 100000 in
set_option maxHeartbeats 4000000 in
theorem X9_nearest_b338 {G : xG} {k : xK} {n0 : Nat} {Po : UInt64 → xH → Prop} (C : CC G k cX9_nearest RX9 13 rm_X9_nearest) (E : CQ G k (some .double) rm_X9_nearest (fun r n1 h1 => ∃ z : UInt64, r = some (.double z) ∧ n1 = n0 ∧ Po z h1)) (x0 : Nat) (x1 : Nat) (x2 : Int) (x3 : Nat) (x4 : Int) (x5 : Int) (n : Nat) (h : xH) (hn0 : n = n0) (hy : X9_nearest_w58 G k x0 x1 x2 x3 x4 x5 n h) : X9_nearest_w338 G k x0 x1 x2 x3 x4 x5 n h := by
  subst hn0
  refine ww_goto C (tg := 58) dX9_nearest_338 (by decide) ?_
  exact ww_sub [0, 1, 2, 3, 4, 5] rfl (by decide) (by decide) hy
set_option maxRecDepth 100000 in
set_option maxHeartbeats 4000000 in
theorem X9_nearest_b325 {G : xG} {k : xK} {n0 : Nat} {Po : UInt64 → xH → Prop} (C : CC G k cX9_nearest RX9 13 rm_X9_nearest) (E : CQ G k (some .double) rm_X9_nearest (fun r n1 h1 => ∃ z : UInt64, r = some (.double z) ∧ n1 = n0 ∧ Po z h1)) (x5 : Int) (s0 : Int) (n : Nat) (h : xH) (hn0 : n = n0) (hy : X9_nearest_w330 G k x5 1 s0 n h) : X9_nearest_w325 G k x5 s0 n h := by
  subst hn0
  refine ww_iconst C (z := 1) dX9_nearest_325 rfl ?_
  refine ww_goto C (tg := 330) dX9_nearest_326 (by decide) ?_
  exact ww_sub [0] rfl (by decide) (by decide) hy
set_option maxRecDepth 100000 in
set_option maxHeartbeats 4000000 in
theorem X9_nearest_b329 {G : xG} {k : xK} {n0 : Nat} {Po : UInt64 → xH → Prop} (C : CC G k cX9_nearest RX9 13 rm_X9_nearest) (E : CQ G k (some .double) rm_X9_nearest (fun r n1 h1 => ∃ z : UInt64, r = some (.double z) ∧ n1 = n0 ∧ Po z h1)) (x5 : Int) (s0 : Int) (n : Nat) (h : xH) (hn0 : n = n0) (hy : X9_nearest_w330 G k x5 0 s0 n h) : X9_nearest_w329 G k x5 s0 n h := by
  subst hn0
  refine ww_iconst C (z := 0) dX9_nearest_329 rfl ?_
  exact ww_sub [0] rfl (by decide) (by decide) hy
set_option maxRecDepth 100000 in
set_option maxHeartbeats 4000000 in
theorem X9_nearest_b330 {G : xG} {k : xK} {n0 : Nat} {Po : UInt64 → xH → Prop} (C : CC G k cX9_nearest RX9 13 rm_X9_nearest) (E : CQ G k (some .double) rm_X9_nearest (fun r n1 h1 => ∃ z : UInt64, r = some (.double z) ∧ n1 = n0 ∧ Po z h1)) (x5 : Int) (s0 : Int) (s1 : Int) (n : Nat) (h : xH) (hn0 : n = n0) (hy : rg s0 ∧ S_X9_scaled G (kl k) (s1 + s0) x5 n h (fun z2 h3 => Po z2 h3)) : X9_nearest_w330 G k x5 s0 s1 n h := by
  subst hn0
  obtain ⟨p1, hy⟩ := hy
  refine ww_i2l C dX9_nearest_330 p1 ?_
  refine ww_ladd C dX9_nearest_331 ?_
  refine ww_iload C 5 0 rfl dX9_nearest_332 ?_
  refine cl_X9_147 C dX9_nearest_334 (Nat.le_of_ble_eq_true rfl) ⟨by decide, by decide⟩ ⟨by decide, by decide⟩ ?_
  refine S_X9_scaled.mono hy (fun z2 h3 hy => ?_)
  exact ww_dret C E dX9_nearest_337 (by decide) (by decide) ⟨_, rfl, rfl, hy⟩
abbrev X9_significand_w0 (G : xG) (k : xK) (x0 : UInt64) (n : Nat) (h : xH) : Prop := WW G k 4 0 0 0 [(0, .double x0)] [] n h
abbrev X9_significand_w12 (G : xG) (k : xK) (s0 : UInt64) (n : Nat) (h : xH) : Prop := WW G k 4 0 0 12 [] [.double s0] n h
abbrev X9_significand_w13 (G : xG) (k : xK) (x2 : UInt64) (n : Nat) (h : xH) : Prop := WW G k 4 0 0 13 [(2, .double x2)] [] n h
abbrev X9_significand_w30 (G : xG) (k : xK) (x2 : UInt64) (n : Nat) (h : xH) : Prop := WW G k 4 0 0 30 [(2, .double x2)] [] n h
theorem S_X9_significand_of {G : xG} {l : Launch} {x0 : UInt64} {n : Nat} {h : xH} {Po : Int → xH → Prop} (body : ∀ k : xK, kl k = l → CC G k cX9_significand RX9 4 rm_X9_significand → CQ G k (some .long) rm_X9_significand (fun r n1 h1 => ∃ z : Int, r = some (.long (lz z)) ∧ n1 = n ∧ Po z h1) → X9_significand_w0 G k x0 n h) : S_X9_significand G l x0 n h Po := xS_of (by decide +kernel) (Nat.le_of_ble_eq_true rfl) rfl (fun k hl hnm C E => body k hl C E)
set_option maxRecDepth 100000 in
set_option maxHeartbeats 4000000 in
theorem X9_significand_b0 {G : xG} {k : xK} {n0 : Nat} {Po : Int → xH → Prop} (C : CC G k cX9_significand RX9 4 rm_X9_significand) (E : CQ G k (some .long) rm_X9_significand (fun r n1 h1 => ∃ z : Int, r = some (.long (lz z)) ∧ n1 = n0 ∧ Po z h1)) (x0 : UInt64) (n : Nat) (h : xH) (hn0 : n = n0) (hy : ((0 ≤ (dC .g x0 FP.dconst0) → X9_significand_w12 G k x0 n h) ∧ (¬ 0 ≤ (dC .g x0 FP.dconst0) → X9_significand_w12 G k (FP.dneg x0) n h))) : X9_significand_w0 G k x0 n h := by
  subst hn0
  refine ww_dload_n C 0 0 rfl rfl dX9_significand_0 ?_
  refine ww_dconst0 C dX9_significand_1 ?_
  refine ww_dcmp C dX9_significand_2 ?_
  refine ww_if_ge C (tg := 11) dX9_significand_3 (by decide) (rg_dC _ _ _) (fun c2 => ?_) (fun c2 => ?_)
  · have hy := hy.1 c2
    refine ww_dload_n C 0 0 rfl rfl dX9_significand_11 ?_
    exact ww_sub [] rfl (by decide) (by decide) hy
  · have hy := hy.2 c2
    refine ww_dload_n C 0 0 rfl rfl dX9_significand_6 ?_
    refine ww_dneg C dX9_significand_7 ?_
    refine ww_goto C (tg := 12) dX9_significand_8 (by decide) ?_
    exact ww_sub [] rfl (by decide) (by decide) hy
set_option maxRecDepth 100000 in
set_option maxHeartbeats 4000000 in
theorem X9_significand_b12 {G : xG} {k : xK} {n0 : Nat} {Po : Int → xH → Prop} (C : CC G k cX9_significand RX9 4 rm_X9_significand) (E : CQ G k (some .long) rm_X9_significand (fun r n1 h1 => ∃ z : Int, r = some (.long (lz z)) ∧ n1 = n0 ∧ Po z h1)) (s0 : UInt64) (n : Nat) (h : xH) (hn0 : n = n0) (hy : X9_significand_w13 G k s0 n h) : X9_significand_w12 G k s0 n h := by
  subst hn0
  refine ww_dstore_n C 2 rfl (by decide) rfl dX9_significand_12 ?_
  exact ww_sub [0] rfl (by decide) (by decide) hy
set_option maxRecDepth 100000 in
set_option maxHeartbeats 4000000 in
theorem X9_significand_b13 {G : xG} {k : xK} {n0 : Nat} {Po : Int → xH → Prop} (C : CC G k cX9_significand RX9 4 rm_X9_significand) (E : CQ G k (some .long) rm_X9_significand (fun r n1 h1 => ∃ z : Int, r = some (.long (lz z)) ∧ n1 = n0 ∧ Po z h1)) (x2 : UInt64) (n : Nat) (h : xH) (hn0 : n = n0) (hy : (((dC .l x2 4845873199050653696) < 0 → X9_significand_w30 G k x2 n h) ∧ (¬ (dC .l x2 4845873199050653696) < 0 → vf_n64 (FP.dmul x2 4602678819172646912) ∧ X9_significand_w13 G k (FP.dmul x2 4602678819172646912) n h))) : X9_significand_w13 G k x2 n h := by
  subst hn0
  refine ww_dload_n C 2 0 rfl rfl dX9_significand_13 ?_
  refine ww_ldc2d C q_615 dX9_significand_14 ?_
  refine ww_dcmp C dX9_significand_17 ?_
  refine ww_if_lt C (tg := 30) dX9_significand_18 (by decide) (rg_dC _ _ _) (fun c2 => ?_) (fun c2 => ?_)
  · have hy := hy.1 c2
    exact ww_sub [0] rfl (by decide) (by decide) hy
  · have hy := hy.2 c2
    refine ww_dload_n C 2 0 rfl rfl dX9_significand_21 ?_
    refine ww_ldc2d C q_592 dX9_significand_22 ?_
    obtain ⟨p3, hy⟩ := hy
    refine ww_dmul C dX9_significand_25 p3 ?_
    refine ww_dstore_n C 2 rfl (by decide) rfl dX9_significand_26 ?_
    refine ww_goto C (tg := 13) dX9_significand_27 (by decide) ?_
    exact ww_sub [0] rfl (by decide) (by decide) hy
set_option maxRecDepth 100000 in
set_option maxHeartbeats 4000000 in
theorem X9_significand_b30 {G : xG} {k : xK} {n0 : Nat} {Po : Int → xH → Prop} (C : CC G k cX9_significand RX9 4 rm_X9_significand) (E : CQ G k (some .long) rm_X9_significand (fun r n1 h1 => ∃ z : Int, r = some (.long (lz z)) ∧ n1 = n0 ∧ Po z h1)) (x2 : UInt64) (n : Nat) (h : xH) (hn0 : n = n0) (hy : (((dC .l x2 (FP.l2d (lz ((FP.d2l x2).toInt)))) = 0 → Po ((FP.d2l x2).toInt) h) ∧ (¬ (dC .l x2 (FP.l2d (lz ((FP.d2l x2).toInt)))) = 0 → vf_n64 (FP.dmul x2 4611686018427387904) ∧ X9_significand_w30 G k (FP.dmul x2 4611686018427387904) n h))) : X9_significand_w30 G k x2 n h := by
  subst hn0
  refine ww_dload_n C 2 0 rfl rfl dX9_significand_30 ?_
  refine ww_dload_n C 2 0 rfl rfl dX9_significand_31 ?_
  refine ww_d2l C dX9_significand_32 ?_
  refine ww_l2d C dX9_significand_33 ?_
  refine ww_dcmp C dX9_significand_34 ?_
  refine ww_if_eq C (tg := 47) dX9_significand_35 (by decide) (rg_dC _ _ _) (fun c2 => ?_) (fun c2 => ?_)
  · have hy := hy.1 c2
    refine ww_dload_n C 2 0 rfl rfl dX9_significand_47 ?_
    refine ww_d2l C dX9_significand_48 ?_
    exact ww_lret C E dX9_significand_49 (by decide) (by decide) ⟨_, rfl, rfl, hy⟩
  · have hy := hy.2 c2
    refine ww_dload_n C 2 0 rfl rfl dX9_significand_38 ?_
    refine ww_ldc2d C q_591 dX9_significand_39 ?_
    obtain ⟨p3, hy⟩ := hy
    refine ww_dmul C dX9_significand_42 p3 ?_
    refine ww_dstore_n C 2 rfl (by decide) rfl dX9_significand_43 ?_
    refine ww_goto C (tg := 30) dX9_significand_44 (by decide) ?_
    exact ww_sub [0] rfl (by decide) (by decide) hy
abbrev X9_exponent_w0 (G : xG) (k : xK) (x0 : UInt64) (n : Nat) (h : xH) : Prop := WW G k 5 0 0 0 [(0, .double x0)] [] n h
abbrev X9_exponent_w12 (G : xG) (k : xK) (s0 : UInt64) (n : Nat) (h : xH) : Prop := WW G k 5 0 0 12 [] [.double s0] n h
abbrev X9_exponent_w16 (G : xG) (k : xK) (x2 : UInt64) (x4 : Int) (n : Nat) (h : xH) : Prop := WW G k 5 0 0 16 [(2, .double x2), (4, .int (iz x4))] [] n h
abbrev X9_exponent_w36 (G : xG) (k : xK) (x2 : UInt64) (x4 : Int) (n : Nat) (h : xH) : Prop := WW G k 5 0 0 36 [(2, .double x2), (4, .int (iz x4))] [] n h
theorem S_X9_exponent_of {G : xG} {l : Launch} {x0 : UInt64} {n : Nat} {h : xH} {Po : Int → xH → Prop} (body : ∀ k : xK, kl k = l → CC G k cX9_exponent RX9 5 rm_X9_exponent → CQ G k (some .int) rm_X9_exponent (fun r n1 h1 => ∃ z : Int, r = some (.int (iz z)) ∧ n1 = n ∧ Po z h1) → X9_exponent_w0 G k x0 n h) : S_X9_exponent G l x0 n h Po := xS_of (by decide +kernel) (Nat.le_of_ble_eq_true rfl) rfl (fun k hl hnm C E => body k hl C E)
set_option maxRecDepth 100000 in
set_option maxHeartbeats 4000000 in
theorem X9_exponent_b0 {G : xG} {k : xK} {n0 : Nat} {Po : Int → xH → Prop} (C : CC G k cX9_exponent RX9 5 rm_X9_exponent) (E : CQ G k (some .int) rm_X9_exponent (fun r n1 h1 => ∃ z : Int, r = some (.int (iz z)) ∧ n1 = n0 ∧ Po z h1)) (x0 : UInt64) (n : Nat) (h : xH) (hn0 : n = n0) (hy : ((0 ≤ (dC .g x0 FP.dconst0) → X9_exponent_w12 G k x0 n h) ∧ (¬ 0 ≤ (dC .g x0 FP.dconst0) → X9_exponent_w12 G k (FP.dneg x0) n h))) : X9_exponent_w0 G k x0 n h := by
  subst hn0
  refine ww_dload_n C 0 0 rfl rfl dX9_exponent_0 ?_
  refine ww_dconst0 C dX9_exponent_1 ?_
  refine ww_dcmp C dX9_exponent_2 ?_
  refine ww_if_ge C (tg := 11) dX9_exponent_3 (by decide) (rg_dC _ _ _) (fun c2 => ?_) (fun c2 => ?_)
  · have hy := hy.1 c2
    refine ww_dload_n C 0 0 rfl rfl dX9_exponent_11 ?_
    exact ww_sub [] rfl (by decide) (by decide) hy
  · have hy := hy.2 c2
    refine ww_dload_n C 0 0 rfl rfl dX9_exponent_6 ?_
    refine ww_dneg C dX9_exponent_7 ?_
    refine ww_goto C (tg := 12) dX9_exponent_8 (by decide) ?_
    exact ww_sub [] rfl (by decide) (by decide) hy
set_option maxRecDepth 100000 in
set_option maxHeartbeats 4000000 in
theorem X9_exponent_b12 {G : xG} {k : xK} {n0 : Nat} {Po : Int → xH → Prop} (C : CC G k cX9_exponent RX9 5 rm_X9_exponent) (E : CQ G k (some .int) rm_X9_exponent (fun r n1 h1 => ∃ z : Int, r = some (.int (iz z)) ∧ n1 = n0 ∧ Po z h1)) (s0 : UInt64) (n : Nat) (h : xH) (hn0 : n = n0) (hy : X9_exponent_w16 G k s0 0 n h) : X9_exponent_w12 G k s0 n h := by
  subst hn0
  refine ww_dstore_n C 2 rfl (by decide) rfl dX9_exponent_12 ?_
  refine ww_iconst C (z := 0) dX9_exponent_13 rfl ?_
  refine ww_istore C 4 (by decide) rfl dX9_exponent_14 ?_
  exact ww_sub [1, 0] rfl (by decide) (by decide) hy
set_option maxRecDepth 100000 in
set_option maxHeartbeats 4000000 in
theorem X9_exponent_b16 {G : xG} {k : xK} {n0 : Nat} {Po : Int → xH → Prop} (C : CC G k cX9_exponent RX9 5 rm_X9_exponent) (E : CQ G k (some .int) rm_X9_exponent (fun r n1 h1 => ∃ z : Int, r = some (.int (iz z)) ∧ n1 = n0 ∧ Po z h1)) (x2 : UInt64) (x4 : Int) (n : Nat) (h : xH) (hn0 : n = n0) (hy : (((dC .l x2 4845873199050653696) < 0 → X9_exponent_w36 G k x2 x4 n h) ∧ (¬ (dC .l x2 4845873199050653696) < 0 → vf_n64 (FP.dmul x2 4602678819172646912) ∧ X9_exponent_w16 G k (FP.dmul x2 4602678819172646912) (x4 + 1) n h))) : X9_exponent_w16 G k x2 x4 n h := by
  subst hn0
  refine ww_dload_n C 2 0 rfl rfl dX9_exponent_16 ?_
  refine ww_ldc2d C q_615 dX9_exponent_17 ?_
  refine ww_dcmp C dX9_exponent_20 ?_
  refine ww_if_lt C (tg := 36) dX9_exponent_21 (by decide) (rg_dC _ _ _) (fun c2 => ?_) (fun c2 => ?_)
  · have hy := hy.1 c2
    exact ww_sub [0, 1] rfl (by decide) (by decide) hy
  · have hy := hy.2 c2
    refine ww_dload_n C 2 0 rfl rfl dX9_exponent_24 ?_
    refine ww_ldc2d C q_592 dX9_exponent_25 ?_
    obtain ⟨p3, hy⟩ := hy
    refine ww_dmul C dX9_exponent_28 p3 ?_
    refine ww_dstore_n C 2 rfl (by decide) rfl dX9_exponent_29 ?_
    refine ww_iinc C 4 1 rfl (by decide) rfl dX9_exponent_30 ?_
    refine ww_goto C (tg := 16) dX9_exponent_33 (by decide) ?_
    exact ww_sub [1, 0] rfl (by decide) (by decide) hy
set_option maxRecDepth 100000 in
set_option maxHeartbeats 4000000 in
theorem X9_exponent_b36 {G : xG} {k : xK} {n0 : Nat} {Po : Int → xH → Prop} (C : CC G k cX9_exponent RX9 5 rm_X9_exponent) (E : CQ G k (some .int) rm_X9_exponent (fun r n1 h1 => ∃ z : Int, r = some (.int (iz z)) ∧ n1 = n0 ∧ Po z h1)) (x2 : UInt64) (x4 : Int) (n : Nat) (h : xH) (hn0 : n = n0) (hy : (((dC .l x2 (FP.l2d (lz ((FP.d2l x2).toInt)))) = 0 → Po x4 h) ∧ (¬ (dC .l x2 (FP.l2d (lz ((FP.d2l x2).toInt)))) = 0 → vf_n64 (FP.dmul x2 4611686018427387904) ∧ X9_exponent_w36 G k (FP.dmul x2 4611686018427387904) (x4 + (-1)) n h))) : X9_exponent_w36 G k x2 x4 n h := by
  subst hn0
  refine ww_dload_n C 2 0 rfl rfl dX9_exponent_36 ?_
  refine ww_dload_n C 2 0 rfl rfl dX9_exponent_37 ?_
  refine ww_d2l C dX9_exponent_38 ?_
  refine ww_l2d C dX9_exponent_39 ?_
  refine ww_dcmp C dX9_exponent_40 ?_
  refine ww_if_eq C (tg := 56) dX9_exponent_41 (by decide) (rg_dC _ _ _) (fun c2 => ?_) (fun c2 => ?_)
  · have hy := hy.1 c2
    refine ww_iload C 4 1 rfl dX9_exponent_56 ?_
    exact ww_iret C E dX9_exponent_58 (by decide) (by decide) ⟨_, rfl, rfl, hy⟩
  · have hy := hy.2 c2
    refine ww_dload_n C 2 0 rfl rfl dX9_exponent_44 ?_
    refine ww_ldc2d C q_591 dX9_exponent_45 ?_
    obtain ⟨p3, hy⟩ := hy
    refine ww_dmul C dX9_exponent_48 p3 ?_
    refine ww_dstore_n C 2 rfl (by decide) rfl dX9_exponent_49 ?_
    refine ww_iinc C 4 1 rfl (by decide) rfl dX9_exponent_50 ?_
    refine ww_goto C (tg := 36) dX9_exponent_53 (by decide) ?_
    exact ww_sub [1, 0] rfl (by decide) (by decide) hy
abbrev X9_isExact_w0 (G : xG) (k : xK) (x0 : Int) (n : Nat) (h : xH) : Prop := WW G k 1 0 0 0 [(0, vR G x0)] [] n h
abbrev X9_isExact_w14 (G : xG) (k : xK)  (n : Nat) (h : xH) : Prop := WW G k 1 0 0 14 [] [] n h
abbrev X9_isExact_w19 (G : xG) (k : xK) (s0 : Int) (n : Nat) (h : xH) : Prop := WW G k 1 0 0 19 [] [.int (iz s0)] n h
theorem S_X9_isExact_of {G : xG} {l : Launch} {x0 : Int} {n : Nat} {h : xH} {Po : Int → xH → Prop} (body : ∀ k : xK, kl k = l → CC G k cX9_isExact RX9 1 rm_X9_isExact → CQ G k (some .boolean) rm_X9_isExact (fun r n1 h1 => ∃ z : Int, r = some (.int (iz z)) ∧ n1 = n ∧ Po z h1) → X9_isExact_w0 G k x0 n h) : S_X9_isExact G l x0 n h Po := xS_of (by decide +kernel) (by simp only [vR]; split <;> exact Nat.le_of_ble_eq_true rfl) rfl (fun k hl hnm C E => body k hl C E)
set_option maxRecDepth 100000 in
set_option maxHeartbeats 4000000 in
theorem X9_isExact_b0 {G : xG} {k : xK} {n0 : Nat} {Po : Int → xH → Prop} (C : CC G k cX9_isExact RX9 1 rm_X9_isExact) (E : CQ G k (some .boolean) rm_X9_isExact (fun r n1 h1 => ∃ z : Int, r = some (.int (iz z)) ∧ n1 = n0 ∧ Po z h1)) (x0 : Int) (n : Nat) (h : xH) (hn0 : n = n0) (hy : (x0 < 0 ∨ (x0.toNat < n ∧ ((h x0.toNat).1 = 5 ∨ (h x0.toNat).1 = 6 ∨ (h x0.toNat).1 = 7))) ∧ rg (xI h 7 x0) ∧ ((¬ (xI h 7 x0) = 0 → X9_isExact_w14 G k  n h) ∧ ((xI h 7 x0) = 0 → (x0 < 0 ∨ (x0.toNat < n ∧ ((h x0.toNat).1 = 5 ∨ (h x0.toNat).1 = 6 ∨ (h x0.toNat).1 = 7))) ∧ rg (xI h 5 x0) ∧ (((xI h 5 x0) = 0 → X9_isExact_w19 G k 0 n h) ∧ (¬ (xI h 5 x0) = 0 → X9_isExact_w14 G k  n h))))) : X9_isExact_w0 G k x0 n h := by
  subst hn0
  refine ww_Nload_n C 0 0 rfl rfl dX9_isExact_0 ?_
  obtain ⟨p1, hy⟩ := hy
  refine is_X9_1 C dX9_isExact_1 p1 ?_
  obtain ⟨p2, hy⟩ := hy
  refine ww_if_ne C (tg := 14) dX9_isExact_4 (by decide) p2 (fun c3 => ?_) (fun c3 => ?_)
  · have hy := hy.1 c3
    exact ww_sub [] rfl (by decide) (by decide) hy
  · have hy := hy.2 c3
    refine ww_Nload_n C 0 0 rfl rfl dX9_isExact_7 ?_
    obtain ⟨p4, hy⟩ := hy
    refine is_X9_157 C dX9_isExact_8 p4 ?_
    obtain ⟨p5, hy⟩ := hy
    refine ww_if_eq C (tg := 18) dX9_isExact_11 (by decide) p5 (fun c6 => ?_) (fun c6 => ?_)
    · have hy := hy.1 c6
      refine ww_iconst C (z := 0) dX9_isExact_18 rfl ?_
      exact ww_sub [] rfl (by decide) (by decide) hy
    · have hy := hy.2 c6
      exact ww_sub [] rfl (by decide) (by decide) hy
set_option maxRecDepth 100000 in
set_option maxHeartbeats 4000000 in
theorem X9_isExact_b14 {G : xG} {k : xK} {n0 : Nat} {Po : Int → xH → Prop} (C : CC G k cX9_isExact RX9 1 rm_X9_isExact) (E : CQ G k (some .boolean) rm_X9_isExact (fun r n1 h1 => ∃ z : Int, r = some (.int (iz z)) ∧ n1 = n0 ∧ Po z h1))  (n : Nat) (h : xH) (hn0 : n = n0) (hy : X9_isExact_w19 G k 1 n h) : X9_isExact_w14 G k  n h := by
  subst hn0
  refine ww_iconst C (z := 1) dX9_isExact_14 rfl ?_
  refine ww_goto C (tg := 19) dX9_isExact_15 (by decide) ?_
  exact ww_sub [] rfl (by decide) (by decide) hy
set_option maxRecDepth 100000 in
set_option maxHeartbeats 4000000 in
theorem X9_isExact_b19 {G : xG} {k : xK} {n0 : Nat} {Po : Int → xH → Prop} (C : CC G k cX9_isExact RX9 1 rm_X9_isExact) (E : CQ G k (some .boolean) rm_X9_isExact (fun r n1 h1 => ∃ z : Int, r = some (.int (iz z)) ∧ n1 = n0 ∧ Po z h1)) (s0 : Int) (n : Nat) (h : xH) (hn0 : n = n0) (hy : (s0 = 0 ∨ s0 = 1) ∧ Po s0 h) : X9_isExact_w19 G k s0 n h := by
  subst hn0
  obtain ⟨p1, hy⟩ := hy
  exact ww_zret C E dX9_isExact_19 (nz_b p1) (by decide) (by decide) ⟨_, rfl, rfl, hy⟩
abbrev X9_above_w0 (G : xG) (k : xK) (x0 : Int) (n : Nat) (h : xH) : Prop := WW G k 1 0 0 0 [(0, vR G x0)] [] n h
abbrev X9_above_w21 (G : xG) (k : xK) (s0 : Nat) (n : Nat) (h : xH) : Prop := WW G k 1 0 0 21 [] [rf G s0] n h
theorem S_X9_above_of {G : xG} {l : Launch} {x0 : Int} {n : Nat} {h : xH} {Po : Nat → xH → Prop} (body : ∀ k : xK, kl k = l → CC G k cX9_above RX9 1 rm_X9_above → CQ G k (some (.object "DoubleTextsModel$Whole")) rm_X9_above (fun r n1 h1 => ∃ z : Nat, r = some (rf G z) ∧ n1 = n ∧ Po z h1) → X9_above_w0 G k x0 n h) : S_X9_above G l x0 n h Po := xS_of (by decide +kernel) (by simp only [vR]; split <;> exact Nat.le_of_ble_eq_true rfl) rfl (fun k hl hnm C E => body k hl C E)
set_option maxRecDepth 100000 in
set_option maxHeartbeats 4000000 in
theorem X9_above_b0 {G : xG} {k : xK} {n0 : Nat} {Po : Nat → xH → Prop} (C : CC G k cX9_above RX9 1 rm_X9_above) (E : CQ G k (some (.object "DoubleTextsModel$Whole")) rm_X9_above (fun r n1 h1 => ∃ z : Nat, r = some (rf G z) ∧ n1 = n0 ∧ Po z h1)) (x0 : Int) (n : Nat) (h : xH) (hn0 : n = n0) (hy : (x0 < 0 ∨ (x0.toNat < n ∧ ((h x0.toNat).1 = 5 ∨ (h x0.toNat).1 = 6 ∨ (h x0.toNat).1 = 7))) ∧ rg (xI h 7 x0) ∧ (((xI h 7 x0) = 0 → (x0 < 0 ∨ (x0.toNat < n ∧ (h x0.toNat).1 = 5)) ∧ 0 ≤ x0 ∧ okO n h x0.toNat 5 ∧ 0 ≤ hG h x0.toNat 0 ∧ X9_above_w21 G k ((hG h x0.toNat 0).toNat) n h) ∧ (¬ (xI h 7 x0) = 0 → (x0 < 0 ∨ (x0.toNat < n ∧ (h x0.toNat).1 = 7)) ∧ 0 ≤ x0 ∧ X9_above_w21 G k x0.toNat n h))) : X9_above_w0 G k x0 n h := by
  subst hn0
  refine ww_Nload_n C 0 0 rfl rfl dX9_above_0 ?_
  obtain ⟨p1, hy⟩ := hy
  refine is_X9_1 C dX9_above_1 p1 ?_
  obtain ⟨p2, hy⟩ := hy
  refine ww_if_eq C (tg := 14) dX9_above_4 (by decide) p2 (fun c3 => ?_) (fun c3 => ?_)
  · have hy := hy.1 c3
    refine ww_Nload_n C 0 0 rfl rfl dX9_above_14 ?_
    obtain ⟨p4, hy⟩ := hy
    refine ct_X9_157 C dX9_above_15 p4 ?_
    obtain ⟨p5, hy⟩ := hy
    refine ww_vr p5 ?_
    obtain ⟨p6, hy⟩ := hy
    obtain ⟨p7, hy⟩ := hy
    refine gf_X9_159 C dX9_above_18 p6 p7 ?_
    exact ww_sub [] rfl (by decide) (by decide) hy
  · have hy := hy.2 c3
    refine ww_Nload_n C 0 0 rfl rfl dX9_above_7 ?_
    obtain ⟨p8, hy⟩ := hy
    refine ct_X9_1 C dX9_above_8 p8 ?_
    refine ww_goto C (tg := 21) dX9_above_11 (by decide) ?_
    obtain ⟨p9, hy⟩ := hy
    refine ww_vr p9 ?_
    exact ww_sub [] rfl (by decide) (by decide) hy
set_option maxRecDepth 100000 in
set_option maxHeartbeats 4000000 in
theorem X9_above_b21 {G : xG} {k : xK} {n0 : Nat} {Po : Nat → xH → Prop} (C : CC G k cX9_above RX9 1 rm_X9_above) (E : CQ G k (some (.object "DoubleTextsModel$Whole")) rm_X9_above (fun r n1 h1 => ∃ z : Nat, r = some (rf G z) ∧ n1 = n0 ∧ Po z h1)) (s0 : Nat) (n : Nat) (h : xH) (hn0 : n = n0) (hy : Po s0 h) : X9_above_w21 G k s0 n h := by
  subst hn0
  exact ww_aretR C E (Or.inl ⟨_, rfl⟩) dX9_above_21 (by decide) (by decide) ⟨_, rfl, rfl, hy⟩
abbrev X9_below_w0 (G : xG) (k : xK) (x0 : Int) (n : Nat) (h : xH) : Prop := WW G k 1 0 0 0 [(0, vR G x0)] [] n h
abbrev X9_below_w21 (G : xG) (k : xK) (s0 : Nat) (n : Nat) (h : xH) : Prop := WW G k 1 2 7 21 [] [rf G s0] n h
theorem S_X9_below_of {G : xG} {l : Launch} {x0 : Int} {n : Nat} {h : xH} {Po : Nat → Nat → xH → Prop} (body : ∀ k : xK, kl k = l → CC G k cX9_below RX9 1 rm_X9_below → CQ G k (some (.object "DoubleTextsModel$Whole")) rm_X9_below (fun r n1 h1 => ∃ z : Nat, r = some (rf G z) ∧ Po z n1 h1) → X9_below_w0 G k x0 n h) : S_X9_below G l x0 n h Po := xS_of (by decide +kernel) (by simp only [vR]; split <;> exact Nat.le_of_ble_eq_true rfl) rfl (fun k hl hnm C E => body k hl C E)
set_option maxRecDepth 100000 in
set_option maxHeartbeats 4000000 in
theorem X9_below_b0 {G : xG} {k : xK} {n0 : Nat} {Po : Nat → Nat → xH → Prop} (C : CC G k cX9_below RX9 1 rm_X9_below) (E : CQ G k (some (.object "DoubleTextsModel$Whole")) rm_X9_below (fun r n1 h1 => ∃ z : Nat, r = some (rf G z) ∧ Po z n1 h1)) (x0 : Int) (n : Nat) (h : xH) (hy : (x0 < 0 ∨ (x0.toNat < n ∧ ((h x0.toNat).1 = 5 ∨ (h x0.toNat).1 = 6 ∨ (h x0.toNat).1 = 7))) ∧ rg (xI h 7 x0) ∧ (((xI h 7 x0) = 0 → (x0 < 0 ∨ (x0.toNat < n ∧ (h x0.toNat).1 = 5)) ∧ 0 ≤ x0 ∧ okO n h x0.toNat 5 ∧ 0 ≤ hG h x0.toNat 1 ∧ X9_below_w21 G k ((hG h x0.toNat 1).toNat) n h) ∧ (¬ (xI h 7 x0) = 0 → S_X9_whole G (kl k) 1 n h (fun z8 n10 h9 => X9_below_w21 G k z8 n10 h9)))) : X9_below_w0 G k x0 n h := by
  refine ww_Nload_n C 0 0 rfl rfl dX9_below_0 ?_
  obtain ⟨p1, hy⟩ := hy
  refine is_X9_1 C dX9_below_1 p1 ?_
  obtain ⟨p2, hy⟩ := hy
  refine ww_if_eq C (tg := 14) dX9_below_4 (by decide) p2 (fun c3 => ?_) (fun c3 => ?_)
  · have hy := hy.1 c3
    refine ww_Nload_n C 0 0 rfl rfl dX9_below_14 ?_
    obtain ⟨p4, hy⟩ := hy
    refine ct_X9_157 C dX9_below_15 p4 ?_
    obtain ⟨p5, hy⟩ := hy
    refine ww_vr p5 ?_
    obtain ⟨p6, hy⟩ := hy
    obtain ⟨p7, hy⟩ := hy
    refine gf_X9_167 C dX9_below_18 p6 p7 ?_
    exact ww_sub [] rfl (by decide) (by decide) hy
  · have hy := hy.2 c3
    refine ww_lconst C (z := 1) dX9_below_7 rfl ?_
    refine cl_X9_163 C dX9_below_8 (Nat.le_of_ble_eq_true rfl) ⟨by decide, by decide⟩ ⟨by decide, by decide⟩ ?_
    refine S_X9_whole.mono hy (fun z8 n10 h9 hy => ?_)
    refine ww_goto C (tg := 21) dX9_below_11 (by decide) ?_
    exact ww_sub [] rfl (by decide) (by decide) hy
set_option maxRecDepth 100000 in
set_option maxHeartbeats 4000000 in
theorem X9_below_b21 {G : xG} {k : xK} {n0 : Nat} {Po : Nat → Nat → xH → Prop} (C : CC G k cX9_below RX9 1 rm_X9_below) (E : CQ G k (some (.object "DoubleTextsModel$Whole")) rm_X9_below (fun r n1 h1 => ∃ z : Nat, r = some (rf G z) ∧ Po z n1 h1)) (s0 : Nat) (n : Nat) (h : xH) (hy : Po s0 n h) : X9_below_w21 G k s0 n h := by
  exact ww_aretR C E (Or.inl ⟨_, rfl⟩) dX9_below_21 (by decide) (by decide) ⟨_, rfl, hy⟩
abbrev X9_kept_w0 (G : xG) (k : xK) (x0 : Nat) (x1 : Nat) (x2 : Int) (n : Nat) (h : xH) : Prop := WW G k 3 0 0 0 [(0, rf G x0), (1, rf G x1), (2, .int (iz x2))] [] n h
abbrev X9_kept_w22 (G : xG) (k : xK) (s0 : Int) (n : Nat) (h : xH) : Prop := WW G k 3 2 442 22 [] [vR G s0] n h
theorem S_X9_kept_of {G : xG} {l : Launch} {x0 : Nat} {x1 : Nat} {x2 : Int} {n : Nat} {h : xH} {Po : Int → Nat → xH → Prop} (body : ∀ k : xK, kl k = l → CC G k cX9_kept RX9 3 rm_X9_kept → CQ G k (some (.object "DoubleTextsModel$Num")) rm_X9_kept (fun r n1 h1 => ∃ z : Int, r = some (vR G z) ∧ Po z n1 h1) → X9_kept_w0 G k x0 x1 x2 n h) : S_X9_kept G l x0 x1 x2 n h Po := xS_of (by decide +kernel) (Nat.le_of_ble_eq_true rfl) rfl (fun k hl hnm C E => body k hl C E)
set_option maxRecDepth 100000 in
set_option maxHeartbeats 4000000 in
theorem X9_kept_b0 {G : xG} {k : xK} {n0 : Nat} {Po : Int → Nat → xH → Prop} (C : CC G k cX9_kept RX9 3 rm_X9_kept) (E : CQ G k (some (.object "DoubleTextsModel$Num")) rm_X9_kept (fun r n1 h1 => ∃ z : Int, r = some (vR G z) ∧ Po z n1 h1)) (x0 : Nat) (x1 : Nat) (x2 : Int) (n : Nat) (h : xH) (hy : okO n h x0 8 ∧ S_X9_bitsOf G (kl k) x0 x1 x2 n h (fun z2 h3 => (rg z2 ∧ rg (4096 : Int)) ∧ ((z2 ≤ (4096 : Int) → S_X9_wholeOf G (kl k) 1 x1 x2 n h3 (fun z6 n8 h7 => X9_kept_w22 G k ((z6 : Nat) : Int) n8 h7)) ∧ (¬ z2 ≤ (4096 : Int) → X9_kept_w22 G k (-1) n h3)))) : X9_kept_w0 G k x0 x1 x2 n h := by
  refine ww_aload_n C 0 0 rfl rfl dX9_kept_0 ?_
  refine ww_aload_n C 1 1 rfl rfl dX9_kept_1 ?_
  refine ww_iload_n C 2 2 rfl rfl dX9_kept_2 ?_
  obtain ⟨p1, hy⟩ := hy
  refine cl_X9_170 C dX9_kept_3 (Nat.le_of_ble_eq_true rfl) ⟨by decide, by decide⟩ ⟨by decide, by decide⟩ p1 ?_
  refine S_X9_bitsOf.mono hy (fun z2 h3 hy => ?_)
  refine ww_sipush C (z := 4096) dX9_kept_6 rfl ?_
  obtain ⟨p4, hy⟩ := hy
  refine ww_icmp_le C (tg := 16) dX9_kept_9 (by decide) p4.1 p4.2 (fun c5 => ?_) (fun c5 => ?_)
  · have hy := hy.1 c5
    refine ww_iconst C (z := 1) dX9_kept_16 rfl ?_
    refine ww_aload_n C 1 1 rfl rfl dX9_kept_17 ?_
    refine ww_iload_n C 2 2 rfl rfl dX9_kept_18 ?_
    refine cl_X9_173 C dX9_kept_19 (Nat.le_of_ble_eq_true rfl) ⟨by decide, by decide⟩ ⟨by decide, by decide⟩ ?_
    refine S_X9_wholeOf.mono hy (fun z6 n8 h7 hy => ?_)
    refine ww_rv ?_
    exact ww_sub [] rfl (by decide) (by decide) hy
  · have hy := hy.2 c5
    refine ww_null C dX9_kept_12 ?_
    show WW _ _ _ _ _ _ _ (vR G (-1) :: _) _ _
    refine ww_goto C (tg := 22) dX9_kept_13 (by decide) ?_
    exact ww_sub [] rfl (by decide) (by decide) hy
set_option maxRecDepth 100000 in
set_option maxHeartbeats 4000000 in
theorem X9_kept_b22 {G : xG} {k : xK} {n0 : Nat} {Po : Int → Nat → xH → Prop} (C : CC G k cX9_kept RX9 3 rm_X9_kept) (E : CQ G k (some (.object "DoubleTextsModel$Num")) rm_X9_kept (fun r n1 h1 => ∃ z : Int, r = some (vR G z) ∧ Po z n1 h1)) (s0 : Int) (n : Nat) (h : xH) (hy : Po s0 n h) : X9_kept_w22 G k s0 n h := by
  exact ww_aret C E (Or.inl ⟨_, rfl⟩) dX9_kept_22 (by decide) (by decide) ⟨_, rfl, hy⟩
abbrev X9_fraction_w0 (G : xG) (k : xK) (x0 : Nat) (x1 : Nat) (x2 : Int) (x3 : Nat) (x4 : Int) (n : Nat) (h : xH) : Prop := WW G k 8 0 0 0 [(0, rf G x0), (1, rf G x1), (2, .int (iz x2)), (3, rf G x3), (4, .int (iz x4))] [] n h
abbrev X9_fraction_w28 (G : xG) (k : xK) (x0 : Nat) (x1 : Nat) (x2 : Int) (x3 : Nat) (x4 : Int) (n : Nat) (h : xH) : Prop := WW G k 8 0 0 28 [(0, rf G x0), (1, rf G x1), (2, .int (iz x2)), (3, rf G x3), (4, .int (iz x4))] [] n h
abbrev X9_fraction_w95 (G : xG) (k : xK) (x0 : Nat) (x6 : Int) (x7 : Int) (n : Nat) (h : xH) : Prop := WW G k 8 0 0 95 [(0, rf G x0), (6, .int (iz x6)), (7, .int (iz x7))] [] n h
abbrev X9_fraction_w127 (G : xG) (k : xK)  (n : Nat) (h : xH) : Prop := WW G k 8 0 0 127 [] [] n h
theorem S_X9_fraction_of {G : xG} {l : Launch} {x0 : Nat} {x1 : Nat} {x2 : Int} {x3 : Nat} {x4 : Int} {n : Nat} {h : xH} {Po : Int → Nat → xH → Prop} (body : ∀ k : xK, kl k = l → CC G k cX9_fraction RX9 8 rm_X9_fraction → CQ G k (some (.object "DoubleTextsModel$Num")) rm_X9_fraction (fun r n1 h1 => ∃ z : Int, r = some (vR G z) ∧ Po z n1 h1) → X9_fraction_w0 G k x0 x1 x2 x3 x4 n h) : S_X9_fraction G l x0 x1 x2 x3 x4 n h Po := xS_of (by decide +kernel) (Nat.le_of_ble_eq_true rfl) rfl (fun k hl hnm C E => body k hl C E)
set_option maxRecDepth 100000 in
set_option maxHeartbeats 4000000 in
theorem X9_fraction_b0 {G : xG} {k : xK} {n0 : Nat} {Po : Int → Nat → xH → Prop} (C : CC G k cX9_fraction RX9 8 rm_X9_fraction) (E : CQ G k (some (.object "DoubleTextsModel$Num")) rm_X9_fraction (fun r n1 h1 => ∃ z : Int, r = some (vR G z) ∧ Po z n1 h1)) (x0 : Nat) (x1 : Nat) (x2 : Int) (x3 : Nat) (x4 : Int) (n : Nat) (h : xH) (hy : rg x2 ∧ ((¬ x2 = 0 → (rg x4 ∧ rg (1 : Int)) ∧ ((¬ x4 = (1 : Int) → X9_fraction_w28 G k x0 x1 x2 x3 x4 n h) ∧ (x4 = (1 : Int) → okA n h x3 100 0 ∧ (rg (hG h x3 0) ∧ rg (1 : Int)) ∧ ((¬ (hG h x3 0) = (1 : Int) → X9_fraction_w28 G k x0 x1 x2 x3 x4 n h) ∧ ((hG h x3 0) = (1 : Int) → okO n h x0 8 ∧ S_X9_kept G (kl k) x0 x1 x2 n h (fun z9 n11 h10 => Po z9 n11 h10)))))) ∧ (x2 = 0 → S_X9_zero G (kl k)  n h (fun z12 n14 h13 => Po ((z12 : Nat) : Int) n14 h13)))) : X9_fraction_w0 G k x0 x1 x2 x3 x4 n h := by
  refine ww_iload_n C 2 2 rfl rfl dX9_fraction_0 ?_
  obtain ⟨p1, hy⟩ := hy
  refine ww_if_ne C (tg := 8) dX9_fraction_1 (by decide) p1 (fun c2 => ?_) (fun c2 => ?_)
  · have hy := hy.1 c2
    refine ww_iload C 4 4 rfl dX9_fraction_8 ?_
    refine ww_iconst C (z := 1) dX9_fraction_10 rfl ?_
    obtain ⟨p3, hy⟩ := hy
    refine ww_icmp_ne C (tg := 28) dX9_fraction_11 (by decide) p3.1 p3.2 (fun c4 => ?_) (fun c4 => ?_)
    · have hy := hy.1 c4
      exact ww_sub [0, 1, 2, 3, 4] rfl (by decide) (by decide) hy
    · have hy := hy.2 c4
      refine ww_aload_n C 3 3 rfl rfl dX9_fraction_14 ?_
      refine ww_iconst C (z := 0) dX9_fraction_15 rfl ?_
      obtain ⟨p5, hy⟩ := hy
      refine ww_iald C dX9_fraction_16 p5 ?_
      refine ww_iconst C (z := 1) dX9_fraction_17 rfl ?_
      obtain ⟨p6, hy⟩ := hy
      refine ww_icmp_ne C (tg := 28) dX9_fraction_18 (by decide) p6.1 p6.2 (fun c7 => ?_) (fun c7 => ?_)
      · have hy := hy.1 c7
        exact ww_sub [0, 1, 2, 3, 4] rfl (by decide) (by decide) hy
      · have hy := hy.2 c7
        refine ww_aload_n C 0 0 rfl rfl dX9_fraction_21 ?_
        refine ww_aload_n C 1 1 rfl rfl dX9_fraction_22 ?_
        refine ww_iload_n C 2 2 rfl rfl dX9_fraction_23 ?_
        obtain ⟨p8, hy⟩ := hy
        refine cl_X9_177 C dX9_fraction_24 (Nat.le_of_ble_eq_true rfl) ⟨by decide, by decide⟩ ⟨by decide, by decide⟩ p8 ?_
        refine S_X9_kept.mono hy (fun z9 n11 h10 hy => ?_)
        exact ww_aret C E (Or.inl ⟨_, rfl⟩) dX9_fraction_27 (by decide) (by decide) ⟨_, rfl, hy⟩
  · have hy := hy.2 c2
    refine cl_X9_7 C dX9_fraction_4 (Nat.le_of_ble_eq_true rfl) ⟨by decide, by decide⟩ ⟨by decide, by decide⟩ ?_
    refine S_X9_zero.mono hy (fun z12 n14 h13 hy => ?_)
    refine ww_rv ?_
    exact ww_aret C E (Or.inl ⟨_, rfl⟩) dX9_fraction_7 (by decide) (by decide) ⟨_, rfl, hy⟩
set_option maxRecDepth 100000 in
set_option maxHeartbeats 4000000 in
theorem X9_fraction_b28 {G : xG} {k : xK} {n0 : Nat} {Po : Int → Nat → xH → Prop} (C : CC G k cX9_fraction RX9 8 rm_X9_fraction) (E : CQ G k (some (.object "DoubleTextsModel$Num")) rm_X9_fraction (fun r n1 h1 => ∃ z : Int, r = some (vR G z) ∧ Po z n1 h1)) (x0 : Nat) (x1 : Nat) (x2 : Int) (x3 : Nat) (x4 : Int) (n : Nat) (h : xH) (hy : okO n h x0 8 ∧ S_X9_gcd G (kl k) x0 x1 x2 x3 x4 n h (fun z2 h3 => okO n h3 x0 8 ∧ 0 ≤ hG h3 x0 5 ∧ okO n h3 x0 8 ∧ S_X9_reduced G (kl k) x0 x1 x2 z2 ((hG h3 x0 5).toNat) n h3 (fun z7 h8 => okO n h8 x0 8 ∧ 0 ≤ hG h8 x0 6 ∧ okO n h8 x0 8 ∧ S_X9_reduced G (kl k) x0 x3 x4 z2 ((hG h8 x0 6).toNat) n h8 (fun z12 h13 => (rg z12 ∧ rg (1 : Int)) ∧ ((¬ z12 = (1 : Int) → X9_fraction_w95 G k x0 z7 z12 n h13) ∧ (z12 = (1 : Int) → okO n h13 x0 8 ∧ 0 ≤ hG h13 x0 6 ∧ okA n h13 ((hG h13 x0 6).toNat) 100 0 ∧ (rg (hG h13 ((hG h13 x0 6).toNat) 0) ∧ rg (1 : Int)) ∧ ((¬ (hG h13 ((hG h13 x0 6).toNat) 0) = (1 : Int) → X9_fraction_w95 G k x0 z7 z12 n h13) ∧ ((hG h13 ((hG h13 x0 6).toNat) 0) = (1 : Int) → okO n h13 x0 8 ∧ 0 ≤ hG h13 x0 5 ∧ okO n h13 x0 8 ∧ S_X9_kept G (kl k) x0 ((hG h13 x0 5).toNat) z7 n h13 (fun z24 n26 h25 => Po z24 n26 h25))))))))) : X9_fraction_w28 G k x0 x1 x2 x3 x4 n h := by
  refine ww_aload_n C 0 0 rfl rfl dX9_fraction_28 ?_
  refine ww_aload_n C 1 1 rfl rfl dX9_fraction_29 ?_
  refine ww_iload_n C 2 2 rfl rfl dX9_fraction_30 ?_
  refine ww_aload_n C 3 3 rfl rfl dX9_fraction_31 ?_
  refine ww_iload C 4 4 rfl dX9_fraction_32 ?_
  obtain ⟨p1, hy⟩ := hy
  refine cl_X9_181 C dX9_fraction_34 (Nat.le_of_ble_eq_true rfl) ⟨by decide, by decide⟩ ⟨by decide, by decide⟩ p1 ?_
  refine S_X9_gcd.mono hy (fun z2 h3 hy => ?_)
  refine ww_istore C 5 (by decide) rfl dX9_fraction_37 ?_
  refine ww_aload_n C 0 1 rfl rfl dX9_fraction_39 ?_
  refine ww_aload_n C 1 2 rfl rfl dX9_fraction_40 ?_
  refine ww_iload_n C 2 3 rfl rfl dX9_fraction_41 ?_
  refine ww_iload C 5 0 rfl dX9_fraction_42 ?_
  refine ww_aload_n C 0 1 rfl rfl dX9_fraction_44 ?_
  obtain ⟨p4, hy⟩ := hy
  obtain ⟨p5, hy⟩ := hy
  refine gf_X9_184 C dX9_fraction_45 p4 p5 ?_
  obtain ⟨p6, hy⟩ := hy
  refine cl_X9_187 C dX9_fraction_48 (Nat.le_of_ble_eq_true rfl) ⟨by decide, by decide⟩ ⟨by decide, by decide⟩ p6 ?_
  refine S_X9_reduced.mono hy (fun z7 h8 hy => ?_)
  refine ww_istore C 6 (by decide) rfl dX9_fraction_51 ?_
  refine ww_aload_n C 0 2 rfl rfl dX9_fraction_53 ?_
  refine ww_aload_n C 3 5 rfl rfl dX9_fraction_54 ?_
  refine ww_iload C 4 6 rfl dX9_fraction_55 ?_
  refine ww_iload C 5 1 rfl dX9_fraction_57 ?_
  refine ww_aload_n C 0 2 rfl rfl dX9_fraction_59 ?_
  obtain ⟨p9, hy⟩ := hy
  obtain ⟨p10, hy⟩ := hy
  refine gf_X9_191 C dX9_fraction_60 p9 p10 ?_
  obtain ⟨p11, hy⟩ := hy
  refine cl_X9_187 C dX9_fraction_63 (Nat.le_of_ble_eq_true rfl) ⟨by decide, by decide⟩ ⟨by decide, by decide⟩ p11 ?_
  refine S_X9_reduced.mono hy (fun z12 h13 hy => ?_)
  refine ww_istore C 7 (by decide) rfl dX9_fraction_66 ?_
  refine ww_iload C 7 0 rfl dX9_fraction_68 ?_
  refine ww_iconst C (z := 1) dX9_fraction_70 rfl ?_
  obtain ⟨p14, hy⟩ := hy
  refine ww_icmp_ne C (tg := 95) dX9_fraction_71 (by decide) p14.1 p14.2 (fun c15 => ?_) (fun c15 => ?_)
  · have hy := hy.1 c15
    exact ww_sub [3, 1, 0] rfl (by decide) (by decide) hy
  · have hy := hy.2 c15
    refine ww_aload_n C 0 3 rfl rfl dX9_fraction_74 ?_
    obtain ⟨p16, hy⟩ := hy
    obtain ⟨p17, hy⟩ := hy
    refine gf_X9_191 C dX9_fraction_75 p16 p17 ?_
    refine ww_iconst C (z := 0) dX9_fraction_78 rfl ?_
    obtain ⟨p18, hy⟩ := hy
    refine ww_iald C dX9_fraction_79 p18 ?_
    refine ww_iconst C (z := 1) dX9_fraction_80 rfl ?_
    obtain ⟨p19, hy⟩ := hy
    refine ww_icmp_ne C (tg := 95) dX9_fraction_81 (by decide) p19.1 p19.2 (fun c20 => ?_) (fun c20 => ?_)
    · have hy := hy.1 c20
      exact ww_sub [3, 1, 0] rfl (by decide) (by decide) hy
    · have hy := hy.2 c20
      refine ww_aload_n C 0 3 rfl rfl dX9_fraction_84 ?_
      refine ww_aload_n C 0 3 rfl rfl dX9_fraction_85 ?_
      obtain ⟨p21, hy⟩ := hy
      obtain ⟨p22, hy⟩ := hy
      refine gf_X9_184 C dX9_fraction_86 p21 p22 ?_
      refine ww_iload C 6 1 rfl dX9_fraction_89 ?_
      obtain ⟨p23, hy⟩ := hy
      refine cl_X9_177 C dX9_fraction_91 (Nat.le_of_ble_eq_true rfl) ⟨by decide, by decide⟩ ⟨by decide, by decide⟩ p23 ?_
      refine S_X9_kept.mono hy (fun z24 n26 h25 hy => ?_)
      exact ww_aret C E (Or.inl ⟨_, rfl⟩) dX9_fraction_94 (by decide) (by decide) ⟨_, rfl, hy⟩
set_option maxRecDepth 100000 in
set_option maxHeartbeats 4000000 in
theorem X9_fraction_b95 {G : xG} {k : xK} {n0 : Nat} {Po : Int → Nat → xH → Prop} (C : CC G k cX9_fraction RX9 8 rm_X9_fraction) (E : CQ G k (some (.object "DoubleTextsModel$Num")) rm_X9_fraction (fun r n1 h1 => ∃ z : Int, r = some (vR G z) ∧ Po z n1 h1)) (x0 : Nat) (x6 : Int) (x7 : Int) (n : Nat) (h : xH) (hy : okO n h x0 8 ∧ 0 ≤ hG h x0 5 ∧ okO n h x0 8 ∧ S_X9_bitsOf G (kl k) x0 ((hG h x0 5).toNat) x6 n h (fun z4 h5 => (rg z4 ∧ rg (4096 : Int)) ∧ (((4096 : Int) < z4 → X9_fraction_w127 G k  n h5) ∧ (¬ (4096 : Int) < z4 → okO n h5 x0 8 ∧ 0 ≤ hG h5 x0 6 ∧ okO n h5 x0 8 ∧ S_X9_bitsOf G (kl k) x0 ((hG h5 x0 6).toNat) x7 n h5 (fun z11 h12 => (rg z11 ∧ rg (4096 : Int)) ∧ ((z11 ≤ (4096 : Int) → (∀ h15 : xH, h15 = hN h12 n (5, 0, xZ 5) → okO (n + 1) h15 x0 8 ∧ 0 ≤ hG h15 x0 5 ∧ S_X9_wholeOf G (kl k) 1 ((hG h15 x0 5).toNat) x6 (n + 1) h15 (fun z18 n20 h19 => okO n20 h19 x0 8 ∧ 0 ≤ hG h19 x0 6 ∧ S_X9_wholeOf G (kl k) 1 ((hG h19 x0 6).toNat) x7 n20 h19 (fun z23 n25 h24 => S_X6_init G (kl k) n z18 z23 n25 h24 (fun h26 => Po ((n : Nat) : Int) n25 h26))))) ∧ (¬ z11 ≤ (4096 : Int) → X9_fraction_w127 G k  n h12))))))) : X9_fraction_w95 G k x0 x6 x7 n h := by
  refine ww_aload_n C 0 0 rfl rfl dX9_fraction_95 ?_
  refine ww_aload_n C 0 0 rfl rfl dX9_fraction_96 ?_
  obtain ⟨p1, hy⟩ := hy
  obtain ⟨p2, hy⟩ := hy
  refine gf_X9_184 C dX9_fraction_97 p1 p2 ?_
  refine ww_iload C 6 1 rfl dX9_fraction_100 ?_
  obtain ⟨p3, hy⟩ := hy
  refine cl_X9_170 C dX9_fraction_102 (Nat.le_of_ble_eq_true rfl) ⟨by decide, by decide⟩ ⟨by decide, by decide⟩ p3 ?_
  refine S_X9_bitsOf.mono hy (fun z4 h5 hy => ?_)
  refine ww_sipush C (z := 4096) dX9_fraction_105 rfl ?_
  obtain ⟨p6, hy⟩ := hy
  refine ww_icmp_gt C (tg := 127) dX9_fraction_108 (by decide) p6.1 p6.2 (fun c7 => ?_) (fun c7 => ?_)
  · have hy := hy.1 c7
    exact ww_sub [] rfl (by decide) (by decide) hy
  · have hy := hy.2 c7
    refine ww_aload_n C 0 0 rfl rfl dX9_fraction_111 ?_
    refine ww_aload_n C 0 0 rfl rfl dX9_fraction_112 ?_
    obtain ⟨p8, hy⟩ := hy
    obtain ⟨p9, hy⟩ := hy
    refine gf_X9_191 C dX9_fraction_113 p8 p9 ?_
    refine ww_iload C 7 2 rfl dX9_fraction_116 ?_
    obtain ⟨p10, hy⟩ := hy
    refine cl_X9_170 C dX9_fraction_118 (Nat.le_of_ble_eq_true rfl) ⟨by decide, by decide⟩ ⟨by decide, by decide⟩ p10 ?_
    refine S_X9_bitsOf.mono hy (fun z11 h12 hy => ?_)
    refine ww_sipush C (z := 4096) dX9_fraction_121 rfl ?_
    obtain ⟨p13, hy⟩ := hy
    refine ww_icmp_le C (tg := 129) dX9_fraction_124 (by decide) p13.1 p13.2 (fun c14 => ?_) (fun c14 => ?_)
    · have hy := hy.1 c14
      refine nw_X9_157 C dX9_fraction_129 (by decide) (by decide) ?_
      have hy := hy _ rfl
      refine ww_dup C rfl dX9_fraction_132 ?_
      refine ww_iconst C (z := 1) dX9_fraction_133 rfl ?_
      refine ww_aload_n C 0 0 rfl rfl dX9_fraction_134 ?_
      obtain ⟨p16, hy⟩ := hy
      obtain ⟨p17, hy⟩ := hy
      refine gf_X9_184 C dX9_fraction_135 p16 p17 ?_
      refine ww_iload C 6 1 rfl dX9_fraction_138 ?_
      refine cl_X9_173 C dX9_fraction_140 (Nat.le_of_ble_eq_true rfl) ⟨by decide, by decide⟩ ⟨by decide, by decide⟩ ?_
      refine S_X9_wholeOf.mono hy (fun z18 n20 h19 hy => ?_)
      refine ww_iconst C (z := 1) dX9_fraction_143 rfl ?_
      refine ww_aload_n C 0 0 rfl rfl dX9_fraction_144 ?_
      obtain ⟨p21, hy⟩ := hy
      obtain ⟨p22, hy⟩ := hy
      refine gf_X9_191 C dX9_fraction_145 p21 p22 ?_
      refine ww_iload C 7 2 rfl dX9_fraction_148 ?_
      refine cl_X9_173 C dX9_fraction_150 (Nat.le_of_ble_eq_true rfl) ⟨by decide, by decide⟩ ⟨by decide, by decide⟩ ?_
      refine S_X9_wholeOf.mono hy (fun z23 n25 h24 hy => ?_)
      refine cl_X9_194 C dX9_fraction_153 (Nat.le_of_ble_eq_true rfl) ⟨by decide, by decide⟩ ⟨by decide, by decide⟩ ?_
      refine S_X6_init.mono hy (fun h26 hy => ?_)
      refine ww_rv ?_
      exact ww_aret C E (Or.inl ⟨_, rfl⟩) dX9_fraction_156 (by decide) (by decide) ⟨_, rfl, hy⟩
    · have hy := hy.2 c14
      exact ww_sub [] rfl (by decide) (by decide) hy
set_option maxRecDepth 100000 in
set_option maxHeartbeats 4000000 in
theorem X9_fraction_b127 {G : xG} {k : xK} {n0 : Nat} {Po : Int → Nat → xH → Prop} (C : CC G k cX9_fraction RX9 8 rm_X9_fraction) (E : CQ G k (some (.object "DoubleTextsModel$Num")) rm_X9_fraction (fun r n1 h1 => ∃ z : Int, r = some (vR G z) ∧ Po z n1 h1))  (n : Nat) (h : xH) (hy : Po (-1) n h) : X9_fraction_w127 G k  n h := by
  refine ww_null C dX9_fraction_127 ?_
  show WW _ _ _ _ _ _ _ (vR G (-1) :: _) _ _
  exact ww_aret C E (Or.inl ⟨_, rfl⟩) dX9_fraction_128 (by decide) (by decide) ⟨_, rfl, hy⟩
abbrev X9_isFinite_w0 (G : xG) (k : xK) (x0 : UInt64) (n : Nat) (h : xH) : Prop := WW G k 2 0 0 0 [(0, .double x0)] [] n h
abbrev X9_isFinite_w20 (G : xG) (k : xK)  (n : Nat) (h : xH) : Prop := WW G k 2 0 0 20 [] [] n h
abbrev X9_isFinite_w21 (G : xG) (k : xK) (s0 : Int) (n : Nat) (h : xH) : Prop := WW G k 2 0 0 21 [] [.int (iz s0)] n h
theorem S_X9_isFinite_of {G : xG} {l : Launch} {x0 : UInt64} {n : Nat} {h : xH} {Po : Int → xH → Prop} (body : ∀ k : xK, kl k = l → CC G k cX9_isFinite RX9 2 rm_X9_isFinite → CQ G k (some .boolean) rm_X9_isFinite (fun r n1 h1 => ∃ z : Int, r = some (.int (iz z)) ∧ n1 = n ∧ Po z h1) → X9_isFinite_w0 G k x0 n h) : S_X9_isFinite G l x0 n h Po := xS_of (by decide +kernel) (Nat.le_of_ble_eq_true rfl) rfl (fun k hl hnm C E => body k hl C E)
set_option maxRecDepth 100000 in
set_option maxHeartbeats 4000000 in
theorem X9_isFinite_b0 {G : xG} {k : xK} {n0 : Nat} {Po : Int → xH → Prop} (C : CC G k cX9_isFinite RX9 2 rm_X9_isFinite) (E : CQ G k (some .boolean) rm_X9_isFinite (fun r n1 h1 => ∃ z : Int, r = some (.int (iz z)) ∧ n1 = n0 ∧ Po z h1)) (x0 : UInt64) (n : Nat) (h : xH) (hn0 : n = n0) (hy : ((0 < (dC .g x0 9218868437227405311) → X9_isFinite_w20 G k  n h) ∧ (¬ 0 < (dC .g x0 9218868437227405311) → (((dC .l x0 18442240474082181119) < 0 → X9_isFinite_w20 G k  n h) ∧ (¬ (dC .l x0 18442240474082181119) < 0 → X9_isFinite_w21 G k 1 n h))))) : X9_isFinite_w0 G k x0 n h := by
  subst hn0
  refine ww_dload_n C 0 0 rfl rfl dX9_isFinite_0 ?_
  refine ww_ldc2d C q_646 dX9_isFinite_1 ?_
  refine ww_dcmp C dX9_isFinite_4 ?_
  refine ww_if_gt C (tg := 20) dX9_isFinite_5 (by decide) (rg_dC _ _ _) (fun c2 => ?_) (fun c2 => ?_)
  · have hy := hy.1 c2
    exact ww_sub [] rfl (by decide) (by decide) hy
  · have hy := hy.2 c2
    refine ww_dload_n C 0 0 rfl rfl dX9_isFinite_8 ?_
    refine ww_ldc2d C q_647 dX9_isFinite_9 ?_
    refine ww_dcmp C dX9_isFinite_12 ?_
    refine ww_if_lt C (tg := 20) dX9_isFinite_13 (by decide) (rg_dC _ _ _) (fun c4 => ?_) (fun c4 => ?_)
    · have hy := hy.1 c4
      exact ww_sub [] rfl (by decide) (by decide) hy
    · have hy := hy.2 c4
      refine ww_iconst C (z := 1) dX9_isFinite_16 rfl ?_
      refine ww_goto C (tg := 21) dX9_isFinite_17 (by decide) ?_
      exact ww_sub [] rfl (by decide) (by decide) hy
set_option maxRecDepth 100000 in
set_option maxHeartbeats 4000000 in
theorem X9_isFinite_b20 {G : xG} {k : xK} {n0 : Nat} {Po : Int → xH → Prop} (C : CC G k cX9_isFinite RX9 2 rm_X9_isFinite) (E : CQ G k (some .boolean) rm_X9_isFinite (fun r n1 h1 => ∃ z : Int, r = some (.int (iz z)) ∧ n1 = n0 ∧ Po z h1))  (n : Nat) (h : xH) (hn0 : n = n0) (hy : X9_isFinite_w21 G k 0 n h) : X9_isFinite_w20 G k  n h := by
  subst hn0
  refine ww_iconst C (z := 0) dX9_isFinite_20 rfl ?_
  exact ww_sub [] rfl (by decide) (by decide) hy
set_option maxRecDepth 100000 in
set_option maxHeartbeats 4000000 in
theorem X9_isFinite_b21 {G : xG} {k : xK} {n0 : Nat} {Po : Int → xH → Prop} (C : CC G k cX9_isFinite RX9 2 rm_X9_isFinite) (E : CQ G k (some .boolean) rm_X9_isFinite (fun r n1 h1 => ∃ z : Int, r = some (.int (iz z)) ∧ n1 = n0 ∧ Po z h1)) (s0 : Int) (n : Nat) (h : xH) (hn0 : n = n0) (hy : (s0 = 0 ∨ s0 = 1) ∧ Po s0 h) : X9_isFinite_w21 G k s0 n h := by
  subst hn0
  obtain ⟨p1, hy⟩ := hy
  exact ww_zret C E dX9_isFinite_21 (nz_b p1) (by decide) (by decide) ⟨_, rfl, rfl, hy⟩
abbrev X9_ratio_w0 (G : xG) (k : xK) (x0 : Nat) (x1 : Nat) (x2 : Nat) (n : Nat) (h : xH) : Prop := WW G k 5 0 0 0 [(0, rf G x0), (1, rf G x1), (2, rf G x2)] [] n h
abbrev X9_ratio_w31 (G : xG) (k : xK) (x0 : Nat) (x1 : Nat) (x2 : Nat) (n : Nat) (h : xH) : Prop := WW G k 5 0 0 31 [(0, rf G x0), (1, rf G x1), (2, rf G x2)] [] n h
abbrev X9_ratio_w67 (G : xG) (k : xK) (s0 : UInt64) (n : Nat) (h : xH) : Prop := WW G k 5 0 0 67 [] [.double s0] n h
theorem S_X9_ratio_of {G : xG} {l : Launch} {x0 : Nat} {x1 : Nat} {x2 : Nat} {n : Nat} {h : xH} {Po : UInt64 → xH → Prop} (body : ∀ k : xK, kl k = l → CC G k cX9_ratio RX9 5 rm_X9_ratio → CQ G k (some .double) rm_X9_ratio (fun r n1 h1 => ∃ z : UInt64, r = some (.double z) ∧ n1 = n ∧ Po z h1) → X9_ratio_w0 G k x0 x1 x2 n h) : S_X9_ratio G l x0 x1 x2 n h Po := xS_of (by decide +kernel) (Nat.le_of_ble_eq_true rfl) rfl (fun k hl hnm C E => body k hl C E)
set_option maxRecDepth 100000 in
set_option maxHeartbeats 4000000 in
theorem X9_ratio_b0 {G : xG} {k : xK} {n0 : Nat} {Po : UInt64 → xH → Prop} (C : CC G k cX9_ratio RX9 5 rm_X9_ratio) (E : CQ G k (some .double) rm_X9_ratio (fun r n1 h1 => ∃ z : UInt64, r = some (.double z) ∧ n1 = n0 ∧ Po z h1)) (x0 : Nat) (x1 : Nat) (x2 : Nat) (n : Nat) (h : xH) (hn0 : n = n0) (hy : okO n h x1 7 ∧ S_X8_isZero G (kl k) x1 n h (fun z2 h3 => rg z2 ∧ ((z2 = 0 → okO n h3 x2 7 ∧ S_X8_isOne G (kl k) x2 n h3 (fun z7 h8 => rg z7 ∧ ((z7 = 0 → X9_ratio_w31 G k x0 x1 x2 n h8) ∧ (¬ z7 = 0 → okO n h8 x1 7 ∧ 0 ≤ hG h8 x1 1 ∧ (((hG h8 x1 1).toNat) < n ∧ ((h8 ((hG h8 x1 1).toNat)).1 = 100 ∨ (h8 ((hG h8 x1 1).toNat)).1 = 101)) ∧ (rg ((h8 ((hG h8 x1 1).toNat)).2.1 : Int) ∧ rg (4 : Int)) ∧ (((4 : Int) ≤ ((h8 ((hG h8 x1 1).toNat)).2.1 : Int) → X9_ratio_w31 G k x0 x1 x2 n h8) ∧ (¬ (4 : Int) ≤ ((h8 ((hG h8 x1 1).toNat)).2.1 : Int) → okO n h8 x1 7 ∧ S_X8_asLong G (kl k) x1 n h8 (fun z17 h18 => Po (FP.l2d (lz z17)) h18))))))) ∧ (¬ z2 = 0 → Po FP.dconst0 h3)))) : X9_ratio_w0 G k x0 x1 x2 n h := by
  subst hn0
  refine ww_aload_n C 1 1 rfl rfl dX9_ratio_0 ?_
  obtain ⟨p1, hy⟩ := hy
  refine cl_X9_100 C dX9_ratio_1 (Nat.le_of_ble_eq_true rfl) ⟨by decide, by decide⟩ ⟨by decide, by decide⟩ p1 ?_
  refine S_X8_isZero.mono hy (fun z2 h3 hy => ?_)
  obtain ⟨p4, hy⟩ := hy
  refine ww_if_eq C (tg := 9) dX9_ratio_4 (by decide) p4 (fun c5 => ?_) (fun c5 => ?_)
  · have hy := hy.1 c5
    refine ww_aload_n C 2 2 rfl rfl dX9_ratio_9 ?_
    obtain ⟨p6, hy⟩ := hy
    refine cl_X9_216 C dX9_ratio_10 (Nat.le_of_ble_eq_true rfl) ⟨by decide, by decide⟩ ⟨by decide, by decide⟩ p6 ?_
    refine S_X8_isOne.mono hy (fun z7 h8 hy => ?_)
    obtain ⟨p9, hy⟩ := hy
    refine ww_if_eq C (tg := 31) dX9_ratio_13 (by decide) p9 (fun c10 => ?_) (fun c10 => ?_)
    · have hy := hy.1 c10
      exact ww_sub [0, 1, 2] rfl (by decide) (by decide) hy
    · have hy := hy.2 c10
      refine ww_aload_n C 1 1 rfl rfl dX9_ratio_16 ?_
      obtain ⟨p11, hy⟩ := hy
      obtain ⟨p12, hy⟩ := hy
      refine gf_X9_104 C dX9_ratio_17 p11 p12 ?_
      obtain ⟨p13, hy⟩ := hy
      refine ww_alen C dX9_ratio_20 p13.1 p13.2 ?_
      refine ww_iconst C (z := 4) dX9_ratio_21 rfl ?_
      obtain ⟨p14, hy⟩ := hy
      refine ww_icmp_ge C (tg := 31) dX9_ratio_22 (by decide) p14.1 p14.2 (fun c15 => ?_) (fun c15 => ?_)
      · have hy := hy.1 c15
        exact ww_sub [0, 1, 2] rfl (by decide) (by decide) hy
      · have hy := hy.2 c15
        refine ww_aload_n C 1 1 rfl rfl dX9_ratio_25 ?_
        obtain ⟨p16, hy⟩ := hy
        refine cl_X9_219 C dX9_ratio_26 (Nat.le_of_ble_eq_true rfl) ⟨by decide, by decide⟩ ⟨by decide, by decide⟩ p16 ?_
        refine S_X8_asLong.mono hy (fun z17 h18 hy => ?_)
        refine ww_l2d C dX9_ratio_29 ?_
        exact ww_dret C E dX9_ratio_30 (by decide) (by decide) ⟨_, rfl, rfl, hy⟩
  · have hy := hy.2 c5
    refine ww_dconst0 C dX9_ratio_7 ?_
    exact ww_dret C E dX9_ratio_8 (by decide) (by decide) ⟨_, rfl, rfl, hy⟩
set_option maxRecDepth 100000 in
set_option maxHeartbeats 4000000 in
theorem X9_ratio_b31 {G : xG} {k : xK} {n0 : Nat} {Po : UInt64 → xH → Prop} (C : CC G k cX9_ratio RX9 5 rm_X9_ratio) (E : CQ G k (some .double) rm_X9_ratio (fun r n1 h1 => ∃ z : UInt64, r = some (.double z) ∧ n1 = n0 ∧ Po z h1)) (x0 : Nat) (x1 : Nat) (x2 : Nat) (n : Nat) (h : xH) (hn0 : n = n0) (hy : okO n h x1 7 ∧ 0 ≤ hG h x1 1 ∧ okO n h x1 7 ∧ 0 ≤ hG h x1 1 ∧ (((hG h x1 1).toNat) < n ∧ ((h ((hG h x1 1).toNat)).1 = 100 ∨ (h ((hG h x1 1).toNat)).1 = 101)) ∧ okO n h x2 7 ∧ 0 ≤ hG h x2 1 ∧ okO n h x2 7 ∧ 0 ≤ hG h x2 1 ∧ (((hG h x2 1).toNat) < n ∧ ((h ((hG h x2 1).toNat)).1 = 100 ∨ (h ((hG h x2 1).toNat)).1 = 101)) ∧ okO n h x0 8 ∧ S_X9_nearest G (kl k) x0 ((hG h x1 1).toNat) ((h ((hG h x1 1).toNat)).2.1 : Int) ((hG h x2 1).toNat) ((h ((hG h x2 1).toNat)).2.1 : Int) n h (fun z12 h13 => okO n h13 x1 7 ∧ rg (hG h13 x1 0) ∧ ((0 ≤ (hG h13 x1 0) → X9_ratio_w67 G k z12 n h13) ∧ (¬ 0 ≤ (hG h13 x1 0) → X9_ratio_w67 G k (FP.dneg z12) n h13)))) : X9_ratio_w31 G k x0 x1 x2 n h := by
  subst hn0
  refine ww_aload_n C 0 0 rfl rfl dX9_ratio_31 ?_
  refine ww_aload_n C 1 1 rfl rfl dX9_ratio_32 ?_
  obtain ⟨p1, hy⟩ := hy
  obtain ⟨p2, hy⟩ := hy
  refine gf_X9_104 C dX9_ratio_33 p1 p2 ?_
  refine ww_aload_n C 1 1 rfl rfl dX9_ratio_36 ?_
  obtain ⟨p3, hy⟩ := hy
  obtain ⟨p4, hy⟩ := hy
  refine gf_X9_104 C dX9_ratio_37 p3 p4 ?_
  obtain ⟨p5, hy⟩ := hy
  refine ww_alen C dX9_ratio_40 p5.1 p5.2 ?_
  refine ww_aload_n C 2 2 rfl rfl dX9_ratio_41 ?_
  obtain ⟨p6, hy⟩ := hy
  obtain ⟨p7, hy⟩ := hy
  refine gf_X9_104 C dX9_ratio_42 p6 p7 ?_
  refine ww_aload_n C 2 2 rfl rfl dX9_ratio_45 ?_
  obtain ⟨p8, hy⟩ := hy
  obtain ⟨p9, hy⟩ := hy
  refine gf_X9_104 C dX9_ratio_46 p8 p9 ?_
  obtain ⟨p10, hy⟩ := hy
  refine ww_alen C dX9_ratio_49 p10.1 p10.2 ?_
  obtain ⟨p11, hy⟩ := hy
  refine cl_X9_223 C dX9_ratio_50 (Nat.le_of_ble_eq_true rfl) ⟨by decide, by decide⟩ ⟨by decide, by decide⟩ p11 ?_
  refine S_X9_nearest.mono hy (fun z12 h13 hy => ?_)
  refine ww_dstore_n C 3 rfl (by decide) rfl dX9_ratio_53 ?_
  refine ww_aload_n C 1 2 rfl rfl dX9_ratio_54 ?_
  obtain ⟨p14, hy⟩ := hy
  refine gf_X9_109 C dX9_ratio_55 p14 ?_
  obtain ⟨p15, hy⟩ := hy
  refine ww_if_ge C (tg := 66) dX9_ratio_58 (by decide) p15 (fun c16 => ?_) (fun c16 => ?_)
  · have hy := hy.1 c16
    refine ww_dload_n C 3 0 rfl rfl dX9_ratio_66 ?_
    exact ww_sub [] rfl (by decide) (by decide) hy
  · have hy := hy.2 c16
    refine ww_dload_n C 3 0 rfl rfl dX9_ratio_61 ?_
    refine ww_dneg C dX9_ratio_62 ?_
    refine ww_goto C (tg := 67) dX9_ratio_63 (by decide) ?_
    exact ww_sub [] rfl (by decide) (by decide) hy
set_option maxRecDepth 100000 in
set_option maxHeartbeats 4000000 in
theorem X9_ratio_b67 {G : xG} {k : xK} {n0 : Nat} {Po : UInt64 → xH → Prop} (C : CC G k cX9_ratio RX9 5 rm_X9_ratio) (E : CQ G k (some .double) rm_X9_ratio (fun r n1 h1 => ∃ z : UInt64, r = some (.double z) ∧ n1 = n0 ∧ Po z h1)) (s0 : UInt64) (n : Nat) (h : xH) (hn0 : n = n0) (hy : Po s0 h) : X9_ratio_w67 G k s0 n h := by
  subst hn0
  exact ww_dret C E dX9_ratio_67 (by decide) (by decide) ⟨_, rfl, rfl, hy⟩
abbrev X9_real_w0 (G : xG) (k : xK) (x0 : Nat) (x1 : Int) (n : Nat) (h : xH) : Prop := WW G k 2 0 0 0 [(0, rf G x0), (1, vR G x1)] [] n h
abbrev X9_real_w29 (G : xG) (k : xK) (s0 : UInt64) (n : Nat) (h : xH) : Prop := WW G k 2 2 7 29 [] [.double s0] n h
theorem S_X9_real_of {G : xG} {l : Launch} {x0 : Nat} {x1 : Int} {n : Nat} {h : xH} {Po : UInt64 → Nat → xH → Prop} (body : ∀ k : xK, kl k = l → CC G k cX9_real RX9 2 rm_X9_real → CQ G k (some .double) rm_X9_real (fun r n1 h1 => ∃ z : UInt64, r = some (.double z) ∧ Po z n1 h1) → X9_real_w0 G k x0 x1 n h) : S_X9_real G l x0 x1 n h Po := xS_of (by decide +kernel) (by simp only [vR]; split <;> exact Nat.le_of_ble_eq_true rfl) rfl (fun k hl hnm C E => body k hl C E)
set_option maxRecDepth 100000 in
set_option maxHeartbeats 4000000 in
theorem X9_real_b0 {G : xG} {k : xK} {n0 : Nat} {Po : UInt64 → Nat → xH → Prop} (C : CC G k cX9_real RX9 2 rm_X9_real) (E : CQ G k (some .double) rm_X9_real (fun r n1 h1 => ∃ z : UInt64, r = some (.double z) ∧ Po z n1 h1)) (x0 : Nat) (x1 : Int) (n : Nat) (h : xH) (hy : (x1 < 0 ∨ (x1.toNat < n ∧ ((h x1.toNat).1 = 5 ∨ (h x1.toNat).1 = 6 ∨ (h x1.toNat).1 = 7))) ∧ rg (xI h 6 x1) ∧ (((xI h 6 x1) = 0 → S_X9_above G (kl k) x1 n h (fun z4 h5 => S_X9_below G (kl k) x1 n h5 (fun z6 n8 h7 => okO n8 h7 x0 8 ∧ S_X9_ratio G (kl k) x0 z4 z6 n8 h7 (fun z10 h11 => X9_real_w29 G k z10 n8 h11)))) ∧ (¬ (xI h 6 x1) = 0 → (x1 < 0 ∨ (x1.toNat < n ∧ (h x1.toNat).1 = 6)) ∧ 0 ≤ x1 ∧ okO n h x1.toNat 6 ∧ X9_real_w29 G k (UInt64.ofNat (hG h x1.toNat 0).toNat) n h))) : X9_real_w0 G k x0 x1 n h := by
  refine ww_Nload_n C 1 1 rfl rfl dX9_real_0 ?_
  obtain ⟨p1, hy⟩ := hy
  refine is_X9_201 C dX9_real_1 p1 ?_
  obtain ⟨p2, hy⟩ := hy
  refine ww_if_eq C (tg := 17) dX9_real_4 (by decide) p2 (fun c3 => ?_) (fun c3 => ?_)
  · have hy := hy.1 c3
    refine ww_aload_n C 0 0 rfl rfl dX9_real_17 ?_
    refine ww_Nload_n C 1 1 rfl rfl dX9_real_18 ?_
    refine cl_X9_207 C dX9_real_19 (Nat.le_of_ble_eq_true rfl) ⟨by decide, by decide⟩ ⟨by decide, by decide⟩ ?_
    refine S_X9_above.mono hy (fun z4 h5 hy => ?_)
    refine ww_Nload_n C 1 1 rfl rfl dX9_real_22 ?_
    refine cl_X9_210 C dX9_real_23 (Nat.le_of_ble_eq_true rfl) ⟨by decide, by decide⟩ ⟨by decide, by decide⟩ ?_
    refine S_X9_below.mono hy (fun z6 n8 h7 hy => ?_)
    obtain ⟨p9, hy⟩ := hy
    refine cl_X9_212 C dX9_real_26 (Nat.le_of_ble_eq_true rfl) ⟨by decide, by decide⟩ ⟨by decide, by decide⟩ p9 ?_
    refine S_X9_ratio.mono hy (fun z10 h11 hy => ?_)
    exact ww_sub [] rfl (by decide) (by decide) hy
  · have hy := hy.2 c3
    refine ww_Nload_n C 1 1 rfl rfl dX9_real_7 ?_
    obtain ⟨p12, hy⟩ := hy
    refine ct_X9_201 C dX9_real_8 p12 ?_
    obtain ⟨p13, hy⟩ := hy
    refine ww_vr p13 ?_
    obtain ⟨p14, hy⟩ := hy
    refine gf_X9_203 C dX9_real_11 p14 ?_
    refine ww_goto C (tg := 29) dX9_real_14 (by decide) ?_
    exact ww_sub [] rfl (by decide) (by decide) hy
set_option maxRecDepth 100000 in
set_option maxHeartbeats 4000000 in
theorem X9_real_b29 {G : xG} {k : xK} {n0 : Nat} {Po : UInt64 → Nat → xH → Prop} (C : CC G k cX9_real RX9 2 rm_X9_real) (E : CQ G k (some .double) rm_X9_real (fun r n1 h1 => ∃ z : UInt64, r = some (.double z) ∧ Po z n1 h1)) (s0 : UInt64) (n : Nat) (h : xH) (hy : Po s0 n h) : X9_real_w29 G k s0 n h := by
  exact ww_dret C E dX9_real_29 (by decide) (by decide) ⟨_, rfl, hy⟩
abbrev X9_exactOf_w0 (G : xG) (k : xK) (x0 : Nat) (x1 : UInt64) (n : Nat) (h : xH) : Prop := WW G k 7 0 0 0 [(0, rf G x0), (1, .double x1)] [] n h
abbrev X9_exactOf_w28 (G : xG) (k : xK) (x0 : Nat) (x1 : UInt64) (s0 : Int) (n : Nat) (h : xH) : Prop := WW G k 7 0 0 28 [(0, rf G x0), (1, .double x1)] [.long (lz s0)] n h
abbrev X9_exactOf_w61 (G : xG) (k : xK) (x0 : Nat) (x3 : Nat) (x4 : Int) (s0 : Nat) (n : Nat) (h : xH) : Prop := WW G k 7 2 7 61 [(0, rf G x0), (3, rf G x3), (4, .int (iz x4))] [rf G s0] n h
abbrev X9_exactOf_w79 (G : xG) (k : xK) (x0 : Nat) (x3 : Nat) (x4 : Int) (s0 : Int) (s1 : Nat) (s2 : Nat) (n : Nat) (h : xH) : Prop := WW G k 7 2 7 79 [(0, rf G x0), (3, rf G x3), (4, .int (iz x4))] [.int (iz s0), rf G s1, rf G s2] n h
abbrev X9_exactOf_w100 (G : xG) (k : xK) (x0 : Nat) (x3 : Nat) (x4 : Int) (s0 : Int) (s1 : Nat) (n : Nat) (h : xH) : Prop := WW G k 7 2 7 100 [(0, rf G x0), (3, rf G x3), (4, .int (iz x4))] [.int (iz s0), rf G s1] n h
abbrev X9_exactOf_w113 (G : xG) (k : xK) (x0 : Nat) (x3 : Nat) (x4 : Int) (s0 : Int) (s1 : Int) (s2 : Nat) (n : Nat) (h : xH) : Prop := WW G k 7 2 7 113 [(0, rf G x0), (3, rf G x3), (4, .int (iz x4))] [.int (iz s0), .int (iz s1), rf G s2] n h
abbrev X9_exactOf_w131 (G : xG) (k : xK) (x0 : Nat) (x3 : Nat) (x4 : Int) (x5 : Int) (s0 : Int) (n : Nat) (h : xH) : Prop := WW G k 7 2 7 131 [(0, rf G x0), (3, rf G x3), (4, .int (iz x4)), (5, .int (iz x5))] [.int (iz s0)] n h
abbrev X9_exactOf_w162 (G : xG) (k : xK) (s0 : Nat) (n : Nat) (h : xH) : Prop := WW G k 7 5 451 162 [] [rf G s0] n h
theorem S_X9_exactOf_of {G : xG} {l : Launch} {x0 : Nat} {x1 : UInt64} {n : Nat} {h : xH} {Po : Int → Nat → xH → Prop} (body : ∀ k : xK, kl k = l → CC G k cX9_exactOf RX9 7 rm_X9_exactOf → CQ G k (some (.object "DoubleTextsModel$Num")) rm_X9_exactOf (fun r n1 h1 => ∃ z : Int, r = some (vR G z) ∧ Po z n1 h1) → X9_exactOf_w0 G k x0 x1 n h) : S_X9_exactOf G l x0 x1 n h Po := xS_of (by decide +kernel) (Nat.le_of_ble_eq_true rfl) rfl (fun k hl hnm C E => body k hl C E)
set_option maxRecDepth 100000 in
set_option maxHeartbeats 4000000 in
theorem X9_exactOf_b0 {G : xG} {k : xK} {n0 : Nat} {Po : Int → Nat → xH → Prop} (C : CC G k cX9_exactOf RX9 7 rm_X9_exactOf) (E : CQ G k (some (.object "DoubleTextsModel$Num")) rm_X9_exactOf (fun r n1 h1 => ∃ z : Int, r = some (vR G z) ∧ Po z n1 h1)) (x0 : Nat) (x1 : UInt64) (n : Nat) (h : xH) (hy : ((¬ (dC .l x1 FP.dconst0) = 0 → ((0 ≤ (dC .g x1 FP.dconst0) → S_X9_significand G (kl k) x1 n h (fun z5 h6 => X9_exactOf_w28 G k x0 x1 z5 n h6)) ∧ (¬ 0 ≤ (dC .g x1 FP.dconst0) → S_X9_significand G (kl k) x1 n h (fun z7 h8 => X9_exactOf_w28 G k x0 x1 (-z7) n h8)))) ∧ ((dC .l x1 FP.dconst0) = 0 → S_X9_zero G (kl k)  n h (fun z9 n11 h10 => Po ((z9 : Nat) : Int) n11 h10)))) : X9_exactOf_w0 G k x0 x1 n h := by
  refine ww_dload_n C 1 1 rfl rfl dX9_exactOf_0 ?_
  refine ww_dconst0 C dX9_exactOf_1 ?_
  refine ww_dcmp C dX9_exactOf_2 ?_
  refine ww_if_ne C (tg := 10) dX9_exactOf_3 (by decide) (rg_dC _ _ _) (fun c2 => ?_) (fun c2 => ?_)
  · have hy := hy.1 c2
    refine ww_dload_n C 1 1 rfl rfl dX9_exactOf_10 ?_
    refine ww_dconst0 C dX9_exactOf_11 ?_
    refine ww_dcmp C dX9_exactOf_12 ?_
    refine ww_if_ge C (tg := 24) dX9_exactOf_13 (by decide) (rg_dC _ _ _) (fun c4 => ?_) (fun c4 => ?_)
    · have hy := hy.1 c4
      refine ww_dload_n C 1 1 rfl rfl dX9_exactOf_24 ?_
      refine cl_X9_227 C dX9_exactOf_25 (Nat.le_of_ble_eq_true rfl) ⟨by decide, by decide⟩ ⟨by decide, by decide⟩ ?_
      refine S_X9_significand.mono hy (fun z5 h6 hy => ?_)
      exact ww_sub [0, 1] rfl (by decide) (by decide) hy
    · have hy := hy.2 c4
      refine ww_dload_n C 1 1 rfl rfl dX9_exactOf_16 ?_
      refine cl_X9_227 C dX9_exactOf_17 (Nat.le_of_ble_eq_true rfl) ⟨by decide, by decide⟩ ⟨by decide, by decide⟩ ?_
      refine S_X9_significand.mono hy (fun z7 h8 hy => ?_)
      refine ww_lneg C dX9_exactOf_20 ?_
      refine ww_goto C (tg := 28) dX9_exactOf_21 (by decide) ?_
      exact ww_sub [0, 1] rfl (by decide) (by decide) hy
  · have hy := hy.2 c2
    refine cl_X9_7 C dX9_exactOf_6 (Nat.le_of_ble_eq_true rfl) ⟨by decide, by decide⟩ ⟨by decide, by decide⟩ ?_
    refine S_X9_zero.mono hy (fun z9 n11 h10 hy => ?_)
    refine ww_rv ?_
    exact ww_aret C E (Or.inl ⟨_, rfl⟩) dX9_exactOf_9 (by decide) (by decide) ⟨_, rfl, hy⟩
set_option maxRecDepth 100000 in
set_option maxHeartbeats 4000000 in
theorem X9_exactOf_b28 {G : xG} {k : xK} {n0 : Nat} {Po : Int → Nat → xH → Prop} (C : CC G k cX9_exactOf RX9 7 rm_X9_exactOf) (E : CQ G k (some (.object "DoubleTextsModel$Num")) rm_X9_exactOf (fun r n1 h1 => ∃ z : Int, r = some (vR G z) ∧ Po z n1 h1)) (x0 : Nat) (x1 : UInt64) (s0 : Int) (n : Nat) (h : xH) (hy : S_X9_whole G (kl k) s0 n h (fun z1 n3 h2 => S_X9_exponent G (kl k) x1 n3 h2 (fun z4 h5 => rg z4 ∧ ((¬ z4 = 0 → rg z4 ∧ ((z4 ≤ 0 → okO n3 h5 x0 8 ∧ 0 ≤ hG h5 x0 0 ∧ X9_exactOf_w61 G k x0 z1 z4 ((hG h5 x0 0).toNat) n3 h5) ∧ (¬ z4 ≤ 0 → okO n3 h5 z1 7 ∧ 0 ≤ hG h5 z1 1 ∧ X9_exactOf_w61 G k x0 z1 z4 ((hG h5 z1 1).toNat) n3 h5))) ∧ (z4 = 0 → Po ((z1 : Nat) : Int) n3 h5))))) : X9_exactOf_w28 G k x0 x1 s0 n h := by
  refine cl_X9_163 C dX9_exactOf_28 (Nat.le_of_ble_eq_true rfl) ⟨by decide, by decide⟩ ⟨by decide, by decide⟩ ?_
  refine S_X9_whole.mono hy (fun z1 n3 h2 hy => ?_)
  refine ww_astore_n C 3 rfl (by decide) rfl dX9_exactOf_31 ?_
  refine ww_dload_n C 1 2 rfl rfl dX9_exactOf_32 ?_
  refine cl_X9_231 C dX9_exactOf_33 (Nat.le_of_ble_eq_true rfl) ⟨by decide, by decide⟩ ⟨by decide, by decide⟩ ?_
  refine S_X9_exponent.mono hy (fun z4 h5 hy => ?_)
  refine ww_istore C 4 (by decide) rfl dX9_exactOf_36 ?_
  refine ww_iload C 4 0 rfl dX9_exactOf_38 ?_
  obtain ⟨p6, hy⟩ := hy
  refine ww_if_ne C (tg := 45) dX9_exactOf_40 (by decide) p6 (fun c7 => ?_) (fun c7 => ?_)
  · have hy := hy.1 c7
    refine ww_iload C 4 0 rfl dX9_exactOf_45 ?_
    obtain ⟨p8, hy⟩ := hy
    refine ww_if_le C (tg := 57) dX9_exactOf_47 (by decide) p8 (fun c9 => ?_) (fun c9 => ?_)
    · have hy := hy.1 c9
      refine ww_aload_n C 0 2 rfl rfl dX9_exactOf_57 ?_
      obtain ⟨p10, hy⟩ := hy
      obtain ⟨p11, hy⟩ := hy
      refine gf_X9_125 C dX9_exactOf_58 p10 p11 ?_
      exact ww_sub [2, 1, 0] rfl (by decide) (by decide) hy
    · have hy := hy.2 c9
      refine ww_aload_n C 3 1 rfl rfl dX9_exactOf_50 ?_
      obtain ⟨p12, hy⟩ := hy
      obtain ⟨p13, hy⟩ := hy
      refine gf_X9_104 C dX9_exactOf_51 p12 p13 ?_
      refine ww_goto C (tg := 61) dX9_exactOf_54 (by decide) ?_
      exact ww_sub [2, 1, 0] rfl (by decide) (by decide) hy
  · have hy := hy.2 c7
    refine ww_aload_n C 3 1 rfl rfl dX9_exactOf_43 ?_
    refine ww_rv ?_
    exact ww_aret C E (Or.inl ⟨_, rfl⟩) dX9_exactOf_44 (by decide) (by decide) ⟨_, rfl, hy⟩
set_option maxRecDepth 100000 in
set_option maxHeartbeats 4000000 in
theorem X9_exactOf_b61 {G : xG} {k : xK} {n0 : Nat} {Po : Int → Nat → xH → Prop} (C : CC G k cX9_exactOf RX9 7 rm_X9_exactOf) (E : CQ G k (some (.object "DoubleTextsModel$Num")) rm_X9_exactOf (fun r n1 h1 => ∃ z : Int, r = some (vR G z) ∧ Po z n1 h1)) (x0 : Nat) (x3 : Nat) (x4 : Int) (s0 : Nat) (n : Nat) (h : xH) (hy : okO n h x0 8 ∧ 0 ≤ hG h x0 2 ∧ rg x4 ∧ ((x4 ≤ 0 → X9_exactOf_w79 G k x0 x3 x4 1 ((hG h x0 2).toNat) s0 n h) ∧ (¬ x4 ≤ 0 → okO n h x3 7 ∧ 0 ≤ hG h x3 1 ∧ (((hG h x3 1).toNat) < n ∧ ((h ((hG h x3 1).toNat)).1 = 100 ∨ (h ((hG h x3 1).toNat)).1 = 101)) ∧ X9_exactOf_w79 G k x0 x3 x4 ((h ((hG h x3 1).toNat)).2.1 : Int) ((hG h x0 2).toNat) s0 n h))) : X9_exactOf_w61 G k x0 x3 x4 s0 n h := by
  refine ww_aload_n C 0 0 rfl rfl dX9_exactOf_61 ?_
  obtain ⟨p1, hy⟩ := hy
  obtain ⟨p2, hy⟩ := hy
  refine gf_X9_235 C dX9_exactOf_62 p1 p2 ?_
  refine ww_iload C 4 2 rfl dX9_exactOf_65 ?_
  obtain ⟨p3, hy⟩ := hy
  refine ww_if_le C (tg := 78) dX9_exactOf_67 (by decide) p3 (fun c4 => ?_) (fun c4 => ?_)
  · have hy := hy.1 c4
    refine ww_iconst C (z := 1) dX9_exactOf_78 rfl ?_
    exact ww_sub [0, 1, 2] rfl (by decide) (by decide) hy
  · have hy := hy.2 c4
    refine ww_aload_n C 3 1 rfl rfl dX9_exactOf_70 ?_
    obtain ⟨p5, hy⟩ := hy
    obtain ⟨p6, hy⟩ := hy
    refine gf_X9_104 C dX9_exactOf_71 p5 p6 ?_
    obtain ⟨p7, hy⟩ := hy
    refine ww_alen C dX9_exactOf_74 p7.1 p7.2 ?_
    refine ww_goto C (tg := 79) dX9_exactOf_75 (by decide) ?_
    exact ww_sub [0, 1, 2] rfl (by decide) (by decide) hy
set_option maxRecDepth 100000 in
set_option maxHeartbeats 4000000 in
theorem X9_exactOf_b79 {G : xG} {k : xK} {n0 : Nat} {Po : Int → Nat → xH → Prop} (C : CC G k cX9_exactOf RX9 7 rm_X9_exactOf) (E : CQ G k (some (.object "DoubleTextsModel$Num")) rm_X9_exactOf (fun r n1 h1 => ∃ z : Int, r = some (vR G z) ∧ Po z n1 h1)) (x0 : Nat) (x3 : Nat) (x4 : Int) (s0 : Int) (s1 : Nat) (s2 : Nat) (n : Nat) (h : xH) (hy : S_X9_copyRow G (kl k) s2 s1 s0 n h (fun h1 => okO n h1 x0 8 ∧ 0 ≤ hG h1 x0 2 ∧ rg x4 ∧ ((x4 ≤ 0 → X9_exactOf_w100 G k x0 x3 x4 1 ((hG h1 x0 2).toNat) n h1) ∧ (¬ x4 ≤ 0 → okO n h1 x3 7 ∧ 0 ≤ hG h1 x3 1 ∧ (((hG h1 x3 1).toNat) < n ∧ ((h1 ((hG h1 x3 1).toNat)).1 = 100 ∨ (h1 ((hG h1 x3 1).toNat)).1 = 101)) ∧ X9_exactOf_w100 G k x0 x3 x4 ((h1 ((hG h1 x3 1).toNat)).2.1 : Int) ((hG h1 x0 2).toNat) n h1)))) : X9_exactOf_w79 G k x0 x3 x4 s0 s1 s2 n h := by
  refine cl_X9_61 C dX9_exactOf_79 (Nat.le_of_ble_eq_true rfl) ⟨by decide, by decide⟩ ⟨by decide, by decide⟩ ?_
  refine S_X9_copyRow.mono hy (fun h1 hy => ?_)
  refine ww_aload_n C 0 0 rfl rfl dX9_exactOf_82 ?_
  obtain ⟨p2, hy⟩ := hy
  obtain ⟨p3, hy⟩ := hy
  refine gf_X9_235 C dX9_exactOf_83 p2 p3 ?_
  refine ww_iload C 4 2 rfl dX9_exactOf_86 ?_
  obtain ⟨p4, hy⟩ := hy
  refine ww_if_le C (tg := 99) dX9_exactOf_88 (by decide) p4 (fun c5 => ?_) (fun c5 => ?_)
  · have hy := hy.1 c5
    refine ww_iconst C (z := 1) dX9_exactOf_99 rfl ?_
    exact ww_sub [0, 1, 2] rfl (by decide) (by decide) hy
  · have hy := hy.2 c5
    refine ww_aload_n C 3 1 rfl rfl dX9_exactOf_91 ?_
    obtain ⟨p6, hy⟩ := hy
    obtain ⟨p7, hy⟩ := hy
    refine gf_X9_104 C dX9_exactOf_92 p6 p7 ?_
    obtain ⟨p8, hy⟩ := hy
    refine ww_alen C dX9_exactOf_95 p8.1 p8.2 ?_
    refine ww_goto C (tg := 100) dX9_exactOf_96 (by decide) ?_
    exact ww_sub [0, 1, 2] rfl (by decide) (by decide) hy
set_option maxRecDepth 100000 in
set_option maxHeartbeats 4000000 in
theorem X9_exactOf_b100 {G : xG} {k : xK} {n0 : Nat} {Po : Int → Nat → xH → Prop} (C : CC G k cX9_exactOf RX9 7 rm_X9_exactOf) (E : CQ G k (some (.object "DoubleTextsModel$Num")) rm_X9_exactOf (fun r n1 h1 => ∃ z : Int, r = some (vR G z) ∧ Po z n1 h1)) (x0 : Nat) (x3 : Nat) (x4 : Int) (s0 : Int) (s1 : Nat) (n : Nat) (h : xH) (hy : rg x4 ∧ ((x4 ≤ 0 → X9_exactOf_w113 G k x0 x3 x4 (-x4) s0 s1 n h) ∧ (¬ x4 ≤ 0 → X9_exactOf_w113 G k x0 x3 x4 x4 s0 s1 n h))) : X9_exactOf_w100 G k x0 x3 x4 s0 s1 n h := by
  refine ww_iload C 4 2 rfl dX9_exactOf_100 ?_
  obtain ⟨p1, hy⟩ := hy
  refine ww_if_le C (tg := 110) dX9_exactOf_102 (by decide) p1 (fun c2 => ?_) (fun c2 => ?_)
  · have hy := hy.1 c2
    refine ww_iload C 4 2 rfl dX9_exactOf_110 ?_
    refine ww_ineg C dX9_exactOf_112 ?_
    exact ww_sub [0, 1, 2] rfl (by decide) (by decide) hy
  · have hy := hy.2 c2
    refine ww_iload C 4 2 rfl dX9_exactOf_105 ?_
    refine ww_goto C (tg := 113) dX9_exactOf_107 (by decide) ?_
    exact ww_sub [0, 1, 2] rfl (by decide) (by decide) hy
set_option maxRecDepth 100000 in
set_option maxHeartbeats 4000000 in
theorem X9_exactOf_b113 {G : xG} {k : xK} {n0 : Nat} {Po : Int → Nat → xH → Prop} (C : CC G k cX9_exactOf RX9 7 rm_X9_exactOf) (E : CQ G k (some (.object "DoubleTextsModel$Num")) rm_X9_exactOf (fun r n1 h1 => ∃ z : Int, r = some (vR G z) ∧ Po z n1 h1)) (x0 : Nat) (x3 : Nat) (x4 : Int) (s0 : Int) (s1 : Int) (s2 : Nat) (n : Nat) (h : xH) (hy : S_X9_doubled G (kl k) s2 s1 s0 n h (fun z1 h2 => rg x4 ∧ ((x4 ≤ 0 → X9_exactOf_w131 G k x0 x3 x4 z1 1 n h2) ∧ (¬ x4 ≤ 0 → okO n h2 x3 7 ∧ X9_exactOf_w131 G k x0 x3 x4 z1 (hG h2 x3 0) n h2)))) : X9_exactOf_w113 G k x0 x3 x4 s0 s1 s2 n h := by
  refine cl_X9_131 C dX9_exactOf_113 (Nat.le_of_ble_eq_true rfl) ⟨by decide, by decide⟩ ⟨by decide, by decide⟩ ?_
  refine S_X9_doubled.mono hy (fun z1 h2 hy => ?_)
  refine ww_istore C 5 (by decide) rfl dX9_exactOf_116 ?_
  refine ww_iload C 4 3 rfl dX9_exactOf_118 ?_
  obtain ⟨p3, hy⟩ := hy
  refine ww_if_le C (tg := 130) dX9_exactOf_120 (by decide) p3 (fun c4 => ?_) (fun c4 => ?_)
  · have hy := hy.1 c4
    refine ww_iconst C (z := 1) dX9_exactOf_130 rfl ?_
    exact ww_sub [1, 2, 3, 0] rfl (by decide) (by decide) hy
  · have hy := hy.2 c4
    refine ww_aload_n C 3 2 rfl rfl dX9_exactOf_123 ?_
    obtain ⟨p5, hy⟩ := hy
    refine gf_X9_109 C dX9_exactOf_124 p5 ?_
    refine ww_goto C (tg := 131) dX9_exactOf_127 (by decide) ?_
    exact ww_sub [1, 2, 3, 0] rfl (by decide) (by decide) hy
set_option maxRecDepth 100000 in
set_option maxHeartbeats 4000000 in
theorem X9_exactOf_b131 {G : xG} {k : xK} {n0 : Nat} {Po : Int → Nat → xH → Prop} (C : CC G k cX9_exactOf RX9 7 rm_X9_exactOf) (E : CQ G k (some (.object "DoubleTextsModel$Num")) rm_X9_exactOf (fun r n1 h1 => ∃ z : Int, r = some (vR G z) ∧ Po z n1 h1)) (x0 : Nat) (x3 : Nat) (x4 : Int) (x5 : Int) (s0 : Int) (n : Nat) (h : xH) (hy : okO n h x0 8 ∧ 0 ≤ hG h x0 2 ∧ S_X9_wholeOf G (kl k) s0 ((hG h x0 2).toNat) x5 n h (fun z3 n5 h4 => rg x4 ∧ ((x4 ≤ 0 → (∀ h8 : xH, h8 = hN h4 n5 (5, 0, xZ 5) → S_X6_init G (kl k) n5 x3 z3 (n5 + 1) h8 (fun h9 => X9_exactOf_w162 G k n5 (n5 + 1) h9))) ∧ (¬ x4 ≤ 0 → X9_exactOf_w162 G k z3 n5 h4)))) : X9_exactOf_w131 G k x0 x3 x4 x5 s0 n h := by
  refine ww_aload_n C 0 0 rfl rfl dX9_exactOf_131 ?_
  obtain ⟨p1, hy⟩ := hy
  obtain ⟨p2, hy⟩ := hy
  refine gf_X9_235 C dX9_exactOf_132 p1 p2 ?_
  refine ww_iload C 5 3 rfl dX9_exactOf_135 ?_
  refine cl_X9_173 C dX9_exactOf_137 (Nat.le_of_ble_eq_true rfl) ⟨by decide, by decide⟩ ⟨by decide, by decide⟩ ?_
  refine S_X9_wholeOf.mono hy (fun z3 n5 h4 hy => ?_)
  refine ww_astore C 6 (by decide) rfl dX9_exactOf_140 ?_
  refine ww_iload C 4 3 rfl dX9_exactOf_142 ?_
  obtain ⟨p6, hy⟩ := hy
  refine ww_if_le C (tg := 152) dX9_exactOf_144 (by decide) p6 (fun c7 => ?_) (fun c7 => ?_)
  · have hy := hy.1 c7
    refine nw_X9_157 C dX9_exactOf_152 (by decide) (by decide) ?_
    have hy := hy _ rfl
    refine ww_dup C rfl dX9_exactOf_155 ?_
    refine ww_aload_n C 3 2 rfl rfl dX9_exactOf_156 ?_
    refine ww_aload C 6 0 rfl dX9_exactOf_157 ?_
    refine cl_X9_194 C dX9_exactOf_159 (Nat.le_of_ble_eq_true rfl) ⟨by decide, by decide⟩ ⟨by decide, by decide⟩ ?_
    refine S_X6_init.mono hy (fun h9 hy => ?_)
    exact ww_sub [] rfl (by decide) (by decide) hy
  · have hy := hy.2 c7
    refine ww_aload C 6 0 rfl dX9_exactOf_147 ?_
    refine ww_goto C (tg := 162) dX9_exactOf_149 (by decide) ?_
    exact ww_sub [] rfl (by decide) (by decide) hy
set_option maxRecDepth 100000 in
set_option maxHeartbeats 4000000 in
theorem X9_exactOf_b162 {G : xG} {k : xK} {n0 : Nat} {Po : Int → Nat → xH → Prop} (C : CC G k cX9_exactOf RX9 7 rm_X9_exactOf) (E : CQ G k (some (.object "DoubleTextsModel$Num")) rm_X9_exactOf (fun r n1 h1 => ∃ z : Int, r = some (vR G z) ∧ Po z n1 h1)) (s0 : Nat) (n : Nat) (h : xH) (hy : Po ((s0 : Nat) : Int) n h) : X9_exactOf_w162 G k s0 n h := by
  refine ww_rv ?_
  exact ww_aret C E (Or.inl ⟨_, rfl⟩) dX9_exactOf_162 (by decide) (by decide) ⟨_, rfl, hy⟩
