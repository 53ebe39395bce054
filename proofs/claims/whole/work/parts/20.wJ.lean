theorem xS_ofF {G : xG} {cc : ByteArray} {nL n : Nat} {rm : Room} {h : xH} {l : Launch} {y : MethodName} {ret : Option FieldType} {av : List Value} {Po : Option Value → Nat → xH → Prop} {L : List (Nat × Value)} (hy : plainFor y = true) (hn : (lg_sl av).length ≤ nL) (hL : lv_args 0 av = L)
    (body : ∀ k : xK, kl k = l → (kt k).name = y.name → CC G k cc y.cls nL rm → CQ G k ret rm Po → WW G k nL 0 0 0 L [] n h) : xS G l y (xws y cc nL ret) rm av n h Po := by
  refine va_MetF (cc := cc) (maxL := nL) (ret := ret) hy rfl ?_
  intro p e s m args below meth c s₁ B hml hv
  obtain ⟨rfl, hsz, hP, hK, hF⟩ := hv
  have hts := atoms_spec (ws := xws y cc nL ret) B.pre
  have hb := body (p, l, e, rm, s, m, av.toArray, below, meth, c, MQ below (xQ G Po) av.toArray s rm.cells rm.slots (xA G)) rfl (name_of_methodNamed B.named B.method).1 ⟨B.exec, B.bytes, hml, findClass_of_methodNamed B.named, fun w hw => hts w (List.mem_cons_of_mem _ hw), hK, hF, rfl, by rw [hsz]; exact Nat.le_add_right _ _⟩ ⟨B.returns, B.notSynchronized, rfl⟩
  have hl := lv_entry av (n := nL) hn
  rw [lg_entry_eq]
  rw [hL] at hl
  exact hb s.heap [] _ hsz hP va_S.rf hl
abbrev J0_coder_7d493_w0 (G : xG) (k : xK) (x0 : Nat) (n : Nat) (h : xH) : Prop := WW G k 1 0 0 0 [(0, .ref (G.2.2.2.2.1 x0))] [] n h
abbrev J0_coder_7d493_w14 (G : xG) (k : xK) (s0 : Int) (n : Nat) (h : xH) : Prop := WW G k 1 0 0 14 [] [.int (iz s0)] n h
theorem S_J0_coder_7d493_of {G : xG} {l : Launch} {x0 : Nat} {n : Nat} {h : xH} {Po : Int → xH → Prop} (body : ∀ k : xK, kl k = l → CC G k cJ0_coder_7d493 RJ0 1 rm_J0_coder_7d493 → CQ G k (some .byte) rm_J0_coder_7d493 (fun r n1 h1 => ∃ z : Int, r = some (.int (iz z)) ∧ n1 = n ∧ Po z h1) → J0_coder_7d493_w0 G k x0 n h) : S_J0_coder_7d493 G l x0 n h Po := xS_of (by decide +kernel) (Nat.le_of_ble_eq_true rfl) rfl (fun k hl hnm C E => body k hl C E)
set_option maxRecDepth 100000 in
set_option maxHeartbeats 4000000 in
theorem J0_coder_7d493_b0 {G : xG} {k : xK} {n0 : Nat} {Po : Int → xH → Prop} (C : CC G k cJ0_coder_7d493 RJ0 1 rm_J0_coder_7d493) (E : CQ G k (some .byte) rm_J0_coder_7d493 (fun r n1 h1 => ∃ z : Int, r = some (.int (iz z)) ∧ n1 = n0 ∧ Po z h1)) (x0 : Nat) (n : Nat) (h : xH) (hn0 : n = n0) (hy : rg (1 : Int) ∧ (((1 : Int) = 0 → J0_coder_7d493_w14 G k 1 n h) ∧ (¬ (1 : Int) = 0 → x0 < 8 ∧ J0_coder_7d493_w14 G k 0 n h))) : J0_coder_7d493_w0 G k x0 n h := by
  subst hn0
  refine ww_stCompact C q_0 dJ0_coder_7d493_0 ?_
  obtain ⟨p1, hy⟩ := hy
  refine ww_if_eq C (tg := 13) dJ0_coder_7d493_3 (by decide) p1 (fun c2 => ?_) (fun c2 => ?_)
  · have hy := hy.1 c2
    refine ww_iconst C (z := 1) dJ0_coder_7d493_13 rfl ?_
    exact ww_sub [] rfl (by decide) (by decide) hy
  · have hy := hy.2 c2
    refine ww_aload_n C 0 0 rfl rfl dJ0_coder_7d493_6 ?_
    obtain ⟨p3, hy⟩ := hy
    refine ww_strCod C p3 q_1 dJ0_coder_7d493_7 ?_
    refine ww_goto C (tg := 14) dJ0_coder_7d493_10 (by decide) ?_
    exact ww_sub [] rfl (by decide) (by decide) hy
set_option maxRecDepth 100000 in
set_option maxHeartbeats 4000000 in
theorem J0_coder_7d493_b14 {G : xG} {k : xK} {n0 : Nat} {Po : Int → xH → Prop} (C : CC G k cJ0_coder_7d493 RJ0 1 rm_J0_coder_7d493) (E : CQ G k (some .byte) rm_J0_coder_7d493 (fun r n1 h1 => ∃ z : Int, r = some (.int (iz z)) ∧ n1 = n0 ∧ Po z h1)) (s0 : Int) (n : Nat) (h : xH) (hn0 : n = n0) (hy : (-128 ≤ s0 ∧ s0 ≤ 127) ∧ Po s0 h) : J0_coder_7d493_w14 G k s0 n h := by
  subst hn0
  obtain ⟨p1, hy⟩ := hy
  exact ww_zret C E dJ0_coder_7d493_14 (nz_byte p1.1 p1.2) (by decide) (by decide) ⟨_, rfl, rfl, hy⟩
abbrev J0_length_8abf5_w0 (G : xG) (k : xK) (x0 : Nat) (n : Nat) (h : xH) : Prop := WW G k 1 0 0 0 [(0, .ref (G.2.2.2.2.1 x0))] [] n h
theorem S_J0_length_8abf5_of {G : xG} {l : Launch} {x0 : Nat} {n : Nat} {h : xH} {Po : Int → xH → Prop} (body : ∀ k : xK, kl k = l → CC G k cJ0_length_8abf5 RJ0 1 rm_J0_length_8abf5 → CQ G k (some .int) rm_J0_length_8abf5 (fun r n1 h1 => ∃ z : Int, r = some (.int (iz z)) ∧ n1 = n ∧ Po z h1) → J0_length_8abf5_w0 G k x0 n h) : S_J0_length_8abf5 G l x0 n h Po := xS_of (by decide +kernel) (Nat.le_of_ble_eq_true rfl) rfl (fun k hl hnm C E => body k hl C E)
set_option maxRecDepth 100000 in
set_option maxHeartbeats 4000000 in
theorem J0_length_8abf5_b0 {G : xG} {k : xK} {n0 : Nat} {Po : Int → xH → Prop} (C : CC G k cJ0_length_8abf5 RJ0 1 rm_J0_length_8abf5) (E : CQ G k (some .int) rm_J0_length_8abf5 (fun r n1 h1 => ∃ z : Int, r = some (.int (iz z)) ∧ n1 = n0 ∧ Po z h1)) (x0 : Nat) (n : Nat) (h : xH) (hn0 : n = n0) (hy : x0 < 8 ∧ x0 < 8 ∧ x0 < 8 ∧ S_J0_coder_7d493 G (kl k) x0 n h (fun z4 h5 => Po (iSr ((xLen.getD x0 0 : Nat) : Int) z4) h5)) : J0_length_8abf5_w0 G k x0 n h := by
  subst hn0
  refine ww_aload_n C 0 0 rfl rfl dJ0_length_8abf5_0 ?_
  obtain ⟨p1, hy⟩ := hy
  refine ww_strVal C p1 q_2 dJ0_length_8abf5_1 ?_
  obtain ⟨p2, hy⟩ := hy
  refine ww_strLen C p2 dJ0_length_8abf5_4 ?_
  refine ww_aload_n C 0 0 rfl rfl dJ0_length_8abf5_5 ?_
  obtain ⟨p3, hy⟩ := hy
  refine cl_J0_335 C dJ0_length_8abf5_6 (Nat.le_of_ble_eq_true rfl) ⟨by decide, by decide⟩ ⟨by decide, by decide⟩ p3 ?_
  refine S_J0_coder_7d493.mono hy (fun z4 h5 hy => ?_)
  refine ww_ishr C dJ0_length_8abf5_9 ?_
  exact ww_iret C E dJ0_length_8abf5_10 (by decide) (by decide) ⟨_, rfl, rfl, hy⟩
abbrev J0_isLatin1_aae02_w0 (G : xG) (k : xK) (x0 : Nat) (n : Nat) (h : xH) : Prop := WW G k 1 0 0 0 [(0, .ref (G.2.2.2.2.1 x0))] [] n h
abbrev J0_isLatin1_aae02_w17 (G : xG) (k : xK)  (n : Nat) (h : xH) : Prop := WW G k 1 0 0 17 [] [] n h
abbrev J0_isLatin1_aae02_w18 (G : xG) (k : xK) (s0 : Int) (n : Nat) (h : xH) : Prop := WW G k 1 0 0 18 [] [.int (iz s0)] n h
theorem S_J0_isLatin1_aae02_of {G : xG} {l : Launch} {x0 : Nat} {n : Nat} {h : xH} {Po : Int → xH → Prop} (body : ∀ k : xK, kl k = l → CC G k cJ0_isLatin1_aae02 RJ0 1 rm_J0_isLatin1_aae02 → CQ G k (some .boolean) rm_J0_isLatin1_aae02 (fun r n1 h1 => ∃ z : Int, r = some (.int (iz z)) ∧ n1 = n ∧ Po z h1) → J0_isLatin1_aae02_w0 G k x0 n h) : S_J0_isLatin1_aae02 G l x0 n h Po := xS_of (by decide +kernel) (Nat.le_of_ble_eq_true rfl) rfl (fun k hl hnm C E => body k hl C E)
set_option maxRecDepth 100000 in
set_option maxHeartbeats 4000000 in
theorem J0_isLatin1_aae02_b0 {G : xG} {k : xK} {n0 : Nat} {Po : Int → xH → Prop} (C : CC G k cJ0_isLatin1_aae02 RJ0 1 rm_J0_isLatin1_aae02) (E : CQ G k (some .boolean) rm_J0_isLatin1_aae02 (fun r n1 h1 => ∃ z : Int, r = some (.int (iz z)) ∧ n1 = n0 ∧ Po z h1)) (x0 : Nat) (n : Nat) (h : xH) (hn0 : n = n0) (hy : rg (1 : Int) ∧ (((1 : Int) = 0 → J0_isLatin1_aae02_w17 G k  n h) ∧ (¬ (1 : Int) = 0 → x0 < 8 ∧ rg (0 : Int) ∧ ((¬ (0 : Int) = 0 → J0_isLatin1_aae02_w17 G k  n h) ∧ ((0 : Int) = 0 → J0_isLatin1_aae02_w18 G k 1 n h))))) : J0_isLatin1_aae02_w0 G k x0 n h := by
  subst hn0
  refine ww_stCompact C q_0 dJ0_isLatin1_aae02_0 ?_
  obtain ⟨p1, hy⟩ := hy
  refine ww_if_eq C (tg := 17) dJ0_isLatin1_aae02_3 (by decide) p1 (fun c2 => ?_) (fun c2 => ?_)
  · have hy := hy.1 c2
    exact ww_sub [] rfl (by decide) (by decide) hy
  · have hy := hy.2 c2
    refine ww_aload_n C 0 0 rfl rfl dJ0_isLatin1_aae02_6 ?_
    obtain ⟨p3, hy⟩ := hy
    refine ww_strCod C p3 q_1 dJ0_isLatin1_aae02_7 ?_
    obtain ⟨p4, hy⟩ := hy
    refine ww_if_ne C (tg := 17) dJ0_isLatin1_aae02_10 (by decide) p4 (fun c5 => ?_) (fun c5 => ?_)
    · have hy := hy.1 c5
      exact ww_sub [] rfl (by decide) (by decide) hy
    · have hy := hy.2 c5
      refine ww_iconst C (z := 1) dJ0_isLatin1_aae02_13 rfl ?_
      refine ww_goto C (tg := 18) dJ0_isLatin1_aae02_14 (by decide) ?_
      exact ww_sub [] rfl (by decide) (by decide) hy
set_option maxRecDepth 100000 in
set_option maxHeartbeats 4000000 in
theorem J0_isLatin1_aae02_b17 {G : xG} {k : xK} {n0 : Nat} {Po : Int → xH → Prop} (C : CC G k cJ0_isLatin1_aae02 RJ0 1 rm_J0_isLatin1_aae02) (E : CQ G k (some .boolean) rm_J0_isLatin1_aae02 (fun r n1 h1 => ∃ z : Int, r = some (.int (iz z)) ∧ n1 = n0 ∧ Po z h1))  (n : Nat) (h : xH) (hn0 : n = n0) (hy : J0_isLatin1_aae02_w18 G k 0 n h) : J0_isLatin1_aae02_w17 G k  n h := by
  subst hn0
  refine ww_iconst C (z := 0) dJ0_isLatin1_aae02_17 rfl ?_
  exact ww_sub [] rfl (by decide) (by decide) hy
set_option maxRecDepth 100000 in
set_option maxHeartbeats 4000000 in
theorem J0_isLatin1_aae02_b18 {G : xG} {k : xK} {n0 : Nat} {Po : Int → xH → Prop} (C : CC G k cJ0_isLatin1_aae02 RJ0 1 rm_J0_isLatin1_aae02) (E : CQ G k (some .boolean) rm_J0_isLatin1_aae02 (fun r n1 h1 => ∃ z : Int, r = some (.int (iz z)) ∧ n1 = n0 ∧ Po z h1)) (s0 : Int) (n : Nat) (h : xH) (hn0 : n = n0) (hy : (s0 = 0 ∨ s0 = 1) ∧ Po s0 h) : J0_isLatin1_aae02_w18 G k s0 n h := by
  subst hn0
  obtain ⟨p1, hy⟩ := hy
  exact ww_zret C E dJ0_isLatin1_aae02_18 (nz_b p1) (by decide) (by decide) ⟨_, rfl, rfl, hy⟩
abbrev J3_checkIndex_8e157_w0 (G : xG) (k : xK) (x0 : Int) (x1 : Int) (x2 : Option Nat) (n : Nat) (h : xH) : Prop := WW G k 3 0 0 0 [(0, .int (iz x0)), (1, .int (iz x1)), (2, vA x2)] [] n h
abbrev J3_checkIndex_8e157_w9 (G : xG) (k : xK) (x0 : Int) (x1 : Int) (x2 : Option Nat) (n : Nat) (h : xH) : Prop := WW G k 3 0 0 9 [(0, .int (iz x0)), (1, .int (iz x1)), (2, vA x2)] [] n h
theorem S_J3_checkIndex_8e157_of {G : xG} {l : Launch} {x0 : Int} {x1 : Int} {x2 : Option Nat} {n : Nat} {h : xH} {Po : Int → xH → Prop} (body : ∀ k : xK, kl k = l → CC G k cJ3_checkIndex_8e157 RJ3 3 rm_J3_checkIndex_8e157 → CQ G k (some .int) rm_J3_checkIndex_8e157 (fun r n1 h1 => ∃ z : Int, r = some (.int (iz z)) ∧ n1 = n ∧ Po z h1) → J3_checkIndex_8e157_w0 G k x0 x1 x2 n h) : S_J3_checkIndex_8e157 G l x0 x1 x2 n h Po := xS_of (by decide +kernel) (by cases x2 <;> exact Nat.le_of_ble_eq_true rfl) rfl (fun k hl hnm C E => body k hl C E)
set_option maxRecDepth 100000 in
set_option maxHeartbeats 4000000 in
theorem J3_checkIndex_8e157_b0 {G : xG} {k : xK} {n0 : Nat} {Po : Int → xH → Prop} (C : CC G k cJ3_checkIndex_8e157 RJ3 3 rm_J3_checkIndex_8e157) (E : CQ G k (some .int) rm_J3_checkIndex_8e157 (fun r n1 h1 => ∃ z : Int, r = some (.int (iz z)) ∧ n1 = n0 ∧ Po z h1)) (x0 : Int) (x1 : Int) (x2 : Option Nat) (n : Nat) (h : xH) (hn0 : n = n0) (hy : rg x0 ∧ ((x0 < 0 → J3_checkIndex_8e157_w9 G k x0 x1 x2 n h) ∧ (¬ x0 < 0 → (rg x0 ∧ rg x1) ∧ ((x0 < x1 → Po x0 h) ∧ (¬ x0 < x1 → J3_checkIndex_8e157_w9 G k x0 x1 x2 n h))))) : J3_checkIndex_8e157_w0 G k x0 x1 x2 n h := by
  subst hn0
  refine ww_iload_n C 0 0 rfl rfl dJ3_checkIndex_8e157_0 ?_
  obtain ⟨p1, hy⟩ := hy
  refine ww_if_lt C (tg := 9) dJ3_checkIndex_8e157_1 (by decide) p1 (fun c2 => ?_) (fun c2 => ?_)
  · have hy := hy.1 c2
    exact ww_sub [0, 1, 2] rfl (by decide) (by decide) hy
  · have hy := hy.2 c2
    refine ww_iload_n C 0 0 rfl rfl dJ3_checkIndex_8e157_4 ?_
    refine ww_iload_n C 1 1 rfl rfl dJ3_checkIndex_8e157_5 ?_
    obtain ⟨p3, hy⟩ := hy
    refine ww_icmp_lt C (tg := 16) dJ3_checkIndex_8e157_6 (by decide) p3.1 p3.2 (fun c4 => ?_) (fun c4 => ?_)
    · have hy := hy.1 c4
      refine ww_iload_n C 0 0 rfl rfl dJ3_checkIndex_8e157_16 ?_
      exact ww_iret C E dJ3_checkIndex_8e157_17 (by decide) (by decide) ⟨_, rfl, rfl, hy⟩
    · have hy := hy.2 c4
      exact ww_sub [0, 1, 2] rfl (by decide) (by decide) hy
set_option maxRecDepth 100000 in
set_option maxHeartbeats 4000000 in
theorem J3_checkIndex_8e157_b9 {G : xG} {k : xK} {n0 : Nat} {Po : Int → xH → Prop} (C : CC G k cJ3_checkIndex_8e157 RJ3 3 rm_J3_checkIndex_8e157) (E : CQ G k (some .int) rm_J3_checkIndex_8e157 (fun r n1 h1 => ∃ z : Int, r = some (.int (iz z)) ∧ n1 = n0 ∧ Po z h1)) (x0 : Int) (x1 : Int) (x2 : Option Nat) (n : Nat) (h : xH) (hn0 : n = n0) (hy : False) : J3_checkIndex_8e157_w9 G k x0 x1 x2 n h := by
  subst hn0
  exact absurd hy id
abbrev J0_checkIndex_df160_w0 (G : xG) (k : xK) (x0 : Int) (x1 : Int) (n : Nat) (h : xH) : Prop := WW G k 2 0 0 0 [(0, .int (iz x0)), (1, .int (iz x1))] [] n h
theorem S_J0_checkIndex_df160_of {G : xG} {l : Launch} {x0 : Int} {x1 : Int} {n : Nat} {h : xH} {Po : xH → Prop} (body : ∀ k : xK, kl k = l → CC G k cJ0_checkIndex_df160 RJ0 2 rm_J0_checkIndex_df160 → CQ G k none rm_J0_checkIndex_df160 (fun r n1 h1 => r = none ∧ n1 = n ∧ Po h1) → J0_checkIndex_df160_w0 G k x0 x1 n h) : S_J0_checkIndex_df160 G l x0 x1 n h Po := xS_of (by decide +kernel) (Nat.le_of_ble_eq_true rfl) rfl (fun k hl hnm C E => body k hl C E)
set_option maxRecDepth 100000 in
set_option maxHeartbeats 4000000 in
theorem J0_checkIndex_df160_b0 {G : xG} {k : xK} {n0 : Nat} {Po : xH → Prop} (C : CC G k cJ0_checkIndex_df160 RJ0 2 rm_J0_checkIndex_df160) (E : CQ G k none rm_J0_checkIndex_df160 (fun r n1 h1 => r = none ∧ n1 = n0 ∧ Po h1)) (x0 : Int) (x1 : Int) (n : Nat) (h : xH) (hn0 : n = n0) (hy : (∀ f1 : Option Nat, S_J3_checkIndex_8e157 G (kl k) x0 x1 f1 n h (fun z2 h3 => Po h3))) : J0_checkIndex_df160_w0 G k x0 x1 n h := by
  subst hn0
  refine ww_iload_n C 0 0 rfl rfl dJ0_checkIndex_df160_0 ?_
  refine ww_iload_n C 1 1 rfl rfl dJ0_checkIndex_df160_1 ?_
  refine ww_stFmt C q_8 dJ0_checkIndex_df160_2 (fun f1 => ?_)
  have hy := hy f1
  refine cl_J0_1059 C dJ0_checkIndex_df160_5 (Nat.le_of_ble_eq_true rfl) ⟨by decide, by decide⟩ ⟨by decide, by decide⟩ ?_
  refine S_J3_checkIndex_8e157.mono hy (fun z2 h3 hy => ?_)
  refine ww_pop C rfl dJ0_checkIndex_df160_8 ?_
  exact ww_vret C E dJ0_checkIndex_df160_9 (by decide) (by decide) ⟨rfl, rfl, hy⟩
abbrev J1_charAt_3b067_w0 (G : xG) (k : xK) (x0 : Nat) (x1 : Int) (n : Nat) (h : xH) : Prop := WW G k 2 0 0 0 [(0, .ref (G.2.2.2.2.2 x0)), (1, .int (iz x1))] [] n h
theorem S_J1_charAt_3b067_of {G : xG} {l : Launch} {x0 : Nat} {x1 : Int} {n : Nat} {h : xH} {Po : Int → xH → Prop} (body : ∀ k : xK, kl k = l → CC G k cJ1_charAt_3b067 RJ1 2 rm_J1_charAt_3b067 → CQ G k (some .char) rm_J1_charAt_3b067 (fun r n1 h1 => ∃ z : Int, r = some (.int (iz z)) ∧ n1 = n ∧ Po z h1) → J1_charAt_3b067_w0 G k x0 x1 n h) : S_J1_charAt_3b067 G l x0 x1 n h Po := xS_of (by decide +kernel) (Nat.le_of_ble_eq_true rfl) rfl (fun k hl hnm C E => body k hl C E)
set_option maxRecDepth 100000 in
set_option maxHeartbeats 4000000 in
theorem J1_charAt_3b067_b0 {G : xG} {k : xK} {n0 : Nat} {Po : Int → xH → Prop} (C : CC G k cJ1_charAt_3b067 RJ1 2 rm_J1_charAt_3b067) (E : CQ G k (some .char) rm_J1_charAt_3b067 (fun r n1 h1 => ∃ z : Int, r = some (.int (iz z)) ∧ n1 = n0 ∧ Po z h1)) (x0 : Nat) (x1 : Int) (n : Nat) (h : xH) (hn0 : n = n0) (hy : x0 < 8 ∧ S_J0_checkIndex_df160 G (kl k) x1 ((xLen.getD x0 0 : Nat) : Int) n h (fun h2 => (x0 < 8 ∧ 0 ≤ x1 ∧ x1 < (xLen.getD x0 0 : Nat) ∧ x1 ≤ 2147483647) ∧ (0 ≤ (iA (xCh x0 x1.toNat) 255) ∧ (iA (xCh x0 x1.toNat) 255) ≤ 65535) ∧ (0 ≤ (iA (xCh x0 x1.toNat) 255) ∧ (iA (xCh x0 x1.toNat) 255) ≤ 65535) ∧ Po (iA (xCh x0 x1.toNat) 255) h2)) : J1_charAt_3b067_w0 G k x0 x1 n h := by
  subst hn0
  refine ww_iload_n C 1 1 rfl rfl dJ1_charAt_3b067_0 ?_
  refine ww_aload_n C 0 0 rfl rfl dJ1_charAt_3b067_1 ?_
  obtain ⟨p1, hy⟩ := hy
  refine ww_strLen C p1 dJ1_charAt_3b067_2 ?_
  refine cl_J1_9 C dJ1_charAt_3b067_3 (Nat.le_of_ble_eq_true rfl) ⟨by decide, by decide⟩ ⟨by decide, by decide⟩ ?_
  refine S_J0_checkIndex_df160.mono hy (fun h2 hy => ?_)
  refine ww_aload_n C 0 0 rfl rfl dJ1_charAt_3b067_6 ?_
  refine ww_iload_n C 1 1 rfl rfl dJ1_charAt_3b067_7 ?_
  obtain ⟨p3, hy⟩ := hy
  refine ww_strAt C p3.1 dJ1_charAt_3b067_8 p3.2.1 p3.2.2.1 p3.2.2.2 ?_
  refine ww_sipush C (z := 255) dJ1_charAt_3b067_9 rfl ?_
  refine ww_iand C dJ1_charAt_3b067_12 ?_
  obtain ⟨p4, hy⟩ := hy
  refine ww_i2c C dJ1_charAt_3b067_13 p4.1 p4.2 ?_
  obtain ⟨p5, hy⟩ := hy
  exact ww_zret C E dJ1_charAt_3b067_14 (nz_char p5.1 p5.2) (by decide) (by decide) ⟨_, rfl, rfl, hy⟩
abbrev J0_charAt_5068e_w0 (G : xG) (k : xK) (x0 : Nat) (x1 : Int) (n : Nat) (h : xH) : Prop := WW G k 2 0 0 0 [(0, .ref (G.2.2.2.2.1 x0)), (1, .int (iz x1))] [] n h
theorem S_J0_charAt_5068e_of {G : xG} {l : Launch} {x0 : Nat} {x1 : Int} {n : Nat} {h : xH} {Po : Int → xH → Prop} (body : ∀ k : xK, kl k = l → CC G k cJ0_charAt_5068e RJ0 2 rm_J0_charAt_5068e → CQ G k (some .char) rm_J0_charAt_5068e (fun r n1 h1 => ∃ z : Int, r = some (.int (iz z)) ∧ n1 = n ∧ Po z h1) → J0_charAt_5068e_w0 G k x0 x1 n h) : S_J0_charAt_5068e G l x0 x1 n h Po := xS_of (by decide +kernel) (Nat.le_of_ble_eq_true rfl) rfl (fun k hl hnm C E => body k hl C E)
set_option maxRecDepth 100000 in
set_option maxHeartbeats 4000000 in
theorem J0_charAt_5068e_b0 {G : xG} {k : xK} {n0 : Nat} {Po : Int → xH → Prop} (C : CC G k cJ0_charAt_5068e RJ0 2 rm_J0_charAt_5068e) (E : CQ G k (some .char) rm_J0_charAt_5068e (fun r n1 h1 => ∃ z : Int, r = some (.int (iz z)) ∧ n1 = n0 ∧ Po z h1)) (x0 : Nat) (x1 : Int) (n : Nat) (h : xH) (hn0 : n = n0) (hy : x0 < 8 ∧ S_J0_isLatin1_aae02 G (kl k) x0 n h (fun z2 h3 => rg z2 ∧ ((z2 = 0 → x0 < 8 ∧ False) ∧ (¬ z2 = 0 → x0 < 8 ∧ S_J1_charAt_3b067 G (kl k) x0 x1 n h3 (fun z8 h9 => (0 ≤ z8 ∧ z8 ≤ 65535) ∧ Po z8 h9))))) : J0_charAt_5068e_w0 G k x0 x1 n h := by
  subst hn0
  refine ww_aload_n C 0 0 rfl rfl dJ0_charAt_5068e_0 ?_
  obtain ⟨p1, hy⟩ := hy
  refine cl_J0_492 C dJ0_charAt_5068e_1 (Nat.le_of_ble_eq_true rfl) ⟨by decide, by decide⟩ ⟨by decide, by decide⟩ p1 ?_
  refine S_J0_isLatin1_aae02.mono hy (fun z2 h3 hy => ?_)
  obtain ⟨p4, hy⟩ := hy
  refine ww_if_eq C (tg := 16) dJ0_charAt_5068e_4 (by decide) p4 (fun c5 => ?_) (fun c5 => ?_)
  · have hy := hy.1 c5
    refine ww_aload_n C 0 0 rfl rfl dJ0_charAt_5068e_16 ?_
    obtain ⟨p6, hy⟩ := hy
    refine ww_strVal C p6 q_2 dJ0_charAt_5068e_17 ?_
    refine ww_iload_n C 1 1 rfl rfl dJ0_charAt_5068e_20 ?_
    exact absurd hy id
  · have hy := hy.2 c5
    refine ww_aload_n C 0 0 rfl rfl dJ0_charAt_5068e_7 ?_
    obtain ⟨p7, hy⟩ := hy
    refine ww_strVal C p7 q_2 dJ0_charAt_5068e_8 ?_
    refine ww_iload_n C 1 1 rfl rfl dJ0_charAt_5068e_11 ?_
    refine cl_J0_495 C dJ0_charAt_5068e_12 (Nat.le_of_ble_eq_true rfl) ⟨by decide, by decide⟩ ⟨by decide, by decide⟩ ?_
    refine S_J1_charAt_3b067.mono hy (fun z8 h9 hy => ?_)
    obtain ⟨p10, hy⟩ := hy
    exact ww_zret C E dJ0_charAt_5068e_15 (nz_char p10.1 p10.2) (by decide) (by decide) ⟨_, rfl, rfl, hy⟩
abbrev J9_max_7cf53_w0 (G : xG) (k : xK) (x0 : Int) (x1 : Int) (n : Nat) (h : xH) : Prop := WW G k 2 0 0 0 [(0, .int (iz x0)), (1, .int (iz x1))] [] n h
abbrev J9_max_7cf53_w10 (G : xG) (k : xK) (s0 : Int) (n : Nat) (h : xH) : Prop := WW G k 2 0 0 10 [] [.int (iz s0)] n h
theorem S_J9_max_7cf53_of {G : xG} {l : Launch} {x0 : Int} {x1 : Int} {n : Nat} {h : xH} {Po : Int → xH → Prop} (body : ∀ k : xK, kl k = l → CC G k cJ9_max_7cf53 RJ9 2 rm_J9_max_7cf53 → CQ G k (some .int) rm_J9_max_7cf53 (fun r n1 h1 => ∃ z : Int, r = some (.int (iz z)) ∧ n1 = n ∧ Po z h1) → J9_max_7cf53_w0 G k x0 x1 n h) : S_J9_max_7cf53 G l x0 x1 n h Po := xS_ofF (by decide +kernel) (Nat.le_of_ble_eq_true rfl) rfl (fun k hl hnm C E => body k hl C E)
set_option maxRecDepth 100000 in
set_option maxHeartbeats 4000000 in
theorem J9_max_7cf53_b0 {G : xG} {k : xK} {n0 : Nat} {Po : Int → xH → Prop} (C : CC G k cJ9_max_7cf53 RJ9 2 rm_J9_max_7cf53) (E : CQ G k (some .int) rm_J9_max_7cf53 (fun r n1 h1 => ∃ z : Int, r = some (.int (iz z)) ∧ n1 = n0 ∧ Po z h1)) (x0 : Int) (x1 : Int) (n : Nat) (h : xH) (hn0 : n = n0) (hy : (rg x0 ∧ rg x1) ∧ ((x0 < x1 → J9_max_7cf53_w10 G k x1 n h) ∧ (¬ x0 < x1 → J9_max_7cf53_w10 G k x0 n h))) : J9_max_7cf53_w0 G k x0 x1 n h := by
  subst hn0
  refine ww_iload_n C 0 0 rfl rfl dJ9_max_7cf53_0 ?_
  refine ww_iload_n C 1 1 rfl rfl dJ9_max_7cf53_1 ?_
  obtain ⟨p1, hy⟩ := hy
  refine ww_icmp_lt C (tg := 9) dJ9_max_7cf53_2 (by decide) p1.1 p1.2 (fun c2 => ?_) (fun c2 => ?_)
  · have hy := hy.1 c2
    refine ww_iload_n C 1 1 rfl rfl dJ9_max_7cf53_9 ?_
    exact ww_sub [] rfl (by decide) (by decide) hy
  · have hy := hy.2 c2
    refine ww_iload_n C 0 0 rfl rfl dJ9_max_7cf53_5 ?_
    refine ww_goto C (tg := 10) dJ9_max_7cf53_6 (by decide) ?_
    exact ww_sub [] rfl (by decide) (by decide) hy
set_option maxRecDepth 100000 in
set_option maxHeartbeats 4000000 in
theorem J9_max_7cf53_b10 {G : xG} {k : xK} {n0 : Nat} {Po : Int → xH → Prop} (C : CC G k cJ9_max_7cf53 RJ9 2 rm_J9_max_7cf53) (E : CQ G k (some .int) rm_J9_max_7cf53 (fun r n1 h1 => ∃ z : Int, r = some (.int (iz z)) ∧ n1 = n0 ∧ Po z h1)) (s0 : Int) (n : Nat) (h : xH) (hn0 : n = n0) (hy : Po s0 h) : J9_max_7cf53_w10 G k s0 n h := by
  subst hn0
  exact ww_iret C E dJ9_max_7cf53_10 (by decide) (by decide) ⟨_, rfl, rfl, hy⟩
abbrev J6_numberOfLeadingZeros_0f7a4_w0 (G : xG) (k : xK) (x0 : Int) (n : Nat) (h : xH) : Prop := WW G k 2 0 0 0 [(0, .int (iz x0))] [] n h
abbrev J6_numberOfLeadingZeros_0f7a4_w33 (G : xG) (k : xK) (x0 : Int) (x1 : Int) (n : Nat) (h : xH) : Prop := WW G k 2 0 0 33 [(0, .int (iz x0)), (1, .int (iz x1))] [] n h
abbrev J6_numberOfLeadingZeros_0f7a4_w14 (G : xG) (k : xK) (s0 : Int) (n : Nat) (h : xH) : Prop := WW G k 2 0 0 14 [] [.int (iz s0)] n h
abbrev J6_numberOfLeadingZeros_0f7a4_w48 (G : xG) (k : xK) (x0 : Int) (x1 : Int) (n : Nat) (h : xH) : Prop := WW G k 2 0 0 48 [(0, .int (iz x0)), (1, .int (iz x1))] [] n h
abbrev J6_numberOfLeadingZeros_0f7a4_w61 (G : xG) (k : xK) (x0 : Int) (x1 : Int) (n : Nat) (h : xH) : Prop := WW G k 2 0 0 61 [(0, .int (iz x0)), (1, .int (iz x1))] [] n h
abbrev J6_numberOfLeadingZeros_0f7a4_w73 (G : xG) (k : xK) (x0 : Int) (x1 : Int) (n : Nat) (h : xH) : Prop := WW G k 2 0 0 73 [(0, .int (iz x0)), (1, .int (iz x1))] [] n h
theorem S_J6_numberOfLeadingZeros_0f7a4_of {G : xG} {l : Launch} {x0 : Int} {n : Nat} {h : xH} {Po : Int → xH → Prop} (body : ∀ k : xK, kl k = l → CC G k cJ6_numberOfLeadingZeros_0f7a4 RJ6 2 rm_J6_numberOfLeadingZeros_0f7a4 → CQ G k (some .int) rm_J6_numberOfLeadingZeros_0f7a4 (fun r n1 h1 => ∃ z : Int, r = some (.int (iz z)) ∧ n1 = n ∧ Po z h1) → J6_numberOfLeadingZeros_0f7a4_w0 G k x0 n h) : S_J6_numberOfLeadingZeros_0f7a4 G l x0 n h Po := xS_of (by decide +kernel) (Nat.le_of_ble_eq_true rfl) rfl (fun k hl hnm C E => body k hl C E)
set_option maxRecDepth 100000 in
set_option maxHeartbeats 4000000 in
theorem J6_numberOfLeadingZeros_0f7a4_b0 {G : xG} {k : xK} {n0 : Nat} {Po : Int → xH → Prop} (C : CC G k cJ6_numberOfLeadingZeros_0f7a4 RJ6 2 rm_J6_numberOfLeadingZeros_0f7a4) (E : CQ G k (some .int) rm_J6_numberOfLeadingZeros_0f7a4 (fun r n1 h1 => ∃ z : Int, r = some (.int (iz z)) ∧ n1 = n0 ∧ Po z h1)) (x0 : Int) (n : Nat) (h : xH) (hn0 : n = n0) (hy : rg x0 ∧ ((0 < x0 → (rg x0 ∧ rg (65536 : Int)) ∧ ((x0 < (65536 : Int) → J6_numberOfLeadingZeros_0f7a4_w33 G k x0 31 n h) ∧ (¬ x0 < (65536 : Int) → J6_numberOfLeadingZeros_0f7a4_w33 G k (iSu x0 16) (31 + (-16)) n h))) ∧ (¬ 0 < x0 → rg x0 ∧ ((¬ x0 = 0 → J6_numberOfLeadingZeros_0f7a4_w14 G k 0 n h) ∧ (x0 = 0 → J6_numberOfLeadingZeros_0f7a4_w14 G k 32 n h))))) : J6_numberOfLeadingZeros_0f7a4_w0 G k x0 n h := by
  subst hn0
  refine ww_iload_n C 0 0 rfl rfl dJ6_numberOfLeadingZeros_0f7a4_0 ?_
  obtain ⟨p1, hy⟩ := hy
  refine ww_if_gt C (tg := 15) dJ6_numberOfLeadingZeros_0f7a4_1 (by decide) p1 (fun c2 => ?_) (fun c2 => ?_)
  · have hy := hy.1 c2
    refine ww_bipush C (z := 31) dJ6_numberOfLeadingZeros_0f7a4_15 rfl ?_
    refine ww_istore_n C 1 rfl (by decide) rfl dJ6_numberOfLeadingZeros_0f7a4_17 ?_
    refine ww_iload_n C 0 1 rfl rfl dJ6_numberOfLeadingZeros_0f7a4_18 ?_
    refine ww_ldcw C (z := 65536) q_24 dJ6_numberOfLeadingZeros_0f7a4_19 ?_
    obtain ⟨p3, hy⟩ := hy
    refine ww_icmp_lt C (tg := 33) dJ6_numberOfLeadingZeros_0f7a4_22 (by decide) p3.1 p3.2 (fun c4 => ?_) (fun c4 => ?_)
    · have hy := hy.1 c4
      exact ww_sub [1, 0] rfl (by decide) (by decide) hy
    · have hy := hy.2 c4
      refine ww_iinc C 1 0 rfl (by decide) rfl dJ6_numberOfLeadingZeros_0f7a4_25 ?_
      refine ww_iload_n C 0 1 rfl rfl dJ6_numberOfLeadingZeros_0f7a4_28 ?_
      refine ww_bipush C (z := 16) dJ6_numberOfLeadingZeros_0f7a4_29 rfl ?_
      refine ww_iushr C dJ6_numberOfLeadingZeros_0f7a4_31 ?_
      refine ww_istore_n C 0 rfl (by decide) rfl dJ6_numberOfLeadingZeros_0f7a4_32 ?_
      exact ww_sub [0, 1] rfl (by decide) (by decide) hy
  · have hy := hy.2 c2
    refine ww_iload_n C 0 0 rfl rfl dJ6_numberOfLeadingZeros_0f7a4_4 ?_
    obtain ⟨p5, hy⟩ := hy
    refine ww_if_ne C (tg := 13) dJ6_numberOfLeadingZeros_0f7a4_5 (by decide) p5 (fun c6 => ?_) (fun c6 => ?_)
    · have hy := hy.1 c6
      refine ww_iconst C (z := 0) dJ6_numberOfLeadingZeros_0f7a4_13 rfl ?_
      exact ww_sub [] rfl (by decide) (by decide) hy
    · have hy := hy.2 c6
      refine ww_bipush C (z := 32) dJ6_numberOfLeadingZeros_0f7a4_8 rfl ?_
      refine ww_goto C (tg := 14) dJ6_numberOfLeadingZeros_0f7a4_10 (by decide) ?_
      exact ww_sub [] rfl (by decide) (by decide) hy
set_option maxRecDepth 100000 in
set_option maxHeartbeats 4000000 in
theorem J6_numberOfLeadingZeros_0f7a4_b33 {G : xG} {k : xK} {n0 : Nat} {Po : Int → xH → Prop} (C : CC G k cJ6_numberOfLeadingZeros_0f7a4 RJ6 2 rm_J6_numberOfLeadingZeros_0f7a4) (E : CQ G k (some .int) rm_J6_numberOfLeadingZeros_0f7a4 (fun r n1 h1 => ∃ z : Int, r = some (.int (iz z)) ∧ n1 = n0 ∧ Po z h1)) (x0 : Int) (x1 : Int) (n : Nat) (h : xH) (hn0 : n = n0) (hy : (rg x0 ∧ rg (256 : Int)) ∧ ((x0 < (256 : Int) → J6_numberOfLeadingZeros_0f7a4_w48 G k x0 x1 n h) ∧ (¬ x0 < (256 : Int) → J6_numberOfLeadingZeros_0f7a4_w48 G k (iSu x0 8) (x1 + (-8)) n h))) : J6_numberOfLeadingZeros_0f7a4_w33 G k x0 x1 n h := by
  subst hn0
  refine ww_iload_n C 0 0 rfl rfl dJ6_numberOfLeadingZeros_0f7a4_33 ?_
  refine ww_sipush C (z := 256) dJ6_numberOfLeadingZeros_0f7a4_34 rfl ?_
  obtain ⟨p1, hy⟩ := hy
  refine ww_icmp_lt C (tg := 48) dJ6_numberOfLeadingZeros_0f7a4_37 (by decide) p1.1 p1.2 (fun c2 => ?_) (fun c2 => ?_)
  · have hy := hy.1 c2
    exact ww_sub [0, 1] rfl (by decide) (by decide) hy
  · have hy := hy.2 c2
    refine ww_iinc C 1 1 rfl (by decide) rfl dJ6_numberOfLeadingZeros_0f7a4_40 ?_
    refine ww_iload_n C 0 1 rfl rfl dJ6_numberOfLeadingZeros_0f7a4_43 ?_
    refine ww_bipush C (z := 8) dJ6_numberOfLeadingZeros_0f7a4_44 rfl ?_
    refine ww_iushr C dJ6_numberOfLeadingZeros_0f7a4_46 ?_
    refine ww_istore_n C 0 rfl (by decide) rfl dJ6_numberOfLeadingZeros_0f7a4_47 ?_
    exact ww_sub [0, 1] rfl (by decide) (by decide) hy
set_option maxRecDepth 100000 in
set_option maxHeartbeats 4000000 in
theorem J6_numberOfLeadingZeros_0f7a4_b14 {G : xG} {k : xK} {n0 : Nat} {Po : Int → xH → Prop} (C : CC G k cJ6_numberOfLeadingZeros_0f7a4 RJ6 2 rm_J6_numberOfLeadingZeros_0f7a4) (E : CQ G k (some .int) rm_J6_numberOfLeadingZeros_0f7a4 (fun r n1 h1 => ∃ z : Int, r = some (.int (iz z)) ∧ n1 = n0 ∧ Po z h1)) (s0 : Int) (n : Nat) (h : xH) (hn0 : n = n0) (hy : Po s0 h) : J6_numberOfLeadingZeros_0f7a4_w14 G k s0 n h := by
  subst hn0
  exact ww_iret C E dJ6_numberOfLeadingZeros_0f7a4_14 (by decide) (by decide) ⟨_, rfl, rfl, hy⟩
set_option maxRecDepth 100000 in
set_option maxHeartbeats 4000000 in
theorem J6_numberOfLeadingZeros_0f7a4_b48 {G : xG} {k : xK} {n0 : Nat} {Po : Int → xH → Prop} (C : CC G k cJ6_numberOfLeadingZeros_0f7a4 RJ6 2 rm_J6_numberOfLeadingZeros_0f7a4) (E : CQ G k (some .int) rm_J6_numberOfLeadingZeros_0f7a4 (fun r n1 h1 => ∃ z : Int, r = some (.int (iz z)) ∧ n1 = n0 ∧ Po z h1)) (x0 : Int) (x1 : Int) (n : Nat) (h : xH) (hn0 : n = n0) (hy : (rg x0 ∧ rg (16 : Int)) ∧ ((x0 < (16 : Int) → J6_numberOfLeadingZeros_0f7a4_w61 G k x0 x1 n h) ∧ (¬ x0 < (16 : Int) → J6_numberOfLeadingZeros_0f7a4_w61 G k (iSu x0 4) (x1 + (-4)) n h))) : J6_numberOfLeadingZeros_0f7a4_w48 G k x0 x1 n h := by
  subst hn0
  refine ww_iload_n C 0 0 rfl rfl dJ6_numberOfLeadingZeros_0f7a4_48 ?_
  refine ww_bipush C (z := 16) dJ6_numberOfLeadingZeros_0f7a4_49 rfl ?_
  obtain ⟨p1, hy⟩ := hy
  refine ww_icmp_lt C (tg := 61) dJ6_numberOfLeadingZeros_0f7a4_51 (by decide) p1.1 p1.2 (fun c2 => ?_) (fun c2 => ?_)
  · have hy := hy.1 c2
    exact ww_sub [0, 1] rfl (by decide) (by decide) hy
  · have hy := hy.2 c2
    refine ww_iinc C 1 1 rfl (by decide) rfl dJ6_numberOfLeadingZeros_0f7a4_54 ?_
    refine ww_iload_n C 0 1 rfl rfl dJ6_numberOfLeadingZeros_0f7a4_57 ?_
    refine ww_iconst C (z := 4) dJ6_numberOfLeadingZeros_0f7a4_58 rfl ?_
    refine ww_iushr C dJ6_numberOfLeadingZeros_0f7a4_59 ?_
    refine ww_istore_n C 0 rfl (by decide) rfl dJ6_numberOfLeadingZeros_0f7a4_60 ?_
    exact ww_sub [0, 1] rfl (by decide) (by decide) hy
set_option maxRecDepth 100000 in
set_option maxHeartbeats 4000000 in
theorem J6_numberOfLeadingZeros_0f7a4_b61 {G : xG} {k : xK} {n0 : Nat} {Po : Int → xH → Prop} (C : CC G k cJ6_numberOfLeadingZeros_0f7a4 RJ6 2 rm_J6_numberOfLeadingZeros_0f7a4) (E : CQ G k (some .int) rm_J6_numberOfLeadingZeros_0f7a4 (fun r n1 h1 => ∃ z : Int, r = some (.int (iz z)) ∧ n1 = n0 ∧ Po z h1)) (x0 : Int) (x1 : Int) (n : Nat) (h : xH) (hn0 : n = n0) (hy : (rg x0 ∧ rg (4 : Int)) ∧ ((x0 < (4 : Int) → J6_numberOfLeadingZeros_0f7a4_w73 G k x0 x1 n h) ∧ (¬ x0 < (4 : Int) → J6_numberOfLeadingZeros_0f7a4_w73 G k (iSu x0 2) (x1 + (-2)) n h))) : J6_numberOfLeadingZeros_0f7a4_w61 G k x0 x1 n h := by
  subst hn0
  refine ww_iload_n C 0 0 rfl rfl dJ6_numberOfLeadingZeros_0f7a4_61 ?_
  refine ww_iconst C (z := 4) dJ6_numberOfLeadingZeros_0f7a4_62 rfl ?_
  obtain ⟨p1, hy⟩ := hy
  refine ww_icmp_lt C (tg := 73) dJ6_numberOfLeadingZeros_0f7a4_63 (by decide) p1.1 p1.2 (fun c2 => ?_) (fun c2 => ?_)
  · have hy := hy.1 c2
    exact ww_sub [0, 1] rfl (by decide) (by decide) hy
  · have hy := hy.2 c2
    refine ww_iinc C 1 1 rfl (by decide) rfl dJ6_numberOfLeadingZeros_0f7a4_66 ?_
    refine ww_iload_n C 0 1 rfl rfl dJ6_numberOfLeadingZeros_0f7a4_69 ?_
    refine ww_iconst C (z := 2) dJ6_numberOfLeadingZeros_0f7a4_70 rfl ?_
    refine ww_iushr C dJ6_numberOfLeadingZeros_0f7a4_71 ?_
    refine ww_istore_n C 0 rfl (by decide) rfl dJ6_numberOfLeadingZeros_0f7a4_72 ?_
    exact ww_sub [0, 1] rfl (by decide) (by decide) hy
set_option maxRecDepth 100000 in
set_option maxHeartbeats 4000000 in
theorem J6_numberOfLeadingZeros_0f7a4_b73 {G : xG} {k : xK} {n0 : Nat} {Po : Int → xH → Prop} (C : CC G k cJ6_numberOfLeadingZeros_0f7a4 RJ6 2 rm_J6_numberOfLeadingZeros_0f7a4) (E : CQ G k (some .int) rm_J6_numberOfLeadingZeros_0f7a4 (fun r n1 h1 => ∃ z : Int, r = some (.int (iz z)) ∧ n1 = n0 ∧ Po z h1)) (x0 : Int) (x1 : Int) (n : Nat) (h : xH) (hn0 : n = n0) (hy : Po (x1 - (iSu x0 1)) h) : J6_numberOfLeadingZeros_0f7a4_w73 G k x0 x1 n h := by
  subst hn0
  refine ww_iload_n C 1 1 rfl rfl dJ6_numberOfLeadingZeros_0f7a4_73 ?_
  refine ww_iload_n C 0 0 rfl rfl dJ6_numberOfLeadingZeros_0f7a4_74 ?_
  refine ww_iconst C (z := 1) dJ6_numberOfLeadingZeros_0f7a4_75 rfl ?_
  refine ww_iushr C dJ6_numberOfLeadingZeros_0f7a4_76 ?_
  refine ww_isub C dJ6_numberOfLeadingZeros_0f7a4_77 ?_
  exact ww_iret C E dJ6_numberOfLeadingZeros_0f7a4_78 (by decide) (by decide) ⟨_, rfl, rfl, hy⟩
abbrev J6_numberOfTrailingZeros_0f7a4_w0 (G : xG) (k : xK) (x0 : Int) (n : Nat) (h : xH) : Prop := WW G k 2 0 0 0 [(0, .int (iz x0))] [] n h
abbrev J6_numberOfTrailingZeros_0f7a4_w34 (G : xG) (k : xK) (x0 : Int) (x1 : Int) (n : Nat) (h : xH) : Prop := WW G k 2 0 0 34 [(0, .int (iz x0)), (1, .int (iz x1))] [] n h
abbrev J6_numberOfTrailingZeros_0f7a4_w49 (G : xG) (k : xK) (x0 : Int) (x1 : Int) (n : Nat) (h : xH) : Prop := WW G k 2 0 0 49 [(0, .int (iz x0)), (1, .int (iz x1))] [] n h
abbrev J6_numberOfTrailingZeros_0f7a4_w62 (G : xG) (k : xK) (x0 : Int) (x1 : Int) (n : Nat) (h : xH) : Prop := WW G k 2 0 0 62 [(0, .int (iz x0)), (1, .int (iz x1))] [] n h
abbrev J6_numberOfTrailingZeros_0f7a4_w74 (G : xG) (k : xK) (x0 : Int) (x1 : Int) (n : Nat) (h : xH) : Prop := WW G k 2 0 0 74 [(0, .int (iz x0)), (1, .int (iz x1))] [] n h
theorem S_J6_numberOfTrailingZeros_0f7a4_of {G : xG} {l : Launch} {x0 : Int} {n : Nat} {h : xH} {Po : Int → xH → Prop} (body : ∀ k : xK, kl k = l → CC G k cJ6_numberOfTrailingZeros_0f7a4 RJ6 2 rm_J6_numberOfTrailingZeros_0f7a4 → CQ G k (some .int) rm_J6_numberOfTrailingZeros_0f7a4 (fun r n1 h1 => ∃ z : Int, r = some (.int (iz z)) ∧ n1 = n ∧ Po z h1) → J6_numberOfTrailingZeros_0f7a4_w0 G k x0 n h) : S_J6_numberOfTrailingZeros_0f7a4 G l x0 n h Po := xS_of (by decide +kernel) (Nat.le_of_ble_eq_true rfl) rfl (fun k hl hnm C E => body k hl C E)
set_option maxRecDepth 100000 in
set_option maxHeartbeats 4000000 in
theorem J6_numberOfTrailingZeros_0f7a4_b0 {G : xG} {k : xK} {n0 : Nat} {Po : Int → xH → Prop} (C : CC G k cJ6_numberOfTrailingZeros_0f7a4 RJ6 2 rm_J6_numberOfTrailingZeros_0f7a4) (E : CQ G k (some .int) rm_J6_numberOfTrailingZeros_0f7a4 (fun r n1 h1 => ∃ z : Int, r = some (.int (iz z)) ∧ n1 = n0 ∧ Po z h1)) (x0 : Int) (n : Nat) (h : xH) (hn0 : n = n0) (hy : rg (iA (iX x0 (-1)) (w32 (x0 - 1))) ∧ ((0 < (iA (iX x0 (-1)) (w32 (x0 - 1))) → (rg (iA (iX x0 (-1)) (w32 (x0 - 1))) ∧ rg (65536 : Int)) ∧ (((iA (iX x0 (-1)) (w32 (x0 - 1))) ≤ (65536 : Int) → J6_numberOfTrailingZeros_0f7a4_w34 G k (iA (iX x0 (-1)) (w32 (x0 - 1))) 1 n h) ∧ (¬ (iA (iX x0 (-1)) (w32 (x0 - 1))) ≤ (65536 : Int) → J6_numberOfTrailingZeros_0f7a4_w34 G k (iSu (iA (iX x0 (-1)) (w32 (x0 - 1))) 16) (1 + 16) n h))) ∧ (¬ 0 < (iA (iX x0 (-1)) (w32 (x0 - 1))) → Po (iA (iA (iX x0 (-1)) (w32 (x0 - 1))) 32) h))) : J6_numberOfTrailingZeros_0f7a4_w0 G k x0 n h := by
  subst hn0
  refine ww_iload_n C 0 0 rfl rfl dJ6_numberOfTrailingZeros_0f7a4_0 ?_
  refine ww_iconst C (z := (-1)) dJ6_numberOfTrailingZeros_0f7a4_1 rfl ?_
  refine ww_ixor C dJ6_numberOfTrailingZeros_0f7a4_2 ?_
  refine ww_iload_n C 0 0 rfl rfl dJ6_numberOfTrailingZeros_0f7a4_3 ?_
  refine ww_iconst C (z := 1) dJ6_numberOfTrailingZeros_0f7a4_4 rfl ?_
  refine ww_isub C dJ6_numberOfTrailingZeros_0f7a4_5 ?_
  refine ww_w32 ?_
  refine ww_iand C dJ6_numberOfTrailingZeros_0f7a4_6 ?_
  refine ww_istore_n C 0 rfl (by decide) rfl dJ6_numberOfTrailingZeros_0f7a4_7 ?_
  refine ww_iload_n C 0 0 rfl rfl dJ6_numberOfTrailingZeros_0f7a4_8 ?_
  obtain ⟨p1, hy⟩ := hy
  refine ww_if_gt C (tg := 17) dJ6_numberOfTrailingZeros_0f7a4_9 (by decide) p1 (fun c2 => ?_) (fun c2 => ?_)
  · have hy := hy.1 c2
    refine ww_iconst C (z := 1) dJ6_numberOfTrailingZeros_0f7a4_17 rfl ?_
    refine ww_istore_n C 1 rfl (by decide) rfl dJ6_numberOfTrailingZeros_0f7a4_18 ?_
    refine ww_iload_n C 0 1 rfl rfl dJ6_numberOfTrailingZeros_0f7a4_19 ?_
    refine ww_ldcw C (z := 65536) q_24 dJ6_numberOfTrailingZeros_0f7a4_20 ?_
    obtain ⟨p3, hy⟩ := hy
    refine ww_icmp_le C (tg := 34) dJ6_numberOfTrailingZeros_0f7a4_23 (by decide) p3.1 p3.2 (fun c4 => ?_) (fun c4 => ?_)
    · have hy := hy.1 c4
      exact ww_sub [1, 0] rfl (by decide) (by decide) hy
    · have hy := hy.2 c4
      refine ww_iinc C 1 0 rfl (by decide) rfl dJ6_numberOfTrailingZeros_0f7a4_26 ?_
      refine ww_iload_n C 0 1 rfl rfl dJ6_numberOfTrailingZeros_0f7a4_29 ?_
      refine ww_bipush C (z := 16) dJ6_numberOfTrailingZeros_0f7a4_30 rfl ?_
      refine ww_iushr C dJ6_numberOfTrailingZeros_0f7a4_32 ?_
      refine ww_istore_n C 0 rfl (by decide) rfl dJ6_numberOfTrailingZeros_0f7a4_33 ?_
      exact ww_sub [0, 1] rfl (by decide) (by decide) hy
  · have hy := hy.2 c2
    refine ww_iload_n C 0 0 rfl rfl dJ6_numberOfTrailingZeros_0f7a4_12 ?_
    refine ww_bipush C (z := 32) dJ6_numberOfTrailingZeros_0f7a4_13 rfl ?_
    refine ww_iand C dJ6_numberOfTrailingZeros_0f7a4_15 ?_
    exact ww_iret C E dJ6_numberOfTrailingZeros_0f7a4_16 (by decide) (by decide) ⟨_, rfl, rfl, hy⟩
set_option maxRecDepth 100000 in
set_option maxHeartbeats 4000000 in
theorem J6_numberOfTrailingZeros_0f7a4_b34 {G : xG} {k : xK} {n0 : Nat} {Po : Int → xH → Prop} (C : CC G k cJ6_numberOfTrailingZeros_0f7a4 RJ6 2 rm_J6_numberOfTrailingZeros_0f7a4) (E : CQ G k (some .int) rm_J6_numberOfTrailingZeros_0f7a4 (fun r n1 h1 => ∃ z : Int, r = some (.int (iz z)) ∧ n1 = n0 ∧ Po z h1)) (x0 : Int) (x1 : Int) (n : Nat) (h : xH) (hn0 : n = n0) (hy : (rg x0 ∧ rg (256 : Int)) ∧ ((x0 ≤ (256 : Int) → J6_numberOfTrailingZeros_0f7a4_w49 G k x0 x1 n h) ∧ (¬ x0 ≤ (256 : Int) → J6_numberOfTrailingZeros_0f7a4_w49 G k (iSu x0 8) (x1 + 8) n h))) : J6_numberOfTrailingZeros_0f7a4_w34 G k x0 x1 n h := by
  subst hn0
  refine ww_iload_n C 0 0 rfl rfl dJ6_numberOfTrailingZeros_0f7a4_34 ?_
  refine ww_sipush C (z := 256) dJ6_numberOfTrailingZeros_0f7a4_35 rfl ?_
  obtain ⟨p1, hy⟩ := hy
  refine ww_icmp_le C (tg := 49) dJ6_numberOfTrailingZeros_0f7a4_38 (by decide) p1.1 p1.2 (fun c2 => ?_) (fun c2 => ?_)
  · have hy := hy.1 c2
    exact ww_sub [0, 1] rfl (by decide) (by decide) hy
  · have hy := hy.2 c2
    refine ww_iinc C 1 1 rfl (by decide) rfl dJ6_numberOfTrailingZeros_0f7a4_41 ?_
    refine ww_iload_n C 0 1 rfl rfl dJ6_numberOfTrailingZeros_0f7a4_44 ?_
    refine ww_bipush C (z := 8) dJ6_numberOfTrailingZeros_0f7a4_45 rfl ?_
    refine ww_iushr C dJ6_numberOfTrailingZeros_0f7a4_47 ?_
    refine ww_istore_n C 0 rfl (by decide) rfl dJ6_numberOfTrailingZeros_0f7a4_48 ?_
    exact ww_sub [0, 1] rfl (by decide) (by decide) hy
set_option maxRecDepth 100000 in
set_option maxHeartbeats 4000000 in
theorem J6_numberOfTrailingZeros_0f7a4_b49 {G : xG} {k : xK} {n0 : Nat} {Po : Int → xH → Prop} (C : CC G k cJ6_numberOfTrailingZeros_0f7a4 RJ6 2 rm_J6_numberOfTrailingZeros_0f7a4) (E : CQ G k (some .int) rm_J6_numberOfTrailingZeros_0f7a4 (fun r n1 h1 => ∃ z : Int, r = some (.int (iz z)) ∧ n1 = n0 ∧ Po z h1)) (x0 : Int) (x1 : Int) (n : Nat) (h : xH) (hn0 : n = n0) (hy : (rg x0 ∧ rg (16 : Int)) ∧ ((x0 ≤ (16 : Int) → J6_numberOfTrailingZeros_0f7a4_w62 G k x0 x1 n h) ∧ (¬ x0 ≤ (16 : Int) → J6_numberOfTrailingZeros_0f7a4_w62 G k (iSu x0 4) (x1 + 4) n h))) : J6_numberOfTrailingZeros_0f7a4_w49 G k x0 x1 n h := by
  subst hn0
  refine ww_iload_n C 0 0 rfl rfl dJ6_numberOfTrailingZeros_0f7a4_49 ?_
  refine ww_bipush C (z := 16) dJ6_numberOfTrailingZeros_0f7a4_50 rfl ?_
  obtain ⟨p1, hy⟩ := hy
  refine ww_icmp_le C (tg := 62) dJ6_numberOfTrailingZeros_0f7a4_52 (by decide) p1.1 p1.2 (fun c2 => ?_) (fun c2 => ?_)
  · have hy := hy.1 c2
    exact ww_sub [0, 1] rfl (by decide) (by decide) hy
  · have hy := hy.2 c2
    refine ww_iinc C 1 1 rfl (by decide) rfl dJ6_numberOfTrailingZeros_0f7a4_55 ?_
    refine ww_iload_n C 0 1 rfl rfl dJ6_numberOfTrailingZeros_0f7a4_58 ?_
    refine ww_iconst C (z := 4) dJ6_numberOfTrailingZeros_0f7a4_59 rfl ?_
    refine ww_iushr C dJ6_numberOfTrailingZeros_0f7a4_60 ?_
    refine ww_istore_n C 0 rfl (by decide) rfl dJ6_numberOfTrailingZeros_0f7a4_61 ?_
    exact ww_sub [0, 1] rfl (by decide) (by decide) hy
set_option maxRecDepth 100000 in
set_option maxHeartbeats 4000000 in
theorem J6_numberOfTrailingZeros_0f7a4_b62 {G : xG} {k : xK} {n0 : Nat} {Po : Int → xH → Prop} (C : CC G k cJ6_numberOfTrailingZeros_0f7a4 RJ6 2 rm_J6_numberOfTrailingZeros_0f7a4) (E : CQ G k (some .int) rm_J6_numberOfTrailingZeros_0f7a4 (fun r n1 h1 => ∃ z : Int, r = some (.int (iz z)) ∧ n1 = n0 ∧ Po z h1)) (x0 : Int) (x1 : Int) (n : Nat) (h : xH) (hn0 : n = n0) (hy : (rg x0 ∧ rg (4 : Int)) ∧ ((x0 ≤ (4 : Int) → J6_numberOfTrailingZeros_0f7a4_w74 G k x0 x1 n h) ∧ (¬ x0 ≤ (4 : Int) → J6_numberOfTrailingZeros_0f7a4_w74 G k (iSu x0 2) (x1 + 2) n h))) : J6_numberOfTrailingZeros_0f7a4_w62 G k x0 x1 n h := by
  subst hn0
  refine ww_iload_n C 0 0 rfl rfl dJ6_numberOfTrailingZeros_0f7a4_62 ?_
  refine ww_iconst C (z := 4) dJ6_numberOfTrailingZeros_0f7a4_63 rfl ?_
  obtain ⟨p1, hy⟩ := hy
  refine ww_icmp_le C (tg := 74) dJ6_numberOfTrailingZeros_0f7a4_64 (by decide) p1.1 p1.2 (fun c2 => ?_) (fun c2 => ?_)
  · have hy := hy.1 c2
    exact ww_sub [0, 1] rfl (by decide) (by decide) hy
  · have hy := hy.2 c2
    refine ww_iinc C 1 1 rfl (by decide) rfl dJ6_numberOfTrailingZeros_0f7a4_67 ?_
    refine ww_iload_n C 0 1 rfl rfl dJ6_numberOfTrailingZeros_0f7a4_70 ?_
    refine ww_iconst C (z := 2) dJ6_numberOfTrailingZeros_0f7a4_71 rfl ?_
    refine ww_iushr C dJ6_numberOfTrailingZeros_0f7a4_72 ?_
    refine ww_istore_n C 0 rfl (by decide) rfl dJ6_numberOfTrailingZeros_0f7a4_73 ?_
    exact ww_sub [0, 1] rfl (by decide) (by decide) hy
set_option maxRecDepth 100000 in
set_option maxHeartbeats 4000000 in
theorem J6_numberOfTrailingZeros_0f7a4_b74 {G : xG} {k : xK} {n0 : Nat} {Po : Int → xH → Prop} (C : CC G k cJ6_numberOfTrailingZeros_0f7a4 RJ6 2 rm_J6_numberOfTrailingZeros_0f7a4) (E : CQ G k (some .int) rm_J6_numberOfTrailingZeros_0f7a4 (fun r n1 h1 => ∃ z : Int, r = some (.int (iz z)) ∧ n1 = n0 ∧ Po z h1)) (x0 : Int) (x1 : Int) (n : Nat) (h : xH) (hn0 : n = n0) (hy : Po (x1 + (iSu x0 1)) h) : J6_numberOfTrailingZeros_0f7a4_w74 G k x0 x1 n h := by
  subst hn0
  refine ww_iload_n C 1 1 rfl rfl dJ6_numberOfTrailingZeros_0f7a4_74 ?_
  refine ww_iload_n C 0 0 rfl rfl dJ6_numberOfTrailingZeros_0f7a4_75 ?_
  refine ww_iconst C (z := 1) dJ6_numberOfTrailingZeros_0f7a4_76 rfl ?_
  refine ww_iushr C dJ6_numberOfTrailingZeros_0f7a4_77 ?_
  refine ww_iadd C dJ6_numberOfTrailingZeros_0f7a4_78 ?_
  exact ww_iret C E dJ6_numberOfTrailingZeros_0f7a4_79 (by decide) (by decide) ⟨_, rfl, rfl, hy⟩
abbrev J6_compare_7cf53_w0 (G : xG) (k : xK) (x0 : Int) (x1 : Int) (n : Nat) (h : xH) : Prop := WW G k 2 0 0 0 [(0, .int (iz x0)), (1, .int (iz x1))] [] n h
abbrev J6_compare_7cf53_w19 (G : xG) (k : xK) (s0 : Int) (n : Nat) (h : xH) : Prop := WW G k 2 0 0 19 [] [.int (iz s0)] n h
theorem S_J6_compare_7cf53_of {G : xG} {l : Launch} {x0 : Int} {x1 : Int} {n : Nat} {h : xH} {Po : Int → xH → Prop} (body : ∀ k : xK, kl k = l → CC G k cJ6_compare_7cf53 RJ6 2 rm_J6_compare_7cf53 → CQ G k (some .int) rm_J6_compare_7cf53 (fun r n1 h1 => ∃ z : Int, r = some (.int (iz z)) ∧ n1 = n ∧ Po z h1) → J6_compare_7cf53_w0 G k x0 x1 n h) : S_J6_compare_7cf53 G l x0 x1 n h Po := xS_of (by decide +kernel) (Nat.le_of_ble_eq_true rfl) rfl (fun k hl hnm C E => body k hl C E)
set_option maxRecDepth 100000 in
set_option maxHeartbeats 4000000 in
theorem J6_compare_7cf53_b0 {G : xG} {k : xK} {n0 : Nat} {Po : Int → xH → Prop} (C : CC G k cJ6_compare_7cf53 RJ6 2 rm_J6_compare_7cf53) (E : CQ G k (some .int) rm_J6_compare_7cf53 (fun r n1 h1 => ∃ z : Int, r = some (.int (iz z)) ∧ n1 = n0 ∧ Po z h1)) (x0 : Int) (x1 : Int) (n : Nat) (h : xH) (hn0 : n = n0) (hy : (rg x0 ∧ rg x1) ∧ ((x1 ≤ x0 → (rg x0 ∧ rg x1) ∧ ((¬ x0 = x1 → J6_compare_7cf53_w19 G k 1 n h) ∧ (x0 = x1 → J6_compare_7cf53_w19 G k 0 n h))) ∧ (¬ x1 ≤ x0 → J6_compare_7cf53_w19 G k (-1) n h))) : J6_compare_7cf53_w0 G k x0 x1 n h := by
  subst hn0
  refine ww_iload_n C 0 0 rfl rfl dJ6_compare_7cf53_0 ?_
  refine ww_iload_n C 1 1 rfl rfl dJ6_compare_7cf53_1 ?_
  obtain ⟨p1, hy⟩ := hy
  refine ww_icmp_ge C (tg := 9) dJ6_compare_7cf53_2 (by decide) p1.1 p1.2 (fun c2 => ?_) (fun c2 => ?_)
  · have hy := hy.1 c2
    refine ww_iload_n C 0 0 rfl rfl dJ6_compare_7cf53_9 ?_
    refine ww_iload_n C 1 1 rfl rfl dJ6_compare_7cf53_10 ?_
    obtain ⟨p3, hy⟩ := hy
    refine ww_icmp_ne C (tg := 18) dJ6_compare_7cf53_11 (by decide) p3.1 p3.2 (fun c4 => ?_) (fun c4 => ?_)
    · have hy := hy.1 c4
      refine ww_iconst C (z := 1) dJ6_compare_7cf53_18 rfl ?_
      exact ww_sub [] rfl (by decide) (by decide) hy
    · have hy := hy.2 c4
      refine ww_iconst C (z := 0) dJ6_compare_7cf53_14 rfl ?_
      refine ww_goto C (tg := 19) dJ6_compare_7cf53_15 (by decide) ?_
      exact ww_sub [] rfl (by decide) (by decide) hy
  · have hy := hy.2 c2
    refine ww_iconst C (z := (-1)) dJ6_compare_7cf53_5 rfl ?_
    refine ww_goto C (tg := 19) dJ6_compare_7cf53_6 (by decide) ?_
    exact ww_sub [] rfl (by decide) (by decide) hy
set_option maxRecDepth 100000 in
set_option maxHeartbeats 4000000 in
theorem J6_compare_7cf53_b19 {G : xG} {k : xK} {n0 : Nat} {Po : Int → xH → Prop} (C : CC G k cJ6_compare_7cf53 RJ6 2 rm_J6_compare_7cf53) (E : CQ G k (some .int) rm_J6_compare_7cf53 (fun r n1 h1 => ∃ z : Int, r = some (.int (iz z)) ∧ n1 = n0 ∧ Po z h1)) (s0 : Int) (n : Nat) (h : xH) (hn0 : n = n0) (hy : Po s0 h) : J6_compare_7cf53_w19 G k s0 n h := by
  subst hn0
  exact ww_iret C E dJ6_compare_7cf53_19 (by decide) (by decide) ⟨_, rfl, rfl, hy⟩
abbrev J6_compareUnsigned_7cf53_w0 (G : xG) (k : xK) (x0 : Int) (x1 : Int) (n : Nat) (h : xH) : Prop := WW G k 2 0 0 0 [(0, .int (iz x0)), (1, .int (iz x1))] [] n h
theorem S_J6_compareUnsigned_7cf53_of {G : xG} {l : Launch} {x0 : Int} {x1 : Int} {n : Nat} {h : xH} {Po : Int → xH → Prop} (body : ∀ k : xK, kl k = l → CC G k cJ6_compareUnsigned_7cf53 RJ6 2 rm_J6_compareUnsigned_7cf53 → CQ G k (some .int) rm_J6_compareUnsigned_7cf53 (fun r n1 h1 => ∃ z : Int, r = some (.int (iz z)) ∧ n1 = n ∧ Po z h1) → J6_compareUnsigned_7cf53_w0 G k x0 x1 n h) : S_J6_compareUnsigned_7cf53 G l x0 x1 n h Po := xS_of (by decide +kernel) (Nat.le_of_ble_eq_true rfl) rfl (fun k hl hnm C E => body k hl C E)
set_option maxRecDepth 100000 in
set_option maxHeartbeats 4000000 in
theorem J6_compareUnsigned_7cf53_b0 {G : xG} {k : xK} {n0 : Nat} {Po : Int → xH → Prop} (C : CC G k cJ6_compareUnsigned_7cf53 RJ6 2 rm_J6_compareUnsigned_7cf53) (E : CQ G k (some .int) rm_J6_compareUnsigned_7cf53 (fun r n1 h1 => ∃ z : Int, r = some (.int (iz z)) ∧ n1 = n0 ∧ Po z h1)) (x0 : Int) (x1 : Int) (n : Nat) (h : xH) (hn0 : n = n0) (hy : S_J6_compare_7cf53 G (kl k) (w32 (x0 + (-2147483648))) (w32 (x1 + (-2147483648))) n h (fun z1 h2 => Po z1 h2)) : J6_compareUnsigned_7cf53_w0 G k x0 x1 n h := by
  subst hn0
  refine ww_iload_n C 0 0 rfl rfl dJ6_compareUnsigned_7cf53_0 ?_
  refine ww_ldc C (z := (-2147483648)) q_25 dJ6_compareUnsigned_7cf53_1 ?_
  refine ww_iadd C dJ6_compareUnsigned_7cf53_3 ?_
  refine ww_w32 ?_
  refine ww_iload_n C 1 1 rfl rfl dJ6_compareUnsigned_7cf53_4 ?_
  refine ww_ldc C (z := (-2147483648)) q_25 dJ6_compareUnsigned_7cf53_5 ?_
  refine ww_iadd C dJ6_compareUnsigned_7cf53_7 ?_
  refine ww_w32 ?_
  refine cl_J6_259 C dJ6_compareUnsigned_7cf53_8 (Nat.le_of_ble_eq_true rfl) ⟨by decide, by decide⟩ ⟨by decide, by decide⟩ ?_
  refine S_J6_compare_7cf53.mono hy (fun z1 h2 hy => ?_)
  exact ww_iret C E dJ6_compareUnsigned_7cf53_11 (by decide) (by decide) ⟨_, rfl, rfl, hy⟩
abbrev J9_min_7cf53_w0 (G : xG) (k : xK) (x0 : Int) (x1 : Int) (n : Nat) (h : xH) : Prop := WW G k 2 0 0 0 [(0, .int (iz x0)), (1, .int (iz x1))] [] n h
abbrev J9_min_7cf53_w10 (G : xG) (k : xK) (s0 : Int) (n : Nat) (h : xH) : Prop := WW G k 2 0 0 10 [] [.int (iz s0)] n h
theorem S_J9_min_7cf53_of {G : xG} {l : Launch} {x0 : Int} {x1 : Int} {n : Nat} {h : xH} {Po : Int → xH → Prop} (body : ∀ k : xK, kl k = l → CC G k cJ9_min_7cf53 RJ9 2 rm_J9_min_7cf53 → CQ G k (some .int) rm_J9_min_7cf53 (fun r n1 h1 => ∃ z : Int, r = some (.int (iz z)) ∧ n1 = n ∧ Po z h1) → J9_min_7cf53_w0 G k x0 x1 n h) : S_J9_min_7cf53 G l x0 x1 n h Po := xS_ofF (by decide +kernel) (Nat.le_of_ble_eq_true rfl) rfl (fun k hl hnm C E => body k hl C E)
set_option maxRecDepth 100000 in
set_option maxHeartbeats 4000000 in
theorem J9_min_7cf53_b0 {G : xG} {k : xK} {n0 : Nat} {Po : Int → xH → Prop} (C : CC G k cJ9_min_7cf53 RJ9 2 rm_J9_min_7cf53) (E : CQ G k (some .int) rm_J9_min_7cf53 (fun r n1 h1 => ∃ z : Int, r = some (.int (iz z)) ∧ n1 = n0 ∧ Po z h1)) (x0 : Int) (x1 : Int) (n : Nat) (h : xH) (hn0 : n = n0) (hy : (rg x0 ∧ rg x1) ∧ ((x1 < x0 → J9_min_7cf53_w10 G k x1 n h) ∧ (¬ x1 < x0 → J9_min_7cf53_w10 G k x0 n h))) : J9_min_7cf53_w0 G k x0 x1 n h := by
  subst hn0
  refine ww_iload_n C 0 0 rfl rfl dJ9_min_7cf53_0 ?_
  refine ww_iload_n C 1 1 rfl rfl dJ9_min_7cf53_1 ?_
  obtain ⟨p1, hy⟩ := hy
  refine ww_icmp_gt C (tg := 9) dJ9_min_7cf53_2 (by decide) p1.1 p1.2 (fun c2 => ?_) (fun c2 => ?_)
  · have hy := hy.1 c2
    refine ww_iload_n C 1 1 rfl rfl dJ9_min_7cf53_9 ?_
    exact ww_sub [] rfl (by decide) (by decide) hy
  · have hy := hy.2 c2
    refine ww_iload_n C 0 0 rfl rfl dJ9_min_7cf53_5 ?_
    refine ww_goto C (tg := 10) dJ9_min_7cf53_6 (by decide) ?_
    exact ww_sub [] rfl (by decide) (by decide) hy
set_option maxRecDepth 100000 in
set_option maxHeartbeats 4000000 in
theorem J9_min_7cf53_b10 {G : xG} {k : xK} {n0 : Nat} {Po : Int → xH → Prop} (C : CC G k cJ9_min_7cf53 RJ9 2 rm_J9_min_7cf53) (E : CQ G k (some .int) rm_J9_min_7cf53 (fun r n1 h1 => ∃ z : Int, r = some (.int (iz z)) ∧ n1 = n0 ∧ Po z h1)) (s0 : Int) (n : Nat) (h : xH) (hn0 : n = n0) (hy : Po s0 h) : J9_min_7cf53_w10 G k s0 n h := by
  subst hn0
  exact ww_iret C E dJ9_min_7cf53_10 (by decide) (by decide) ⟨_, rfl, rfl, hy⟩
abbrev J13_numberOfLeadingZeros_95d88_w0 (G : xG) (k : xK) (x0 : Int) (n : Nat) (h : xH) : Prop := WW G k 3 0 0 0 [(0, .long (lz x0))] [] n h
abbrev J13_numberOfLeadingZeros_95d88_w25 (G : xG) (k : xK) (s0 : Int) (n : Nat) (h : xH) : Prop := WW G k 3 0 0 25 [] [.int (iz s0)] n h
theorem S_J13_numberOfLeadingZeros_95d88_of {G : xG} {l : Launch} {x0 : Int} {n : Nat} {h : xH} {Po : Int → xH → Prop} (body : ∀ k : xK, kl k = l → CC G k cJ13_numberOfLeadingZeros_95d88 RJ13 3 rm_J13_numberOfLeadingZeros_95d88 → CQ G k (some .int) rm_J13_numberOfLeadingZeros_95d88 (fun r n1 h1 => ∃ z : Int, r = some (.int (iz z)) ∧ n1 = n ∧ Po z h1) → J13_numberOfLeadingZeros_95d88_w0 G k x0 n h) : S_J13_numberOfLeadingZeros_95d88 G l x0 n h Po := xS_of (by decide +kernel) (Nat.le_of_ble_eq_true rfl) rfl (fun k hl hnm C E => body k hl C E)
set_option maxRecDepth 100000 in
set_option maxHeartbeats 4000000 in
theorem J13_numberOfLeadingZeros_95d88_b0 {G : xG} {k : xK} {n0 : Nat} {Po : Int → xH → Prop} (C : CC G k cJ13_numberOfLeadingZeros_95d88 RJ13 3 rm_J13_numberOfLeadingZeros_95d88) (E : CQ G k (some .int) rm_J13_numberOfLeadingZeros_95d88 (fun r n1 h1 => ∃ z : Int, r = some (.int (iz z)) ∧ n1 = n0 ∧ Po z h1)) (x0 : Int) (n : Nat) (h : xH) (hn0 : n = n0) (hy : rg (w32 (lSu x0 32)) ∧ ((¬ (w32 (lSu x0 32)) = 0 → S_J6_numberOfLeadingZeros_0f7a4 G (kl k) (w32 (lSu x0 32)) n h (fun z3 h4 => J13_numberOfLeadingZeros_95d88_w25 G k z3 n h4)) ∧ ((w32 (lSu x0 32)) = 0 → S_J6_numberOfLeadingZeros_0f7a4 G (kl k) (w32 x0) n h (fun z5 h6 => J13_numberOfLeadingZeros_95d88_w25 G k (32 + z5) n h6)))) : J13_numberOfLeadingZeros_95d88_w0 G k x0 n h := by
  subst hn0
  refine ww_lload_n C 0 0 rfl rfl dJ13_numberOfLeadingZeros_95d88_0 ?_
  refine ww_bipush C (z := 32) dJ13_numberOfLeadingZeros_95d88_1 rfl ?_
  refine ww_lushr C dJ13_numberOfLeadingZeros_95d88_3 ?_
  refine ww_l2i C dJ13_numberOfLeadingZeros_95d88_4 ?_
  refine ww_w32 ?_
  refine ww_istore_n C 2 rfl (by decide) rfl dJ13_numberOfLeadingZeros_95d88_5 ?_
  refine ww_iload_n C 2 0 rfl rfl dJ13_numberOfLeadingZeros_95d88_6 ?_
  obtain ⟨p1, hy⟩ := hy
  refine ww_if_ne C (tg := 21) dJ13_numberOfLeadingZeros_95d88_7 (by decide) p1 (fun c2 => ?_) (fun c2 => ?_)
  · have hy := hy.1 c2
    refine ww_iload_n C 2 0 rfl rfl dJ13_numberOfLeadingZeros_95d88_21 ?_
    refine cl_J13_308 C dJ13_numberOfLeadingZeros_95d88_22 (Nat.le_of_ble_eq_true rfl) ⟨by decide, by decide⟩ ⟨by decide, by decide⟩ ?_
    refine S_J6_numberOfLeadingZeros_0f7a4.mono hy (fun z3 h4 hy => ?_)
    exact ww_sub [] rfl (by decide) (by decide) hy
  · have hy := hy.2 c2
    refine ww_bipush C (z := 32) dJ13_numberOfLeadingZeros_95d88_10 rfl ?_
    refine ww_lload_n C 0 1 rfl rfl dJ13_numberOfLeadingZeros_95d88_12 ?_
    refine ww_l2i C dJ13_numberOfLeadingZeros_95d88_13 ?_
    refine ww_w32 ?_
    refine cl_J13_308 C dJ13_numberOfLeadingZeros_95d88_14 (Nat.le_of_ble_eq_true rfl) ⟨by decide, by decide⟩ ⟨by decide, by decide⟩ ?_
    refine S_J6_numberOfLeadingZeros_0f7a4.mono hy (fun z5 h6 hy => ?_)
    refine ww_iadd C dJ13_numberOfLeadingZeros_95d88_17 ?_
    refine ww_goto C (tg := 25) dJ13_numberOfLeadingZeros_95d88_18 (by decide) ?_
    exact ww_sub [] rfl (by decide) (by decide) hy
set_option maxRecDepth 100000 in
set_option maxHeartbeats 4000000 in
theorem J13_numberOfLeadingZeros_95d88_b25 {G : xG} {k : xK} {n0 : Nat} {Po : Int → xH → Prop} (C : CC G k cJ13_numberOfLeadingZeros_95d88 RJ13 3 rm_J13_numberOfLeadingZeros_95d88) (E : CQ G k (some .int) rm_J13_numberOfLeadingZeros_95d88 (fun r n1 h1 => ∃ z : Int, r = some (.int (iz z)) ∧ n1 = n0 ∧ Po z h1)) (s0 : Int) (n : Nat) (h : xH) (hn0 : n = n0) (hy : Po s0 h) : J13_numberOfLeadingZeros_95d88_w25 G k s0 n h := by
  subst hn0
  exact ww_iret C E dJ13_numberOfLeadingZeros_95d88_25 (by decide) (by decide) ⟨_, rfl, rfl, hy⟩
abbrev J9_floorDiv_7cf53_w0 (G : xG) (k : xK) (x0 : Int) (x1 : Int) (n : Nat) (h : xH) : Prop := WW G k 3 0 0 0 [(0, .int (iz x0)), (1, .int (iz x1))] [] n h
abbrev J9_floorDiv_7cf53_w21 (G : xG) (k : xK) (x2 : Int) (n : Nat) (h : xH) : Prop := WW G k 3 0 0 21 [(2, .int (iz x2))] [] n h
theorem S_J9_floorDiv_7cf53_of {G : xG} {l : Launch} {x0 : Int} {x1 : Int} {n : Nat} {h : xH} {Po : Int → xH → Prop} (body : ∀ k : xK, kl k = l → CC G k cJ9_floorDiv_7cf53 RJ9 3 rm_J9_floorDiv_7cf53 → CQ G k (some .int) rm_J9_floorDiv_7cf53 (fun r n1 h1 => ∃ z : Int, r = some (.int (iz z)) ∧ n1 = n ∧ Po z h1) → J9_floorDiv_7cf53_w0 G k x0 x1 n h) : S_J9_floorDiv_7cf53 G l x0 x1 n h Po := xS_ofF (by decide +kernel) (Nat.le_of_ble_eq_true rfl) rfl (fun k hl hnm C E => body k hl C E)
set_option maxRecDepth 100000 in
set_option maxHeartbeats 4000000 in
theorem J9_floorDiv_7cf53_b0 {G : xG} {k : xK} {n0 : Nat} {Po : Int → xH → Prop} (C : CC G k cJ9_floorDiv_7cf53 RJ9 3 rm_J9_floorDiv_7cf53) (E : CQ G k (some .int) rm_J9_floorDiv_7cf53 (fun r n1 h1 => ∃ z : Int, r = some (.int (iz z)) ∧ n1 = n0 ∧ Po z h1)) (x0 : Int) (x1 : Int) (n : Nat) (h : xH) (hn0 : n = n0) (hy : (rg x0 ∧ rg x1 ∧ x1 ≠ 0) ∧ rg (iX x0 x1) ∧ ((0 ≤ (iX x0 x1) → J9_floorDiv_7cf53_w21 G k (x0.tdiv x1) n h) ∧ (¬ 0 ≤ (iX x0 x1) → (rg ((x0.tdiv x1) * x1) ∧ rg x0) ∧ ((((x0.tdiv x1) * x1) = x0 → J9_floorDiv_7cf53_w21 G k (x0.tdiv x1) n h) ∧ (¬ ((x0.tdiv x1) * x1) = x0 → Po ((x0.tdiv x1) - 1) h))))) : J9_floorDiv_7cf53_w0 G k x0 x1 n h := by
  subst hn0
  refine ww_iload_n C 0 0 rfl rfl dJ9_floorDiv_7cf53_0 ?_
  refine ww_iload_n C 1 1 rfl rfl dJ9_floorDiv_7cf53_1 ?_
  obtain ⟨p1, hy⟩ := hy
  refine ww_idiv C dJ9_floorDiv_7cf53_2 p1.1 p1.2.1 p1.2.2 ?_
  refine ww_istore_n C 2 rfl (by decide) rfl dJ9_floorDiv_7cf53_3 ?_
  refine ww_iload_n C 0 1 rfl rfl dJ9_floorDiv_7cf53_4 ?_
  refine ww_iload_n C 1 2 rfl rfl dJ9_floorDiv_7cf53_5 ?_
  refine ww_ixor C dJ9_floorDiv_7cf53_6 ?_
  obtain ⟨p2, hy⟩ := hy
  refine ww_if_ge C (tg := 21) dJ9_floorDiv_7cf53_7 (by decide) p2 (fun c3 => ?_) (fun c3 => ?_)
  · have hy := hy.1 c3
    exact ww_sub [0] rfl (by decide) (by decide) hy
  · have hy := hy.2 c3
    refine ww_iload_n C 2 0 rfl rfl dJ9_floorDiv_7cf53_10 ?_
    refine ww_iload_n C 1 2 rfl rfl dJ9_floorDiv_7cf53_11 ?_
    refine ww_imul C dJ9_floorDiv_7cf53_12 ?_
    refine ww_iload_n C 0 1 rfl rfl dJ9_floorDiv_7cf53_13 ?_
    obtain ⟨p4, hy⟩ := hy
    refine ww_icmp_eq C (tg := 21) dJ9_floorDiv_7cf53_14 (by decide) p4.1 p4.2 (fun c5 => ?_) (fun c5 => ?_)
    · have hy := hy.1 c5
      exact ww_sub [0] rfl (by decide) (by decide) hy
    · have hy := hy.2 c5
      refine ww_iload_n C 2 0 rfl rfl dJ9_floorDiv_7cf53_17 ?_
      refine ww_iconst C (z := 1) dJ9_floorDiv_7cf53_18 rfl ?_
      refine ww_isub C dJ9_floorDiv_7cf53_19 ?_
      exact ww_iret C E dJ9_floorDiv_7cf53_20 (by decide) (by decide) ⟨_, rfl, rfl, hy⟩
set_option maxRecDepth 100000 in
set_option maxHeartbeats 4000000 in
theorem J9_floorDiv_7cf53_b21 {G : xG} {k : xK} {n0 : Nat} {Po : Int → xH → Prop} (C : CC G k cJ9_floorDiv_7cf53 RJ9 3 rm_J9_floorDiv_7cf53) (E : CQ G k (some .int) rm_J9_floorDiv_7cf53 (fun r n1 h1 => ∃ z : Int, r = some (.int (iz z)) ∧ n1 = n0 ∧ Po z h1)) (x2 : Int) (n : Nat) (h : xH) (hn0 : n = n0) (hy : Po x2 h) : J9_floorDiv_7cf53_w21 G k x2 n h := by
  subst hn0
  refine ww_iload_n C 2 0 rfl rfl dJ9_floorDiv_7cf53_21 ?_
  exact ww_iret C E dJ9_floorDiv_7cf53_22 (by decide) (by decide) ⟨_, rfl, rfl, hy⟩
abbrev J13_numberOfTrailingZeros_95d88_w0 (G : xG) (k : xK) (x0 : Int) (n : Nat) (h : xH) : Prop := WW G k 3 0 0 0 [(0, .long (lz x0))] [] n h
abbrev J13_numberOfTrailingZeros_95d88_w25 (G : xG) (k : xK) (s0 : Int) (n : Nat) (h : xH) : Prop := WW G k 3 0 0 25 [] [.int (iz s0)] n h
theorem S_J13_numberOfTrailingZeros_95d88_of {G : xG} {l : Launch} {x0 : Int} {n : Nat} {h : xH} {Po : Int → xH → Prop} (body : ∀ k : xK, kl k = l → CC G k cJ13_numberOfTrailingZeros_95d88 RJ13 3 rm_J13_numberOfTrailingZeros_95d88 → CQ G k (some .int) rm_J13_numberOfTrailingZeros_95d88 (fun r n1 h1 => ∃ z : Int, r = some (.int (iz z)) ∧ n1 = n ∧ Po z h1) → J13_numberOfTrailingZeros_95d88_w0 G k x0 n h) : S_J13_numberOfTrailingZeros_95d88 G l x0 n h Po := xS_of (by decide +kernel) (Nat.le_of_ble_eq_true rfl) rfl (fun k hl hnm C E => body k hl C E)
set_option maxRecDepth 100000 in
set_option maxHeartbeats 4000000 in
theorem J13_numberOfTrailingZeros_95d88_b0 {G : xG} {k : xK} {n0 : Nat} {Po : Int → xH → Prop} (C : CC G k cJ13_numberOfTrailingZeros_95d88 RJ13 3 rm_J13_numberOfTrailingZeros_95d88) (E : CQ G k (some .int) rm_J13_numberOfTrailingZeros_95d88 (fun r n1 h1 => ∃ z : Int, r = some (.int (iz z)) ∧ n1 = n0 ∧ Po z h1)) (x0 : Int) (n : Nat) (h : xH) (hn0 : n = n0) (hy : rg (w32 x0) ∧ ((¬ (w32 x0) = 0 → S_J6_numberOfTrailingZeros_0f7a4 G (kl k) (w32 x0) n h (fun z3 h4 => J13_numberOfTrailingZeros_95d88_w25 G k z3 n h4)) ∧ ((w32 x0) = 0 → S_J6_numberOfTrailingZeros_0f7a4 G (kl k) (w32 (lSu x0 32)) n h (fun z5 h6 => J13_numberOfTrailingZeros_95d88_w25 G k (32 + z5) n h6)))) : J13_numberOfTrailingZeros_95d88_w0 G k x0 n h := by
  subst hn0
  refine ww_lload_n C 0 0 rfl rfl dJ13_numberOfTrailingZeros_95d88_0 ?_
  refine ww_l2i C dJ13_numberOfTrailingZeros_95d88_1 ?_
  refine ww_w32 ?_
  refine ww_istore_n C 2 rfl (by decide) rfl dJ13_numberOfTrailingZeros_95d88_2 ?_
  refine ww_iload_n C 2 0 rfl rfl dJ13_numberOfTrailingZeros_95d88_3 ?_
  obtain ⟨p1, hy⟩ := hy
  refine ww_if_ne C (tg := 21) dJ13_numberOfTrailingZeros_95d88_4 (by decide) p1 (fun c2 => ?_) (fun c2 => ?_)
  · have hy := hy.1 c2
    refine ww_iload_n C 2 0 rfl rfl dJ13_numberOfTrailingZeros_95d88_21 ?_
    refine cl_J13_311 C dJ13_numberOfTrailingZeros_95d88_22 (Nat.le_of_ble_eq_true rfl) ⟨by decide, by decide⟩ ⟨by decide, by decide⟩ ?_
    refine S_J6_numberOfTrailingZeros_0f7a4.mono hy (fun z3 h4 hy => ?_)
    exact ww_sub [] rfl (by decide) (by decide) hy
  · have hy := hy.2 c2
    refine ww_bipush C (z := 32) dJ13_numberOfTrailingZeros_95d88_7 rfl ?_
    refine ww_lload_n C 0 1 rfl rfl dJ13_numberOfTrailingZeros_95d88_9 ?_
    refine ww_bipush C (z := 32) dJ13_numberOfTrailingZeros_95d88_10 rfl ?_
    refine ww_lushr C dJ13_numberOfTrailingZeros_95d88_12 ?_
    refine ww_l2i C dJ13_numberOfTrailingZeros_95d88_13 ?_
    refine ww_w32 ?_
    refine cl_J13_311 C dJ13_numberOfTrailingZeros_95d88_14 (Nat.le_of_ble_eq_true rfl) ⟨by decide, by decide⟩ ⟨by decide, by decide⟩ ?_
    refine S_J6_numberOfTrailingZeros_0f7a4.mono hy (fun z5 h6 hy => ?_)
    refine ww_iadd C dJ13_numberOfTrailingZeros_95d88_17 ?_
    refine ww_goto C (tg := 25) dJ13_numberOfTrailingZeros_95d88_18 (by decide) ?_
    exact ww_sub [] rfl (by decide) (by decide) hy
set_option maxRecDepth 100000 in
set_option maxHeartbeats 4000000 in
theorem J13_numberOfTrailingZeros_95d88_b25 {G : xG} {k : xK} {n0 : Nat} {Po : Int → xH → Prop} (C : CC G k cJ13_numberOfTrailingZeros_95d88 RJ13 3 rm_J13_numberOfTrailingZeros_95d88) (E : CQ G k (some .int) rm_J13_numberOfTrailingZeros_95d88 (fun r n1 h1 => ∃ z : Int, r = some (.int (iz z)) ∧ n1 = n0 ∧ Po z h1)) (s0 : Int) (n : Nat) (h : xH) (hn0 : n = n0) (hy : Po s0 h) : J13_numberOfTrailingZeros_95d88_w25 G k s0 n h := by
  subst hn0
  exact ww_iret C E dJ13_numberOfTrailingZeros_95d88_25 (by decide) (by decide) ⟨_, rfl, rfl, hy⟩
abbrev J9_abs_0f7a4_w0 (G : xG) (k : xK) (x0 : Int) (n : Nat) (h : xH) : Prop := WW G k 1 0 0 0 [(0, .int (iz x0))] [] n h
abbrev J9_abs_0f7a4_w10 (G : xG) (k : xK) (s0 : Int) (n : Nat) (h : xH) : Prop := WW G k 1 0 0 10 [] [.int (iz s0)] n h
theorem S_J9_abs_0f7a4_of {G : xG} {l : Launch} {x0 : Int} {n : Nat} {h : xH} {Po : Int → xH → Prop} (body : ∀ k : xK, kl k = l → CC G k cJ9_abs_0f7a4 RJ9 1 rm_J9_abs_0f7a4 → CQ G k (some .int) rm_J9_abs_0f7a4 (fun r n1 h1 => ∃ z : Int, r = some (.int (iz z)) ∧ n1 = n ∧ Po z h1) → J9_abs_0f7a4_w0 G k x0 n h) : S_J9_abs_0f7a4 G l x0 n h Po := xS_ofF (by decide +kernel) (Nat.le_of_ble_eq_true rfl) rfl (fun k hl hnm C E => body k hl C E)
set_option maxRecDepth 100000 in
set_option maxHeartbeats 4000000 in
theorem J9_abs_0f7a4_b0 {G : xG} {k : xK} {n0 : Nat} {Po : Int → xH → Prop} (C : CC G k cJ9_abs_0f7a4 RJ9 1 rm_J9_abs_0f7a4) (E : CQ G k (some .int) rm_J9_abs_0f7a4 (fun r n1 h1 => ∃ z : Int, r = some (.int (iz z)) ∧ n1 = n0 ∧ Po z h1)) (x0 : Int) (n : Nat) (h : xH) (hn0 : n = n0) (hy : rg x0 ∧ ((0 ≤ x0 → J9_abs_0f7a4_w10 G k x0 n h) ∧ (¬ 0 ≤ x0 → J9_abs_0f7a4_w10 G k (-x0) n h))) : J9_abs_0f7a4_w0 G k x0 n h := by
  subst hn0
  refine ww_iload_n C 0 0 rfl rfl dJ9_abs_0f7a4_0 ?_
  obtain ⟨p1, hy⟩ := hy
  refine ww_if_ge C (tg := 9) dJ9_abs_0f7a4_1 (by decide) p1 (fun c2 => ?_) (fun c2 => ?_)
  · have hy := hy.1 c2
    refine ww_iload_n C 0 0 rfl rfl dJ9_abs_0f7a4_9 ?_
    exact ww_sub [] rfl (by decide) (by decide) hy
  · have hy := hy.2 c2
    refine ww_iload_n C 0 0 rfl rfl dJ9_abs_0f7a4_4 ?_
    refine ww_ineg C dJ9_abs_0f7a4_5 ?_
    refine ww_goto C (tg := 10) dJ9_abs_0f7a4_6 (by decide) ?_
    exact ww_sub [] rfl (by decide) (by decide) hy
set_option maxRecDepth 100000 in
set_option maxHeartbeats 4000000 in
theorem J9_abs_0f7a4_b10 {G : xG} {k : xK} {n0 : Nat} {Po : Int → xH → Prop} (C : CC G k cJ9_abs_0f7a4 RJ9 1 rm_J9_abs_0f7a4) (E : CQ G k (some .int) rm_J9_abs_0f7a4 (fun r n1 h1 => ∃ z : Int, r = some (.int (iz z)) ∧ n1 = n0 ∧ Po z h1)) (s0 : Int) (n : Nat) (h : xH) (hn0 : n = n0) (hy : Po s0 h) : J9_abs_0f7a4_w10 G k s0 n h := by
  subst hn0
  exact ww_iret C E dJ9_abs_0f7a4_10 (by decide) (by decide) ⟨_, rfl, rfl, hy⟩
abbrev J7_copyOf_59c91_w0 (G : xG) (k : xK) (x0 : Nat) (x1 : Int) (n : Nat) (h : xH) : Prop := WW G k 3 0 0 0 [(0, rf G x0), (1, .int (iz x1))] [] n h
theorem S_J7_copyOf_59c91_of {G : xG} {l : Launch} {x0 : Nat} {x1 : Int} {n : Nat} {h : xH} {Po : Nat → Nat → xH → Prop} (body : ∀ k : xK, kl k = l → CC G k cJ7_copyOf_59c91 RJ7 3 rm_J7_copyOf_59c91 → CQ G k (some (.array .int)) rm_J7_copyOf_59c91 (fun r n1 h1 => ∃ z : Nat, r = some (rf G z) ∧ Po z n1 h1) → J7_copyOf_59c91_w0 G k x0 x1 n h) : S_J7_copyOf_59c91 G l x0 x1 n h Po := xS_of (by decide +kernel) (Nat.le_of_ble_eq_true rfl) rfl (fun k hl hnm C E => body k hl C E)
set_option maxRecDepth 100000 in
set_option maxHeartbeats 4000000 in
theorem J7_copyOf_59c91_b0 {G : xG} {k : xK} {n0 : Nat} {Po : Nat → Nat → xH → Prop} (C : CC G k cJ7_copyOf_59c91 RJ7 3 rm_J7_copyOf_59c91) (E : CQ G k (some (.array .int)) rm_J7_copyOf_59c91 (fun r n1 h1 => ∃ z : Nat, r = some (rf G z) ∧ Po z n1 h1)) (x0 : Nat) (x1 : Int) (n : Nat) (h : xH) (hy : (x0 < n ∧ ((h x0).1 = 100 ∨ (h x0).1 = 101)) ∧ (rg x1 ∧ rg ((h x0).2.1 : Int)) ∧ ((¬ x1 = ((h x0).2.1 : Int) → (0 ≤ x1 ∧ x1 ≤ 440) ∧ (∀ h5 : xH, h5 = hN h n (100, x1.toNat, fun _ => 0) → (x0 < (n + 1) ∧ ((h5 x0).1 = 100 ∨ (h5 x0).1 = 101)) ∧ S_J9_min_7cf53 G (kl k) ((h5 x0).2.1 : Int) x1 (n + 1) h5 (fun z7 h8 => (x0 < (n + 1) ∧ (h8 x0).1 = 100 ∧ n < (n + 1) ∧ (h8 n).1 = 100 ∧ 0 ≤ z7 ∧ z7 ≤ ((h8 x0).2.1 : Int) ∧ z7 ≤ ((h8 n).2.1 : Int) ∧ z7 ≤ 2147483647) ∧ (∀ h10 : xH, h10 = hCp h8 x0 n z7.toNat → Po n (n + 1) h10)))) ∧ (x1 = ((h x0).2.1 : Int) → (x0 < n ∧ (h x0).1 = 100 ∧ (h x0).2.1 ≤ 440) ∧ (∀ h12 : xH, h12 = hN h n (h x0) → (n < (n + 1) ∧ (h12 n).1 = 100) ∧ Po n (n + 1) h12)))) : J7_copyOf_59c91_w0 G k x0 x1 n h := by
  refine ww_iload_n C 1 1 rfl rfl dJ7_copyOf_59c91_0 ?_
  refine ww_aload_n C 0 0 rfl rfl dJ7_copyOf_59c91_1 ?_
  obtain ⟨p1, hy⟩ := hy
  refine ww_alen C dJ7_copyOf_59c91_2 p1.1 p1.2 ?_
  obtain ⟨p2, hy⟩ := hy
  refine ww_icmp_ne C (tg := 14) dJ7_copyOf_59c91_3 (by decide) p2.1 p2.2 (fun c3 => ?_) (fun c3 => ?_)
  · have hy := hy.1 c3
    refine ww_iload_n C 1 1 rfl rfl dJ7_copyOf_59c91_14 ?_
    obtain ⟨p4, hy⟩ := hy
    refine ww_newI C (B := 440) q_36 dJ7_copyOf_59c91_15 p4.1 p4.2 (by decide) (by decide) (by decide) ?_
    have hy := hy _ rfl
    refine ww_astore_n C 2 rfl (by decide) rfl dJ7_copyOf_59c91_17 ?_
    refine ww_aload_n C 0 1 rfl rfl dJ7_copyOf_59c91_18 ?_
    refine ww_iconst C (z := 0) dJ7_copyOf_59c91_19 rfl ?_
    refine ww_aload_n C 2 0 rfl rfl dJ7_copyOf_59c91_20 ?_
    refine ww_iconst C (z := 0) dJ7_copyOf_59c91_21 rfl ?_
    refine ww_aload_n C 0 1 rfl rfl dJ7_copyOf_59c91_22 ?_
    obtain ⟨p6, hy⟩ := hy
    refine ww_alen C dJ7_copyOf_59c91_23 p6.1 p6.2 ?_
    refine ww_iload_n C 1 2 rfl rfl dJ7_copyOf_59c91_24 ?_
    refine cl_J7_304 C dJ7_copyOf_59c91_25 (Nat.le_of_ble_eq_true rfl) ⟨by decide, by decide⟩ ⟨by decide, by decide⟩ ?_
    refine S_J9_min_7cf53.mono hy (fun z7 h8 hy => ?_)
    obtain ⟨p9, hy⟩ := hy
    refine ww_copy C q_41 q_42 q_43 q_44 ⟨by decide, by decide⟩ dJ7_copyOf_59c91_28 p9 ?_
    have hy := hy _ rfl
    refine ww_aload_n C 2 0 rfl rfl dJ7_copyOf_59c91_31 ?_
    exact ww_aretR C E (Or.inr ⟨_, rfl⟩) dJ7_copyOf_59c91_32 (by decide) (by decide) ⟨_, rfl, hy⟩
  · have hy := hy.2 c3
    refine ww_aload_n C 0 0 rfl rfl dJ7_copyOf_59c91_6 ?_
    obtain ⟨p11, hy⟩ := hy
    refine ww_clone C (B := 440) q_45 q_46 q_47 q_48 q_49 ⟨by decide, by decide⟩ dJ7_copyOf_59c91_7 p11 (by decide) (by decide) ?_
    have hy := hy _ rfl
    obtain ⟨p13, hy⟩ := hy
    refine ww_castI C q_50 dJ7_copyOf_59c91_10 p13.1 p13.2 ?_
    exact ww_aretR C E (Or.inr ⟨_, rfl⟩) dJ7_copyOf_59c91_13 (by decide) (by decide) ⟨_, rfl, hy⟩
