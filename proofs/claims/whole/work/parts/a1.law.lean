set_option maxRecDepth 100000 in
set_option maxHeartbeats 4000000 in
theorem L_law_b108 {G : xG} {k : xK} {b0 N : Nat} {xs : Nat → Int32} (hX : va_X b0 N xs (ks k) (ks k).heap) (hbl : b0 < (ks k).heap.size) (hbA : ¬ xA G b0) (C : CC G k cL_law RL 4 room_1) (cn sn : Nat) (hcn : cn + 40 ≤ 600000) (hsn : sn + 12000 ≤ 7302250)  (x1 : Nat) (x2 : Nat) (x3 : Int) (n : Nat) (h : xH) (hy : (0 ≤ (x3 + 1) ∧ (x3 + 1) < (N : Int) ∧ (x3 + 1) ≤ 2147483647) ∧ okO n h x1 4 ∧ S_X4_type G (kl k) x1 ((xs (x3 + 1).toNat).toInt) n h (fun z3 h4 => (0 ≤ (x3 + 1) ∧ (x3 + 1) < (N : Int) ∧ (x3 + 1) ≤ 2147483647) ∧ okO n h4 x2 8 ∧ S_X9_type G (kl k) x2 ((xs (x3 + 1).toNat).toInt) n h4 (fun z7 h8 => (rg z3 ∧ rg z7) ∧ ((z3 = z7 → L_law_w514 G k cn sn b0 x1 x2 x3 n h8) ∧ (¬ z3 = z7 → WW G k 4 cn sn 130 [(0, .ref b0), (1, rf G x1), (2, rf G x2), (3, .int (iz x3))] [.int (iz 0)] n h8))))) : L_law_w108 G k cn sn b0 x1 x2 x3 n h := by
  refine ww_aload_n C 1 1 rfl rfl dL_law_108 ?_
  refine ww_aload_n C 0 0 rfl rfl dL_law_109 ?_
  refine ww_iload_n C 3 3 rfl rfl dL_law_110 ?_
  refine ww_iconst C (z := 1) dL_law_111 rfl ?_
  refine ww_iadd C dL_law_112 ?_
  obtain ⟨p1, hy⟩ := hy
  refine ww_sld C hX hbl hbA dL_law_113 p1.1 p1.2.1 p1.2.2 ?_
  obtain ⟨p2, hy⟩ := hy
  refine cl_L_13 C dL_law_114 (Nat.le_of_ble_eq_true rfl) ⟨by decide, by decide⟩ ⟨show cn ≤ 600000 from Nat.le_trans (Nat.le_add_right cn 40) hcn, show sn ≤ 7302250 from Nat.le_trans (Nat.le_add_right sn 12000) hsn⟩ p2 ?_
  refine S_X4_type.mono hy (fun z3 h4 hy => ?_)
  refine ww_aload_n C 2 2 rfl rfl dL_law_117 ?_
  refine ww_aload_n C 0 0 rfl rfl dL_law_118 ?_
  refine ww_iload_n C 3 3 rfl rfl dL_law_119 ?_
  refine ww_iconst C (z := 1) dL_law_120 rfl ?_
  refine ww_iadd C dL_law_121 ?_
  obtain ⟨p5, hy⟩ := hy
  refine ww_sld C hX hbl hbA dL_law_122 p5.1 p5.2.1 p5.2.2 ?_
  obtain ⟨p6, hy⟩ := hy
  refine cl_L_17 C dL_law_123 (Nat.le_of_ble_eq_true rfl) ⟨by decide, by decide⟩ ⟨show cn ≤ 600000 from Nat.le_trans (Nat.le_add_right cn 40) hcn, show sn ≤ 7302250 from Nat.le_trans (Nat.le_add_right sn 12000) hsn⟩ p6 ?_
  refine S_X9_type.mono hy (fun z7 h8 hy => ?_)
  obtain ⟨p9, hy⟩ := hy
  refine ww_icmp_eq C (tg := 514) dL_law_126 (by decide) p9.1 p9.2 (fun c10 => ?_) (fun c10 => ?_)
  · have hy := hy.1 c10
    exact ww_sub [0, 1, 2, 3] rfl (Nat.le_refl _) (Nat.le_refl _) hy
  · have hy := hy.2 c10
    refine ww_iconst C (z := 0) dL_law_129 rfl ?_
    exact hy
set_option maxRecDepth 100000 in
set_option maxHeartbeats 4000000 in
theorem L_law_b131 {G : xG} {k : xK} {b0 N : Nat} {xs : Nat → Int32} (hX : va_X b0 N xs (ks k) (ks k).heap) (hbl : b0 < (ks k).heap.size) (hbA : ¬ xA G b0) (C : CC G k cL_law RL 4 room_1) (cn sn : Nat) (hcn : cn + 40 ≤ 600000) (hsn : sn + 12000 ≤ 7302250)  (x1 : Nat) (x2 : Nat) (x3 : Int) (n : Nat) (h : xH) (hy : okO n h x1 4 ∧ S_X4_clear G (kl k) x1 n h (fun h2 => okO n h2 x2 8 ∧ S_X9_clear G (kl k) x2 n h2 (fun h4 => L_law_w514 G k cn sn b0 x1 x2 x3 n h4))) : L_law_w131 G k cn sn b0 x1 x2 x3 n h := by
  refine ww_aload_n C 1 1 rfl rfl dL_law_131 ?_
  obtain ⟨p1, hy⟩ := hy
  refine cl_L_18 C dL_law_132 (Nat.le_of_ble_eq_true rfl) ⟨by decide, by decide⟩ ⟨show cn ≤ 600000 from Nat.le_trans (Nat.le_add_right cn 40) hcn, show sn ≤ 7302250 from Nat.le_trans (Nat.le_add_right sn 12000) hsn⟩ p1 ?_
  refine S_X4_clear.mono hy (fun h2 hy => ?_)
  refine ww_aload_n C 2 2 rfl rfl dL_law_135 ?_
  obtain ⟨p3, hy⟩ := hy
  refine cl_L_21 C dL_law_136 (Nat.le_of_ble_eq_true rfl) ⟨by decide, by decide⟩ ⟨show cn ≤ 600000 from Nat.le_trans (Nat.le_add_right cn 40) hcn, show sn ≤ 7302250 from Nat.le_trans (Nat.le_add_right sn 12000) hsn⟩ p3 ?_
  refine S_X9_clear.mono hy (fun h4 hy => ?_)
  refine ww_goto C (tg := 514) dL_law_139 (by decide) ?_
  exact ww_sub [0, 1, 2, 3] rfl (Nat.le_refl _) (Nat.le_refl _) hy
set_option maxRecDepth 100000 in
set_option maxHeartbeats 4000000 in
theorem L_law_b142 {G : xG} {k : xK} {b0 N : Nat} {xs : Nat → Int32} (hX : va_X b0 N xs (ks k) (ks k).heap) (hbl : b0 < (ks k).heap.size) (hbA : ¬ xA G b0) (C : CC G k cL_law RL 4 room_1) (cn sn : Nat) (hcn : cn + 40 ≤ 600000) (hsn : sn + 12000 ≤ 7302250)  (x1 : Nat) (x2 : Nat) (x3 : Int) (n : Nat) (h : xH) (hy : okO n h x1 4 ∧ S_X4_read G (kl k) x1 n h (fun z2 h3 => okO n h3 x2 8 ∧ S_X9_read G (kl k) x2 n h3 (fun z5 n7 h6 => (rg z2 ∧ rg z5) ∧ ((z2 = z5 → L_law_w514 G k (cn + 13) (sn + 1781) b0 x1 x2 x3 n7 h6) ∧ (¬ z2 = z5 → WW G k 4 (cn + 13) (sn + 1781) 154 [(0, .ref b0), (1, rf G x1), (2, rf G x2), (3, .int (iz x3))] [.int (iz 0)] n7 h6))))) : L_law_w142 G k cn sn b0 x1 x2 x3 n h := by
  refine ww_aload_n C 1 1 rfl rfl dL_law_142 ?_
  obtain ⟨p1, hy⟩ := hy
  refine cl_L_22 C dL_law_143 (Nat.le_of_ble_eq_true rfl) ⟨by decide, by decide⟩ ⟨show cn ≤ 600000 from Nat.le_trans (Nat.le_add_right cn 40) hcn, show sn ≤ 7302250 from Nat.le_trans (Nat.le_add_right sn 12000) hsn⟩ p1 ?_
  refine S_X4_read.mono hy (fun z2 h3 hy => ?_)
  refine ww_aload_n C 2 2 rfl rfl dL_law_146 ?_
  obtain ⟨p4, hy⟩ := hy
  refine cl_L_26 C dL_law_147 (Nat.le_of_ble_eq_true rfl) ⟨by decide, by decide⟩ ⟨show cn + 13 ≤ 600000 from Nat.le_trans (Nat.add_le_add_left (by decide) cn) hcn, show sn + 1781 ≤ 7302250 from Nat.le_trans (Nat.add_le_add_left (by decide) sn) hsn⟩ p4 ?_
  refine S_X9_read.mono hy (fun z5 n7 h6 hy => ?_)
  obtain ⟨p8, hy⟩ := hy
  refine ww_icmp_eq C (tg := 514) dL_law_150 (by decide) p8.1 p8.2 (fun c9 => ?_) (fun c9 => ?_)
  · have hy := hy.1 c9
    exact ww_sub [0, 1, 2, 3] rfl (Nat.le_refl _) (Nat.le_refl _) hy
  · have hy := hy.2 c9
    refine ww_iconst C (z := 0) dL_law_153 rfl ?_
    exact hy
set_option maxRecDepth 100000 in
set_option maxHeartbeats 4000000 in
theorem L_law_b155 {G : xG} {k : xK} {b0 N : Nat} {xs : Nat → Int32} (hX : va_X b0 N xs (ks k) (ks k).heap) (hbl : b0 < (ks k).heap.size) (hbA : ¬ xA G b0) (C : CC G k cL_law RL 4 room_1) (cn sn : Nat) (hcn : cn + 40 ≤ 600000) (hsn : sn + 12000 ≤ 7302250)  (x1 : Nat) (x2 : Nat) (x3 : Int) (n : Nat) (h : xH) (hy : (0 ≤ (x3 + 1) ∧ (x3 + 1) < (N : Int) ∧ (x3 + 1) ≤ 2147483647) ∧ rg ((xs (x3 + 1).toNat).toInt) ∧ ((((xs (x3 + 1).toNat).toInt) = 0 → L_law_w169 G k cn sn b0 x1 x2 x3 0 x1 n h) ∧ (¬ ((xs (x3 + 1).toNat).toInt) = 0 → L_law_w169 G k cn sn b0 x1 x2 x3 1 x1 n h))) : L_law_w155 G k cn sn b0 x1 x2 x3 n h := by
  refine ww_aload_n C 1 1 rfl rfl dL_law_155 ?_
  refine ww_aload_n C 0 0 rfl rfl dL_law_156 ?_
  refine ww_iload_n C 3 3 rfl rfl dL_law_157 ?_
  refine ww_iconst C (z := 1) dL_law_158 rfl ?_
  refine ww_iadd C dL_law_159 ?_
  obtain ⟨p1, hy⟩ := hy
  refine ww_sld C hX hbl hbA dL_law_160 p1.1 p1.2.1 p1.2.2 ?_
  obtain ⟨p2, hy⟩ := hy
  refine ww_if_eq C (tg := 168) dL_law_161 (by decide) p2 (fun c3 => ?_) (fun c3 => ?_)
  · have hy := hy.1 c3
    refine ww_iconst C (z := 0) dL_law_168 rfl ?_
    exact ww_sub [0, 1, 2, 3] rfl (Nat.le_refl _) (Nat.le_refl _) hy
  · have hy := hy.2 c3
    refine ww_iconst C (z := 1) dL_law_164 rfl ?_
    refine ww_goto C (tg := 169) dL_law_165 (by decide) ?_
    exact ww_sub [0, 1, 2, 3] rfl (Nat.le_refl _) (Nat.le_refl _) hy
set_option maxRecDepth 100000 in
set_option maxHeartbeats 4000000 in
theorem L_law_b244 {G : xG} {k : xK} {b0 N : Nat} {xs : Nat → Int32} (hX : va_X b0 N xs (ks k) (ks k).heap) (hbl : b0 < (ks k).heap.size) (hbA : ¬ xA G b0) (C : CC G k cL_law RL 4 room_1) (cn sn : Nat) (hcn : cn + 40 ≤ 600000) (hsn : sn + 12000 ≤ 7302250)  (x1 : Nat) (x2 : Nat) (x3 : Int) (n : Nat) (h : xH) (hy : (0 ≤ (x3 + 1) ∧ (x3 + 1) < (N : Int) ∧ (x3 + 1) ≤ 2147483647) ∧ rg ((xs (x3 + 1).toNat).toInt) ∧ (0 ≤ (x3 + 2) ∧ (x3 + 2) < (N : Int) ∧ (x3 + 2) ≤ 2147483647) ∧ rg ((xs (x3 + 2).toNat).toInt) ∧ (0 ≤ (x3 + 3) ∧ (x3 + 3) < (N : Int) ∧ (x3 + 3) ≤ 2147483647) ∧ rg ((xs (x3 + 3).toNat).toInt) ∧ (0 ≤ (x3 + 4) ∧ (x3 + 4) < (N : Int) ∧ (x3 + 4) ≤ 2147483647) ∧ rg ((xs (x3 + 4).toNat).toInt) ∧ okO n h x1 4 ∧ S_X4_divide G (kl k) x1 (lO (lSl ((xs (x3 + 1).toNat).toInt) 32) (lA ((xs (x3 + 2).toNat).toInt) 4294967295)) (lO (lSl ((xs (x3 + 3).toNat).toInt) 32) (lA ((xs (x3 + 4).toNat).toInt) 4294967295)) n h (fun z10 h11 => (0 ≤ (x3 + 1) ∧ (x3 + 1) < (N : Int) ∧ (x3 + 1) ≤ 2147483647) ∧ rg ((xs (x3 + 1).toNat).toInt) ∧ (0 ≤ (x3 + 2) ∧ (x3 + 2) < (N : Int) ∧ (x3 + 2) ≤ 2147483647) ∧ rg ((xs (x3 + 2).toNat).toInt) ∧ (0 ≤ (x3 + 3) ∧ (x3 + 3) < (N : Int) ∧ (x3 + 3) ≤ 2147483647) ∧ rg ((xs (x3 + 3).toNat).toInt) ∧ (0 ≤ (x3 + 4) ∧ (x3 + 4) < (N : Int) ∧ (x3 + 4) ≤ 2147483647) ∧ rg ((xs (x3 + 4).toNat).toInt) ∧ okO n h11 x2 8 ∧ S_X9_divide G (kl k) x2 (lO (lSl ((xs (x3 + 1).toNat).toInt) 32) (lA ((xs (x3 + 2).toNat).toInt) 4294967295)) (lO (lSl ((xs (x3 + 3).toNat).toInt) 32) (lA ((xs (x3 + 4).toNat).toInt) 4294967295)) n h11 (fun z21 n23 h22 => (rg z10 ∧ rg z21) ∧ ((z10 = z21 → L_law_w514 G k (cn + 5) (sn + 16) b0 x1 x2 x3 n23 h22) ∧ (¬ z10 = z21 → WW G k 4 (cn + 5) (sn + 16) 336 [(0, .ref b0), (1, rf G x1), (2, rf G x2), (3, .int (iz x3))] [.int (iz 0)] n23 h22))))) : L_law_w244 G k cn sn b0 x1 x2 x3 n h := by
  refine ww_aload_n C 1 1 rfl rfl dL_law_244 ?_
  refine ww_aload_n C 0 0 rfl rfl dL_law_245 ?_
  refine ww_iload_n C 3 3 rfl rfl dL_law_246 ?_
  refine ww_iconst C (z := 1) dL_law_247 rfl ?_
  refine ww_iadd C dL_law_248 ?_
  obtain ⟨p1, hy⟩ := hy
  refine ww_sld C hX hbl hbA dL_law_249 p1.1 p1.2.1 p1.2.2 ?_
  obtain ⟨p2, hy⟩ := hy
  refine ww_i2l C dL_law_250 p2 ?_
  refine ww_bipush C (z := 32) dL_law_251 rfl ?_
  refine ww_lshl C dL_law_253 ?_
  refine ww_aload_n C 0 0 rfl rfl dL_law_254 ?_
  refine ww_iload_n C 3 3 rfl rfl dL_law_255 ?_
  refine ww_iconst C (z := 2) dL_law_256 rfl ?_
  refine ww_iadd C dL_law_257 ?_
  obtain ⟨p3, hy⟩ := hy
  refine ww_sld C hX hbl hbA dL_law_258 p3.1 p3.2.1 p3.2.2 ?_
  obtain ⟨p4, hy⟩ := hy
  refine ww_i2l C dL_law_259 p4 ?_
  refine ww_ldc2 C (z := 4294967295) q_841 dL_law_260 ?_
  refine ww_land C dL_law_263 ?_
  refine ww_lor C dL_law_264 ?_
  refine ww_aload_n C 0 0 rfl rfl dL_law_265 ?_
  refine ww_iload_n C 3 3 rfl rfl dL_law_266 ?_
  refine ww_iconst C (z := 3) dL_law_267 rfl ?_
  refine ww_iadd C dL_law_268 ?_
  obtain ⟨p5, hy⟩ := hy
  refine ww_sld C hX hbl hbA dL_law_269 p5.1 p5.2.1 p5.2.2 ?_
  obtain ⟨p6, hy⟩ := hy
  refine ww_i2l C dL_law_270 p6 ?_
  refine ww_bipush C (z := 32) dL_law_271 rfl ?_
  refine ww_lshl C dL_law_273 ?_
  refine ww_aload_n C 0 0 rfl rfl dL_law_274 ?_
  refine ww_iload_n C 3 3 rfl rfl dL_law_275 ?_
  refine ww_iconst C (z := 4) dL_law_276 rfl ?_
  refine ww_iadd C dL_law_277 ?_
  obtain ⟨p7, hy⟩ := hy
  refine ww_sld C hX hbl hbA dL_law_278 p7.1 p7.2.1 p7.2.2 ?_
  obtain ⟨p8, hy⟩ := hy
  refine ww_i2l C dL_law_279 p8 ?_
  refine ww_ldc2 C (z := 4294967295) q_841 dL_law_280 ?_
  refine ww_land C dL_law_283 ?_
  refine ww_lor C dL_law_284 ?_
  obtain ⟨p9, hy⟩ := hy
  refine cl_L_34 C dL_law_285 (Nat.le_of_ble_eq_true rfl) ⟨by decide, by decide⟩ ⟨show cn ≤ 600000 from Nat.le_trans (Nat.le_add_right cn 40) hcn, show sn ≤ 7302250 from Nat.le_trans (Nat.le_add_right sn 12000) hsn⟩ p9 ?_
  refine S_X4_divide.mono hy (fun z10 h11 hy => ?_)
  refine ww_aload_n C 2 2 rfl rfl dL_law_288 ?_
  refine ww_aload_n C 0 0 rfl rfl dL_law_289 ?_
  refine ww_iload_n C 3 3 rfl rfl dL_law_290 ?_
  refine ww_iconst C (z := 1) dL_law_291 rfl ?_
  refine ww_iadd C dL_law_292 ?_
  obtain ⟨p12, hy⟩ := hy
  refine ww_sld C hX hbl hbA dL_law_293 p12.1 p12.2.1 p12.2.2 ?_
  obtain ⟨p13, hy⟩ := hy
  refine ww_i2l C dL_law_294 p13 ?_
  refine ww_bipush C (z := 32) dL_law_295 rfl ?_
  refine ww_lshl C dL_law_297 ?_
  refine ww_aload_n C 0 0 rfl rfl dL_law_298 ?_
  refine ww_iload_n C 3 3 rfl rfl dL_law_299 ?_
  refine ww_iconst C (z := 2) dL_law_300 rfl ?_
  refine ww_iadd C dL_law_301 ?_
  obtain ⟨p14, hy⟩ := hy
  refine ww_sld C hX hbl hbA dL_law_302 p14.1 p14.2.1 p14.2.2 ?_
  obtain ⟨p15, hy⟩ := hy
  refine ww_i2l C dL_law_303 p15 ?_
  refine ww_ldc2 C (z := 4294967295) q_841 dL_law_304 ?_
  refine ww_land C dL_law_307 ?_
  refine ww_lor C dL_law_308 ?_
  refine ww_aload_n C 0 0 rfl rfl dL_law_309 ?_
  refine ww_iload_n C 3 3 rfl rfl dL_law_310 ?_
  refine ww_iconst C (z := 3) dL_law_311 rfl ?_
  refine ww_iadd C dL_law_312 ?_
  obtain ⟨p16, hy⟩ := hy
  refine ww_sld C hX hbl hbA dL_law_313 p16.1 p16.2.1 p16.2.2 ?_
  obtain ⟨p17, hy⟩ := hy
  refine ww_i2l C dL_law_314 p17 ?_
  refine ww_bipush C (z := 32) dL_law_315 rfl ?_
  refine ww_lshl C dL_law_317 ?_
  refine ww_aload_n C 0 0 rfl rfl dL_law_318 ?_
  refine ww_iload_n C 3 3 rfl rfl dL_law_319 ?_
  refine ww_iconst C (z := 4) dL_law_320 rfl ?_
  refine ww_iadd C dL_law_321 ?_
  obtain ⟨p18, hy⟩ := hy
  refine ww_sld C hX hbl hbA dL_law_322 p18.1 p18.2.1 p18.2.2 ?_
  obtain ⟨p19, hy⟩ := hy
  refine ww_i2l C dL_law_323 p19 ?_
  refine ww_ldc2 C (z := 4294967295) q_841 dL_law_324 ?_
  refine ww_land C dL_law_327 ?_
  refine ww_lor C dL_law_328 ?_
  obtain ⟨p20, hy⟩ := hy
  refine cl_L_38 C dL_law_329 (Nat.le_of_ble_eq_true rfl) ⟨by decide, by decide⟩ ⟨show cn + 5 ≤ 600000 from Nat.le_trans (Nat.add_le_add_left (by decide) cn) hcn, show sn + 16 ≤ 7302250 from Nat.le_trans (Nat.add_le_add_left (by decide) sn) hsn⟩ p20 ?_
  refine S_X9_divide.mono hy (fun z21 n23 h22 hy => ?_)
  obtain ⟨p24, hy⟩ := hy
  refine ww_icmp_eq C (tg := 514) dL_law_332 (by decide) p24.1 p24.2 (fun c25 => ?_) (fun c25 => ?_)
  · have hy := hy.1 c25
    exact ww_sub [0, 1, 2, 3] rfl (Nat.le_refl _) (Nat.le_refl _) hy
  · have hy := hy.2 c25
    refine ww_iconst C (z := 0) dL_law_335 rfl ?_
    exact hy
set_option maxRecDepth 100000 in
set_option maxHeartbeats 4000000 in
theorem L_law_b337 {G : xG} {k : xK} {b0 N : Nat} {xs : Nat → Int32} (hX : va_X b0 N xs (ks k) (ks k).heap) (hbl : b0 < (ks k).heap.size) (hbA : ¬ xA G b0) (C : CC G k cL_law RL 4 room_1) (cn sn : Nat) (hcn : cn + 40 ≤ 600000) (hsn : sn + 12000 ≤ 7302250)  (x1 : Nat) (x2 : Nat) (x3 : Int) (n : Nat) (h : xH) (hy : okO n h x1 4 ∧ S_X4_exact G (kl k) x1 n h (fun z2 h3 => okO n h3 x2 8 ∧ S_X9_exact G (kl k) x2 n h3 (fun z5 n7 h6 => (rg z2 ∧ rg z5) ∧ ((z2 = z5 → L_law_w514 G k (cn + 5) (sn + 451) b0 x1 x2 x3 n7 h6) ∧ (¬ z2 = z5 → WW G k 4 (cn + 5) (sn + 451) 349 [(0, .ref b0), (1, rf G x1), (2, rf G x2), (3, .int (iz x3))] [.int (iz 0)] n7 h6))))) : L_law_w337 G k cn sn b0 x1 x2 x3 n h := by
  refine ww_aload_n C 1 1 rfl rfl dL_law_337 ?_
  obtain ⟨p1, hy⟩ := hy
  refine cl_L_39 C dL_law_338 (Nat.le_of_ble_eq_true rfl) ⟨by decide, by decide⟩ ⟨show cn ≤ 600000 from Nat.le_trans (Nat.le_add_right cn 40) hcn, show sn ≤ 7302250 from Nat.le_trans (Nat.le_add_right sn 12000) hsn⟩ p1 ?_
  refine S_X4_exact.mono hy (fun z2 h3 hy => ?_)
  refine ww_aload_n C 2 2 rfl rfl dL_law_341 ?_
  obtain ⟨p4, hy⟩ := hy
  refine cl_L_43 C dL_law_342 (Nat.le_of_ble_eq_true rfl) ⟨by decide, by decide⟩ ⟨show cn + 5 ≤ 600000 from Nat.le_trans (Nat.add_le_add_left (by decide) cn) hcn, show sn + 451 ≤ 7302250 from Nat.le_trans (Nat.add_le_add_left (by decide) sn) hsn⟩ p4 ?_
  refine S_X9_exact.mono hy (fun z5 n7 h6 hy => ?_)
  obtain ⟨p8, hy⟩ := hy
  refine ww_icmp_eq C (tg := 514) dL_law_345 (by decide) p8.1 p8.2 (fun c9 => ?_) (fun c9 => ?_)
  · have hy := hy.1 c9
    exact ww_sub [0, 1, 2, 3] rfl (Nat.le_refl _) (Nat.le_refl _) hy
  · have hy := hy.2 c9
    refine ww_iconst C (z := 0) dL_law_348 rfl ?_
    exact hy
set_option maxRecDepth 100000 in
set_option maxHeartbeats 4000000 in
theorem L_law_b350 {G : xG} {k : xK} {b0 N : Nat} {xs : Nat → Int32} (hX : va_X b0 N xs (ks k) (ks k).heap) (hbl : b0 < (ks k).heap.size) (hbA : ¬ xA G b0) (C : CC G k cL_law RL 4 room_1) (cn sn : Nat) (hcn : cn + 40 ≤ 600000) (hsn : sn + 12000 ≤ 7302250)  (x1 : Nat) (x2 : Nat) (x3 : Int) (n : Nat) (h : xH) (hy : okO n h x1 4 ∧ S_X4_inexact G (kl k) x1 n h (fun z2 h3 => okO n h3 x2 8 ∧ S_X9_inexact G (kl k) x2 n h3 (fun z5 n7 h6 => (rg z2 ∧ rg z5) ∧ ((z2 = z5 → L_law_w514 G k (cn + 3) (sn + 9) b0 x1 x2 x3 n7 h6) ∧ (¬ z2 = z5 → WW G k 4 (cn + 3) (sn + 9) 362 [(0, .ref b0), (1, rf G x1), (2, rf G x2), (3, .int (iz x3))] [.int (iz 0)] n7 h6))))) : L_law_w350 G k cn sn b0 x1 x2 x3 n h := by
  refine ww_aload_n C 1 1 rfl rfl dL_law_350 ?_
  obtain ⟨p1, hy⟩ := hy
  refine cl_L_44 C dL_law_351 (Nat.le_of_ble_eq_true rfl) ⟨by decide, by decide⟩ ⟨show cn ≤ 600000 from Nat.le_trans (Nat.le_add_right cn 40) hcn, show sn ≤ 7302250 from Nat.le_trans (Nat.le_add_right sn 12000) hsn⟩ p1 ?_
  refine S_X4_inexact.mono hy (fun z2 h3 hy => ?_)
  refine ww_aload_n C 2 2 rfl rfl dL_law_354 ?_
  obtain ⟨p4, hy⟩ := hy
  refine cl_L_47 C dL_law_355 (Nat.le_of_ble_eq_true rfl) ⟨by decide, by decide⟩ ⟨show cn + 3 ≤ 600000 from Nat.le_trans (Nat.add_le_add_left (by decide) cn) hcn, show sn + 9 ≤ 7302250 from Nat.le_trans (Nat.add_le_add_left (by decide) sn) hsn⟩ p4 ?_
  refine S_X9_inexact.mono hy (fun z5 n7 h6 hy => ?_)
  obtain ⟨p8, hy⟩ := hy
  refine ww_icmp_eq C (tg := 514) dL_law_358 (by decide) p8.1 p8.2 (fun c9 => ?_) (fun c9 => ?_)
  · have hy := hy.1 c9
    exact ww_sub [0, 1, 2, 3] rfl (Nat.le_refl _) (Nat.le_refl _) hy
  · have hy := hy.2 c9
    refine ww_iconst C (z := 0) dL_law_361 rfl ?_
    exact hy
set_option maxRecDepth 100000 in
set_option maxHeartbeats 4000000 in
theorem L_law_b363 {G : xG} {k : xK} {b0 N : Nat} {xs : Nat → Int32} (hX : va_X b0 N xs (ks k) (ks k).heap) (hbl : b0 < (ks k).heap.size) (hbA : ¬ xA G b0) (C : CC G k cL_law RL 4 room_1) (cn sn : Nat) (hcn : cn + 40 ≤ 600000) (hsn : sn + 12000 ≤ 7302250)  (x1 : Nat) (x2 : Nat) (x3 : Int) (n : Nat) (h : xH) (hy : okO n h x1 4 ∧ S_X4_kind G (kl k) x1 n h (fun z2 h3 => okO n h3 x2 8 ∧ S_X9_kind G (kl k) x2 n h3 (fun z5 h6 => (rg z2 ∧ rg z5) ∧ ((z2 = z5 → L_law_w514 G k cn sn b0 x1 x2 x3 n h6) ∧ (¬ z2 = z5 → WW G k 4 cn sn 375 [(0, .ref b0), (1, rf G x1), (2, rf G x2), (3, .int (iz x3))] [.int (iz 0)] n h6))))) : L_law_w363 G k cn sn b0 x1 x2 x3 n h := by
  refine ww_aload_n C 1 1 rfl rfl dL_law_363 ?_
  obtain ⟨p1, hy⟩ := hy
  refine cl_L_48 C dL_law_364 (Nat.le_of_ble_eq_true rfl) ⟨by decide, by decide⟩ ⟨show cn ≤ 600000 from Nat.le_trans (Nat.le_add_right cn 40) hcn, show sn ≤ 7302250 from Nat.le_trans (Nat.le_add_right sn 12000) hsn⟩ p1 ?_
  refine S_X4_kind.mono hy (fun z2 h3 hy => ?_)
  refine ww_aload_n C 2 2 rfl rfl dL_law_367 ?_
  obtain ⟨p4, hy⟩ := hy
  refine cl_L_51 C dL_law_368 (Nat.le_of_ble_eq_true rfl) ⟨by decide, by decide⟩ ⟨show cn ≤ 600000 from Nat.le_trans (Nat.le_add_right cn 40) hcn, show sn ≤ 7302250 from Nat.le_trans (Nat.le_add_right sn 12000) hsn⟩ p4 ?_
  refine S_X9_kind.mono hy (fun z5 h6 hy => ?_)
  obtain ⟨p7, hy⟩ := hy
  refine ww_icmp_eq C (tg := 514) dL_law_371 (by decide) p7.1 p7.2 (fun c8 => ?_) (fun c8 => ?_)
  · have hy := hy.1 c8
    exact ww_sub [0, 1, 2, 3] rfl (Nat.le_refl _) (Nat.le_refl _) hy
  · have hy := hy.2 c8
    refine ww_iconst C (z := 0) dL_law_374 rfl ?_
    exact hy
set_option maxRecDepth 100000 in
set_option maxHeartbeats 4000000 in
theorem L_law_b376 {G : xG} {k : xK} {b0 N : Nat} {xs : Nat → Int32} (hX : va_X b0 N xs (ks k) (ks k).heap) (hbl : b0 < (ks k).heap.size) (hbA : ¬ xA G b0) (C : CC G k cL_law RL 4 room_1) (cn sn : Nat) (hcn : cn + 40 ≤ 600000) (hsn : sn + 12000 ≤ 7302250)  (x1 : Nat) (x2 : Nat) (x3 : Int) (n : Nat) (h : xH) (hy : okO n h x1 4 ∧ S_X4_negative G (kl k) x1 n h (fun z2 h3 => okO n h3 x2 8 ∧ S_X9_negative G (kl k) x2 n h3 (fun z5 h6 => (rg z2 ∧ rg z5) ∧ ((z2 = z5 → L_law_w514 G k cn sn b0 x1 x2 x3 n h6) ∧ (¬ z2 = z5 → WW G k 4 cn sn 388 [(0, .ref b0), (1, rf G x1), (2, rf G x2), (3, .int (iz x3))] [.int (iz 0)] n h6))))) : L_law_w376 G k cn sn b0 x1 x2 x3 n h := by
  refine ww_aload_n C 1 1 rfl rfl dL_law_376 ?_
  obtain ⟨p1, hy⟩ := hy
  refine cl_L_52 C dL_law_377 (Nat.le_of_ble_eq_true rfl) ⟨by decide, by decide⟩ ⟨show cn ≤ 600000 from Nat.le_trans (Nat.le_add_right cn 40) hcn, show sn ≤ 7302250 from Nat.le_trans (Nat.le_add_right sn 12000) hsn⟩ p1 ?_
  refine S_X4_negative.mono hy (fun z2 h3 hy => ?_)
  refine ww_aload_n C 2 2 rfl rfl dL_law_380 ?_
  obtain ⟨p4, hy⟩ := hy
  refine cl_L_55 C dL_law_381 (Nat.le_of_ble_eq_true rfl) ⟨by decide, by decide⟩ ⟨show cn ≤ 600000 from Nat.le_trans (Nat.le_add_right cn 40) hcn, show sn ≤ 7302250 from Nat.le_trans (Nat.le_add_right sn 12000) hsn⟩ p4 ?_
  refine S_X9_negative.mono hy (fun z5 h6 hy => ?_)
  obtain ⟨p7, hy⟩ := hy
  refine ww_icmp_eq C (tg := 514) dL_law_384 (by decide) p7.1 p7.2 (fun c8 => ?_) (fun c8 => ?_)
  · have hy := hy.1 c8
    exact ww_sub [0, 1, 2, 3] rfl (Nat.le_refl _) (Nat.le_refl _) hy
  · have hy := hy.2 c8
    refine ww_iconst C (z := 0) dL_law_387 rfl ?_
    exact hy
set_option maxRecDepth 100000 in
set_option maxHeartbeats 4000000 in
theorem L_law_b389 {G : xG} {k : xK} {b0 N : Nat} {xs : Nat → Int32} (hX : va_X b0 N xs (ks k) (ks k).heap) (hbl : b0 < (ks k).heap.size) (hbA : ¬ xA G b0) (C : CC G k cL_law RL 4 room_1) (cn sn : Nat) (hcn : cn + 40 ≤ 600000) (hsn : sn + 12000 ≤ 7302250)  (x1 : Nat) (x2 : Nat) (x3 : Int) (n : Nat) (h : xH) (hy : okO n h x1 4 ∧ S_X4_units G (kl k) x1 n h (fun z2 h3 => okO n h3 x2 8 ∧ S_X9_units G (kl k) x2 n h3 (fun z5 h6 => (rgL z2 ∧ rgL z5) ∧ (((lC z2 z5) = 0 → L_law_w514 G k cn sn b0 x1 x2 x3 n h6) ∧ (¬ (lC z2 z5) = 0 → WW G k 4 cn sn 402 [(0, .ref b0), (1, rf G x1), (2, rf G x2), (3, .int (iz x3))] [.int (iz 0)] n h6))))) : L_law_w389 G k cn sn b0 x1 x2 x3 n h := by
  refine ww_aload_n C 1 1 rfl rfl dL_law_389 ?_
  obtain ⟨p1, hy⟩ := hy
  refine cl_L_56 C dL_law_390 (Nat.le_of_ble_eq_true rfl) ⟨by decide, by decide⟩ ⟨show cn ≤ 600000 from Nat.le_trans (Nat.le_add_right cn 40) hcn, show sn ≤ 7302250 from Nat.le_trans (Nat.le_add_right sn 12000) hsn⟩ p1 ?_
  refine S_X4_units.mono hy (fun z2 h3 hy => ?_)
  refine ww_aload_n C 2 2 rfl rfl dL_law_393 ?_
  obtain ⟨p4, hy⟩ := hy
  refine cl_L_60 C dL_law_394 (Nat.le_of_ble_eq_true rfl) ⟨by decide, by decide⟩ ⟨show cn ≤ 600000 from Nat.le_trans (Nat.le_add_right cn 40) hcn, show sn ≤ 7302250 from Nat.le_trans (Nat.le_add_right sn 12000) hsn⟩ p4 ?_
  refine S_X9_units.mono hy (fun z5 h6 hy => ?_)
  obtain ⟨p7, hy⟩ := hy
  refine ww_lcmp C dL_law_397 p7.1 p7.2 ?_
  refine ww_if_eq C (tg := 514) dL_law_398 (by decide) (rg_lC _ _) (fun c9 => ?_) (fun c9 => ?_)
  · have hy := hy.1 c9
    exact ww_sub [0, 1, 2, 3] rfl (Nat.le_refl _) (Nat.le_refl _) hy
  · have hy := hy.2 c9
    refine ww_iconst C (z := 0) dL_law_401 rfl ?_
    exact hy
set_option maxRecDepth 100000 in
set_option maxHeartbeats 4000000 in
theorem L_law_b403 {G : xG} {k : xK} {b0 N : Nat} {xs : Nat → Int32} (hX : va_X b0 N xs (ks k) (ks k).heap) (hbl : b0 < (ks k).heap.size) (hbA : ¬ xA G b0) (C : CC G k cL_law RL 4 room_1) (cn sn : Nat) (hcn : cn + 40 ≤ 600000) (hsn : sn + 12000 ≤ 7302250)  (x1 : Nat) (x2 : Nat) (x3 : Int) (n : Nat) (h : xH) (hy : okO n h x1 4 ∧ S_X4_place G (kl k) x1 n h (fun z2 h3 => okO n h3 x2 8 ∧ S_X9_place G (kl k) x2 n h3 (fun z5 h6 => (rg z2 ∧ rg z5) ∧ ((z2 = z5 → L_law_w514 G k cn sn b0 x1 x2 x3 n h6) ∧ (¬ z2 = z5 → WW G k 4 cn sn 415 [(0, .ref b0), (1, rf G x1), (2, rf G x2), (3, .int (iz x3))] [.int (iz 0)] n h6))))) : L_law_w403 G k cn sn b0 x1 x2 x3 n h := by
  refine ww_aload_n C 1 1 rfl rfl dL_law_403 ?_
  obtain ⟨p1, hy⟩ := hy
  refine cl_L_61 C dL_law_404 (Nat.le_of_ble_eq_true rfl) ⟨by decide, by decide⟩ ⟨show cn ≤ 600000 from Nat.le_trans (Nat.le_add_right cn 40) hcn, show sn ≤ 7302250 from Nat.le_trans (Nat.le_add_right sn 12000) hsn⟩ p1 ?_
  refine S_X4_place.mono hy (fun z2 h3 hy => ?_)
  refine ww_aload_n C 2 2 rfl rfl dL_law_407 ?_
  obtain ⟨p4, hy⟩ := hy
  refine cl_L_64 C dL_law_408 (Nat.le_of_ble_eq_true rfl) ⟨by decide, by decide⟩ ⟨show cn ≤ 600000 from Nat.le_trans (Nat.le_add_right cn 40) hcn, show sn ≤ 7302250 from Nat.le_trans (Nat.le_add_right sn 12000) hsn⟩ p4 ?_
  refine S_X9_place.mono hy (fun z5 h6 hy => ?_)
  obtain ⟨p7, hy⟩ := hy
  refine ww_icmp_eq C (tg := 514) dL_law_411 (by decide) p7.1 p7.2 (fun c8 => ?_) (fun c8 => ?_)
  · have hy := hy.1 c8
    exact ww_sub [0, 1, 2, 3] rfl (Nat.le_refl _) (Nat.le_refl _) hy
  · have hy := hy.2 c8
    refine ww_iconst C (z := 0) dL_law_414 rfl ?_
    exact hy
set_option maxRecDepth 100000 in
set_option maxHeartbeats 4000000 in
theorem L_law_b416 {G : xG} {k : xK} {b0 N : Nat} {xs : Nat → Int32} (hX : va_X b0 N xs (ks k) (ks k).heap) (hbl : b0 < (ks k).heap.size) (hbA : ¬ xA G b0) (C : CC G k cL_law RL 4 room_1) (cn sn : Nat) (hcn : cn + 40 ≤ 600000) (hsn : sn + 12000 ≤ 7302250)  (x1 : Nat) (x2 : Nat) (x3 : Int) (n : Nat) (h : xH) (hy : (0 ≤ (x3 + 1) ∧ (x3 + 1) < (N : Int) ∧ (x3 + 1) ≤ 2147483647) ∧ rg ((xs (x3 + 1).toNat).toInt) ∧ ((((xs (x3 + 1).toNat).toInt) = 0 → L_law_w430 G k cn sn b0 x1 x2 x3 0 x1 n h) ∧ (¬ ((xs (x3 + 1).toNat).toInt) = 0 → L_law_w430 G k cn sn b0 x1 x2 x3 1 x1 n h))) : L_law_w416 G k cn sn b0 x1 x2 x3 n h := by
  refine ww_aload_n C 1 1 rfl rfl dL_law_416 ?_
  refine ww_aload_n C 0 0 rfl rfl dL_law_417 ?_
  refine ww_iload_n C 3 3 rfl rfl dL_law_418 ?_
  refine ww_iconst C (z := 1) dL_law_419 rfl ?_
  refine ww_iadd C dL_law_420 ?_
  obtain ⟨p1, hy⟩ := hy
  refine ww_sld C hX hbl hbA dL_law_421 p1.1 p1.2.1 p1.2.2 ?_
  obtain ⟨p2, hy⟩ := hy
  refine ww_if_eq C (tg := 429) dL_law_422 (by decide) p2 (fun c3 => ?_) (fun c3 => ?_)
  · have hy := hy.1 c3
    refine ww_iconst C (z := 0) dL_law_429 rfl ?_
    exact ww_sub [0, 1, 2, 3] rfl (Nat.le_refl _) (Nat.le_refl _) hy
  · have hy := hy.2 c3
    refine ww_iconst C (z := 1) dL_law_425 rfl ?_
    refine ww_goto C (tg := 430) dL_law_426 (by decide) ?_
    exact ww_sub [0, 1, 2, 3] rfl (Nat.le_refl _) (Nat.le_refl _) hy
set_option maxRecDepth 100000 in
set_option maxHeartbeats 4000000 in
theorem L_law_b455 {G : xG} {k : xK} {b0 N : Nat} {xs : Nat → Int32} (hX : va_X b0 N xs (ks k) (ks k).heap) (hbl : b0 < (ks k).heap.size) (hbA : ¬ xA G b0) (C : CC G k cL_law RL 4 room_1) (cn sn : Nat) (hcn : cn + 40 ≤ 600000) (hsn : sn + 12000 ≤ 7302250)  (x1 : Nat) (x2 : Nat) (x3 : Int) (n : Nat) (h : xH) (hy : (0 ≤ (x3 + 1) ∧ (x3 + 1) < (N : Int) ∧ (x3 + 1) ≤ 2147483647) ∧ okO n h x1 4 ∧ S_X4_write G (kl k) x1 ((xs (x3 + 1).toNat).toInt) n h (fun z3 n5 h4 => (0 ≤ (x3 + 1) ∧ (x3 + 1) < (N : Int) ∧ (x3 + 1) ≤ 2147483647) ∧ okO n5 h4 x2 8 ∧ S_X9_write G (kl k) x2 ((xs (x3 + 1).toNat).toInt) n5 h4 (fun z8 n10 h9 => (rg z3 ∧ rg z8) ∧ ((z3 = z8 → L_law_w514 G k (cn + 1 + 2) (sn + 8226 + 7) b0 x1 x2 x3 n10 h9) ∧ (¬ z3 = z8 → WW G k 4 (cn + 1 + 2) (sn + 8226 + 7) 477 [(0, .ref b0), (1, rf G x1), (2, rf G x2), (3, .int (iz x3))] [.int (iz 0)] n10 h9))))) : L_law_w455 G k cn sn b0 x1 x2 x3 n h := by
  refine ww_aload_n C 1 1 rfl rfl dL_law_455 ?_
  refine ww_aload_n C 0 0 rfl rfl dL_law_456 ?_
  refine ww_iload_n C 3 3 rfl rfl dL_law_457 ?_
  refine ww_iconst C (z := 1) dL_law_458 rfl ?_
  refine ww_iadd C dL_law_459 ?_
  obtain ⟨p1, hy⟩ := hy
  refine ww_sld C hX hbl hbA dL_law_460 p1.1 p1.2.1 p1.2.2 ?_
  obtain ⟨p2, hy⟩ := hy
  refine cl_L_70 C dL_law_461 (Nat.le_of_ble_eq_true rfl) ⟨by decide, by decide⟩ ⟨show cn + 1 ≤ 600000 from Nat.le_trans (Nat.add_le_add_left (by decide) cn) hcn, show sn + 8226 ≤ 7302250 from Nat.le_trans (Nat.add_le_add_left (by decide) sn) hsn⟩ p2 ?_
  refine S_X4_write.mono hy (fun z3 n5 h4 hy => ?_)
  refine ww_aload_n C 2 2 rfl rfl dL_law_464 ?_
  refine ww_aload_n C 0 0 rfl rfl dL_law_465 ?_
  refine ww_iload_n C 3 3 rfl rfl dL_law_466 ?_
  refine ww_iconst C (z := 1) dL_law_467 rfl ?_
  refine ww_iadd C dL_law_468 ?_
  obtain ⟨p6, hy⟩ := hy
  refine ww_sld C hX hbl hbA dL_law_469 p6.1 p6.2.1 p6.2.2 ?_
  obtain ⟨p7, hy⟩ := hy
  refine cl_L_73 C dL_law_470 (Nat.le_of_ble_eq_true rfl) ⟨by decide, by decide⟩ ⟨show cn + 3 ≤ 600000 from Nat.le_trans (Nat.add_le_add_left (by decide) cn) hcn, show sn + 8233 ≤ 7302250 from Nat.le_trans (Nat.add_le_add_left (by decide) sn) hsn⟩ p7 ?_
  refine S_X9_write.mono hy (fun z8 n10 h9 hy => ?_)
  obtain ⟨p11, hy⟩ := hy
  refine ww_icmp_eq C (tg := 514) dL_law_473 (by decide) p11.1 p11.2 (fun c12 => ?_) (fun c12 => ?_)
  · have hy := hy.1 c12
    exact ww_sub [0, 1, 2, 3] rfl (Nat.le_refl _) (Nat.le_refl _) hy
  · have hy := hy.2 c12
    refine ww_iconst C (z := 0) dL_law_476 rfl ?_
    exact hy
set_option maxRecDepth 100000 in
set_option maxHeartbeats 4000000 in
theorem L_law_b478 {G : xG} {k : xK} {b0 N : Nat} {xs : Nat → Int32} (hX : va_X b0 N xs (ks k) (ks k).heap) (hbl : b0 < (ks k).heap.size) (hbA : ¬ xA G b0) (C : CC G k cL_law RL 4 room_1) (cn sn : Nat) (hcn : cn + 40 ≤ 600000) (hsn : sn + 12000 ≤ 7302250)  (x1 : Nat) (x2 : Nat) (x3 : Int) (n : Nat) (h : xH) (hy : (0 ≤ (x3 + 1) ∧ (x3 + 1) < (N : Int) ∧ (x3 + 1) ≤ 2147483647) ∧ okO n h x1 4 ∧ S_X4_out G (kl k) x1 ((xs (x3 + 1).toNat).toInt) n h (fun z3 h4 => (0 ≤ (x3 + 1) ∧ (x3 + 1) < (N : Int) ∧ (x3 + 1) ≤ 2147483647) ∧ okO n h4 x2 8 ∧ S_X9_out G (kl k) x2 ((xs (x3 + 1).toNat).toInt) n h4 (fun z7 h8 => (rg z3 ∧ rg z7) ∧ ((z3 = z7 → L_law_w514 G k cn sn b0 x1 x2 x3 n h8) ∧ (¬ z3 = z7 → WW G k 4 cn sn 500 [(0, .ref b0), (1, rf G x1), (2, rf G x2), (3, .int (iz x3))] [.int (iz 0)] n h8))))) : L_law_w478 G k cn sn b0 x1 x2 x3 n h := by
  refine ww_aload_n C 1 1 rfl rfl dL_law_478 ?_
  refine ww_aload_n C 0 0 rfl rfl dL_law_479 ?_
  refine ww_iload_n C 3 3 rfl rfl dL_law_480 ?_
  refine ww_iconst C (z := 1) dL_law_481 rfl ?_
  refine ww_iadd C dL_law_482 ?_
  obtain ⟨p1, hy⟩ := hy
  refine ww_sld C hX hbl hbA dL_law_483 p1.1 p1.2.1 p1.2.2 ?_
  obtain ⟨p2, hy⟩ := hy
  refine cl_L_74 C dL_law_484 (Nat.le_of_ble_eq_true rfl) ⟨by decide, by decide⟩ ⟨show cn ≤ 600000 from Nat.le_trans (Nat.le_add_right cn 40) hcn, show sn ≤ 7302250 from Nat.le_trans (Nat.le_add_right sn 12000) hsn⟩ p2 ?_
  refine S_X4_out.mono hy (fun z3 h4 hy => ?_)
  refine ww_aload_n C 2 2 rfl rfl dL_law_487 ?_
  refine ww_aload_n C 0 0 rfl rfl dL_law_488 ?_
  refine ww_iload_n C 3 3 rfl rfl dL_law_489 ?_
  refine ww_iconst C (z := 1) dL_law_490 rfl ?_
  refine ww_iadd C dL_law_491 ?_
  obtain ⟨p5, hy⟩ := hy
  refine ww_sld C hX hbl hbA dL_law_492 p5.1 p5.2.1 p5.2.2 ?_
  obtain ⟨p6, hy⟩ := hy
  refine cl_L_77 C dL_law_493 (Nat.le_of_ble_eq_true rfl) ⟨by decide, by decide⟩ ⟨show cn ≤ 600000 from Nat.le_trans (Nat.le_add_right cn 40) hcn, show sn ≤ 7302250 from Nat.le_trans (Nat.le_add_right sn 12000) hsn⟩ p6 ?_
  refine S_X9_out.mono hy (fun z7 h8 hy => ?_)
  obtain ⟨p9, hy⟩ := hy
  refine ww_icmp_eq C (tg := 514) dL_law_496 (by decide) p9.1 p9.2 (fun c10 => ?_) (fun c10 => ?_)
  · have hy := hy.1 c10
    exact ww_sub [0, 1, 2, 3] rfl (Nat.le_refl _) (Nat.le_refl _) hy
  · have hy := hy.2 c10
    refine ww_iconst C (z := 0) dL_law_499 rfl ?_
    exact hy
set_option maxRecDepth 100000 in
set_option maxHeartbeats 4000000 in
theorem L_law_b501 {G : xG} {k : xK} {b0 N : Nat} {xs : Nat → Int32} (hX : va_X b0 N xs (ks k) (ks k).heap) (hbl : b0 < (ks k).heap.size) (hbA : ¬ xA G b0) (C : CC G k cL_law RL 4 room_1) (cn sn : Nat) (hcn : cn + 40 ≤ 600000) (hsn : sn + 12000 ≤ 7302250)  (x1 : Nat) (x2 : Nat) (x3 : Int) (n : Nat) (h : xH) (hy : okO n h x1 4 ∧ S_X4_back G (kl k) x1 n h (fun z2 h3 => okO n h3 x2 8 ∧ S_X9_back G (kl k) x2 n h3 (fun z5 h6 => (rg z2 ∧ rg z5) ∧ ((z2 = z5 → L_law_w514 G k cn sn b0 x1 x2 x3 n h6) ∧ (¬ z2 = z5 → WW G k 4 cn sn 513 [(0, .ref b0), (1, rf G x1), (2, rf G x2), (3, .int (iz x3))] [.int (iz 0)] n h6))))) : L_law_w501 G k cn sn b0 x1 x2 x3 n h := by
  refine ww_aload_n C 1 1 rfl rfl dL_law_501 ?_
  obtain ⟨p1, hy⟩ := hy
  refine cl_L_78 C dL_law_502 (Nat.le_of_ble_eq_true rfl) ⟨by decide, by decide⟩ ⟨show cn ≤ 600000 from Nat.le_trans (Nat.le_add_right cn 40) hcn, show sn ≤ 7302250 from Nat.le_trans (Nat.le_add_right sn 12000) hsn⟩ p1 ?_
  refine S_X4_back.mono hy (fun z2 h3 hy => ?_)
  refine ww_aload_n C 2 2 rfl rfl dL_law_505 ?_
  obtain ⟨p4, hy⟩ := hy
  refine cl_L_81 C dL_law_506 (Nat.le_of_ble_eq_true rfl) ⟨by decide, by decide⟩ ⟨show cn ≤ 600000 from Nat.le_trans (Nat.le_add_right cn 40) hcn, show sn ≤ 7302250 from Nat.le_trans (Nat.le_add_right sn 12000) hsn⟩ p4 ?_
  refine S_X9_back.mono hy (fun z5 h6 hy => ?_)
  obtain ⟨p7, hy⟩ := hy
  refine ww_icmp_eq C (tg := 514) dL_law_509 (by decide) p7.1 p7.2 (fun c8 => ?_) (fun c8 => ?_)
  · have hy := hy.1 c8
    exact ww_sub [0, 1, 2, 3] rfl (Nat.le_refl _) (Nat.le_refl _) hy
  · have hy := hy.2 c8
    refine ww_iconst C (z := 0) dL_law_512 rfl ?_
    exact hy
set_option maxRecDepth 100000 in
set_option maxHeartbeats 4000000 in
theorem L_law_b169 {G : xG} {k : xK} {b0 N : Nat} {xs : Nat → Int32} (hX : va_X b0 N xs (ks k) (ks k).heap) (hbl : b0 < (ks k).heap.size) (hbA : ¬ xA G b0) (C : CC G k cL_law RL 4 room_1) (cn sn : Nat) (hcn : cn + 40 ≤ 600000) (hsn : sn + 12000 ≤ 7302250)  (x1 : Nat) (x2 : Nat) (x3 : Int) (s0 : Int) (s1 : Nat) (n : Nat) (h : xH) (hy : (0 ≤ (x3 + 2) ∧ (x3 + 2) < (N : Int) ∧ (x3 + 2) ≤ 2147483647) ∧ rg ((xs (x3 + 2).toNat).toInt) ∧ (0 ≤ (x3 + 3) ∧ (x3 + 3) < (N : Int) ∧ (x3 + 3) ≤ 2147483647) ∧ rg ((xs (x3 + 3).toNat).toInt) ∧ (0 ≤ (x3 + 4) ∧ (x3 + 4) < (N : Int) ∧ (x3 + 4) ≤ 2147483647) ∧ okO n h s1 4 ∧ S_X4_make G (kl k) s1 s0 (lO (lSl ((xs (x3 + 2).toNat).toInt) 32) (lA ((xs (x3 + 3).toNat).toInt) 4294967295)) ((xs (x3 + 4).toNat).toInt) n h (fun z7 h8 => (0 ≤ (x3 + 1) ∧ (x3 + 1) < (N : Int) ∧ (x3 + 1) ≤ 2147483647) ∧ rg ((xs (x3 + 1).toNat).toInt) ∧ ((((xs (x3 + 1).toNat).toInt) = 0 → L_law_w211 G k cn sn b0 x1 x2 x3 0 x2 z7 n h8) ∧ (¬ ((xs (x3 + 1).toNat).toInt) = 0 → L_law_w211 G k cn sn b0 x1 x2 x3 1 x2 z7 n h8)))) : L_law_w169 G k cn sn b0 x1 x2 x3 s0 s1 n h := by
  refine ww_aload_n C 0 0 rfl rfl dL_law_169 ?_
  refine ww_iload_n C 3 3 rfl rfl dL_law_170 ?_
  refine ww_iconst C (z := 2) dL_law_171 rfl ?_
  refine ww_iadd C dL_law_172 ?_
  obtain ⟨p1, hy⟩ := hy
  refine ww_sld C hX hbl hbA dL_law_173 p1.1 p1.2.1 p1.2.2 ?_
  obtain ⟨p2, hy⟩ := hy
  refine ww_i2l C dL_law_174 p2 ?_
  refine ww_bipush C (z := 32) dL_law_175 rfl ?_
  refine ww_lshl C dL_law_177 ?_
  refine ww_aload_n C 0 0 rfl rfl dL_law_178 ?_
  refine ww_iload_n C 3 3 rfl rfl dL_law_179 ?_
  refine ww_iconst C (z := 3) dL_law_180 rfl ?_
  refine ww_iadd C dL_law_181 ?_
  obtain ⟨p3, hy⟩ := hy
  refine ww_sld C hX hbl hbA dL_law_182 p3.1 p3.2.1 p3.2.2 ?_
  obtain ⟨p4, hy⟩ := hy
  refine ww_i2l C dL_law_183 p4 ?_
  refine ww_ldc2 C (z := 4294967295) q_841 dL_law_184 ?_
  refine ww_land C dL_law_187 ?_
  refine ww_lor C dL_law_188 ?_
  refine ww_aload_n C 0 0 rfl rfl dL_law_189 ?_
  refine ww_iload_n C 3 3 rfl rfl dL_law_190 ?_
  refine ww_iconst C (z := 4) dL_law_191 rfl ?_
  refine ww_iadd C dL_law_192 ?_
  obtain ⟨p5, hy⟩ := hy
  refine ww_sld C hX hbl hbA dL_law_193 p5.1 p5.2.1 p5.2.2 ?_
  obtain ⟨p6, hy⟩ := hy
  refine cl_L_29 C dL_law_194 (Nat.le_of_ble_eq_true rfl) ⟨by decide, by decide⟩ ⟨show cn ≤ 600000 from Nat.le_trans (Nat.le_add_right cn 40) hcn, show sn ≤ 7302250 from Nat.le_trans (Nat.le_add_right sn 12000) hsn⟩ p6 ?_
  refine S_X4_make.mono hy (fun z7 h8 hy => ?_)
  refine ww_aload_n C 2 2 rfl rfl dL_law_197 ?_
  refine ww_aload_n C 0 0 rfl rfl dL_law_198 ?_
  refine ww_iload_n C 3 3 rfl rfl dL_law_199 ?_
  refine ww_iconst C (z := 1) dL_law_200 rfl ?_
  refine ww_iadd C dL_law_201 ?_
  obtain ⟨p9, hy⟩ := hy
  refine ww_sld C hX hbl hbA dL_law_202 p9.1 p9.2.1 p9.2.2 ?_
  obtain ⟨p10, hy⟩ := hy
  refine ww_if_eq C (tg := 210) dL_law_203 (by decide) p10 (fun c11 => ?_) (fun c11 => ?_)
  · have hy := hy.1 c11
    refine ww_iconst C (z := 0) dL_law_210 rfl ?_
    exact ww_sub [0, 1, 2, 3] rfl (Nat.le_refl _) (Nat.le_refl _) hy
  · have hy := hy.2 c11
    refine ww_iconst C (z := 1) dL_law_206 rfl ?_
    refine ww_goto C (tg := 211) dL_law_207 (by decide) ?_
    exact ww_sub [0, 1, 2, 3] rfl (Nat.le_refl _) (Nat.le_refl _) hy
set_option maxRecDepth 100000 in
set_option maxHeartbeats 4000000 in
theorem L_law_b430 {G : xG} {k : xK} {b0 N : Nat} {xs : Nat → Int32} (hX : va_X b0 N xs (ks k) (ks k).heap) (hbl : b0 < (ks k).heap.size) (hbA : ¬ xA G b0) (C : CC G k cL_law RL 4 room_1) (cn sn : Nat) (hcn : cn + 40 ≤ 600000) (hsn : sn + 12000 ≤ 7302250)  (x1 : Nat) (x2 : Nat) (x3 : Int) (s0 : Int) (s1 : Nat) (n : Nat) (h : xH) (hy : okO n h s1 4 ∧ S_X4_bits G (kl k) s1 s0 n h (fun z2 h3 => (0 ≤ (x3 + 1) ∧ (x3 + 1) < (N : Int) ∧ (x3 + 1) ≤ 2147483647) ∧ rg ((xs (x3 + 1).toNat).toInt) ∧ ((((xs (x3 + 1).toNat).toInt) = 0 → L_law_w447 G k cn sn b0 x1 x2 x3 0 x2 z2 n h3) ∧ (¬ ((xs (x3 + 1).toNat).toInt) = 0 → L_law_w447 G k cn sn b0 x1 x2 x3 1 x2 z2 n h3)))) : L_law_w430 G k cn sn b0 x1 x2 x3 s0 s1 n h := by
  obtain ⟨p1, hy⟩ := hy
  refine cl_L_65 C dL_law_430 (Nat.le_of_ble_eq_true rfl) ⟨by decide, by decide⟩ ⟨show cn ≤ 600000 from Nat.le_trans (Nat.le_add_right cn 40) hcn, show sn ≤ 7302250 from Nat.le_trans (Nat.le_add_right sn 12000) hsn⟩ p1 ?_
  refine S_X4_bits.mono hy (fun z2 h3 hy => ?_)
  refine ww_aload_n C 2 2 rfl rfl dL_law_433 ?_
  refine ww_aload_n C 0 0 rfl rfl dL_law_434 ?_
  refine ww_iload_n C 3 3 rfl rfl dL_law_435 ?_
  refine ww_iconst C (z := 1) dL_law_436 rfl ?_
  refine ww_iadd C dL_law_437 ?_
  obtain ⟨p4, hy⟩ := hy
  refine ww_sld C hX hbl hbA dL_law_438 p4.1 p4.2.1 p4.2.2 ?_
  obtain ⟨p5, hy⟩ := hy
  refine ww_if_eq C (tg := 446) dL_law_439 (by decide) p5 (fun c6 => ?_) (fun c6 => ?_)
  · have hy := hy.1 c6
    refine ww_iconst C (z := 0) dL_law_446 rfl ?_
    exact ww_sub [0, 1, 2, 3] rfl (Nat.le_refl _) (Nat.le_refl _) hy
  · have hy := hy.2 c6
    refine ww_iconst C (z := 1) dL_law_442 rfl ?_
    refine ww_goto C (tg := 447) dL_law_443 (by decide) ?_
    exact ww_sub [0, 1, 2, 3] rfl (Nat.le_refl _) (Nat.le_refl _) hy
set_option maxRecDepth 100000 in
set_option maxHeartbeats 4000000 in
theorem L_law_b211 {G : xG} {k : xK} {b0 N : Nat} {xs : Nat → Int32} (hX : va_X b0 N xs (ks k) (ks k).heap) (hbl : b0 < (ks k).heap.size) (hbA : ¬ xA G b0) (C : CC G k cL_law RL 4 room_1) (cn sn : Nat) (hcn : cn + 40 ≤ 600000) (hsn : sn + 12000 ≤ 7302250)  (x1 : Nat) (x2 : Nat) (x3 : Int) (s0 : Int) (s1 : Nat) (s2 : Int) (n : Nat) (h : xH) (hy : (0 ≤ (x3 + 2) ∧ (x3 + 2) < (N : Int) ∧ (x3 + 2) ≤ 2147483647) ∧ rg ((xs (x3 + 2).toNat).toInt) ∧ (0 ≤ (x3 + 3) ∧ (x3 + 3) < (N : Int) ∧ (x3 + 3) ≤ 2147483647) ∧ rg ((xs (x3 + 3).toNat).toInt) ∧ (0 ≤ (x3 + 4) ∧ (x3 + 4) < (N : Int) ∧ (x3 + 4) ≤ 2147483647) ∧ okO n h s1 8 ∧ S_X9_make G (kl k) s1 s0 (lO (lSl ((xs (x3 + 2).toNat).toInt) 32) (lA ((xs (x3 + 3).toNat).toInt) 4294967295)) ((xs (x3 + 4).toNat).toInt) n h (fun z7 n9 h8 => (rg s2 ∧ rg z7) ∧ ((s2 = z7 → L_law_w514 G k (cn + 5) (sn + 16) b0 x1 x2 x3 n9 h8) ∧ (¬ s2 = z7 → WW G k 4 (cn + 5) (sn + 16) 243 [(0, .ref b0), (1, rf G x1), (2, rf G x2), (3, .int (iz x3))] [.int (iz 0)] n9 h8)))) : L_law_w211 G k cn sn b0 x1 x2 x3 s0 s1 s2 n h := by
  refine ww_aload_n C 0 0 rfl rfl dL_law_211 ?_
  refine ww_iload_n C 3 3 rfl rfl dL_law_212 ?_
  refine ww_iconst C (z := 2) dL_law_213 rfl ?_
  refine ww_iadd C dL_law_214 ?_
  obtain ⟨p1, hy⟩ := hy
  refine ww_sld C hX hbl hbA dL_law_215 p1.1 p1.2.1 p1.2.2 ?_
  obtain ⟨p2, hy⟩ := hy
  refine ww_i2l C dL_law_216 p2 ?_
  refine ww_bipush C (z := 32) dL_law_217 rfl ?_
  refine ww_lshl C dL_law_219 ?_
  refine ww_aload_n C 0 0 rfl rfl dL_law_220 ?_
  refine ww_iload_n C 3 3 rfl rfl dL_law_221 ?_
  refine ww_iconst C (z := 3) dL_law_222 rfl ?_
  refine ww_iadd C dL_law_223 ?_
  obtain ⟨p3, hy⟩ := hy
  refine ww_sld C hX hbl hbA dL_law_224 p3.1 p3.2.1 p3.2.2 ?_
  obtain ⟨p4, hy⟩ := hy
  refine ww_i2l C dL_law_225 p4 ?_
  refine ww_ldc2 C (z := 4294967295) q_841 dL_law_226 ?_
  refine ww_land C dL_law_229 ?_
  refine ww_lor C dL_law_230 ?_
  refine ww_aload_n C 0 0 rfl rfl dL_law_231 ?_
  refine ww_iload_n C 3 3 rfl rfl dL_law_232 ?_
  refine ww_iconst C (z := 4) dL_law_233 rfl ?_
  refine ww_iadd C dL_law_234 ?_
  obtain ⟨p5, hy⟩ := hy
  refine ww_sld C hX hbl hbA dL_law_235 p5.1 p5.2.1 p5.2.2 ?_
  obtain ⟨p6, hy⟩ := hy
  refine cl_L_33 C dL_law_236 (Nat.le_of_ble_eq_true rfl) ⟨by decide, by decide⟩ ⟨show cn + 5 ≤ 600000 from Nat.le_trans (Nat.add_le_add_left (by decide) cn) hcn, show sn + 16 ≤ 7302250 from Nat.le_trans (Nat.add_le_add_left (by decide) sn) hsn⟩ p6 ?_
  refine S_X9_make.mono hy (fun z7 n9 h8 hy => ?_)
  obtain ⟨p10, hy⟩ := hy
  refine ww_icmp_eq C (tg := 514) dL_law_239 (by decide) p10.1 p10.2 (fun c11 => ?_) (fun c11 => ?_)
  · have hy := hy.1 c11
    exact ww_sub [0, 1, 2, 3] rfl (Nat.le_refl _) (Nat.le_refl _) hy
  · have hy := hy.2 c11
    refine ww_iconst C (z := 0) dL_law_242 rfl ?_
    exact hy
set_option maxRecDepth 100000 in
set_option maxHeartbeats 4000000 in
theorem L_law_b447 {G : xG} {k : xK} {b0 N : Nat} {xs : Nat → Int32} (hX : va_X b0 N xs (ks k) (ks k).heap) (hbl : b0 < (ks k).heap.size) (hbA : ¬ xA G b0) (C : CC G k cL_law RL 4 room_1) (cn sn : Nat) (hcn : cn + 40 ≤ 600000) (hsn : sn + 12000 ≤ 7302250)  (x1 : Nat) (x2 : Nat) (x3 : Int) (s0 : Int) (s1 : Nat) (s2 : Int) (n : Nat) (h : xH) (hy : okO n h s1 8 ∧ S_X9_bits G (kl k) s1 s0 n h (fun z2 n4 h3 => (rg s2 ∧ rg z2) ∧ ((s2 = z2 → L_law_w514 G k (cn + 2) (sn + 7) b0 x1 x2 x3 n4 h3) ∧ (¬ s2 = z2 → WW G k 4 (cn + 2) (sn + 7) 454 [(0, .ref b0), (1, rf G x1), (2, rf G x2), (3, .int (iz x3))] [.int (iz 0)] n4 h3)))) : L_law_w447 G k cn sn b0 x1 x2 x3 s0 s1 s2 n h := by
  obtain ⟨p1, hy⟩ := hy
  refine cl_L_69 C dL_law_447 (Nat.le_of_ble_eq_true rfl) ⟨by decide, by decide⟩ ⟨show cn + 2 ≤ 600000 from Nat.le_trans (Nat.add_le_add_left (by decide) cn) hcn, show sn + 7 ≤ 7302250 from Nat.le_trans (Nat.add_le_add_left (by decide) sn) hsn⟩ p1 ?_
  refine S_X9_bits.mono hy (fun z2 n4 h3 hy => ?_)
  obtain ⟨p5, hy⟩ := hy
  refine ww_icmp_eq C (tg := 514) dL_law_450 (by decide) p5.1 p5.2 (fun c6 => ?_) (fun c6 => ?_)
  · have hy := hy.1 c6
    exact ww_sub [0, 1, 2, 3] rfl (Nat.le_refl _) (Nat.le_refl _) hy
  · have hy := hy.2 c6
    refine ww_iconst C (z := 0) dL_law_453 rfl ?_
    exact hy
