set_option maxRecDepth 100000 in
set_option maxHeartbeats 4000000 in
theorem L_law_b18 {G : xG} {k : xK} {b0 N : Nat} {xs : Nat → Int32} (hX : va_X b0 N xs (ks k) (ks k).heap) (hbl : b0 < (ks k).heap.size) (hbA : ¬ xA G b0) (C : CC G k cL_law RL 4 room_1) (cn sn : Nat) (hcn : cn + 40 ≤ 600000) (hsn : sn + 12000 ≤ 7302250)  (x1 : Nat) (x2 : Nat) (x3 : Int) (n : Nat) (h : xH) (hy : (rg x3 ∧ rg ((N : Int) - 5)) ∧ ((((N : Int) - 5) < x3 → WW G k 4 cn sn 521 [(0, .ref b0), (1, rf G x1), (2, rf G x2), (3, .int (iz x3))] [.int (iz 1)] n h) ∧ (¬ ((N : Int) - 5) < x3 → (0 ≤ x3 ∧ x3 < (N : Int) ∧ x3 ≤ 2147483647) ∧ rg (iA ((xs x3.toNat).toInt) 15) ∧ (((iA ((xs x3.toNat).toInt) 15) = 0 → L_law_w108 G k cn sn b0 x1 x2 x3 n h) ∧ (¬ (iA ((xs x3.toNat).toInt) 15) = 0 → (((iA ((xs x3.toNat).toInt) 15) = 1 → L_law_w131 G k cn sn b0 x1 x2 x3 n h) ∧ (¬ (iA ((xs x3.toNat).toInt) 15) = 1 → (((iA ((xs x3.toNat).toInt) 15) = 2 → L_law_w142 G k cn sn b0 x1 x2 x3 n h) ∧ (¬ (iA ((xs x3.toNat).toInt) 15) = 2 → (((iA ((xs x3.toNat).toInt) 15) = 3 → L_law_w155 G k cn sn b0 x1 x2 x3 n h) ∧ (¬ (iA ((xs x3.toNat).toInt) 15) = 3 → (((iA ((xs x3.toNat).toInt) 15) = 4 → L_law_w244 G k cn sn b0 x1 x2 x3 n h) ∧ (¬ (iA ((xs x3.toNat).toInt) 15) = 4 → (((iA ((xs x3.toNat).toInt) 15) = 5 → L_law_w337 G k cn sn b0 x1 x2 x3 n h) ∧ (¬ (iA ((xs x3.toNat).toInt) 15) = 5 → (((iA ((xs x3.toNat).toInt) 15) = 6 → L_law_w350 G k cn sn b0 x1 x2 x3 n h) ∧ (¬ (iA ((xs x3.toNat).toInt) 15) = 6 → (((iA ((xs x3.toNat).toInt) 15) = 7 → L_law_w363 G k cn sn b0 x1 x2 x3 n h) ∧ (¬ (iA ((xs x3.toNat).toInt) 15) = 7 → (((iA ((xs x3.toNat).toInt) 15) = 8 → L_law_w376 G k cn sn b0 x1 x2 x3 n h) ∧ (¬ (iA ((xs x3.toNat).toInt) 15) = 8 → (((iA ((xs x3.toNat).toInt) 15) = 9 → L_law_w389 G k cn sn b0 x1 x2 x3 n h) ∧ (¬ (iA ((xs x3.toNat).toInt) 15) = 9 → (((iA ((xs x3.toNat).toInt) 15) = 10 → L_law_w403 G k cn sn b0 x1 x2 x3 n h) ∧ (¬ (iA ((xs x3.toNat).toInt) 15) = 10 → (((iA ((xs x3.toNat).toInt) 15) = 11 → L_law_w416 G k cn sn b0 x1 x2 x3 n h) ∧ (¬ (iA ((xs x3.toNat).toInt) 15) = 11 → (((iA ((xs x3.toNat).toInt) 15) = 12 → L_law_w455 G k cn sn b0 x1 x2 x3 n h) ∧ (¬ (iA ((xs x3.toNat).toInt) 15) = 12 → (((iA ((xs x3.toNat).toInt) 15) = 13 → L_law_w478 G k cn sn b0 x1 x2 x3 n h) ∧ (¬ (iA ((xs x3.toNat).toInt) 15) = 13 → (((iA ((xs x3.toNat).toInt) 15) = 14 → L_law_w501 G k cn sn b0 x1 x2 x3 n h) ∧ (¬ (iA ((xs x3.toNat).toInt) 15) = 14 → L_law_w514 G k cn sn b0 x1 x2 x3 n h))))))))))))))))))))))))))))))))) : L_law_w18 G k cn sn b0 x1 x2 x3 n h := by
  refine ww_iload_n C 3 3 rfl rfl dL_law_18 ?_
  refine ww_aload_n C 0 0 rfl rfl dL_law_19 ?_
  refine ww_slen C hX hbl hbA dL_law_20 ?_
  refine ww_iconst C (z := 5) dL_law_21 rfl ?_
  refine ww_isub C dL_law_22 ?_
  obtain ⟨p1, hy⟩ := hy
  refine ww_icmp_gt C (tg := 520) dL_law_23 (by decide) p1.1 p1.2 (fun c2 => ?_) (fun c2 => ?_)
  · have hy := hy.1 c2
    refine ww_iconst C (z := 1) dL_law_520 rfl ?_
    exact hy
  · have hy := hy.2 c2
    refine ww_aload_n C 0 0 rfl rfl dL_law_26 ?_
    refine ww_iload_n C 3 3 rfl rfl dL_law_27 ?_
    obtain ⟨p3, hy⟩ := hy
    refine ww_sld C hX hbl hbA dL_law_28 p3.1 p3.2.1 p3.2.2 ?_
    refine ww_bipush C (z := 15) dL_law_29 rfl ?_
    refine ww_iand C dL_law_31 ?_
    obtain ⟨p4, hy⟩ := hy
    by_cases c5 : (iA ((xs x3.toNat).toInt) 15) = 0
    · have hy := hy.1 c5
      refine ww_tableIn C (tg := 108) dL_law_32 p4 (by rw [c5]; decide) (by rw [c5]; decide) (o := 76) (by rw [c5]; rfl) (by decide) ?_
      exact ww_sub [0, 1, 2, 3] rfl (Nat.le_refl _) (Nat.le_refl _) hy
    have hy := hy.2 c5
    by_cases c6 : (iA ((xs x3.toNat).toInt) 15) = 1
    · have hy := hy.1 c6
      refine ww_tableIn C (tg := 131) dL_law_32 p4 (by rw [c6]; decide) (by rw [c6]; decide) (o := 99) (by rw [c6]; rfl) (by decide) ?_
      exact ww_sub [0, 1, 2, 3] rfl (Nat.le_refl _) (Nat.le_refl _) hy
    have hy := hy.2 c6
    by_cases c7 : (iA ((xs x3.toNat).toInt) 15) = 2
    · have hy := hy.1 c7
      refine ww_tableIn C (tg := 142) dL_law_32 p4 (by rw [c7]; decide) (by rw [c7]; decide) (o := 110) (by rw [c7]; rfl) (by decide) ?_
      exact ww_sub [0, 1, 2, 3] rfl (Nat.le_refl _) (Nat.le_refl _) hy
    have hy := hy.2 c7
    by_cases c8 : (iA ((xs x3.toNat).toInt) 15) = 3
    · have hy := hy.1 c8
      refine ww_tableIn C (tg := 155) dL_law_32 p4 (by rw [c8]; decide) (by rw [c8]; decide) (o := 123) (by rw [c8]; rfl) (by decide) ?_
      exact ww_sub [0, 1, 2, 3] rfl (Nat.le_refl _) (Nat.le_refl _) hy
    have hy := hy.2 c8
    by_cases c9 : (iA ((xs x3.toNat).toInt) 15) = 4
    · have hy := hy.1 c9
      refine ww_tableIn C (tg := 244) dL_law_32 p4 (by rw [c9]; decide) (by rw [c9]; decide) (o := 212) (by rw [c9]; rfl) (by decide) ?_
      exact ww_sub [0, 1, 2, 3] rfl (Nat.le_refl _) (Nat.le_refl _) hy
    have hy := hy.2 c9
    by_cases c10 : (iA ((xs x3.toNat).toInt) 15) = 5
    · have hy := hy.1 c10
      refine ww_tableIn C (tg := 337) dL_law_32 p4 (by rw [c10]; decide) (by rw [c10]; decide) (o := 305) (by rw [c10]; rfl) (by decide) ?_
      exact ww_sub [0, 1, 2, 3] rfl (Nat.le_refl _) (Nat.le_refl _) hy
    have hy := hy.2 c10
    by_cases c11 : (iA ((xs x3.toNat).toInt) 15) = 6
    · have hy := hy.1 c11
      refine ww_tableIn C (tg := 350) dL_law_32 p4 (by rw [c11]; decide) (by rw [c11]; decide) (o := 318) (by rw [c11]; rfl) (by decide) ?_
      exact ww_sub [0, 1, 2, 3] rfl (Nat.le_refl _) (Nat.le_refl _) hy
    have hy := hy.2 c11
    by_cases c12 : (iA ((xs x3.toNat).toInt) 15) = 7
    · have hy := hy.1 c12
      refine ww_tableIn C (tg := 363) dL_law_32 p4 (by rw [c12]; decide) (by rw [c12]; decide) (o := 331) (by rw [c12]; rfl) (by decide) ?_
      exact ww_sub [0, 1, 2, 3] rfl (Nat.le_refl _) (Nat.le_refl _) hy
    have hy := hy.2 c12
    by_cases c13 : (iA ((xs x3.toNat).toInt) 15) = 8
    · have hy := hy.1 c13
      refine ww_tableIn C (tg := 376) dL_law_32 p4 (by rw [c13]; decide) (by rw [c13]; decide) (o := 344) (by rw [c13]; rfl) (by decide) ?_
      exact ww_sub [0, 1, 2, 3] rfl (Nat.le_refl _) (Nat.le_refl _) hy
    have hy := hy.2 c13
    by_cases c14 : (iA ((xs x3.toNat).toInt) 15) = 9
    · have hy := hy.1 c14
      refine ww_tableIn C (tg := 389) dL_law_32 p4 (by rw [c14]; decide) (by rw [c14]; decide) (o := 357) (by rw [c14]; rfl) (by decide) ?_
      exact ww_sub [0, 1, 2, 3] rfl (Nat.le_refl _) (Nat.le_refl _) hy
    have hy := hy.2 c14
    by_cases c15 : (iA ((xs x3.toNat).toInt) 15) = 10
    · have hy := hy.1 c15
      refine ww_tableIn C (tg := 403) dL_law_32 p4 (by rw [c15]; decide) (by rw [c15]; decide) (o := 371) (by rw [c15]; rfl) (by decide) ?_
      exact ww_sub [0, 1, 2, 3] rfl (Nat.le_refl _) (Nat.le_refl _) hy
    have hy := hy.2 c15
    by_cases c16 : (iA ((xs x3.toNat).toInt) 15) = 11
    · have hy := hy.1 c16
      refine ww_tableIn C (tg := 416) dL_law_32 p4 (by rw [c16]; decide) (by rw [c16]; decide) (o := 384) (by rw [c16]; rfl) (by decide) ?_
      exact ww_sub [0, 1, 2, 3] rfl (Nat.le_refl _) (Nat.le_refl _) hy
    have hy := hy.2 c16
    by_cases c17 : (iA ((xs x3.toNat).toInt) 15) = 12
    · have hy := hy.1 c17
      refine ww_tableIn C (tg := 455) dL_law_32 p4 (by rw [c17]; decide) (by rw [c17]; decide) (o := 423) (by rw [c17]; rfl) (by decide) ?_
      exact ww_sub [0, 1, 2, 3] rfl (Nat.le_refl _) (Nat.le_refl _) hy
    have hy := hy.2 c17
    by_cases c18 : (iA ((xs x3.toNat).toInt) 15) = 13
    · have hy := hy.1 c18
      refine ww_tableIn C (tg := 478) dL_law_32 p4 (by rw [c18]; decide) (by rw [c18]; decide) (o := 446) (by rw [c18]; rfl) (by decide) ?_
      exact ww_sub [0, 1, 2, 3] rfl (Nat.le_refl _) (Nat.le_refl _) hy
    have hy := hy.2 c18
    by_cases c19 : (iA ((xs x3.toNat).toInt) 15) = 14
    · have hy := hy.1 c19
      refine ww_tableIn C (tg := 501) dL_law_32 p4 (by rw [c19]; decide) (by rw [c19]; decide) (o := 469) (by rw [c19]; rfl) (by decide) ?_
      exact ww_sub [0, 1, 2, 3] rfl (Nat.le_refl _) (Nat.le_refl _) hy
    have hy := hy.2 c19
    refine ww_tableOut C (tg := 514) dL_law_32 p4 (sw_out c5 c6 c7 c8 c9 c10 c11 c12 c13 c14 c15 c16 c17 c18 c19) (by decide) ?_
    exact ww_sub [0, 1, 2, 3] rfl (Nat.le_refl _) (Nat.le_refl _) hy
