/-! THE LAW: every step keeps them side by side -/
theorem law_loop {G : xG} {k : xK} {b0 N : Nat} {xs : Nat → Int32} (hX : va_X b0 N xs (ks k) (ks k).heap) (hbl : b0 < (ks k).heap.size) (hbA : ¬ xA G b0) (C : CC G k cL_law RL 4 room_1) (hN : N ≤ 2560) (hE : ∀ (cn sn n : Nat) (h : xH) (x3 : Int), cn ≤ 600000 → sn ≤ 7302250 → WW G k 4 cn sn 521 [(0, .ref b0), (1, rf G 0), (2, rf G 26), (3, .int (iz x3))] [.int (iz 1)] n h) :
    ∀ (d i : Nat), 513 - i = d → ∀ (cn sn n : Nat) (h : xH), i ≤ 512 → Iv n h → cn ≤ 48 + 40 * i → sn ≤ 16509 + 12000 * i → L_law_w18 G k cn sn b0 0 26 ((5 * i : Nat) : Int) n h := by
  intro d
  induction d with
  | zero => intro i hd cn sn n h hi; omega
  | succ d ih =>
    intro i hd cn sn n h hi I hcn hsn
    generalize hx3 : ((5 * i : Nat) : Int) = x3
    have hcn' : cn + 40 ≤ 600000 := by omega
    have hsn' : sn + 12000 ≤ 7302250 := by omega
    refine L_law_b18 hX hbl hbA C cn sn hcn' hsn' 0 26 x3 n h ⟨⟨rgS (by omega) (by omega), rgS (by omega) (by omega)⟩, fun _ => hE cn sn n h x3 (by omega) (by omega), fun y => ?_⟩
    have hi5 : 5 * i + 5 ≤ N := by omega
    have I0 : 0 ≤ x3 ∧ x3 < (N : Int) ∧ x3 ≤ 2147483647 := by omega
    have I1 : 0 ≤ x3 + 1 ∧ x3 + 1 < (N : Int) ∧ x3 + 1 ≤ 2147483647 := by omega
    have I2 : 0 ≤ x3 + 2 ∧ x3 + 2 < (N : Int) ∧ x3 + 2 ≤ 2147483647 := by omega
    have I3 : 0 ≤ x3 + 3 ∧ x3 + 3 < (N : Int) ∧ x3 + 3 ≤ 2147483647 := by omega
    have I4 : 0 ≤ x3 + 4 ∧ x3 + 4 < (N : Int) ∧ x3 + 4 ≤ 2147483647 := by omega
    have R : ∀ j : Nat, rg ((xs j).toInt) := fun j => rg_toInt _
    have w514 : ∀ (cn' sn' n' : Nat) (h' : xH), cn' ≤ cn + 40 → sn' ≤ sn + 12000 → Iv n' h' → L_law_w514 G k cn' sn' b0 0 26 x3 n' h' := by
      intro cn' sn' n' h' c1 c2 J
      have q0 : i + 1 ≤ 512 := by omega
      have q1 : cn' ≤ 48 + 40 * (i + 1) := by rw [Nat.mul_add]; omega
      have q2 : sn' ≤ 16509 + 12000 * (i + 1) := Nat.le_trans c2 (Nat.le_trans (Nat.add_le_add_right hsn 12000) (Nat.le_of_eq (by rw [Nat.mul_add, Nat.mul_one, Nat.add_assoc])))
      have := ih (i + 1) (by omega) cn' sn' n' h' q0 J q1 q2
      rw [show ((5 * (i + 1) : Nat) : Int) = x3 + 5 by omega] at this
      exact L_law_b514 hX hbl hbA C cn' sn' (by omega) (by omega) 0 26 x3 n' h' this
    have K0 : ∀ n' h', Iv n' h' → L_law_w514 G k cn sn b0 0 26 x3 n' h' := fun n' h' J => w514 cn sn n' h' (by omega) (by omega) J
    refine ⟨I0, rg_toInt _, fun _ => L_law_b108 hX hbl hbA C cn sn hcn' hsn' 0 26 x3 n h ⟨I1, lw_type I1 I (R _) (fun h' J => K0 n h' J)⟩, fun _ => ?_⟩
    refine ⟨fun _ => L_law_b131 hX hbl hbA C cn sn hcn' hsn' 0 26 x3 n h (lw_clear (K := fun n' h' => L_law_w514 G k cn sn b0 0 26 x3 n' h') I (fun h' J => K0 n h' J)), fun _ => ?_⟩
    refine ⟨fun _ => L_law_b142 hX hbl hbA C cn sn hcn' hsn' 0 26 x3 n h (lw_read I (fun n' h' J => w514 _ _ n' h' (by omega) (by omega) J)), fun _ => ?_⟩
    refine ⟨fun _ => L_law_b155 hX hbl hbA C cn sn hcn' hsn' 0 26 x3 n h ?_, fun _ => ?_⟩
    · have mk : ∀ s0 : Int, (s0 = 0 ∨ s0 = 1) → (∀ z h', L_law_w211 G k cn sn b0 0 26 x3 s0 26 z n h' → ((((xs (x3 + 1).toNat).toInt) = 0 → L_law_w211 G k cn sn b0 0 26 x3 0 26 z n h') ∧ (¬ ((xs (x3 + 1).toNat).toInt) = 0 → L_law_w211 G k cn sn b0 0 26 x3 1 26 z n h'))) → L_law_w169 G k cn sn b0 0 26 x3 s0 0 n h := by
        intro s0 hs0 hsel
        refine L_law_b169 hX hbl hbA C cn sn hcn' hsn' 0 26 x3 s0 0 n h ⟨I2, R _, I3, R _, I4, lw_make I hs0 (rgL_toInt _) (R _) (fun z h' P => ⟨I1, R _, hsel z h' (L_law_b211 hX hbl hbA C cn sn hcn' hsn' 0 26 x3 s0 26 z n h' ⟨I2, R _, I3, R _, I4, P⟩)⟩) (fun n' h' J => w514 _ _ n' h' (by omega) (by omega) J)⟩
      exact ⟨I1, R _, fun y0 => mk 0 (Or.inl rfl) (fun z h' P => ⟨fun _ => P, fun y1 => absurd y0 y1⟩), fun y0 => mk 1 (Or.inr rfl) (fun z h' P => ⟨fun y1 => absurd y1 y0, fun _ => P⟩)⟩
    refine ⟨fun _ => L_law_b244 hX hbl hbA C cn sn hcn' hsn' 0 26 x3 n h ⟨I1, R _, I2, R _, I3, R _, I4, R _, lw_divide (B := fun _ _ P => _ ∧ _ ∧ _ ∧ _ ∧ _ ∧ _ ∧ _ ∧ _ ∧ P) (fun z h' P hP => ⟨I1, R _, I2, R _, I3, R _, I4, R _, hP⟩) I (rgL_toInt _) (rgL_toInt _) (fun n' h' J => w514 _ _ n' h' (by omega) (by omega) J)⟩, fun _ => ?_⟩
    refine ⟨fun _ => L_law_b337 hX hbl hbA C cn sn hcn' hsn' 0 26 x3 n h (lw_exact I (fun n' h' J => w514 _ _ n' h' (by omega) (by omega) J)), fun _ => ?_⟩
    refine ⟨fun _ => L_law_b350 hX hbl hbA C cn sn hcn' hsn' 0 26 x3 n h (lw_inexact I (fun n' h' J => w514 _ _ n' h' (by omega) (by omega) J)), fun _ => ?_⟩
    refine ⟨fun _ => L_law_b363 hX hbl hbA C cn sn hcn' hsn' 0 26 x3 n h (lw_kind I (fun h' J => K0 n h' J)), fun _ => ?_⟩
    refine ⟨fun _ => L_law_b376 hX hbl hbA C cn sn hcn' hsn' 0 26 x3 n h (lw_negative I (fun h' J => K0 n h' J)), fun _ => ?_⟩
    refine ⟨fun _ => L_law_b389 hX hbl hbA C cn sn hcn' hsn' 0 26 x3 n h (lw_units I (fun h' J => K0 n h' J)), fun _ => ?_⟩
    refine ⟨fun _ => L_law_b403 hX hbl hbA C cn sn hcn' hsn' 0 26 x3 n h (lw_place I (fun h' J => K0 n h' J)), fun _ => ?_⟩
    refine ⟨fun _ => L_law_b416 hX hbl hbA C cn sn hcn' hsn' 0 26 x3 n h ?_, fun _ => ?_⟩
    · have mk : ∀ s0 : Int, (s0 = 0 ∨ s0 = 1) → (∀ z h', L_law_w447 G k cn sn b0 0 26 x3 s0 26 z n h' → ((((xs (x3 + 1).toNat).toInt) = 0 → L_law_w447 G k cn sn b0 0 26 x3 0 26 z n h') ∧ (¬ ((xs (x3 + 1).toNat).toInt) = 0 → L_law_w447 G k cn sn b0 0 26 x3 1 26 z n h'))) → L_law_w430 G k cn sn b0 0 26 x3 s0 0 n h := by
        intro s0 hs0 hsel
        refine L_law_b430 hX hbl hbA C cn sn hcn' hsn' 0 26 x3 s0 0 n h (lw_bitsC I hs0 (fun z h' P => ⟨I1, R _, hsel z h' (L_law_b447 hX hbl hbA C cn sn hcn' hsn' 0 26 x3 s0 26 z n h' P)⟩) (fun n' h' J => w514 _ _ n' h' (by omega) (by omega) J))
      exact ⟨I1, R _, fun y0 => mk 0 (Or.inl rfl) (fun z h' P => ⟨fun _ => P, fun y1 => absurd y0 y1⟩), fun y0 => mk 1 (Or.inr rfl) (fun z h' P => ⟨fun y1 => absurd y1 y0, fun _ => P⟩)⟩
    refine ⟨fun _ => L_law_b455 hX hbl hbA C cn sn hcn' hsn' 0 26 x3 n h ⟨I1, lw_write I1 I (R _) (fun n' h' J => w514 _ _ n' h' (by omega) (by omega) J)⟩, fun _ => ?_⟩
    refine ⟨fun _ => L_law_b478 hX hbl hbA C cn sn hcn' hsn' 0 26 x3 n h ⟨I1, lw_out I1 I (R _) (fun h' J => K0 n h' J)⟩, fun _ => ?_⟩
    exact ⟨fun _ => L_law_b501 hX hbl hbA C cn sn hcn' hsn' 0 26 x3 n h (lw_back I (fun h' J => K0 n h' J)), fun _ => K0 n h I⟩
