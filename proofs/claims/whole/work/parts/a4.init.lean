/-! THE OBJECTS AS THEY ARE MADE: the class's own, and the model -/
theorem sp_init4 {G : xG} {l : Launch} {h : xH} {Po : Nat → xH → Prop} (ok : okO 1 h 0 4) (hp : ∀ h' f, isD 26 h' 0 0 0 0 → isU 26 h' [] f → isL 26 h' 4 5 400 [] → isN 26 h' 6 0 → isN 26 h' 8 0 → isN 26 h' 10 0 → isN 26 h' 12 0 → isQ 26 h' [] 0 → isZ 26 h' 0 0 0 0 → Po 26 h') : S_X4_init G l 0 1 h Po := by
  refine S_X4_init_of (fun k hl hin C E => X4_init_b0 (n0 := 0) C E hin 0 1 h (fun h1 e1 => ?_))
  have k1 : hF (sC 0) 1 h h1 := hF_nw e1 (Nat.le_refl _)
  have ok1 : okO 2 h1 1 2 := ⟨by decide, by rw [e1, hN_self]⟩
  refine sp_init2 ok1 (fun h2 f e2 u2 => ?_)
  have z2 : (h2 0).1 = 4 := by rw [(e2 0 (by decide)).1, (k1 0 (by decide)).1]; exact ok.2
  have o2 : okO 4 h2 0 4 := ⟨by decide, z2⟩
  have pe : ∀ {h3 h4 : xH} {j : Nat} {z : Int}, h4 = hS h3 0 j z → hE (sC 0) h3 h4 := fun e => hE.put' (S := sC 0) e rfl
  have nx : ∀ {n : Nat} {h3 h4 : xH} {j : Nat} {z : Int}, h4 = hS h3 0 j z → okO n h3 0 4 → okO n h4 0 4 := fun e o => ⟨o.1, by rw [e, hS_k]; exact o.2⟩
  refine ⟨o2, fun h5 e5 => ?_⟩
  have o5 := nx e5 o2
  have u5 := u2.mv (pe e5) (by decide) (by decide) (by decide)
  have g5 : hG h5 0 0 = 1 := by show (h5 0).2.2 0 = 1; rw [e5, hS_g, if_pos ⟨rfl, rfl⟩]; rfl
  rw [g5]
  refine ⟨o5, by decide, u5.ok, sp_lineOf u5 ⟨o5, fun h12 e12 h13 e13 => ?_⟩⟩
  have u12 := u5.mv (pe e12) (by decide) (by decide) (by decide)
  have o12 := nx e12 o5
  have k13 : hF (sC 4) 4 h12 h13 := hF_nw e13 (Nat.le_refl _)
  have ok13 : okO 5 h13 4 0 := ⟨by decide, by rw [e13, hN_self]⟩
  refine sp_initL ok13 (fun h14 e14 t14 => ?_)
  have k14 : hF (fun _ => False) 4 h12 h14 := fun i hi => ⟨by rw [(e14 i (by omega)).1, (k13 i hi).1], by rw [(e14 i (by omega)).2.1, (k13 i hi).2.1], fun _ => by rw [(e14 i (by omega)).2.2 (show ¬ i = 4 by omega), (k13 i hi).2.2 (show ¬ i = 4 by omega)]⟩
  have o14 : okO 6 h14 0 4 := ⟨by decide, by rw [(k14 0 (by decide)).1]; exact o12.2⟩
  have u14 : isU 6 h14 [] f := ⟨by rw [(k14 1 (by decide)).1]; exact u12.1, by rw [(k14 1 (by decide)).2.2 id]; exact u12.2.1, by rw [(k14 1 (by decide)).2.2 id]; exact u12.2.2.1, u12.2.2.2.fr k14 (by decide) id id⟩
  refine ⟨o14, fun h17 e17 => ⟨nx e17 o14, fun h19 e19 => ⟨nx e19 (nx e17 o14), Or.inl rfl, fun h22 e22 => ⟨nx e22 (nx e19 (nx e17 o14)), fun h24 e24 => ⟨nx e24 (nx e22 (nx e19 (nx e17 o14))), fun h26 e26 h27 e27 => ?_⟩⟩⟩⟩⟩
  have E26 : hE (sC 0) h14 h26 := ((((pe e17).tr (pe e19)).tr (pe e22)).tr (pe e24)).tr (pe e26)
  have o26 : (h26 0).1 = 4 := by rw [(E26 0).1]; exact o14.2
  have g26 : (h26 0).2.2 0 = 1 ∧ (h26 0).2.2 1 = 2 ∧ (h26 0).2.2 2 = 4 ∧ (h26 0).2.2 3 = 0 ∧ (h26 0).2.2 4 = 0 ∧ (h26 0).2.2 5 = 0 ∧ (h26 0).2.2 6 = 0 := by
    have a0 : (h14 0).2.2 0 = 1 ∧ (h14 0).2.2 1 = 2 := by
      rw [(k14 0 (by decide)).2.2 id]
      refine ⟨?_, ?_⟩
      · rw [e12, hS_g, if_neg (by omega)]; exact g5
      · rw [e12, hS_g, if_pos ⟨rfl, rfl⟩]; rfl
    refine ⟨?_, ?_, ?_, ?_, ?_, ?_, ?_⟩ <;> simp only [e26, e24, e22, e19, e17, hS_g]
    · simpa using a0.1
    · simpa using a0.2
    all_goals rfl
  have u26 := u14.mv E26 (by decide) (by decide) (by decide)
  have t26 := t14.mv E26 (by decide) (by decide)
  refine new_nat (a := 6) (c := 0) (f := 7) (κ := 4) (by decide) o26 e27 (fun p1 q1 c1 i1 h32 e32 => ?_)
  have o1 : (p1 0).1 = 4 := by rw [(q1 0 (by decide)).1]; exact o26
  refine new_nat (a := 8) (c := 0) (f := 8) (κ := 4) (by decide) o1 e32 (fun p2 q2 c2 i2 h37 e37 => ?_)
  have o2' : (p2 0).1 = 4 := by rw [(q2 0 (by decide)).1]; exact o1
  refine new_nat (a := 10) (c := 0) (f := 9) (κ := 4) (by decide) o2' e37 (fun p3 q3 c3 i3 h42 e42 => ?_)
  have o3 : (p3 0).1 = 4 := by rw [(q3 0 (by decide)).1]; exact o2'
  refine new_nat (a := 12) (c := 0) (f := 10) (κ := 4) (by decide) o3 e42 (fun p4 q4 c4 i4 h47 e47 => ?_)
  have o4 : (p4 0).1 = 4 := by rw [(q4 0 (by decide)).1]; exact o3
  have ok47 : okO 15 h47 14 3 := ⟨by decide, by rw [e47, hN_self]⟩
  refine sp_init3 ok47 (fun h48 e48 t48 z48 => ?_)
  have k48 : hF (fun _ => False) 14 p4 h48 := fun i hi => ⟨by rw [(e48 i (by omega)).1, e47, hN_ne _ _ (by omega)], by rw [(e48 i (by omega)).2.1, e47, hN_ne _ _ (by omega)], fun _ => by rw [(e48 i (by omega)).2.2 (show ¬ i = 14 by omega), e47, hN_ne _ _ (by omega)]⟩
  have o48 : okO 26 h48 0 4 := ⟨by decide, by rw [(k48 0 (by decide)).1]; exact o4⟩
  refine ⟨o48, fun h51 e51 => ?_⟩
  have E51 := pe e51
  have ne : ∀ {i : Nat}, 1 ≤ i → ¬ sC 0 i := fun hi (z : _ = 0) => by omega
  have all : hF (sC 0) 6 h26 h51 := (((((hF.le q1 (by decide)).tr (hF.le q2 (by decide)) (Nat.le_refl 6)).tr (hF.le q3 (by decide)) (Nat.le_refl 6)).tr (hF.le q4 (by decide)) (Nat.le_refl 6)).tr (hF.le (hF.mono k48 (fun _ _ z => z.elim)) (by decide)) (Nat.le_refl 6)).tr (E51.f (n := 6)) (Nat.le_refl 6)
  have fl : ∀ j : Nat, (h51 0).2.2 j = if j = 11 then 14 else if j = 10 then 12 else if j = 9 then 10 else if j = 8 then 8 else if j = 7 then 6 else (h26 0).2.2 j := by
    intro j; rw [e51, hS_self]; show (if j = 11 then _ else _) = _; rw [(k48 0 (by decide)).2.2 id, c4, c3, c2, c1]; rfl
  have fin : ∀ {a : Nat} {v : Int}, isN 14 p4 a v → 1 ≤ a → isN 26 h51 a v := fun t ha => (t.fr k48 (by decide) id id).fr (E51.f (n := 26)) (Nat.le_refl _) (ne ha) (ne (by omega))
  refine hp h51 f ⟨⟨by decide, by rw [(all 0 (by decide)).1]; exact o26, ⟨by rw [fl]; exact g26.1, by rw [fl]; exact g26.2.1, by rw [fl]; exact g26.2.2.1⟩, ⟨by rw [fl]; rfl, by rw [fl]; rfl, by rw [fl]; rfl, by rw [fl]; rfl, by rw [fl]; rfl⟩⟩, by rw [fl]; exact g26.2.2.2.1, by rw [fl]; exact g26.2.2.2.2.1, by rw [fl]; exact g26.2.2.2.2.2.1, by rw [fl]; exact g26.2.2.2.2.2.2⟩ ⟨by rw [(all 1 (by decide)).1]; exact u26.1, by rw [(all 1 (by decide)).2.2 (ne (by decide))]; exact u26.2.1, by rw [(all 1 (by decide)).2.2 (ne (by decide))]; exact u26.2.2.1, u26.2.2.2.fr all (by decide) (ne (by decide)) (ne (by decide))⟩ (t26.fr all (by decide) (ne (by decide)) (ne (by decide))) (fin (((i1.fr q2 (by decide) (ne (by decide)) (ne (by decide))).fr q3 (by decide) (ne (by decide)) (ne (by decide))).fr q4 (by decide) (ne (by decide)) (ne (by decide))) (by decide)) (fin ((i2.fr q3 (by decide) (ne (by decide)) (ne (by decide))).fr q4 (by decide) (ne (by decide)) (ne (by decide))) (by decide)) (fin (i3.fr q4 (by decide) (ne (by decide)) (ne (by decide))) (by decide)) (fin i4 (by decide)) (t48.mv E51 (ne (by decide)) (ne (by decide))) (z48.mv E51 (fun i hi _ => ne (by omega)))
/-- the model with k of its rows made -/
def mR (k : Nat) (h0 h : xH) : Prop := (h 26).1 = 8 ∧ (∀ j, j < k → (h 26).2.2 j = ((27 + j : Nat) : Int) ∧ (h (27 + j)).1 = 100 ∧ (h (27 + j)).2.1 = mLen.getD j 0) ∧ (h 27).2.2 0 = 1 ∧ ((h 26).2.2 21 = 0 ∧ (h 26).2.2 24 = 0 ∧ (h 26).2.2 25 = -1) ∧ hF (sC 26) 26 h0 h
theorem mR_step {k m : Nat} {h0 h h1 h2 : xH} (hk : k < 19) (hk1 : 1 ≤ k) (hm : m = mLen.getD k 0) (t : mR k h0 h) (e1 : h1 = hN h (27 + k) (100, m, fun _ => 0)) (e2 : h2 = hS h1 26 k ((27 + k : Nat) : Int)) : mR (k + 1) h0 h2 := by
  obtain ⟨t1, t2, t3, t4, t5⟩ := t
  have c26 : h1 26 = h 26 := by rw [e1, hN_ne _ _ (by omega)]
  have g : ∀ j, (h2 26).2.2 j = if j = k then ((27 + k : Nat) : Int) else (h 26).2.2 j := fun j => by rw [e2, hS_self]; show (if j = k then _ else (h1 26).2.2 j) = _; rw [c26]
  have r : ∀ j, j < k → h2 (27 + j) = h (27 + j) := fun j hj => by rw [e2, hS_ne _ _ _ (by omega), e1, hN_ne _ _ (by omega)]
  refine ⟨by rw [e2, hS_k, c26]; exact t1, fun j hj => ?_, ?_, ?_, t5.tr ((hF_nw e1 (by omega)).tr (m := 26) (hE.put' (S := sC 26) e2 rfl).f (Nat.le_refl _)) (Nat.le_refl _)⟩
  · rcases Nat.lt_or_ge j k with y | y
    · rw [g, if_neg (by omega), r j y]; exact t2 j y
    · have : j = k := by omega
      subst this
      have e : h2 (27 + j) = (100, m, fun _ => 0) := by rw [e2, hS_ne _ _ _ (by omega), e1, hN_self]
      rw [g, if_pos rfl, e]
      exact ⟨rfl, rfl, hm⟩
  · rw [show h2 27 = h 27 from r 0 (by omega)]; exact t3
  · rw [g, g, g, if_neg (by omega), if_neg (by omega), if_neg (by omega)]; exact t4
theorem sp_init9 {G : xG} {l : Launch} {h : xH} {Po : Nat → xH → Prop} (ok : okO 27 h 26 8) (h21 : (h 26).2.2 21 = 0) (h24 : (h 26).2.2 24 = 0) (h25 : (h 26).2.2 25 = -1) (hp : ∀ h' fc, hF (sC 26) 26 h h' → isWr 48 h' [] fc 0 (-1) → Po 48 h') : S_X9_init G l 26 27 h Po := by
  refine S_X9_init_of (fun k hl hin C E => X9_init_b0 (n0 := 0) C E hin 26 27 h ⟨⟨by decide, by decide⟩, fun a2 b2 => ?_⟩)
  have k2 : hF (sC 26) 26 h a2 := hF_nw b2 (by decide)
  have c2 : a2 26 = h 26 := by rw [b2, hN_ne _ _ (by decide)]
  have d2 : a2 27 = (100, 1, fun _ => 0) := by rw [b2, hN_self]
  refine ⟨⟨by decide, by rw [d2], by decide, by rw [d2]; decide⟩, fun a4 b4 => ?_⟩
  have c4 : a4 26 = h 26 := by rw [b4, hS_ne _ _ _ (by decide), c2]
  refine ⟨⟨by decide, by rw [c4]; exact ok.2⟩, fun v0 w0 => ?_⟩
  have t1 : mR 1 h v0 := by
    have g : ∀ j, (v0 26).2.2 j = if j = 0 then (27 : Int) else (h 26).2.2 j := fun j => by rw [w0, hS_self]; show (if j = 0 then _ else (a4 26).2.2 j) = _; rw [c4]; rfl
    have e27 : v0 27 = a4 27 := by rw [w0, hS_ne _ _ _ (by decide)]
    have k4 : hF (sC 26) 26 a2 a4 := fun i hi => by rw [b4, hS_ne _ _ _ (by omega)]; exact ⟨rfl, rfl, fun _ => rfl⟩
    refine ⟨by rw [w0, hS_k, c4]; exact ok.2, fun j hj => ?_, ?_, ?_, k2.tr (k4.tr (hE.put' (S := sC 26) w0 rfl).f (Nat.le_refl 26)) (Nat.le_refl 26)⟩
    · have : j = 0 := by omega
      subst this
      rw [g, if_pos rfl]
      show (27 : Int) = _ ∧ (v0 27).1 = 100 ∧ (v0 27).2.1 = 1
      rw [e27, b4, hS_k, hS_l, d2]; exact ⟨rfl, rfl, rfl⟩
    · rw [e27, b4, hS_g, if_pos ⟨rfl, rfl⟩]
    · rw [g, g, g]; exact ⟨h21, h24, h25⟩

  refine ⟨⟨by decide, by decide⟩, fun u1 x1 => ⟨⟨by decide, by rw [x1, hN_ne _ _ (by decide)]; exact t1.1⟩, fun v1 w1 => ?_⟩⟩
  have t2 := mR_step (k := 1) (by decide) (by decide) rfl t1 x1 w1
  refine ⟨⟨by decide, by decide⟩, fun u2 x2 => ⟨⟨by decide, by rw [x2, hN_ne _ _ (by decide)]; exact t2.1⟩, fun v2 w2 => ?_⟩⟩
  have t3 := mR_step (k := 2) (by decide) (by decide) rfl t2 x2 w2
  refine ⟨⟨by decide, by decide⟩, fun u3 x3 => ⟨⟨by decide, by rw [x3, hN_ne _ _ (by decide)]; exact t3.1⟩, fun v3 w3 => ?_⟩⟩
  have t4 := mR_step (k := 3) (by decide) (by decide) rfl t3 x3 w3
  refine ⟨⟨by decide, by decide⟩, fun u4 x4 => ⟨⟨by decide, by rw [x4, hN_ne _ _ (by decide)]; exact t4.1⟩, fun v4 w4 => ?_⟩⟩
  have t5 := mR_step (k := 4) (by decide) (by decide) rfl t4 x4 w4
  refine ⟨⟨by decide, by decide⟩, fun u5 x5 => ⟨⟨by decide, by rw [x5, hN_ne _ _ (by decide)]; exact t5.1⟩, fun v5 w5 => ?_⟩⟩
  have t6 := mR_step (k := 5) (by decide) (by decide) rfl t5 x5 w5
  refine ⟨⟨by decide, by decide⟩, fun u6 x6 => ⟨⟨by decide, by rw [x6, hN_ne _ _ (by decide)]; exact t6.1⟩, fun v6 w6 => ?_⟩⟩
  have t7 := mR_step (k := 6) (by decide) (by decide) rfl t6 x6 w6
  refine ⟨⟨by decide, by decide⟩, fun u7 x7 => ⟨⟨by decide, by rw [x7, hN_ne _ _ (by decide)]; exact t7.1⟩, fun v7 w7 => ?_⟩⟩
  have t8 := mR_step (k := 7) (by decide) (by decide) rfl t7 x7 w7
  refine ⟨⟨by decide, by decide⟩, fun u8 x8 => ⟨⟨by decide, by rw [x8, hN_ne _ _ (by decide)]; exact t8.1⟩, fun v8 w8 => ?_⟩⟩
  have t9 := mR_step (k := 8) (by decide) (by decide) rfl t8 x8 w8
  refine ⟨⟨by decide, by decide⟩, fun u9 x9 => ⟨⟨by decide, by rw [x9, hN_ne _ _ (by decide)]; exact t9.1⟩, fun v9 w9 => ?_⟩⟩
  have t10 := mR_step (k := 9) (by decide) (by decide) rfl t9 x9 w9
  refine ⟨⟨by decide, by decide⟩, fun u10 x10 => ⟨⟨by decide, by rw [x10, hN_ne _ _ (by decide)]; exact t10.1⟩, fun v10 w10 => ?_⟩⟩
  have t11 := mR_step (k := 10) (by decide) (by decide) rfl t10 x10 w10
  refine ⟨⟨by decide, by decide⟩, fun u11 x11 => ⟨⟨by decide, by rw [x11, hN_ne _ _ (by decide)]; exact t11.1⟩, fun v11 w11 => ?_⟩⟩
  have t12 := mR_step (k := 11) (by decide) (by decide) rfl t11 x11 w11
  refine ⟨⟨by decide, by decide⟩, fun u12 x12 => ⟨⟨by decide, by rw [x12, hN_ne _ _ (by decide)]; exact t12.1⟩, fun v12 w12 => ?_⟩⟩
  have t13 := mR_step (k := 12) (by decide) (by decide) rfl t12 x12 w12
  refine ⟨⟨by decide, by decide⟩, fun u13 x13 => ⟨⟨by decide, by rw [x13, hN_ne _ _ (by decide)]; exact t13.1⟩, fun v13 w13 => ?_⟩⟩
  have t14 := mR_step (k := 13) (by decide) (by decide) rfl t13 x13 w13
  refine ⟨⟨by decide, by decide⟩, fun u14 x14 => ⟨⟨by decide, by rw [x14, hN_ne _ _ (by decide)]; exact t14.1⟩, fun v14 w14 => ?_⟩⟩
  have t15 := mR_step (k := 14) (by decide) (by decide) rfl t14 x14 w14
  refine ⟨⟨by decide, by decide⟩, fun u15 x15 => ⟨⟨by decide, by rw [x15, hN_ne _ _ (by decide)]; exact t15.1⟩, fun v15 w15 => ?_⟩⟩
  have t16 := mR_step (k := 15) (by decide) (by decide) rfl t15 x15 w15
  refine ⟨⟨by decide, by decide⟩, fun u16 x16 => ⟨⟨by decide, by rw [x16, hN_ne _ _ (by decide)]; exact t16.1⟩, fun v16 w16 => ?_⟩⟩
  have t17 := mR_step (k := 16) (by decide) (by decide) rfl t16 x16 w16
  refine ⟨⟨by decide, by decide⟩, fun u17 x17 => ⟨⟨by decide, by rw [x17, hN_ne _ _ (by decide)]; exact t17.1⟩, fun v17 w17 => ?_⟩⟩
  have t18 := mR_step (k := 17) (by decide) (by decide) rfl t17 x17 w17
  refine ⟨⟨by decide, by decide⟩, fun u18 x18 => ⟨⟨by decide, by rw [x18, hN_ne _ _ (by decide)]; exact t18.1⟩, fun v18 w18 => ?_⟩⟩
  have t19 := mR_step (k := 18) (by decide) (by decide) rfl t18 x18 w18
  refine ⟨⟨by decide, by decide⟩, fun ua xa => ?_⟩
  have ca : ua 26 = v18 26 := by rw [xa, hN_ne _ _ (by decide)]
  refine ⟨⟨by decide, by rw [ca]; exact t19.1⟩, fun va wa => ?_⟩
  have oa : okO 47 va 26 8 := ⟨by decide, by rw [wa, hS_k, ca]; exact t19.1⟩
  have ga : ∀ j, (va 26).2.2 j = if j = 20 then (46 : Int) else (v18 26).2.2 j := fun j => by rw [wa, hS_self]; show (if j = 20 then _ else (ua 26).2.2 j) = _; rw [ca]; rfl
  have g0 : hG va 26 0 = 27 := by show (va 26).2.2 0 = 27; rw [ga, if_neg (by decide)]; exact (t19.2.1 0 (by decide)).1
  rw [g0]
  refine ⟨oa, by decide, oa, fun vb wb => ⟨⟨by decide, by decide⟩, fun ud xd => ⟨⟨by decide, by rw [xd, hN_ne _ _ (by decide), wb, hS_k]; exact oa.2⟩, fun ve we => ?_⟩⟩⟩
  have gb : ∀ j, (ve 26).2.2 j = if j = 23 then (47 : Int) else if j = 22 then 27 else if j = 20 then 46 else (v18 26).2.2 j := fun j => by
    rw [we, hS_self]
    show (if j = 23 then _ else (ud 26).2.2 j) = _
    rw [xd, hN_ne _ _ (by decide), wb, hS_self]
    show (if j = 23 then _ else if j = 22 then _ else (va 26).2.2 j) = _
    rw [ga]; rfl
  have rb : ∀ i : Nat, i ≠ 26 → i ≠ 47 → ve i = ua i := fun i h1 h2 => by rw [we, hS_ne _ _ _ h1, xd, hN_ne _ _ h2, wb, hS_ne _ _ _ h1, wa, hS_ne _ _ _ h1]
  have rc : ∀ i : Nat, i ≠ 26 → i ≠ 47 → i ≠ 46 → ve i = v18 i := fun i h1 h2 h3 => by rw [rb i h1 h2, xa, hN_ne _ _ h3]
  refine hp ve ((ve 26).2.2 19) (fun i hi => ?_) ⟨⟨⟨by decide, ?_, fun k hk => ?_, by rw [gb]; rfl, by rw [gb]; rfl, fun k hk => ?_, ?_, ?_, ?_⟩, ?_, ?_, ?_⟩, by decide, fun i hi => absurd hi (Nat.not_lt_zero _), rfl⟩
  · have := t19.2.2.2.2 i hi
    rcases Nat.lt_or_ge i 26 with y | y
    · rw [rc i (by omega) (by omega) (by omega)]; exact this
    · omega
  · rw [we, hS_k, xd, hN_ne _ _ (by decide), wb, hS_k]; exact oa.2
  · rw [gb, if_neg (by omega), if_neg (by omega), if_neg (by omega)]; exact (t19.2.1 k (by omega)).1
  · rw [rc (27 + k) (by omega) (by omega) (by omega)]; exact (t19.2.1 k (by omega)).2
  · rw [rb 46 (by decide) (by decide), xa]
    exact ⟨congrArg (fun c : xC => c.1) (hN_self _ _ _), congrArg (fun c : xC => c.2.1) (hN_self _ _ _)⟩
  · rw [we, hS_ne _ _ _ (by decide), xd]
    exact ⟨congrArg (fun c : xC => c.1) (hN_self _ _ _), congrArg (fun c : xC => c.2.1) (hN_self _ _ _)⟩
  · rw [rc 27 (by decide) (by decide) (by decide)]; exact t19.2.2.1
  · rw [gb]; exact t19.2.2.2.1.1
  · rw [gb]; exact t19.2.2.2.1.2.1
  · rw [gb]; exact t19.2.2.2.1.2.2
