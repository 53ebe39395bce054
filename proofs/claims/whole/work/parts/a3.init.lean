/-! THE OBJECTS AS THEY ARE MADE -/
theorem hF_nw {S : Nat → Prop} {n a : Nat} {h h' : xH} {X : xC} (e : h' = hN h a X) (ha : n ≤ a) : hF S n h h' := fun i hi => by
  rw [e, hN_ne _ _ (by omega)]; exact ⟨rfl, rfl, fun _ => rfl⟩
theorem hF.le {S : Nat → Prop} {n m : Nat} {h h' : xH} (e : hF S m h h') (hn : n ≤ m) : hF S n h h' := fun i hi => e i (by omega)
theorem new_nat {G : xG} {l : Launch} {h h1 : xH} {K : Nat → xH → Prop} {a c f κ : Nat} (hc : c < a) (hk : (h c).1 = κ) (e1 : h1 = hN h a (1, 0, xZ 1)) (hp : ∀ h'', hF (sC c) a h h'' → (h'' c).2.2 = (fun j => if j = f then (a : Int) else (h c).2.2 j) → isN (a + 1 + 1) h'' a 0 → K (a + 1 + 1) h'') : S_X1_init G l a (a + 1) h1 (fun n' h' => okO n' h' c κ ∧ ∀ h'', h'' = hS h' c f ((a : Nat) : Int) → K n' h'') := by
  have ok1 : okO (a + 1) h1 a 1 := ⟨by omega, by rw [e1, hN_self]⟩
  refine sp_initN a rfl ok1 (fun h2 e2 t2 => ?_)
  have k2 : hF (sC c) a h h2 := (hF_nw e1 (Nat.le_refl a)).tr (m := a) (fun i hi => ⟨(e2 i (by omega)).1, (e2 i (by omega)).2.1, fun _ => (e2 i (by omega)).2.2 (show ¬ i = a by omega)⟩) (Nat.le_refl a)
  have c2 : (h2 c).2.2 = (h c).2.2 := by
    rw [(e2 c (by omega)).2.2 (show ¬ c = a by omega), e1, hN_ne _ _ (by omega)]
  refine ⟨⟨by omega, by rw [(k2 c hc).1]; exact hk⟩, fun h3 e3 => hp h3 (k2.tr (hE.put' (S := sC c) e3 rfl).f (Nat.le_refl a)) ?_ (t2.fr ((hE.put' (S := sC c) e3 rfl).f) (Nat.le_refl _) (show ¬ a = c by omega) (show ¬ a + 1 = c by omega))⟩
  rw [e3, hS_self, c2]
theorem sp_lineOf {G : xG} {l : Launch} {n : Nat} {h : xH} {T : List Int} {f : Nat → Int} {Po : Nat → xH → Prop} (q : isU n h T f) (hp : Po 2 h) : S_X2_line G l 1 n h Po := by
  refine S_X2_line_of (fun k hl C E => X2_line_b0 C E 1 n h rfl ⟨q.ok, q.w0, ?_⟩)
  rw [q.w]; exact hp
theorem sp_init2 {G : xG} {l : Launch} {h : xH} {Po : Nat → xH → Prop} (ok : okO 2 h 1 2) (hp : ∀ h' f, hF (sC 1) 2 h h' → isU 4 h' [] f → Po 4 h') : S_X2_init G l 1 2 h Po := by
  refine S_X2_init_of (fun k hl hin C E => X2_init_b0 (n0 := 0) C E hin 1 2 h (fun h1 e1 => ?_))
  have ok1 : okO 3 h1 2 0 := ⟨by decide, by rw [e1, hN_self]⟩
  refine sp_initL ok1 (fun h2 e2 t2 => ?_)
  have k2 : hF (sC 1) 2 h h2 := (hF_nw e1 (Nat.le_refl 2)).tr (m := 2) (fun i hi => ⟨(e2 i (by omega)).1, (e2 i (by omega)).2.1, fun _ => (e2 i (by omega)).2.2 (show ¬ i = 2 by omega)⟩) (Nat.le_refl 2)
  have o2 : okO 4 h2 1 2 := ⟨by decide, by rw [(k2 1 (by decide)).1]; exact ok.2⟩
  have nx : ∀ {h3 h4 : xH} {j : Nat} {z : Int}, h4 = hS h3 1 j z → okO 4 h3 1 2 → okO 4 h4 1 2 := fun e o => ⟨o.1, by rw [e, hS_k]; exact o.2⟩
  refine ⟨o2, fun h5 e5 => ⟨nx e5 o2, fun h7 e7 => ⟨nx e7 (nx e5 o2), fun h9 e9 => ⟨nx e9 (nx e7 (nx e5 o2)), fun h11 e11 => ⟨nx e11 (nx e9 (nx e7 (nx e5 o2))), Or.inl rfl, fun h14 e14 => ⟨nx e14 (nx e11 (nx e9 (nx e7 (nx e5 o2)))), Or.inl rfl, fun h17 e17 => ⟨nx e17 (nx e14 (nx e11 (nx e9 (nx e7 (nx e5 o2))))), fun h19 e19 => ⟨nx e19 (nx e17 (nx e14 (nx e11 (nx e9 (nx e7 (nx e5 o2)))))), fun h21 e21 => ?_⟩⟩⟩⟩⟩⟩⟩⟩
  have pe : ∀ {h3 h4 : xH} {j : Nat} {z : Int}, h4 = hS h3 1 j z → hE (sC 1) h3 h4 := fun e => hE.put' (S := sC 1) e rfl
  have E : hE (sC 1) h2 h21 := (((((((pe e5).tr (pe e7)).tr (pe e9)).tr (pe e11)).tr (pe e14)).tr (pe e17)).tr (pe e19)).tr (pe e21)
  refine hp h21 ((h21 1).2.2) (k2.tr (E.f (n := 2)) (Nat.le_refl 2)) ⟨by rw [(E 1).1]; exact o2.2, ?_, fun k _ _ => rfl, t2.mv E (show ¬ 2 = 1 by decide) (show ¬ 3 = 1 by decide)⟩
  rw [e21, hS_g, if_neg (by omega), e19, hS_g, if_neg (by omega), e17, hS_g, if_neg (by omega), e14, hS_g, if_neg (by omega), e11, hS_g, if_neg (by omega), e9, hS_g, if_neg (by omega), e7, hS_g, if_neg (by omega), e5, hS_g, if_pos ⟨rfl, rfl⟩]; rfl
theorem sp_init3 {G : xG} {l : Launch} {h : xH} {Po : Nat → xH → Prop} (ok : okO 15 h 14 3) (hp : ∀ h', hF (sC 14) 15 h h' → isQ 26 h' [] 0 → isZ 26 h' 0 0 0 0 → Po 26 h') : S_X3_init G l 14 15 h Po := by
  refine S_X3_init_of (fun k hl hin C E => X3_init_b0 (n0 := 0) C E hin 14 15 h ⟨⟨by decide, by decide⟩, fun h2 e2 => ?_⟩)
  have k2 : hF (sC 14) 15 h h2 := hF_nw e2 (Nat.le_refl _)
  have o2 : okO 16 h2 14 3 := ⟨by decide, by rw [(k2 14 (by decide)).1]; exact ok.2⟩
  have nx : ∀ {h3 h4 : xH} {j : Nat} {z : Int}, h4 = hS h3 14 j z → okO 16 h3 14 3 → okO 16 h4 14 3 := fun e o => ⟨o.1, by rw [e, hS_k]; exact o.2⟩
  have pe : ∀ {h3 h4 : xH} {j : Nat} {z : Int}, h4 = hS h3 14 j z → hE (sC 14) h3 h4 := fun e => hE.put' (S := sC 14) e rfl
  refine ⟨o2, fun h4 e4 => ⟨nx e4 o2, fun h6 e6 => ⟨nx e6 (nx e4 o2), fun h8 e8 h9 e9 => ?_⟩⟩⟩
  have E8 : hE (sC 14) h2 h8 := ((pe e4).tr (pe e6)).tr (pe e8)
  have o8 : (h8 14).1 = 3 := (nx e8 (nx e6 (nx e4 o2))).2
  have g0 : (h8 14).2.2 0 = 15 ∧ (h8 14).2.2 1 = 0 ∧ (h8 14).2.2 2 = 0 := by
    refine ⟨?_, ?_, ?_⟩
    · rw [e8, hS_g, if_neg (by omega), e6, hS_g, if_neg (by omega), e4, hS_g, if_pos ⟨rfl, rfl⟩]; rfl
    · rw [e8, hS_g, if_neg (by omega), e6, hS_g, if_pos ⟨rfl, rfl⟩]
    · rw [e8, hS_g, if_pos ⟨rfl, rfl⟩]
  have r0 : (h8 15).1 = 100 ∧ (h8 15).2.1 = 20 := by
    rw [(E8 15).1, (E8 15).2.1, e2, hN_self]; exact ⟨rfl, rfl⟩
  refine new_nat (a := 16) (c := 14) (f := 3) (κ := 3) (by decide) o8 e9 (fun p1 q1 c1 i1 h14 e14 => ?_)
  have o1 : (p1 14).1 = 3 := by rw [(q1 14 (by decide)).1]; exact o8
  refine new_nat (a := 18) (c := 14) (f := 4) (κ := 3) (by decide) o1 e14 (fun p2 q2 c2 i2 h19 e19 => ?_)
  have o2' : (p2 14).1 = 3 := by rw [(q2 14 (by decide)).1]; exact o1
  refine new_nat (a := 20) (c := 14) (f := 5) (κ := 3) (by decide) o2' e19 (fun p3 q3 c3 i3 h24 e24 => ?_)
  have o3 : (p3 14).1 = 3 := by rw [(q3 14 (by decide)).1]; exact o2'
  refine new_nat (a := 22) (c := 14) (f := 6) (κ := 3) (by decide) o3 e24 (fun p4 q4 c4 i4 h29 e29 => ?_)
  have o4 : (p4 14).1 = 3 := by rw [(q4 14 (by decide)).1]; exact o3
  refine new_nat (a := 24) (c := 14) (f := 7) (κ := 3) (by decide) o4 e29 (fun p5 q5 c5 i5 => ?_)
  have o5 : (p5 14).1 = 3 := by rw [(q5 14 (by decide)).1]; exact o4
  have fl : ∀ j : Nat, (p5 14).2.2 j = if j = 7 then 24 else if j = 6 then 22 else if j = 5 then 20 else if j = 4 then 18 else if j = 3 then 16 else (h8 14).2.2 j := by
    intro j; rw [c5, c4, c3, c2, c1]; rfl
  have r5 : (p5 15).1 = 100 ∧ (p5 15).2.1 = 20 := by
    rw [(q5 15 (by decide)).1, (q4 15 (by decide)).1, (q3 15 (by decide)).1, (q2 15 (by decide)).1, (q1 15 (by decide)).1, (q5 15 (by decide)).2.1, (q4 15 (by decide)).2.1, (q3 15 (by decide)).2.1, (q2 15 (by decide)).2.1, (q1 15 (by decide)).2.1]; exact r0
  have ne : ∀ {i : Nat}, 16 ≤ i → ¬ sC 14 i := fun hi (z : _ = 14) => by omega
  refine hp p5 ((((((k2.tr (E8.f (n := 15)) (Nat.le_refl _)).tr (hF.le q1 (by decide)) (Nat.le_refl 15)).tr (hF.le q2 (by decide)) (Nat.le_refl 15)).tr (hF.le q3 (by decide)) (Nat.le_refl 15)).tr (hF.le q4 (by decide)) (Nat.le_refl 15)).tr (hF.le q5 (by decide)) (Nat.le_refl 15)) ⟨⟨by decide, o5, ⟨by rw [fl]; exact g0.1, by rw [fl]; rfl, by rw [fl]; rfl, by rw [fl]; rfl, by rw [fl]; rfl, by rw [fl]; rfl⟩, r5.1, r5.2⟩, by rw [fl]; exact g0.2.1, by rw [fl]; exact g0.2.2, by decide, fun i hi => absurd hi (Nat.not_lt_zero _)⟩ ⟨?_, ?_, ?_, ?_, 0, i5⟩
  · exact (((i1.fr q2 (by decide) (ne (by decide)) (ne (by decide))).fr q3 (by decide) (ne (by decide)) (ne (by decide))).fr q4 (by decide) (ne (by decide)) (ne (by decide))).fr q5 (by decide) (ne (by decide)) (ne (by decide))
  · exact ((i2.fr q3 (by decide) (ne (by decide)) (ne (by decide))).fr q4 (by decide) (ne (by decide)) (ne (by decide))).fr q5 (by decide) (ne (by decide)) (ne (by decide))
  · exact (i3.fr q4 (by decide) (ne (by decide)) (ne (by decide))).fr q5 (by decide) (ne (by decide)) (ne (by decide))
  · exact i4.fr q5 (by decide) (ne (by decide)) (ne (by decide))
