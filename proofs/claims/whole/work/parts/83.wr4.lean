/-! WRITING: finite doubles, write -/
abbrev sY (c : Nat) : Nat → Prop := fun i => i = 4 ∨ i = c ∨ (10 ≤ i ∧ i ≤ 25)
theorem sY_L {c : Nat} {h h' : xH} (e : hE (sL 4 c) h h') : hE (sY c) h h' := e.mono (fun i hi => by
  rcases hi with z | z
  · exact Or.inl z
  · exact Or.inr (Or.inl z))
theorem sp_appFin {G : xG} {l : Launch} {n : Nat} {h : xH} {L D : List Int} {pt pd0 kd mn un pl s10 s12 r w a b : Int} {c m : Nat} {Po : xH → Prop} (t : isD n h kd mn un pl) (hmn : mn = 0 ∨ mn = 1) (tq : isQ n h D pd0) (tz : isZ n h r w a b) (q : isL n h 4 c m []) (hc : c = 5 ∨ 25 < c) (hm : 400 ≤ m) (q10 : isN n h 10 s10) (q12 : isN n h 12 s12) (hu0 : 0 ≤ un) (hu1 : un < 2 ^ 63) (h0 : -1074 ≤ pl) (h1 : pl ≤ 971) (hf : findR un pl L pt) (hL : ∀ i, 0 ≤ L.getD i 0 ∧ L.getD i 0 ≤ 20) (hpt0 : -500 ≤ pt) (hpt1 : pt ≤ 500) (hp : ∀ h' X a b r' w' a' b', hE (sY c) h h' → fnW L pt X → isL n h' 4 c m ((if mn = 0 then [] else [45]) ++ X) → isN n h' 10 a → isN n h' 12 b → isQ n h' L pt → isZ n h' r' w' a' b' → Po h') : S_X4_appendFinite G l 0 n h Po := by
  refine S_X4_appendFinite_of (fun k hl C E => ?_)
  have nL : ∀ {i : Nat}, i ≠ 4 → i ≠ c → ¬ sL 4 c i := by
    intro i h1 h2
    rintro (z | z)
    · exact h1 z
    · exact h2 z
  have nQ : ∀ {i : Nat}, (i < 14 ∨ 25 < i) → ¬ sQ i := fun h1 h2 => by
    have h3 : 14 ≤ _ ∧ _ ≤ 25 := h2
    omega
  have w16 : ∀ (O : List Int) (h1 : xH), O.length ≤ 1 → hE (sL 4 c) h h1 → isL n h1 4 c m O → O = (if mn = 0 then [] else [45]) → X4_appendFinite_w16 G k 0 n h1 := by
    intro O h1 hO e1 q1 hOe
    have t1 := t.mv e1 (nL (by decide) (by omega))
    have tq1 := tq.mv e1 (nL (by decide) (by omega)) (nL (by decide) (by omega))
    have tz1 : isZ n h1 r w a b := tz.fr e1.f (Nat.le_refl _) (fun i z1 z2 => nL (by omega) (by omega))
    refine X4_appendFinite_b16 C E 0 n h1 rfl ?_
    rw [t1.f11, t1.f5, t1.f6]
    refine ⟨t1.ok, by decide, t1.ok, t1.ok, tq1.ok, sp_find tq1 tz1 hu0 hu1 h0 (by assumption) hf (fun h2 r2 w2 a2 b2 e2 tq2 tz2 => ?_)⟩
    have lL := tq2.2.2.2.1
    have t2 := t1.mv e2 (nQ (by omega))
    have q2 : isL n h2 4 c m O := q1.mv e2 (nQ (by omega)) (nQ (by omega))
    have e12 : hE (sY c) h h2 := (sY_L e1).tr (e2.mono (fun i hi => by have h3 : 14 ≤ _ ∧ _ ≤ 25 := hi; show _ ∨ _ ∨ _; omega))
    have q10' : isN n h2 10 s10 := (q10.mv e1 (nL (by decide) (by omega)) (nL (by decide) (by omega))).mv e2 (nQ (by omega)) (nQ (by omega))
    have q12' : isN n h2 12 s12 := (q12.mv e1 (nL (by decide) (by omega)) (nL (by decide) (by omega))).mv e2 (nQ (by omega)) (nQ (by omega))
    have w148 : ∀ (X : List Int) (h3 : xH) (a b : Int), hE (sX c) h2 h3 → fnW L pt X → isL n h3 4 c m (O ++ X) → isN n h3 10 a → isN n h3 12 b → X4_appendFinite_w148 G k n h3 := by
      intro X h3 a b e3 hX q3 z1 z2
      refine X4_appendFinite_b148 C E n h3 rfl (hp h3 X a b r2 w2 a2 b2 (e12.tr (e3.mono (fun i hi => ?_))) hX (by rw [← hOe]; exact q3) z1 z2 (tq2.mv e3 ?_ ?_) (tz2.fr e3.f (Nat.le_refl _) (fun i z1 z2 => ?_)))
      · rcases hi with z | z | z
        · exact Or.inl z
        · exact Or.inr (Or.inl z)
        · exact Or.inr (Or.inr ⟨z.1, by omega⟩)
      · rintro (z | z | z) <;> omega
      · rintro (z | z | z) <;> omega
      · rintro (z | z | z) <;> omega
    have w141 : (pt ≤ -7 ∨ 21 < pt) → X4_appendFinite_w141 G k 0 pt n h2 := fun g => X4_appendFinite_b141 C E 0 pt n h2 rfl ⟨t2.ok, sp_appExp t2 tq2 q2 hc q10' q12' (by omega) hL (by omega) (by omega) (fun h3 Ed a3 b3 e3 hE3 q3 z1 z2 => w148 _ h3 a3 b3 e3 (Or.inr (Or.inr ⟨g, Ed, hE3, rfl⟩)) q3 z1 z2)⟩
    have w107 : ∀ (u : Nat) (i : Int) (h3 : xH), i = -(u : Int) → u ≤ (-pt).toNat → -7 < pt → pt ≤ 0 → hE (sL 4 c) h2 h3 → isL n h3 4 c m (O ++ ([48, 46] ++ List.replicate ((-pt).toNat - u) 48)) → X4_appendFinite_w107 G k 0 i n h3 := by
      intro u
      induction u with
      | zero =>
        intro i h3 hi hu p1 p2 e3 q3
        have t3 := t2.mv e3 (nL (by decide) (by omega))
        have tq3 := tq2.mv e3 (nL (by decide) (by omega)) (nL (by decide) (by omega))
        refine X4_appendFinite_b107 C E 0 i n h3 rfl ⟨rgS (by omega) (by omega), fun _ => ?_, fun g => by omega⟩
        rw [t3.f11]
        refine ⟨t3.ok, by decide, tq3.ok, sp_count tq3 ⟨t3.ok, sp_appShort t3 tq3 q3 hc (a := 0) (b := L.length) (by omega) (by omega) (by simp; omega) hL (fun h4 e4 q4 => ?_)⟩⟩
        have e34 := e3.tr e4
        refine w148 _ h4 _ _ (sX_L e34) (Or.inr (Or.inl ⟨p1, p2, rfl⟩)) ?_ (q10'.mv e34 (nL (by decide) (by omega)) (nL (by decide) (by omega))) (q12'.mv e34 (nL (by decide) (by omega)) (nL (by decide) (by omega)))
        rw [Nat.sub_zero] at q4
        simp only [List.append_assoc] at q4 ⊢
        exact q4
      | succ u ih =>
        intro i h3 hi hu p1 p2 e3 q3
        have t3 := t2.mv e3 (nL (by decide) (by omega))
        refine X4_appendFinite_b107 C E 0 i n h3 rfl ⟨rgS (by omega) (by omega), fun g => by omega, fun _ => ?_⟩
        rw [t3.f2]
        refine ⟨t3.ok, by decide, q3.ok, sp_app q3 (by simp; omega) ⟨by decide, by decide⟩ (fun h4 e4 q4 => ih (i + 1) h4 (by omega) (by omega) p1 p2 (e3.tr e4) ?_)⟩
        rw [show (-pt).toNat - u = ((-pt).toNat - (u + 1)) + 1 by omega, List.replicate_succ']
        simp only [List.append_assoc] at q4 ⊢
        exact q4
    have w85 : (pt ≤ 0 ∨ 21 < pt) → X4_appendFinite_w85 G k 0 pt n h2 := fun g => by
      refine X4_appendFinite_b85 C E 0 pt n h2 rfl ⟨⟨rgS (by omega) (by omega), rgS (by decide) (by decide)⟩, fun g2 => w141 (by omega), fun g2 => ⟨rgS (by omega) (by omega), fun g3 => w141 (by omega), fun g3 => ?_⟩⟩
      rw [t2.f2]
      refine ⟨t2.ok, by decide, q2.ok, sp_appStr q2 (by decide) (by show _ + 2 ≤ _; omega) (fun h3 e3 q3 => w107 (-pt).toNat pt h3 (by omega) (Nat.le_refl _) (by omega) (by omega) e3 ?_)⟩
      rw [Nat.sub_self]
      exact q3
    rw [t2.f11]
    refine ⟨t2.ok, by decide, tq2.ok, sp_point tq2 ⟨rgS (by omega) (by omega), fun g => w85 (Or.inl g), fun g => ⟨⟨rgS (by omega) (by omega), rgS (by decide) (by decide)⟩, fun g2 => w85 (Or.inr g2), fun g2 => ⟨t2.ok, ?_⟩⟩⟩⟩
    obtain ⟨p, hp0⟩ : ∃ p : Nat, pt = (p : Int) := ⟨pt.toNat, by omega⟩
    rw [hp0]
    refine sp_appShort t2 tq2 q2 hc (a := 0) (b := p) (by omega) (by omega) (by omega) hL (fun h3 e3 q3 => ?_)
    have ln1 := sgL_len L 0 p
    have t3 := t2.mv e3 (nL (by decide) (by omega))
    rw [t3.f2]
    refine ⟨t3.ok, by decide, q3.ok, sp_app (L := O ++ sgL L 0 p) q3 (by rw [List.length_append]; omega) ⟨by decide, by decide⟩ (fun h4 e4 q4 => ?_)⟩
    have t4 := t3.mv e4 (nL (by decide) (by omega))
    have tq4 := (tq2.mv e3 (nL (by decide) (by omega)) (nL (by decide) (by omega))).mv e4 (nL (by decide) (by omega)) (nL (by decide) (by omega))
    rw [t4.f11]
    refine ⟨t4.ok, by decide, tq4.ok, sp_count tq4 (sp_max (rg_nat (by omega)) (rgS (by omega) (by omega)) ⟨t4.ok, ?_⟩)⟩
    rw [show max (L.length : Int) ((p : Int) + 1) = ((max L.length (p + 1) : Nat) : Int) by omega]
    refine sp_appShort t4 tq4 q4 hc (a := p) (b := max L.length (p + 1)) (by omega) (by omega) (by rw [List.length_append, List.length_append]; show _ + 1 + _ ≤ _; omega) hL (fun h5 e5 q5 => ?_)
    have e35 := (e3.tr e4).tr e5
    refine w148 (sgL L 0 p ++ 46 :: sgL L p (max L.length (p + 1))) h5 _ _ (sX_L e35) (Or.inl ⟨by omega, by omega, ?_⟩) ?_ (q10'.mv e35 (nL (by decide) (by omega)) (nL (by decide) (by omega))) (q12'.mv e35 (nL (by decide) (by omega)) (nL (by decide) (by omega)))
    · rw [hp0, Int.toNat_natCast]
    · have : O ++ (sgL L 0 p ++ 46 :: sgL L p (max L.length (p + 1))) = O ++ sgL L 0 p ++ [46] ++ sgL L p (max L.length (p + 1)) := by simp
      rw [this]; exact q5
  refine X4_appendFinite_b0 C E 0 n h rfl ⟨t.ok, by rw [t.f4]; rcases hmn with z | z <;> rw [z] <;> exact rgS (by decide) (by decide), fun g => ?_, fun g => ?_⟩
  · rw [t.f4] at g
    exact w16 [] h (by decide) hE.rf q (by rw [if_pos g])
  · rw [t.f4] at g
    rw [t.f2]
    exact ⟨t.ok, by decide, q.ok, sp_app q (by show 0 < m; omega) ⟨by decide, by decide⟩ (fun h2 e2 q2 => w16 [45] h2 (by decide) e2 q2 (by rw [if_neg g]))⟩
/-- a number as it is written -/
def outW (b kd mn v w : Int) (L : List Int) (pt : Int) (X : List Int) : Prop :=
  (kd = 1 ∧ exW b mn v w X) ∨ (kd = 2 ∧ ∃ Y, fnW L pt Y ∧ X = (if mn = 0 then [] else [45]) ++ Y) ∨ (kd = 3 ∧ X = (if mn = 0 then 43 else 45) :: lStr 0) ∨ (kd = 4 ∧ X = lStr 3)
/-- a number that isn't written -/
def noW (b kd : Int) : Prop := kd = 0 ∨ (kd = 1 ∧ ¬ (2 ≤ b ∧ b ≤ 16)) ∨ (kd ≠ 1 ∧ b ≠ 10)
theorem sp_write {G : xG} {l : Launch} {n : Nat} {h : xH} {O L D : List Int} {pt pd0 kd mn un pl v w s10 s12 r w1 a1 b1 b : Int} {c m : Nat} {Po : Int → Nat → xH → Prop} (t : isD n h kd mn un pl) (hmn : mn = 0 ∨ mn = 1) (hk0 : 0 ≤ kd) (hk1 : kd ≤ 4) (q : isL n h 4 c m O) (hc : c = 5 ∨ 25 < c) (hm : 400 ≤ m) (q6 : isN n h 6 v) (q8 : isN n h 8 w) (q10 : isN n h 10 s10) (q12 : isN n h 12 s12) (tq : isQ n h D pd0) (tz : isZ n h r w1 a1 b1) (hb : rg b)
    (hx : kd = 1 → bl v ≤ 4096 ∧ bl w ≤ 4096 ∧ 0 < w ∧ (v = 0 → w = 1)) (hf : kd = 2 → 0 ≤ un ∧ un < 2 ^ 63 ∧ -1074 ≤ pl ∧ pl ≤ 971 ∧ findR un pl L pt ∧ (∀ i, 0 ≤ L.getD i 0 ∧ L.getD i 0 ≤ 20) ∧ -500 ≤ pt ∧ pt ≤ 500)
    (hn : noW b kd → Po (-1) n h) (hy : ¬ noW b kd → ∀ n' h' c' m' X D' pd' a b' r' w' a' b'', n ≤ n' → n' ≤ n + 1 → hF (sY c) n h h' → outW b kd mn v w L pt X → isL n' h' 4 c' m' X → 400 ≤ m' → (c' = c ∨ c' = n) → isN n' h' 10 a → isN n' h' 12 b' → isQ n' h' D' pd' → isZ n' h' r' w' a' b'' → Po (X.length : Int) n' h') : S_X4_write G l 0 b n h Po := by
  refine S_X4_write_of (fun k hl C E => ?_)
  have nL : ∀ {i : Nat}, i ≠ 4 → i ≠ c → ¬ sL 4 c i := by
    intro i h1 h2
    rintro (z | z)
    · exact h1 z
    · exact h2 z
  have w45 : noW b kd → X4_write_w45 G k n h := fun z => X4_write_b45 (n0 := 0) C E n h (hn z)
  have w131 : ¬ noW b kd → ∀ n' h' c' m' X D' pd' a b' r' w' a' b'', n ≤ n' → n' ≤ n + 1 → hF (sY c) n h h' → outW b kd mn v w L pt X → isL n' h' 4 c' m' X → 400 ≤ m' → (c' = c ∨ c' = n) → isN n' h' 10 a → isN n' h' 12 b' → isQ n' h' D' pd' → isZ n' h' r' w' a' b'' → X4_write_w131 G k 0 n' h' := by
    intro g n' h' c' m' X D' pd' a b' r' w' a' b'' g1 g2 g3 g4 g5 g6 g7 g8 g9 g10 g11
    have t1 := t.fr g3 g1 (by omega)
    refine X4_write_b131 (n0 := 0) C E 0 n' h' ?_
    rw [t1.f2]
    exact ⟨t1.ok, by decide, g5.ok, sp_size g5 (hy g n' h' c' m' X D' pd' a b' r' w' a' b'' g1 g2 g3 g4 g5 g6 g7 g8 g9 g10 g11)⟩
  have w47 : ¬ noW b kd → ∀ s, s = (if kd = 1 then 1 else 0) → X4_write_w47 G k 0 b s n h := by
    intro g s hs
    refine X4_write_b47 (n0 := 0) C E 0 b s n h ?_
    rw [t.f2]
    refine ⟨t.ok, by decide, q.ok, sp_empty q (fun h1 e1 q1 => ?_)⟩
    have t1 := t.mv e1 (nL (by decide) (by omega))
    have tq1 := tq.mv e1 (nL (by decide) (by omega)) (nL (by decide) (by omega))
    have tz1 : isZ n h1 r w1 a1 b1 := tz.fr e1.f (Nat.le_refl _) (fun i z1 z2 => nL (by omega) (by omega))
    have p6 := q6.mv e1 (nL (by decide) (by omega)) (nL (by decide) (by omega))
    have p8 := q8.mv e1 (nL (by decide) (by omega)) (nL (by decide) (by omega))
    have p10 := q10.mv e1 (nL (by decide) (by omega)) (nL (by decide) (by omega))
    have p12 := q12.mv e1 (nL (by decide) (by omega)) (nL (by decide) (by omega))
    refine ⟨by rw [hs]; split <;> exact rgS (by decide) (by decide), fun g1 => ?_, fun g1 => ?_⟩
    · have hk : kd ≠ 1 := by
        intro z
        rw [hs, if_pos z] at g1
        cases g1
      have rk : rg (hG h1 0 3) := by rw [t1.f3]; exact rgS (by omega) (by omega)
      refine ⟨t1.ok, ⟨rk, rgS (by decide) (by decide)⟩, fun g2 => ⟨t1.ok, ⟨rk, rgS (by decide) (by decide)⟩, fun g3 => ?_, fun g3 => ?_⟩, fun g2 => ?_⟩
      · rw [t1.f3] at g2 g3
        have k4 : kd = 4 := by
          have : kd ≠ 0 := fun z => g (Or.inl z)
          omega
        rw [t1.f2]
        refine ⟨t1.ok, by decide, q1.ok, sp_appStr q1 (by decide) (by show 0 + 6 ≤ m; omega) (fun h2 e2 q2 => ?_)⟩
        have e12 := e1.tr e2
        exact w131 g n h2 c m _ D pd0 s10 s12 r w1 a1 b1 (Nat.le_refl _) (by omega) (sY_L e12).f (Or.inr (Or.inr (Or.inr ⟨k4, rfl⟩))) q2 hm (Or.inl rfl) (q10.mv e12 (nL (by decide) (by omega)) (nL (by decide) (by omega))) (q12.mv e12 (nL (by decide) (by omega)) (nL (by decide) (by omega))) (tq.mv e12 (nL (by decide) (by omega)) (nL (by decide) (by omega))) (tz.fr e12.f (Nat.le_refl _) (fun i z1 z2 => nL (by omega) (by omega)))
      · rw [t1.f3] at g2 g3
        have w107 : ∀ s0, s0 = (if mn = 0 then 43 else 45) → X4_write_w107 G k 0 s0 4 n h1 := by
          intro s0 hs0
          refine X4_write_b107 (n0 := 0) C E 0 s0 4 n h1 ⟨q1.ok, sp_app q1 (by show 0 < m; omega) (by rw [hs0]; split <;> decide) (fun h2 e2 q2 => ?_)⟩
          have t2 := t1.mv e2 (nL (by decide) (by omega))
          rw [t2.f2]
          refine ⟨t2.ok, by decide, q2.ok, sp_appStr q2 (by decide) (by show 1 + 5 ≤ m; omega) (fun h3 e3 q3 => ?_)⟩
          have e13 := (e1.tr e2).tr e3
          exact w131 g n h3 c m _ D pd0 s10 s12 r w1 a1 b1 (Nat.le_refl _) (by omega) (sY_L e13).f (Or.inr (Or.inr (Or.inl ⟨g3, by rw [hs0]; rfl⟩))) q3 hm (Or.inl rfl) (q10.mv e13 (nL (by decide) (by omega)) (nL (by decide) (by omega))) (q12.mv e13 (nL (by decide) (by omega)) (nL (by decide) (by omega))) (tq.mv e13 (nL (by decide) (by omega)) (nL (by decide) (by omega))) (tz.fr e13.f (Nat.le_refl _) (fun i z1 z2 => nL (by omega) (by omega)))
        rw [t1.f2]
        refine ⟨t1.ok, by decide, t1.ok, by rw [t1.f4]; rcases hmn with z | z <;> rw [z] <;> exact rgS (by decide) (by decide), fun g4 => w107 43 ?_, fun g4 => w107 45 ?_⟩
        · rw [t1.f4] at g4; rw [if_pos g4]
        · rw [t1.f4] at g4; rw [if_neg g4]
      · rw [t1.f3] at g2
        obtain ⟨f1, f2, f3, f4, f5, f6, f7, f8⟩ := hf g2
        refine ⟨t1.ok, sp_appFin t1 hmn tq1 tz1 q1 hc hm p10 p12 f1 f2 f3 f4 f5 f6 f7 f8 (fun h2 X a2 b2 r2 w2 a3 b3 e2 hX q2 z10 z12 tq2 tz2 => ?_)⟩
        exact w131 g n h2 c m _ L pt a2 b2 r2 w2 a3 b3 (Nat.le_refl _) (by omega) ((sY_L e1).tr e2).f (Or.inr (Or.inl ⟨g2, X, hX, rfl⟩)) q2 hm (Or.inl rfl) z10 z12 tq2 tz2
    · have hk : kd = 1 := by
        rcases Int.decEq kd 1 with z | z
        · rw [hs, if_neg z] at g1; exact absurd rfl g1
        · exact z
      obtain ⟨x1, x2, x3, x4⟩ := hx hk
      have hbb : 2 ≤ b ∧ b ≤ 16 := by
        rcases Classical.em (2 ≤ b ∧ b ≤ 16) with z | z
        · exact z
        · exact absurd (Or.inr (Or.inl ⟨hk, z⟩)) g
      refine ⟨t1.ok, sp_appExact t1 hmn q1 hc p6 p8 p10 x1 x2 x3 x4 hbb.1 hbb.2 (fun n' h' c' m' X s g1 g2 g3 g4 g5 g6 g7 => ?_)⟩
      have g3' : hF (sY c) n h1 h' := g3.mono (fun i _ z => by rcases z with z | z | z | z <;> show _ ∨ _ ∨ _ <;> omega)
      have nW : ∀ {i : Nat}, i ≠ 4 → i ≠ c → i ≠ 10 → i ≠ 11 → ¬ sW c i := fun z1 z2 z3 z4 => by rintro (z | z | z | z) <;> omega
      exact w131 g n' h' c' m' X D pd0 s s12 r w1 a1 b1 g1 g2 ((sY_L e1).f.tr g3' (Nat.le_refl _)) (Or.inl ⟨hk, g4⟩) g5 (by omega) (by omega) g7 (p12.fr g3 g1 (nW (by decide) (by omega) (by decide) (by decide)) (nW (by decide) (by omega) (by decide) (by decide))) (tq1.fr g3 g1 (nW (by decide) (by omega) (by decide) (by decide)) (nW (by decide) (by omega) (by decide) (by decide))) (tz1.fr g3 g1 (fun i z1 z2 => nW (by omega) (by omega) (by omega) (by omega)))
  have w13 : ∀ s, s = (if kd = 1 then 1 else 0) → X4_write_w13 G k 0 b s n h := by
    intro s hs
    have hk : (kd = 1 ∧ s = 1) ∨ (kd ≠ 1 ∧ s = 0) := by
      rcases Int.decEq kd 1 with z | z
      · right; rw [if_neg z] at hs; exact ⟨z, hs⟩
      · left; rw [if_pos z] at hs; exact ⟨z, hs⟩
    refine X4_write_b13 (n0 := 0) C E 0 b s n h ⟨t.ok, by rw [t.f3]; exact rgS (by omega) (by omega), fun g => w45 (Or.inl (by rw [t.f3] at g; exact g)), fun g => ⟨by rw [hs]; split <;> exact rgS (by decide) (by decide), fun g1 => ⟨⟨hb, rgS (by decide) (by decide)⟩, fun g2 => w47 ?_ s hs, fun g2 => w45 ?_⟩, fun g1 => ⟨⟨hb, rgS (by decide) (by decide)⟩, fun g2 => w45 ?_, fun g2 => ⟨⟨hb, rgS (by decide) (by decide)⟩, fun g3 => w47 ?_ s hs, fun g3 => w45 ?_⟩⟩⟩⟩
    all_goals rw [t.f3] at g
    all_goals unfold noW
    all_goals omega
  refine X4_write_b0 (n0 := 0) C E 0 b n h ⟨t.ok, ⟨by rw [t.f3]; exact rgS (by omega) (by omega), rgS (by decide) (by decide)⟩, fun g => w13 0 ?_, fun g => w13 1 ?_⟩
  · rw [t.f3] at g; rw [if_neg g]
  · rw [t.f3] at g; rw [if_pos g]
