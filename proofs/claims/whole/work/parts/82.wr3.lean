/-! WRITING: exact numbers, finite doubles, write -/
theorem isD.fr {n m' : Nat} {h h' : xH} {S : Nat → Prop} {kd mn un pl : Int} (t : isD n h kd mn un pl) (e : hF S n h h') (hn : n ≤ m') (h0 : ¬ S 0) : isD m' h' kd mn un pl := by
  obtain ⟨⟨t1, t2, t3, t4⟩, t5⟩ := t
  have ee := e 0 (by omega)
  have e0 := ee.2.2 h0
  exact ⟨⟨by omega, by rw [ee.1]; exact t2, by rw [e0]; exact t3, by rw [e0]; exact t4⟩, by rw [e0]; exact t5⟩
theorem isU.fr {n m' : Nat} {h h' : xH} {S : Nat → Prop} {T : List Int} {f : Nat → Int} (t : isU n h T f) (e : hF S n h h') (hn : n ≤ m') (h1 : ¬ S 1) (h2 : ¬ S 2) (h3 : ¬ S 3) : isU m' h' T f := by
  obtain ⟨t1, t2, t3, t4⟩ := t
  have ee := e 1 (by have := t4.1; omega)
  have e0 := ee.2.2 h1
  exact ⟨by rw [ee.1]; exact t1, by rw [e0]; exact t2, by rw [e0]; exact t3, t4.fr e hn h2 h3⟩
theorem isQ.fr {n m' : Nat} {h h' : xH} {S : Nat → Prop} {L : List Int} {pt : Int} (t : isQ n h L pt) (e : hF S n h h') (hn : n ≤ m') (h0 : ¬ S 14) (h1 : ¬ S 15) : isQ m' h' L pt := by
  obtain ⟨⟨t1, t2, t3, t4, t5⟩, t6, t7, t8, t9⟩ := t
  have ea := e 14 (by omega)
  have eb := e 15 (by omega)
  have ea0 := ea.2.2 h0
  have eb0 := eb.2.2 h1
  exact ⟨⟨by omega, by rw [ea.1]; exact t2, by rw [ea0]; exact t3, by rw [eb.1]; exact t4, by rw [eb.2.1]; exact t5⟩, by rw [ea0]; exact t6, by rw [ea0]; exact t7, t8, by rw [eb0]; exact t9⟩
theorem isZ.fr {n m' : Nat} {h h' : xH} {S : Nat → Prop} {r w a b : Int} (t : isZ n h r w a b) (e : hF S n h h') (hn : n ≤ m') (hs : ∀ i, 16 ≤ i → i ≤ 25 → ¬ S i) : isZ m' h' r w a b := by
  obtain ⟨t1, t2, t3, t4, s, t5⟩ := t
  exact ⟨t1.fr e hn (hs _ (by decide) (by decide)) (hs _ (by decide) (by decide)), t2.fr e hn (hs _ (by decide) (by decide)) (hs _ (by decide) (by decide)), t3.fr e hn (hs _ (by decide) (by decide)) (hs _ (by decide) (by decide)), t4.fr e hn (hs _ (by decide) (by decide)) (hs _ (by decide) (by decide)), s, t5.fr e hn (hs _ (by decide) (by decide)) (hs _ (by decide) (by decide))⟩
/-- an exact number as it is written -/
def exW (b mn v w : Int) (X : List Int) : Prop := ∃ A B, wrR b v A ∧ wrR b w B ∧ X = (if mn = 0 then [] else [45]) ++ (A ++ (if w = 1 then [] else 47 :: B))
theorem isDg_len {b : Int} (hb : 2 ≤ b) : ∀ {L : List Int} {v : Int}, isDg b L v → (L.length : Int) ≤ bl v
  | [], v, h => by
    have : v = 0 := h
    rw [this]; decide
  | d :: L, v, h => by
    have h1 := isDg_len hb h.2.2
    rw [List.length_cons]
    rcases Int.lt_or_le 0 (v / b) with g | g
    · have := bl_div (v := v) (g := 1) hb (by rw [Int.pow_one]; exact g)
      rw [Int.pow_one] at this
      omega
    · obtain ⟨t, e, -⟩ := bl_pw h.1
      have h2 : bl (v / b) = 0 := by unfold bl; rw [if_pos g]
      omega
theorem wrR_len {b v : Int} {L : List Int} (hb : 2 ≤ b) (h : wrR b v L) : (L.length : Int) ≤ bl v + (if v = 0 then 1 else 0) := by
  rcases h with ⟨h1, h2⟩ | ⟨h1, h2⟩
  · rw [h2, if_pos h1, h1]; decide
  · have := isDg_len hb h2
    rw [List.length_reverse] at this
    rw [if_neg (by omega)]; omega
theorem sp_appExact {G : xG} {l : Launch} {n : Nat} {h : xH} {kd mn un pl v w s10 b : Int} {c m : Nat} {Po : Nat → xH → Prop} (t : isD n h kd mn un pl) (hmn : mn = 0 ∨ mn = 1) (q : isL n h 4 c m []) (hc : c = 5 ∨ 25 < c) (q6 : isN n h 6 v) (q8 : isN n h 8 w) (q10 : isN n h 10 s10) (hv : bl v ≤ 4096) (hw : bl w ≤ 4096) (hw0 : 0 < w) (hvw : v = 0 → w = 1) (hb0 : 2 ≤ b) (hb1 : b ≤ 16) (hp : ∀ n' h' c' m' X s, n ≤ n' → n' ≤ n + 1 → hF (sW c) n h h' → exW b mn v w X → isL n' h' 4 c' m' X → ((c' = c ∧ m' = m) ∨ (c' = n ∧ m' = 8226)) → isN n' h' 10 s → Po n' h') : S_X4_appendExactNumber G l 0 b n h Po := by
  refine S_X4_appendExactNumber_of (fun k hl C E => X4_appendExactNumber_b0 (n0 := 0) C E 0 b n h ?_)
  have hn := t.1.1
  have cn := q.1.2.1
  have bv0 : 0 ≤ bl v := by unfold bl; split <;> omega
  have bw0 : 0 ≤ bl w := by unfold bl; split <;> omega
  rw [t.f7, t.f2]
  refine ⟨t.ok, by decide, t.ok, by decide, q6.1.ok, sp_bitLength q6 ?_⟩
  rw [t.f8]
  refine ⟨t.ok, by decide, q8.1.ok, sp_bitLength q8 ⟨q.ok, sp_makeRoom q (by omega) (by omega) (fun n1 h1 c1 m1 hn1 hn2 e1 q1 hm1 hc1 => ?_)⟩⟩
  have e1' : hF (sW c) n h h1 := e1.mono (fun i _ hi => by
    rcases hi with z | z
    · exact Or.inl z
    · exact Or.inr (Or.inl z))
  have hc2 : c1 = 5 ∨ 25 < c1 := by omega
  have t1 := t.fr e1' hn1 (by omega)
  have p6 := q6.fr e1' hn1 (by omega) (by omega)
  have p8 := q8.fr e1' hn1 (by omega) (by omega)
  have p10 : isN n1 h1 10 s10 := q10.fr e1 hn1 (by rintro (z | z) <;> omega) (by rintro (z | z) <;> omega)
  have cv : ∀ {h2 h3 : xH}, hE (sW c1) h2 h3 → hF (sW c) n h2 h3 := fun e => e.f.mono (fun i hi z => by
    rcases z with z | z | z
    · exact Or.inl z
    · rcases hc1 with ⟨y, _⟩ | ⟨y, _⟩
      · exact Or.inr (Or.inl (z.trans y))
      · omega
    · exact Or.inr (Or.inr z))
  have w75 : ∀ (X : List Int) (s : Int) (h2 : xH), hF (sW c) n h h2 → isL n1 h2 4 c1 m1 X → isN n1 h2 10 s → exW b mn v w X → X4_appendExactNumber_w75 G k n1 h2 := fun X s h2 e2 q2 q3 hx => X4_appendExactNumber_b75 (n0 := 0) C E n1 h2 (hp n1 h2 c1 m1 X s hn1 hn2 e2 hx q2 hc1 q3)
  have w38 : ∀ (h2 : xH), hE (sW c1) h1 h2 → isL n1 h2 4 c1 m1 (if mn = 0 then [] else [45]) → isN n1 h2 10 s10 → X4_appendExactNumber_w38 G k 0 b n1 h2 := by
    intro h2 e2 q2 r10
    have t2 := t1.mv e2 (by omega)
    have lnm : (if mn = 0 then ([] : List Int) else [45]).length ≤ 1 := by split <;> decide
    refine X4_appendExactNumber_b38 (n0 := 0) C E 0 b n1 h2 ?_
    rw [t2.f7]
    have r6 := p6.mv e2 (by omega) (by omega)
    have r8 := p8.mv e2 (by omega) (by omega)
    refine ⟨t2.ok, by decide, t2.ok, sp_appNat t2 q2 hc2 r6 (Or.inl rfl) r10 hb0 hb1 (by omega) (fun h3 A e3 hA q3 z10 => ?_)⟩
    have t3 := t2.mv e3 (by omega)
    have u8 := r8.mv e3 (by omega) (by omega)
    have hAl := wrR_len hb0 hA
    have ha3 : hF (sW c) n h h3 := (e1'.tr (cv e2) (Nat.le_refl _)).tr (cv e3) (Nat.le_refl _)
    rw [t3.f8]
    refine ⟨t3.ok, by decide, u8.1.ok, sp_isOne u8 ⟨by split <;> exact rgS (by decide) (by decide), fun g => ?_, fun g => ?_⟩⟩
    · have hw1 : w = 1 := by
        split at g
        · assumption
        · exact absurd rfl g
      refine w75 _ 0 h3 ha3 q3 z10 ⟨A, [49], hA, ?_, by rw [if_pos hw1, List.append_nil]⟩
      right
      rw [hw1]
      refine ⟨by decide, by decide, ?_, ?_⟩
      · rw [Int.emod_eq_of_lt (by decide) (by omega)]; rfl
      · show (1 : Int) / b = 0
        rw [Int.ediv_eq_zero_of_lt (by decide) (by omega)]
    · have hw1 : w ≠ 1 := by
        split at g
        · cases g
        · assumption
      have hv0 : v ≠ 0 := fun z => hw1 (hvw z)
      rw [if_neg hv0] at hAl
      rw [t3.f2]
      refine ⟨t3.ok, by decide, q3.ok, sp_app q3 (by rw [List.length_append]; omega) ⟨by decide, by decide⟩ (fun h4 e4 q4 => ?_)⟩
      have e4' : hE (sW c1) h3 h4 := sW_L e4
      have t4 := t3.mv e4' (by omega)
      have u84 := u8.mv e4' (by omega) (by omega)
      have z104 : isN n1 h4 10 0 := z10.mv e4 (by rintro (z | z) <;> omega) (by rintro (z | z) <;> omega)
      rw [t4.f8]
      refine ⟨t4.ok, by decide, t4.ok, sp_appNat t4 q4 hc2 u84 (Or.inr (Or.inl rfl)) z104 hb0 hb1 (by rw [List.length_append, List.length_append]; show ((_ + 1 : Nat) : Int) + _ + _ ≤ _; omega) (fun h5 B e5 hB q5 z5 => ?_)⟩
      refine w75 _ 0 h5 ((ha3.tr (cv e4') (Nat.le_refl _)).tr (cv e5) (Nat.le_refl _)) q5 z5 ⟨A, B, hA, hB, ?_⟩
      rw [if_neg hw1]; simp
  refine ⟨t1.ok, by rw [t1.f4]; rcases hmn with z | z <;> rw [z] <;> exact rgS (by decide) (by decide), fun g => ?_, fun g => ?_⟩
  · rw [t1.f4] at g
    exact w38 h1 hE.rf (by rw [if_pos g]; exact q1) p10
  · rw [t1.f4] at g
    rw [t1.f2]
    refine ⟨t1.ok, by decide, q1.ok, sp_app q1 (by show 0 < m1; omega) ⟨by decide, by decide⟩ (fun h2 e2 q2 => w38 h2 (sW_L e2) (by rw [if_neg g]; exact q2) (p10.mv e2 (by rintro (z | z) <;> omega) (by rintro (z | z) <;> omega)))⟩
/-- the digits of L from a to b, zeros behind them -/
def sgL (L : List Int) (a b : Nat) : List Int := (List.range' a (b - a)).map (fun i => 48 + L.getD i 0)
theorem sgL_len (L : List Int) (a b : Nat) : (sgL L a b).length = b - a := by unfold sgL; simp
/-- a finite double's digits as they are written -/
def fnW (L : List Int) (pt : Int) (X : List Int) : Prop :=
  (0 < pt ∧ pt ≤ 21 ∧ X = sgL L 0 pt.toNat ++ 46 :: sgL L pt.toNat (max L.length (pt.toNat + 1))) ∨
  (-7 < pt ∧ pt ≤ 0 ∧ X = [48, 46] ++ (List.replicate (-pt).toNat 48 ++ sgL L 0 L.length)) ∨
  ((pt ≤ -7 ∨ 21 < pt) ∧ ∃ E, wrR 10 (if 0 ≤ pt - 1 then pt - 1 else -(pt - 1)) E ∧ X = sgL L 0 1 ++ ((if 1 < L.length then 46 :: sgL L 1 L.length else []) ++ 101 :: ((if pt - 1 < 0 then [45] else []) ++ E)))
theorem sp_count {G : xG} {l : Launch} {n : Nat} {h : xH} {L : List Int} {pt : Int} {Po : Int → xH → Prop} (t : isQ n h L pt) (hp : Po (L.length : Int) h) : S_X3_count G l 14 n h Po := by
  refine S_X3_count_of (fun k hl C E => X3_count_b0 C E 14 n h rfl ⟨t.ok, ?_⟩)
  rw [t.f1]; exact hp
theorem sp_point {G : xG} {l : Launch} {n : Nat} {h : xH} {L : List Int} {pt : Int} {Po : Int → xH → Prop} (t : isQ n h L pt) (hp : Po pt h) : S_X3_point G l 14 n h Po := by
  refine S_X3_point_of (fun k hl C E => X3_point_b0 C E 14 n h rfl ⟨t.ok, ?_⟩)
  rw [t.f2]; exact hp
abbrev sX (c : Nat) : Nat → Prop := fun i => i = 4 ∨ i = c ∨ (10 ≤ i ∧ i ≤ 13)
theorem sX_L {c : Nat} {h h' : xH} (e : hE (sL 4 c) h h') : hE (sX c) h h' := e.mono (fun i hi => by
  rcases hi with z | z
  · exact Or.inl z
  · exact Or.inr (Or.inl z))
theorem sX_N {c : Nat} {h h' : xH} (e : hE (sN 12) h h') : hE (sX c) h h' := e.mono (fun i hi => by
  rcases hi with z | z <;> exact Or.inr (Or.inr (by omega)))
theorem sX_W {c : Nat} {h h' : xH} (e : hE (sW c) h h') : hE (sX c) h h' := e.mono (fun i hi => by
  rcases hi with z | z | z | z
  · exact Or.inl z
  · exact Or.inr (Or.inl z)
  · exact Or.inr (Or.inr (by omega))
  · exact Or.inr (Or.inr (by omega)))
theorem sp_appExp {G : xG} {l : Launch} {n : Nat} {h : xH} {L O : List Int} {pt kd mn un pl s10 s12 x : Int} {c m : Nat} {Po : xH → Prop} (t : isD n h kd mn un pl) (tq : isQ n h L pt) (q : isL n h 4 c m O) (hc : c = 5 ∨ 25 < c) (q10 : isN n h 10 s10) (q12 : isN n h 12 s12) (hr : O.length + 100 ≤ m) (hL : ∀ i, 0 ≤ L.getD i 0 ∧ L.getD i 0 ≤ 20) (hx0 : -1000 ≤ x) (hx1 : x ≤ 1000) (hp : ∀ h' E a b, hE (sX c) h h' → wrR 10 (if 0 ≤ x then x else -x) E → isL n h' 4 c m (O ++ (sgL L 0 1 ++ ((if 1 < L.length then 46 :: sgL L 1 L.length else []) ++ 101 :: ((if x < 0 then [45] else []) ++ E)))) → isN n h' 10 a → isN n h' 12 b → Po h') : S_X4_appendWithExponent G l 0 x n h Po := by
  refine S_X4_appendWithExponent_of (fun k hl C E => X4_appendWithExponent_b0 C E 0 x n h rfl ?_)
  have lL := tq.2.2.2.1
  have nL : ∀ {i : Nat}, i ≠ 4 → i ≠ c → ¬ sL 4 c i := by
    intro i h1 h2
    rintro (z | z)
    · exact h1 z
    · exact h2 z
  have w60 : ∀ (P : List Int) (h1 : xH), P.length ≤ O.length + 50 → hE (sL 4 c) h h1 → isL n h1 4 c m P → (∀ Q, O ++ (sgL L 0 1 ++ ((if 1 < L.length then 46 :: sgL L 1 L.length else []) ++ 101 :: ((if x < 0 then [45] else []) ++ Q))) = P ++ Q) → X4_appendWithExponent_w60 G k 0 x n h1 := by
    intro P h1 hP e1 q1 hQ
    have t1 := t.mv e1 (nL (by decide) (by omega))
    refine X4_appendWithExponent_b60 C E 0 x n h1 rfl ?_
    rw [t1.f10]
    have r12 := q12.mv e1 (nL (by decide) (by omega)) (nL (by decide) (by omega))
    have r10 := q10.mv e1 (nL (by decide) (by omega)) (nL (by decide) (by omega))
    have hxa : 0 ≤ (if 0 ≤ x then x else -x) ∧ (if 0 ≤ x then x else -x) ≤ 1000 := by split <;> omega
    refine ⟨t1.ok, by decide, sp_abs (rgS (by omega) (by omega)) ⟨rgS (by omega) (by omega), r12.1.ok, sp_set r12.1 (fun h2 e2 q2 => ?_)⟩⟩
    rw [Int.emod_eq_of_lt hxa.1 (by omega)] at q2
    have t2 := t1.mv e2 (by rintro (z | z) <;> omega)
    rw [t2.f10]
    have q12' := q1.mv e2 (by rintro (z | z) <;> omega) (by rintro (z | z) <;> omega)
    have r10' := r10.mv e2 (by rintro (z | z) <;> omega) (by rintro (z | z) <;> omega)
    have hbl := bl_le (v := (if 0 ≤ x then x else -x)) (t := 10) (by show _ < (1024 : Int); omega)
    refine ⟨t2.ok, by decide, t2.ok, sp_appNat t2 q12' hc q2 (Or.inr (Or.inr rfl)) r10' (by decide) (by decide) (by omega) (fun h3 A e3 hA q3 z10 => ?_)⟩
    refine hp h3 A 0 _ ((sX_L e1).tr ((sX_N e2).tr (sX_W e3))) hA (by rw [hQ A]; exact q3) z10 (q2.mv e3 (by omega) (by omega))
  have w38 : ∀ (P : List Int) (h1 : xH), P.length ≤ O.length + 40 → hE (sL 4 c) h h1 → isL n h1 4 c m P → (∀ Q, O ++ (sgL L 0 1 ++ ((if 1 < L.length then 46 :: sgL L 1 L.length else []) ++ Q)) = P ++ Q) → X4_appendWithExponent_w38 G k 0 x n h1 := by
    intro P h1 hP e1 q1 hQ
    have t1 := t.mv e1 (nL (by decide) (by omega))
    refine X4_appendWithExponent_b38 C E 0 x n h1 rfl ?_
    rw [t1.f2]
    refine ⟨t1.ok, by decide, q1.ok, sp_app q1 (by omega) ⟨by decide, by decide⟩ (fun h2 e2 q2 => ⟨rgS (by omega) (by omega), fun g => ?_, fun g => ?_⟩)⟩
    · refine w60 _ h2 (by rw [List.length_append]; show _ + 1 ≤ _; omega) (e1.tr e2) q2 (fun Q => ?_)
      rw [if_neg (show ¬ x < 0 by omega), hQ]
      simp
    · have t2 := t1.mv e2 (nL (by decide) (by omega))
      rw [t2.f2]
      refine ⟨t2.ok, by decide, q2.ok, sp_app q2 (by rw [List.length_append]; show _ + 1 < _; omega) ⟨by decide, by decide⟩ (fun h3 e3 q3 => ?_)⟩
      refine w60 _ h3 (by rw [List.length_append, List.length_append]; show _ + 1 + 1 ≤ _; omega) ((e1.tr e2).tr e3) q3 (fun Q => ?_)
      rw [if_pos (show x < 0 by omega), hQ]
      simp
  refine ⟨t.ok, sp_appShort t tq q hc (a := 0) (b := 1) (by decide) (by decide) (by omega) hL (fun h1 e1 q1 => ?_)⟩
  have t1 := t.mv e1 (nL (by decide) (by omega))
  have tq1 := tq.mv e1 (nL (by decide) (by omega)) (nL (by decide) (by omega))
  have ln1 := sgL_len L 0 1
  rw [t1.f11]
  refine ⟨t1.ok, by decide, tq1.ok, sp_count tq1 ⟨⟨rg_nat (by omega), rgS (by decide) (by decide)⟩, fun g => ?_, fun g => ?_⟩⟩
  · refine w38 (O ++ sgL L 0 1) h1 (by rw [List.length_append]; omega) e1 q1 (fun Q => ?_)
    rw [if_neg (by omega)]; simp
  · rw [t1.f2]
    refine ⟨t1.ok, by decide, q1.ok, sp_app (L := O ++ sgL L 0 1) q1 (by rw [List.length_append]; omega) ⟨by decide, by decide⟩ (fun h2 e2 q2 => ?_)⟩
    have t2 := t1.mv e2 (nL (by decide) (by omega))
    have tq2 := tq1.mv e2 (nL (by decide) (by omega)) (nL (by decide) (by omega))
    rw [t2.f11]
    refine ⟨t2.ok, by decide, tq2.ok, sp_count tq2 ⟨t2.ok, sp_appShort t2 tq2 q2 hc (a := 1) (b := L.length) (by omega) (by omega) (by rw [List.length_append, List.length_append]; show _ + 1 + _ ≤ _; omega) hL (fun h3 e3 q3 => ?_)⟩⟩
    have ln2 := sgL_len L 1 L.length
    refine w38 (O ++ sgL L 0 1 ++ [46] ++ sgL L 1 L.length) h3 (by rw [List.length_append, List.length_append, List.length_append]; show _ + 1 + _ ≤ _; omega) ((e1.tr e2).tr e3) q3 (fun Q => ?_)
    rw [if_pos (by omega)]; simp
