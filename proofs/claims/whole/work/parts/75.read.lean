/-! READ -/
/-- the number behind reading T, and the answer -/
def rdR (n : Nat) (h : xH) (T : List Int) (ret : Int) : Prop := ∃ fm mn ex tn v w : Int, prsR T fm mn ex tn v w ∧ ((fm = 0 ∧ ret = 0 ∧ ∃ un pl, isD n h 0 0 un pl) ∨ (fm = 3 ∧ ret = 2 ∧ ∃ un pl, isD n h 3 mn un pl) ∨ (fm = 4 ∧ ret = 2 ∧ ∃ un pl, isD n h 4 0 un pl) ∨ (fm = 1 ∧ ex = 105 ∧ ret = 2 ∧ ∃ e m, nrR v w e m ∧ finD n h mn m e) ∨ (fm = 1 ∧ ex ≠ 105 ∧ ret = 1 ∧ ∃ V W un pl, lowR v w V W ∧ isD n h 1 (if V = 0 then 0 else mn) un pl ∧ isN n h 6 V ∧ isN n h 8 W) ∨ (fm = 2 ∧ ex = 101 ∧ ret = 1 ∧ ∃ V W un pl, lowR (v * 10 ^ tn.toNat) (10 ^ (-tn).toNat) V W ∧ bl V ≤ 4096 ∧ bl W ≤ 4096 ∧ isD n h 1 (if V = 0 then 0 else mn) un pl ∧ isN n h 6 V ∧ isN n h 8 W) ∨ (fm = 2 ∧ ex = 101 ∧ ret = 0 ∧ ∃ V W un pl, lowR (v * 10 ^ tn.toNat) (10 ^ (-tn).toNat) V W ∧ (4096 < bl V ∨ 4096 < bl W) ∧ isD n h 0 0 un pl) ∨ (fm = 2 ∧ ex ≠ 101 ∧ ret = 2 ∧ ∃ e m, nrR (v * 10 ^ tn.toNat) (10 ^ (-tn).toNat) e m ∧ finD n h mn m e))
abbrev sR : Nat → Prop := fun i => i = 0 ∨ i = 1 ∨ (6 ≤ i ∧ i ≤ 13)
theorem sg_le {v s : Int} (h : sgOK v s) (h0 : 0 ≤ v) (h1 : v < 10 ^ 400) : 0 ≤ s ∧ s ≤ 400 := by
  rcases Int.lt_or_le 0 v with g | g
  · have := h.2 g
    refine ⟨by omega, ?_⟩
    rcases Int.lt_or_le 400 s with y | y
    · have := t_mono (show 400 ≤ s.toNat - 1 by omega)
      omega
    · exact y
  · have := h.1 (by omega)
    omega
theorem sp_read {G : xG} {l : Launch} {n : Nat} {h : xH} {T : List Int} {f : Nat → Int} {kd mn un pl v0 w0 s10 s12 : Int} {Po : Int → xH → Prop} (t : isD n h kd mn un pl) (tu : isU n h T f) (q6 : isN n h 6 v0) (q8 : isN n h 8 w0) (q10 : isN n h 10 s10) (q12 : isN n h 12 s12) (hp : ∀ h' ret f' v' w' a b, hE sR h h' → rdR n h' T ret → isU n h' T f' → isN n h' 6 v' → isN n h' 8 w' → isN n h' 10 a → isN n h' 12 b → Po ret h') : S_X4_read G l 0 n h Po := by
  refine S_X4_read_of (fun k hl C E => X4_read_b0 C E 0 n h rfl ⟨t.ok, sp_none t (fun h1 e1 t1 => ?_)⟩)
  have u1 := tu.mv e1 (by decide) (by decide) (by decide)
  have a1 := q6.mv e1 (by decide) (by decide)
  have b1 := q8.mv e1 (by decide) (by decide)
  have c1 := q10.mv e1 (by decide) (by decide)
  have d1 := q12.mv e1 (by decide) (by decide)
  rw [t1.f0, t1.f7, t1.f8]
  refine ⟨t1.ok, by decide, t1.ok, by decide, t1.ok, by decide, u1.ok, sp_parse u1 a1.1 b1.1 (by decide) (by decide) (by decide) (fun h2 fm mn2 ex tn v w aa bb dd ss e2 hprs u2 x2 y2 hsg hfm hmn hex => ?_)⟩
  obtain ⟨v2, a2, hv2⟩ := x2
  obtain ⟨w2, b2, hw2⟩ := y2
  have mvc : ∀ {i : Nat}, 9 < i → ¬ (i = 1 ∨ sN 6 i ∨ sN 8 i) := by
    intro i hi
    rintro (z | (z | z) | (z | z)) <;> omega
  have t2 := t1.mv e2 (by rintro (z | (z | z) | (z | z)) <;> omega)
  have c2 := c1.mv e2 (mvc (by decide)) (mvc (by decide))
  have d2 := d1.mv e2 (mvc (by decide)) (mvc (by decide))
  have he2 : hE sR h h2 := (e1.mono (fun i hi => Or.inl hi)).tr (e2.mono (fun i hi => by rcases hi with z | (z | z) | (z | z) <;> omega))
  have bd := prs_bd u2.ln hprs
  have rfm : rg fm := rgS (by omega) (by omega)
  have w172 : ∀ z h', Po z h' → X4_read_w172 G k z n h' := fun z h' y => X4_read_b172 C E z n h' rfl y
  have w148 : ∀ (h3 : xH) (kd3 mn3 un3 pl3 : Int) (ret : Int), isD n h3 kd3 mn3 un3 pl3 → 0 ≤ kd3 → kd3 ≤ 4 → ret = (if kd3 = 0 then 0 else if kd3 = 1 then 1 else 2) → Po ret h3 → X4_read_w148 G k 0 n h3 := by
    intro h3 kd3 mn3 un3 pl3 ret t3 k0 k4 hret hpo
    refine X4_read_b148 C E 0 n h3 rfl ?_
    rw [t3.f3]
    refine ⟨t3.ok, rgS (by omega) (by omega), fun g => ⟨t3.ok, ⟨rgS (by omega) (by omega), rgS (by decide) (by decide)⟩, fun g2 => w172 2 h3 ?_, fun g2 => w172 1 h3 ?_⟩, fun g => w172 0 h3 ?_⟩
    · rw [if_neg g, if_neg g2] at hret; rw [← hret]; exact hpo
    · rw [if_neg g, if_pos g2] at hret; rw [← hret]; exact hpo
    · rw [if_pos g] at hret; rw [← hret]; exact hpo
  have fin148 : ∀ (h3 : xH) (m e : Int), finD n h3 mn2 m e → Po 2 h3 → X4_read_w148 G k 0 n h3 := by
    intro h3 m e hf hpo
    rcases hf with ⟨_, t3⟩ | ⟨_, un3, pl3, t3⟩
    · exact w148 h3 _ _ _ _ 2 t3 (by decide) (by decide) rfl hpo
    · exact w148 h3 _ _ _ _ 2 t3 (by decide) (by decide) rfl hpo
  have k0 : ∀ {h3 : xH}, hE s0 h2 h3 → hE sR h h3 := fun e => he2.tr (e.mono (fun i hi => Or.inl hi))
  have k068 : ∀ {h3 : xH}, hE s068 h2 h3 → hE sR h h3 := fun e => he2.tr (e.mono (fun i hi => by rcases hi with z | (z | z) | (z | z) <;> omega))
  have n068 : ∀ {i : Nat}, 9 < i → ¬ s068 i := by
    intro i hi
    rintro (z | (z | z) | (z | z)) <;> omega
  have u068 : ∀ {h3 : xH}, hE s068 h2 h3 → isU n h3 T (uf aa bb ex dd mn2 tn ss) := fun e => u2.mv e (by rintro (z | (z | z) | (z | z)) <;> omega) (by rintro (z | (z | z) | (z | z)) <;> omega) (by rintro (z | (z | z) | (z | z)) <;> omega)
  -- the sign
  rw [t2.f0]
  refine ⟨t2.ok, by decide, u2.ok, ?_⟩
  refine S_X2_hasMinus_of (fun k2 hl2 C2 E2 => X2_hasMinus_b0 C2 E2 1 n h2 rfl ⟨u2.ok, by rw [u2.g5]; exact hmn, ?_⟩)
  rw [u2.g5]
  -- decimals
  have w124 : (fm = 0 ∨ fm = 2 ∧ ex ≠ 101) → X4_read_w124 G k 0 fm mn2 n h2 := by
    intro hc
    refine X4_read_b124 C E 0 fm mn2 n h2 rfl ⟨⟨rfm, rgS (by decide) (by decide)⟩, fun g => ?_, fun g => ?_⟩
    · refine w148 h2 0 0 _ _ 0 t2 (by decide) (by decide) rfl (hp h2 0 _ _ _ _ _ he2 ⟨fm, mn2, ex, tn, v, w, hprs, Or.inl ⟨by omega, rfl, _, _, t2⟩⟩ u2 a2 b2 c2 d2)
    · have hx : ex ≠ 101 := by omega
      have B := bd (Or.inr g)
      have B2 := B.2.2.2.2 g
      rw [hv2 (Or.inr g)] at a2
      rw [t2.f0]
      refine ⟨t2.ok, by decide, u2.ok, ?_⟩
      refine S_X2_tens_of (fun k3 hl3 C3 E3 => X2_tens_b0 C3 E3 1 n h2 rfl ⟨u2.ok, ?_⟩)
      rw [u2.g6, t2.f0]
      refine ⟨t2.ok, by decide, u2.ok, ?_⟩
      refine S_X2_significantDigits_of (fun k4 hl4 C4 E4 => X2_significantDigits_b0 C4 E4 1 n h2 rfl ⟨u2.ok, ?_⟩)
      rw [u2.g7]
      have sl := sg_le (hsg g) B.1 B2.2.1
      refine ⟨t2.ok, sp_nearDec t2 hmn a2 b2 B.2.1 (hsg g) sl.1 sl.2 B2.2.2.1 B2.2.2.2 (fun h3 e m v' w' e3 hn hf q3 r3 => fin148 h3 m e hf ?_)⟩
      exact hp h3 2 _ _ _ _ _ (k068 e3) ⟨fm, mn2, ex, tn, v, w, hprs, Or.inr (Or.inr (Or.inr (Or.inr (Or.inr (Or.inr (Or.inr ⟨g, hx, rfl, e, m, hn, hf⟩))))))⟩ (u068 e3) q3 r3 (c2.mv e3 (n068 (by decide)) (n068 (by decide))) (d2.mv e3 (n068 (by decide)) (n068 (by decide)))
  have w77 : (fm = 0 ∨ fm = 1 ∧ ex ≠ 105 ∨ fm = 2) → X4_read_w77 G k 0 fm mn2 n h2 := by
    intro hc
    refine X4_read_b77 C E 0 fm mn2 n h2 rfl ⟨⟨rfm, rgS (by decide) (by decide)⟩, fun g => ⟨⟨rfm, rgS (by decide) (by decide)⟩, fun g2 => w124 (Or.inl (by omega)), fun g2 => ?_⟩, fun g => ?_⟩
    · rw [t2.f0]
      refine ⟨t2.ok, by decide, u2.ok, sp_exactAsked u2 hex ?_⟩
      by_cases gx : ex = 101
      · rw [if_pos gx]
        refine ⟨rgS (by decide) (by decide), fun y => absurd y (by decide), fun _ => ?_⟩
        have B := bd (Or.inr g2)
        have B2 := B.2.2.2.2 g2
        rw [hv2 (Or.inr g2)] at a2
        rw [t2.f0]
        refine ⟨t2.ok, by decide, u2.ok, ?_⟩
        refine S_X2_tens_of (fun k3 hl3 C3 E3 => X2_tens_b0 C3 E3 1 n h2 rfl ⟨u2.ok, ?_⟩)
        rw [u2.g6]
        refine ⟨t2.ok, sp_exactDec t2 hmn a2 b2 B.2.1 B2.2.2.1 B2.2.2.2 (fun h3 V W e3 lw bV bW t3 q3 r3 => ?_) (fun h3 V W v' w' e3 lw bb t3 q3 r3 => ?_)⟩
        · exact w148 h3 1 _ _ _ 1 t3 (by decide) (by decide) rfl (hp h3 1 _ _ _ _ _ (k068 e3) ⟨fm, mn2, ex, tn, v, w, hprs, Or.inr (Or.inr (Or.inr (Or.inr (Or.inr (Or.inl ⟨g2, gx, rfl, V, W, _, _, lw, bV, bW, t3, q3, r3⟩)))))⟩ (u068 e3) q3 r3 (c2.mv e3 (n068 (by decide)) (n068 (by decide))) (d2.mv e3 (n068 (by decide)) (n068 (by decide))))
        · exact w148 h3 0 _ _ _ 0 t3 (by decide) (by decide) rfl (hp h3 0 _ _ _ _ _ (k068 e3) ⟨fm, mn2, ex, tn, v, w, hprs, Or.inr (Or.inr (Or.inr (Or.inr (Or.inr (Or.inr (Or.inl ⟨g2, gx, rfl, V, W, _, _, lw, bb, t3⟩))))))⟩ (u068 e3) q3 r3 (c2.mv e3 (n068 (by decide)) (n068 (by decide))) (d2.mv e3 (n068 (by decide)) (n068 (by decide))))
      · rw [if_neg gx]
        exact ⟨rg0, fun _ => w124 (Or.inr ⟨g2, gx⟩), fun y => absurd rfl y⟩
    · have B := bd (Or.inl g)
      have hx : ex ≠ 105 := by omega
      rw [hv2 (Or.inl g)] at a2
      rw [hw2 (Or.inl g)] at b2
      refine ⟨t2.ok, sp_lowest t2 a2 b2 c2 d2 B.2.2.1 (fun h3 V W s s' e3 lw q3 r3 x3 y3 => ?_)⟩
      have t3 := t2.mv e3 (by decide)
      refine ⟨t3.ok, sp_exactNum t3 hmn q3 (fun h4 e4 t4 => ?_)⟩
      have q4 := q3.mv e4 (by decide) (by decide)
      have r4 := r3.mv e4 (by decide) (by decide)
      exact w148 h4 1 _ _ _ 1 t4 (by decide) (by decide) rfl (hp h4 1 _ _ _ _ _ ((he2.tr (e3.mono (fun i hi => Or.inr (Or.inr hi)))).tr (e4.mono (fun i hi => Or.inl hi))) ⟨fm, mn2, ex, tn, v, w, hprs, Or.inr (Or.inr (Or.inr (Or.inr (Or.inl ⟨g, hx, rfl, V, W, _, _, lw, t4, q4, r4⟩))))⟩ ((u2.mv e3 (by decide) (by decide) (by decide)).mv e4 (by decide) (by decide) (by decide)) q4 r4 (x3.mv e4 (by decide) (by decide)) (y3.mv e4 (by decide) (by decide)))
  refine ⟨⟨rfm, rgS (by decide) (by decide)⟩, fun g3 => ⟨⟨rfm, rgS (by decide) (by decide)⟩, fun g4 => ⟨⟨rfm, rgS (by decide) (by decide)⟩, fun g1 => w77 (by omega), fun g1 => ?_⟩, fun g4 => ⟨t2.ok, sp_nan t2 (fun h3 e3 t3 => w148 h3 4 _ _ _ 2 t3 (by decide) (by decide) rfl ?_)⟩⟩, fun g3 => ⟨t2.ok, sp_infinite t2 hmn (fun h3 e3 t3 => w148 h3 3 _ _ _ 2 t3 (by decide) (by decide) rfl ?_)⟩⟩
  · rw [t2.f0]
    refine ⟨t2.ok, by decide, u2.ok, sp_inexactAsked u2 hex ?_⟩
    by_cases gx : ex = 105
    · rw [if_pos gx]
      refine ⟨rgS (by decide) (by decide), fun y => absurd y (by decide), fun _ => ?_⟩
      have B := bd (Or.inl g1)
      rw [hv2 (Or.inl g1)] at a2
      rw [hw2 (Or.inl g1)] at b2
      have up := pw_mono (show 1600 ≤ 4200 by decide)
      refine ⟨t2.ok, sp_nearest t2 hmn a2 b2 B.2.2.1 (by omega) (by omega) (by decide) (by decide) (fun h3 e m v' w' e3 hn hf q3 r3 => fin148 h3 m e hf ?_)⟩
      have hn : nrR v w e m := by
        rw [show (0 : Int).toNat = 0 from rfl, show (-(0 : Int)).toNat = 0 from rfl, Int.pow_zero, Int.mul_one, Int.mul_one] at hn
        exact hn
      exact hp h3 2 _ _ _ _ _ (k068 e3) ⟨fm, mn2, ex, tn, v, w, hprs, Or.inr (Or.inr (Or.inr (Or.inl ⟨g1, gx, rfl, e, m, hn, hf⟩)))⟩ (u068 e3) q3 r3 (c2.mv e3 (n068 (by decide)) (n068 (by decide))) (d2.mv e3 (n068 (by decide)) (n068 (by decide)))
    · rw [if_neg gx]
      exact ⟨rg0, fun _ => w77 (Or.inr (Or.inl ⟨g1, gx⟩)), fun y => absurd rfl y⟩
  · exact hp h3 2 _ _ _ _ _ (k0 e3) ⟨fm, mn2, ex, tn, v, w, hprs, Or.inr (Or.inr (Or.inl ⟨g4, rfl, _, _, t3⟩))⟩ (u2.mv e3 (by decide) (by decide) (by decide)) (a2.mv e3 (by decide) (by decide)) (b2.mv e3 (by decide) (by decide)) (c2.mv e3 (by decide) (by decide)) (d2.mv e3 (by decide) (by decide))
  · exact hp h3 2 _ _ _ _ _ (k0 e3) ⟨fm, mn2, ex, tn, v, w, hprs, Or.inr (Or.inl ⟨g3, rfl, _, _, t3⟩)⟩ (u2.mv e3 (by decide) (by decide) (by decide)) (a2.mv e3 (by decide) (by decide)) (b2.mv e3 (by decide) (by decide)) (c2.mv e3 (by decide) (by decide)) (d2.mv e3 (by decide) (by decide))
