/-! THE MODEL: the nearest double, its loop -/
theorem nr_m {N D e m : Int} (h : nrR N D e m) : 0 ≤ m ∧ m ≤ 9007199254740992 := by
  obtain ⟨_, f, r, _, _, _, _, _, _, h⟩ := h
  omega
theorem sp_nearestM {G : xG} {l : Launch} {n : Nat} {h : xH} {wl tl nm : Int} {a b m m' s t : Nat} {A B : Int} {Po : UInt64 → xH → Prop} (tm : isM n h wl tl nm) (ta : isT n h a m s A) (tb : isT n h b m' t B) (ha : a < 35 ∧ a ≠ 26 ∨ 37 < a) (hb : b < 35 ∧ b ≠ 26 ∨ 37 < b) (hs : s ≤ 440) (ht : t ≤ 440) (hA : 0 < A) (hB : 0 < B) (hp : ∀ h' x e m, hE (fun i => 35 ≤ i ∧ i ≤ 37) h h' → isM n h' wl tl nm → nrR A B e m → isVl x false (m.toNat * 2 ^ (e + 1074).toNat) → Po x h') : S_X9_nearest G l 26 a s b t n h Po := by
  refine S_X9_nearest_of (fun k hl C E => ?_)
  have hA1 := ta.val.2.1
  have hB1 := tb.val.2.1
  have hTs := T_mono hs
  have hTt := T_mono ht
  let S : Nat → Prop := fun i => 35 ≤ i ∧ i ≤ 37
  have nS : ∀ {i : Nat}, (i < 35 ∨ 37 < i) → ¬ S i := fun h1 h2 => by
    have h3 : 35 ≤ _ ∧ _ ≤ 37 := h2
    omega
  have c35 : ∀ {h1 h2 : xH}, hE (sC 35) h1 h2 → hE S h1 h2 := fun e => e.mono (fun i hi => by have : i = 35 := hi; show 35 ≤ i ∧ i ≤ 37; omega)
  have c36 : ∀ {h1 h2 : xH}, hE (sC 36) h1 h2 → hE S h1 h2 := fun e => e.mono (fun i hi => by have : i = 36 := hi; show 35 ≤ i ∧ i ≤ 37; omega)
  have c37 : ∀ {h1 h2 : xH}, hE (sC 37) h1 h2 → hE S h1 h2 := fun e => e.mono (fun i hi => by have : i = 37 := hi; show 35 ≤ i ∧ i ≤ 37; omega)
  -- the end
  have w330 : ∀ (e f up r D' : Int) (h1 : xH), hE S h h1 → isM n h1 wl tl nm → -1074 ≤ e → e ≤ 20000 → 0 ≤ f → f < 9007199254740992 → (up = 0 ∨ up = 1) → nrR A B e (f + up) → X9_nearest_w330 G k e up f n h1 := by
    intro e f up r D' h1 e1 tm1 he0 he1 hf0 hf1 hup hn
    obtain ⟨M, hM⟩ : ∃ M : Nat, f + up = (M : Int) := ⟨(f + up).toNat, by omega⟩
    refine X9_nearest_b330 C E e up f n h1 rfl ⟨rgS (by omega) (by omega), ?_⟩
    rw [hM]
    refine sp_scaled (by omega) he0 (by omega) (fun x hx => hp h1 x e (f + up) e1 tm1 hn ?_)
    rw [hM, Int.toNat_natCast]; exact hx
  -- a turn
  have turn : ∀ (e : Int) (h1 : xH), hE S h h1 → isM n h1 wl tl nm → -1074 ≤ e → e ≤ 20000 → B * 2 ^ e.toNat < 10000 ^ 530 →
      (∀ h2, hE S h h2 → isM n h2 wl tl nm → 9007199254740992 ≤ A * 2 ^ (-e).toNat / (B * 2 ^ e.toNat) → X9_nearest_w58 G k 26 a s b t (e + 1) n h2) →
      (∀ h2, hE S h h2 → isM n h2 wl tl nm → A * 2 ^ (-e).toNat / (B * 2 ^ e.toNat) < 4503599627370496 → -1074 < e → X9_nearest_w58 G k 26 a s b t (e + (-1)) n h2) → X9_nearest_w58 G k 26 a s b t e n h1 := by
    intro e h1 e1 tm1 he0 he1 hBe hup hdn
    have ta1 := ta.mv e1 (nS (by omega))
    have tb1 := tb.mv e1 (nS (by omega))
    refine X9_nearest_b58 C E 26 a s b t e n h1 rfl ?_
    rw [tm1.g8]
    refine ⟨tm1.ok, by decide, sp_copyW ta1 tm1.t35 (by show a ≠ 35; omega) (by omega) (fun h2 e2 t2 z2 => ?_)⟩
    have e2' : hE (sC 35) h1 h2 := e2
    have tm2 := tm1.mv e2' (by decide) (by decide)
    have tb2 := tb1.mv e2' (show ¬ b = 35 by omega)
    rw [tm2.g9]
    refine ⟨tm2.ok, by decide, sp_copyW tb2 tm2.t36 (by show b ≠ 36; omega) (by omega) (fun h3 e3 t3 z3 => ?_)⟩
    have e3' : hE (sC 36) h2 h3 := e3
    have tm3 := tm2.mv e3' (by decide) (by decide)
    have t23 : isT n h3 35 540 s A := t2.mv e3' (by decide)
    have z23 : ∀ j, s ≤ j → j < 540 → (h3 35).2.2 j = 0 := fun j y1 y2 => by rw [(e3' 35).2.2 (by decide)]; exact z2 j y1 y2
    rw [tm3.g0, tm3.g10]
    refine ⟨tm3.ok, by decide, tm3.ok, by decide, sp_copyRow (s := 0) tm3.one.1 tm3.t37 (by decide) (by omega) (fun h4 e4 v4 => ?_)⟩
    have e4' : hE (sC 37) h3 h4 := e4
    have tm4 := tm3.mv e4' (by decide) (by decide)
    have t24 := t23.mv e4' (by decide)
    have t34 : isT n h4 36 540 t B := t3.mv e4' (by decide)
    have z24 : ∀ j, s ≤ j → j < 540 → (h4 35).2.2 j = 0 := fun j y1 y2 => by rw [(e4' 35).2.2 (by decide)]; exact z23 j y1 y2
    have v4' : ∀ j, j < 540 → (h4 37).2.2 j = 0 := fun j hj => by
      have := v4 j hj
      rw [if_neg (by omega)] at this
      exact this
    have e04 : hE S h h4 := ((e1.tr (c35 e2')).tr (c36 e3')).tr (c37 e4')
    have hpw : (2 : Int) ^ (-e).toNat ≤ 2 ^ 1074 := pw_mono (by omega)
    have hfit1 : A * 2 ^ (-e).toNat < 10000 ^ 530 := by
      have h1 : A * 2 ^ (-e).toNat ≤ 10000 ^ 440 * 2 ^ 1074 := Int.mul_le_mul (by omega) hpw (Int.le_of_lt (pw_pos _)) (Int.le_of_lt (T_pos _))
      have h2 : (10000 : Int) ^ 440 * 2 ^ 1074 < 10000 ^ 530 := by decide +kernel
      omega
    have h5340 : (10000 : Int) ^ 530 ≤ 10000 ^ 540 := T_mono (by decide)
    -- numerator and denominator stand
    have w132 : ∀ (an bn : Nat) (h5 : xH), hE S h h5 → isM n h5 wl tl nm → isT n h5 35 540 an (A * 2 ^ (-e).toNat) → (h5 35).2.2 an = 0 → isT n h5 36 540 bn (B * 2 ^ e.toNat) → (∀ j, j < 540 → (h5 37).2.2 j = 0) → X9_nearest_w132 G k 26 a s b t e an bn n h5 := by
      intro an bn h5 e5 tm5 t5 z5 u5 v5
      have hD : 0 < B * 2 ^ e.toNat := Int.mul_pos hB (pw_pos _)
      have hN : 0 < A * 2 ^ (-e).toNat := Int.mul_pos hA (pw_pos _)
      have han : an ≤ 530 := t5.len hfit1
      have hbn : bn ≤ 530 := u5.len hBe
      generalize hNe : A * 2 ^ (-e).toNat = N at *
      generalize hDe : B * 2 ^ e.toNat = D at *
      have f0 : 0 ≤ N / D := Int.ediv_nonneg (by omega) (by omega)
      have r0 := Int.emod_nonneg N (show D ≠ 0 by omega)
      have r1 := Int.emod_lt_of_pos N hD
      have hdm := Int.emod_add_ediv_mul N D
      -- quotient and rest stand
      have w165 : ∀ (rn : Nat) (qw : Nat) (h6 : xH), hE S h h6 → isM n h6 wl tl nm → isT n h6 35 540 rn (N % D) → isT n h6 36 540 bn D → (qw : Int) = max 1 ((an : Int) - bn + 1) → qw ≤ 540 → dgt (h6 37).2.2 qw → rv (h6 37).2.2 qw = N / D → X9_nearest_w165 G k 26 a s b t e an bn rn n h6 := by
        intro rn qw h6 e6 tm6 t6 u6 hqw hqw2 hd6 hv6
        refine X9_nearest_b165 C E 26 a s b t e an bn rn n h6 rfl ?_
        rw [tm6.g10]
        refine ⟨tm6.ok, by decide, sp_max (rgS (by decide) (by decide)) (rgS (by omega) (by omega)) ?_⟩
        rw [← hqw]
        refine sp_used qw tm6.t37 hqw2 hd6 (fun qn hqn tq _ => ?_)
        have tq' : isT n h6 37 540 qn (N / D) := by rw [← hv6]; exact tq
        refine sp_min (rg_nat (by omega)) (rgS (by decide) (by decide)) ?_
        -- the digits of the quotient
        have fin : ∀ x : Int, ((qn : Int) ≤ 4 → x = N / D) → rgL x → X9_nearest_w200 G k 26 a s b t e bn rn qn x (-1) n h6 := by
          intro x hx rx
          have h104 : (10000 : Int) ^ 4 = 10000000000000000 := by decide
          have w243 : 9007199254740992 ≤ N / D → X9_nearest_w243 G k 26 a s b t e n h6 := fun g => X9_nearest_b243 C E 26 a s b t e n h6 rfl (X9_nearest_b338 C E 26 a s b t (e + 1) n h6 rfl (hup h6 e6 tm6 g))
          have w272 : x = N / D → x < 9007199254740992 → (4503599627370496 ≤ x ∨ e = -1074) → X9_nearest_w272 G k 26 e bn rn x n h6 := by
            intro hxe hx1 hx2
            refine X9_nearest_b272 C E 26 e bn rn x n h6 rfl ?_
            rw [tm6.g8]
            refine ⟨tm6.ok, by decide, sp_scale t6 (by decide) (by decide) (by decide) (by decide) ?_ (fun h7 s7 e7 t7 _ => ?_)⟩
            · have : (10000 : Int) ^ 530 * 2 ≤ 10000 ^ 540 := by decide +kernel
              have := T_mono (a := bn) (b := 530) hbn
              have := u5.val.2.1
              omega
            · have e7' : hE (sC 35) h6 h7 := e7
              have tm7 := tm6.mv e7' (by decide) (by decide)
              have u7 : isT n h7 36 540 bn D := u6.mv e7' (by decide)
              have e07 : hE S h h7 := e6.tr (c35 e7')
              have t7' : isT n h7 35 540 s7 (N % D * 2) := by rw [← Int.add_zero (N % D * 2)]; exact t7
              rw [tm7.g8, tm7.g9]
              have dec : A * 2 ^ (-e).toNat = x * (B * 2 ^ e.toNat) + N % D := by rw [hNe, hDe, hxe]; omega
              have mk : ∀ up : Int, (up = 1 ∧ (D < 2 * (N % D) ∨ (2 * (N % D) = D ∧ x % 2 = 1)) ∨ up = 0 ∧ ¬ (D < 2 * (N % D) ∨ (2 * (N % D) = D ∧ x % 2 = 1))) → X9_nearest_w330 G k e up x n h7 := by
                intro up hup
                refine w330 e x up 0 0 h7 e07 tm7 he0 he1 (by omega) hx1 (by omega) ⟨he0, x, N % D, dec, r0, by rw [hDe]; exact r1, by omega, hx1, hx2, ?_⟩
                rw [hDe]
                rcases hup with ⟨u1, u2⟩ | ⟨u1, u2⟩
                · exact Or.inl ⟨by rw [u1], u2⟩
                · exact Or.inr ⟨by rw [u1, Int.add_zero], u2⟩
              have tmx := (tdm (show 0 ≤ x by omega) 2).2
              refine ⟨tm7.ok, by decide, tm7.ok, by decide, sp_compareRows t7' u7 ⟨rg_ord _ _, fun g => ?_, fun g => ⟨rg_ord _ _, fun g2 => ?_, fun g2 => ⟨⟨rx, ⟨by decide, by decide⟩, by decide⟩, ⟨by rw [tmx]; exact ⟨by omega, by omega⟩, ⟨by decide, by decide⟩⟩, fun g3 => ?_, fun g3 => ?_⟩⟩⟩⟩
              · refine X9_nearest_b325 C E e x n h7 rfl (mk 1 (Or.inl ⟨rfl, ?_⟩))
                unfold ord at g
                split at g
                · omega
                · split at g <;> omega
              · refine X9_nearest_b329 C E e x n h7 rfl (mk 0 (Or.inr ⟨rfl, ?_⟩))
                unfold ord at g g2
                split at g2
                · omega
                · split at g2
                  · omega
                  · rw [if_neg (by omega), if_neg (by omega)] at g; omega
              · refine X9_nearest_b329 C E e x n h7 rfl (mk 0 (Or.inr ⟨rfl, ?_⟩))
                have h3 : x % 2 ≠ 1 := fun y => g3 ((lC_eq0 _ _).mpr (by rw [tmx]; exact y))
                unfold ord at g2
                split at g2
                · omega
                · split at g2 <;> omega
              · refine X9_nearest_b325 C E e x n h7 rfl (mk 1 (Or.inl ⟨rfl, ?_⟩))
                have h3 := (lC_eq0 _ _).mp g3
                rw [tmx] at h3
                unfold ord at g2
                split at g2
                · omega
                · split at g2 <;> omega
          have rc1 : rgL 9007199254740992 := ⟨by decide, by decide⟩
          have rc2 : rgL 4503599627370496 := ⟨by decide, by decide⟩
          refine X9_nearest_b200 C E 26 a s b t e bn rn qn x (-1) n h6 rfl ⟨rgS (by decide) (by decide), fun _ => ⟨⟨rg_nat (by omega), rgS (by decide) (by decide)⟩, fun g => w243 ?_, fun g => ⟨⟨rx, rc1⟩, fun g2 => ⟨⟨rx, rc2⟩, fun g3 => w272 (hx (by omega)) ((lC_lt _ _).mp g2) (Or.inl ?_), fun g3 => ⟨⟨rgS (by omega) (by omega), rgS (by decide) (by decide)⟩, fun g4 => w272 (hx (by omega)) ((lC_lt _ _).mp g2) (Or.inr (by omega)), fun g4 => X9_nearest_b338 C E 26 a s b t (e + (-1)) n h6 rfl (hdn h6 e6 tm6 ?_ (by omega))⟩⟩, fun g2 => w243 ?_⟩⟩, fun g => absurd (by decide : (-1 : Int) < 0) g⟩
          · have := tq'.val.2.2.2 (qn - 1) (by omega)
            have h5 := T_mono (a := 4) (b := qn - 1) (by omega)
            omega
          · have := mt (lC_lt x 4503599627370496).mpr (by omega)
            omega
          · rw [← hx (by omega)]
            exact (lC_lt x 4503599627370496).mp (by omega)
          · rw [← hx (by omega)]
            have := mt (lC_lt x 9007199254740992).mpr g2
            omega
        have dig : ∀ (u c : Nat) (x : Int), ((u + c : Nat) : Int) = min (qn : Int) 4 → x = rv (fun i => (h6 37).2.2 (u + i)) c → X9_nearest_w200 G k 26 a s b t e bn rn qn x ((u : Int) - 1) n h6 := by
          intro u
          induction u with
          | zero =>
            intro c x hc hx
            have hdc : dgt (fun i => (h6 37).2.2 (0 + i)) c := fun i hi => by show 0 ≤ (h6 37).2.2 (0 + i) ∧ (h6 37).2.2 (0 + i) ≤ 9999; rw [Nat.zero_add]; exact hd6 i (by omega)
            have hb := rv_bd hdc
            have h4 := T_mono (a := c) (b := 4) (by omega)
            have h104 : (10000 : Int) ^ 4 = 10000000000000000 := by decide
            refine fin x (fun y => ?_) ⟨by omega, by omega⟩
            rw [hx, ← tq'.2.2.2.1, show c = qn by omega]
            exact rv_congr (fun i hi => by rw [Nat.zero_add])
          | succ u ih =>
            intro c x hc hx
            have du := hd6 u (by omega)
            refine X9_nearest_b200 C E 26 a s b t e bn rn qn x _ n h6 rfl ⟨rgS (by omega) (by omega), fun g => by omega, fun _ => ?_⟩
            rw [tm6.g10, show ((u + 1 : Nat) : Int) - 1 = (u : Int) by omega, Int.toNat_natCast]
            refine ⟨tm6.ok, by decide, tm6.t37.at (by omega) (by omega), rgS (by show _ ≤ (h6 37).2.2 u; omega) (by show (h6 37).2.2 u ≤ _; omega), fun y hy => ?_⟩
            rw [show (u : Int) + (-1) = (u : Int) - 1 by omega]
            refine ih (c + 1) y (by omega) ?_
            rw [rv_shift, hy, hx]
            show _ * 10000 + (h6 37).2.2 u = _
            rw [Int.mul_comm]
            omega
        have := dig (min qn 4) 0 0 (by omega) rfl
        rw [show ((min qn 4 : Nat) : Int) - 1 = min (qn : Int) 4 - 1 by omega] at this
        exact this
      refine X9_nearest_b132 C E 26 a s b t e an bn n h5 rfl ⟨⟨rg_nat (by omega), rg_nat (by omega)⟩, fun g => ?_, fun g => ?_⟩
      · rw [tm5.g8, tm5.g9, tm5.g10]
        refine ⟨tm5.ok, by decide, tm5.ok, by decide, tm5.ok, by decide, sp_divideRows t5 u5 (by decide) (by omega) hD (by omega) z5 (Or.inr ⟨by decide, by decide, by decide, 540, tm5.t37, by omega⟩) (fun h6 r6 e6 t6 hr6 hq6 => ?_)⟩
        obtain ⟨d6, v6, _⟩ := hq6 (by decide)
        have e6' : hE (fun i => i = 35 ∨ i = 37) h5 h6 := e6.mono (fun i hi => by
          rcases hi with z | z
          · exact Or.inl z
          · exact Or.inr z.2)
        refine w165 r6 (an - bn + 1) h6 (e5.tr (e6'.mono (fun i hi => by show 35 ≤ i ∧ i ≤ 37; omega))) (tm5.mv e6' (by decide) (by decide)) t6 (u5.mv e6' (by decide)) (by omega) (by omega) d6 v6
      · have hlt : N < D := by
          have h1 := t5.val.2.1
          have h2 := u5.val.2.2.2 (bn - 1) (by omega)
          have h3 := T_mono (a := an) (b := bn - 1) (by omega)
          omega
        have em : N % D = N := Int.emod_eq_of_lt (by omega) hlt
        have ed : N / D = 0 := Int.ediv_eq_zero_of_lt (by omega) hlt
        refine w165 an 1 h5 e5 tm5 (by rw [em]; exact t5) u5 (by omega) (by decide) (fun i hi => by rw [v5 i (by omega)]; decide) ?_
        rw [ed]
        show 0 + (h5 37).2.2 0 * 10000 ^ 0 = 0
        rw [v5 0 (by decide)]; decide
    -- the denominator
    have w109 : ∀ (an : Nat) (h5 : xH), hE S h h5 → isM n h5 wl tl nm → isT n h5 35 540 an (A * 2 ^ (-e).toNat) → (h5 35).2.2 an = 0 → isT n h5 36 540 t B → (∀ j, j < 540 → (h5 37).2.2 j = 0) → X9_nearest_w109 G k 26 a s b t e an n h5 := by
      intro an h5 e5 tm5 t5 z5 u5 v5
      refine X9_nearest_b109 C E 26 a s b t e an n h5 rfl ⟨rgS (by omega) (by omega), fun g => ?_, fun g => ?_⟩
      · refine w132 an t h5 e5 tm5 t5 z5 ?_ v5
        rw [show e.toNat = 0 by omega, Int.pow_zero, Int.mul_one]; exact u5
      · obtain ⟨en, hen⟩ : ∃ en : Nat, e = (en : Int) := ⟨e.toNat, by omega⟩
        rw [tm5.g9]
        refine ⟨tm5.ok, by decide, ?_⟩
        rw [hen]
        refine sp_doubled u5 (by omega) (by rw [hen, Int.toNat_natCast] at hBe; omega) (fun h6 s6 e6 t6 _ => ?_)
        have e6' : hE (sC 36) h5 h6 := e6
        rw [← hen]
        refine w132 an s6 h6 (e5.tr (c36 e6')) (tm5.mv e6' (by decide) (by decide)) (t5.mv e6' (by decide)) (by rw [(e6' 35).2.2 (by decide)]; exact z5) (by rw [hen, Int.toNat_natCast]; exact t6) (fun j hj => by rw [(e6' 37).2.2 (by decide)]; exact v5 j hj)
    refine ⟨rgS (by omega) (by omega), fun g => ?_, fun g => ?_⟩
    · refine w109 s h4 e04 tm4 ?_ (z24 s (Nat.le_refl _) (by omega)) t34 v4'
      rw [show (-e).toNat = 0 by omega, Int.pow_zero, Int.mul_one]; exact t24
    · obtain ⟨en, hen⟩ : ∃ en : Nat, -e = (en : Int) := ⟨(-e).toNat, by omega⟩
      rw [tm4.g8]
      refine ⟨tm4.ok, by decide, ?_⟩
      rw [hen]
      refine sp_doubled t24 (by omega) (by rw [hen, Int.toNat_natCast] at hfit1; omega) (fun h5 s5 e5 t5 k5 => ?_)
      have e5' : hE (sC 35) h4 h5 := e5
      have hs5 : s5 ≤ 530 := t5.len (by rw [hen, Int.toNat_natCast] at hfit1; exact hfit1)
      have hss5 : s ≤ s5 := t24.len (by
        have h1 := t5.val.2.1
        have h2 := Int.mul_le_mul_of_nonneg_left (show (1 : Int) ≤ 2 ^ en by have := pw_pos en; omega) (Int.le_of_lt hA)
        rw [Int.mul_one] at h2
        omega)
      refine w109 s5 h5 (e04.tr (c35 e5')) (tm4.mv e5' (by decide) (by decide)) (by rw [hen, Int.toNat_natCast]; exact t5) ?_ (t34.mv e5' (by decide)) (fun j hj => by rw [(e5' 37).2.2 (by decide)]; exact v4' j hj)
      have := k5 s5 (Nat.le_refl _)
      exact this.trans (z24 s5 hss5 (by omega))
  have Dp : ∀ e : Int, 0 < B * 2 ^ e.toNat := fun e => Int.mul_pos hB (pw_pos _)
  have step : ∀ e : Int, (B * 2 ^ (e + 1).toNat = 2 * (B * 2 ^ e.toNat) ∧ A * 2 ^ (-(e + 1)).toNat = A * 2 ^ (-e).toNat) ∨ (A * 2 ^ (-e).toNat = 2 * (A * 2 ^ (-(e + 1)).toNat) ∧ B * 2 ^ (e + 1).toNat = B * 2 ^ e.toNat) := by
    intro e
    rcases Int.lt_or_le e 0 with g | g
    · right
      rw [show (-e).toNat = (-(e + 1)).toNat + 1 by omega, show (e + 1).toNat = e.toNat by omega, Int.pow_succ, ← Int.mul_assoc, Int.mul_comm _ 2]
      exact ⟨rfl, rfl⟩
    · left
      rw [show (e + 1).toNat = e.toNat + 1 by omega, show (-(e + 1)).toNat = (-e).toNat by omega, Int.pow_succ, ← Int.mul_assoc, Int.mul_comm _ 2]
      exact ⟨rfl, rfl⟩
  have hbig : (10000 : Int) ^ 440 ≤ 10000 ^ 530 := T_mono (by decide)
  have up : ∀ (u : Nat) (e : Int) (h1 : xH), e + u = 8000 → -1074 ≤ e → 4503599627370496 * (B * 2 ^ e.toNat) ≤ A * 2 ^ (-e).toNat → hE S h h1 → isM n h1 wl tl nm → X9_nearest_w58 G k 26 a s b t e n h1 := by
    intro u
    induction u with
    | zero =>
      intro e h1 he he0 hK e1 tm1
      exfalso
      have e8 : e = 8000 := by omega
      subst e8
      have h2 : (10000 : Int) ^ 440 ≤ 2 ^ 8000 := by decide +kernel
      have h3 := Int.mul_le_mul_of_nonneg_right (show (1 : Int) ≤ B by omega) (Int.le_of_lt (pw_pos 8000))
      rw [Int.one_mul] at h3
      have h4 : A * 2 ^ (-(8000 : Int)).toNat = A := by rw [show (-(8000 : Int)).toNat = 0 by decide, Int.pow_zero, Int.mul_one]
      rw [h4, show ((8000 : Int)).toNat = 8000 by decide] at hK
      omega
    | succ u ih =>
      intro e h1 he he0 hK e1 tm1
      have hd := Dp e
      have hfit : B * 2 ^ e.toNat < 10000 ^ 530 := by
        rcases Int.lt_or_le e 0 with g | g
        · rw [show e.toNat = 0 by omega, Int.pow_zero, Int.mul_one]; omega
        · rw [show (-e).toNat = 0 by omega, Int.pow_zero, Int.mul_one] at hK
          omega
      refine turn e h1 e1 tm1 he0 (by omega) hfit (fun h2 e2 tm2 g => ih (e + 1) h2 (by omega) (by omega) ?_ e2 tm2) (fun h2 e2 tm2 g g2 => ?_)
      · have g' := (Int.le_ediv_iff_mul_le hd).mp g
        rcases step e with ⟨s1, s2⟩ | ⟨s1, s2⟩
        · rw [s1, s2]; omega
        · rw [s2]; omega
      · exfalso
        have g' := (Int.le_ediv_iff_mul_le hd).mpr hK
        omega
  have down : ∀ (u : Nat) (e : Int) (h1 : xH), e = (u : Int) - 1074 → e ≤ 1100 → A * 2 ^ (-e).toNat < 9007199254740992 * (B * 2 ^ e.toNat) → hE S h h1 → isM n h1 wl tl nm → X9_nearest_w58 G k 26 a s b t e n h1 := by
    intro u
    induction u with
    | zero =>
      intro e h1 he he1 hK e1 tm1
      have hd := Dp e
      have hfit : B * 2 ^ e.toNat < 10000 ^ 530 := by rw [show e.toNat = 0 by omega, Int.pow_zero, Int.mul_one]; omega
      refine turn e h1 e1 tm1 (by omega) (by omega) hfit (fun h2 e2 tm2 g => ?_) (fun h2 e2 tm2 g g2 => by omega)
      exfalso
      have := (Int.le_ediv_iff_mul_le hd).mp g
      omega
    | succ u ih =>
      intro e h1 he he1 hK e1 tm1
      have hd := Dp e
      have hfit : B * 2 ^ e.toNat < 10000 ^ 530 := by
        have h1 : B * 2 ^ e.toNat ≤ 10000 ^ 440 * 2 ^ 1100 := Int.mul_le_mul (by omega) (pw_mono (by omega)) (Int.le_of_lt (pw_pos _)) (Int.le_of_lt (T_pos _))
        have h2 : (10000 : Int) ^ 440 * 2 ^ 1100 < 10000 ^ 530 := by decide +kernel
        omega
      refine turn e h1 e1 tm1 (by omega) (by omega) hfit (fun h2 e2 tm2 g => ?_) (fun h2 e2 tm2 g g2 => ih (e + (-1)) h2 (by omega) (by omega) ?_ e2 tm2)
      · exfalso
        have := (Int.le_ediv_iff_mul_le hd).mp g
        omega
      · have g' := (Int.ediv_lt_iff_lt_mul hd).mp g
        have st := step (e + (-1))
        rw [show e + (-1) + 1 = e by omega] at st
        rcases st with ⟨s1, s2⟩ | ⟨s1, s2⟩
        · rw [← s2]; omega
        · rw [s1, ← s2]; omega
  have start : ∀ (e : Int), -1074 ≤ e → e ≤ 1100 → X9_nearest_w58 G k 26 a s b t e n h := by
    intro e he0 he1
    have hd := Dp e
    have hfit : B * 2 ^ e.toNat < 10000 ^ 530 := by
      have h1 : B * 2 ^ e.toNat ≤ 10000 ^ 440 * 2 ^ 1100 := Int.mul_le_mul (by omega) (pw_mono (by omega)) (Int.le_of_lt (pw_pos _)) (Int.le_of_lt (T_pos _))
      have h2 : (10000 : Int) ^ 440 * 2 ^ 1100 < 10000 ^ 530 := by decide +kernel
      omega
    refine turn e h hE.rf tm he0 (by omega) hfit (fun h2 e2 tm2 g => up (8000 - (e + 1)).toNat (e + 1) h2 (by omega) (by omega) ?_ e2 tm2) (fun h2 e2 tm2 g g2 => down (e + (-1) + 1074).toNat (e + (-1)) h2 (by omega) (by omega) ?_ e2 tm2)
    · have g' := (Int.le_ediv_iff_mul_le hd).mp g
      rcases step e with ⟨s1, s2⟩ | ⟨s1, s2⟩
      · rw [s1, s2]; omega
      · rw [s2]; omega
    · have g' := (Int.ediv_lt_iff_lt_mul hd).mp g
      have st := step (e + (-1))
      rw [show e + (-1) + 1 = e by omega] at st
      rcases st with ⟨s1, s2⟩ | ⟨s1, s2⟩
      · rw [← s2]; omega
      · rw [s1, ← s2]; omega
  refine X9_nearest_b0 C E 26 a s b t n h rfl (sp_decimals ta hA (fun dA dA1 dA2 dA3 dA4 => sp_decimals tb hB (fun dB dB1 dB2 dB3 dB4 => ?_)))
  have hk0 : -1800 ≤ (dA : Int) - dB := by omega
  have hk1 : (dA : Int) - dB ≤ 1800 := by omega
  obtain ⟨⟨g1, g2⟩, g3, g4⟩ := gs_of hk0 hk1
  refine ⟨gs_n64 (rgS (by omega) (by omega)), fun y hy => ?_⟩
  have hy' : y = gsE ((dA : Int) - dB) := hy
  have ry : rg y := by rw [hy']; exact rgS (by omega) (by omega)
  rw [← hy'] at g1 g2 g3 g4
  refine ⟨⟨ry, rgS (by decide) (by decide)⟩, fun z => ⟨⟨ry, rgS (by decide) (by decide)⟩, fun z2 => ⟨⟨ry, rgS (by decide) (by decide)⟩, fun z3 => start y z3 z, fun z3 => start (-1074) (by decide) (by decide)⟩, fun z2 => ?_⟩, fun z => ?_⟩
  · -- too small
    have hk : dA + 345 ≤ dB := by omega
    have h1 : (10 : Int) ^ (dA + 344) ≤ 10 ^ (dB - 1) := ten_mono (by omega)
    rw [Int.pow_add] at h1
    have hlt : 2 * (A * 2 ^ 1074) < B := by
      have h2 : A * 10 ^ 344 ≤ 10 ^ dA * 10 ^ 344 := Int.mul_le_mul_of_nonneg_right (by omega) (by decide +kernel)
      have h3 : A * 2 ^ 1075 < A * 10 ^ 344 := Int.mul_lt_mul_of_pos_left (by decide +kernel) hA
      have h4 : A * 2 ^ 1075 = 2 * (A * 2 ^ 1074) := by rw [Int.pow_succ, ← Int.mul_assoc, Int.mul_comm]
      omega
    have hpos : 0 < A * 2 ^ 1074 := Int.mul_pos hA (pw_pos _)
    have hm : (-(-1074 : Int)).toNat = 1074 := by decide
    have hm2 : (-1074 : Int).toNat = 0 := by decide
    refine hp h FP.dconst0 (-1074) 0 hE.rf tm ⟨by decide, 0, A * 2 ^ 1074, by rw [hm, Int.zero_mul, Int.zero_add], by omega, by rw [hm2, Int.pow_zero, Int.mul_one]; omega, by decide, by decide, Or.inr rfl, Or.inr ⟨rfl, ?_⟩⟩ (Or.inl ⟨by decide +kernel, 0, -1074, by decide +kernel, by decide⟩)
    rw [hm2, Int.pow_zero, Int.mul_one]; omega
  · -- too great
    have hk : dB + 347 ≤ dA := by omega
    have h1 : (10 : Int) ^ (dB + 346) ≤ 10 ^ (dA - 1) := ten_mono (by omega)
    rw [Int.pow_add] at h1
    have hge : B * 2 ^ 1024 ≤ A := by
      have h2 : B * 10 ^ 346 ≤ 10 ^ dB * 10 ^ 346 := Int.mul_le_mul_of_nonneg_right (by omega) (by decide +kernel)
      have h3 : B * 2 ^ 1024 ≤ B * 10 ^ 346 := Int.mul_le_mul_of_nonneg_left (by decide +kernel) (by omega)
      omega
    obtain ⟨e, m0, hn, he⟩ := nr_big hB hge
    refine hp h 9218868437227405312 e m0 hE.rf tm hn (Or.inr ⟨?_, by decide +kernel⟩)
    obtain ⟨he0, f, r, x1, x2, x3, x4, x5, x6, x7⟩ := hn
    have hm : 4503599627370496 ≤ m0.toNat := by omega
    have h2 : (2 : Nat) ^ 2046 ≤ 2 ^ (e + 1074).toNat := Nat.pow_le_pow_right (by decide) (by omega)
    have h3 : (2 : Nat) ^ 2098 = 4503599627370496 * 2 ^ 2046 := by decide +kernel
    rw [h3]
    exact Nat.mul_le_mul hm h2
