/-! THE MODEL: a number's text, and what is read -/
theorem isW0_iff {T : List Int} {p : Nat} : isW T p 0 ↔ cd T (p : Int) = 105 ∧ cd T ((p : Int) + 1) = 110 ∧ cd T ((p : Int) + 2) = 102 ∧ cd T ((p : Int) + 3) = 46 ∧ cd T ((p : Int) + 4) = 48 := by
  constructor
  · intro w
    exact ⟨w 0 (by decide), w 1 (by decide), w 2 (by decide), w 3 (by decide), w 4 (by decide)⟩
  · rintro ⟨a, b, c, d, e⟩ i hi
    have hi : i < 5 := hi
    rcases (show i = 0 ∨ i = 1 ∨ i = 2 ∨ i = 3 ∨ i = 4 by omega) with z | z | z | z | z <;> subst z
    · exact a
    · exact b
    · exact c
    · exact d
    · exact e
theorem isW1_iff {T : List Int} {p : Nat} : isW T p 1 ↔ cd T (p : Int) = 110 ∧ cd T ((p : Int) + 1) = 97 ∧ cd T ((p : Int) + 2) = 110 ∧ cd T ((p : Int) + 3) = 46 ∧ cd T ((p : Int) + 4) = 48 := by
  constructor
  · intro w
    exact ⟨w 0 (by decide), w 1 (by decide), w 2 (by decide), w 3 (by decide), w 4 (by decide)⟩
  · rintro ⟨a, b, c, d, e⟩ i hi
    have hi : i < 5 := hi
    rcases (show i = 0 ∨ i = 1 ∨ i = 2 ∨ i = 3 ∨ i = 4 by omega) with z | z | z | z | z <;> subst z
    · exact a
    · exact b
    · exact c
    · exact d
    · exact e
theorem dv_no {b c : Int} (hb : 2 ≤ b) (h : dw c = -1) : dv b c < 0 := by
  unfold dv; rw [h, if_pos (by omega)]; decide
theorem vl_pinf : vl 9218868437227405312 = .inf false := by decide +kernel
theorem vl_ninf : vl 18442240474082181120 = .inf true := by decide +kernel
theorem sp_numberM {G : xG} {l : Launch} {n : Nat} {h : xH} {T : List Int} {wl tl z fm mn ex tn v w : Int} {Po : Int → Nat → xH → Prop} (tm : isM n h wl tl z) (tt : isTx h T) (hT : ∀ x, x ∈ T → 0 ≤ x ∧ x ≤ 127) (hprs : prsR T fm mn ex tn v w)
    (hn : fm = 0 → ∀ h' n', hF sM n h h' → n ≤ n' → n' ≤ n + 11 → isM n' h' wl tl z → Po (-1) n' h')
    (h1E : fm = 1 → ex ≠ 105 → ∀ h' n' y V W, hF sM n h h' → n ≤ n' → n' ≤ n + 11 → isM n' h' wl tl z → lowR v w V W → exS n' h' y mn V W → Po y n' h')
    (h1R : fm = 1 → ex = 105 → ∀ h' n' (y : Nat) x e1 m1, hF sM n h h' → n ≤ n' → n' ≤ n + 11 → isM n' h' wl tl z → nrR v w e1 m1 → isRl n' h' y x 0 → isVl x (sgB mn) (m1.toNat * 2 ^ (e1 + 1074).toNat) → Po y n' h')
    (h2E : fm = 2 → ex = 101 → ∀ h' n' y V W, hF sM n h h' → n ≤ n' → n' ≤ n + 11 → isM n' h' wl tl z → lowR (v * 10 ^ tn.toNat) (10 ^ (-tn).toNat) V W → exS n' h' y mn V W → Po y n' h')
    (h2R : fm = 2 → ex ≠ 101 → ∀ h' n' (y : Nat) x e1 m1, hF sM n h h' → n ≤ n' → n' ≤ n + 11 → isM n' h' wl tl z → nrR (v * 10 ^ tn.toNat) (10 ^ (-tn).toNat) e1 m1 → isRl n' h' y x 0 → isVl x (sgB mn) (m1.toNat * 2 ^ (e1 + 1074).toNat) → Po y n' h')
    (h3 : fm = 3 → ∀ h' n' (y : Nat) x, hF sM n h h' → n ≤ n' → n' ≤ n + 11 → isM n' h' wl tl z → isRl n' h' y x 0 → vl x = .inf (sgB mn) → Po y n' h')
    (h4 : fm = 4 → ∀ h' n' (y : Nat) x, hF sM n h h' → n ≤ n' → n' ≤ n + 11 → isM n' h' wl tl z → isRl n' h' y x 1 → Po y n' h') :
    S_X9_number G l 26 47 0 T.length 10 n h Po := by
  refine S_X9_number_of (fun k hl C E => X9_number_b0 (n0 := 0) C E 26 47 0 T.length 10 n h ?_)
  have hn47 : 47 < n := tm.t47.1
  have lT := tt.1
  have rl : rg (T.length : Int) := rg_nat (by omega)
  have no0 : fm = 0 → Po (-1) n h := fun y => hn y h n hF.rf (Nat.le_refl _) (by omega) tm
  have hat : ∀ {i : Nat} (j : Int), j = (i : Int) → i < T.length → okA n h 47 100 j ∧ hG h 47 j.toNat = cd T j := fun {i} j hj hi => by rw [hj]; exact tt.at tm hi
  have hcr : ∀ j : Int, rg (cd T j) := fun j => by have := cd_rg hT j; exact rgS (by omega) (by omega)
  have bb2 : ∀ b : Int, (b = 0 ∨ b = 2 ∨ b = 8 ∨ b = 10 ∨ b = 16) → 2 ≤ (if b = 0 then 10 else b) ∧ (if b = 0 then 10 else b) ≤ 16 := fun b hb => by split <;> omega
  have w367 : ∀ (pp : Nat) (b x m : Int), (b = 0 ∨ b = 2 ∨ b = 8 ∨ b = 10 ∨ b = 16) → S_X9_unsigned G (kl k) 26 47 pp T.length (if b = 0 then 10 else b) x m n h (fun z2 n4 h3 => Po z2 n4 h3) → X9_number_w367 G k 26 47 T.length 10 b x pp m n h := by
    intro pp b x m hb hs
    refine X9_number_b367 (n0 := 0) C E 26 47 T.length 10 b x pp m n h ⟨rgS (by omega) (by omega), fun y => X9_number_b384 (n0 := 0) C E x m b T.length pp 47 26 n h ⟨tm.ok, ?_⟩, fun y => X9_number_b384 (n0 := 0) C E x m 10 T.length pp 47 26 n h ⟨tm.ok, ?_⟩⟩
    · rw [if_neg y] at hs; exact hs
    · rw [if_pos y] at hs; exact hs
  have U0 : fm = 0 → ∀ (pp : Nat) (b x m : Int), (b = 0 ∨ b = 2 ∨ b = 8 ∨ b = 10 ∨ b = 16) → rg x → (m = 0 ∨ m = 1) → pp ≤ T.length → (cd T (pp : Int) = 35 ∨ cd T (pp : Int) = 105 ∨ cd T (pp : Int) = 110) → X9_number_w367 G k 26 47 T.length 10 b x pp m n h := by
    intro f0 pp b x m hb hx hm hpp hc
    obtain ⟨hb0, hb1⟩ := bb2 b hb
    have hdv : dv (if b = 0 then 10 else b) (cd T (pp : Int)) < 0 := by
      rcases hc with y | y | y <;> rw [y] <;> exact dv_no hb0 (by decide)
    refine w367 pp b x m hb (sp_unsignedM (fm := 0) (fm' := 0) (p' := pp) (tn := 0) (w := 1) (v := dvl T (if b = 0 then 10 else b) pp 0 0) tm tt hT hb0 hb1 hpp hm hx ⟨0, ⟨fun j hj => absurd hj (Nat.not_lt_zero _), hdv⟩, Or.inr ⟨fun y => absurd y.1 (by decide), rfl, Or.inr ⟨?_, rfl, rfl, rfl⟩⟩⟩ (by rw [ite_self]) (fun _ h' n' a1 a2 a3 a4 => hn f0 h' n' a1 a2 a3 a4) (fun y => absurd y (by decide)) (fun y => absurd y (by decide)) (fun y => absurd y (by decide)) (fun y => absurd y (by decide)))
    rintro ⟨_, y⟩
    have y : cd T (pp : Int) = 46 ∨ em (cd T (pp : Int)) := y
    unfold em at y; omega
  -- the sign
  have t135 : ∀ (p : Nat) (b x sg m : Int), p ≤ T.length → sg = (if cd T (p : Int) = 45 ∨ cd T (p : Int) = 43 then 1 else 0) → m = (if cd T (p : Int) = 45 then 1 else 0) → X9_number_w195 G k 26 47 T.length 10 b x ((p : Int) + sg) sg m n h → X9_number_w135 G k 26 47 T.length 10 b x p n h := by
    intro p b x sg m hp hsg hm hw
    have w163 : sg = 0 → m = 0 → X9_number_w163 G k 26 47 T.length 10 b x p n h := by
      intro y1 y2
      refine X9_number_b163 (n0 := 0) C E 26 47 T.length 10 b x p n h (X9_number_b164 (n0 := 0) C E 26 47 T.length 10 b x p 0 n h ⟨rg0, fun _ => X9_number_b184 (n0 := 0) C E 26 47 T.length 10 b x p 0 n h (X9_number_b185 (n0 := 0) C E 26 47 T.length 10 b x p 0 0 n h ⟨rg0, fun _ => ?_, fun y => absurd rfl y⟩), fun y => absurd rfl y⟩)
      rw [y1, y2, Int.add_zero] at hw; exact hw
    have w159 : sg = 1 → p < T.length → X9_number_w159 G k 26 47 T.length 10 b x p n h := by
      intro y1 y2
      obtain ⟨a1, a2⟩ := hat (p : Int) rfl y2
      have w185 : ∀ s0, s0 = m → X9_number_w185 G k 26 47 T.length 10 b x p 1 s0 n h := fun s0 e0 => X9_number_b185 (n0 := 0) C E 26 47 T.length 10 b x p 1 s0 n h ⟨rgS (by decide) (by decide), fun y => absurd y (by decide), fun _ => by rw [y1] at hw; rw [e0]; exact hw⟩
      refine X9_number_b159 (n0 := 0) C E 26 47 T.length 10 b x p n h (X9_number_b164 (n0 := 0) C E 26 47 T.length 10 b x p 1 n h ⟨rgS (by decide) (by decide), fun y => absurd y (by decide), fun _ => ⟨a1, ?_⟩⟩)
      rw [a2]
      exact ⟨⟨hcr _, rgS (by decide) (by decide)⟩, fun y => X9_number_b184 (n0 := 0) C E 26 47 T.length 10 b x p 1 n h (w185 0 (by rw [hm, if_neg y])), fun y => w185 1 (by rw [hm, if_pos y])⟩
    refine X9_number_b135 (n0 := 0) C E 26 47 T.length 10 b x p n h ⟨⟨rg_nat (by omega), rl⟩, fun y => w163 ?_ ?_, fun y => ?_⟩
    · rw [hsg, cd_end y, if_neg (by decide)]
    · rw [hm, cd_end y, if_neg (by decide)]
    · obtain ⟨a1, a2⟩ := hat (p : Int) rfl (show p < T.length by omega)
      refine ⟨a1, ?_⟩
      rw [a2]
      exact ⟨⟨hcr _, rgS (by decide) (by decide)⟩, fun y2 => w159 (by rw [hsg, if_pos (Or.inr y2)]) (by omega), fun y2 => ⟨a1, ⟨hcr _, rgS (by decide) (by decide)⟩, fun y3 => w163 (by rw [hsg, if_neg (by omega)]) (by rw [hm, if_neg y3]), fun y3 => w159 (by rw [hsg, if_pos (Or.inl y3)]) (by omega)⟩⟩
  obtain ⟨ok, P, B, X, hpf, sg, fm', p', hsg, hmn, hex, hfm, hc⟩ := hprs
  have hmn01 : mn = 0 ∨ mn = 1 := by rw [hmn]; split; exact Or.inr rfl; exact Or.inl rfl
  have rmn : rg mn := by rcases hmn01 with y | y <;> rw [y] <;> exact rgS (by decide) (by decide)
  subst hex
  have hF0 : ok = 0 → fm = 0 := by
    intro y
    rcases hc with ⟨_, y2⟩ | ⟨y2, _⟩ | ⟨y2, _⟩ | ⟨y2, _⟩
    · rw [hfm, y2, ite_self]
    · exact absurd y y2
    · exact absurd y y2
    · exact absurd y y2
  -- behind the prefixes
  have s135 : ∀ (p : Nat), ok ≠ 0 → P = (p : Int) → (B = 0 ∨ B = 2 ∨ B = 8 ∨ B = 10 ∨ B = 16) → rg ex → p ≤ T.length → X9_number_w135 G k 26 47 T.length 10 B ex p n h := by
    intro p hok hP hB hX hpT
    subst hP
    refine t135 p B ex sg mn hpT hsg hmn ?_
    have hsg01 : sg = 0 ∨ (sg = 1 ∧ p < T.length) := by
      rw [hsg]; split
      · rename_i y; exact Or.inr ⟨rfl, cd_lt (by omega)⟩
      · exact Or.inl rfl
    obtain ⟨pp, hpp⟩ : ∃ pp : Nat, (p : Int) + sg = (pp : Int) := ⟨((p : Int) + sg).toNat, by omega⟩
    have hppT : pp ≤ T.length := by omega
    rw [hpp] at hc ⊢
    rw [Int.toNat_natCast] at hc
    obtain ⟨hb0, hb1⟩ := bb2 B hB
    have NUM : (sg = 1 → ¬ isW T pp 0 ∧ ¬ isW T pp 1) → X9_number_w367 G k 26 47 T.length 10 B ex pp mn n h := by
      intro hno
      rcases hc with ⟨y, _⟩ | ⟨_, y, y2, _⟩ | ⟨_, y, _, y2, _⟩ | ⟨_, _, hnum⟩
      · exact absurd y hok
      · exact absurd y2 (hno y).1
      · exact absurd y2 (hno y).2
      · exact w367 pp B ex mn hB (sp_unsignedM tm tt hT hb0 hb1 hppT hmn01 hX hnum hfm hn h1E h1R h2E h2R)
    have rsg : rg sg := rgS (by omega) (by omega)
    refine X9_number_b195 (n0 := 0) C E 26 47 T.length 10 B ex pp sg mn n h ⟨rsg, fun y => NUM (fun y2 => by omega), fun y => ?_⟩
    have sg1 : sg = 1 := by omega
    refine ⟨⟨rgS (by omega) (by omega), rgS (by decide) (by decide)⟩, fun y2 => ?_, fun y2 => ?_⟩
    · -- not five characters
      by_cases g0 : isW T pp 0
      · have c0 := isW0_iff.1 g0
        have hlt : pp + 4 < T.length := cd_lt (by have := c0.2.2.2.2; show 0 ≤ cd T ((pp : Int) + 4); omega)
        have f0 : fm = 0 := by
          rcases hc with ⟨y3, _⟩ | ⟨_, _, _, y3, _⟩ | ⟨_, _, y3, _⟩ | ⟨_, y3, _⟩
          · exact absurd y3 hok
          · rw [y3, if_pos (cd_in hT (by omega))] at hfm; exact hfm
          · exact absurd g0 y3
          · exact absurd g0 (y3 sg1).1
        exact U0 f0 pp B ex mn hB hX hmn01 hppT (Or.inr (Or.inl c0.1))
      · by_cases g1 : isW T pp 1
        · have c0 := isW1_iff.1 g1
          have hlt : pp + 4 < T.length := cd_lt (by have := c0.2.2.2.2; show 0 ≤ cd T ((pp : Int) + 4); omega)
          have f0 : fm = 0 := by
            rcases hc with ⟨y3, _⟩ | ⟨_, _, y3, _⟩ | ⟨_, _, _, _, y3, _⟩ | ⟨_, y3, _⟩
            · exact absurd y3 hok
            · exact absurd y3 g0
            · rw [y3, if_pos (cd_in hT (by omega))] at hfm; exact hfm
            · exact absurd g1 (y3 sg1).2
          exact U0 f0 pp B ex mn hB hX hmn01 hppT (Or.inr (Or.inr c0.1))
        · exact NUM (fun _ => ⟨g0, g1⟩)
    · have hlen : T.length = pp + 5 := by omega
      have hend : cd T ((pp + 5 : Nat) : Int) = -1 := cd_end (by omega)
      obtain ⟨a0, b0⟩ := hat (pp : Int) rfl (show pp < T.length by omega)
      obtain ⟨a1, b1⟩ := hat ((pp : Int) + 1) (i := pp + 1) (by omega) (by omega)
      obtain ⟨a2, b2⟩ := hat ((pp : Int) + 2) (i := pp + 2) (by omega) (by omega)
      obtain ⟨a3, b3⟩ := hat ((pp : Int) + 3) (i := pp + 3) (by omega) (by omega)
      obtain ⟨a4, b4⟩ := hat ((pp : Int) + 4) (i := pp + 4) (by omega) (by omega)
      have r0 := hcr (pp : Int)
      have r1 := hcr ((pp : Int) + 1)
      have r2 := hcr ((pp : Int) + 2)
      have r3 := hcr ((pp : Int) + 3)
      have r4 := hcr ((pp : Int) + 4)
      rw [b0, b1, b2, b3, b4]
      have w366 : ∀ s0 n' h', Po s0 n' h' → X9_number_w366 G k s0 n' h' := fun s0 n' h' y => X9_number_b366 (n0 := 0) C E s0 n' h' y
      have w316 : ∀ s0 : Int, (s0 = 0 ∧ isW T pp 0 ∨ s0 = 1 ∧ ¬ isW T pp 0 ∧ isW T pp 1) → X9_number_w316 G k ex mn s0 n h := by
        intro s0 hs0
        have rs0 : rg s0 := rgS (by omega) (by omega)
        have hf : fm = (if ex = 101 then 0 else if s0 = 0 then 3 else 4) := by
          rcases hc with ⟨y3, _⟩ | ⟨_, _, y3, y4, y5⟩ | ⟨_, _, y3, y4, y5, y6⟩ | ⟨_, y3, _⟩
          · exact absurd y3 hok
          · have : s0 = 0 := by
              rcases hs0 with y6 | y6
              · exact y6.1
              · exact absurd y3 y6.2.1
            rw [y4, hend, if_neg (by decide), y5] at hfm
            rw [hfm, if_pos this]
          · have : s0 = 1 := by
              rcases hs0 with y7 | y7
              · exact absurd y7.2 y3
              · exact y7.1
            rw [y5, hend, if_neg (by decide), y6] at hfm
            rw [hfm, this, if_neg (show ¬ (1 : Int) = 0 by decide)]
          · exfalso
            have := y3 sg1
            rcases hs0 with y7 | y7
            · exact this.1 y7.2
            · exact this.2 y7.2.2
        refine X9_number_b316 (n0 := 0) C E ex mn s0 n h ⟨⟨hX, rgS (by decide) (by decide)⟩, fun y3 => ⟨rs0, fun y4 h5 e5 => ⟨rmn, fun y5 => ?_, fun y5 => ?_⟩, fun y4 h5 e5 => ?_⟩, fun y3 => w366 _ _ _ (no0 (by rw [hf, if_pos y3]))⟩
        · have k5 : hK n h h5 := by rw [e5]; exact hK.nw
          have ok5 : okO (n + 1) h5 n 6 := ⟨by omega, by rw [e5, hN_self]⟩
          refine X9_number_b362 (n0 := 0) C E 9218868437227405312 n n (n + 1) h5 (sp_initD ok5 (Or.inl rfl) (fun h6 e6 f0 f1 => w366 _ _ _ ?_))
          have k6 : hK n h h6 := k5.tr (hK.sc e6 (Nat.le_refl _)) (Nat.le_refl _)
          refine h3 (by rw [hf, if_neg y3, if_pos y4]) h6 (n + 1) n _ (hK.f k6) (by omega) (by omega) (tm.fr (S := fun _ => False) k6 (by omega) id id) ⟨by omega, hn47, ?_, f0, f1⟩ ?_
          · rw [(e6 n).1]; exact ok5.2
          · rw [show sgB mn = false by unfold sgB; simp; exact y5]; exact vl_pinf
        · have k5 : hK n h h5 := by rw [e5]; exact hK.nw
          have ok5 : okO (n + 1) h5 n 6 := ⟨by omega, by rw [e5, hN_self]⟩
          refine X9_number_b362 (n0 := 0) C E 18442240474082181120 n n (n + 1) h5 (sp_initD ok5 (Or.inl rfl) (fun h6 e6 f0 f1 => w366 _ _ _ ?_))
          have k6 : hK n h h6 := k5.tr (hK.sc e6 (Nat.le_refl _)) (Nat.le_refl _)
          refine h3 (by rw [hf, if_neg y3, if_pos y4]) h6 (n + 1) n _ (hK.f k6) (by omega) (by omega) (tm.fr (S := fun _ => False) k6 (by omega) id id) ⟨by omega, hn47, ?_, f0, f1⟩ ?_
          · rw [(e6 n).1]; exact ok5.2
          · rw [show sgB mn = true by unfold sgB; simp; exact y5]; exact vl_ninf
        · have k5 : hK n h h5 := by rw [e5]; exact hK.nw
          have ok5 : okO (n + 1) h5 n 6 := ⟨by omega, by rw [e5, hN_self]⟩
          refine sp_initD ok5 (Or.inr rfl) (fun h6 e6 f0 f1 => w366 _ _ _ ?_)
          have k6 : hK n h h6 := k5.tr (hK.sc e6 (Nat.le_refl _)) (Nat.le_refl _)
          refine h4 (by rw [hf, if_neg y3, if_neg y4]) h6 (n + 1) n _ (hK.f k6) (by omega) (by omega) (tm.fr (S := fun _ => False) k6 (by omega) id id) ⟨by omega, hn47, ?_, f0, f1⟩
          rw [(e6 n).1]; exact ok5.2
      have noW : ¬ (cd T ((pp : Int) + 3) = 46 ∧ cd T ((pp : Int) + 4) = 48) → X9_number_w367 G k 26 47 T.length 10 B ex pp mn n h := fun y3 => NUM (fun _ => ⟨fun y4 => y3 (isW0_iff.1 y4).2.2.2, fun y4 => y3 (isW1_iff.1 y4).2.2.2⟩)
      refine ⟨a3, ⟨r3, rgS (by decide) (by decide)⟩, fun y3 => noW (fun y4 => y3 y4.1), fun y3 => ⟨a4, ⟨r4, rgS (by decide) (by decide)⟩, fun y4 => noW (fun y5 => y4 y5.2), fun y4 => ?_⟩⟩
      have w304 : ∀ x10 s0 : Int, (x10 = 1 ∧ isW T pp 0 ∨ x10 = 0 ∧ ¬ isW T pp 0) → (s0 = 1 ∧ isW T pp 1 ∨ s0 = 0 ∧ ¬ isW T pp 1) → X9_number_w304 G k 26 47 T.length 10 B ex pp mn x10 s0 n h := by
        intro x10 s0 hx hs
        refine X9_number_b304 (n0 := 0) C E 26 47 T.length 10 B ex pp mn x10 s0 n h ⟨rgS (by omega) (by omega), fun y5 => w316 s0 ?_, fun y5 => ⟨rgS (by omega) (by omega), fun y6 => NUM ?_, fun y6 => w316 s0 ?_⟩⟩
        · rcases hx with y6 | y6
          · refine Or.inl ⟨?_, y6.2⟩
            rcases hs with y7 | y7
            · have u1 := (isW0_iff.1 y6.2).1
              have u2 := (isW1_iff.1 y7.2).1
              omega
            · exact y7.1
          · exact absurd y6.1 y5
        · intro _
          constructor
          · rcases hx with y7 | y7
            · omega
            · exact y7.2
          · rcases hs with y7 | y7
            · omega
            · exact y7.2
        · refine Or.inr ?_
          have : ¬ isW T pp 0 := by
            rcases hx with y7 | y7
            · omega
            · exact y7.2
          rcases hs with y7 | y7
          · exact ⟨y7.1, this, y7.2⟩
          · exact absurd y7.1 y6
      have w266 : ∀ x10 : Int, (x10 = 1 ∧ isW T pp 0 ∨ x10 = 0 ∧ ¬ isW T pp 0) → X9_number_w266 G k 26 47 T.length 10 B ex pp mn x10 n h := by
        intro x10 hx
        have w303 : ¬ isW T pp 1 → X9_number_w303 G k 26 47 T.length 10 B ex pp mn x10 n h := fun y5 => X9_number_b303 (n0 := 0) C E 26 47 T.length 10 B ex pp mn x10 n h (w304 x10 0 hx (Or.inr ⟨rfl, y5⟩))
        refine X9_number_b266 (n0 := 0) C E 26 47 T.length 10 B ex pp mn x10 n h ?_
        rw [b0, b1, b2]
        exact ⟨a0, ⟨r0, rgS (by decide) (by decide)⟩, fun y5 => w303 (fun y6 => y5 (isW1_iff.1 y6).1), fun y5 => ⟨a1, ⟨r1, rgS (by decide) (by decide)⟩, fun y6 => w303 (fun y7 => y6 (isW1_iff.1 y7).2.1), fun y6 => ⟨a2, ⟨r2, rgS (by decide) (by decide)⟩, fun y7 => w303 (fun y8 => y7 (isW1_iff.1 y8).2.2.1), fun y7 => w304 x10 1 hx (Or.inl ⟨rfl, isW1_iff.2 ⟨y5, y6, y7, y3, y4⟩⟩)⟩⟩⟩
      have w265 : ¬ isW T pp 0 → X9_number_w265 G k 26 47 T.length 10 B ex pp mn n h := fun y5 => X9_number_b265 (n0 := 0) C E 26 47 T.length 10 B ex pp mn n h (w266 0 (Or.inr ⟨rfl, y5⟩))
      exact ⟨a0, ⟨r0, rgS (by decide) (by decide)⟩, fun y5 => w265 (fun y6 => y5 (isW0_iff.1 y6).1), fun y5 => ⟨a1, ⟨r1, rgS (by decide) (by decide)⟩, fun y6 => w265 (fun y7 => y6 (isW0_iff.1 y7).2.1), fun y6 => ⟨a2, ⟨r2, rgS (by decide) (by decide)⟩, fun y7 => w265 (fun y8 => y7 (isW0_iff.1 y8).2.2.1), fun y7 => w266 1 (Or.inl ⟨rfl, isW0_iff.2 ⟨y5, y6, y7, y3, y4⟩⟩)⟩⟩⟩
  -- the prefixes
  suffices loop : ∀ (u p : Nat) (b x : Int), pfx T u p b x = (ok, P, B, ex) → p ≤ T.length → (b = 0 ∨ b = 2 ∨ b = 8 ∨ b = 10 ∨ b = 16) → (x = 0 ∨ x = 101 ∨ x = 105) → (u = (if b = 0 then 1 else 0) + (if x = 0 then 1 else 0)) → X9_number_w9 G k 26 47 T.length 10 b x p n h by
    exact loop 2 0 0 0 hpf (by omega) (Or.inl rfl) (Or.inl rfl) rfl
  intro u
  induction u with
  | zero =>
    intro p b x hp hpT hb hx hu
    have e1 : (1 : Int) = ok := congrArg Prod.fst hp
    have e2 : (p : Int) = P := congrArg (fun t => t.2.1) hp
    have e3 : b = B := congrArg (fun t => t.2.2.1) hp
    have e4 : x = ex := congrArg (fun t => t.2.2.2) hp
    subst e3 e4
    have hb' : b ≠ 0 := by
      intro y; rw [if_pos y] at hu; split at hu <;> omega
    have hx' : x ≠ 0 := by
      intro y; rw [if_pos y] at hu; split at hu <;> omega
    have hS := s135 p (by omega) e2.symm hb (rgS (by omega) (by omega)) hpT
    refine X9_number_b9 (n0 := 0) C E 26 47 T.length 10 b x p n h ⟨⟨rgS (by omega) (by omega), rl⟩, fun _ => hS, fun y => ?_⟩
    obtain ⟨a0, b0⟩ := hat (p : Int) rfl (show p < T.length by omega)
    obtain ⟨a1, b1⟩ := hat ((p : Int) + 1) (i := p + 1) (by omega) (by omega)
    rw [b0, b1]
    refine ⟨a0, ⟨hcr _, rgS (by decide) (by decide)⟩, fun _ => hS, fun y2 => ?_⟩
    -- a third prefix
    have f0 : fm = 0 := by
      have hP : P = (p : Int) := e2.symm
      have hsg0 : sg = 0 := by rw [hsg, hP, y2, if_neg (by decide)]
      rw [hP, hsg0, Int.add_zero, Int.toNat_natCast] at hc
      rcases hc with ⟨y3, _⟩ | ⟨_, y3, _⟩ | ⟨_, y3, _⟩ | ⟨_, _, r, hr, hcase⟩
      · omega
      · omega
      · omega
      · have hb2 := bb2 b hb
        have hr0 : r = 0 := by
          rcases Nat.eq_zero_or_pos r with y4 | y4
          · exact y4
          · have := hr.1 0 y4
            rw [Nat.add_zero, y2] at this
            have := dv_no hb2.1 (show dw 35 = -1 by decide); omega
        subst hr0
        rw [Nat.add_zero, y2] at hcase
        rcases hcase with ⟨y4, _⟩ | ⟨_, _, ⟨_, y4, _⟩ | ⟨_, _, _, y4⟩⟩
        · omega
        · unfold em at y4; omega
        · rw [if_neg (by omega)] at y4; rw [hfm, y4, ite_self]
    have w127 : X9_number_w127 G k n h := X9_number_b127 (n0 := 0) C E n h (no0 f0)
    have hc2 := hcr ((p : Int) + 1)
    have w115 : ∀ y8, X9_number_w115 G k 26 47 T.length 10 b x p y8 n h := fun y8 => X9_number_b115 (n0 := 0) C E 26 47 T.length 10 b x p y8 n h ⟨rgS (by omega) (by omega), fun _ => w127, fun y3 => absurd y3 hx'⟩
    have w101 : X9_number_w101 G k 26 47 T.length 10 b x p (cd T ((p : Int) + 1)) n h := X9_number_b101 (n0 := 0) C E 26 47 T.length 10 b x p _ n h ⟨⟨hc2, rgS (by decide) (by decide)⟩, fun _ => w115 _, fun _ => ⟨⟨hc2, rgS (by decide) (by decide)⟩, fun _ => w127, fun _ => w115 _⟩⟩
    have w82 : ∀ s0 : Int, 0 ≤ s0 → s0 ≤ 16 → X9_number_w82 G k 26 47 T.length 10 b x p (cd T ((p : Int) + 1)) s0 n h := fun s0 s1 s2 => X9_number_b82 (n0 := 0) C E 26 47 T.length 10 b x p _ s0 n h ⟨rgS (by omega) (by omega), fun _ => w101, fun _ => ⟨rgS (by omega) (by omega), fun _ => w101, fun y3 => absurd y3 hb'⟩⟩
    exact ⟨a1, ⟨hc2, rgS (by decide) (by decide)⟩, fun _ => ⟨⟨hc2, rgS (by decide) (by decide)⟩, fun _ => ⟨⟨hc2, rgS (by decide) (by decide)⟩, fun _ => ⟨⟨hc2, rgS (by decide) (by decide)⟩, fun _ => w82 0 (by decide) (by decide), fun _ => w82 10 (by decide) (by decide)⟩, fun _ => w82 8 (by decide) (by decide)⟩, fun _ => w82 2 (by decide) (by decide)⟩, fun _ => w82 16 (by decide) (by decide)⟩
  | succ u ih =>
    intro p b x hp hpT hb hx hu
    unfold pfx at hp
    have std : cd T (p : Int) ≠ 35 → X9_number_w135 G k 26 47 T.length 10 b x p n h := by
      intro y
      rw [if_neg y] at hp
      have e1 : (1 : Int) = ok := congrArg Prod.fst hp
      have e2 : (p : Int) = P := congrArg (fun t => t.2.1) hp
      have e3 : b = B := congrArg (fun t => t.2.2.1) hp
      have e4 : x = ex := congrArg (fun t => t.2.2.2) hp
      subst e3 e4
      exact s135 p (by omega) e2.symm hb (rgS (by omega) (by omega)) hpT
    refine X9_number_b9 (n0 := 0) C E 26 47 T.length 10 b x p n h ⟨⟨rgS (by omega) (by omega), rl⟩, fun y => ?_, fun y => ?_⟩
    · by_cases g : cd T (p : Int) = 35
      · have hpl : p < T.length := cd_lt (by omega)
        rw [if_pos g, cd_end (show (T.length : Int) ≤ (p : Int) + 1 by omega), if_neg (fun w => absurd w.1 (by decide)), if_neg (fun w => absurd w.1 (by decide))] at hp
        have e1 : (0 : Int) = ok := congrArg Prod.fst hp
        have f0 := hF0 e1.symm
        refine t135 p b x 0 0 hpT (by rw [g, if_neg (by decide)]) (by rw [g, if_neg (by decide)]) ?_
        rw [Int.add_zero]
        exact X9_number_b195 (n0 := 0) C E 26 47 T.length 10 b x p 0 0 n h ⟨rg0, fun _ => U0 f0 p b x 0 hb (rgS (by omega) (by omega)) (Or.inl rfl) hpT (Or.inl g), fun y2 => absurd rfl y2⟩
      · exact std g
    · obtain ⟨a0, b0⟩ := hat (p : Int) rfl (show p < T.length by omega)
      obtain ⟨a1, b1⟩ := hat ((p : Int) + 1) (i := p + 1) (by omega) (by omega)
      rw [b0, b1]
      refine ⟨a0, ⟨hcr _, rgS (by decide) (by decide)⟩, fun y2 => std y2, fun y2 => ?_⟩
      rw [if_pos y2] at hp
      have hc2 := hcr ((p : Int) + 1)
      have w129 : ∀ b' x', X9_number_w9 G k 26 47 T.length 10 b' x' ((p + 2 : Nat) : Int) n h → X9_number_w129 G k 26 47 T.length 10 b' x' p n h := fun b' x' y3 => X9_number_b129 (n0 := 0) C E 26 47 T.length 10 b' x' p n h y3
      have w101 : ¬ (bo (cd T ((p : Int) + 1)) ≠ 0 ∧ b = 0) → X9_number_w101 G k 26 47 T.length 10 b x p (cd T ((p : Int) + 1)) n h := by
        intro g
        rw [if_neg g] at hp
        have w127 : ¬ ((cd T ((p : Int) + 1) = 101 ∨ cd T ((p : Int) + 1) = 105) ∧ x = 0) → X9_number_w127 G k n h := by
          intro g2
          rw [if_neg g2] at hp
          have e1 : (0 : Int) = ok := congrArg Prod.fst hp
          exact X9_number_b127 (n0 := 0) C E n h (no0 (hF0 e1.symm))
        have w115 : (cd T ((p : Int) + 1) = 101 ∨ cd T ((p : Int) + 1) = 105) → X9_number_w115 G k 26 47 T.length 10 b x p (cd T ((p : Int) + 1)) n h := by
          intro g2
          refine X9_number_b115 (n0 := 0) C E 26 47 T.length 10 b x p _ n h ⟨rgS (by omega) (by omega), fun y3 => w127 (fun y4 => y3 y4.2), fun y3 => w129 _ _ (ih (p + 2) b _ ?_ (by omega) hb (by omega) ?_)⟩
          · rw [if_pos ⟨g2, y3⟩] at hp; exact hp
          · rw [if_neg (show ¬ cd T ((p : Int) + 1) = 0 by omega)]; rw [if_pos y3] at hu; omega
        exact X9_number_b101 (n0 := 0) C E 26 47 T.length 10 b x p _ n h ⟨⟨hc2, rgS (by decide) (by decide)⟩, fun y3 => w115 (Or.inl y3), fun y3 => ⟨⟨hc2, rgS (by decide) (by decide)⟩, fun y4 => w127 (fun y5 => by omega), fun y4 => w115 (Or.inr y4)⟩⟩
      have w82 : ∀ s0 : Int, s0 = bo (cd T ((p : Int) + 1)) → X9_number_w82 G k 26 47 T.length 10 b x p (cd T ((p : Int) + 1)) s0 n h := by
        intro s0 hs0
        have hbo := bo_bd (cd T ((p : Int) + 1))
        rw [← hs0] at hbo
        refine X9_number_b82 (n0 := 0) C E 26 47 T.length 10 b x p _ s0 n h ⟨rgS (by omega) (by omega), fun y3 => w101 (fun y4 => by omega), fun y3 => ⟨rgS (by omega) (by omega), fun y4 => w101 (fun y5 => y4 y5.2), fun y4 => w129 _ _ (ih (p + 2) s0 x ?_ (by omega) (by omega) hx ?_)⟩⟩
        · rw [if_pos ⟨by omega, y4⟩, ← hs0] at hp; exact hp
        · rw [if_neg (show ¬ s0 = 0 by omega)]; rw [if_pos y4] at hu; omega
      refine ⟨a1, ⟨hc2, rgS (by decide) (by decide)⟩, fun y3 => ⟨⟨hc2, rgS (by decide) (by decide)⟩, fun y4 => ⟨⟨hc2, rgS (by decide) (by decide)⟩, fun y5 => ⟨⟨hc2, rgS (by decide) (by decide)⟩, fun y6 => w82 0 ?_, fun y6 => w82 10 ?_⟩, fun y5 => w82 8 ?_⟩, fun y4 => w82 2 ?_⟩, fun y3 => w82 16 ?_⟩
      · unfold bo; rw [if_neg y4, if_neg y6, if_neg y5, if_neg y3]
      · rw [y6]; rfl
      · rw [y5]; rfl
      · rw [y4]; rfl
      · rw [y3]; rfl
