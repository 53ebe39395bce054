/-! THE MODEL: a text without its sign and its prefixes -/
theorem dv_47 (b : Int) (hb : 2 ≤ b) : dv b 47 = -1 := by
  have h : dw 47 = -1 := by decide
  unfold dv; rw [h, if_pos (by omega)]
/-- where the first slash stands -/
def isSl (T : List Int) (p sl : Nat) : Prop := p ≤ sl ∧ sl ≤ T.length ∧ (∀ j, p ≤ j → j < sl → cd T (j : Int) ≠ 47) ∧ (sl = T.length ∨ cd T (sl : Int) = 47)
theorem sl_run {T : List Int} {b : Int} {p r sl : Nat} (hb : 2 ≤ b) (hs : isSl T p sl) (hp : p ≤ T.length) (hd : ∀ j, j < r → 0 ≤ dv b (cd T ((p + j : Nat) : Int))) : p + r ≤ sl := by
  rcases Nat.lt_or_ge sl (p + r) with g | g
  · exfalso
    have h1 := hd (sl - p) (by have := hs.1; omega)
    rw [show p + (sl - p) = sl by have := hs.1; omega] at h1
    rcases hs.2.2.2 with z | z
    · have := dig_lt h1; omega
    · rw [z, dv_47 b hb] at h1; omega
  · exact g
theorem cd_in {T : List Int} (hT : ∀ x, x ∈ T → 0 ≤ x ∧ x ≤ 127) {i : Nat} (h : i < T.length) : 0 ≤ cd T (i : Int) := by
  rcases Int.lt_or_le (cd T (i : Int)) 0 with g | g
  · have := (cd_neg hT).1 g; omega
  · exact g
theorem pw16T {r : Nat} (h : r ≤ 400) : (16 : Int) ^ r < 10000 ^ 430 := by
  have h1 : (16 : Int) ^ r ≤ 2 ^ 1600 := b_pow (by decide) (by decide) h
  have h2 : (2 : Int) ^ 1600 < 10000 ^ 430 := by decide +kernel
  omega
theorem sp_unsignedM {G : xG} {l : Launch} {n : Nat} {h : xH} {T : List Int} {wl tl z ex mn b tn v w fm fm' : Int} {p p' : Nat} {Po : Int → Nat → xH → Prop} (tm : isM n h wl tl z) (tt : isTx h T) (hT : ∀ x, x ∈ T → 0 ≤ x ∧ x ≤ 127) (hb0 : 2 ≤ b) (hb1 : b ≤ 16) (hpT : p ≤ T.length) (hmn : mn = 0 ∨ mn = 1) (hex : rg ex) (hnum : numR T b p fm' p' tn v w) (hfm : fm = (if 0 ≤ cd T (p' : Int) then 0 else fm'))
    (hn : fm = 0 → ∀ h' n', hF sM n h h' → n ≤ n' → n' ≤ n + 11 → isM n' h' wl tl z → Po (-1) n' h')
    (h1E : fm = 1 → ex ≠ 105 → ∀ h' n' y V W, hF sM n h h' → n ≤ n' → n' ≤ n + 11 → isM n' h' wl tl z → lowR v w V W → exS n' h' y mn V W → Po y n' h')
    (h1R : fm = 1 → ex = 105 → ∀ h' n' (y : Nat) x e1 m1, hF sM n h h' → n ≤ n' → n' ≤ n + 11 → isM n' h' wl tl z → nrR v w e1 m1 → isRl n' h' y x 0 → isVl x (sgB mn) (m1.toNat * 2 ^ (e1 + 1074).toNat) → Po y n' h')
    (h2E : fm = 2 → ex = 101 → ∀ h' n' y V W, hF sM n h h' → n ≤ n' → n' ≤ n + 11 → isM n' h' wl tl z → lowR (v * 10 ^ tn.toNat) (10 ^ (-tn).toNat) V W → exS n' h' y mn V W → Po y n' h')
    (h2R : fm = 2 → ex ≠ 101 → ∀ h' n' (y : Nat) x e1 m1, hF sM n h h' → n ≤ n' → n' ≤ n + 11 → isM n' h' wl tl z → nrR (v * 10 ^ tn.toNat) (10 ^ (-tn).toNat) e1 m1 → isRl n' h' y x 0 → isVl x (sgB mn) (m1.toNat * 2 ^ (e1 + 1074).toNat) → Po y n' h') :
    S_X9_unsigned G l 26 47 p T.length b ex mn n h Po := by
  refine S_X9_unsigned_of (fun k hl C E => X9_unsigned_b0 (n0 := 0) C E 26 47 p T.length b ex mn n h ?_)
  have hn47 : 47 < n := tm.t47.1
  have lT := tt.1
  have rmn : rg mn := by rcases hmn with y | y <;> rw [y] <;> exact rgS (by decide) (by decide)
  have no0 : fm = 0 → Po (-1) n h := fun y => hn y h n hF.rf (Nat.le_refl _) (by omega) tm
  have w61 : fm = 0 → X9_unsigned_w61 G k n h := fun y => X9_unsigned_b61 (n0 := 0) C E n h (X9_unsigned_b76 (n0 := 0) C E (-1) n h (no0 y))
  -- the number made of two wholes
  have w134 : ∀ (h1 : xH) (n1 za ra sa zb rb sb : Nat) (sgb : Int), hF sM n h h1 → n ≤ n1 → n1 ≤ n + 4 → isM n1 h1 wl tl z → isWh n1 h1 za ra sa (if v = 0 then 0 else 1) v → isWh n1 h1 zb rb sb sgb w → 0 ≤ v → v < 10000 ^ 430 → 0 ≤ w → w < 10000 ^ 430 → (w ≠ 0 → sgb = 1) → (w = 0 → fm = 0) → (w ≠ 0 → fm = 1) → X9_unsigned_w134 G k 26 ex mn za zb n1 h1 := by
    intro h1 n1 za ra sa zb rb sb sgb e1 hn1 hn2 tm1 ta tb hv0 hvb hw0 hwb hsgb hw1 hw2
    refine X9_unsigned_b134 (n0 := 0) C E 26 ex mn za zb n1 h1 ⟨tb.ok, sp_isZeroW tb ?_⟩
    by_cases g : w = 0
    · rw [if_pos g]
      exact ⟨rgS (by decide) (by decide), fun y => absurd y (by decide), fun _ => hn (hw1 g) h1 n1 e1 hn1 (by omega) tm1⟩
    · rw [if_neg g]
      have f1 := hw2 g
      have sb1 := hsgb g
      subst sb1
      have k1 := ta.ln
      have k2 := tb.ln
      have l1 : sa ≤ 430 := ta.row.len hvb
      have l2 : sb ≤ 430 := tb.row.len hwb
      refine ⟨rg0, fun _ => ⟨⟨hex, rgS (by decide) (by decide)⟩, fun y => ?_, fun y => ?_⟩, fun y => absurd rfl y⟩
      · rw [ta.f1, tb.f1, Int.toNat_natCast, Int.toNat_natCast, k1.1, k2.1]
        obtain ⟨A, hA⟩ : ∃ A : Nat, v = (A : Int) := ⟨v.toNat, by omega⟩
        obtain ⟨B, hB⟩ : ∃ B : Nat, w = (B : Int) := ⟨w.toNat, by omega⟩
        have ta' : isT n1 h1 ra sa sa (A : Int) := by rw [← hA]; exact ta.row
        have tb' : isT n1 h1 rb sb sb (B : Int) := by rw [← hB]; exact tb.row
        refine ⟨ta.ok, by omega, ta.ok, by omega, ⟨k1.2.1, Or.inl k1.2.2⟩, tb.ok, by omega, tb.ok, by omega, ⟨k2.2.1, Or.inl k2.2.2⟩, tm1.ok, sp_fraction tm1 ta' tb' (Or.inr (Or.inr ta.2.2.1)) (Or.inr (Or.inr tb.2.2.1)) (by omega) (by omega) (by omega) (fun h2 n2 yz V W e2 hn3 hn4 tm2 hlw hexr => ?_)⟩
        rw [← hA, ← hB] at hlw
        have e02 : hF sM n h h2 := e1.tr e2 hn1
        have w228 : ∀ (yz : Int) (h5 : xH) (n5 : Nat), hF sM n h h5 → n ≤ n5 → n5 ≤ n + 11 → isM n5 h5 wl tl z → exS n5 h5 yz mn V W → X9_unsigned_w228 G k yz n5 h5 := fun yz h5 n5 a1 a2 a3 a4 a5 => X9_unsigned_b228 (n0 := 0) C E yz n5 h5 (h1E f1 y h5 n5 yz V W a1 a2 a3 a4 hlw a5)
        have w226 : (mn = 0 ∨ yz < 0) → X9_unsigned_w226 G k yz n2 h2 := fun y => X9_unsigned_b226 (n0 := 0) C E yz n2 h2 (w228 yz h2 n2 e02 (by omega) (by omega) tm2 (by
          rcases hexr with ⟨a1, a2⟩ | ⟨a1, a2, zn, a3, a4⟩
          · exact Or.inl ⟨a1, a2⟩
          · refine Or.inr ⟨a1, a2, zn, a3, ?_⟩
            rw [if_pos (show mn = 0 by omega)]; exact a4))
        refine ⟨fun y1 => w226 (Or.inr y1), fun y1 => ⟨rmn, fun y2 => w226 (Or.inl y2), fun y2 => ?_⟩⟩
        rcases hexr with ⟨a1, a2⟩ | ⟨a1, a2, zn, a3, a4⟩
        · omega
        · subst a3
          refine sp_negatedE (by omega) a4 (fun h5 n5 z5 k5 hn6 hn7 t5 => w228 z5 h5 n5 (e02.tr (hK.f (hK.le k5 (by omega))) (Nat.le_refl _)) (by omega) (by omega) (tm2.fr (S := fun _ => False) k5 hn6 id id) (Or.inr ⟨a1, a2, z5, rfl, ?_⟩))
          rw [if_neg y2]
          by_cases gV : V = 0
          · rw [if_pos gV] at t5 ⊢; exact t5
          · rw [if_neg gV] at t5 ⊢; exact t5
      · refine ⟨tm1.ok, sp_ratio tm1 ta tb (by omega) (fun h2 xx e2 m2 e12 tm2 hnr hxx => ?_)⟩
        have hxx : isVl xx false (m2.toNat * 2 ^ (e2 + 1074).toNat) := by
          have hd : decide ((if v = 0 then (0 : Int) else 1) < 0) = false := by split <;> decide
          rw [hd] at hxx; exact hxx
        have e02 : hF sM n h h2 := e1.tr ((sM35 (e12.mono (fun i hi => ⟨hi.1, by omega⟩))).f (n := n)) (Nat.le_refl _)
        have w176 : ∀ yy, isVl yy (sgB mn) (m2.toNat * 2 ^ (e2 + 1074).toNat) → X9_unsigned_w176 G k yy n1 h2 := fun yy hyy => X9_unsigned_b176 (n0 := 0) C E yy n1 h2 (sp_finD tm2 hyy (fun h5 k5 tm5 t5 => h1R f1 y h5 (n1 + 1) n1 yy e2 m2 (e02.tr (hK.f (hK.le k5 hn1)) (Nat.le_refl _)) (by omega) (by omega) tm5 hnr t5 hyy))
        refine ⟨rmn, fun y1 => w176 xx ?_, fun y1 => w176 _ ?_⟩
        · rw [show sgB mn = false by unfold sgB; simp; exact y1]; exact hxx
        · rw [show sgB mn = true by unfold sgB; simp; exact y1]; exact hxx.neg
  obtain ⟨r, hr, hcase⟩ := hnum
  have hrl : p + r ≤ T.length := by rcases run_len hr.1 with y | y <;> omega
  have d1 := dvl_lt (v := 0) hb0 (by decide) hr.1
  rw [Int.zero_add, Int.one_mul] at d1
  have hno46 : ∀ {q s : Nat}, (∀ j, j < s → 0 ≤ dv b (cd T ((q + j : Nat) : Int))) → ∀ j, j < s → cd T ((q + j : Nat) : Int) ≠ 46 := by
    intro q s hd j hj y
    have := hd j hj
    rw [y] at this
    have e46 : dw 46 = -1 := by decide
    unfold dv at this; rw [e46, if_pos (by omega)] at this; omega
  have hg : ∀ {q s : Nat}, q + s ≤ T.length → (∀ j, j < s → 0 ≤ dv b (cd T ((q + j : Nat) : Int))) → gvl T b q 0 s = dvl T b q 0 s ∧ 0 ≤ dvl T b q 0 s ∧ dvl T b q 0 s < 10000 ^ 430 := by
    intro q s hqs hd
    have h1 := dvl_lt (v := 0) hb0 (by decide) hd
    rw [Int.zero_add, Int.one_mul] at h1
    have h2 := pow16 hb0 hb1 s
    have h3 := pw16T (r := s) (by omega)
    exact ⟨gvl_dvl (hno46 hd), h1.1, by omega⟩
  have hdg : ∀ {q s : Nat}, (∀ j, j < s → 0 ≤ dv b (cd T ((q + j : Nat) : Int))) → dgp T b q s := fun hd j hj => Or.inr (hd j hj)
  have main : ∀ sl : Nat, isSl T p sl → X9_unsigned_w24 G k 26 47 p T.length b ex mn sl n h := by
    intro sl hsl
    obtain ⟨s1, s2, s3, s4⟩ := hsl
    have hsr : p + r ≤ sl := sl_run hb0 ⟨s1, s2, s3, s4⟩ hpT hr.1
    have w35 : ∀ s0 : Int, s0 = (if T.length ≤ sl then 0 else 1) → X9_unsigned_w35 G k 26 47 p T.length b ex mn sl s0 n h := by
      intro s0 hs0
      have rs0 : rg s0 := by rw [hs0]; split <;> exact rgS (by decide) (by decide)
      -- digits, and what they make
      have w98 : (p < sl ∧ ∀ j, p ≤ j → j < sl → 0 ≤ dv b (cd T (j : Int))) → (s0 ≠ 0 → sl + 1 < T.length ∧ ∀ j, sl + 1 ≤ j → j < T.length → 0 ≤ dv b (cd T (j : Int))) → X9_unsigned_w98 G k 26 47 p T.length b ex mn sl s0 n h := by
        intro hA hB
        have hdA : ∀ j, j < sl - p → 0 ≤ dv b (cd T ((p + j : Nat) : Int)) := fun j hj => hA.2 (p + j) (by omega) (by omega)
        have er : r = sl - p := by
          rcases Nat.lt_or_ge r (sl - p) with y | y
          · have := hdA r y; have := hr.2; omega
          · omega
        have esl : sl = p + r := by omega
        rw [← er] at hdA
        have gA := hg hrl hdA
        have hv : v = dvl T b p 0 r := by
          rcases hcase with ⟨_, _, y, _⟩ | ⟨c1, c2, ⟨c3, c4, c5⟩ | ⟨_, _, y, _⟩⟩
          · exact y
          · exfalso
            rcases s4 with y | y
            · rw [← esl, y, cd_end (Int.le_refl _)] at c4
              unfold em at c4; omega
            · rw [← esl, y] at c4
              unfold em at c4; omega
          · exact y
        have := sp_digits (G := G) (l := kl k) (Po := fun z2 n4 h3 => rg s0 ∧ ((s0 = 0 → S_X9_whole G (kl k) 1 n4 h3 (fun z7 n9 h8 => X9_unsigned_w134 G k 26 ex mn z2 z7 n9 h8)) ∧ (¬ s0 = 0 → okO n4 h3 26 8 ∧ S_X9_digits G (kl k) 26 47 ((sl : Int) + 1) T.length b n4 h3 (fun z11 n13 h12 => X9_unsigned_w134 G k 26 ex mn z2 z11 n13 h12)))) tm tt hT hrl hb0 hb1 (hdg hdA) ?_
        · rw [← esl] at this
          exact X9_unsigned_b98 (n0 := 0) C E 26 47 p T.length b ex mn sl s0 n h ⟨tm.ok, this⟩
        intro h1 za ra sa e1 hza hra tm1 ta
        rw [gA.1, ← hv] at ta
        have e1M : hF sM n h h1 := hF.mono e1 (fun i _ hi => by have : i = 34 := hi; exact Or.inr (by omega))
        have tt1 := tt.fr e1 hn47 (by decide)
        refine ⟨rs0, fun y => ?_, fun y => ?_⟩
        · -- a whole number
          have hslT : T.length ≤ sl := by
            rcases Nat.lt_or_ge sl T.length with y2 | y2
            · rw [if_neg (by omega)] at hs0; omega
            · exact y2
          have hcd : cd T ((p + r : Nat) : Int) = -1 := cd_end (by omega)
          have hw1 : w = 1 ∧ fm = 1 := by
            rcases hcase with ⟨_, c2, _⟩ | ⟨c1, c2, ⟨c3, c4, c5⟩ | ⟨_, c4, _, c6⟩⟩
            · omega
            · rw [hcd] at c4; unfold em at c4; omega
            · rw [c4, hcd, if_neg (by decide), c6, if_pos (by omega)] at hfm
              exact ⟨c2, hfm⟩
          refine sp_whole (by omega) ⟨by decide, by decide⟩ (fun h2 zb rb sb k2 hzb hrb tb => ?_)
          have tm2 := tm1.fr (S := fun _ => False) (m' := n + 2 + 2) k2 (by omega) id id
          have ta2 := ta.fr (S := fun _ => False) (m' := n + 2 + 2) k2 (by omega) id id
          have tb' : isWh (n + 2 + 2) h2 zb rb sb 1 w := by rw [hw1.1]; exact tb
          exact w134 h2 (n + 2 + 2) za ra sa zb rb sb 1 (e1M.tr (hK.f (hK.le k2 (by omega))) (Nat.le_refl _)) (by omega) (by omega) tm2 ta2 tb' (by rw [hv]; exact gA.2.1) (by rw [hv]; exact gA.2.2) (by omega) (by rw [hw1.1]; decide +kernel) (fun _ => rfl) (fun y2 => by omega) (fun _ => hw1.2)
        · -- a fraction
          have hslT : sl < T.length := by
            rcases Nat.lt_or_ge sl T.length with y2 | y2
            · exact y2
            · rw [if_pos y2] at hs0; omega
          have hc47 : cd T ((p + r : Nat) : Int) = 47 := by
            rcases s4 with y2 | y2
            · omega
            · rw [← esl]; exact y2
          obtain ⟨b1, b2⟩ := hB y
          have hw : w = dvl T b (sl + 1) 0 (T.length - (sl + 1)) ∧ fm = (if w = 0 then 0 else 1) := by
            rcases hcase with ⟨_, _, _, r2, c1, c2, c3, c4⟩ | ⟨c1, _⟩
            · have er2 : r2 = T.length - (sl + 1) := by
                rcases Nat.lt_or_ge r2 (T.length - (sl + 1)) with y2 | y2
                · have a1 := b2 (p + r + 1 + r2) (by omega) (by omega)
                  have a2 := c1.2; omega
                · rcases run_len c1.1 with y3 | y3 <;> omega
              rw [er2, ← esl] at c2 c3
              refine ⟨c2, ?_⟩
              rw [c3, show sl + 1 + (T.length - (sl + 1)) = T.length by omega, cd_end (Int.le_refl _), if_neg (by decide), c4] at hfm
              exact hfm
            · exact absurd ⟨by omega, hc47⟩ c1
          have hdB : ∀ j, j < T.length - (sl + 1) → 0 ≤ dv b (cd T ((sl + 1 + j : Nat) : Int)) := fun j hj => b2 (sl + 1 + j) (by omega) (by omega)
          have gB := hg (q := sl + 1) (s := T.length - (sl + 1)) (by omega) hdB
          have := sp_digits (G := G) (l := kl k) (Po := fun z11 n13 h12 => X9_unsigned_w134 G k 26 ex mn za z11 n13 h12) tm1 tt1 hT (p := sl + 1) (r := T.length - (sl + 1)) (by omega) hb0 hb1 (hdg hdB) ?_
          · rw [show sl + 1 + (T.length - (sl + 1)) = T.length by omega] at this
            exact ⟨tm1.ok, this⟩
          intro h2 zb rb sb e2 hzb hrb tm2 tb
          rw [gB.1, ← hw.1] at tb
          have ta2 := ta.fr (m' := n + 2 + 2) e2 (by omega) (show ¬ za = 34 by omega) (show ¬ ra = 34 by omega)
          have e2M : hF sM (n + 2) h1 h2 := hF.mono e2 (fun i _ hi => by have : i = 34 := hi; exact Or.inr (by omega))
          refine w134 h2 (n + 2 + 2) za ra sa zb rb sb _ (e1M.tr e2M (by omega)) (by omega) (by omega) tm2 ta2 tb (by rw [hv]; exact gA.2.1) (by rw [hv]; exact gA.2.2) (by rw [hw.1]; exact gB.2.1) (by rw [hw.1]; exact gB.2.2) (fun y2 => by rw [if_neg y2]) (fun y2 => by rw [hw.2, if_pos y2]) (fun y2 => by rw [hw.2, if_neg y2])
      refine X9_unsigned_b35 (n0 := 0) C E 26 47 p T.length b ex mn sl s0 n h (sp_areDigits tm tt hT s2 (by omega) hb0 hb1 (fun hA1 hA2 => ⟨rgS (by decide) (by decide), fun _ => ⟨rs0, fun y => w98 ⟨hA1, hA2⟩ (fun y2 => absurd y y2), fun y => ?_⟩, fun y => absurd y (by decide)⟩) (fun hA => ⟨rg0, fun y => absurd rfl y, fun _ => ⟨rs0, fun y => w61 ?_, fun y => ⟨⟨rgS (by omega) (by omega), rgS (by decide) (by decide)⟩, fun y2 => ?_, fun y2 => w61 ?_⟩⟩⟩))
      · -- behind the slash
        have := sp_areDigits (G := G) (l := kl k) (Po := fun z7 h8 => rg z7 ∧ ((¬ z7 = 0 → X9_unsigned_w98 G k 26 47 p T.length b ex mn sl s0 n h8) ∧ (z7 = 0 → Po (-1) n h8))) (p := sl + 1) (e := T.length) tm tt hT (Nat.le_refl _) (by omega) hb0 hb1 (fun b1 b2 => ⟨rgS (by decide) (by decide), fun _ => w98 ⟨hA1, hA2⟩ (fun _ => ⟨b1, b2⟩), fun y => absurd y (by decide)⟩) (fun b1 => ⟨rg0, fun y => absurd rfl y, fun _ => no0 ?_⟩)
        · exact this
        · have hslT : sl < T.length := by
            rcases Nat.lt_or_ge sl T.length with y2 | y2
            · exact y2
            · rw [if_pos y2] at hs0; omega
          have er : sl = p + r := by
            rcases Nat.lt_or_ge (p + r) sl with y2 | y2
            · have a1 := hA2 (p + r) (by omega) y2; have a2 := hr.2; omega
            · omega
          have hc47 : cd T ((p + r : Nat) : Int) = 47 := by
            rcases s4 with y2 | y2
            · omega
            · rw [← er]; exact y2
          rcases hcase with ⟨_, _, _, r2, c1, c2, c3, c4⟩ | ⟨c1, _⟩
          · rcases Nat.eq_zero_or_pos r2 with y2 | y2
            · rw [y2] at c2
              have : w = 0 := c2
              rw [c4, if_pos this, ite_self] at hfm; exact hfm
            · rcases Nat.lt_or_ge p' T.length with y3 | y3
              · rw [if_pos (cd_in hT y3)] at hfm; exact hfm
              · exfalso
                refine b1 ⟨by rcases run_len c1.1 with y4 | y4 <;> omega, fun j j1 j2 => ?_⟩
                have := c1.1 (j - (p + r + 1)) (by omega)
                rwa [show p + r + 1 + (j - (p + r + 1)) = j by omega] at this
          · exact absurd ⟨by omega, hc47⟩ c1
      · -- a slash, and no digits before it
        have hslT : sl < T.length := by
          rcases Nat.lt_or_ge sl T.length with y2 | y2
          · exact y2
          · rw [if_pos y2] at hs0; omega
        have hp' : p' ≤ sl := by
          rcases hcase with ⟨c1, c2, _⟩ | ⟨c1, c2, ⟨c3, c4, r2, p2, c5, c6⟩ | ⟨c3, c4, _⟩⟩
          · exfalso
            refine hA ⟨by omega, fun j j1 j2 => ?_⟩
            have hle : sl ≤ p + r := by
              rcases Nat.lt_or_ge (p + r) sl with y2 | y2
              · exact absurd c2 (s3 (p + r) (by omega) y2)
              · exact y2
            have := hr.1 (j - p) (by omega)
            rwa [show p + (j - p) = j by omega] at this
          · have hb10 : b = 10 := c3
            have hlt : p + r < sl := by
              rcases Nat.lt_or_ge (p + r) sl with y2 | y2
              · exact y2
              · have e1 : sl = p + r := by omega
                rcases s4 with y3 | y3
                · omega
                · rw [← e1, y3] at c4; unfold em at c4; omega
            have h2 : p2 ≤ sl := by
              rcases c5 with ⟨d1, d2, d3, _⟩ | ⟨_, _, d3, _⟩
              · rcases Nat.lt_or_ge sl p2 with y2 | y2
                · exfalso
                  have := d2.1 (sl - (p + r + 1)) (by omega)
                  rw [show p + r + 1 + (sl - (p + r + 1)) = sl by omega] at this
                  rcases s4 with y3 | y3
                  · omega
                  · rw [y3, dv_47 10 (by decide)] at this; omega
                · exact y2
              · omega
            rcases c6 with ⟨_, _, d1⟩ | ⟨_, _, _, d1, _⟩ | ⟨_, d0, rx, d1, d2, _⟩
            · omega
            · omega
            · have h47 : cd T (sl : Int) = 47 := by
                rcases s4 with y3 | y3
                · omega
                · exact y3
              have h3 : p2 ≠ sl := by rintro y2; rw [y2, h47] at d0; unfold em at d0; omega
              have h4 : sgn T p2 = 0 ∨ (sgn T p2 = 1 ∧ p2 + 1 ≠ sl) := by
                unfold sgn
                split
                · rename_i y2
                  refine Or.inr ⟨rfl, fun y3 => ?_⟩
                  rw [y3, h47] at y2; omega
                · exact Or.inl rfl
              rcases Nat.lt_or_ge sl p' with y2 | y2
              · exfalso
                have := d1.2.1 (sl - (p2 + 1 + sgn T p2)) (by omega)
                rw [show p2 + 1 + sgn T p2 + (sl - (p2 + 1 + sgn T p2)) = sl by omega, h47, dv_47 10 (by decide)] at this
                omega
              · exact y2
          · omega
        rw [if_pos (cd_in hT (by omega))] at hfm; exact hfm
      · -- a decimal
        subst y2
        have hslT : sl = T.length := by
          rcases Nat.lt_or_ge sl T.length with y3 | y3
          · rw [if_neg (by omega)] at hs0; omega
          · omega
        rcases hcase with ⟨c1, c2, _⟩ | ⟨c1, c2, ⟨c3, c4, r2, p2, c5, c6⟩ | ⟨c3, c4, c5, c6⟩⟩
        · exfalso
          have : p + r < T.length := cd_lt (by omega)
          exact s3 (p + r) (by omega) (by omega) c2
        · have hlt : p + r < T.length := cd_lt (by unfold em at c4; omega)
          have hS : ∃ pt, decS T p r r2 p2 pt ∧ v = dvl T 10 (p + r + 1) (dvl T 10 p 0 r) r2 ∧ (pt = -1 → em (cd T (p2 : Int))) ∧ (em (cd T (p2 : Int)) ∨ dv 10 (cd T (p2 : Int)) < 0) ∧ p2 ≤ T.length := by
            rcases c5 with ⟨d1, d2, d3, d4⟩ | ⟨d1, d2, d3, d4⟩
            · refine ⟨((p + r : Nat) : Int), ⟨hr.1, Or.inr ⟨rfl, d3, d1, d2.1⟩⟩, d4, fun y3 => by omega, Or.inr (by rw [d3]; exact d2.2), ?_⟩
              rcases run_len d2.1 with y3 | y3 <;> omega
            · have he : em (cd T ((p + r : Nat) : Int)) := by
                rcases c4 with y3 | y3
                · exact absurd y3 d1
                · exact y3
              exact ⟨-1, ⟨hr.1, Or.inl ⟨rfl, d2, d3⟩⟩, by rw [d4, d2]; rfl, fun _ => by rw [d3]; exact he, Or.inl (by rw [d3]; exact he), by omega⟩
          obtain ⟨pt, hS, hv, hpt, hst, hp2⟩ := hS
          have key : (scD T r r2 p2 → fm = 2 ∧ tn = xq T p2 - (r2 : Int)) ∧ (¬ scD T r r2 p2 → fm = 0) := by
            rcases c6 with ⟨d1, d2, d3⟩ | ⟨d1, d2, d3, d4, d5⟩ | ⟨d1, d2, rx, d3, d4, d5, d6⟩
            · exact ⟨fun y3 => by have := y3.1; omega, fun _ => by rw [hfm, d2, ite_self]⟩
            · refine ⟨fun y3 => ?_, fun y3 => ?_⟩
              · rcases y3.2 with y4 | y4
                · rw [d4, y4, cd_end (Int.le_refl _), if_neg (by decide), d3] at hfm
                  refine ⟨hfm, ?_⟩
                  unfold xq; rw [if_pos y4, d5]; omega
                · exact absurd y4.2.1 d2
              · rcases Nat.lt_or_ge p2 T.length with y4 | y4
                · rw [d4, if_pos (cd_in hT y4)] at hfm; exact hfm
                · exact absurd ⟨by omega, Or.inl (by omega)⟩ y3
            · have hp2l : p2 < T.length := cd_lt (by unfold em at d2; omega)
              obtain ⟨x1, x2, x3⟩ := d3
              refine ⟨fun y3 => ?_, fun y3 => ?_⟩
              · rcases y3.2 with y4 | ⟨_, _, y5, y6, y7⟩
                · omega
                · have erx : rx = xn T p2 := by
                    rcases Nat.lt_trichotomy rx (xn T p2) with y8 | y8 | y8
                    · rcases x3 with y9 | y9
                      · omega
                      · have := y7 rx y8; omega
                    · exact y8
                    · have := dig_lt (x2 (xn T p2) y8)
                      unfold xn at this; omega
                  have hxp : 0 < xn T p2 := by unfold xn; omega
                  have hpl : p' = T.length := by rw [d4, erx]; unfold xn; omega
                  rw [hpl, cd_end (Int.le_refl _), if_neg (by decide), d5, if_pos (by omega)] at hfm
                  refine ⟨hfm, ?_⟩
                  unfold xq; rw [if_neg (by omega), ← erx, d6]; omega
              · rcases Nat.eq_zero_or_pos rx with y4 | y4
                · rw [if_neg (by omega)] at d5; rw [d5, ite_self] at hfm; exact hfm
                · rcases Nat.lt_or_ge p' T.length with y5 | y5
                  · rw [if_pos (cd_in hT y5)] at hfm; exact hfm
                  · exfalso
                    have a1 : p2 + 1 + sgn T p2 + rx ≤ T.length := by rcases run_len x2 with y6 | y6 <;> omega
                    have erx : rx = xn T p2 := by unfold xn; omega
                    exact y3 ⟨by omega, Or.inr ⟨hp2l, d2, by omega, by omega, by rw [← erx]; exact x2⟩⟩
          refine ⟨tm.ok, sp_decimalM tm tt hT hS hp2 ?_ hmn hex (fun y3 => ?_) (fun y3 y4 h' n' yz V W a1 a2 a3 a4 a5 a6 => ?_) (fun y3 y4 h' n' yz x e1 m1 a1 a2 a3 a4 a5 a6 a7 => ?_)⟩
          · rcases hst with y3 | y3
            · exact Or.inr (Or.inl y3)
            · by_cases g : em (cd T (p2 : Int))
              · exact Or.inr (Or.inl g)
              · exact Or.inr (Or.inr ⟨y3, fun y4 => g (hpt y4.2), g⟩)
          · exact X9_unsigned_b76 (n0 := 0) C E (-1) n h (no0 (key.2 y3))
          · obtain ⟨f2, htn⟩ := key.1 y3
            rw [← hv, ← htn] at a5
            exact X9_unsigned_b76 (n0 := 0) C E yz n' h' (h2E f2 y4 h' n' yz V W a1 a2 (by omega) a4 a5 a6)
          · obtain ⟨f2, htn⟩ := key.1 y3
            rw [← hv, ← htn] at a5
            exact X9_unsigned_b76 (n0 := 0) C E yz n' h' (h2R f2 y4 h' n' yz x e1 m1 a1 a2 (by omega) a4 a5 a6 a7)
        · have hne : ¬ (0 < r ∧ T.length ≤ p + r) := by
            rintro ⟨y3, y4⟩
            refine hA ⟨by omega, fun j j1 j2 => ?_⟩
            have := hr.1 (j - p) (by omega)
            rwa [show p + (j - p) = j by omega] at this
          have hnos : ¬ scD T r 0 (p + r) := by
            rintro ⟨y3, y4 | y4⟩
            · exact hne ⟨by omega, by omega⟩
            · exact c3 ⟨rfl, Or.inr y4.2.1⟩
          have f0 : fm = 0 := by
            rcases Nat.lt_or_ge p' T.length with y5 | y5
            · rw [if_pos (cd_in hT y5)] at hfm; exact hfm
            · rw [if_neg (by omega)] at c6; rw [c6, ite_self] at hfm; exact hfm
          refine ⟨tm.ok, sp_decimalM (r2 := 0) (pt := -1) tm tt hT ⟨hr.1, Or.inl ⟨rfl, rfl, rfl⟩⟩ hrl (Or.inr (Or.inr ⟨hr.2, fun y3 => c3 ⟨rfl, Or.inl y3.1⟩, fun y3 => c3 ⟨rfl, Or.inr y3⟩⟩)) hmn hex (fun y3 => X9_unsigned_b76 (n0 := 0) C E (-1) n h (no0 f0)) (fun y3 => absurd y3 hnos) (fun y3 => absurd y3 hnos)⟩
      · -- no digits, and no decimal
        rcases hcase with ⟨c1, c2, _⟩ | ⟨c1, c2, ⟨c3, _⟩ | ⟨c3, c4, c5, c6⟩⟩
        · exfalso
          have hslT : sl = T.length := by
            rcases Nat.lt_or_ge sl T.length with y3 | y3
            · rw [if_neg (by omega)] at hs0; omega
            · omega
          have : p + r < T.length := cd_lt (by omega)
          exact s3 (p + r) (by omega) (by omega) c2
        · exact absurd c3 y2
        · have hslT : sl = T.length := by
            rcases Nat.lt_or_ge sl T.length with y3 | y3
            · rw [if_neg (by omega)] at hs0; omega
            · omega
          have hne : ¬ (0 < r ∧ T.length ≤ p + r) := by
            rintro ⟨y3, y4⟩
            refine hA ⟨by omega, fun j j1 j2 => ?_⟩
            have := hr.1 (j - p) (by omega)
            rwa [show p + (j - p) = j by omega] at this
          rcases Nat.lt_or_ge p' T.length with y5 | y5
          · rw [if_pos (cd_in hT y5)] at hfm; exact hfm
          · rw [if_neg (by omega)] at c6; rw [c6, ite_self] at hfm; exact hfm
    refine X9_unsigned_b24 (n0 := 0) C E 26 47 p T.length b ex mn sl n h ⟨⟨rg_nat (by omega), rg_nat (by omega)⟩, fun y => w35 0 (by rw [if_pos (by omega)]), fun y => w35 1 (by rw [if_neg (by omega)])⟩
  -- the search for the slash
  suffices loop : ∀ (d q : Nat), T.length - q = d → p ≤ q → q ≤ T.length → (∀ j, p ≤ j → j < q → cd T (j : Int) ≠ 47) → X9_unsigned_w3 G k 26 47 p T.length b ex mn q n h by
    exact loop (T.length - p) p rfl (Nat.le_refl _) hpT (fun j j1 j2 => by omega)
  intro d
  induction d with
  | zero =>
    intro q hd h1 h2 h3
    refine X9_unsigned_b3 (n0 := 0) C E 26 47 p T.length b ex mn q n h ⟨⟨rg_nat (by omega), rg_nat (by omega)⟩, fun _ => main q ⟨h1, h2, h3, Or.inl (by omega)⟩, fun y => by omega⟩
  | succ d ih =>
    intro q hd h1 h2 h3
    obtain ⟨a1, a2⟩ := tt.at tm (i := q) (by omega)
    have hc := cd_rg hT (q : Int)
    refine X9_unsigned_b3 (n0 := 0) C E 26 47 p T.length b ex mn q n h ⟨⟨rg_nat (by omega), rg_nat (by omega)⟩, fun y => by omega, fun y => ⟨a1, ?_⟩⟩
    rw [a2]
    refine ⟨⟨rgS (by omega) (by omega), rgS (by decide) (by decide)⟩, fun y2 => main q ⟨h1, h2, h3, Or.inr y2⟩, fun y2 => ih (q + 1) (by omega) (by omega) (by omega) (fun j j1 j2 => ?_)⟩
    rcases Nat.lt_or_ge j q with y3 | y3
    · exact h3 j j1 y3
    · rw [show j = q by omega]; exact y2
