/-! THE MODEL: digits of a text -/
theorem isTx.at {n : Nat} {h : xH} {T : List Int} {wl tl z : Int} (tt : isTx h T) (tm : isM n h wl tl z) {i : Nat} (hi : i < T.length) : okA n h 47 100 (i : Int) ∧ hG h 47 ((i : Int).toNat) = cd T (i : Int) := by
  have := tt.1
  refine ⟨tm.t47.at (by omega) (by omega), ?_⟩
  rw [Int.toNat_natCast, cd_at hi]
  exact tt.2 i hi
theorem sp_digitOf {G : xG} {l : Launch} {n : Nat} {h : xH} {c b : Int} {Po : Int → xH → Prop} (hc : rg c) (hb0 : 2 ≤ b) (hb1 : b ≤ 16) (hp : Po (dv b c) h) : S_X9_digitOf G l c b n h Po := by
  refine S_X9_digitOf_of (fun k hl C E => ?_)
  have w76 : ∀ y, y = dv b c → X9_digitOf_w76 G k y n h := fun y e => X9_digitOf_b76 C E y n h rfl (by rw [e]; exact hp)
  have w65 : ∀ y : Int, 0 ≤ y → y ≤ 99 → (dw c = y ∨ (dw c = -1 ∧ y = 99)) → X9_digitOf_w65 G k b y n h := by
    intro y hy0 hy1 hy
    refine X9_digitOf_b65 C E b y n h rfl ⟨⟨rgS (by omega) (by omega), rgS (by omega) (by omega)⟩, fun g => w76 (-1) ?_, fun g => w76 y ?_⟩
    · unfold dv
      rcases hy with z | z
      · rw [if_neg (by omega)]
      · rw [z.1]; split <;> rfl
    · unfold dv
      rcases hy with z | z
      · rw [if_pos (by omega), z]
      · omega
  have w63 : dw c = -1 → X9_digitOf_w63 G k b n h := fun e => X9_digitOf_b63 C E b n h rfl (w65 99 (by decide) (by decide) (Or.inr ⟨e, rfl⟩))
  have w41 : ¬ (48 ≤ c ∧ c ≤ 57) → ¬ (97 ≤ c ∧ c ≤ 102) → X9_digitOf_w41 G k c b n h := by
    intro a1 a2
    have hd : dw c = if 65 ≤ c ∧ c ≤ 70 then c - 55 else -1 := by unfold dw; rw [if_neg a1, if_neg a2]
    refine X9_digitOf_b41 C E c b n h rfl ⟨⟨hc, rgS (by decide) (by decide)⟩, fun g => w63 (by rw [hd, if_neg (by omega)]), fun g => ⟨⟨hc, rgS (by decide) (by decide)⟩, fun g2 => w63 (by rw [hd, if_neg (by omega)]), fun g2 => w65 _ (by omega) (by omega) (Or.inl (by rw [hd, if_pos (by omega)]; omega))⟩⟩
  have w19 : ¬ (48 ≤ c ∧ c ≤ 57) → X9_digitOf_w19 G k c b n h := by
    intro a1
    refine X9_digitOf_b19 C E c b n h rfl ⟨⟨hc, rgS (by decide) (by decide)⟩, fun g => w41 a1 (by omega), fun g => ⟨⟨hc, rgS (by decide) (by decide)⟩, fun g2 => w41 a1 (by omega), fun g2 => w65 _ (by omega) (by omega) (Or.inl ?_)⟩⟩
    unfold dw
    rw [if_neg a1, if_pos (by omega)]; omega
  refine X9_digitOf_b0 C E c b n h rfl ⟨⟨hc, rgS (by decide) (by decide)⟩, fun g => w19 (by omega), fun g => ⟨⟨hc, rgS (by decide) (by decide)⟩, fun g2 => w19 (by omega), fun g2 => w65 _ (by omega) (by omega) (Or.inl ?_)⟩⟩
  unfold dw
  rw [if_pos (by omega)]
theorem cd_rg {T : List Int} (hT : ∀ x, x ∈ T → 0 ≤ x ∧ x ≤ 127) (i : Int) : -1 ≤ cd T i ∧ cd T i ≤ 127 := by
  unfold cd
  split
  · rename_i hi
    have hm : T.getD i.toNat 0 ∈ T := by
      rw [List.getD_eq_getElem?_getD, List.getElem?_eq_getElem (by omega)]
      exact List.getElem_mem _
    have := hT _ hm
    omega
  · omega
theorem cd_neg {T : List Int} (hT : ∀ x, x ∈ T → 0 ≤ x ∧ x ≤ 127) {i : Nat} : cd T (i : Int) < 0 ↔ T.length ≤ i := by
  constructor
  · intro h
    rcases Nat.lt_or_ge i T.length with g | g
    · rw [cd_at g] at h
      have hm : T.getD i 0 ∈ T := by
        rw [List.getD_eq_getElem?_getD, List.getElem?_eq_getElem g]
        exact List.getElem_mem _
      have := hT _ hm
      omega
    · exact g
  · intro h
    rw [cd_end (by omega)]; decide
theorem sp_areDigits {G : xG} {l : Launch} {n : Nat} {h : xH} {T : List Int} {wl tl z b : Int} {p e : Nat} {Po : Int → xH → Prop} (tm : isM n h wl tl z) (tt : isTx h T) (hT : ∀ x, x ∈ T → 0 ≤ x ∧ x ≤ 127) (he : e ≤ T.length) (hp0 : p ≤ 500) (hb0 : 2 ≤ b) (hb1 : b ≤ 16) (hy : p < e → (∀ j, p ≤ j → j < e → 0 ≤ dv b (cd T (j : Int))) → Po 1 h) (hn : ¬ (p < e ∧ ∀ j, p ≤ j → j < e → 0 ≤ dv b (cd T (j : Int))) → Po 0 h) : S_X9_areDigits G l 47 p e b n h Po := by
  refine S_X9_areDigits_of (fun k hl C E => ?_)
  have h400 := tt.1
  refine X9_areDigits_b0 C E 47 p e b n h rfl ⟨⟨rg_nat (by omega), rg_nat (by omega)⟩, fun g => ?_, fun g => ⟨Or.inl rfl, hn (fun y => by omega)⟩⟩
  suffices K : ∀ (u i : Nat), i + u = e → p ≤ i → (∀ j, p ≤ j → j < i → 0 ≤ dv b (cd T (j : Int))) → X9_areDigits_w10 G k 47 e b i n h from K (e - p) p (by omega) (Nat.le_refl _) (fun j y1 y2 => by omega)
  intro u
  induction u with
  | zero =>
    intro i hi hpi hd
    have : i = e := by omega
    subst this
    exact X9_areDigits_b10 C E 47 i b i n h rfl ⟨⟨rg_nat (by omega), rg_nat (by omega)⟩, fun _ => ⟨Or.inr rfl, hy (by omega) hd⟩, fun y => by omega⟩
  | succ u ih =>
    intro i hi hpi hd
    obtain ⟨ok, hc⟩ := tt.at tm (i := i) (by omega)
    have hcr := cd_rg hT (i : Int)
    refine X9_areDigits_b10 C E 47 e b i n h rfl ⟨⟨rg_nat (by omega), rg_nat (by omega)⟩, fun y => by omega, fun _ => ⟨ok, ?_⟩⟩
    rw [hc]
    have hdb := dv_bd b (cd T (i : Int))
    refine sp_digitOf (rgS (by omega) (by omega)) hb0 hb1 ⟨rgS (by omega) (by omega), fun y => ?_, fun y => ⟨Or.inl rfl, hn (fun y2 => y (y2.2 i hpi (by omega)))⟩⟩
    refine ih (i + 1) (by omega) (by omega) (fun j y1 y2 => ?_)
    rcases Nat.lt_or_ge j i with y3 | y3
    · exact hd j y1 y3
    · have : j = i := by omega
      rw [this]; exact y
theorem pow16 {b : Int} (hb0 : 2 ≤ b) (hb1 : b ≤ 16) : ∀ t : Nat, b ^ t ≤ 16 ^ t
  | 0 => by simp
  | t + 1 => by
    rw [Int.pow_succ, Int.pow_succ]
    exact Int.mul_le_mul (pow16 hb0 hb1 t) hb1 (by omega) (Int.le_of_lt (Int.pow_pos (by decide)))
/-- the value of r characters from p on, points left out -/
def gvl (T : List Int) (b : Int) (p : Nat) (v : Int) : Nat → Int
  | 0 => v
  | r + 1 => if cd T ((p + r : Nat) : Int) = 46 then gvl T b p v r else gvl T b p v r * b + dv b (cd T ((p + r : Nat) : Int))
/-- r characters from p on are digits or points -/
def dgp (T : List Int) (b : Int) (p r : Nat) : Prop := ∀ j, j < r → cd T ((p + j : Nat) : Int) = 46 ∨ 0 ≤ dv b (cd T ((p + j : Nat) : Int))
theorem gvl_bd {T : List Int} {b : Int} {p : Nat} {v : Int} (hb : 2 ≤ b) (hv : 0 ≤ v) : ∀ {r : Nat}, dgp T b p r → 0 ≤ gvl T b p v r ∧ gvl T b p v r < (v + 1) * b ^ r
  | 0, _ => ⟨hv, by rw [Int.pow_zero, Int.mul_one]; show v < v + 1; omega⟩
  | r + 1, h => by
    obtain ⟨i0, i1⟩ := gvl_bd hb hv (r := r) (fun j hj => h j (by omega))
    have hp : 0 < (v + 1) * b ^ r := Int.mul_pos (by omega) (Int.pow_pos (by omega))
    have hs : (v + 1) * b ^ (r + 1) = (v + 1) * b ^ r * b := by rw [Int.pow_succ, Int.mul_assoc]
    have h2 := Int.mul_le_mul_of_nonneg_left hb (Int.le_of_lt hp)
    have hst : gvl T b p v (r + 1) = if cd T ((p + r : Nat) : Int) = 46 then gvl T b p v r else gvl T b p v r * b + dv b (cd T ((p + r : Nat) : Int)) := rfl
    rw [hs, hst]
    split
    · omega
    · rename_i hne
      have hd := dv_bd b (cd T ((p + r : Nat) : Int))
      have h0 : 0 ≤ dv b (cd T ((p + r : Nat) : Int)) := by
        rcases h r (by omega) with z | z
        · exact absurd z hne
        · exact z
      have h3 := hd.2.2 h0
      have h4 := Int.mul_le_mul_of_nonneg_right (show gvl T b p v r + 1 ≤ (v + 1) * b ^ r by omega) (show 0 ≤ b by omega)
      rw [Int.add_mul, Int.one_mul] at h4
      have h5 := Int.mul_nonneg i0 (show 0 ≤ b by omega)
      omega
theorem gvl_split (T : List Int) (b : Int) (p : Nat) (v : Int) (r : Nat) : ∀ s : Nat, gvl T b p v (r + s) = gvl T b (p + r) (gvl T b p v r) s
  | 0 => rfl
  | s + 1 => by
    show (if cd T ((p + (r + s) : Nat) : Int) = 46 then gvl T b p v (r + s) else gvl T b p v (r + s) * b + dv b (cd T ((p + (r + s) : Nat) : Int))) = (if cd T ((p + r + s : Nat) : Int) = 46 then _ else _)
    rw [gvl_split T b p v r s, show p + (r + s) = p + r + s by omega]
theorem gvl_z {T : List Int} {b : Int} {p : Nat} (hb : 2 ≤ b) : ∀ {r : Nat}, (∀ j, j < r → cd T ((p + j : Nat) : Int) = 48 ∨ cd T ((p + j : Nat) : Int) = 46) → gvl T b p 0 r = 0
  | 0, _ => rfl
  | r + 1, h => by
    show (if cd T ((p + r : Nat) : Int) = 46 then gvl T b p 0 r else gvl T b p 0 r * b + dv b (cd T ((p + r : Nat) : Int))) = 0
    rw [gvl_z hb (fun j hj => h j (by omega))]
    rcases h r (by omega) with z | z
    · rw [if_neg (by rw [z]; decide), z]
      have : dv b 48 = 0 := by unfold dv; rw [show dw 48 = 0 by decide, if_pos (by omega)]
      rw [this]; omega
    · rw [if_pos z]
theorem sp_digits {G : xG} {l : Launch} {n : Nat} {h : xH} {T : List Int} {wl tl z b : Int} {p r : Nat} {Po : Nat → Nat → xH → Prop} (tm : isM n h wl tl z) (tt : isTx h T) (hT : ∀ x, x ∈ T → 0 ≤ x ∧ x ≤ 127) (he : p + r ≤ T.length) (hb0 : 2 ≤ b) (hb1 : b ≤ 16) (hd : dgp T b p r) (hp : ∀ h' z' r' s', hF (sC 34) n h h' → n ≤ z' → n ≤ r' → isM (n + 2) h' wl tl z → isWh (n + 2) h' z' r' s' (if gvl T b p 0 r = 0 then 0 else 1) (gvl T b p 0 r) → Po z' (n + 2) h') : S_X9_digits G l 26 47 p ((p + r : Nat) : Int) b n h Po := by
  refine S_X9_digits_of (fun k hl C E => X9_digits_b0 (n0 := 0) C E 26 47 p _ b n h ?_)
  have h47 : 47 < n := tm.1.1
  have h400 := tt.1
  -- leading zeros
  have w33 : ∀ i : Nat, p ≤ i → i ≤ p + r → (∀ j, p ≤ j → j < i → cd T (j : Int) = 48 ∨ cd T (j : Int) = 46) → X9_digits_w33 G k 26 47 ((p + r : Nat) : Int) b i n h := by
    intro i hpi hir hz
    obtain ⟨a, rfl⟩ : ∃ a, i = p + a := ⟨i - p, by omega⟩
    obtain ⟨s, rfl⟩ : ∃ s, r = a + s := ⟨r - a, by omega⟩
    have hv : gvl T b p 0 (a + s) = gvl T b (p + a) 0 s := by
      rw [gvl_split, gvl_z hb0 (fun j hj => hz (p + j) (by omega) (by omega))]
    have hds : dgp T b (p + a) s := fun j hj => by
      have := hd (a + j) (by omega)
      rwa [show p + (a + j) = p + a + j by omega] at this
    have pre : ∀ t, t ≤ s → dgp T b (p + a) t := fun t ht j hj => hds j (by omega)
    rw [hv] at hp
    refine X9_digits_b33 (n0 := 0) C E 26 47 _ b _ n h ⟨⟨rgS (by omega) (by omega), rgS (by decide) (by decide)⟩, fun g => ?_, fun g => ?_⟩
    · -- many digits
      have big : ∀ t, t ≤ s → gvl T b (p + a) 0 t < 10000 ^ 130 := by
        intro t ht
        have h1 := (gvl_bd hb0 (Int.le_refl 0) (pre t ht)).2
        have h2 := b_pow hb0 hb1 (show t ≤ 400 by omega)
        have h3 : (2 : Int) ^ 1600 < 10000 ^ 130 := by decide +kernel
        omega
      have h130 : (10000 : Int) ^ 130 ≤ 10000 ^ 140 := T_mono (by decide)
      suffices K : ∀ (u t s1 : Nat) (h1 : xH), t + u = s → hE (sC 34) h h1 → isM n h1 wl tl z → isT n h1 34 140 s1 (gvl T b (p + a) 0 t) → X9_digits_w102 G k 26 47 ((p + (a + s) : Nat) : Int) b s1 ((p + a + t : Nat) : Int) n h1 from K s 0 0 h (by omega) hE.rf tm ⟨tm.t34, by decide, fun i hi => by omega, rfl, fun t e => by omega⟩
      intro u
      induction u with
      | zero =>
        intro t s1 h1 ht e1 tm1 t1
        have hts : t = s := by omega
        subst hts
        refine X9_digits_b102 (n0 := 0) C E 26 47 _ b s1 _ n h1 ⟨⟨rg_nat (by omega), rg_nat (by omega)⟩, fun _ => ?_, fun y => by omega⟩
        rw [tm1.g7]
        refine ⟨tm1.ok, by decide, sp_wholeOf h47 t1 (by have := t1.2.1; omega) (Or.inl rfl) (fun h2 z2 r2 s2 k2 hz2 hr2 tw => hp h2 z2 r2 s2 (e1.f.tr (hK.f k2) (Nat.le_refl _)) hz2 hr2 (tm1.fr (S := fun _ => False) k2 (by omega) id id) tw)⟩
      | succ u ih =>
        intro t s1 h1 ht e1 tm1 t1
        have tt1 : isTx h1 T := tt.fr e1.f h47 (show ¬ 47 = 34 by decide)
        obtain ⟨ok, hc⟩ := tt1.at tm1 (i := p + a + t) (by omega)
        have hcr := cd_rg hT ((p + a + t : Nat) : Int)
        have rc : rg (cd T ((p + a + t : Nat) : Int)) := rgS (by omega) (by omega)
        refine X9_digits_b102 (n0 := 0) C E 26 47 _ b s1 _ n h1 ⟨⟨rg_nat (by omega), rg_nat (by omega)⟩, fun y => by omega, fun _ => ?_⟩
        rw [hc]
        have hstep : gvl T b (p + a) 0 (t + 1) = if cd T ((p + a + t : Nat) : Int) = 46 then gvl T b (p + a) 0 t else gvl T b (p + a) 0 t * b + dv b (cd T ((p + a + t : Nat) : Int)) := rfl
        have nxt : ∀ (s2 : Nat) (h2 : xH), hE (sC 34) h h2 → isM n h2 wl tl z → isT n h2 34 140 s2 (gvl T b (p + a) 0 (t + 1)) → X9_digits_w139 G k 26 47 ((p + (a + s) : Nat) : Int) b s2 ((p + a + t : Nat) : Int) n h2 := by
          intro s2 h2 e2 tm2 t2
          refine X9_digits_b139 (n0 := 0) C E 26 47 _ b s2 _ n h2 ?_
          rw [show ((p + a + t : Nat) : Int) + 1 = ((p + a + (t + 1) : Nat) : Int) by omega]
          exact ih (t + 1) s2 h2 (by omega) e2 tm2 t2
        refine ⟨ok, ⟨rc, rgS (by decide) (by decide)⟩, fun y => nxt s1 h1 e1 tm1 (by rw [hstep, if_pos y]; exact t1), fun y => ?_⟩
        rw [tm1.g7]
        have hdv : 0 ≤ dv b (cd T ((p + a + t : Nat) : Int)) := by
          rcases hds t (by omega) with y2 | y2
          · exact absurd y2 y
          · exact y2
        have hdb := dv_bd b (cd T ((p + a + t : Nat) : Int))
        have hfit := big (t + 1) (by omega)
        rw [hstep, if_neg y] at hfit
        refine ⟨tm1.ok, by decide, ok, sp_digitOf rc hb0 hb1 (sp_scale t1 (by omega) (by omega) hdv (by omega) (by omega) (fun h2 s2 e2 t2 _ => ?_))⟩
        have e2' : hE (sC 34) h1 h2 := e2
        exact nxt s2 h2 (e1.tr e2') (tm1.mv e2' (by decide) (by decide)) (by rw [hstep, if_neg y]; exact t2)
    · -- few digits
      have hs15 : s ≤ 15 := by omega
      have big : ∀ t, t ≤ s → 0 ≤ gvl T b (p + a) 0 t ∧ gvl T b (p + a) 0 t < 1152921504606846976 := by
        intro t ht
        have h1 := gvl_bd hb0 (Int.le_refl 0) (pre t ht)
        have h2 : b ^ t ≤ 16 ^ 15 := by
          have h3 : b ^ t ≤ 16 ^ t := pow16 hb0 hb1 t
          have h4 : (16 : Int) ^ t ≤ 16 ^ 15 := by
            have h2 := Int.ofNat_le.mpr (Nat.pow_le_pow_right (n := 16) (by decide) (show t ≤ 15 by omega))
            rw [Int.natCast_pow, Int.natCast_pow] at h2
            exact h2
          omega
        have h5 : (16 : Int) ^ 15 = 1152921504606846976 := by decide
        omega
      suffices K : ∀ (u t : Nat), t + u = s → X9_digits_w49 G k 47 ((p + (a + s) : Nat) : Int) b (gvl T b (p + a) 0 t) ((p + a + t : Nat) : Int) n h from K s 0 (by omega)
      intro u
      induction u with
      | zero =>
        intro t ht
        have hts : t = s := by omega
        subst hts
        have hb1 := big t (Nat.le_refl _)
        refine X9_digits_b49 (n0 := 0) C E 47 _ b _ _ n h ⟨⟨rg_nat (by omega), rg_nat (by omega)⟩, fun _ => sp_whole h47 ⟨by omega, by omega⟩ (fun h2 z2 r2 s2 k2 hz2 hr2 tw => hp h2 z2 r2 s2 (hK.f k2) hz2 hr2 (tm.fr (S := fun _ => False) k2 (by omega) id id) ?_), fun y => by omega⟩
        rw [show (((gvl T b (p + a) 0 t).natAbs : Nat) : Int) = gvl T b (p + a) 0 t by omega] at tw
        by_cases y : gvl T b (p + a) 0 t = 0
        · rw [if_pos y] at tw ⊢; exact tw
        · rw [if_neg y, if_pos (by omega)] at tw
          rw [if_neg y]; exact tw
      | succ u ih =>
        intro t ht
        obtain ⟨ok, hc⟩ := tt.at tm (i := p + a + t) (by omega)
        have hcr := cd_rg hT ((p + a + t : Nat) : Int)
        have rc : rg (cd T ((p + a + t : Nat) : Int)) := rgS (by omega) (by omega)
        have hstep : gvl T b (p + a) 0 (t + 1) = if cd T ((p + a + t : Nat) : Int) = 46 then gvl T b (p + a) 0 t else gvl T b (p + a) 0 t * b + dv b (cd T ((p + a + t : Nat) : Int)) := rfl
        have nxt : X9_digits_w83 G k 47 ((p + (a + s) : Nat) : Int) b (gvl T b (p + a) 0 (t + 1)) ((p + a + t : Nat) : Int) n h := by
          refine X9_digits_b83 (n0 := 0) C E 47 _ b _ _ n h ?_
          rw [show ((p + a + t : Nat) : Int) + 1 = ((p + a + (t + 1) : Nat) : Int) by omega]
          exact ih (t + 1) (by omega)
        refine X9_digits_b49 (n0 := 0) C E 47 _ b _ _ n h ⟨⟨rg_nat (by omega), rg_nat (by omega)⟩, fun y => by omega, fun _ => ?_⟩
        rw [hc]
        have hdb := dv_bd b (cd T ((p + a + t : Nat) : Int))
        refine ⟨ok, ⟨rc, rgS (by decide) (by decide)⟩, fun y => ?_, fun y => ⟨rgS (by omega) (by omega), ok, sp_digitOf rc hb0 hb1 ⟨rgS (by omega) (by omega), ?_⟩⟩⟩
        · rw [hstep, if_pos y] at nxt; exact nxt
        · rw [hstep, if_neg y] at nxt; exact nxt
  suffices K : ∀ (u i : Nat), i + u = p + r → p ≤ i → (∀ j, p ≤ j → j < i → cd T (j : Int) = 48 ∨ cd T (j : Int) = 46) → X9_digits_w3 G k 26 47 ((p + r : Nat) : Int) b i n h from K r p (by omega) (Nat.le_refl _) (fun j y1 y2 => by omega)
  intro u
  induction u with
  | zero =>
    intro i hi hpi hz
    exact X9_digits_b3 (n0 := 0) C E 26 47 _ b _ n h ⟨⟨rg_nat (by omega), rg_nat (by omega)⟩, fun _ => w33 i hpi (by omega) hz, fun y => by omega⟩
  | succ u ih =>
    intro i hi hpi hz
    obtain ⟨ok, hc⟩ := tt.at tm (i := i) (by omega)
    have hcr := cd_rg hT (i : Int)
    have rc : rg (cd T (i : Int)) := rgS (by omega) (by omega)
    have w27 : (cd T (i : Int) = 48 ∨ cd T (i : Int) = 46) → X9_digits_w27 G k 26 47 ((p + r : Nat) : Int) b i n h := by
      intro y
      refine X9_digits_b27 (n0 := 0) C E 26 47 _ b _ n h ?_
      rw [show (i : Int) + 1 = ((i + 1 : Nat) : Int) by omega]
      refine ih (i + 1) (by omega) (by omega) (fun j y1 y2 => ?_)
      rcases Nat.lt_or_ge j i with y3 | y3
      · exact hz j y1 y3
      · have : j = i := by omega
        rw [this]; exact y
    refine X9_digits_b3 (n0 := 0) C E 26 47 _ b _ n h ⟨⟨rg_nat (by omega), rg_nat (by omega)⟩, fun y => by omega, fun _ => ?_⟩
    rw [hc]
    exact ⟨ok, ⟨rc, rgS (by decide) (by decide)⟩, fun y => w27 (Or.inl y), fun y => ⟨ok, ⟨rc, rgS (by decide) (by decide)⟩, fun y2 => w33 i hpi (by omega) hz, fun y2 => w27 (Or.inr y2)⟩⟩
