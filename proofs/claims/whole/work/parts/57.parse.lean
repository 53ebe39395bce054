/-! THE NUMERAL: the whole text -/
/-- what the text T tells: form, sign, exactness, power of ten, the values of its digits -/
def prsR (T : List Int) (fm mn ex tn v w : Int) : Prop := ∃ ok p b x : Int, pfx T 2 0 0 0 = (ok, p, b, x) ∧ ∃ (sg fm' : Int) (p' : Nat), sg = (if cd T p = 45 ∨ cd T p = 43 then 1 else 0) ∧ mn = (if cd T p = 45 then 1 else 0) ∧ ex = x ∧ fm = (if 0 ≤ cd T (p' : Int) then 0 else fm') ∧ ((ok = 0 ∧ fm' = 0) ∨ (ok ≠ 0 ∧ sg = 1 ∧ isW T (p + sg).toNat 0 ∧ p' = (p + sg).toNat + 5 ∧ fm' = (if x = 101 then 0 else 3)) ∨ (ok ≠ 0 ∧ sg = 1 ∧ ¬ isW T (p + sg).toNat 0 ∧ isW T (p + sg).toNat 1 ∧ p' = (p + sg).toNat + 5 ∧ fm' = (if x = 101 then 0 else 4)) ∨ (ok ≠ 0 ∧ (sg = 1 → ¬ isW T (p + sg).toNat 0 ∧ ¬ isW T (p + sg).toNat 1) ∧ numR T (if b = 0 then 10 else b) (p + sg).toNat fm' p' tn v w))
theorem pfx_bd (T : List Int) : ∀ (u : Nat) (p b x : Int), 0 ≤ p → (b = 0 ∨ b = 2 ∨ b = 8 ∨ b = 10 ∨ b = 16) → (-200 ≤ x ∧ x ≤ 200) → ((pfx T u p b x).1 = 0 ∨ (pfx T u p b x).1 = 1) ∧ p ≤ (pfx T u p b x).2.1 ∧ (pfx T u p b x).2.1 ≤ p + 2 * u ∧ ((pfx T u p b x).2.2.1 = 0 ∨ (pfx T u p b x).2.2.1 = 2 ∨ (pfx T u p b x).2.2.1 = 8 ∨ (pfx T u p b x).2.2.1 = 10 ∨ (pfx T u p b x).2.2.1 = 16) ∧ (-200 ≤ (pfx T u p b x).2.2.2 ∧ (pfx T u p b x).2.2.2 ≤ 200) := by
  intro u
  induction u with
  | zero => intro p b x h0 hb hx; exact ⟨Or.inr rfl, Int.le_refl _, by show p ≤ _; omega, hb, hx⟩
  | succ u ih =>
    intro p b x h0 hb hx
    unfold pfx
    by_cases g : cd T p = 35
    · rw [if_pos g]
      by_cases g1 : bo (cd T (p + 1)) ≠ 0 ∧ b = 0
      · rw [if_pos g1]
        have := ih (p + 2) (bo (cd T (p + 1))) x (by omega) (bo_bd _) hx
        exact ⟨this.1, by omega, by omega, this.2.2.2.1, this.2.2.2.2⟩
      · rw [if_neg g1]
        by_cases g2 : (cd T (p + 1) = 101 ∨ cd T (p + 1) = 105) ∧ x = 0
        · rw [if_pos g2]
          have := ih (p + 2) b (cd T (p + 1)) (by omega) hb (by omega)
          exact ⟨this.1, by omega, by omega, this.2.2.2.1, this.2.2.2.2⟩
        · rw [if_neg g2]
          exact ⟨Or.inl rfl, by show p ≤ p + 2; omega, by show p + 2 ≤ _; omega, hb, hx⟩
    · rw [if_neg g]
      exact ⟨Or.inr rfl, Int.le_refl _, by show p ≤ _; omega, hb, hx⟩
theorem sp_exactAsked {G : xG} {l : Launch} {n : Nat} {h : xH} {T : List Int} {a b c d e t s : Int} {Po : Int → xH → Prop} (q : isU n h T (uf a b c d e t s)) (hc : rg c) (hp : Po (if c = 101 then 1 else 0) h) : S_X2_exactIsAsked G l 1 n h Po := by
  refine S_X2_exactIsAsked_of (fun k hl C E => X2_exactIsAsked_b0 C E 1 n h rfl ⟨q.ok, ⟨by rw [q.g3]; exact hc, rgS (by decide) (by decide)⟩, fun g => X2_exactIsAsked_b14 C E 0 n h rfl ⟨Or.inl rfl, ?_⟩, fun g => X2_exactIsAsked_b14 C E 1 n h rfl ⟨Or.inr rfl, ?_⟩⟩)
  · rw [q.g3] at g; rwa [if_neg g] at hp
  · rw [q.g3] at g; rwa [if_pos g] at hp
theorem sp_inexactAsked {G : xG} {l : Launch} {n : Nat} {h : xH} {T : List Int} {a b c d e t s : Int} {Po : Int → xH → Prop} (q : isU n h T (uf a b c d e t s)) (hc : rg c) (hp : Po (if c = 105 then 1 else 0) h) : S_X2_inexactIsAsked G l 1 n h Po := by
  refine S_X2_inexactIsAsked_of (fun k hl C E => X2_inexactIsAsked_b0 C E 1 n h rfl ⟨q.ok, ⟨by rw [q.g3]; exact hc, rgS (by decide) (by decide)⟩, fun g => X2_inexactIsAsked_b14 C E 0 n h rfl ⟨Or.inl rfl, ?_⟩, fun g => X2_inexactIsAsked_b14 C E 1 n h rfl ⟨Or.inr rfl, ?_⟩⟩)
  · rw [q.g3] at g; rwa [if_neg g] at hp
  · rw [q.g3] at g; rwa [if_pos g] at hp
theorem sp_parse {G : xG} {l : Launch} {n : Nat} {h : xH} {T : List Int} {x y : Nat} {f : Nat → Int} {Po : Int → xH → Prop} (q : isU n h T f) (tx : tyN n h x) (ty : tyN n h y) (hx : 4 ≤ x) (hy : 4 ≤ y) (hd : x + 1 < y ∨ y + 1 < x) (hp : ∀ h' fm mn ex tn v w a b d s, hE (fun i => i = 1 ∨ sN x i ∨ sN y i) h h' → prsR T fm mn ex tn v w → isU n h' T (uf a b ex d mn tn s) → (∃ v', isN n h' x v' ∧ (fm = 1 ∨ fm = 2 → v' = v)) → (∃ w', isN n h' y w' ∧ (fm = 1 ∨ fm = 2 → w' = w)) → (fm = 2 → sgOK v s) → (fm = 0 ∨ fm = 1 ∨ fm = 2 ∨ fm = 3 ∨ fm = 4) → (mn = 0 ∨ mn = 1) → rg ex → Po fm h') : S_X2_parse G l 1 x y n h Po := by
  refine S_X2_parse_of (fun k hl C E => X2_parse_b0 C E 1 x y n h rfl ?_)
  have q0 := q.to
  refine ⟨q0.ok, fun h1 e1 => ?_⟩
  have q1 := q0.s1 e1
  refine ⟨q1.ok, fun h2 e2 => ?_⟩
  have q2 := q1.s2 e2
  refine ⟨q2.ok, fun h3 e3 => ?_⟩
  have q3 := q2.s3 e3
  refine ⟨q3.ok, fun h4 e4 => ?_⟩
  have q4 := q3.s6 e4
  refine ⟨q4.ok, fun h5 e5 => ?_⟩
  have q5 := q4.s7 e5
  have he5 : hE (fun i => i = 1) h h5 := ((((hE.put' (S := fun i => i = 1) e1 rfl).tr (hE.put' e2 rfl)).tr (hE.put' e3 rfl)).tr (hE.put' e4 rfl)).tr (hE.put' e5 rfl)
  have tx5 : tyN n h5 x := tx.mv (fun i hi => ⟨(he5 i).1, (he5 i).2.1, (he5 i).2.2 (by rcases hi with z | z <;> omega)⟩)
  have ty5 : tyN n h5 y := ty.mv (fun i hi => ⟨(he5 i).1, (he5 i).2.1, (he5 i).2.2 (by rcases hi with z | z <;> omega)⟩)
  refine ⟨tx5.ok, sp_set tx5 (fun h6 e6 x6 => ?_)⟩
  have x6 : isN n h6 x 0 := x6
  have ty6 : tyN n h6 y := ty5.mv (fun i hi => ⟨(e6 i).1, (e6 i).2.1, (e6 i).2.2 (by rintro (w | w) <;> rcases hi with z | z <;> omega)⟩)
  have q6 := q5.mv e6 (by rintro (z | z) <;> omega) (by rintro (z | z) <;> omega) (by rintro (z | z) <;> omega)
  refine ⟨ty6.ok, sp_set ty6 (fun h7 e7 y7 => ?_)⟩
  have y7 : isN n h7 y 1 := y7
  have x7 : isN n h7 x 0 := x6.mv e7 (by rintro (z | z) <;> omega) (by rintro (z | z) <;> omega)
  have q7 := q6.mv e7 (by rintro (z | z) <;> omega) (by rintro (z | z) <;> omega) (by rintro (z | z) <;> omega)
  have he7 : hE (fun i => i = 1 ∨ sN x i ∨ sN y i) h h7 := ((he5.mono (fun i hi => Or.inl hi)).tr (e6.mono (fun i hi => Or.inr (Or.inl hi)))).tr (e7.mono (fun i hi => Or.inr (Or.inr hi)))
  refine ⟨q7.ok, sp_prefixes q7 (fun h8 e8 q8 => ?_)⟩
  have x8 : isN n h8 x 0 := x7.mv e8 (show ¬ x = 1 by omega) (show ¬ x + 1 = 1 by omega)
  have y8 : isN n h8 y 1 := y7.mv e8 (show ¬ y = 1 by omega) (show ¬ y + 1 = 1 by omega)
  have he8 := he7.tr (e8.mono (fun i hi => Or.inl hi))
  have pb := pfx_bd T 2 0 0 0 (by decide) (Or.inl rfl) ⟨by decide, by decide⟩
  have hpf : pfx T 2 0 0 0 = ((pfx T 2 0 0 0).1, (pfx T 2 0 0 0).2.1, (pfx T 2 0 0 0).2.2.1, (pfx T 2 0 0 0).2.2.2) := rfl
  generalize (pfx T 2 0 0 0).1 = ok at q8 pb hpf ⊢
  generalize (pfx T 2 0 0 0).2.1 = p at q8 pb hpf ⊢
  generalize (pfx T 2 0 0 0).2.2.1 = b at q8 pb hpf ⊢
  generalize (pfx T 2 0 0 0).2.2.2 = xx at q8 pb hpf ⊢
  obtain ⟨pb1, pb2, pb3, pb4, pb5⟩ := pb
  have rok : rg ok := by rcases pb1 with z | z <;> rw [z] <;> exact rgS (by decide) (by decide)
  have rxx : rg xx := rgS (by omega) (by omega)
  suffices w53 : ∀ h9, hE sU h8 h9 → isU n h9 T (uf p (if b = 0 then 10 else b) xx (f 4) (f 5) 0 0) → X2_parse_w53 G k 1 x y ok n h9 by
    refine ⟨q8.ok, by rw [q8.g2]; exact rgS (by omega) (by omega), fun z => w53 h8 hE.rf ?_, fun z => ⟨q8.ok, fun h9 e9 => w53 h9 (hE.put' e9 rfl) ?_⟩⟩
    · rw [q8.g2] at z; rw [if_neg z]; exact q8
    · rw [q8.g2] at z; rw [if_pos z]; exact q8.s2 e9
  intro h9 e9 q9
  have x9 : isN n h9 x 0 := x8.mv e9 (show ¬ x = 1 by omega) (show ¬ x + 1 = 1 by omega)
  have y9 : isN n h9 y 1 := y8.mv e9 (show ¬ y = 1 by omega) (show ¬ y + 1 = 1 by omega)
  have he9 := he8.tr (e9.mono (fun i hi => Or.inl hi))
  generalize hbb : (if b = 0 then (10 : Int) else b) = bb at q9
  have hbb2 : 2 ≤ bb ∧ bb ≤ 16 := by rw [← hbb]; split <;> omega
  refine X2_parse_b53 C E 1 x y ok n h9 rfl ⟨q9.ok, sp_sign q9 pb2 (by omega) (fun ha sg mn ea qa hsg hmn => ⟨rok, ?_⟩)⟩
  have xa : isN n ha x 0 := x9.mv ea (show ¬ x = 1 by omega) (show ¬ x + 1 = 1 by omega)
  have ya : isN n ha y 1 := y9.mv ea (show ¬ y = 1 by omega) (show ¬ y + 1 = 1 by omega)
  have hea := he9.tr (ea.mono (fun i hi => Or.inl hi))
  have hsg01 : sg = 0 ∨ sg = 1 := by rw [hsg]; split; exact Or.inr rfl; exact Or.inl rfl
  have hmn01 : mn = 0 ∨ mn = 1 := by rw [hmn]; split; exact Or.inr rfl; exact Or.inl rfl
  obtain ⟨pp, hpp⟩ := ex_nat (show 0 ≤ p + sg by omega)
  have hppn : (p + sg).toNat = pp := by omega
  rw [hpp] at qa
  have w102 : ∀ z h', Po z h' → X2_parse_w102 G k z n h' := fun z h' w => X2_parse_b102 C E z n h' rfl w
  have w87 : ∀ (fm' : Int) (p' : Nat) (tn v w s d' : Int) (hb : xH), hE (fun i => i = 1 ∨ sN x i ∨ sN y i) h hb → isU n hb T (uf (p' : Nat) bb xx d' mn tn s) → (∃ v', isN n hb x v' ∧ (fm' = 1 ∨ fm' = 2 → v' = v)) → (∃ w', isN n hb y w' ∧ (fm' = 1 ∨ fm' = 2 → w' = w)) → (fm' = 2 → sgOK v s) → p' ≤ 1000 → (fm' = 0 ∨ fm' = 1 ∨ fm' = 2 ∨ fm' = 3 ∨ fm' = 4) → ((ok = 0 ∧ fm' = 0) ∨ (ok ≠ 0 ∧ sg = 1 ∧ isW T pp 0 ∧ p' = pp + 5 ∧ fm' = (if xx = 101 then 0 else 3)) ∨ (ok ≠ 0 ∧ sg = 1 ∧ ¬ isW T pp 0 ∧ isW T pp 1 ∧ p' = pp + 5 ∧ fm' = (if xx = 101 then 0 else 4)) ∨ (ok ≠ 0 ∧ (sg = 1 → ¬ isW T pp 0 ∧ ¬ isW T pp 1) ∧ numR T bb pp fm' p' tn v w)) → X2_parse_w87 G k 1 fm' n hb := by
    intro fm' p' tn v w s d' hb heb qb xb yb sb p4 f4 hc
    have hR : ∀ fm, fm = (if 0 ≤ cd T (p' : Int) then 0 else fm') → prsR T fm mn xx tn v w := fun fm hf => ⟨ok, p, b, xx, hpf, sg, fm', p', hsg, hmn, rfl, hf, by rw [hppn, hbb]; exact hc⟩
    obtain ⟨v', xb1, xb2⟩ := xb
    obtain ⟨w', yb1, yb2⟩ := yb
    refine X2_parse_b87 C E 1 fm' n hb rfl ⟨qb.ok, sp_cur qb (rg_nat (by omega)) ⟨qb.cr _, fun z => w102 0 hb ?_, fun z => w102 fm' hb ?_⟩⟩
    · exact hp hb 0 mn xx tn v w _ _ _ s heb (hR 0 (by rw [if_pos z])) qb ⟨v', xb1, fun o => by omega⟩ ⟨w', yb1, fun o => by omega⟩ (fun o => absurd o (by decide)) (Or.inl rfl) hmn01 rxx
    · exact hp hb fm' mn xx tn v w _ _ _ s heb (hR fm' (by rw [if_neg z])) qb ⟨v', xb1, xb2⟩ ⟨w', yb1, yb2⟩ sb f4 hmn01 rxx
  have num : ok ≠ 0 → (sg = 1 → ¬ isW T pp 0 ∧ ¬ isW T pp 1) → ∀ (hc : xH) (Q : Int → xH → Prop), hc = ha → (∀ z h', X2_parse_w87 G k 1 z n h' → Q z h') → S_X2_takeNumber G (kl k) 1 x y n hc Q := by
    intro o1 o2 hc Q ehc hQ
    subst ehc
    refine sp_takeNumber qa xa ya hx hy hd (by omega) hbb2.1 hbb2.2 (fun hb fm' p' tn v w s' eb hn qb xb yb sb pb fb => hQ _ _ ?_)
    exact w87 fm' p' tn v w s' sg hb (hea.tr eb) qb ⟨v, xb, fun _ => rfl⟩ ⟨w, yb, fun _ => rfl⟩ sb pb (by omega) (Or.inr (Or.inr (Or.inr ⟨o1, o2, hn⟩)))
  refine ⟨fun o1 => ⟨qa.ok, by rw [qa.g4]; exact rgS (by omega) (by omega), fun z => ⟨qa.ok, ?_⟩, fun z => ⟨qa.ok, ?_⟩⟩, fun z => ?_⟩
  · rw [qa.g4] at z
    exact num o1 (fun w => by omega) ha _ rfl (fun z h' w => w)
  · rw [qa.g4] at z
    have sg1 : sg = 1 := by omega
    refine S_X2_takeWordOrNumber_of (fun k2 hl2 C2 E2 => ?_)
    have v51 : ∀ z h', X2_parse_w87 G k 1 z n h' → X2_takeWordOrNumber_w51 G k2 z n h' := fun z h' w => X2_takeWordOrNumber_b51 C2 E2 z n h' rfl w
    have v27 : ∀ (fm hb), (fm = 3 ∨ fm = 4) → (fm = 3 ∧ isW T pp 0 ∨ fm = 4 ∧ ¬ isW T pp 0 ∧ isW T pp 1) → hE sU ha hb → isU n hb T (uf ((pp + 5 : Nat) : Int) bb xx sg mn 0 0) → X2_takeWordOrNumber_w27 G k2 1 x y fm n hb := by
      intro fm hb hf hw eb qb
      have xb : isN n hb x 0 := xa.mv eb (show ¬ x = 1 by omega) (show ¬ x + 1 = 1 by omega)
      have yb : isN n hb y 1 := ya.mv eb (show ¬ y = 1 by omega) (show ¬ y + 1 = 1 by omega)
      have heb := hea.tr (eb.mono (fun i hi => Or.inl hi))
      refine X2_takeWordOrNumber_b27 C2 E2 1 x y fm n hb rfl ⟨rgS (by omega) (by omega), fun _ => ⟨qb.ok, sp_exactAsked qb rxx ?_⟩, fun z => by omega⟩
      have fin : ∀ fm', fm' = (if xx = 101 then 0 else fm) → X2_takeWordOrNumber_w51 G k2 fm' n hb := by
        intro fm' hf'
        refine v51 fm' hb (w87 fm' (pp + 5) 0 0 1 0 sg hb heb qb ⟨0, xb, fun _ => rfl⟩ ⟨1, yb, fun _ => rfl⟩ (fun o => ?_) (by omega) ?_ ?_)
        · rw [hf'] at o; split at o <;> omega
        · rw [hf']; split <;> omega
        · rcases hw with ⟨f3, w0⟩ | ⟨f4, w0, w1⟩
          · subst f3; exact Or.inr (Or.inl ⟨o1, sg1, w0, rfl, hf'⟩)
          · subst f4; exact Or.inr (Or.inr (Or.inl ⟨o1, sg1, w0, w1, rfl, hf'⟩))
      by_cases g : xx = 101
      · rw [if_pos g]; exact ⟨rgS (by decide) (by decide), fun w => absurd w (by decide), fun _ => fin 0 (by rw [if_pos g])⟩
      · rw [if_neg g]; exact ⟨rg0, fun _ => fin fm (by rw [if_neg g]), fun w => absurd rfl w⟩
    refine X2_takeWordOrNumber_b0 C2 E2 1 x y n ha rfl ⟨qa.ok, sp_word qa (by decide) (by omega) (fun w0 hb eb qb => ⟨rgS (by decide) (by decide), fun w => absurd w (by decide), fun _ => v27 3 hb (Or.inl rfl) (Or.inl ⟨rfl, w0⟩) eb qb⟩) (fun w0 => ⟨rg0, fun _ => ⟨qa.ok, sp_word qa (by decide) (by omega) (fun w1 hb eb qb => ⟨rgS (by decide) (by decide), fun w => absurd w (by decide), fun _ => v27 4 hb (Or.inr rfl) (Or.inr ⟨rfl, w0, w1⟩) eb qb⟩) (fun w1 => ⟨rg0, fun _ => ?_, fun w => absurd rfl w⟩)⟩, fun w => absurd rfl w⟩)⟩
    refine X2_takeWordOrNumber_b27 C2 E2 1 x y 0 n ha rfl ⟨rg0, fun w => absurd rfl w, fun _ => ⟨qa.ok, ?_⟩⟩
    rw [hl2]
    exact num o1 (fun _ => ⟨w0, w1⟩) ha _ rfl (fun z h' w => w)
  · exact w87 0 pp 0 0 1 0 sg ha hea qa ⟨0, xa, fun _ => rfl⟩ ⟨1, ya, fun _ => rfl⟩ (fun o => absurd o (by decide)) (by omega) (Or.inl rfl) (Or.inl ⟨z, rfl⟩)
