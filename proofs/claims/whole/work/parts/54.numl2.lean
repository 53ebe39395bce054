/-! THE NUMERAL: prefixes, sign, words, exponent -/
/-- the fields at, base, exactness, signed, minus, tens, significant -/
def uf (a b c d e t s : Int) : Nat → Int := fun k => if k = 1 then a else if k = 2 then b else if k = 3 then c else if k = 4 then d else if k = 5 then e else if k = 6 then t else s
theorem cg7 {f g : Nat → Int} (h1 : f 1 = g 1) (h2 : f 2 = g 2) (h3 : f 3 = g 3) (h4 : f 4 = g 4) (h5 : f 5 = g 5) (h6 : f 6 = g 6) (h7 : f 7 = g 7) : ∀ k, 1 ≤ k → k ≤ 7 → f k = g k := by
  intro k a b
  match k, a, b with
  | 1, _, _ => exact h1
  | 2, _, _ => exact h2
  | 3, _, _ => exact h3
  | 4, _, _ => exact h4
  | 5, _, _ => exact h5
  | 6, _, _ => exact h6
  | 7, _, _ => exact h7
theorem isU.to {n : Nat} {h : xH} {T : List Int} {f : Nat → Int} (t : isU n h T f) : isU n h T (uf (f 1) (f 2) (f 3) (f 4) (f 5) (f 6) (f 7)) := t.cg (cg7 rfl rfl rfl rfl rfl rfl rfl)
theorem isU.s1 {n : Nat} {h h' : xH} {T : List Int} {a b c d e t s z : Int} (q : isU n h T (uf a b c d e t s)) (e1 : h' = hS h 1 1 z) : isU n h' T (uf z b c d e t s) := (q.set (by decide) e1).to
theorem isU.s2 {n : Nat} {h h' : xH} {T : List Int} {a b c d e t s z : Int} (q : isU n h T (uf a b c d e t s)) (e1 : h' = hS h 1 2 z) : isU n h' T (uf a z c d e t s) := (q.set (by decide) e1).to
theorem isU.s3 {n : Nat} {h h' : xH} {T : List Int} {a b c d e t s z : Int} (q : isU n h T (uf a b c d e t s)) (e1 : h' = hS h 1 3 z) : isU n h' T (uf a b z d e t s) := (q.set (by decide) e1).to
theorem isU.s4 {n : Nat} {h h' : xH} {T : List Int} {a b c d e t s z : Int} (q : isU n h T (uf a b c d e t s)) (e1 : h' = hS h 1 4 z) : isU n h' T (uf a b c z e t s) := (q.set (by decide) e1).to
theorem isU.s5 {n : Nat} {h h' : xH} {T : List Int} {a b c d e t s z : Int} (q : isU n h T (uf a b c d e t s)) (e1 : h' = hS h 1 5 z) : isU n h' T (uf a b c d z t s) := (q.set (by decide) e1).to
theorem isU.s6 {n : Nat} {h h' : xH} {T : List Int} {a b c d e t s z : Int} (q : isU n h T (uf a b c d e t s)) (e1 : h' = hS h 1 6 z) : isU n h' T (uf a b c d e z s) := (q.set (by decide) e1).to
theorem isU.s7 {n : Nat} {h h' : xH} {T : List Int} {a b c d e t s z : Int} (q : isU n h T (uf a b c d e t s)) (e1 : h' = hS h 1 7 z) : isU n h' T (uf a b c d e t z) := (q.set (by decide) e1).to
theorem isU.g1 {n : Nat} {h : xH} {T : List Int} {a b c d e t s : Int} (q : isU n h T (uf a b c d e t s)) : hG h 1 1 = a := q.g (by decide) (by decide)
theorem isU.g2 {n : Nat} {h : xH} {T : List Int} {a b c d e t s : Int} (q : isU n h T (uf a b c d e t s)) : hG h 1 2 = b := q.g (by decide) (by decide)
theorem isU.g3 {n : Nat} {h : xH} {T : List Int} {a b c d e t s : Int} (q : isU n h T (uf a b c d e t s)) : hG h 1 3 = c := q.g (by decide) (by decide)
theorem isU.g4 {n : Nat} {h : xH} {T : List Int} {a b c d e t s : Int} (q : isU n h T (uf a b c d e t s)) : hG h 1 4 = d := q.g (by decide) (by decide)
theorem isU.g5 {n : Nat} {h : xH} {T : List Int} {a b c d e t s : Int} (q : isU n h T (uf a b c d e t s)) : hG h 1 5 = e := q.g (by decide) (by decide)
theorem isU.g6 {n : Nat} {h : xH} {T : List Int} {a b c d e t s : Int} (q : isU n h T (uf a b c d e t s)) : hG h 1 6 = t := q.g (by decide) (by decide)
theorem isU.g7 {n : Nat} {h : xH} {T : List Int} {a b c d e t s : Int} (q : isU n h T (uf a b c d e t s)) : hG h 1 7 = s := q.g (by decide) (by decide)
theorem sp_cur {G : xG} {l : Launch} {n : Nat} {h : xH} {T : List Int} {a b c d e t s : Int} {Po : Int → xH → Prop} (q : isU n h T (uf a b c d e t s)) (hr : rg a) (hp : Po (cd T a) h) : S_X2_current G l 1 n h Po := sp_current q hr hp
theorem sp_dig {G : xG} {l : Launch} {n : Nat} {h : xH} {T : List Int} {a b c d e t s : Int} {Po : Int → xH → Prop} (q : isU n h T (uf a b c d e t s)) (hr : rg a) (hb : rg b) (hp : Po (dv b (cd T a)) h) : S_X2_currentDigit G l 1 n h Po := sp_curDigit q hr hb hp
theorem rgS {z : Int} (h0 : -2000000 ≤ z) (h1 : z ≤ 2000000) : rg z := ⟨by omega, by omega⟩
def bo (c : Int) : Int := if c = 98 then 2 else if c = 100 then 10 else if c = 111 then 8 else if c = 120 then 16 else 0
theorem bo_bd (c : Int) : bo c = 0 ∨ bo c = 2 ∨ bo c = 8 ∨ bo c = 10 ∨ bo c = 16 := by
  unfold bo
  split
  · exact Or.inr (Or.inl rfl)
  · split
    · exact Or.inr (Or.inr (Or.inr (Or.inl rfl)))
    · split
      · exact Or.inr (Or.inr (Or.inl rfl))
      · split
        · exact Or.inr (Or.inr (Or.inr (Or.inr rfl)))
        · exact Or.inl rfl
/-- the prefixes, u more of them at most: whether they are right, the place behind, base, exactness -/
def pfx (T : List Int) : Nat → Int → Int → Int → Int × Int × Int × Int
  | 0, p, b, x => (1, p, b, x)
  | u + 1, p, b, x => if cd T p = 35 then (if bo (cd T (p + 1)) ≠ 0 ∧ b = 0 then pfx T u (p + 2) (bo (cd T (p + 1))) x else if (cd T (p + 1) = 101 ∨ cd T (p + 1) = 105) ∧ x = 0 then pfx T u (p + 2) b (cd T (p + 1)) else (0, p + 2, b, x)) else (1, p, b, x)
theorem sp_prefixes {G : xG} {l : Launch} {n : Nat} {h : xH} {T : List Int} {d e t s : Int} {Po : Int → xH → Prop} (q : isU n h T (uf 0 0 0 d e t s)) (hp : ∀ h', hE sU h h' → isU n h' T (uf (pfx T 2 0 0 0).2.1 (pfx T 2 0 0 0).2.2.1 (pfx T 2 0 0 0).2.2.2 d e t s) → Po (pfx T 2 0 0 0).1 h') : S_X2_takePrefixes G l 1 n h Po := by
  refine S_X2_takePrefixes_of (fun k hl C E => X2_takePrefixes_b0 C E 1 n h rfl ?_)
  have w112 : ∀ h', Po 1 h' → X2_takePrefixes_w112 G k n h' := fun h' z => X2_takePrefixes_b112 C E n h' rfl ⟨Or.inr rfl, z⟩
  have w104 : ∀ h', Po 0 h' → X2_takePrefixes_w104 G k n h' := fun h' z => X2_takePrefixes_b104 C E n h' rfl ⟨Or.inl rfl, z⟩
  suffices K : ∀ (u i : Nat) (p b x : Int) (h1 : xH), i + u = 2 → 0 ≤ p → p ≤ 2 * i → rg b → rg x → hE sU h h1 → isU n h1 T (uf p b x d e t s) → (∀ h', hE sU h h' → isU n h' T (uf (pfx T u p b x).2.1 (pfx T u p b x).2.2.1 (pfx T u p b x).2.2.2 d e t s) → Po (pfx T u p b x).1 h') → X2_takePrefixes_w2 G k 1 i n h1 from K 2 0 0 0 0 h rfl (by decide) (by decide) rg0 rg0 hE.rf q hp
  intro u
  induction u with
  | zero =>
    intro i p b x h1 hi p0 p1 hb hx he t1 hp1
    exact X2_takePrefixes_b2 C E 1 i n h1 rfl ⟨⟨rg_nat (by omega), rgS (by decide) (by decide)⟩, fun _ => w112 h1 (hp1 h1 he t1), fun g => by omega⟩
  | succ u ih =>
    intro i p b x h1 hi p0 p1 hb hx he t1 hp1
    refine X2_takePrefixes_b2 C E 1 i n h1 rfl ⟨⟨rg_nat (by omega), rgS (by decide) (by decide)⟩, fun g => by omega, fun _ => ⟨t1.ok, sp_cur t1 (rgS (by omega) (by omega)) ⟨⟨t1.cr p, rgS (by decide) (by decide)⟩, fun g => w112 h1 ?_, fun g => ⟨t1.ok, t1.ok, fun h2 e2 => ?_⟩⟩⟩⟩
    · have z := hp1 h1 he
      unfold pfx at z
      rw [if_neg g] at z
      exact z t1
    · rw [t1.g1] at e2
      have t2 := t1.s1 e2
      refine ⟨t2.ok, sp_cur t2 (rgS (by omega) (by omega)) ⟨t2.ok, t2.ok, fun h3 e3 => ?_⟩⟩
      rw [t2.g1, show p + 1 + 1 = p + 2 by omega] at e3
      have t3 := t2.s1 e3
      have he3 : hE sU h h3 := (he.tr (hE.put' e2 rfl)).tr (hE.put' e3 rfl)
      have hc := t3.cr (p + 1)
      have bb := bo_bd (cd T (p + 1))
      unfold pfx at hp1
      rw [if_pos g] at hp1
      have w106 : ∀ (b' x' : Int) (h4 : xH), rg b' → rg x' → hE sU h h4 → isU n h4 T (uf (p + 2) b' x' d e t s) → (∀ h', hE sU h h' → isU n h' T (uf (pfx T u (p + 2) b' x').2.1 (pfx T u (p + 2) b' x').2.2.1 (pfx T u (p + 2) b' x').2.2.2 d e t s) → Po (pfx T u (p + 2) b' x').1 h') → X2_takePrefixes_w106 G k 1 i n h4 := by
        intro b' x' h4 hb' hx' he4 t4 hp4
        refine X2_takePrefixes_b106 C E 1 i n h4 rfl ?_
        exact ih (i + 1) (p + 2) b' x' h4 (by omega) (by omega) (by omega) hb' hx' he4 t4 hp4
      have w84 : ∀ y : Int, (y = 0 ∨ y = 1) → (y ≠ 0 ↔ (cd T (p + 1) = 101 ∨ cd T (p + 1) = 105)) → ¬ (bo (cd T (p + 1)) ≠ 0 ∧ b = 0) → X2_takePrefixes_w84 G k 1 i (cd T (p + 1)) y n h3 := by
        intro y hy hyc hn
        rw [if_neg hn] at hp1
        refine X2_takePrefixes_b84 C E 1 i _ y n h3 rfl ⟨by rcases hy with z | z <;> rw [z] <;> exact rgS (by decide) (by decide), fun y0 => w104 h3 ?_, fun y0 => ⟨t3.ok, by rw [t3.g3]; exact hx, fun x0 => w104 h3 ?_, fun x0 => ⟨t3.ok, fun h4 e4 => ?_⟩⟩⟩
        · rw [if_neg (fun z => hyc.mpr z.1 y0)] at hp1
          exact hp1 h3 he3 t3
        · rw [t3.g3] at x0
          rw [if_neg (fun z => x0 z.2)] at hp1
          exact hp1 h3 he3 t3
        · rw [t3.g3] at x0
          rw [if_pos ⟨hyc.mp y0, x0⟩] at hp1
          exact w106 b _ h4 hb hc (he3.tr (hE.put' e4 rfl)) (t3.s3 e4) hp1
      have w63 : ∀ y : Int, (y = 0 ∨ y = 1) → (y ≠ 0 ↔ (cd T (p + 1) = 101 ∨ cd T (p + 1) = 105)) → X2_takePrefixes_w63 G k 1 i (cd T (p + 1)) (bo (cd T (p + 1))) y n h3 := by
        intro y hy hyc
        refine X2_takePrefixes_b63 C E 1 i _ _ y n h3 rfl ⟨rgS (by omega) (by omega), fun z => w84 y hy hyc (fun w => w.1 z), fun z => ⟨t3.ok, by rw [t3.g2]; exact hb, fun w => w84 y hy hyc (fun v => w (by rw [t3.g2]; exact v.2)), fun w => ⟨t3.ok, fun h4 e4 => ?_⟩⟩⟩
        rw [t3.g2] at w
        rw [if_pos ⟨z, w⟩] at hp1
        exact w106 _ x h4 (rgS (by omega) (by omega)) hx (he3.tr (hE.put' e4 rfl)) (t3.s2 e4) hp1
      have w58 : (cd T (p + 1) = 101 ∨ cd T (p + 1) = 105) → X2_takePrefixes_w58 G k 1 i (cd T (p + 1)) (bo (cd T (p + 1))) n h3 := fun z => X2_takePrefixes_b58 C E 1 i _ _ n h3 rfl (w63 1 (Or.inr rfl) ⟨fun _ => z, fun _ => by decide⟩)
      refine sp_baseOf hc ⟨⟨hc, rgS (by decide) (by decide)⟩, fun z => w58 (Or.inl z), fun z => ⟨⟨hc, rgS (by decide) (by decide)⟩, fun y => w63 0 (Or.inl rfl) ⟨fun w => absurd rfl w, fun w => ?_⟩, fun y => w58 (Or.inr y)⟩⟩
      rcases w with w | w
      · exact absurd w z
      · exact absurd w y
theorem sp_sign {G : xG} {l : Launch} {n : Nat} {h : xH} {T : List Int} {a b c d e t s : Int} {Po : xH → Prop} (q : isU n h T (uf a b c d e t s)) (ha0 : 0 ≤ a) (ha1 : a ≤ 4) (hp : ∀ h' sg mn, hE sU h h' → isU n h' T (uf (a + sg) b c sg mn t s) → sg = (if cd T a = 45 ∨ cd T a = 43 then 1 else 0) → mn = (if cd T a = 45 then 1 else 0) → Po h') : S_X2_takeSign G l 1 n h Po := by
  have hr : rg a := rgS (by omega) (by omega)
  refine S_X2_takeSign_of (fun k hl C E => X2_takeSign_b0 C E 1 n h rfl ⟨q.ok, sp_cur q hr ?_⟩)
  have hc := q.cr a
  have w60 : ∀ h', Po h' → X2_takeSign_w60 G k n h' := fun h' z => X2_takeSign_b60 C E n h' rfl z
  have w40 : ∀ (sg mn : Int) (h3 : xH), hE sU h h3 → isU n h3 T (uf a b c d mn t s) → sg = (if cd T a = 45 ∨ cd T a = 43 then 1 else 0) → mn = (if cd T a = 45 then 1 else 0) → X2_takeSign_w40 G k 1 sg 1 n h3 := by
    intro sg mn h3 he t3 hsg hmn
    have hs01 : sg = 0 ∨ sg = 1 := by rw [hsg]; split; exact Or.inr rfl; exact Or.inl rfl
    refine X2_takeSign_b40 C E 1 sg 1 n h3 rfl ⟨t3.ok, hs01, fun h4 e4 => ?_⟩
    have t4 := t3.s4 e4
    have he4 : hE sU h h4 := he.tr (hE.put' e4 rfl)
    refine ⟨t4.ok, by rw [t4.g4]; rcases hs01 with z | z <;> rw [z] <;> exact rgS (by decide) (by decide), fun z => w60 h4 ?_, fun z => ⟨t4.ok, t4.ok, fun h5 e5 => w60 h5 ?_⟩⟩
    · rw [t4.g4] at z
      refine hp h4 sg mn he4 ?_ hsg hmn
      rw [z, Int.add_zero, ← z]; exact t4
    · rw [t4.g4] at z
      rw [t4.g1] at e5
      refine hp h5 sg mn (he4.tr (hE.put' e5 rfl)) ?_ hsg hmn
      have : sg = 1 := by rcases hs01 with y | y; exact absurd y z; exact y
      rw [this] at t4 ⊢
      exact t4.s1 e5
  have w15 : ∀ mn : Int, mn = (if cd T a = 45 then 1 else 0) → X2_takeSign_w15 G k 1 mn 1 n h := by
    intro mn hmn
    have hm01 : mn = 0 ∨ mn = 1 := by rw [hmn]; split; exact Or.inr rfl; exact Or.inl rfl
    refine X2_takeSign_b15 C E 1 mn 1 n h rfl ⟨q.ok, hm01, fun h3 e3 => ?_⟩
    have t3 := q.s5 e3
    have he3 : hE sU h h3 := hE.put' e3 rfl
    have w35 : (cd T a = 45 ∨ cd T a = 43) → X2_takeSign_w35 G k 1 1 n h3 := fun z => X2_takeSign_b35 C E 1 1 n h3 rfl (w40 1 mn h3 he3 t3 (by rw [if_pos z]) hmn)
    refine ⟨t3.ok, by rw [t3.g5]; rcases hm01 with z | z <;> rw [z] <;> exact rgS (by decide) (by decide), fun z => w35 ?_, fun z => ⟨t3.ok, sp_cur t3 hr ⟨⟨hc, rgS (by decide) (by decide)⟩, fun y => w40 0 mn h3 he3 t3 ?_ hmn, fun y => w35 (Or.inr y)⟩⟩⟩
    · rw [t3.g5, hmn] at z
      by_cases y : cd T a = 45
      · exact Or.inl y
      · rw [if_neg y] at z; exact absurd rfl z
    · rw [t3.g5, hmn] at z
      rw [if_neg]
      rintro (w | w)
      · rw [if_pos w] at z; exact absurd z (by decide)
      · exact y w
  exact ⟨⟨hc, rgS (by decide) (by decide)⟩, fun z => w15 0 (by rw [if_neg z]), fun z => w15 1 (by rw [if_pos z])⟩
