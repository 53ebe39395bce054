/-! THE NUMERAL: words, exponent, decimals, numbers -/
def isW (T : List Int) (p j : Nat) : Prop := ∀ i, i < xLen.getD j 0 → cd T ((p + i : Nat) : Int) = xCh j i
theorem sp_word {G : xG} {l : Launch} {n : Nat} {h : xH} {T : List Int} {p j : Nat} {b c d e t s : Int} {Po : Int → xH → Prop} (q : isU n h T (uf p b c d e t s)) (hj : j < 8) (hpb : p ≤ 1000) (hy : isW T p j → ∀ h', hE sU h h' → isU n h' T (uf ((p + xLen.getD j 0 : Nat) : Int) b c d e t s) → Po 1 h') (hn : ¬ isW T p j → Po 0 h) : S_X2_takeWord G l 1 j n h Po := by
  refine S_X2_takeWord_of (fun k hl C E => X2_takeWord_b0 C E 1 j n h rfl ?_)
  have hle := xLen_le j
  suffices K : ∀ (u i : Nat), i + u = xLen.getD j 0 → (∀ y, y < i → cd T ((p + y : Nat) : Int) = xCh j y) → X2_takeWord_w2 G k 1 j i n h from K _ 0 (Nat.zero_add _) (fun y hy => by omega)
  intro u
  induction u with
  | zero =>
    intro i hi hm
    refine X2_takeWord_b2 C E 1 j i n h rfl ⟨hj, sp_length hj ⟨⟨rg_nat (by omega), rg_nat (by omega)⟩, fun _ => ⟨q.ok, hj, sp_length hj ⟨q.ok, fun h1 e1 => ⟨Or.inr rfl, ?_⟩⟩⟩, fun g => by omega⟩⟩
    rw [q.g1] at e1
    refine hy (fun y hy => hm y (by omega)) h1 (hE.put' e1 rfl) ?_
    rw [Int.natCast_add]
    exact q.s1 e1
  | succ u ih =>
    intro i hi hm
    have hc := xCh_ok j hj i (by omega)
    refine X2_takeWord_b2 C E 1 j i n h rfl ⟨hj, sp_length hj ⟨⟨rg_nat (by omega), rg_nat (by omega)⟩, fun g => by omega, fun _ => ⟨q.ok, q.w0, q.ok, by rw [q.w]; exact q.2.2.2.ok, ?_⟩⟩⟩
    rw [q.w, q.g1, ← Int.natCast_add]
    refine sp_codeAt q.2.2.2 (rg_nat (by omega)) ⟨hj, sp_charAt hj (by omega) ⟨⟨q.cr _, ⟨by omega, by omega⟩⟩, fun g => ?_, fun g => ⟨Or.inl rfl, hn (fun w => g (w i (by omega)))⟩⟩⟩
    refine ih (i + 1) (by omega) (fun y hy => ?_)
    rcases Nat.lt_or_ge y i with z | z
    · exact hm y z
    · rw [show y = i by omega]; exact g
def em (c : Int) : Prop := c = 101 ∨ c = 69
theorem sp_mark {G : xG} {l : Launch} {n : Nat} {h : xH} {c : Int} {Po : Int → xH → Prop} (hc : rg c) (hy : em c → Po 1 h) (hn : ¬ em c → Po 0 h) : S_X2_isExponentMark G l c n h Po := by
  refine S_X2_isExponentMark_of (fun k hl C E => ?_)
  have w12 : em c → X2_isExponentMark_w12 G k n h := fun z => X2_isExponentMark_b12 C E n h rfl (X2_isExponentMark_b17 C E 1 n h rfl ⟨Or.inr rfl, hy z⟩)
  refine X2_isExponentMark_b0 C E c n h rfl ⟨⟨hc, rgS (by decide) (by decide)⟩, fun z => w12 (Or.inl z), fun z => ⟨⟨hc, rgS (by decide) (by decide)⟩, fun y => X2_isExponentMark_b17 C E 0 n h rfl ⟨Or.inl rfl, hn ?_⟩, fun y => w12 (Or.inr y)⟩⟩
  rintro (w | w)
  · exact z w
  · exact y w
/-- the sign behind the mark at p -/
def sgn (T : List Int) (p : Nat) : Nat := if cd T ((p + 1 : Nat) : Int) = 45 ∨ cd T ((p + 1 : Nat) : Int) = 43 then 1 else 0
/-- r digits of an exponent stand behind the mark at p and its sign -/
def isX (T : List Int) (p r : Nat) : Prop := r ≤ 4 ∧ (∀ j, j < r → 0 ≤ dv 10 (cd T ((p + 1 + sgn T p + j : Nat) : Int))) ∧ (r = 4 ∨ dv 10 (cd T ((p + 1 + sgn T p + r : Nat) : Int)) < 0)
/-- the exponent -/
def xv (T : List Int) (p r : Nat) : Int := if cd T ((p + 1 : Nat) : Int) = 45 then -(dvl T 10 (p + 1 + sgn T p) 0 r) else dvl T 10 (p + 1 + sgn T p) 0 r
theorem dvl_bd {T : List Int} {p r : Nat} (hd : ∀ j, j < r → 0 ≤ dv 10 (cd T ((p + j : Nat) : Int))) : 0 ≤ dvl T 10 p 0 r ∧ dvl T 10 p 0 r < 10 ^ r := by
  induction r with
  | zero => exact ⟨Int.le_refl _, show (0 : Int) < 1 by decide⟩
  | succ r ih =>
    have h1 := ih (fun j hj => hd j (by omega))
    have h2 := hd r (by omega)
    have h3 := (dv_bd 10 (cd T ((p + r : Nat) : Int))).2.2 h2
    rw [Int.pow_succ]
    show 0 ≤ dvl T 10 p 0 r * 10 + dv 10 (cd T ((p + r : Nat) : Int)) ∧ dvl T 10 p 0 r * 10 + dv 10 (cd T ((p + r : Nat) : Int)) < _
    omega
theorem sp_expo {G : xG} {l : Launch} {n : Nat} {h : xH} {T : List Int} {p : Nat} {c d e t s : Int} {Po : Int → xH → Prop} (q : isU n h T (uf p 10 c d e t s)) (hpb : p ≤ 1000) (hp : ∀ h' r, hE sU h h' → isX T p r → isU n h' T (uf ((p + 1 + sgn T p + r : Nat) : Int) 10 c d e (t + xv T p r) s) → Po (if 0 < r then 1 else 0) h') : S_X2_takeExponent G l 1 n h Po := by
  refine S_X2_takeExponent_of (fun k hl C E => X2_takeExponent_b0 C E 1 n h rfl ⟨q.ok, q.ok, fun h1 e1 => ?_⟩)
  rw [q.g1] at e1
  have t1 : isU n h1 T (uf ((p + 1 : Nat) : Int) 10 c d e t s) := q.s1 e1
  have he1 : hE sU h h1 := hE.put' e1 rfl
  have hs1 : sgn T p ≤ 1 := by unfold sgn; split <;> omega
  have hc := t1.cr ((p + 1 : Nat) : Int)
  have w105 : ∀ (z : Int) (r : Nat) (h2 : xH), hE sU h h2 → isX T p r → isU n h2 T (uf ((p + 1 + sgn T p + r : Nat) : Int) 10 c d e t s) → z = xv T p r → X2_takeExponent_w105 G k r z t 1 n h2 := by
    intro z r h2 he2 hx t2 hz
    refine X2_takeExponent_b105 C E r z t 1 n h2 rfl ⟨t2.ok, fun h3 e3 => ⟨rg_nat (by have := hx.1; omega), fun g => X2_takeExponent_b118 C E 0 n h3 rfl ⟨Or.inl rfl, ?_⟩, fun g => X2_takeExponent_b118 C E 1 n h3 rfl ⟨Or.inr rfl, ?_⟩⟩⟩
    · have := hp h3 r (he2.tr (hE.put' e3 rfl)) hx (by rw [← hz]; exact t2.s6 e3)
      rwa [if_neg (by omega)] at this
    · have := hp h3 r (he2.tr (hE.put' e3 rfl)) hx (by rw [← hz]; exact t2.s6 e3)
      rwa [if_pos (by omega)] at this
  have w90 : ∀ (y : Int) (r : Nat) (h2 : xH), (y = 0 ∨ y = 1) → (y ≠ 0 ↔ cd T ((p + 1 : Nat) : Int) = 45) → hE sU h h2 → isX T p r → isU n h2 T (uf ((p + 1 + sgn T p + r : Nat) : Int) 10 c d e t s) → X2_takeExponent_w90 G k 1 y (dvl T 10 (p + 1 + sgn T p) 0 r) r n h2 := by
    intro y r h2 hy hyc he2 hx t2
    refine X2_takeExponent_b90 C E 1 y _ r n h2 rfl ⟨t2.ok, by rcases hy with z | z <;> rw [z] <;> exact rgS (by decide) (by decide), fun z => ?_, fun z => ?_⟩
    · rw [t2.g6]
      exact w105 _ r h2 he2 hx t2 (by unfold xv; rw [if_neg (fun w => hyc.mpr w z)])
    · rw [t2.g6]
      exact w105 _ r h2 he2 hx t2 (by unfold xv; rw [if_pos (hyc.mp z)])
  have w52 : ∀ (u r : Nat) (y : Int) (h2 : xH), (y = 0 ∨ y = 1) → (y ≠ 0 ↔ cd T ((p + 1 : Nat) : Int) = 45) → r + u = 4 → hE sU h h2 → (∀ j, j < r → 0 ≤ dv 10 (cd T ((p + 1 + sgn T p + j : Nat) : Int))) → isU n h2 T (uf ((p + 1 + sgn T p + r : Nat) : Int) 10 c d e t s) → X2_takeExponent_w52 G k 1 y (dvl T 10 (p + 1 + sgn T p) 0 r) r n h2 := by
    intro u
    induction u with
    | zero =>
      intro r y h2 hy hyc hu he2 hd t2
      exact X2_takeExponent_b52 C E 1 y _ r n h2 rfl ⟨⟨rg_nat (by omega), rgS (by decide) (by decide)⟩, fun _ => w90 y r h2 hy hyc he2 ⟨by omega, hd, Or.inl (by omega)⟩ t2, fun g => by omega⟩
    | succ u ih =>
      intro r y h2 hy hyc hu he2 hd t2
      have bd := dv_bd 10 (cd T ((p + 1 + sgn T p + r : Nat) : Int))
      refine X2_takeExponent_b52 C E 1 y _ r n h2 rfl ⟨⟨rg_nat (by omega), rgS (by decide) (by decide)⟩, fun g => by omega, fun _ => ⟨t2.ok, sp_dig t2 (rg_nat (by omega)) (rgS (by decide) (by decide)) ⟨rgS (by omega) (by omega), fun g => w90 y r h2 hy hyc he2 ⟨by omega, hd, Or.inr g⟩ t2, fun g => ⟨t2.ok, sp_dig t2 (rg_nat (by omega)) (rgS (by decide) (by decide)) ⟨t2.ok, t2.ok, fun h3 e3 => ?_⟩⟩⟩⟩⟩
      rw [t2.g1] at e3
      have := ih (r + 1) y h3 hy hyc (by omega) (he2.tr (hE.put' e3 rfl)) (fun j hj => ?_) (t2.s1 e3)
      · rw [show dvl T 10 (p + 1 + sgn T p) 0 (r + 1) = dvl T 10 (p + 1 + sgn T p) 0 r * 10 + dv 10 (cd T ((p + 1 + sgn T p + r : Nat) : Int)) from rfl, Int.mul_comm] at this
        exact this
      · rcases Nat.lt_or_ge j r with z | z
        · exact hd j z
        · rw [show j = r by omega]
          rcases Int.lt_or_le (dv 10 (cd T ((p + 1 + sgn T p + r : Nat) : Int))) 0 with w | w
          · exact absurd w g
          · exact w
  have w48 : ∀ (y : Int) (h2 : xH), (y = 0 ∨ y = 1) → (y ≠ 0 ↔ cd T ((p + 1 : Nat) : Int) = 45) → hE sU h h2 → isU n h2 T (uf ((p + 1 + sgn T p : Nat) : Int) 10 c d e t s) → X2_takeExponent_w48 G k 1 y n h2 := by
    intro y h2 hy hyc he2 t2
    exact X2_takeExponent_b48 C E 1 y n h2 rfl (w52 4 0 y h2 hy hyc rfl he2 (fun j hj => by omega) t2)
  have w38 : ∀ (y : Int), (y = 0 ∨ y = 1) → (y ≠ 0 ↔ cd T ((p + 1 : Nat) : Int) = 45) → (cd T ((p + 1 : Nat) : Int) = 45 ∨ cd T ((p + 1 : Nat) : Int) = 43) → X2_takeExponent_w38 G k 1 y n h1 := by
    intro y hy hyc hsg
    refine X2_takeExponent_b38 C E 1 y n h1 rfl ⟨t1.ok, t1.ok, fun h2 e2 => w48 y h2 hy hyc (he1.tr (hE.put' e2 rfl)) ?_⟩
    rw [t1.g1] at e2
    have : sgn T p = 1 := by unfold sgn; rw [if_pos hsg]
    rw [this]
    exact t1.s1 e2
  have w24 : ∀ (y : Int), (y = 0 ∨ y = 1) → (y ≠ 0 ↔ cd T ((p + 1 : Nat) : Int) = 45) → X2_takeExponent_w24 G k 1 y n h1 := by
    intro y hy hyc
    refine X2_takeExponent_b24 C E 1 y n h1 rfl ⟨by rcases hy with z | z <;> rw [z] <;> exact rgS (by decide) (by decide), fun z => w38 y hy hyc (Or.inl (hyc.mp z)), fun z => ⟨t1.ok, sp_cur t1 (rg_nat (by omega)) ⟨⟨hc, rgS (by decide) (by decide)⟩, fun w => w48 y h1 hy hyc he1 ?_, fun w => w38 y hy hyc (Or.inr w)⟩⟩⟩
    have : sgn T p = 0 := by
      unfold sgn
      rw [if_neg]
      rintro (v | v)
      · exact hyc.mpr v z
      · exact w v
    rw [this]
    exact t1
  refine ⟨t1.ok, sp_cur t1 (rg_nat (by omega)) ⟨⟨hc, rgS (by decide) (by decide)⟩, fun z => w24 0 (Or.inl rfl) ⟨fun w => absurd rfl w, fun w => absurd w z⟩, fun z => w24 1 (Or.inr rfl) ⟨fun _ => z, fun _ => by decide⟩⟩⟩
