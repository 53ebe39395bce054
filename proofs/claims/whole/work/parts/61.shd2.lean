/-! THE SHORTEST DIGITS: one digit -/
theorem P4224 : (2 : Int) ^ 4224 = 4294967296 ^ 132 := by rw [B_2]
theorem fit132 {v : Int} {t : Nat} (h : v < 2 ^ t) (ht : t ≤ 4224) : v < 4294967296 ^ 132 := by
  have := pw_mono ht
  rw [P4224] at this
  omega
/-- the rest lies nearer to the digit above -/
def nr (r w q : Int) : Prop := w < 2 * r ∨ (2 * r = w ∧ q % 2 = 1)
theorem sp_nearer {G : xG} {l : Launch} {n : Nat} {h : xH} {L : List Int} {pt r w a b q : Int} {Po : Int → xH → Prop} (t : isQ n h L pt) (z : isZ n h r w a b) (hb : r < 2 ^ 4000) (hy : nr r w q → ∀ h', hE sQ h h' → isQ n h' L pt → isZ n h' r w a b → Po 1 h') (hn : ¬ nr r w q → ∀ h', hE sQ h h' → isQ n h' L pt → isZ n h' r w a b → Po 0 h') : S_X3_isNearerUp G l 14 q n h Po := by
  refine S_X3_isNearerUp_of (fun k hl C E => X3_isNearerUp_b0 C E 14 q n h rfl ?_)
  have z0 := z
  obtain ⟨z1, z2, z3, z4, s, z5⟩ := z
  rw [t.f7, t.f3]
  refine ⟨t.ok, by decide, t.ok, by decide, z5.1.ok, sp_copy z5.1 z1 (by decide) (fun h1 e1 q1 => ?_)⟩
  have t1 := t.mv e1 (by decide) (by decide)
  have y1 := z0.n24 e1 q1
  rw [t1.f7]
  have hbl : bl r + 1 ≤ 4224 := by have := bl_le hb; omega
  refine ⟨t1.ok, by decide, q1.1.ok, sp_shl q1 (rgS (by decide) (by decide)) (fun _ => hbl) (fun h2 e2 q2 => ?_)⟩
  have q2 : isN n h2 24 (2 * r) := by
    rw [show (2 : Int) * r = r * 2 ^ (1 : Int).toNat by rw [show (2 : Int) ^ (1 : Int).toNat = 2 from rfl]; omega]; exact q2
  have t2 := t1.mv e2 (by decide) (by decide)
  have y2 := y1.n24 e2 q2
  rw [t2.f7, t2.f4]
  have eq : hE sQ h h2 := (sq24 e1).tr (sq24 e2)
  have hA : iA q 1 = q % 2 := iA_mask q 1 (by decide)
  have w46 : nr r w q → X3_isNearerUp_w46 G k n h2 := fun v => X3_isNearerUp_b46 C E n h2 rfl (X3_isNearerUp_b51 C E 1 n h2 rfl ⟨Or.inr rfl, hy v h2 eq t2 y2⟩)
  have w50 : ¬ nr r w q → X3_isNearerUp_w50 G k n h2 := fun v => X3_isNearerUp_b50 C E n h2 rfl (X3_isNearerUp_b51 C E 0 n h2 rfl ⟨Or.inl rfl, hn v h2 eq t2 y2⟩)
  refine ⟨t2.ok, by decide, t2.ok, by decide, q2.1.ok, sp_compare q2 y2.2.1 ⟨rg_ord _ _, fun o => w46 ?_, fun o => ⟨rg_ord _ _, fun o2 => w50 ?_, fun o2 => ⟨⟨by rw [hA]; exact rgS (by omega) (by omega), rgS (by decide) (by decide)⟩, fun o3 => w50 ?_, fun o3 => w46 ?_⟩⟩⟩⟩
  · unfold ord at o; unfold nr
    split at o
    · omega
    · split at o <;> omega
  · unfold ord at o o2; unfold nr
    split at o
    · omega
    · split at o
      · rename_i g1 g2; rw [if_neg g1, if_pos g2] at o2; exact absurd rfl o2
      · omega
  · rw [hA] at o3; unfold ord at o o2; unfold nr
    split at o
    · omega
    · split at o <;> omega
  · rw [hA] at o3; unfold ord at o o2; unfold nr
    split at o
    · rename_i g1; rw [if_pos g1] at o2; exact absurd o2 (by decide)
    · split at o <;> omega
/-- one digit: q of the whole leave the rest over -/
def dgR (r w q m : Int) : Prop := 0 ≤ q ∧ q ≤ 9 ∧ m = 10 * r - q * w ∧ 0 ≤ m ∧ (q = 9 ∨ m < w)
theorem dgR.uniq {r w q m q' m' : Int} (h : dgR r w q m) (h' : dgR r w q' m') (hw : 0 < w) : q = q' ∧ m = m' := by
  obtain ⟨a1, a2, a3, a4, a5⟩ := h
  obtain ⟨b1, b2, b3, b4, b5⟩ := h'
  have key : ∀ {q q' m m' : Int}, q < q' → q' ≤ 9 → m = 10 * r - q * w → m' = 10 * r - q' * w → 0 ≤ m' → (q = 9 ∨ m < w) → False := by
    intro q q' m m' hlt h9 e1 e2 h0 h5
    have h6 : m < w := by omega
    have h7 := Int.mul_le_mul_of_nonneg_right (show q + 1 ≤ q' by omega) (Int.le_of_lt hw)
    rw [Int.add_mul] at h7
    omega
  have : q = q' := by
    rcases Int.lt_trichotomy q q' with g | g | g
    · exact (key g b2 a3 b3 b4 a5).elim
    · exact g
    · exact (key g a2 b3 a3 a4 b5).elim
  subst this
  exact ⟨rfl, by omega⟩
theorem sp_takeDigit {G : xG} {l : Launch} {n : Nat} {h : xH} {L : List Int} {pt r w a b ev : Int} {Po : Int → xH → Prop} (t : isQ n h L pt) (z : isZ n h r w a b) (hL : L.length < 20) (hev : ev = 0 ∨ ev = 1) (hr : r < 2 ^ 3990) (ha : a < 2 ^ 3990) (hb : b < 2 ^ 3990) (hp : ∀ h' q m d, hE sQ h h' → dgR r w q m → ((lv ev w (m + 10 * a) ∧ (¬ lv ev m (10 * b) ∨ nr m w q) ∧ d = q + 1) ∨ (¬ (lv ev w (m + 10 * a) ∧ (¬ lv ev m (10 * b) ∨ nr m w q)) ∧ d = q)) → isQ n h' (L ++ [d]) pt → isZ n h' m w (10 * a) (10 * b) → ((lv ev m (10 * b) ∨ lv ev w (m + 10 * a)) → Po 1 h') ∧ (¬ (lv ev m (10 * b) ∨ lv ev w (m + 10 * a)) → Po 0 h')) : S_X3_takeDigit G l 14 ev n h Po := by
  refine S_X3_takeDigit_of (fun k hl C E => X3_takeDigit_b0 C E 14 ev n h rfl ?_)
  have p94 : (2 : Int) ^ 3994 = 16 * 2 ^ 3990 := by rw [show 3994 = 3990 + 4 from rfl, Int.pow_add]; omega
  have m10 : ∀ v : Int, v < 2 ^ 3990 → v * 10 + 0 < 4294967296 ^ 132 := fun v hv => fit132 (t := 3994) (by rw [p94]; have := pw_pos 3990; omega) (by decide)
  have rev : rg ev := by rcases hev with v | v <;> rw [v] <;> exact rgS (by decide) (by decide)
  rw [t.f3]
  refine ⟨t.ok, by decide, z.1.1.ok, sp_mulAdd z.1 (by decide) (by decide) (by decide) (by decide) (m10 r hr) (fun h1 e1 q1 => ?_)⟩
  have q1 : isN n h1 16 (10 * r) := by rw [show (10 : Int) * r = r * 10 + 0 by omega]; exact q1
  have t1 := t.mv e1 (by decide) (by decide)
  have z1 := z.n16 e1 q1
  rw [t1.f5]
  refine ⟨t1.ok, by decide, z1.2.2.1.1.ok, sp_mulAdd z1.2.2.1 (by decide) (by decide) (by decide) (by decide) (m10 a ha) (fun h2 e2 q2 => ?_)⟩
  have q2 : isN n h2 20 (10 * a) := by rw [show (10 : Int) * a = a * 10 + 0 by omega]; exact q2
  have t2 := t1.mv e2 (by decide) (by decide)
  have z2 := z1.n20 e2 q2
  rw [t2.f6]
  refine ⟨t2.ok, by decide, z2.2.2.2.1.1.ok, sp_mulAdd z2.2.2.2.1 (by decide) (by decide) (by decide) (by decide) (m10 b hb) (fun h3 e3 q3 => ?_)⟩
  have q3 : isN n h3 22 (10 * b) := by rw [show (10 : Int) * b = b * 10 + 0 by omega]; exact q3
  have t3 := t2.mv e3 (by decide) (by decide)
  have z3 := z2.n22 e3 q3
  have he3 : hE sQ h h3 := ((sq16 e1).tr (sq20 e2)).tr (sq22 e3)
  have hw0 : 0 ≤ w := z.2.1.nn.1
  have w153 : ∀ (q m d x4 x5 : Int) (h4 : xH), hE sQ h h4 → dgR r w q m → isQ n h4 L pt → isZ n h4 m w (10 * a) (10 * b) → (x4 = 0 ∨ x4 = 1) → (x5 = 0 ∨ x5 = 1) → (x4 ≠ 0 ↔ lv ev m (10 * b)) → (x5 ≠ 0 ↔ lv ev w (m + 10 * a)) → ((lv ev w (m + 10 * a) ∧ (¬ lv ev m (10 * b) ∨ nr m w q) ∧ d = q + 1) ∨ (¬ (lv ev w (m + 10 * a) ∧ (¬ lv ev m (10 * b) ∨ nr m w q)) ∧ d = q)) → X3_takeDigit_w153 G k x4 x5 d 14 n h4 := by
    intro q m d x4 x5 h4 he4 hd t4 z4 h40 h50 hx4 hx5 hdd
    refine X3_takeDigit_b153 C E x4 x5 d 14 n h4 rfl ⟨t4.ok, sp_appQ t4 z4 hL (fun h5 e5 t5 z5 => ?_)⟩
    have P := hp h5 q m d (he4.tr e5) hd hdd t5 z5
    have w166 : (lv ev m (10 * b) ∨ lv ev w (m + 10 * a)) → X3_takeDigit_w166 G k n h5 := fun v => X3_takeDigit_b166 C E n h5 rfl (X3_takeDigit_b171 C E 1 n h5 rfl ⟨Or.inr rfl, P.1 v⟩)
    refine ⟨by rcases h40 with v | v <;> rw [v] <;> exact rgS (by decide) (by decide), fun v => w166 (Or.inl (hx4.mp v)), fun v => ⟨by rcases h50 with v | v <;> rw [v] <;> exact rgS (by decide) (by decide), fun u => X3_takeDigit_b171 C E 0 n h5 rfl ⟨Or.inl rfl, P.2 ?_⟩, fun u => w166 (Or.inr (hx5.mp u))⟩⟩
    rintro (o | o)
    · exact hx4.mpr o v
    · exact hx5.mpr o u
  have w137 : ∀ (q m x4 x5 : Int) (h4 : xH), hE sQ h h4 → dgR r w q m → isQ n h4 L pt → isZ n h4 m w (10 * a) (10 * b) → (x4 = 0 ∨ x4 = 1) → (x5 = 0 ∨ x5 = 1) → (x4 ≠ 0 ↔ lv ev m (10 * b)) → (x5 ≠ 0 ↔ lv ev w (m + 10 * a)) → ¬ (lv ev w (m + 10 * a) ∧ (¬ lv ev m (10 * b) ∨ nr m w q)) → X3_takeDigit_w137 G k 14 q x4 x5 n h4 := by
    intro q m x4 x5 h4 he4 hd t4 z4 h40 h50 hx4 hx5 hdd
    exact X3_takeDigit_b137 C E 14 q x4 x5 n h4 rfl (X3_takeDigit_b138 C E 14 q x4 x5 0 n h4 rfl ⟨rg0, fun _ => w153 q m q x4 x5 h4 he4 hd t4 z4 h40 h50 hx4 hx5 (Or.inr ⟨hdd, rfl⟩), fun v => absurd rfl v⟩)
  have w133 : ∀ (q m x4 x5 : Int) (h4 : xH), hE sQ h h4 → dgR r w q m → isQ n h4 L pt → isZ n h4 m w (10 * a) (10 * b) → (x4 = 0 ∨ x4 = 1) → (x5 = 0 ∨ x5 = 1) → (x4 ≠ 0 ↔ lv ev m (10 * b)) → (x5 ≠ 0 ↔ lv ev w (m + 10 * a)) → lv ev w (m + 10 * a) → (¬ lv ev m (10 * b) ∨ nr m w q) → X3_takeDigit_w133 G k 14 q x4 x5 n h4 := by
    intro q m x4 x5 h4 he4 hd t4 z4 h40 h50 hx4 hx5 hd1 hd2
    exact X3_takeDigit_b133 C E 14 q x4 x5 n h4 rfl (X3_takeDigit_b138 C E 14 q x4 x5 1 n h4 rfl ⟨rgS (by decide) (by decide), fun v => absurd v (by decide), fun _ => w153 q m (q + 1) x4 x5 h4 he4 hd t4 z4 h40 h50 hx4 hx5 (Or.inl ⟨hd1, hd2, rfl⟩)⟩)
  have w106 : ∀ (q m x4 : Int) (h4 : xH), hE sQ h h4 → dgR r w q m → isQ n h4 L pt → isZ n h4 m w (10 * a) (10 * b) → (x4 = 0 ∨ x4 = 1) → (x4 ≠ 0 ↔ lv ev m (10 * b)) → X3_takeDigit_w106 G k 14 ev q x4 n h4 := by
    intro q m x4 h4 he4 hd t4 z4 h40 hx4
    have hm : m < 2 ^ 3994 := by
      have := Int.mul_nonneg hd.1 hw0
      have := hd.2.2.1
      rw [p94]; have := pw_pos 3990; omega
    have hm2 : m + 10 * a < 4294967296 ^ 132 := fit132 (t := 3995) (by rw [show 3995 = 3994 + 1 from rfl, Int.pow_succ]; rw [p94] at hm ⊢; omega) (by decide)
    refine X3_takeDigit_b106 C E 14 ev q x4 n h4 rfl ⟨t4.ok, sp_reaches t4 z4 hev hm2 (fun u h5 e5 t5 z5 => ⟨rgS (by decide) (by decide), fun v => absurd v (by decide), fun _ => ⟨by rcases h40 with v | v <;> rw [v] <;> exact rgS (by decide) (by decide), fun v => w133 q m x4 1 h5 (he4.tr e5) hd t5 z5 h40 (Or.inr rfl) hx4 ⟨fun _ => u, fun _ => by decide⟩ u (Or.inl (fun o => hx4.mpr o v)), fun v => ⟨t5.ok, sp_nearer t5 z5 (by have := pw_mono (show 3994 ≤ 4000 by decide); omega) (fun o h6 e6 t6 z6 => ⟨rgS (by decide) (by decide), fun v => absurd v (by decide), fun _ => w133 q m x4 1 h6 ((he4.tr e5).tr e6) hd t6 z6 h40 (Or.inr rfl) hx4 ⟨fun _ => u, fun _ => by decide⟩ u (Or.inr o)⟩) (fun o h6 e6 t6 z6 => ⟨rg0, fun _ => w137 q m x4 1 h6 ((he4.tr e5).tr e6) hd t6 z6 h40 (Or.inr rfl) hx4 ⟨fun _ => u, fun _ => by decide⟩ ?_, fun v => absurd rfl v⟩)⟩⟩⟩) (fun u h5 e5 t5 z5 => ⟨rg0, fun _ => w137 q m x4 0 h5 (he4.tr e5) hd t5 z5 h40 (Or.inl rfl) hx4 ⟨fun v => absurd rfl v, fun v => absurd v u⟩ (fun v => u v.1), fun v => absurd rfl v⟩)⟩
    rintro ⟨_, o2 | o2⟩
    · exact o2 (hx4.mp v)
    · exact o o2
  have w69 : ∀ (q m : Int) (h4 : xH), hE sQ h h4 → dgR r w q m → isQ n h4 L pt → isZ n h4 m w (10 * a) (10 * b) → X3_takeDigit_w69 G k 14 ev q n h4 := by
    intro q m h4 he4 hd t4 z4
    refine X3_takeDigit_b69 C E 14 ev q n h4 rfl ?_
    rw [t4.f3, t4.f6]
    refine ⟨t4.ok, by decide, t4.ok, by decide, z4.1.1.ok, sp_compare z4.1 z4.2.2.2.1 ⟨rev, fun v => ⟨rg_ord _ _, fun o => w106 q m 0 h4 he4 hd t4 z4 (Or.inl rfl) ⟨fun u => absurd rfl u, fun u => ?_⟩, fun o => w106 q m 1 h4 he4 hd t4 z4 (Or.inr rfl) ⟨fun _ => ?_, fun _ => by decide⟩⟩, fun v => ⟨rg_ord _ _, fun o => w106 q m 0 h4 he4 hd t4 z4 (Or.inl rfl) ⟨fun u => absurd rfl u, fun u => ?_⟩, fun o => w106 q m 1 h4 he4 hd t4 z4 (Or.inr rfl) ⟨fun _ => ?_, fun _ => by decide⟩⟩⟩⟩
    · exfalso; unfold ord at o; unfold lv at u
      split at o
      · omega
      · split at o <;> omega
    · unfold ord at o; unfold lv
      split at o
      · exact Or.inl (by assumption)
      · split at o <;> omega
    · exfalso; unfold ord at o; unfold lv at u
      split at o
      · omega
      · split at o <;> omega
    · unfold ord at o; unfold lv
      split at o
      · exact Or.inl (by assumption)
      · split at o
        · exact Or.inr ⟨v, by assumption⟩
        · omega
  suffices K : ∀ (u i : Nat) (m : Int) (h4 : xH), i + u = 9 → hE sQ h h4 → m = 10 * r - i * w → 0 ≤ m → isQ n h4 L pt → isZ n h4 m w (10 * a) (10 * b) → X3_takeDigit_w32 G k 14 ev i n h4 from K 9 0 (10 * r) h3 rfl he3 (by omega) (by have := z.1.nn.1; omega) t3 z3
  intro u
  induction u with
  | zero =>
    intro i m h4 hi he4 hm m0 t4 z4
    exact X3_takeDigit_b32 C E 14 ev i n h4 rfl ⟨⟨rg_nat (by omega), rgS (by decide) (by decide)⟩, fun _ => w69 i m h4 he4 ⟨by omega, by omega, hm, m0, Or.inl (by omega)⟩ t4 z4, fun g => by omega⟩
  | succ u ih =>
    intro i m h4 hi he4 hm m0 t4 z4
    refine X3_takeDigit_b32 C E 14 ev i n h4 rfl ⟨⟨rg_nat (by omega), rgS (by decide) (by decide)⟩, fun g => by omega, fun _ => ?_⟩
    rw [t4.f3, t4.f4]
    refine ⟨t4.ok, by decide, t4.ok, by decide, z4.1.1.ok, sp_compare z4.1 z4.2.1 ⟨rg_ord _ _, fun o => w69 i m h4 he4 ⟨by omega, by omega, hm, m0, Or.inr ?_⟩ t4 z4, fun o => ?_⟩⟩
    · unfold ord at o
      split at o
      · assumption
      · split at o <;> omega
    · rw [t4.f3, t4.f4]
      have hle : w ≤ m := by
        unfold ord at o
        split at o
        · omega
        · omega
      refine ⟨t4.ok, by decide, t4.ok, by decide, z4.1.1.ok, sp_subtract z4.1 z4.2.1 (by decide) hle (fun h5 e5 q5 => ?_)⟩
      refine ih (i + 1) (m - w) h5 (by omega) (he4.tr (sq16 e5)) ?_ q5.nn.1 (t4.mv e5 (by decide) (by decide)) (z4.n16 e5 q5)
      rw [hm, Int.natCast_add, Int.add_mul]
      omega
