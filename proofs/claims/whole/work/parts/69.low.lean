/-! THE NUMBER: lowest terms, powers of ten -/
/-- the two in lowest terms -/
def lowR (v w v' w' : Int) : Prop := ∃ V W d : Nat, v' = (V : Int) ∧ w' = (W : Int) ∧ v = ((V * d : Nat) : Int) ∧ w = ((W * d : Nat) : Int) ∧ Nat.gcd V W = 1 ∧ 0 < W
theorem low_of {a b c A B g : Nat} (hA : A % 2 = 1) (hB : B % 2 = 1) (hc : c = min a b) (hg : g = Nat.gcd A B) : ∃ A' B' : Nat, A = A' * g ∧ B = B' * g ∧ g % 2 = 1 ∧ Nat.gcd (2 ^ (a - c) * A') (2 ^ (b - c) * B') = 1 ∧ 0 < B' := by
  obtain ⟨A', hA'⟩ := Nat.gcd_dvd_left A B
  obtain ⟨B', hB'⟩ := Nat.gcd_dvd_right A B
  rw [← hg] at hA' hB'
  have gp : 0 < g := by
    rcases Nat.eq_zero_or_pos g with z | z
    · rw [z] at hA'; omega
    · exact z
  have hg2 : g % 2 = 1 := by
    rcases Nat.mod_two_eq_zero_or_one g with z | z
    · have : A % 2 = 0 := by rw [hA', Nat.mul_mod, z]; simp
      omega
    · exact z
  have hA2 : A' % 2 = 1 := by
    rcases Nat.mod_two_eq_zero_or_one A' with z | z
    · have : A % 2 = 0 := by rw [hA', Nat.mul_mod, z]; simp
      omega
    · exact z
  have hB2 : B' % 2 = 1 := by
    rcases Nat.mod_two_eq_zero_or_one B' with z | z
    · have : B % 2 = 0 := by rw [hB', Nat.mul_mod, z]; simp
      omega
    · exact z
  have hcop : Nat.gcd A' B' = 1 := by
    have h1 : g * Nat.gcd A' B' = g * 1 := by rw [← Nat.gcd_mul_left, ← hA', ← hB', ← hg, Nat.mul_one]
    exact Nat.eq_of_mul_eq_mul_left gp h1
  refine ⟨A', B', by rw [Nat.mul_comm]; exact hA', by rw [Nat.mul_comm]; exact hB', hg2, ?_, by omega⟩
  rcases Nat.le_total a b with z | z
  · rw [show a - c = 0 by omega, Nat.pow_zero, Nat.one_mul, Nat.gcd_comm, Nat.Coprime.gcd_mul_left_cancel _ (cop2 hA2), Nat.gcd_comm]
    exact hcop
  · rw [show b - c = 0 by omega, Nat.pow_zero, Nat.one_mul, Nat.Coprime.gcd_mul_left_cancel _ (cop2 hB2)]
    exact hcop
abbrev sF : Nat → Prop := fun i => 6 ≤ i ∧ i ≤ 13
theorem sp_lowest {G : xG} {l : Launch} {n : Nat} {h : xH} {kd mn un pl v w s10 s12 : Int} {Po : xH → Prop} (t : isD n h kd mn un pl) (qv : isN n h 6 v) (qw : isN n h 8 w) (q10 : isN n h 10 s10) (q12 : isN n h 12 s12) (hw : 0 < w) (hp : ∀ h' v' w' a b, hE sF h h' → lowR v w v' w' → isN n h' 6 v' → isN n h' 8 w' → isN n h' 10 a → isN n h' 12 b → Po h') : S_X4_bringToLowestTerms G l 0 n h Po := by
  refine S_X4_bringToLowestTerms_of (fun k hl C E => X4_bringToLowestTerms_b0 C E 0 n h rfl ?_)
  obtain ⟨wn, rfl⟩ := ex_nat (show 0 ≤ w by omega)
  have f6 : ∀ {h h' : xH}, hE (sN 6) h h' → hE sF h h' := fun e => e.mono (fun i hi => by rcases hi with z | z <;> omega)
  have f8 : ∀ {h h' : xH}, hE (sN 8) h h' → hE sF h h' := fun e => e.mono (fun i hi => by rcases hi with z | z <;> omega)
  have w20 : (v = 0 ∨ wn = 1) → X4_bringToLowestTerms_w20 G k 0 n h := by
    intro hc
    refine X4_bringToLowestTerms_b20 C E 0 n h rfl ?_
    rw [t.f8]
    refine ⟨t.ok, by decide, qw.1.ok, sp_set qw.1 (fun h1 e1 q1 => ?_)⟩
    have q1 : isN n h1 8 1 := q1
    refine hp h1 v 1 s10 s12 (f8 e1) ?_ (qv.mv e1 (by decide) (by decide)) q1 (q10.mv e1 (by decide) (by decide)) (q12.mv e1 (by decide) (by decide))
    obtain ⟨vn, rfl⟩ := ex_nat qv.nn.1
    rcases hc with z | z
    · have : vn = 0 := by omega
      subst this
      exact ⟨0, 1, wn, rfl, rfl, by rw [Nat.zero_mul], by rw [Nat.one_mul], by decide, by decide⟩
    · subst z
      exact ⟨vn, 1, 1, rfl, rfl, by rw [Nat.mul_one], by rfl, Nat.gcd_one_right _, by decide⟩
  rw [t.f7]
  refine ⟨t.ok, by decide, qv.1.ok, sp_isZero qv ?_⟩
  by_cases gv : v = 0
  · rw [if_pos gv]
    exact ⟨rgS (by decide) (by decide), fun _ => w20 (Or.inl gv), fun y => absurd y (by decide)⟩
  rw [if_neg gv]
  refine ⟨rg0, fun y => absurd rfl y, fun _ => ?_⟩
  rw [t.f8]
  refine ⟨t.ok, by decide, qw.1.ok, sp_isOne qw ?_⟩
  by_cases gw : (wn : Int) = 1
  · rw [if_pos gw]
    exact ⟨rgS (by decide) (by decide), fun y => absurd y (by decide), fun _ => w20 (Or.inr (by omega))⟩
  rw [if_neg gw]
  refine ⟨rg0, fun _ => ?_, fun y => absurd rfl y⟩
  obtain ⟨vn, rfl⟩ := ex_nat qv.nn.1
  obtain ⟨a, x, hx⟩ := ex_odd vn (by omega)
  obtain ⟨b, y, hy⟩ := ex_odd wn (by omega)
  subst hx
  subst hy
  have ta := tzb qv
  have tb := tzb qw
  obtain ⟨c, hc⟩ : ∃ c : Nat, c = min a b := ⟨_, rfl⟩
  obtain ⟨A', B', eA, eB, hg2, hcop, hB'⟩ := low_of (a := a) (b := b) (A := 2 * x + 1) (B := 2 * y + 1) (by omega) (by omega) hc rfl
  rw [t.f7]
  refine ⟨t.ok, by decide, qv.1.ok, sp_tz qv ?_⟩
  rw [t.f8]
  refine ⟨t.ok, by decide, qw.1.ok, sp_tz qw (sp_min (rg_nat (by omega)) (rg_nat (by omega)) ?_)⟩
  rw [t.f7, show min (a : Int) (b : Int) = (c : Int) by omega]
  have sh : ∀ (a x : Nat), c ≤ a → ((2 ^ a * (2 * x + 1) : Nat) : Int) / 2 ^ (c : Int).toNat = ((2 ^ (a - c) * (2 * x + 1) : Nat) : Int) := by
    intro a x hca
    rw [show 2 ^ a * (2 * x + 1) = 2 ^ c * (2 ^ (a - c) * (2 * x + 1)) by rw [← Nat.mul_assoc, ← Nat.pow_add]; congr 2; omega]
    exact shr_mul _ _
  refine ⟨t.ok, by decide, qv.1.ok, sp_shr qv (rg_nat (by omega)) (fun h1 e1 q1 => ?_)⟩
  rw [sh a x (by omega)] at q1
  have t1 := t.mv e1 (by decide)
  have r1 := qw.mv e1 (by decide) (by decide)
  rw [t1.f8]
  refine ⟨t1.ok, by decide, r1.1.ok, sp_shr r1 (rg_nat (by omega)) (fun h2 e2 r2 => ?_)⟩
  rw [sh b y (by omega)] at r2
  have t2 := t1.mv e2 (by decide)
  have q2 := q1.mv e2 (by decide) (by decide)
  have a2 := (q10.mv e1 (by decide) (by decide)).mv e2 (by decide) (by decide)
  have b2 := (q12.mv e1 (by decide) (by decide)).mv e2 (by decide) (by decide)
  have he2 : hE sF h h2 := (f6 e1).tr (f8 e2)
  refine ⟨t2.ok, sp_odd t2 q2 r2 a2 b2 (fun h3 z e3 hz g3 x10 x12 => ?_)⟩
  obtain ⟨s10', x10⟩ := x10
  obtain ⟨s12', x12⟩ := x12
  have t3 := t2.mv e3 (by decide)
  have q3 := q2.mv e3 (by decide) (by decide)
  have r3 := r2.mv e3 (by decide) (by decide)
  have he3 : hE sF h h3 := he2.tr (e3.mono (fun i hi => by omega))
  generalize hgg : Nat.gcd (2 * x + 1) (2 * y + 1) = g at g3 eA eB hg2
  have w91 : ∀ h', Po h' → X4_bringToLowestTerms_w91 G k n h' := fun h' o => X4_bringToLowestTerms_b91 C E n h' rfl o
  have low : lowR ((2 ^ a * (2 * x + 1) : Nat) : Int) ((2 ^ b * (2 * y + 1) : Nat) : Int) ((2 ^ (a - c) * A' : Nat) : Int) ((2 ^ (b - c) * B' : Nat) : Int) := by
    refine ⟨_, _, 2 ^ c * g, rfl, rfl, ?_, ?_, hcop, Nat.mul_pos (Nat.two_pow_pos _) hB'⟩
    · rw [eA, show 2 ^ a = 2 ^ (a - c) * 2 ^ c by rw [← Nat.pow_add]; congr 1; omega]
      congr 1
      generalize 2 ^ (a - c) = u1
      generalize 2 ^ c = u2
      grind
    · rw [eB, show 2 ^ b = 2 ^ (b - c) * 2 ^ c by rw [← Nat.pow_add]; congr 1; omega]
      congr 1
      generalize 2 ^ (b - c) = u1
      generalize 2 ^ c = u2
      grind
  refine ⟨g3.1.ok, sp_isOne g3 ?_⟩
  by_cases go : (g : Int) = 1
  · rw [if_pos go]
    refine ⟨rgS (by decide) (by decide), fun _ => w91 h3 ?_, fun o => absurd o (by decide)⟩
    have g1 : g = 1 := by omega
    rw [g1, Nat.mul_one] at eA eB
    rw [eA] at q3
    rw [eB] at r3
    exact hp h3 _ _ _ _ he3 low q3 r3 x10 x12
  · rw [if_neg go]
    refine ⟨rg0, fun o => absurd rfl o, fun _ => ?_⟩
    rw [t3.f7]
    have q3' : isN n h3 6 ((g : Int) * ((2 ^ (a - c) * A' : Nat) : Int)) := by
      rw [← Int.natCast_mul, show g * (2 ^ (a - c) * A') = 2 ^ (a - c) * (A' * g) by grind, ← eA]; exact q3
    have r3' : isN n h3 8 ((g : Int) * ((2 ^ (b - c) * B' : Nat) : Int)) := by
      rw [← Int.natCast_mul, show g * (2 ^ (b - c) * B') = 2 ^ (b - c) * (B' * g) by grind, ← eB]; exact r3
    refine ⟨t3.ok, by decide, q3.1.ok, sp_divOdd q3' g3 (by show 6 + 1 < z ∨ z + 1 < 6; omega) (by omega) (fun h4 e4 q4 => ?_)⟩
    have t4 := t3.mv e4 (by decide)
    have g4 := g3.mv e4 (by rintro (o | o) <;> omega) (by rintro (o | o) <;> omega)
    have r4 := r3'.mv e4 (by decide) (by decide)
    rw [t4.f8]
    refine ⟨t4.ok, by decide, r4.1.ok, sp_divOdd r4 g4 (by show 8 + 1 < z ∨ z + 1 < 8; omega) (by omega) (fun h5 e5 r5 => w91 h5 ?_)⟩
    exact hp h5 _ _ _ _ ((he3.tr (f6 e4)).tr (f8 e5)) low (q4.mv e5 (by decide) (by decide)) r5 ((x10.mv e4 (by decide) (by decide)).mv e5 (by decide) (by decide)) ((x12.mv e4 (by decide) (by decide)).mv e5 (by decide) (by decide))
