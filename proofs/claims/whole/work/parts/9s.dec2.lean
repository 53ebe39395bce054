/-! THE MODEL: decimals -/
/-- an exact number with its sign, or none -/
def exS (n : Nat) (h : xH) (z mn V W : Int) : Prop := (z = -1 ∧ (4096 < bl V ∨ 4096 < bl W)) ∨ (bl V ≤ 4096 ∧ bl W ≤ 4096 ∧ ∃ zn : Nat, z = (zn : Int) ∧ isEx n h zn (if V = 0 then 0 else if mn = 0 then 1 else -1) V W)
/-- the exponent's digits behind the mark at e -/
def xn (T : List Int) (e : Nat) : Nat := T.length - (e + 1 + sgn T e)
def xq (T : List Int) (e : Nat) : Int := if e = T.length then 0 else xv T e (xn T e)
/-- the decimal is whole -/
def scD (T : List Int) (r r2 e : Nat) : Prop := 0 < r + r2 ∧ (e = T.length ∨ (e < T.length ∧ em (cd T (e : Int)) ∧ e + 1 + sgn T e < T.length ∧ xn T e ≤ 4 ∧ ∀ j, j < xn T e → 0 ≤ dv 10 (cd T ((e + 1 + sgn T e + j : Nat) : Int))))
theorem nr_huge {N D : Int} (hD : 0 < D) (h : D * 2 ^ 1024 ≤ N) : ∃ e m, nrR N D e m ∧ 2 ^ 2098 ≤ m.toNat * 2 ^ (e + 1074).toNat := by
  obtain ⟨e, m0, hn, he⟩ := nr_big hD h
  refine ⟨e, m0, hn, ?_⟩
  obtain ⟨he0, f, r, x1, x2, x3, x4, x5, x6, x7⟩ := hn
  have hm : 4503599627370496 ≤ m0.toNat := by omega
  have h2 : (2 : Nat) ^ 2046 ≤ 2 ^ (e + 1074).toNat := Nat.pow_le_pow_right (by decide) (by omega)
  have h3 : (2 : Nat) ^ 2098 = 4503599627370496 * 2 ^ 2046 := by decide +kernel
  rw [h3]
  exact Nat.mul_le_mul hm h2
theorem nr_tiny {N D : Int} (hN : 0 ≤ N) (hD : 0 < D) (h : 2 * (N * 2 ^ 1074) < D) : nrR N D (-1074) 0 := by
  have hm : (-(-1074 : Int)).toNat = 1074 := by decide
  have hm2 : (-1074 : Int).toNat = 0 := by decide
  have h0 : 0 ≤ N * 2 ^ 1074 := Int.mul_nonneg hN (Int.le_of_lt (pw_pos _))
  refine ⟨by decide, 0, N * 2 ^ 1074, by rw [hm, Int.zero_mul, Int.zero_add], h0, by rw [hm2, Int.pow_zero, Int.mul_one]; omega, by decide, by decide, Or.inr rfl, Or.inr ⟨rfl, ?_⟩⟩
  rw [hm2, Int.pow_zero, Int.mul_one]; omega
theorem sp_finD {G : xG} {l : Launch} {n : Nat} {h : xH} {wl tl z mn : Int} {x : UInt64} {Z : Nat} {Po : Nat → Nat → xH → Prop} (tm : isM n h wl tl z) (hx : isVl x (sgB mn) Z) (hp : ∀ h', hK n h h' → isM (n + 1) h' wl tl z → isRl (n + 1) h' n x 0 → Po n (n + 1) h') : S_X7_of G l x n h Po :=
  sp_of tm.1.1 (fun h' e t => hp h' e (tm.fr (S := fun _ => False) e (by omega) id id) t)
/-- behind the trimming: m * 10^pw -/
theorem dec_eq {v m : Int} {tz : Nat} {tn pw : Int} (hv : v = m * 10 ^ tz) (hpw : pw = tn + tz) : m * 10 ^ pw.toNat * 10 ^ (-tn).toNat = v * 10 ^ tn.toNat * 10 ^ (-pw).toNat := by
  have key : pw.toNat + (-tn).toNat = tz + (tn.toNat + (-pw).toNat) := by omega
  calc m * 10 ^ pw.toNat * 10 ^ (-tn).toNat = m * 10 ^ (pw.toNat + (-tn).toNat) := by rw [Int.pow_add, Int.mul_assoc]
    _ = m * 10 ^ (tz + (tn.toNat + (-pw).toNat)) := by rw [key]
    _ = v * 10 ^ tn.toNat * 10 ^ (-pw).toNat := by rw [hv, Int.pow_add, Int.pow_add, ← Int.mul_assoc, ← Int.mul_assoc]
theorem sp_decimalM {G : xG} {l : Launch} {n : Nat} {h : xH} {T : List Int} {wl tl z ex mn : Int} {p r r2 e : Nat} {pt : Int} {Po : Int → Nat → xH → Prop} (tm : isM n h wl tl z) (tt : isTx h T) (hT : ∀ x, x ∈ T → 0 ≤ x ∧ x ≤ 127) (hS : decS T p r r2 e pt) (heN : e ≤ T.length) (hstop : e = T.length ∨ em (cd T (e : Int)) ∨ (dv 10 (cd T (e : Int)) < 0 ∧ ¬ (cd T (e : Int) = 46 ∧ pt = -1) ∧ ¬ em (cd T (e : Int)))) (hmn : mn = 0 ∨ mn = 1) (hex : rg ex)
    (hn : ¬ scD T r r2 e → Po (-1) n h)
    (hyE : scD T r r2 e → ex = 101 → ∀ h' n' y V W, hF sM n h h' → n ≤ n' → n' ≤ n + 9 → isM n' h' wl tl z → lowR (dvl T 10 (p + r + 1) (dvl T 10 p 0 r) r2 * 10 ^ (xq T e - r2).toNat) (10 ^ (-(xq T e - r2)).toNat) V W → exS n' h' y mn V W → Po y n' h')
    (hyR : scD T r r2 e → ex ≠ 101 → ∀ h' n' (y : Nat) x e1 m1, hF sM n h h' → n ≤ n' → n' ≤ n + 9 → isM n' h' wl tl z → nrR (dvl T 10 (p + r + 1) (dvl T 10 p 0 r) r2 * 10 ^ (xq T e - r2).toNat) (10 ^ (-(xq T e - r2)).toNat) e1 m1 → isRl n' h' y x 0 → isVl x (sgB mn) (m1.toNat * 2 ^ (e1 + 1074).toNat) → Po y n' h') :
    S_X9_decimal G l 26 47 p T.length ex mn n h Po := by
  refine S_X9_decimal_of (fun k hl C E => X9_decimal_b0 (n0 := 0) C E 26 47 p T.length ex mn n h ?_)
  have h47 : 47 < n := tm.1.1
  have h400 := tt.1
  have hval := hS.val
  have rmn : rg mn := by rcases hmn with y | y <;> rw [y] <;> exact rgS (by decide) (by decide)
  have hsgn : sgn T e ≤ 1 := by unfold sgn; split <;> decide
  have hptb : -1 ≤ pt ∧ pt < 500 := by
    rcases hS.2 with y | y <;> omega
  -- the digits' ends are found, the exponent is x
  have w222 : ∀ x : Int, scD T r r2 e → x = xq T e → -9999 ≤ x → x ≤ 9999 → X9_decimal_w222 G k 26 47 p ex mn e pt x n h := by
    sorry
  -- behind the scan
  have w77 : (e = T.length ∨ em (cd T (e : Int))) → X9_decimal_w77 G k 26 47 p T.length ex mn e pt ((r + r2 : Nat) : Int) n h := by
    sorry
  -- the scan
  have scan : ∀ (u i c : Nat) (pt' : Int), i + u = e → p ≤ i → (pt' = pt ∨ (pt' = -1 ∧ (i : Int) ≤ pt)) → (pt' = pt → (pt = -1 ∨ pt < i)) → ((c + u : Nat) : Int) = ((r + r2 : Nat) : Int) + (if pt' = pt then 0 else 1) → X9_decimal_w9 G k 26 47 p T.length ex mn i pt' c n h := by
    intro u
    induction u with
    | zero =>
      intro i c pt' hi hpi hpt hpt2 hc
      have hie : i = e := by omega
      subst hie
      have hpe : pt' = pt := by
        rcases hpt with y | y
        · exact y
        · have : pt < (i : Int) := by rcases hS.2 with z | z <;> omega
          omega
      rw [if_pos hpe] at hc
      rw [hpe, show (c : Int) = ((r + r2 : Nat) : Int) by omega]
      refine X9_decimal_b9 (n0 := 0) C E 26 47 p T.length ex mn i pt _ n h ⟨⟨rg_nat (by omega), rg_nat (by omega)⟩, fun g => w77 (Or.inl (by omega)), fun g => ?_⟩
      obtain ⟨ok, hcc⟩ := tt.at tm (i := i) (by omega)
      have hcr := cd_rg hT (i : Int)
      have rc : rg (cd T (i : Int)) := rgS (by omega) (by omega)
      rw [hcc]
      refine ⟨ok, ⟨rc, rgS (by decide) (by decide)⟩, fun g2 => w77 (Or.inr (Or.inl g2)), fun g2 => ⟨ok, ⟨rc, rgS (by decide) (by decide)⟩, fun g3 => w77 (Or.inr (Or.inr g3)), fun g3 => ?_⟩⟩
      have hbad : dv 10 (cd T (i : Int)) < 0 ∧ ¬ (cd T (i : Int) = 46 ∧ pt = -1) ∧ ¬ em (cd T (i : Int)) := by
        rcases hstop with y | y | y
        · omega
        · rcases y with y | y
          · exact absurd y g2
          · exact absurd y g3
        · exact y
      have hnull : Po (-1) n h := hn (fun y => by
        rcases y.2 with y | y
        · omega
        · exact hbad.2.2 y.2.1)
      have w54 : X9_decimal_w54 G k 26 47 p T.length ex mn i pt ((r + r2 : Nat) : Int) n h := by
        refine X9_decimal_b54 (n0 := 0) C E 26 47 p T.length ex mn i pt _ n h ⟨ok, ?_⟩
        rw [hcc]
        have hdb := dv_bd 10 (cd T (i : Int))
        exact sp_digitOf rc (by decide) (by decide) ⟨rgS (by omega) (by omega), fun y => by omega, fun _ => hnull⟩
      refine ⟨ok, ⟨rc, rgS (by decide) (by decide)⟩, fun _ => w54, fun g4 => ⟨rgS (by omega) (by omega), fun _ => w54, fun g5 => ?_⟩⟩
      exact absurd ⟨g4, by omega⟩ hbad.2.1
    | succ u ih =>
      intro i c pt' hi hpi hpt hpt2 hc
      obtain ⟨ok, hcc⟩ := tt.at tm (i := i) (by omega)
      have hcr := cd_rg hT (i : Int)
      have rc : rg (cd T (i : Int)) := rgS (by omega) (by omega)
      obtain ⟨hp1, hp2⟩ := hS.pt (j := i) hpi (by omega)
      have hne : cd T (i : Int) ≠ 101 ∧ cd T (i : Int) ≠ 69 := by
        rcases hp2 with y | y
        · rw [y]; decide
        · constructor
          · intro z; rw [z] at y; exact absurd y (by decide)
          · intro z; rw [z] at y; exact absurd y (by decide)
      refine X9_decimal_b9 (n0 := 0) C E 26 47 p T.length ex mn i pt' _ n h ⟨⟨rg_nat (by omega), rg_nat (by omega)⟩, fun g => by omega, fun g => ?_⟩
      rw [hcc]
      have rpt : rg pt' := by rcases hpt with y | y <;> rw [show pt' = _ from by first | exact y | exact y.1] <;> exact rgS (by omega) (by omega)
      have w54 : cd T (i : Int) ≠ 46 → X9_decimal_w54 G k 26 47 p T.length ex mn i pt' c n h := by
        intro h46
        have hd0 : 0 ≤ dv 10 (cd T (i : Int)) := by
          rcases hp2 with y | y
          · exact absurd y h46
          · exact y
        have hpne : pt ≠ (i : Int) := fun y => h46 (hp1.mpr y)
        refine X9_decimal_b54 (n0 := 0) C E 26 47 p T.length ex mn i pt' _ n h ⟨ok, ?_⟩
        rw [hcc]
        have hdb := dv_bd 10 (cd T (i : Int))
        refine sp_digitOf rc (by decide) (by decide) ⟨rgS (by omega) (by omega), fun _ => X9_decimal_b71 (n0 := 0) C E 26 47 p T.length ex mn i pt' _ n h ?_, fun y => absurd hd0 y⟩
        rw [show (i : Int) + 1 = ((i + 1 : Nat) : Int) by omega, show (c : Int) + 1 = ((c + 1 : Nat) : Int) by omega]
        exact ih (i + 1) (c + 1) pt' (by omega) (by omega) (by omega) (by omega) (by omega)
      refine ⟨ok, ⟨rc, rgS (by decide) (by decide)⟩, fun y => absurd y hne.1, fun _ => ⟨ok, ⟨rc, rgS (by decide) (by decide)⟩, fun y => absurd y hne.2, fun _ => ⟨ok, ⟨rc, rgS (by decide) (by decide)⟩, fun y => w54 y, fun y => ⟨rpt, fun y2 => ?_, fun y2 => X9_decimal_b71 (n0 := 0) C E 26 47 p T.length ex mn i (i : Int) c n h ?_⟩⟩⟩⟩
      · exfalso
        have hpi2 := hp1.mp y
        rcases hpt with y3 | y3
        · have := hpt2 y3; omega
        · omega
      · have hpi2 := hp1.mp y
        have hne2 : pt' ≠ pt := by
          intro y3
          have := hpt2 y3
          omega
        rw [if_neg hne2] at hc
        rw [show (i : Int) + 1 = ((i + 1 : Nat) : Int) by omega, ← hpi2]
        exact ih (i + 1) c pt (by omega) (by omega) (Or.inl rfl) (fun _ => by omega) (by rw [if_pos rfl]; omega)
  have := scan (e - p) p 0 (-1) (by omega) (Nat.le_refl _) (by rcases hS.2 with y | y <;> omega) (by intro y; exact Or.inl y.symm) (by
    rcases hS.2 with y | y
    · rw [if_pos y.1.symm]; omega
    · rw [if_neg (by omega)]; omega)
  exact this
