/-! THE NUMERAL: decimals, numbers, the whole text -/
/-- a decimal's rest at p, behind w digits of the value v: its form, the place behind, the power of ten, its digits' value -/
def decR (T : List Int) (p w : Nat) (v fm : Int) (p' : Nat) (tn v' : Int) : Prop := ∃ r2 p2 : Nat, ((cd T (p : Int) = 46 ∧ isR T 10 (p + 1) r2 ∧ p2 = p + 1 + r2 ∧ v' = dvl T 10 (p + 1) v r2) ∨ (cd T (p : Int) ≠ 46 ∧ r2 = 0 ∧ p2 = p ∧ v' = v)) ∧ ((w + r2 = 0 ∧ fm = 0 ∧ p' = p2) ∨ (w + r2 ≠ 0 ∧ ¬ em (cd T (p2 : Int)) ∧ fm = 2 ∧ p' = p2 ∧ tn = -(r2 : Int)) ∨ (w + r2 ≠ 0 ∧ em (cd T (p2 : Int)) ∧ ∃ r, isX T p2 r ∧ p' = p2 + 1 + sgn T p2 + r ∧ fm = (if 0 < r then 2 else 0) ∧ tn = -(r2 : Int) + xv T p2 r))
theorem sp_decimal {G : xG} {l : Launch} {n : Nat} {h : xH} {T : List Int} {a p w : Nat} {c d e t s v : Int} {Po : Int → xH → Prop} (q : isU n h T (uf p 10 c d e t s)) (qa : isN n h a v) (ha : 4 ≤ a) (hpb : p ≤ 500) (hw : w ≤ 400) (hv : v < 16 ^ p) (hs : sgOK v s) (hp : ∀ h' fm p' tn v' s', hE (fun i => i = 1 ∨ sN a i) h h' → decR T p w v fm p' tn v' → isU n h' T (uf (p' : Nat) 10 c d e tn s') → isN n h' a v' → sgOK v' s' → p' ≤ 1000 → (fm = 0 ∨ fm = 2) → Po fm h') : S_X2_takeDecimal G l 1 a w n h Po := by
  refine S_X2_takeDecimal_of (fun k hl C E => X2_takeDecimal_b0 C E 1 a w n h rfl ⟨q.ok, sp_cur q (rg_nat (by omega)) ?_⟩)
  have ln := q.ln
  have w63 : ∀ z h', Po z h' → X2_takeDecimal_w63 G k z n h' := fun z h' y => X2_takeDecimal_b63 C E z n h' rfl y
  have w58 : ∀ h', Po 2 h' → X2_takeDecimal_w58 G k n h' := fun h' y => X2_takeDecimal_b58 C E n h' rfl (w63 2 h' y)
  have w27 : ∀ (r2 p2 : Nat) (v' s' : Int) (h1 : xH), hE (fun i => i = 1 ∨ sN a i) h h1 → isU n h1 T (uf (p2 : Nat) 10 c d e t s') → isN n h1 a v' → sgOK v' s' → r2 ≤ 400 → p2 ≤ 950 → ((cd T (p : Int) = 46 ∧ isR T 10 (p + 1) r2 ∧ p2 = p + 1 + r2 ∧ v' = dvl T 10 (p + 1) v r2) ∨ (cd T (p : Int) ≠ 46 ∧ r2 = 0 ∧ p2 = p ∧ v' = v)) → X2_takeDecimal_w27 G k 1 w r2 n h1 := by
    intro r2 p2 v' s' h1 he t1 q1 hs1 hr2 hp2 hc
    refine X2_takeDecimal_b27 C E 1 w r2 n h1 rfl ⟨rgS (by omega) (by omega), fun z => ⟨t1.ok, fun h2 e2 => ?_⟩, fun z => ?_⟩
    · have t2 := t1.s6 e2
      have he2 := he.tr (hE.put' (S := fun i => i = 1 ∨ sN a i) e2 (Or.inl rfl))
      have q2 : isN n h2 a v' := q1.mv (hE.put' (S := fun i => i = 1) e2 rfl) (by omega) (by omega)
      have hcr := t2.cr (p2 : Int)
      refine ⟨t2.ok, sp_cur t2 (rg_nat (by omega)) (sp_mark hcr (fun m => ⟨rgS (by decide) (by decide), fun y => absurd y (by decide), fun _ => ⟨t2.ok, sp_expo t2 (by omega) (fun h3 r e3 hx t3 => ?_)⟩⟩) (fun m => ⟨rg0, fun _ => w58 h2 (hp h2 2 p2 _ v' s' he2 ⟨r2, p2, hc, Or.inr (Or.inl ⟨by omega, m, rfl, rfl, rfl⟩)⟩ t2 q2 hs1 (by omega) (Or.inr rfl)), fun y => absurd rfl y⟩))⟩
      have he3 := he2.tr (e3.mono (fun i hi => Or.inl hi))
      have q3 : isN n h3 a v' := q2.mv e3 (show ¬ a = 1 by omega) (show ¬ a + 1 = 1 by omega)
      have hsg : sgn T p2 ≤ 1 := by unfold sgn; split <;> omega
      have hx4 := hx.1
      by_cases g : 0 < r
      · rw [if_pos g]
        exact ⟨rgS (by decide) (by decide), fun y => absurd y (by decide), fun _ => w58 h3 (hp h3 2 _ _ v' s' he3 ⟨r2, p2, hc, Or.inr (Or.inr ⟨by omega, m, r, hx, rfl, by rw [if_pos g], rfl⟩)⟩ t3 q3 hs1 (by omega) (Or.inr rfl))⟩
      · rw [if_neg g]
        exact ⟨rg0, fun _ => w63 0 h3 (hp h3 0 _ _ v' s' he3 ⟨r2, p2, hc, Or.inr (Or.inr ⟨by omega, m, r, hx, rfl, by rw [if_neg g], rfl⟩)⟩ t3 q3 hs1 (by omega) (Or.inl rfl)), fun y => absurd rfl y⟩
    · exact hp h1 0 p2 t v' s' he ⟨r2, p2, hc, Or.inl ⟨by omega, rfl, rfl⟩⟩ t1 q1 hs1 (by omega) (Or.inl rfl)
  refine ⟨⟨q.cr _, rgS (by decide) (by decide)⟩, fun z => w27 0 p v s h hE.rf q qa hs (by omega) (by omega) (Or.inr ⟨z, rfl, rfl, rfl⟩), fun z => ⟨q.ok, q.ok, fun h1 e1 => ?_⟩⟩
  rw [q.g1] at e1
  have t1 : isU n h1 T (uf ((p + 1 : Nat) : Int) 10 c d e t s) := q.s1 e1
  have q1 : isN n h1 a v := qa.mv (hE.put' (S := fun i => i = 1) e1 rfl) (by omega) (by omega)
  have hv1 : v < 16 ^ (p + 1) := by rw [Int.pow_succ]; have := qa.nn.1; omega
  refine ⟨t1.ok, sp_takeDigits t1 q1 ha rfl (show (2 : Int) ≤ 10 by decide) (show (10 : Int) ≤ 16 by decide) hv1 (by omega) (fun h2 r s' e2 t2 q2 hr hr4 hrl hvb hsg => ?_)⟩
  exact w27 r (p + 1 + r) _ s' h2 ((hE.put' e1 (Or.inl rfl)).tr e2) t2.to q2 (hsg rfl hs) hr4 (by omega) (Or.inl ⟨z, hr, rfl, rfl⟩)
/-- a number's text at p: its form, the place behind, the power of ten, the values of its digits -/
def numR (T : List Int) (b : Int) (p : Nat) (fm : Int) (p' : Nat) (tn v w : Int) : Prop := ∃ r : Nat, isR T b p r ∧ ((0 < r ∧ cd T ((p + r : Nat) : Int) = 47 ∧ v = dvl T b p 0 r ∧ ∃ r2 : Nat, isR T b (p + r + 1) r2 ∧ w = dvl T b (p + r + 1) 0 r2 ∧ p' = p + r + 1 + r2 ∧ fm = (if w = 0 then 0 else 1)) ∨ (¬ (0 < r ∧ cd T ((p + r : Nat) : Int) = 47) ∧ w = 1 ∧ ((b = 10 ∧ (cd T ((p + r : Nat) : Int) = 46 ∨ em (cd T ((p + r : Nat) : Int))) ∧ decR T (p + r) r (dvl T b p 0 r) fm p' tn v) ∨ (¬ (b = 10 ∧ (cd T ((p + r : Nat) : Int) = 46 ∨ em (cd T ((p + r : Nat) : Int)))) ∧ p' = p + r ∧ v = dvl T b p 0 r ∧ fm = (if 0 < r then 1 else 0)))))
theorem sp_takeNumber {G : xG} {l : Launch} {n : Nat} {h : xH} {T : List Int} {x y p : Nat} {b c d e t : Int} {Po : Int → xH → Prop} (q : isU n h T (uf p b c d e t 0)) (qx : isN n h x 0) (qy : isN n h y 1) (hx : 4 ≤ x) (hy : 4 ≤ y) (hd : x + 1 < y ∨ y + 1 < x) (hpb : p ≤ 20) (hb0 : 2 ≤ b) (hb1 : b ≤ 16) (hp : ∀ h' fm p' tn v w s', hE (fun i => i = 1 ∨ sN x i ∨ sN y i) h h' → numR T b p fm p' tn v w → isU n h' T (uf (p' : Nat) b c d e tn s') → isN n h' x v → isN n h' y w → (fm = 2 → sgOK v s') → p' ≤ 1000 → (fm = 0 ∨ fm = 1 ∨ fm = 2) → Po fm h') : S_X2_takeNumber G l 1 x y n h Po := by
  refine S_X2_takeNumber_of (fun k hl C E => X2_takeNumber_b0 C E 1 x y n h rfl ⟨q.ok, ?_⟩)
  have ln := q.ln
  have hz : ∀ p : Nat, (0 : Int) < 16 ^ p := fun p => Int.pow_pos (by decide)
  refine sp_takeDigits q qx hx rfl hb0 hb1 (hz p) (by omega) (fun h1 r s1 e1 t1 q1 hr hr4 hrl hvb hsg => ?_)
  have t1 : isU n h1 T (uf ((p + r : Nat) : Int) b c d e t s1) := t1.to
  have q1 : isN n h1 x (dvl T b p 0 r) := q1
  have hr : isR T b p r := hr
  have hvb : dvl T b p 0 r < 16 ^ (p + r) := hvb
  have hsg : b = 10 → sgOK (dvl T b p 0 r) s1 := fun z => hsg z ⟨fun _ => rfl, fun z => absurd z (by decide)⟩
  have he1 : hE (fun i => i = 1 ∨ sN x i ∨ sN y i) h h1 := e1.mono (fun i hi => by rcases hi with z | z; exact Or.inl z; exact Or.inr (Or.inl z))
  have qy1 : isN n h1 y 1 := qy.mv e1 (by rintro (z | z | z) <;> omega) (by rintro (z | z | z) <;> omega)
  have hpr : p + r ≤ 420 := by omega
  have hcr := t1.cr ((p + r : Nat) : Int)
  have w97 : ∀ z h', Po z h' → X2_takeNumber_w97 G k z n h' := fun z h' w => X2_takeNumber_b97 C E z n h' rfl w
  have w88 : ¬ (0 < r ∧ cd T ((p + r : Nat) : Int) = 47) → ¬ (b = 10 ∧ (cd T ((p + r : Nat) : Int) = 46 ∨ em (cd T ((p + r : Nat) : Int)))) → X2_takeNumber_w88 G k r n h1 := by
    intro n1 n2
    refine X2_takeNumber_b88 C E r n h1 rfl ⟨rg_nat (by omega), fun z => w97 0 h1 ?_, fun z => w97 1 h1 ?_⟩
    · exact hp h1 0 (p + r) t _ 1 s1 he1 ⟨r, hr, Or.inr ⟨n1, rfl, Or.inr ⟨n2, rfl, rfl, by rw [if_neg (by omega)]⟩⟩⟩ t1 q1 qy1 (fun z => absurd z (by decide)) (by omega) (Or.inl rfl)
    · exact hp h1 1 (p + r) t _ 1 s1 he1 ⟨r, hr, Or.inr ⟨n1, rfl, Or.inr ⟨n2, rfl, rfl, by rw [if_pos (by omega)]⟩⟩⟩ t1 q1 qy1 (fun z => absurd z (by decide)) (by omega) (Or.inr (Or.inl rfl))
  have w81 : ¬ (0 < r ∧ cd T ((p + r : Nat) : Int) = 47) → b = 10 → (cd T ((p + r : Nat) : Int) = 46 ∨ em (cd T ((p + r : Nat) : Int))) → X2_takeNumber_w81 G k 1 x r n h1 := by
    intro n1 hb hc
    subst hb
    refine X2_takeNumber_b81 C E 1 x r n h1 rfl ⟨t1.ok, sp_decimal t1 q1 hx (by omega) hr4 hvb (hsg rfl) (fun h2 fm p' tn v' s' e2 hdec t2 q2 hs2 hp2 hf => ?_)⟩
    refine hp h2 fm p' tn v' 1 s' (he1.tr (e2.mono (fun i hi => by rcases hi with z | z; exact Or.inl z; exact Or.inr (Or.inl z)))) ⟨r, hr, Or.inr ⟨n1, rfl, Or.inl ⟨rfl, hc, hdec⟩⟩⟩ t2 q2 (qy1.mv e2 (by rintro (z | z | z) <;> omega) (by rintro (z | z | z) <;> omega)) (fun _ => hs2) hp2 ?_
    rcases hf with z | z
    · exact Or.inl z
    · exact Or.inr (Or.inr z)
  have w53 : ¬ (0 < r ∧ cd T ((p + r : Nat) : Int) = 47) → X2_takeNumber_w53 G k 1 x r n h1 := by
    intro n1
    refine X2_takeNumber_b53 C E 1 x r n h1 rfl ⟨t1.ok, ⟨by rw [t1.g2]; exact rgS (by omega) (by omega), rgS (by decide) (by decide)⟩, fun z => w88 n1 ?_, fun z => ⟨t1.ok, sp_cur t1 (rg_nat (by omega)) ⟨⟨hcr, rgS (by decide) (by decide)⟩, fun z2 => w81 n1 ?_ (Or.inl z2), fun z2 => ⟨t1.ok, sp_cur t1 (rg_nat (by omega)) (sp_mark hcr (fun m => ⟨rgS (by decide) (by decide), fun y => absurd y (by decide), fun _ => w81 n1 ?_ (Or.inr m)⟩) (fun m => ⟨rg0, fun _ => w88 n1 ?_, fun y => absurd rfl y⟩))⟩⟩⟩⟩
    · rw [t1.g2] at z; exact fun w => z w.1
    · rw [t1.g2] at z; exact z
    · rw [t1.g2] at z; exact z
    · rintro ⟨_, w | w⟩
      · exact z2 w
      · exact m w
  refine ⟨rg_nat (by omega), fun z => w53 (fun w => by omega), fun z => ⟨t1.ok, sp_cur t1 (rg_nat (by omega)) ⟨⟨hcr, rgS (by decide) (by decide)⟩, fun z2 => w53 (fun w => z2 w.2), fun z2 => ⟨t1.ok, t1.ok, fun h2 e2 => ?_⟩⟩⟩⟩
  rw [t1.g1] at e2
  have t2 : isU n h2 T (uf ((p + r + 1 : Nat) : Int) b c d e t s1) := t1.s1 e2
  have f2 : hE (fun i => i = 1) h1 h2 := hE.put' e2 rfl
  have qx2 : isN n h2 x (dvl T b p 0 r) := q1.mv f2 (by omega) (by omega)
  have qy2 : isN n h2 y 1 := qy1.mv f2 (by omega) (by omega)
  refine ⟨qy2.1.ok, sp_set qy2.1 (fun h3 e3 q3 => ?_)⟩
  have t3 := t2.mv e3 (by rintro (z | z) <;> omega) (by rintro (z | z) <;> omega) (by rintro (z | z) <;> omega)
  have qx3 : isN n h3 x (dvl T b p 0 r) := qx2.mv e3 (by rintro (z | z) <;> omega) (by rintro (z | z) <;> omega)
  have q3 : isN n h3 y 0 := q3
  refine ⟨t3.ok, sp_takeDigits t3 q3 hy rfl hb0 hb1 (hz _) (by omega) (fun h4 r2 s4 e4 t4 q4 hrr hr24 _ hvb4 hsg4 => ?_)⟩
  have qx4 : isN n h4 x (dvl T b p 0 r) := qx3.mv e4 (by rintro (z | z | z) <;> omega) (by rintro (z | z | z) <;> omega)
  have t4 : isU n h4 T (uf ((p + r + 1 + r2 : Nat) : Int) b c d e t s4) := t4.to
  have q4 : isN n h4 y (dvl T b (p + r + 1) 0 r2) := q4
  have he4 : hE (fun i => i = 1 ∨ sN x i ∨ sN y i) h h4 := ((he1.tr (f2.mono (fun i hi => Or.inl hi))).tr (e3.mono (fun i hi => Or.inr (Or.inr hi)))).tr (e4.mono (fun i hi => by rcases hi with z | z; exact Or.inl z; exact Or.inr (Or.inr z)))
  refine ⟨q4.1.ok, sp_isZero q4 ?_⟩
  by_cases g : dvl T b (p + r + 1) 0 r2 = 0
  · rw [if_pos g]
    exact ⟨rgS (by decide) (by decide), fun w => absurd w (by decide), fun _ => X2_takeNumber_b52 C E 0 n h4 rfl (hp h4 0 _ t _ _ s4 he4 ⟨r, hr, Or.inl ⟨by omega, z2, rfl, r2, hrr, rfl, rfl, by rw [if_pos g]⟩⟩ t4 qx4 q4 (fun z => absurd z (by decide)) (by omega) (Or.inl rfl))⟩
  · rw [if_neg g]
    exact ⟨rg0, fun _ => X2_takeNumber_b52 C E 1 n h4 rfl (hp h4 1 _ t _ _ s4 he4 ⟨r, hr, Or.inl ⟨by omega, z2, rfl, r2, hrr, rfl, rfl, by rw [if_neg g]⟩⟩ t4 qx4 q4 (fun z => absurd z (by decide)) (by omega) (Or.inr (Or.inl rfl))), fun w => absurd rfl w⟩
