/-! LINES: turning round, room -/
theorem getD_rev {P Q : List Int} {j : Nat} (h0 : P.length ≤ j) (h1 : j < P.length + Q.length) : (P ++ Q.reverse).getD j 0 = (P ++ Q).getD (P.length + (P.length + Q.length) - 1 - j) 0 := by
  rw [List.getD_eq_getElem?_getD, List.getD_eq_getElem?_getD, List.getElem?_append, if_neg (by omega), List.getElem?_append, if_neg (by omega), List.getElem?_reverse (by omega)]
  congr 2
  omega
theorem getD_left {P Q : List Int} {j : Nat} (h0 : j < P.length) : (P ++ Q).getD j 0 = P.getD j 0 := by
  rw [List.getD_eq_getElem?_getD, List.getD_eq_getElem?_getD, List.getElem?_append, if_pos h0]
theorem sp_reverse {G : xG} {l : Launch} {n : Nat} {h : xH} {a c m : Nat} {P Q : List Int} {Po : xH → Prop} (t : isL n h a c m (P ++ Q)) (hp : ∀ h', hE (sL a c) h h' → isL n h' a c m (P ++ Q.reverse) → Po h') : S_X0_reverseFrom G l a P.length n h Po := by
  refine S_X0_reverseFrom_of (fun k hl C E => X0_reverseFrom_b0 C E a P.length n h rfl ?_)
  have ln := t.ln
  have hlen : (P ++ Q).length = P.length + Q.length := List.length_append
  refine sp_max (rg_nat (by omega)) rg0 ⟨t.ok, ?_⟩
  rw [t.sz, show max (P.length : Int) 0 = (P.length : Int) by omega]
  have hac := t.1.2.2
  have ty : ∀ {h1 : xH}, hE (fun i => i = c) h h1 → okO n h1 a 0 ∧ 0 ≤ hG h1 a 0 ∧ (hG h1 a 0).toNat = c ∧ (∀ i : Int, 0 ≤ i → i < m → okA n h1 c 101 i) := by
    intro h1 e
    have ea := (e a).2.2 hac
    refine ⟨⟨t.1.1, by rw [(e a).1]; exact t.2.1.1⟩, by unfold hG; rw [ea]; exact t.w0, by unfold hG; rw [ea]; exact t.w, fun i i0 i1 => ⟨t.1.2.1, by rw [(e c).1]; exact t.2.2.1.1, i0, by rw [(e c).2.1, t.2.2.1.2.1]; exact i1, by omega⟩⟩
  have fin : ∀ (lo : Nat) (hi : Int) (h1 : xH), hi ≤ lo → P.length ≤ lo → (lo : Int) + hi = P.length + (P.length + Q.length) - 1 → (lo : Int) ≤ hi + 2 → hE (fun i => i = c) h h1 → (∀ j : Nat, (j : Int) < P.length + Q.length → (h1 c).2.2 j = if P.length ≤ j ∧ (j < lo ∨ hi < j) then (P ++ Q).getD (P.length + (P.length + Q.length) - 1 - j) 0 else (P ++ Q).getD j 0) → X0_reverseFrom_w13 G k a lo hi n h1 := by
    intro lo hi h1 hu hlo hsum hle he hf
    refine X0_reverseFrom_b13 C E a lo hi n h1 rfl ⟨⟨rg_nat (by omega), ⟨by omega, by omega⟩⟩, fun _ => hp h1 (he.mono (fun i e => Or.inr e)) ?_, fun g => by omega⟩
    obtain ⟨t1, ⟨t2, t3, t4⟩, ⟨t5, t6, t7⟩, t8, t9⟩ := t
    have ea := (he a).2.2 hac
    refine ⟨t1, ⟨by rw [(he a).1]; exact t2, by rw [ea]; exact t3, by rw [ea, t4, List.length_append, List.length_append, List.length_reverse]⟩, ⟨by rw [(he c).1]; exact t5, by rw [(he c).2.1]; exact t6, by rw [List.length_append, List.length_reverse]; omega, t7.2⟩, fun i hi2 => ?_, fun x hx => t9 x ?_⟩
    · rw [List.length_append, List.length_reverse] at hi2
      rw [hf i (by omega)]
      by_cases g : P.length ≤ i
      · rw [getD_rev g hi2]
        by_cases g2 : i < lo ∨ hi < i
        · rw [if_pos ⟨g, g2⟩]
        · rw [if_neg (fun z => g2 z.2)]
          congr 1
          omega
      · rw [if_neg (fun z => g z.1), getD_left (by omega), getD_left (by omega)]
    · rw [List.mem_append] at hx ⊢
      rw [List.mem_reverse] at hx
      exact hx
  suffices K : ∀ (u lo : Nat) (hi : Int) (h1 : xH), hi + 1 - lo ≤ u → P.length ≤ lo → (lo : Int) + hi = P.length + (P.length + Q.length) - 1 → (lo : Int) ≤ hi + 2 → hE (fun i => i = c) h h1 → (∀ j : Nat, (j : Int) < P.length + Q.length → (h1 c).2.2 j = if P.length ≤ j ∧ (j < lo ∨ hi < j) then (P ++ Q).getD (P.length + (P.length + Q.length) - 1 - j) 0 else (P ++ Q).getD j 0) → X0_reverseFrom_w13 G k a lo hi n h1 by
    refine K (P.length + Q.length) P.length _ h (by omega) (Nat.le_refl _) (by rw [hlen]; omega) (by rw [hlen]; omega) hE.rf (fun j hj => ?_)
    rw [if_neg (by rw [hlen]; omega)]
    exact t.2.2.2.1 j (by omega)
  intro u
  induction u with
  | zero =>
    intro lo hi h1 hu hlo hsum hle he hf
    exact fin lo hi h1 (by omega) hlo hsum hle he hf
  | succ u ih =>
    intro lo hi h1 hu hlo hsum hle he hf
    by_cases g : hi ≤ lo
    · exact fin lo hi h1 g hlo hsum hle he hf
    · obtain ⟨hh, rfl⟩ := ex_nat (show 0 ≤ hi by omega)
      have y1 := ty he
      have b1 := t.by (i := hh) (by omega)
      have b2 := t.by (i := lo) (by omega)
      have f1 : hG h1 c hh = (P ++ Q).getD hh 0 := by show (h1 c).2.2 hh = _; rw [hf hh (by omega), if_neg (by omega)]
      have f2 : hG h1 c lo = (P ++ Q).getD lo 0 := by show (h1 c).2.2 lo = _; rw [hf lo (by omega), if_neg (by omega)]
      refine X0_reverseFrom_b13 C E a lo hh n h1 rfl ⟨⟨rg_nat (by omega), rg_nat (by omega)⟩, fun z => by omega, fun _ => ?_⟩
      rw [y1.2.2.1, Int.toNat_natCast, Int.toNat_natCast, f1, f2]
      refine ⟨y1.1, y1.2.1, y1.2.2.2 _ (by omega) (by omega), y1.1, y1.2.1, y1.1, y1.2.1, y1.2.2.2 _ (by omega) (by omega), y1.2.2.2 _ (by omega) (by omega), b1, fun h2 e2 => ?_⟩
      have he2 : hE (fun i => i = c) h h2 := he.tr (hE.put' e2 rfl)
      have y2 := ty he2
      rw [y2.2.2.1]
      refine ⟨y2.1, y2.2.1, y2.2.2.2 _ (by omega) (by omega), b2, fun h3 e3 => ?_⟩
      rw [show (lo : Int) + 1 = ((lo + 1 : Nat) : Int) by omega]
      refine ih (lo + 1) _ h3 (by omega) (by omega) (by omega) (by omega) (he2.tr (hE.put' e3 rfl)) (fun j hj => ?_)
      rw [e3, hS_g]
      by_cases c1 : j = hh
      · rw [if_pos ⟨rfl, c1⟩, if_pos (by omega)]; congr 1; omega
      · rw [if_neg (fun z => c1 z.2), e2, hS_g]
        by_cases c2 : j = lo
        · rw [if_pos ⟨rfl, c2⟩, if_pos (by omega)]; congr 1; omega
        · rw [if_neg (fun z => c2 z.2), hf j hj]
          by_cases g4 : P.length ≤ j ∧ (j < lo ∨ (hh : Int) < j)
          · rw [if_pos g4, if_pos (by omega)]
          · rw [if_neg g4, if_neg (by omega)]
/-- the cells below n stay as they are, outside S -/
def hF (S : Nat → Prop) (n : Nat) (h h' : xH) : Prop := ∀ i, i < n → (h' i).1 = (h i).1 ∧ (h' i).2.1 = (h i).2.1 ∧ (¬ S i → (h' i).2.2 = (h i).2.2)
theorem hE.f {S : Nat → Prop} {n : Nat} {h h' : xH} (e : hE S h h') : hF S n h h' := fun i _ => e i
theorem hF.rf {S : Nat → Prop} {n : Nat} {h : xH} : hF S n h h := fun _ _ => ⟨rfl, rfl, fun _ => rfl⟩
theorem hF.tr {S : Nat → Prop} {n m : Nat} {h h' h'' : xH} (a : hF S n h h') (b : hF S m h' h'') (hm : n ≤ m) : hF S n h h'' := fun i hi => ⟨(b i (by omega)).1.trans (a i hi).1, (b i (by omega)).2.1.trans (a i hi).2.1, fun s => ((b i (by omega)).2.2 s).trans ((a i hi).2.2 s)⟩
theorem hF.mono {S T : Nat → Prop} {n : Nat} {h h' : xH} (a : hF S n h h') (st : ∀ i, i < n → S i → T i) : hF T n h h' := fun i hi => ⟨(a i hi).1, (a i hi).2.1, fun s => (a i hi).2.2 (fun q => s (st i hi q))⟩
theorem hF.new {S : Nat → Prop} {n : Nat} {h h' : xH} {X : xC} (e : h' = hN h n X) : hF S n h h' := fun i hi => by
  rw [e, hN_ne h X (by omega)]
  exact ⟨rfl, rfl, fun _ => rfl⟩
theorem isL.fr {n m' : Nat} {h h' : xH} {S : Nat → Prop} {a c m : Nat} {L : List Int} (t : isL n h a c m L) (e : hF S n h h') (hn : n ≤ m') (h0 : ¬ S a) (h1 : ¬ S c) : isL m' h' a c m L := by
  obtain ⟨t1, ⟨t2, t3, t4⟩, ⟨t5, t6, t7⟩, t8, t9⟩ := t
  have ea := e a t1.1
  have ec := e c t1.2.1
  exact ⟨by omega, ⟨by rw [ea.1]; exact t2, by rw [ea.2.2 h0]; exact t3, by rw [ea.2.2 h0]; exact t4⟩, ⟨by rw [ec.1]; exact t5, by rw [ec.2.1]; exact t6, t7⟩, fun i hi => by rw [ec.2.2 h1]; exact t8 i hi, t9⟩
theorem isN.fr {n m' : Nat} {h h' : xH} {S : Nat → Prop} {a : Nat} {v : Int} (t : isN n h a v) (e : hF S n h h') (hn : n ≤ m') (h0 : ¬ S a) (h1 : ¬ S (a + 1)) : isN m' h' a v := by
  obtain ⟨⟨t1, t2, t3, t4, t5, t6⟩, s, s1, s2, s3, s4⟩ := t
  have ea := e a (by omega)
  have eb := e (a + 1) t1
  have ea3 := ea.2.2 h0
  have eb3 := eb.2.2 h1
  exact ⟨⟨by omega, by rw [ea.1]; exact t2, by rw [ea3]; exact t3, by rw [eb.1]; exact t4, by rw [eb.2.1]; exact t5, by rw [eb3]; exact t6⟩, s, s1, by rw [ea3]; exact s2, by rw [eb3]; exact s3, by rw [eb3]; exact s4⟩
/-- room for x digits: the codes stay, or a new array takes their place -/
theorem sp_makeRoom {G : xG} {l : Launch} {n : Nat} {h : xH} {a c m : Nat} {x : Int} {Po : Nat → xH → Prop} (t : isL n h a c m []) (h0 : 0 ≤ x) (h1 : x ≤ 8192) (hp : ∀ n' h' c' m', n ≤ n' → n' ≤ n + 1 → hF (sL a c) n h h' → isL n' h' a c' m' [] → x + 34 ≤ m' → ((c' = c ∧ m' = m) ∨ (c' = n ∧ m' = 8226)) → Po n' h') : S_X0_makeRoom G l a x n h Po := by
  refine S_X0_makeRoom_of (fun k hl C E => ?_)
  have ln := t.ln
  have hl2 : ((h c).2.1 : Int) = (m : Int) := by rw [t.2.2.1.2.1]
  refine X0_makeRoom_b0 (n0 := 0) C E a x n h ⟨t.ok, t.w0, ⟨by rw [t.w]; exact t.1.2.1, by rw [t.w]; exact Or.inr t.2.2.1.1⟩, ⟨⟨by omega, by omega⟩, by rw [t.w, hl2]; exact rg_nat (by omega)⟩, fun g => X0_makeRoom_b21 (n0 := 0) C E n h ?_, fun g => ⟨⟨by decide, by decide⟩, fun h2 e2 => ?_⟩⟩
  · rw [t.w, hl2] at g
    exact hp n h c m (Nat.le_refl n) (by omega) hF.rf t g (Or.inl ⟨rfl, rfl⟩)
  · have t2 : isL (n + 1) h2 a c m [] := by rw [e2]; exact t.new
    refine ⟨t2.ok, fun h3 e3 => X0_makeRoom_b21 (n0 := 0) C E (n + 1) h3 ?_⟩
    refine hp (n + 1) h3 n 8226 (by omega) (by omega) ((hF.new e2).tr (m := n + 1) (hE.put' e3 (Or.inl rfl)).f (by omega)) ?_ (by omega) (Or.inr ⟨rfl, rfl⟩)
    obtain ⟨u1, ⟨u2, u3, u4⟩, _, _, _⟩ := t2
    have han : a ≠ n := by have := t.1.1; omega
    have en : (h3 n) = (101, 8226, fun _ => 0) := by rw [e3, hS_ne _ _ _ (by omega), e2, hN_self]
    refine ⟨⟨u1.1, by omega, han⟩, ⟨by rw [e3, hS_k]; exact u2, by rw [e3, hS_g, if_pos ⟨rfl, rfl⟩], by rw [e3, hS_g, if_neg (by omega)]; exact u4⟩, ⟨by rw [en], by rw [en], Nat.zero_le _, Nat.le_refl _⟩, fun i hi => absurd hi (Nat.not_lt_zero _), fun x hx => absurd hx (by simp)⟩
theorem sp_initL {G : xG} {l : Launch} {n : Nat} {h : xH} {a : Nat} {Po : Nat → xH → Prop} (ha : okO n h a 0) (hp : ∀ h', hF (fun i => i = a) n h h' → isL (n + 1) h' a n 400 [] → Po (n + 1) h') : S_X0_init G l a n h Po := by
  refine S_X0_init_of (fun k hl hnm C E => X0_init_b0 (n0 := 0) C E hnm a n h ⟨⟨by decide, by decide⟩, fun h2 e2 => ?_⟩)
  have han : a ≠ n := by have := ha.1; omega
  have k2 : (h2 a).1 = 0 := by rw [e2, hN_ne _ _ han]; exact ha.2
  refine ⟨⟨by have := ha.1; omega, k2⟩, fun h4 e4 => ⟨⟨by have := ha.1; omega, by rw [e4, hS_k]; exact k2⟩, fun h6 e6 => hp h6 (((hF.new (S := fun i => i = a) e2).tr (m := n + 1) (hE.put' (S := fun i => i = a) e4 rfl).f (by omega)).tr (m := n + 1) (hE.put' (S := fun i => i = a) e6 rfl).f (by omega)) ?_⟩⟩
  have en : (h6 n) = (101, 400, fun _ => 0) := by rw [e6, hS_ne _ _ _ (by omega), e4, hS_ne _ _ _ (by omega), e2, hN_self]
  refine ⟨⟨by have := ha.1; omega, by omega, han⟩, ⟨by rw [e6, hS_k, e4, hS_k]; exact k2, by rw [e6, hS_g, if_neg (by omega), e4, hS_g, if_pos ⟨rfl, rfl⟩], by rw [e6, hS_g, if_pos ⟨rfl, rfl⟩]; rfl⟩, ⟨by rw [en], by rw [en], Nat.zero_le _, by omega⟩, fun i hi => absurd hi (Nat.not_lt_zero _), fun x hx => absurd hx (by simp)⟩
theorem sp_initN {G : xG} {l : Launch} {n : Nat} {h : xH} {Po : Nat → xH → Prop} (a : Nat) (hn : n = a + 1) (ha : okO n h a 1) (hp : ∀ h', hF (fun i => i = a) n h h' → isN (n + 1) h' a 0 → Po (n + 1) h') : S_X1_init G l a n h Po := by
  subst hn
  refine S_X1_init_of (fun k hl hnm C E => X1_init_b0 (n0 := 0) C E hnm a (a + 1) h ⟨⟨by decide, by decide⟩, fun h2 e2 => ?_⟩)
  have k2 : (h2 a).1 = 1 := by rw [e2, hN_ne _ _ (by omega)]; exact ha.2
  refine ⟨⟨by omega, k2⟩, fun h4 e4 => ⟨⟨by omega, by rw [e4, hS_k]; exact k2⟩, fun h6 e6 => hp h6 (((hF.new (S := fun i => i = a) e2).tr (m := a + 1 + 1) (hE.put' (S := fun i => i = a) e4 rfl).f (by omega)).tr (m := a + 1 + 1) (hE.put' (S := fun i => i = a) e6 rfl).f (by omega)) ?_⟩⟩
  have en : (h6 (a + 1)) = (100, 132, fun _ => 0) := by rw [e6, hS_ne _ _ _ (by omega), e4, hS_ne _ _ _ (by omega), e2, hN_self]
  refine ⟨⟨by omega, by rw [e6, hS_k, e4, hS_k]; exact k2, by rw [e6, hS_g, if_neg (by omega), e4, hS_g, if_pos ⟨rfl, rfl⟩], by rw [en], by rw [en], fun i _ => by rw [en]; exact rg0⟩, 0, by omega, by rw [e6, hS_g, if_pos ⟨rfl, rfl⟩]; rfl, rfl, fun t e => by omega⟩
