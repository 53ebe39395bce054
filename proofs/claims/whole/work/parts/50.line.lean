/-! LINES -/
/-- the line at a, whose codes lie at c with room for m, holds L -/
def isL (n : Nat) (h : xH) (a c m : Nat) (L : List Int) : Prop := (a < n ∧ c < n ∧ a ≠ c) ∧ ((h a).1 = 0 ∧ (h a).2.2 0 = (c : Int) ∧ (h a).2.2 1 = (L.length : Int)) ∧ ((h c).1 = 101 ∧ (h c).2.1 = m ∧ L.length ≤ m ∧ m ≤ 8226) ∧ (∀ i, i < L.length → (h c).2.2 i = L.getD i 0) ∧ (∀ x, x ∈ L → -128 ≤ x ∧ x ≤ 127)
abbrev sL (a c : Nat) : Nat → Prop := fun i => i = a ∨ i = c
theorem isL.ok {n : Nat} {h : xH} {a c m : Nat} {L : List Int} (t : isL n h a c m L) : okO n h a 0 := ⟨t.1.1, t.2.1.1⟩
theorem isL.w {n : Nat} {h : xH} {a c m : Nat} {L : List Int} (t : isL n h a c m L) : (hG h a 0).toNat = c := by
  show ((h a).2.2 0).toNat = _
  rw [t.2.1.2.1]; rfl
theorem isL.w0 {n : Nat} {h : xH} {a c m : Nat} {L : List Int} (t : isL n h a c m L) : 0 ≤ hG h a 0 := by
  show 0 ≤ (h a).2.2 0
  rw [t.2.1.2.1]; omega
theorem isL.sz {n : Nat} {h : xH} {a c m : Nat} {L : List Int} (t : isL n h a c m L) : hG h a 1 = (L.length : Int) := t.2.1.2.2
theorem isL.ln {n : Nat} {h : xH} {a c m : Nat} {L : List Int} (t : isL n h a c m L) : L.length ≤ m ∧ m ≤ 8226 := t.2.2.1.2.2
theorem isL.rgs {n : Nat} {h : xH} {a c m : Nat} {L : List Int} (t : isL n h a c m L) : rg (hG h a 1) := by
  have := t.ln
  rw [t.sz]; exact rg_nat (by omega)
theorem isL.rd {n : Nat} {h : xH} {a c m : Nat} {L : List Int} (t : isL n h a c m L) {i : Nat} (hi : i < L.length) : hG h c i = L.getD i 0 := t.2.2.2.1 i hi
theorem isL.at {n : Nat} {h : xH} {a c m : Nat} {L : List Int} (t : isL n h a c m L) {i : Int} (h0 : 0 ≤ i) (h1 : i < m) : okA n h c 101 i := ⟨t.1.2.1, t.2.2.1.1, h0, by rw [t.2.2.1.2.1]; exact h1, by have := t.ln; omega⟩
theorem isL.mv {n : Nat} {h h' : xH} {S : Nat → Prop} {a c m : Nat} {L : List Int} (t : isL n h a c m L) (e : hE S h h') (h0 : ¬ S a) (h1 : ¬ S c) : isL n h' a c m L := by
  obtain ⟨t1, ⟨t2, t3, t4⟩, ⟨t5, t6, t7⟩, t8, t9⟩ := t
  have ea := e a
  have ec := e c
  exact ⟨t1, ⟨by rw [ea.1]; exact t2, by rw [ea.2.2 h0]; exact t3, by rw [ea.2.2 h0]; exact t4⟩, ⟨by rw [ec.1]; exact t5, by rw [ec.2.1]; exact t6, t7⟩, fun i hi => by rw [ec.2.2 h1]; exact t8 i hi, t9⟩
theorem isL.new {n : Nat} {h : xH} {X : xC} {a c m : Nat} {L : List Int} (t : isL n h a c m L) : isL (n + 1) (hN h n X) a c m L := by
  obtain ⟨t1, t2, t3, t4, t5⟩ := t
  have e1 := hN_ne h X (show a ≠ n by omega)
  have e2 := hN_ne h X (show c ≠ n by omega)
  refine ⟨by omega, ?_, ?_, ?_, t5⟩
  · rw [e1]; exact t2
  · rw [e2]; exact t3
  · rw [e2]; exact t4
theorem isN.new {n : Nat} {h : xH} {X : xC} {a : Nat} {v : Int} (t : isN n h a v) : isN (n + 1) (hN h n X) a v := by
  obtain ⟨⟨t1, t2⟩, s, q⟩ := t
  have e1 := hN_ne h X (show a ≠ n by omega)
  have e2 := hN_ne h X (show a + 1 ≠ n by omega)
  refine ⟨⟨by omega, ?_⟩, s, ?_⟩
  · rw [e1, e2]; exact t2
  · unfold isS; rw [e1, e2]; exact q
/-- the code at i, -1 where there is none -/
def cd (L : List Int) (i : Int) : Int := if 0 ≤ i ∧ i < L.length then L.getD i.toNat 0 else -1
theorem isL.by {n : Nat} {h : xH} {a c m : Nat} {L : List Int} (t : isL n h a c m L) {i : Nat} (hi : i < L.length) : -128 ≤ L.getD i 0 ∧ L.getD i 0 ≤ 127 := by
  rw [List.getD_eq_getElem?_getD, List.getElem?_eq_getElem hi]
  exact t.2.2.2.2 _ (List.getElem_mem hi)
theorem isL.cdr {n : Nat} {h : xH} {a c m : Nat} {L : List Int} (t : isL n h a c m L) (i : Int) : -128 ≤ cd L i ∧ cd L i ≤ 127 := by
  unfold cd
  split
  · exact t.by (by omega)
  · omega
theorem sp_size {G : xG} {l : Launch} {n : Nat} {h : xH} {a c m : Nat} {L : List Int} {Po : Int → xH → Prop} (t : isL n h a c m L) (hp : Po (L.length : Int) h) : S_X0_size G l a n h Po := by
  refine S_X0_size_of (fun k hl C E => X0_size_b0 C E a n h rfl ⟨t.ok, ?_⟩)
  rw [t.sz]; exact hp
theorem sp_codeAt {G : xG} {l : Launch} {n : Nat} {h : xH} {a c m : Nat} {L : List Int} {i : Int} {Po : Int → xH → Prop} (t : isL n h a c m L) (hi : rg i) (hp : Po (cd L i) h) : S_X0_codeAt G l a i n h Po := by
  refine S_X0_codeAt_of (fun k hl C E => ?_)
  have ln := t.ln
  have w22 : ∀ z, Po z h → X0_codeAt_w22 G k z n h := fun z q => X0_codeAt_b22 C E z n h rfl q
  have w21 : Po (-1) h → X0_codeAt_w21 G k n h := fun q => X0_codeAt_b21 C E n h rfl (w22 _ q)
  unfold cd at hp
  refine X0_codeAt_b0 C E a i n h rfl ⟨hi, fun c1 => w21 ?_, fun c1 => ⟨t.ok, ⟨hi, t.rgs⟩, fun c2 => w21 ?_, fun c2 => ⟨t.ok, t.w0, ?_, w22 _ ?_⟩⟩⟩
  · rwa [if_neg (by omega)] at hp
  · rw [t.sz] at c2; rwa [if_neg (by omega)] at hp
  · rw [t.sz] at c2; rw [t.w]; exact t.at (by omega) (by omega)
  · rw [t.sz] at c2
    rw [if_pos ⟨by omega, by omega⟩] at hp
    rw [t.w, t.rd (by omega)]
    exact hp
theorem sp_empty {G : xG} {l : Launch} {n : Nat} {h : xH} {a c m : Nat} {L : List Int} {Po : xH → Prop} (t : isL n h a c m L) (hp : ∀ h', hE (sL a c) h h' → isL n h' a c m [] → Po h') : S_X0_empty G l a n h Po := by
  refine S_X0_empty_of (fun k hl C E => X0_empty_b0 C E a n h rfl ⟨t.ok, fun h' e => hp h' (hE.put' e (Or.inl rfl)) ?_⟩)
  obtain ⟨t1, ⟨t2, t3, t4⟩, ⟨t5, t6, t7⟩, t8, t9⟩ := t
  refine ⟨t1, ⟨by rw [e, hS_k]; exact t2, by rw [e, hS_g, if_neg (by omega)]; exact t3, by rw [e, hS_g, if_pos ⟨rfl, rfl⟩]; rfl⟩, ⟨by rw [e, hS_k]; exact t5, by rw [e, hS_l]; exact t6, Nat.zero_le _, t7.2⟩, fun i hi => absurd hi (Nat.not_lt_zero _), fun x hx => absurd hx (by simp)⟩
theorem getD_app {L : List Int} {x : Int} {i : Nat} : (L ++ [x]).getD i 0 = if i < L.length then L.getD i 0 else if i = L.length then x else 0 := by
  rw [List.getD_eq_getElem?_getD, List.getD_eq_getElem?_getD, List.getElem?_append]
  by_cases h : i < L.length
  · rw [if_pos h, if_pos h]
  · rw [if_neg h, if_neg h]
    by_cases h2 : i = L.length
    · rw [if_pos h2, h2, Nat.sub_self]; rfl
    · rw [if_neg h2, List.getElem?_eq_none (by simp; omega)]; rfl
theorem isL.app {n : Nat} {h h1 h2 : xH} {a c m : Nat} {L : List Int} {x : Int} (t : isL n h a c m L) (hr : L.length < m) (hx : -128 ≤ x ∧ x ≤ 127) (e1 : h1 = hS h c L.length x) (e2 : h2 = hS h1 a 1 ((L.length : Int) + 1)) : isL n h2 a c m (L ++ [x]) := by
  obtain ⟨t1, ⟨t2, t3, t4⟩, ⟨t5, t6, t7⟩, t8, t9⟩ := t
  subst e1
  subst e2
  refine ⟨t1, ⟨?_, ?_, ?_⟩, ⟨?_, ?_, ?_, t7.2⟩, fun i hi => ?_, fun y hy => ?_⟩
  · rw [hS_k, hS_k]; exact t2
  · rw [hS_g, if_neg (by omega), hS_g, if_neg (by omega)]; exact t3
  · rw [hS_g, if_pos ⟨rfl, rfl⟩, List.length_append]; rfl
  · rw [hS_k, hS_k]; exact t5
  · rw [hS_l, hS_l]; exact t6
  · rw [List.length_append]; exact hr
  · rw [List.length_append] at hi
    rw [hS_g, if_neg (by omega), hS_g, getD_app]
    by_cases g : i < L.length
    · rw [if_neg (by omega), if_pos g]; exact t8 i g
    · have : i < L.length + 1 := hi
      rw [if_pos ⟨rfl, by omega⟩, if_neg g, if_pos (by omega)]
  · rw [List.mem_append] at hy
    rcases hy with hy | hy
    · exact t9 y hy
    · rw [List.mem_singleton] at hy; rw [hy]; exact hx
theorem sp_app {G : xG} {l : Launch} {n : Nat} {h : xH} {a c m : Nat} {L : List Int} {x : Int} {Po : xH → Prop} (t : isL n h a c m L) (hr : L.length < m) (hx : -128 ≤ x ∧ x ≤ 127) (hp : ∀ h', hE (sL a c) h h' → isL n h' a c m (L ++ [x]) → Po h') : S_X0_append G l a x n h Po := by
  refine S_X0_append_of (fun k hl C E => ?_)
  have ln := t.ln
  have hl2 : ((h c).2.1 : Int) = (m : Int) := by rw [t.2.2.1.2.1]
  refine X0_append_b0 C E a x n h rfl ⟨t.ok, t.ok, t.w0, ⟨?_, ?_⟩, ⟨t.rgs, ?_⟩, fun c1 => ?_, fun c1 => ⟨t.ok, t.w0, t.ok, hx, ?_, hx, fun h1 e1 => ?_⟩⟩
  · rw [t.w]; exact t.1.2.1
  · rw [t.w]; exact Or.inr t.2.2.1.1
  · rw [t.w, hl2]; exact rg_nat (by omega)
  · rw [t.w, hl2, t.sz] at c1; omega
  · rw [t.w, t.sz]; exact t.at (by omega) (by omega)
  · rw [t.w, t.sz, Int.toNat_natCast] at e1
    have ok1 : okO n h1 a 0 := ⟨t.1.1, by rw [e1, hS_k]; exact t.2.1.1⟩
    refine ⟨ok1, ok1, fun h2 e2 => X0_append_b33 C E n h2 rfl ?_⟩
    have : hG h1 a 1 = (L.length : Int) := by
      show (h1 a).2.2 1 = _
      rw [e1, hS_g, if_neg (by have := t.1; omega)]; exact t.sz
    rw [this] at e2
    exact hp h2 ((hE.put' e1 (Or.inr rfl)).tr (hE.put' e2 (Or.inl rfl))) (t.app hr hx e1 e2)
theorem cd_at {L : List Int} {i : Nat} (hi : i < L.length) : cd L i = L.getD i 0 := by
  unfold cd
  rw [if_pos ⟨by omega, by omega⟩, Int.toNat_natCast]
theorem take_snoc {L : List Int} {i : Nat} (hi : i < L.length) : L.take i ++ [L.getD i 0] = L.take (i + 1) := by
  rw [List.take_succ, List.getD_eq_getElem?_getD, List.getElem?_eq_getElem hi]; rfl
theorem sp_copyL {G : xG} {l : Launch} {n : Nat} {h : xH} {a c m b d mb : Nat} {L M : List Int} {Po : xH → Prop} (t : isL n h a c m L) (tb : isL n h b d mb M) (hd : ¬ sL a c b ∧ ¬ sL a c d) (hr : M.length ≤ m) (hp : ∀ h', hE (sL a c) h h' → isL n h' a c m M → Po h') : S_X0_copy G l a b n h Po := by
  refine S_X0_copy_of (fun k hl C E => ?_)
  have lnb := tb.ln
  refine X0_copy_b0 C E a b n h rfl ⟨t.ok, sp_empty t (fun h1 e1 t1 => ?_)⟩
  suffices K : ∀ (u i : Nat) (h1 : xH), i + u = M.length → hE (sL a c) h h1 → isL n h1 a c m (M.take i) → X0_copy_w6 G k a b i n h1 from K M.length 0 h1 (by omega) e1 t1
  intro u
  induction u with
  | zero =>
    intro i h1 hi he t1
    have tb1 := tb.mv he hd.1 hd.2
    refine X0_copy_b6 C E a b i n h1 rfl ⟨tb1.ok, ⟨rg_nat (by omega), tb1.rgs⟩, fun _ => hp h1 he ?_, fun g => by rw [tb1.sz] at g; omega⟩
    rwa [List.take_of_length_le (by omega)] at t1
  | succ u ih =>
    intro i h1 hi he t1
    have tb1 := tb.mv he hd.1 hd.2
    refine X0_copy_b6 C E a b i n h1 rfl ⟨tb1.ok, ⟨rg_nat (by omega), tb1.rgs⟩, fun g => by rw [tb1.sz] at g; omega, fun g => ⟨tb1.ok, sp_codeAt tb1 (rg_nat (by omega)) ⟨t1.ok, sp_app t1 ?_ (tb1.cdr _) (fun h2 e2 t2 => ?_)⟩⟩⟩
    · rw [List.length_take]; omega
    · rw [cd_at (by omega), take_snoc (by omega)] at t2
      exact ih (i + 1) h2 (by omega) (he.tr e2) t2
