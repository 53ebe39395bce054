/-! NATURALS: shape, value, frame -/
theorem hS_k (h : xH) (b i : Nat) (z : Int) (x : Nat) : (hS h b i z x).1 = (h x).1 := by
  unfold hS; split
  · rename_i e; rw [e]
  · rfl
theorem hS_l (h : xH) (b i : Nat) (z : Int) (x : Nat) : (hS h b i z x).2.1 = (h x).2.1 := by
  unfold hS; split
  · rename_i e; rw [e]
  · rfl
theorem hS_g (h : xH) (b i : Nat) (z : Int) (x k : Nat) : (hS h b i z x).2.2 k = if x = b ∧ k = i then z else (h x).2.2 k := by
  unfold hS
  by_cases hx : x = b
  · subst hx
    simp only [if_pos, true_and]
  · simp only [hx, if_false, false_and]
/-- cells keep kind and length; outside S they keep their contents -/
def hE (S : Nat → Prop) (h h' : xH) : Prop := ∀ i, (h' i).1 = (h i).1 ∧ (h' i).2.1 = (h i).2.1 ∧ (¬ S i → (h' i).2.2 = (h i).2.2)
theorem hE.rf {S : Nat → Prop} {h : xH} : hE S h h := fun _ => ⟨rfl, rfl, fun _ => rfl⟩
theorem hE.tr {S : Nat → Prop} {h h' h'' : xH} (a : hE S h h') (b : hE S h' h'') : hE S h h'' := fun i => ⟨(b i).1.trans (a i).1, (b i).2.1.trans (a i).2.1, fun s => ((b i).2.2 s).trans ((a i).2.2 s)⟩
theorem hE.mono {S T : Nat → Prop} {h h' : xH} (a : hE S h h') (st : ∀ i, S i → T i) : hE T h h' := fun i => ⟨(a i).1, (a i).2.1, fun s => (a i).2.2 (fun q => s (st i q))⟩
theorem hE.put {S : Nat → Prop} {h : xH} {b i : Nat} {z : Int} (hb : S b) : hE S h (hS h b i z) := fun x => ⟨hS_k h b i z x, hS_l h b i z x, fun s => by rw [hS_ne h i z (fun e => s (by rw [e]; exact hb))]⟩
/-- the cells of a natural -/
abbrev sN (a : Nat) : Nat → Prop := fun i => i = a ∨ i = a + 1
def tyN (n : Nat) (h : xH) (a : Nat) : Prop := a + 1 < n ∧ (h a).1 = 1 ∧ (h a).2.2 0 = ((a + 1 : Nat) : Int) ∧ (h (a + 1)).1 = 100 ∧ (h (a + 1)).2.1 = 132 ∧ ∀ i, i < 132 → rg ((h (a + 1)).2.2 i)
/-- the value of the first s words -/
def nv (f : Nat → Int) : Nat → Int
  | 0 => 0
  | s + 1 => nv f s + (f s % 4294967296) * 4294967296 ^ s
theorem B_pos (s : Nat) : (0 : Int) < 4294967296 ^ s := Int.pow_pos (by decide)
theorem B_succ (s : Nat) : (4294967296 : Int) ^ (s + 1) = 4294967296 * 4294967296 ^ s := by rw [Int.pow_succ, Int.mul_comm]
theorem nv_bd (f : Nat → Int) (s : Nat) : 0 ≤ nv f s ∧ nv f s < 4294967296 ^ s := by
  induction s with
  | zero => exact ⟨by simp [nv], by simp [nv]⟩
  | succ s ih =>
    have h0 := Int.emod_nonneg (f s) (show (4294967296 : Int) ≠ 0 by decide)
    have h1 := Int.emod_lt_of_pos (f s) (show (0 : Int) < 4294967296 by decide)
    have hp := B_pos s
    have h2 : 0 ≤ f s % 4294967296 * 4294967296 ^ s := Int.mul_nonneg h0 (Int.le_of_lt hp)
    have h3 : f s % 4294967296 * 4294967296 ^ s ≤ 4294967295 * 4294967296 ^ s := Int.mul_le_mul_of_nonneg_right (by omega) (Int.le_of_lt hp)
    rw [B_succ]
    show 0 ≤ nv f s + f s % 4294967296 * 4294967296 ^ s ∧ nv f s + f s % 4294967296 * 4294967296 ^ s < _
    omega
theorem nv_congr {f g : Nat → Int} {s : Nat} (h : ∀ i, i < s → f i % 4294967296 = g i % 4294967296) : nv f s = nv g s := by
  induction s with
  | zero => rfl
  | succ s ih =>
    show nv f s + _ = nv g s + _
    rw [ih (fun i hi => h i (by omega)), h s (by omega)]
theorem nv_top {f : Nat → Int} {s : Nat} (h : f s % 4294967296 ≠ 0) : 4294967296 ^ s ≤ nv f (s + 1) := by
  have h0 := Int.emod_nonneg (f s) (show (4294967296 : Int) ≠ 0 by decide)
  have hp := B_pos s
  have h1 : 1 * 4294967296 ^ s ≤ f s % 4294967296 * 4294967296 ^ s := Int.mul_le_mul_of_nonneg_right (by omega) (Int.le_of_lt hp)
  have := (nv_bd f s).1
  show _ ≤ nv f s + f s % 4294967296 * 4294967296 ^ s
  omega
/-- a natural of the value v, in s words -/
def isS (h : xH) (a s : Nat) (v : Int) : Prop := s ≤ 132 ∧ (h a).2.2 1 = (s : Int) ∧ nv (h (a + 1)).2.2 s = v ∧ (∀ t, s = t + 1 → (h (a + 1)).2.2 t % 4294967296 ≠ 0)
def isN (n : Nat) (h : xH) (a : Nat) (v : Int) : Prop := tyN n h a ∧ ∃ s, isS h a s v
theorem tyN.mv {n : Nat} {h h' : xH} {a : Nat} (t : tyN n h a) (e : ∀ i, sN a i → (h' i).1 = (h i).1 ∧ (h' i).2.1 = (h i).2.1 ∧ (h' i).2.2 = (h i).2.2) : tyN n h' a := by
  obtain ⟨t1, t2, t3, t4, t5, t6⟩ := t
  obtain ⟨e1, e2, e3⟩ := e a (Or.inl rfl)
  obtain ⟨f1, f2, f3⟩ := e (a + 1) (Or.inr rfl)
  exact ⟨t1, by rw [e1]; exact t2, by rw [e3]; exact t3, by rw [f1]; exact t4, by rw [f2]; exact t5, by rw [f3]; exact t6⟩
theorem isN.mv {n : Nat} {h h' : xH} {S : Nat → Prop} {a : Nat} {v : Int} (t : isN n h a v) (e : hE S h h') (h0 : ¬ S a) (h1 : ¬ S (a + 1)) : isN n h' a v := by
  obtain ⟨ty, s, s1, s2, s3, s4⟩ := t
  have ea := (e a).2.2 h0
  have eb := (e (a + 1)).2.2 h1
  refine ⟨ty.mv (fun i hi => ?_), s, s1, by rw [ea]; exact s2, by rw [eb]; exact s3, by rw [eb]; exact s4⟩
  rcases hi with rfl | rfl
  · exact ⟨(e _).1, (e _).2.1, ea⟩
  · exact ⟨(e _).1, (e _).2.1, eb⟩
theorem isS.val {h : xH} {a s : Nat} {v : Int} (q : isS h a s v) : 0 ≤ v ∧ v < 4294967296 ^ s ∧ (s = 0 → v = 0) ∧ (∀ t, s = t + 1 → 4294967296 ^ t ≤ v) := by
  obtain ⟨q1, q2, q3, q4⟩ := q
  have := nv_bd (h (a + 1)).2.2 s
  refine ⟨by omega, by omega, fun e => ?_, fun t e => ?_⟩
  · subst e; rw [← q3]; rfl
  · subst e; rw [← q3]; exact nv_top (q4 t rfl)
/-- the words of a natural, as its methods see them -/
theorem tyN.put {n : Nat} {h : xH} {a : Nat} (t : tyN n h a) {i : Nat} {z : Int} (hz : rg z) : tyN n (hS h (a + 1) i z) a := by
  obtain ⟨t1, t2, t3, t4, t5, t6⟩ := t
  refine ⟨t1, by rw [hS_k]; exact t2, by rw [hS_g, if_neg (by omega)]; exact t3, by rw [hS_k]; exact t4, by rw [hS_l]; exact t5, fun j hj => ?_⟩
  rw [hS_g]
  split
  · exact hz
  · exact t6 j hj
theorem tyN.size {n : Nat} {h : xH} {a : Nat} (t : tyN n h a) {z : Int} : tyN n (hS h a 1 z) a := by
  obtain ⟨t1, t2, t3, t4, t5, t6⟩ := t
  refine ⟨t1, by rw [hS_k]; exact t2, by rw [hS_g, if_neg (by omega)]; exact t3, by rw [hS_k]; exact t4, by rw [hS_l]; exact t5, fun j hj => ?_⟩
  rw [hS_g, if_neg (by omega)]
  exact t6 j hj
theorem tyN.ok {n : Nat} {h : xH} {a : Nat} (t : tyN n h a) : okO n h a 1 := ⟨by have := t.1; omega, t.2.1⟩
theorem tyN.w {n : Nat} {h : xH} {a : Nat} (t : tyN n h a) : (hG h a 0).toNat = a + 1 := by
  show ((h a).2.2 0).toNat = _
  rw [t.2.2.1]; rfl
theorem tyN.w0 {n : Nat} {h : xH} {a : Nat} (t : tyN n h a) : 0 ≤ hG h a 0 := by
  show 0 ≤ (h a).2.2 0
  rw [t.2.2.1]; omega
theorem tyN.at {n : Nat} {h : xH} {a : Nat} (t : tyN n h a) {i : Int} (h0 : 0 ≤ i) (h1 : i < 132) : okA n h (a + 1) 100 i := ⟨t.1, t.2.2.2.1, h0, by rw [t.2.2.2.2.1]; exact h1, by omega⟩
theorem tyN.at' {n : Nat} {h : xH} {a : Nat} (t : tyN n h a) {i : Int} (h0 : 0 ≤ i) (h1 : i < 132) : okA n h (hG h a 0).toNat 100 i := by rw [t.w]; exact t.at h0 h1
theorem rg132 : rg (132 : Int) := ⟨by decide, by decide⟩
theorem rg_nat {s : Nat} (h : s ≤ 2000000000) : rg (s : Int) := ⟨by omega, by omega⟩
/-- wordAt(i) -/
theorem sp_wordAt {G : xG} {l : Launch} {n : Nat} {h : xH} {a s : Nat} {x1 : Int} {Po : Int → xH → Prop} (t : tyN n h a) (hs : (h a).2.2 1 = (s : Int)) (hs2 : s ≤ 132) (hx : rg x1) (hp : Po (if 0 ≤ x1 ∧ x1 < s then (h (a + 1)).2.2 x1.toNat else 0) h) : S_X1_wordAt G l a x1 n h Po := by
  refine S_X1_wordAt_of (fun k hl C E => ?_)
  have w29 : ∀ z, Po z h → X1_wordAt_w29 G k z n h := fun z hz => X1_wordAt_b29 C E z n h rfl hz
  have w28 : Po 0 h → X1_wordAt_w28 G k n h := fun hz => X1_wordAt_b28 C E n h rfl (w29 0 hz)
  have hsz : hG h a 1 = (s : Int) := hs
  refine X1_wordAt_b0 C E a x1 n h rfl ⟨hx, fun c => w28 ?_, fun c => ⟨t.ok, ⟨hx, by rw [hsz]; exact rg_nat (by omega)⟩, fun c2 => w28 ?_, fun c2 => ⟨⟨hx, rg132⟩, fun c3 => ?_, fun c3 => ⟨t.ok, t.w0, t.at' (by omega) (by omega), w29 _ ?_⟩⟩⟩⟩
  · rwa [if_neg (by omega)] at hp
  · rw [hsz] at c2; rwa [if_neg (by omega)] at hp
  · rw [hsz] at c2; omega
  · rw [hsz] at c2
    rw [t.w]
    rwa [if_pos (by omega)] at hp
