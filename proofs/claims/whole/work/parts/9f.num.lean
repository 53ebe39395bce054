/-! THE MODEL'S NUMBER -/
/-- a double's sign, as a truth -/
abbrev sgB (mn : Int) : Bool := decide (mn ≠ 0)
/-- the number in the cell z: kind, sign, units and place of a finite double, numerator and denominator of an exact one -/
def nuM (n : Nat) (h : xH) (z kd mn un pl v w : Int) : Prop :=
  (kd = 0 ∧ z = -1 ∧ mn = 0) ∨ (∃ zn : Nat, z = (zn : Int) ∧ (mn = 0 ∨ mn = 1) ∧
    ((kd = 1 ∧ isEx n h zn (if v = 0 then 0 else if mn = 0 then 1 else -1) v w ∧ 0 ≤ v ∧ 0 < w ∧ (v = 0 → mn = 0 ∧ w = 1) ∧ bl v ≤ 4096 ∧ bl w ≤ 4096) ∨
     (kd = 2 ∧ ∃ x c q, isRl n h zn x 0 ∧ vl x = .fin (sgB mn) c q ∧ un = (c : Int) ∧ pl = q) ∨
     (kd = 3 ∧ ∃ x, isRl n h zn x 0 ∧ vl x = .inf (sgB mn)) ∨
     (kd = 4 ∧ mn = 0 ∧ ∃ x, isRl n h zn x 1)))
theorem nuM.fr {n m' : Nat} {h h' : xH} {S : Nat → Prop} {z kd mn un pl v w : Int} (t : nuM n h z kd mn un pl v w) (e : hF S n h h') (hn : n ≤ m') (hs : ∀ i, 47 < i → ¬ S i) : nuM m' h' z kd mn un pl v w := by
  rcases t with t | ⟨zn, t0, tm, t | t | t | t⟩
  · exact Or.inl t
  · exact Or.inr ⟨zn, t0, tm, Or.inl ⟨t.1, t.2.1.fr e hn hs, t.2.2⟩⟩
  · obtain ⟨t1, x, c, q, t2, t3⟩ := t
    exact Or.inr ⟨zn, t0, tm, Or.inr (Or.inl ⟨t1, x, c, q, t2.fr e hn (hs _ t2.2.1), t3⟩)⟩
  · obtain ⟨t1, x, t2, t3⟩ := t
    exact Or.inr ⟨zn, t0, tm, Or.inr (Or.inr (Or.inl ⟨t1, x, t2.fr e hn (hs _ t2.2.1), t3⟩))⟩
  · obtain ⟨t1, t2, x, t3⟩ := t
    exact Or.inr ⟨zn, t0, tm, Or.inr (Or.inr (Or.inr ⟨t1, t2, x, t3.fr e hn (hs _ t3.2.1)⟩))⟩
theorem isRl.any {n : Nat} {h : xH} {z : Nat} {x : UInt64} {b : Int} (t : isRl n h z x b) : (z : Int) < 0 ∨ ((z : Int).toNat < n ∧ ((h (z : Int).toNat).1 = 5 ∨ (h (z : Int).toNat).1 = 6 ∨ (h (z : Int).toNat).1 = 7)) := by
  rw [Int.toNat_natCast]
  exact Or.inr ⟨t.1, Or.inr (Or.inl t.2.2.1)⟩
/-- isDouble -/
theorem sp_isDoubleY {G : xG} {l : Launch} {n : Nat} {h : xH} {wl tl : Int} {z : Nat} {x : UInt64} {b : Int} {Po : Int → xH → Prop} (tm : isM n h wl tl (z : Int)) (t : isRl n h z x b) (hp : Po 1 h) : S_X9_isDouble G l 26 n h Po := by
  refine S_X9_isDouble_of (fun k hl C E => X9_isDouble_b0 C E 26 n h rfl ?_)
  rw [tm.g25, xI_at, if_pos t.2.2.1]
  exact ⟨tm.ok, t.any, Or.inr rfl, hp⟩
theorem sp_isDoubleN {G : xG} {l : Launch} {n : Nat} {h : xH} {wl tl : Int} {z : Nat} {sg v w : Int} {Po : Int → xH → Prop} (tm : isM n h wl tl (z : Int)) (t : isEx n h z sg v w) (hp : Po 0 h) : S_X9_isDouble G l 26 n h Po := by
  refine S_X9_isDouble_of (fun k hl C E => X9_isDouble_b0 C E 26 n h rfl ?_)
  rw [tm.g25, xI_at, if_neg (by have := t.kd.2.2; omega)]
  exact ⟨tm.ok, t.any, Or.inl rfl, hp⟩
theorem sp_value {G : xG} {l : Launch} {n : Nat} {h : xH} {wl tl : Int} {z : Nat} {x : UInt64} {b : Int} {Po : UInt64 → xH → Prop} (tm : isM n h wl tl (z : Int)) (t : isRl n h z x b) (hp : Po x h) : S_X9_value G l 26 n h Po := by
  refine S_X9_value_of (fun k hl C E => X9_value_b0 C E 26 n h rfl ?_)
  have f0 : hG h z 0 = (x.toNat : Int) := t.2.2.2.1
  rw [tm.g25, Int.toNat_natCast, f0, Int.toNat_natCast, UInt64.ofNat_toNat]
  exact ⟨tm.ok, Or.inr ⟨t.1, t.2.2.1⟩, by omega, ⟨t.1, t.2.2.1⟩, hp⟩
theorem sp_kindM {G : xG} {l : Launch} {n : Nat} {h : xH} {wl tl z kd mn un pl v w : Int} {Po : Int → xH → Prop} (tm : isM n h wl tl z) (t : nuM n h z kd mn un pl v w) (hp : Po kd h) : S_X9_kind G l 26 n h Po := by
  refine S_X9_kind_of (fun k hl C E => X9_kind_b0 C E 26 n h rfl ?_)
  have w52 : ∀ z, z = kd → X9_kind_w52 G k z n h := fun z e => X9_kind_b52 C E z n h rfl (by rw [e]; exact hp)
  rw [tm.g25]
  rcases t with ⟨t1, t2, t3⟩ | ⟨zn, rfl, tmn, t | t | t | t⟩
  · exact ⟨tm.ok, fun g => by omega, fun _ => by rw [t1] at hp; exact hp⟩
  · refine ⟨tm.ok, fun _ => ⟨tm.ok, sp_isDoubleN tm t.2.1 ⟨rgS (by decide) (by decide), fun g => absurd rfl g, fun _ => w52 1 t.1.symm⟩⟩, fun g => by omega⟩
  · obtain ⟨t1, x, c, q, t2, t3, t4, t5⟩ := t
    refine ⟨tm.ok, fun _ => ⟨tm.ok, sp_isDoubleY tm t2 ⟨rgS (by decide) (by decide), fun _ => ?_, fun g => by omega⟩⟩, fun g => by omega⟩
    have f1 : hG h zn 1 = 0 := t2.2.2.2.2
    rw [tm.g25, Int.toNat_natCast, f1]
    exact ⟨tm.ok, Or.inr ⟨t2.1, t2.2.2.1⟩, by omega, ⟨t2.1, t2.2.2.1⟩, rgS (by decide) (by decide), fun _ => ⟨tm.ok, sp_value tm t2 (sp_isFiniteY t3 ⟨rgS (by decide) (by decide), fun g => by omega, fun _ => w52 2 t1.symm⟩)⟩, fun g => absurd rfl g⟩
  · obtain ⟨t1, x, t2, t3⟩ := t
    refine ⟨tm.ok, fun _ => ⟨tm.ok, sp_isDoubleY tm t2 ⟨rgS (by decide) (by decide), fun _ => ?_, fun g => by omega⟩⟩, fun g => by omega⟩
    have f1 : hG h zn 1 = 0 := t2.2.2.2.2
    rw [tm.g25, Int.toNat_natCast, f1]
    exact ⟨tm.ok, Or.inr ⟨t2.1, t2.2.2.1⟩, by omega, ⟨t2.1, t2.2.2.1⟩, rgS (by decide) (by decide), fun _ => ⟨tm.ok, sp_value tm t2 (sp_isFiniteN t3 ⟨rgS (by decide) (by decide), fun _ => w52 3 t1.symm, fun g => absurd rfl g⟩)⟩, fun g => absurd rfl g⟩
  · obtain ⟨t1, t4, x, t2⟩ := t
    refine ⟨tm.ok, fun _ => ⟨tm.ok, sp_isDoubleY tm t2 ⟨rgS (by decide) (by decide), fun _ => ?_, fun g => by omega⟩⟩, fun g => by omega⟩
    have f1 : hG h zn 1 = 1 := t2.2.2.2.2
    rw [tm.g25, Int.toNat_natCast, f1]
    exact ⟨tm.ok, Or.inr ⟨t2.1, t2.2.2.1⟩, by omega, ⟨t2.1, t2.2.2.1⟩, rgS (by decide) (by decide), fun g => by omega, fun _ => w52 4 t1.symm⟩
theorem sp_negZeroI {G : xG} {l : Launch} {n : Nat} {h : xH} {x : UInt64} {s : Bool} {Po : Int → xH → Prop} (hx : vl x = .inf s) (hp : Po 0 h) : S_X9_isNegativeZero G l x n h Po := by
  refine S_X9_isNegativeZero_of (fun k hl C E => ?_)
  have hz := (dC_z (op := .l) (nn_inf hx) nn_0).2.1
  rw [zD_inf hx, zD_0] at hz
  have hb := Nat.two_pow_pos 2098
  generalize 2 ^ 2098 = T at hz hb
  refine X9_isNegativeZero_b0 C E x n h rfl ⟨fun g => X9_isNegativeZero_b18 C E n h rfl (X9_isNegativeZero_b19 C E 0 n h rfl ⟨Or.inl rfl, hp⟩), fun g => ?_⟩
  have := hz.mp g
  unfold sZ at this
  cases s <;> simp at this <;> omega
theorem sp_negativeM {G : xG} {l : Launch} {n : Nat} {h : xH} {wl tl z kd mn un pl v w : Int} {Po : Int → xH → Prop} (tm : isM n h wl tl z) (t : nuM n h z kd mn un pl v w) (hp : Po mn h) : S_X9_negative G l 26 n h Po := by
  refine S_X9_negative_of (fun k hl C E => X9_negative_b0 C E 26 n h rfl ?_)
  rw [tm.g25]
  have w72 : ∀ z, z = mn → (z = 0 ∨ z = 1) → X9_negative_w72 G k z n h := fun z e hz => X9_negative_b72 C E z n h rfl ⟨hz, by rw [e]; exact hp⟩
  have w53 : ∀ z, z = mn → (z = 0 ∨ z = 1) → X9_negative_w53 G k z n h := fun z e hz => X9_negative_b53 C E z n h rfl ⟨hz, by rw [e]; exact hp⟩
  have w52 : mn = 0 → X9_negative_w52 G k n h := fun e => X9_negative_b52 C E n h rfl (w53 0 e.symm (Or.inl rfl))
  have w48 : mn = 1 → X9_negative_w48 G k n h := fun e => X9_negative_b48 C E n h rfl (w53 1 e.symm (Or.inr rfl))
  rcases t with ⟨t1, t2, t3⟩ | ⟨zn, rfl, tmn, t | t | t | t⟩
  · exact ⟨tm.ok, fun g => by omega, fun _ => ⟨Or.inl rfl, by rw [t3] at hp; exact hp⟩⟩
  · refine ⟨tm.ok, fun _ => ⟨tm.ok, sp_isDoubleN tm t.2.1 ⟨rgS (by decide) (by decide), fun _ => ?_, fun g => absurd rfl g⟩⟩, fun g => by omega⟩
    rw [tm.g25]
    refine ⟨tm.ok, sp_above t.2.1 (fun za ra sa ta _ => ?_)⟩
    rw [ta.f0]
    have hv := t.2.2.2.2.1
    refine ⟨ta.ok, ta.sg, fun g => w72 0 ?_ (Or.inl rfl), fun g => w72 1 ?_ (Or.inr rfl)⟩
    · split at g
      · rename_i e; rw [(hv e).1]
      · split at g <;> omega
    · split at g
      · omega
      · split at g <;> omega
  · obtain ⟨t1, x, c, q, t2, t3, t4, t5⟩ := t
    refine ⟨tm.ok, fun _ => ⟨tm.ok, sp_isDoubleY tm t2 ⟨rgS (by decide) (by decide), fun g => by omega, fun _ => ?_⟩⟩, fun g => by omega⟩
    have f1 : hG h zn 1 = 0 := t2.2.2.2.2
    rw [tm.g25, Int.toNat_natCast, f1]
    refine ⟨tm.ok, Or.inr ⟨t2.1, t2.2.2.1⟩, by omega, ⟨t2.1, t2.2.2.1⟩, rgS (by decide) (by decide), fun g => absurd rfl g, fun _ => ⟨tm.ok, sp_value tm t2 ?_⟩⟩
    have hz := (dC_z (op := .g) (nn_fin t3) nn_0).1
    rw [zD_fin t3, zD_0] at hz
    refine ⟨fun g => w48 ?_, fun g => ⟨tm.ok, sp_value tm t2 (sp_negZero t3 ⟨by split <;> exact rgS (by decide) (by decide), fun g2 => w52 ?_, fun g2 => w48 ?_⟩)⟩⟩
    · have := hz.mp g
      unfold sZ sgB at this
      rcases tmn with e | e
      · rw [e] at this; simp at this; omega
      · exact e
    · rcases tmn with e | e
      · exact e
      · exfalso
        have hs : sgB mn = true := by unfold sgB; rw [e]; decide
        split at g2
        · omega
        · rename_i hh
          have hc : 0 < c := by
            rcases Nat.eq_zero_or_pos c with y | y
            · exact absurd ⟨y, hs⟩ hh
            · exact y
          apply g
          apply hz.mpr
          unfold sZ
          rw [hs]
          have := Nat.mul_pos hc (Nat.two_pow_pos (q + 1074).toNat)
          show -((zv c q : Nat) : Int) < 0
          unfold zv; omega
    · split at g2
      · rename_i hh
        rcases tmn with e | e
        · have := hh.2; unfold sgB at this; rw [e] at this; simp at this
        · exact e
      · exact absurd rfl g2
  · obtain ⟨t1, x, t2, t3⟩ := t
    refine ⟨tm.ok, fun _ => ⟨tm.ok, sp_isDoubleY tm t2 ⟨rgS (by decide) (by decide), fun g => by omega, fun _ => ?_⟩⟩, fun g => by omega⟩
    have f1 : hG h zn 1 = 0 := t2.2.2.2.2
    rw [tm.g25, Int.toNat_natCast, f1]
    refine ⟨tm.ok, Or.inr ⟨t2.1, t2.2.2.1⟩, by omega, ⟨t2.1, t2.2.2.1⟩, rgS (by decide) (by decide), fun g => absurd rfl g, fun _ => ⟨tm.ok, sp_value tm t2 ?_⟩⟩
    have hz := (dC_z (op := .g) (nn_inf t3) nn_0).1
    rw [zD_inf t3, zD_0] at hz
    have hb := Nat.two_pow_pos 2098
    generalize 2 ^ 2098 = T at hz hb
    refine ⟨fun g => w48 ?_, fun g => ⟨tm.ok, sp_value tm t2 (sp_negZeroI t3 ⟨rgS (by decide) (by decide), fun _ => w52 ?_, fun g2 => absurd rfl g2⟩)⟩⟩
    · have := hz.mp g
      unfold sZ sgB at this
      rcases tmn with e | e
      · rw [e] at this; simp at this; omega
      · exact e
    · rcases tmn with e | e
      · exact e
      · exfalso
        apply g
        apply hz.mpr
        unfold sZ sgB
        rw [e]; simp; omega
  · obtain ⟨t1, t4, x, t2⟩ := t
    refine ⟨tm.ok, fun _ => ⟨tm.ok, sp_isDoubleY tm t2 ⟨rgS (by decide) (by decide), fun g => by omega, fun _ => ?_⟩⟩, fun g => by omega⟩
    have f1 : hG h zn 1 = 1 := t2.2.2.2.2
    rw [tm.g25, Int.toNat_natCast, f1]
    exact ⟨tm.ok, Or.inr ⟨t2.1, t2.2.2.1⟩, by omega, ⟨t2.1, t2.2.2.1⟩, rgS (by decide) (by decide), fun _ => w52 t4, fun g => by omega⟩
