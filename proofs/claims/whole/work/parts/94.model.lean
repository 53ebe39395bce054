/-! THE MODEL (cell 26) AND ITS ROWS (27 .. 47) -/
def mLen : List Nat := [1, 440, 440, 440, 440, 440, 440, 140, 540, 540, 540, 200, 200, 200, 200, 200, 200, 200, 24]
def tyM (n : Nat) (h : xH) : Prop := 47 < n ∧ (h 26).1 = 8 ∧ (∀ k, k ≤ 18 → (h 26).2.2 k = ((27 + k : Nat) : Int)) ∧ (h 26).2.2 20 = 46 ∧ (h 26).2.2 23 = 47 ∧ (∀ k, k ≤ 18 → (h (27 + k)).1 = 100 ∧ (h (27 + k)).2.1 = mLen.getD k 0) ∧ ((h 46).1 = 100 ∧ (h 46).2.1 = 8200) ∧ ((h 47).1 = 100 ∧ (h 47).2.1 = 400) ∧ (h 27).2.2 0 = 1
/-- the model: length of what is written, length of the text, the number's cell -/
def isM (n : Nat) (h : xH) (wl tl nm : Int) : Prop := tyM n h ∧ (h 26).2.2 21 = wl ∧ (h 26).2.2 24 = tl ∧ (h 26).2.2 25 = nm
theorem isM.ok {n : Nat} {h : xH} {wl tl nm : Int} (t : isM n h wl tl nm) : okO n h 26 8 := ⟨by have := t.1.1; omega, t.1.2.1⟩
theorem isM.mv {n : Nat} {h h' : xH} {S : Nat → Prop} {wl tl nm : Int} (t : isM n h wl tl nm) (e : hE S h h') (h0 : ¬ S 26) (h1 : ¬ S 27) : isM n h' wl tl nm := by
  obtain ⟨⟨t1, t2, t3, t4, t5, t6, t7, t8, t9⟩, t10, t11, t12⟩ := t
  have ea := (e 26).2.2 h0
  exact ⟨⟨t1, by rw [(e 26).1]; exact t2, by rw [ea]; exact t3, by rw [ea]; exact t4, by rw [ea]; exact t5, fun k hk => by rw [(e _).1, (e _).2.1]; exact t6 k hk, by rw [(e _).1, (e _).2.1]; exact t7, by rw [(e _).1, (e _).2.1]; exact t8, by rw [(e 27).2.2 h1]; exact t9⟩, by rw [ea]; exact t10, by rw [ea]; exact t11, by rw [ea]; exact t12⟩
theorem isM.fr {n m' : Nat} {h h' : xH} {S : Nat → Prop} {wl tl nm : Int} (t : isM n h wl tl nm) (e : hF S n h h') (hn : n ≤ m') (h0 : ¬ S 26) (h1 : ¬ S 27) : isM m' h' wl tl nm := by
  obtain ⟨⟨t1, t2, t3, t4, t5, t6, t7, t8, t9⟩, t10, t11, t12⟩ := t
  have ea := (e 26 (by omega)).2.2 h0
  exact ⟨⟨by omega, by rw [(e 26 (by omega)).1]; exact t2, by rw [ea]; exact t3, by rw [ea]; exact t4, by rw [ea]; exact t5, fun k hk => by rw [(e _ (by omega)).1, (e _ (by omega)).2.1]; exact t6 k hk, by rw [(e _ (by omega)).1, (e _ (by omega)).2.1]; exact t7, by rw [(e _ (by omega)).1, (e _ (by omega)).2.1]; exact t8, by rw [(e 27 (by omega)).2.2 h1]; exact t9⟩, by rw [ea]; exact t10, by rw [ea]; exact t11, by rw [ea]; exact t12⟩
/-- a field of the model is written -/
theorem isM.set {n : Nat} {h h' : xH} {wl tl nm : Int} {k : Nat} {z : Int} (t : isM n h wl tl nm) (e : h' = hS h 26 k z) (hk : k = 19 ∨ k = 21 ∨ k = 22 ∨ k = 24 ∨ k = 25) : isM n h' (if k = 21 then z else wl) (if k = 24 then z else tl) (if k = 25 then z else nm) := by
  obtain ⟨⟨t1, t2, t3, t4, t5, t6, t7, t8, t9⟩, t10, t11, t12⟩ := t
  have g : ∀ j, (h' 26).2.2 j = if j = k then z else (h 26).2.2 j := fun j => by rw [e, hS_g]; simp
  have gk : ∀ i, (h' i).1 = (h i).1 := fun i => by rw [e, hS_k]
  have gl : ∀ i, (h' i).2.1 = (h i).2.1 := fun i => by rw [e, hS_l]
  refine ⟨⟨t1, by rw [gk]; exact t2, fun j hj => by rw [g, if_neg (by omega)]; exact t3 j hj, by rw [g, if_neg (by omega)]; exact t4, by rw [g, if_neg (by omega)]; exact t5, fun j hj => by rw [gk, gl]; exact t6 j hj, by rw [gk, gl]; exact t7, by rw [gk, gl]; exact t8, by rw [e, hS_ne _ _ _ (by decide)]; exact t9⟩, ?_, ?_, ?_⟩
  · rw [g]
    rcases hk with z | z | z | z | z <;> subst z <;> simp [t10]
  · rw [g]
    rcases hk with z | z | z | z | z <;> subst z <;> simp [t11]
  · rw [g]
    rcases hk with z | z | z | z | z <;> subst z <;> simp [t12]
theorem isM.g0 {n : Nat} {h : xH} {wl tl nm : Int} (t : isM n h wl tl nm) : hG h 26 0 = 27 := t.1.2.2.1 0 (by decide)
theorem isM.t27 {n : Nat} {h : xH} {wl tl nm : Int} (t : isM n h wl tl nm) : tyR n h 27 1 := ⟨by have := t.1.1; omega, (t.1.2.2.2.2.2.1 0 (by decide)).1, (t.1.2.2.2.2.2.1 0 (by decide)).2, by decide⟩
theorem isM.g1 {n : Nat} {h : xH} {wl tl nm : Int} (t : isM n h wl tl nm) : hG h 26 1 = 28 := t.1.2.2.1 1 (by decide)
theorem isM.t28 {n : Nat} {h : xH} {wl tl nm : Int} (t : isM n h wl tl nm) : tyR n h 28 440 := ⟨by have := t.1.1; omega, (t.1.2.2.2.2.2.1 1 (by decide)).1, (t.1.2.2.2.2.2.1 1 (by decide)).2, by decide⟩
theorem isM.g2 {n : Nat} {h : xH} {wl tl nm : Int} (t : isM n h wl tl nm) : hG h 26 2 = 29 := t.1.2.2.1 2 (by decide)
theorem isM.t29 {n : Nat} {h : xH} {wl tl nm : Int} (t : isM n h wl tl nm) : tyR n h 29 440 := ⟨by have := t.1.1; omega, (t.1.2.2.2.2.2.1 2 (by decide)).1, (t.1.2.2.2.2.2.1 2 (by decide)).2, by decide⟩
theorem isM.g3 {n : Nat} {h : xH} {wl tl nm : Int} (t : isM n h wl tl nm) : hG h 26 3 = 30 := t.1.2.2.1 3 (by decide)
theorem isM.t30 {n : Nat} {h : xH} {wl tl nm : Int} (t : isM n h wl tl nm) : tyR n h 30 440 := ⟨by have := t.1.1; omega, (t.1.2.2.2.2.2.1 3 (by decide)).1, (t.1.2.2.2.2.2.1 3 (by decide)).2, by decide⟩
theorem isM.g4 {n : Nat} {h : xH} {wl tl nm : Int} (t : isM n h wl tl nm) : hG h 26 4 = 31 := t.1.2.2.1 4 (by decide)
theorem isM.t31 {n : Nat} {h : xH} {wl tl nm : Int} (t : isM n h wl tl nm) : tyR n h 31 440 := ⟨by have := t.1.1; omega, (t.1.2.2.2.2.2.1 4 (by decide)).1, (t.1.2.2.2.2.2.1 4 (by decide)).2, by decide⟩
theorem isM.g5 {n : Nat} {h : xH} {wl tl nm : Int} (t : isM n h wl tl nm) : hG h 26 5 = 32 := t.1.2.2.1 5 (by decide)
theorem isM.t32 {n : Nat} {h : xH} {wl tl nm : Int} (t : isM n h wl tl nm) : tyR n h 32 440 := ⟨by have := t.1.1; omega, (t.1.2.2.2.2.2.1 5 (by decide)).1, (t.1.2.2.2.2.2.1 5 (by decide)).2, by decide⟩
theorem isM.g6 {n : Nat} {h : xH} {wl tl nm : Int} (t : isM n h wl tl nm) : hG h 26 6 = 33 := t.1.2.2.1 6 (by decide)
theorem isM.t33 {n : Nat} {h : xH} {wl tl nm : Int} (t : isM n h wl tl nm) : tyR n h 33 440 := ⟨by have := t.1.1; omega, (t.1.2.2.2.2.2.1 6 (by decide)).1, (t.1.2.2.2.2.2.1 6 (by decide)).2, by decide⟩
theorem isM.g7 {n : Nat} {h : xH} {wl tl nm : Int} (t : isM n h wl tl nm) : hG h 26 7 = 34 := t.1.2.2.1 7 (by decide)
theorem isM.t34 {n : Nat} {h : xH} {wl tl nm : Int} (t : isM n h wl tl nm) : tyR n h 34 140 := ⟨by have := t.1.1; omega, (t.1.2.2.2.2.2.1 7 (by decide)).1, (t.1.2.2.2.2.2.1 7 (by decide)).2, by decide⟩
theorem isM.g8 {n : Nat} {h : xH} {wl tl nm : Int} (t : isM n h wl tl nm) : hG h 26 8 = 35 := t.1.2.2.1 8 (by decide)
theorem isM.t35 {n : Nat} {h : xH} {wl tl nm : Int} (t : isM n h wl tl nm) : tyR n h 35 540 := ⟨by have := t.1.1; omega, (t.1.2.2.2.2.2.1 8 (by decide)).1, (t.1.2.2.2.2.2.1 8 (by decide)).2, by decide⟩
theorem isM.g9 {n : Nat} {h : xH} {wl tl nm : Int} (t : isM n h wl tl nm) : hG h 26 9 = 36 := t.1.2.2.1 9 (by decide)
theorem isM.t36 {n : Nat} {h : xH} {wl tl nm : Int} (t : isM n h wl tl nm) : tyR n h 36 540 := ⟨by have := t.1.1; omega, (t.1.2.2.2.2.2.1 9 (by decide)).1, (t.1.2.2.2.2.2.1 9 (by decide)).2, by decide⟩
theorem isM.g10 {n : Nat} {h : xH} {wl tl nm : Int} (t : isM n h wl tl nm) : hG h 26 10 = 37 := t.1.2.2.1 10 (by decide)
theorem isM.t37 {n : Nat} {h : xH} {wl tl nm : Int} (t : isM n h wl tl nm) : tyR n h 37 540 := ⟨by have := t.1.1; omega, (t.1.2.2.2.2.2.1 10 (by decide)).1, (t.1.2.2.2.2.2.1 10 (by decide)).2, by decide⟩
theorem isM.g11 {n : Nat} {h : xH} {wl tl nm : Int} (t : isM n h wl tl nm) : hG h 26 11 = 38 := t.1.2.2.1 11 (by decide)
theorem isM.t38 {n : Nat} {h : xH} {wl tl nm : Int} (t : isM n h wl tl nm) : tyR n h 38 200 := ⟨by have := t.1.1; omega, (t.1.2.2.2.2.2.1 11 (by decide)).1, (t.1.2.2.2.2.2.1 11 (by decide)).2, by decide⟩
theorem isM.g12 {n : Nat} {h : xH} {wl tl nm : Int} (t : isM n h wl tl nm) : hG h 26 12 = 39 := t.1.2.2.1 12 (by decide)
theorem isM.t39 {n : Nat} {h : xH} {wl tl nm : Int} (t : isM n h wl tl nm) : tyR n h 39 200 := ⟨by have := t.1.1; omega, (t.1.2.2.2.2.2.1 12 (by decide)).1, (t.1.2.2.2.2.2.1 12 (by decide)).2, by decide⟩
theorem isM.g13 {n : Nat} {h : xH} {wl tl nm : Int} (t : isM n h wl tl nm) : hG h 26 13 = 40 := t.1.2.2.1 13 (by decide)
theorem isM.t40 {n : Nat} {h : xH} {wl tl nm : Int} (t : isM n h wl tl nm) : tyR n h 40 200 := ⟨by have := t.1.1; omega, (t.1.2.2.2.2.2.1 13 (by decide)).1, (t.1.2.2.2.2.2.1 13 (by decide)).2, by decide⟩
theorem isM.g14 {n : Nat} {h : xH} {wl tl nm : Int} (t : isM n h wl tl nm) : hG h 26 14 = 41 := t.1.2.2.1 14 (by decide)
theorem isM.t41 {n : Nat} {h : xH} {wl tl nm : Int} (t : isM n h wl tl nm) : tyR n h 41 200 := ⟨by have := t.1.1; omega, (t.1.2.2.2.2.2.1 14 (by decide)).1, (t.1.2.2.2.2.2.1 14 (by decide)).2, by decide⟩
theorem isM.g15 {n : Nat} {h : xH} {wl tl nm : Int} (t : isM n h wl tl nm) : hG h 26 15 = 42 := t.1.2.2.1 15 (by decide)
theorem isM.t42 {n : Nat} {h : xH} {wl tl nm : Int} (t : isM n h wl tl nm) : tyR n h 42 200 := ⟨by have := t.1.1; omega, (t.1.2.2.2.2.2.1 15 (by decide)).1, (t.1.2.2.2.2.2.1 15 (by decide)).2, by decide⟩
theorem isM.g16 {n : Nat} {h : xH} {wl tl nm : Int} (t : isM n h wl tl nm) : hG h 26 16 = 43 := t.1.2.2.1 16 (by decide)
theorem isM.t43 {n : Nat} {h : xH} {wl tl nm : Int} (t : isM n h wl tl nm) : tyR n h 43 200 := ⟨by have := t.1.1; omega, (t.1.2.2.2.2.2.1 16 (by decide)).1, (t.1.2.2.2.2.2.1 16 (by decide)).2, by decide⟩
theorem isM.g17 {n : Nat} {h : xH} {wl tl nm : Int} (t : isM n h wl tl nm) : hG h 26 17 = 44 := t.1.2.2.1 17 (by decide)
theorem isM.t44 {n : Nat} {h : xH} {wl tl nm : Int} (t : isM n h wl tl nm) : tyR n h 44 200 := ⟨by have := t.1.1; omega, (t.1.2.2.2.2.2.1 17 (by decide)).1, (t.1.2.2.2.2.2.1 17 (by decide)).2, by decide⟩
theorem isM.g18 {n : Nat} {h : xH} {wl tl nm : Int} (t : isM n h wl tl nm) : hG h 26 18 = 45 := t.1.2.2.1 18 (by decide)
theorem isM.t45 {n : Nat} {h : xH} {wl tl nm : Int} (t : isM n h wl tl nm) : tyR n h 45 24 := ⟨by have := t.1.1; omega, (t.1.2.2.2.2.2.1 18 (by decide)).1, (t.1.2.2.2.2.2.1 18 (by decide)).2, by decide⟩
theorem isM.g20 {n : Nat} {h : xH} {wl tl nm : Int} (t : isM n h wl tl nm) : hG h 26 20 = 46 := t.1.2.2.2.1
theorem isM.g23 {n : Nat} {h : xH} {wl tl nm : Int} (t : isM n h wl tl nm) : hG h 26 23 = 47 := t.1.2.2.2.2.1
theorem isM.g21 {n : Nat} {h : xH} {wl tl nm : Int} (t : isM n h wl tl nm) : hG h 26 21 = wl := t.2.1
theorem isM.g24 {n : Nat} {h : xH} {wl tl nm : Int} (t : isM n h wl tl nm) : hG h 26 24 = tl := t.2.2.1
theorem isM.g25 {n : Nat} {h : xH} {wl tl nm : Int} (t : isM n h wl tl nm) : hG h 26 25 = nm := t.2.2.2
theorem isM.t46 {n : Nat} {h : xH} {wl tl nm : Int} (t : isM n h wl tl nm) : tyR n h 46 8200 := ⟨by have := t.1.1; omega, t.1.2.2.2.2.2.2.1.1, t.1.2.2.2.2.2.2.1.2, by decide⟩
theorem isM.t47 {n : Nat} {h : xH} {wl tl nm : Int} (t : isM n h wl tl nm) : tyR n h 47 400 := ⟨t.1.1, t.1.2.2.2.2.2.2.2.1.1, t.1.2.2.2.2.2.2.2.1.2, by decide⟩
theorem isM.one {n : Nat} {h : xH} {wl tl nm : Int} (t : isM n h wl tl nm) : isT n h 27 1 1 1 := by
  have e : (h 27).2.2 0 = 1 := t.1.2.2.2.2.2.2.2.2
  refine ⟨t.t27, by decide, fun i hi => ?_, ?_, fun u hu => ?_⟩
  · have : i = 0 := by omega
    rw [this, e]; decide
  · show 0 + (h 27).2.2 0 * 10000 ^ 0 = 1
    rw [e]; decide
  · have : u = 0 := by omega
    rw [this, e]; decide
/-- THE GREATEST COMMON DIVISOR -/
theorem sp_gcd {G : xG} {l : Launch} {n : Nat} {h : xH} {wl tl nm : Int} {a b m m' s t : Nat} {A B : Nat} {Po : Int → xH → Prop} (tm : isM n h wl tl nm) (ta : isT n h a m s (A : Int)) (tb : isT n h b m' t (B : Int)) (ha : a ≠ 30 ∧ a ≠ 31) (hb : b ≠ 30 ∧ b ≠ 31) (hs : s < 440) (ht : t < 440) (hA : 0 < A) (hp : ∀ (h' : xH) (x r : Nat), hE (fun i => i = 26 ∨ i = 30 ∨ i = 31) h h' → isM n h' wl tl nm → (x = 30 ∨ x = 31) → (h' 26).2.2 22 = (x : Int) → isT n h' x 440 r (Nat.gcd A B : Nat) → Po r h') : S_X9_gcd G l 26 a s b t n h Po := by
  refine S_X9_gcd_of (fun k hl C E => X9_gcd_b0 C E 26 a s b t n h rfl ?_)
  rw [tm.g3, tm.g4]
  refine ⟨tm.ok, by decide, tm.ok, by decide, sp_copyW ta tm.t30 ha.1 (by omega) (fun h1 e1 t1 _ => ?_)⟩
  have tb1 := tb.mv e1 hb.1
  refine sp_copyW tb1 (tm.t31.mv e1) hb.2 (by omega) (fun h2 e2 t2 _ => ?_)
  have t12 := t1.mv e2 (by decide)
  have e02 : hE (fun i => i = 26 ∨ i = 30 ∨ i = 31) h h2 := (e1.mono (fun i hi => Or.inr (Or.inl hi))).tr (e2.mono (fun i hi => Or.inr (Or.inr hi)))
  have tm2 : isM n h2 wl tl nm := (tm.mv e1 (by decide) (by decide)).mv e2 (by decide) (by decide)
  suffices K : ∀ (N Y X : Nat) (x y xs ys : Nat) (h1 : xH), Y ≤ N → ((x = 30 ∧ y = 31) ∨ (x = 31 ∧ y = 30)) → hE (fun i => i = 26 ∨ i = 30 ∨ i = 31) h h1 → isM n h1 wl tl nm → isT n h1 x 440 xs (X : Int) → isT n h1 y 440 ys (Y : Int) → xs < 440 → ys < 440 → Nat.gcd X Y = Nat.gcd A B → X9_gcd_w34 G k 26 x y xs ys n h1 from K B B A 30 31 s t h2 (Nat.le_refl _) (Or.inl ⟨rfl, rfl⟩) e02 tm2 t12 t2 hs ht rfl
  intro N
  induction N with
  | zero =>
    intro Y X x y xs ys h1 hN hxy e1 tm1 tx ty hxs hys hg
    have hY : Y = 0 := by omega
    subst hY
    have hy0 : ys = 0 := by
      rcases Nat.eq_zero_or_pos ys with z | z
      · exact z
      · have := ty.pos.mpr z; omega
    subst hy0
    refine X9_gcd_b34 C E 26 x y xs 0 n h1 rfl ⟨rgS (by decide) (by decide), fun _ => ⟨tm1.ok, fun h4 e4 => ?_⟩, fun g => by omega⟩
    have tm4 := tm1.set e4 (by decide)
    rw [Nat.gcd_zero_right] at hg
    subst hg
    exact hp h4 x xs (e1.tr (hE.put' (S := fun i => i = 26 ∨ i = 30 ∨ i = 31) e4 (Or.inl rfl))) tm4 (by omega) (by rw [e4, hS_g, if_pos ⟨rfl, rfl⟩]) (tx.mv (hE.put' (S := fun i => i = 26) e4 rfl) (by omega))
  | succ N ih =>
    intro Y X x y xs ys h1 hN hxy e1 tm1 tx ty hxs hys hg
    rcases Nat.eq_zero_or_pos Y with hY | hY
    · exact ih Y X x y xs ys h1 (by omega) hxy e1 tm1 tx ty hxs hys hg
    · have hyp : 0 < ys := ty.pos.mp (by omega)
      have hg2 : Nat.gcd Y (X % Y) = Nat.gcd A B := by rw [← hg, Nat.gcd_comm X Y, Nat.gcd_rec Y X, Nat.gcd_comm]
      have hmod : X % Y ≤ N := by have := Nat.mod_lt X hY; omega
      refine X9_gcd_b34 C E 26 x y xs ys n h1 rfl ⟨rg_nat (by omega), fun g => by omega, fun _ => ⟨⟨rg_nat (by omega), rg_nat (by omega)⟩, fun g => ?_, fun g => ⟨tx.1.at (by omega) (by omega), fun h4 e4 => ?_⟩⟩⟩
      · have hlt : X < Y := by
          have h3 := tx.val.2.1
          have h4 := ty.val.2.2.2 (ys - 1) (by omega)
          have h5 := T_mono (a := xs) (b := ys - 1) (by omega)
          omega
        have em : X % Y = X := Nat.mod_eq_of_lt hlt
        rw [em] at hg2
        exact X9_gcd_b66 C E 26 x y xs ys n h1 rfl (ih X Y y x ys xs h1 (by omega) (by omega) e1 tm1 ty tx hys hxs hg2)
      · rw [Int.toNat_natCast] at e4
        have e14 : hE (fun i => i = 26 ∨ i = 30 ∨ i = 31) h1 h4 := hE.put' (S := fun i => i = 26 ∨ i = 30 ∨ i = 31) e4 (by omega)
        have e14' : hE (sC x) h1 h4 := hE.put' (S := sC x) e4 rfl
        have hg4 : ∀ j, (h4 x).2.2 j = if j = xs then 0 else (h1 x).2.2 j := fun j => by rw [e4, hS_g]; simp
        have tx4 : isT n h4 x 440 xs (X : Int) := by
          refine ⟨tx.1.mv e14, by omega, fun i hi => ?_, ?_, fun u hu => ?_⟩
          · rw [hg4, if_neg (by omega)]; exact tx.2.2.1 i hi
          · rw [← tx.2.2.2.1]; exact rv_congr (fun i hi => by rw [hg4, if_neg (by omega)])
          · rw [hg4, if_neg (by omega)]; exact tx.2.2.2.2 u hu
        have ty4 := ty.mv e14' (show ¬ y = x by omega)
        refine sp_divideRows tx4 ty4 (by omega) (by omega) (by omega) hxs (by rw [hg4, if_pos rfl]) (Or.inl (by decide)) (fun h5 r e5 tr hr _ => ?_)
        have e5' : hE (sC x) h4 h5 := e5.mono (fun i hi => by
          rcases hi with z | z
          · exact z
          · omega)
        have e15 : hE (fun i => i = 26 ∨ i = 30 ∨ i = 31) h1 h5 := e14.tr (e5'.mono (fun i hi => by
          have hi2 : i = x := hi
          omega))
        rw [show (X : Int) % (Y : Int) = ((X % Y : Nat) : Int) by omega] at tr
        exact X9_gcd_b66 C E 26 x y r ys n h5 rfl (ih (X % Y) Y y x ys r h5 hmod (by omega) (e1.tr e15) ((tm1.mv e14' (show ¬ 26 = x by omega) (show ¬ 27 = x by omega)).mv e5' (show ¬ 26 = x by omega) (show ¬ 27 = x by omega)) (ty4.mv e5' (show ¬ y = x by omega)) tr hys (by omega) hg2)
/-- A ROW DIVIDED BY THE COMMON DIVISOR -/
theorem sp_reduced {G : xG} {l : Launch} {n : Nat} {h : xH} {wl tl nm : Int} {a m s c x r : Nat} {A g : Int} {Po : Int → xH → Prop} (tm : isM n h wl tl nm) (ta : isT n h a m s A) (tx : isT n h x 440 r g) (hx : x = 30 ∨ x = 31) (hcx : (h 26).2.2 22 = (x : Int)) (ha : a ≠ 28 ∧ a ≠ c) (hc : c = 32 ∨ c = 33) (hs : s < 440) (hg : 0 < g) (hgA : g ≤ A) (hp : ∀ (h' : xH) (r' : Nat), hE (fun i => i = 28 ∨ i = c) h h' → isT n h' c 440 r' (A / g) → Po r' h') : S_X9_reduced G l 26 a s r c n h Po := by
  refine S_X9_reduced_of (fun k hl C E => X9_reduced_b0 C E 26 a s r c n h rfl ?_)
  rw [tm.g1]
  have tyc : tyR n h c 440 := by
    rcases hc with z | z
    · rw [z]; exact tm.t32
    · rw [z]; exact tm.t33
  refine ⟨tm.ok, by decide, sp_copyW ta tm.t28 ha.1 (by omega) (fun h1 e1 t1 z1 => ?_)⟩
  have tm1 := tm.mv e1 (by decide) (by decide)
  have tx1 := tx.mv e1 (show ¬ x = 28 by omega)
  have hcx1 : hG h1 26 22 = (x : Int) := by
    show (h1 26).2.2 22 = _
    rw [(e1 26).2.2 (by decide)]; exact hcx
  have tyc1 := tyc.mv e1
  have hr := tx.2.1
  have hr0 : 0 < r := tx.pos.mp hg
  have hrs : r ≤ s := tx.len (k := s) (by have := ta.val.2.1; omega)
  have e1' : hE (fun i => i = 28 ∨ i = c) h h1 := e1.mono (fun i hi => Or.inl hi)
  have w36 : X9_reduced_w36 G k 26 s r c n h1 := by
    refine X9_reduced_b36 C E 26 s r c n h1 rfl ?_
    rw [tm1.g1]
    refine ⟨tm1.ok, by decide, sp_copyRow (s := 0) t1.1 tyc1 (by omega) (by omega) (fun h2 e2 hv2 => ?_)⟩
    have tm2 := tm1.mv e2 (show ¬ 26 = c by omega) (show ¬ 27 = c by omega)
    have t2 := t1.mv e2 (show ¬ 28 = c by omega)
    have tx2 := tx1.mv e2 (show ¬ x = c by omega)
    have hcx2 : hG h2 26 22 = (x : Int) := by
      show (h2 26).2.2 22 = _
      rw [(e2 26).2.2 (show ¬ 26 = c by omega)]; exact hcx1
    rw [tm2.g1, hcx2]
    refine ⟨tm2.ok, by decide, tm2.ok, by omega, ?_⟩
    refine sp_divideRows t2 tx2 (show (28 : Nat) ≠ x by omega) hrs hg hs (by show (h2 28).2.2 s = 0; rw [(e2 28).2.2 (show ¬ 28 = c by omega)]; exact z1 s (Nat.le_refl _) (by omega)) (Or.inr ⟨by omega, by rw [Int.toNat_natCast]; show c ≠ 28; omega, by rw [Int.toNat_natCast]; show c ≠ x; omega, 440, by rw [Int.toNat_natCast]; exact tyc1.mv e2, by omega⟩) (fun h3 r3 e3 _ _ hq3 => ?_)
    obtain ⟨d3, v3, _⟩ := hq3 (by omega)
    rw [Int.toNat_natCast] at d3 v3 e3
    rw [show (s : Int) - r + 1 = ((s - r + 1 : Nat) : Int) by omega]
    have tyc3 := (tyc1.mv e2).mv e3
    refine sp_used (s - r + 1) tyc3 (by omega) d3 (fun s' hs' ts' _ => ?_)
    rw [v3] at ts'
    refine hp h3 s' (e1'.tr ((e2.mono (fun i hi => Or.inr hi)).tr (e3.mono (fun i hi => ?_)))) ts'
    rcases hi with z | z
    · exact Or.inl z
    · exact Or.inr z.2
  refine ⟨⟨rg_nat (by omega), rgS (by decide) (by decide)⟩, fun _ => w36, fun g1 => ?_⟩
  have hr1 : r = 1 := by omega
  subst hr1
  rw [hcx1, Int.toNat_natCast]
  have d0 := tx1.2.2.1 0 (by decide)
  refine ⟨tm1.ok, by omega, tx1.1.at (by decide) (by decide), ⟨rgS (by show _ ≤ (h1 x).2.2 0; omega) (by show (h1 x).2.2 0 ≤ _; omega), rgS (by decide) (by decide)⟩, fun _ => w36, fun g2 => ?_⟩
  have hg1 : g = 1 := by
    rw [← tx1.2.2.2.1]
    show 0 + (h1 x).2.2 0 * 10000 ^ 0 = 1
    have g3 : (h1 x).2.2 0 = 1 := g2
    rw [g3]; decide
  rw [tm1.g1]
  refine ⟨tm1.ok, by decide, sp_copyW t1 tyc1 (show (28 : Nat) ≠ c by omega) (by omega) (fun h2 e2 t2 _ => hp h2 s (e1'.tr (e2.mono (fun i hi => Or.inr hi))) ?_)⟩
  rw [hg1, Int.ediv_one]; exact t2
