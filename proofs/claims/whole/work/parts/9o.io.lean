/-! THE MODEL: out, back, type, clear -/
/-- the model's text -/
def isTx (h : xH) (T : List Int) : Prop := T.length ≤ 400 ∧ ∀ i, i < T.length → (h 47).2.2 i = T.getD i 0
theorem isTx.fr {n : Nat} {h h' : xH} {S : Nat → Prop} {T : List Int} (t : isTx h T) (e : hF S n h h') (hn : 47 < n) (h0 : ¬ S 47) : isTx h' T := ⟨t.1, by rw [(e 47 hn).2.2 h0]; exact t.2⟩
theorem sp_outM {G : xG} {l : Launch} {n : Nat} {h : xH} {O : List Int} {fc tl z i : Int} {Po : Int → xH → Prop} (t : isWr n h O fc tl z) (hi : rg i) (hp : Po (cd O i) h) : S_X9_out G l 26 i n h Po := by
  refine S_X9_out_of (fun k hl C E => ?_)
  have w22 : ∀ y, y = cd O i → X9_out_w22 G k y n h := fun y e => X9_out_b22 C E y n h rfl (by rw [e]; exact hp)
  have w12 : cd O i = -1 → X9_out_w12 G k n h := fun e => X9_out_b12 C E n h rfl (w22 (-1) e.symm)
  have hl := t.2.1
  refine X9_out_b0 C E 26 i n h rfl ⟨hi, fun g => w12 (by unfold cd; rw [if_neg (by omega)]), fun g => ?_⟩
  rw [t.1.g21]
  refine ⟨t.1.ok, ⟨hi, rg_nat (by omega)⟩, fun g2 => ?_, fun g2 => w12 (by unfold cd; rw [if_neg (by omega)])⟩
  rw [t.1.g20]
  refine ⟨t.1.ok, by decide, t.1.t46.at (by omega) (by omega), w22 _ ?_⟩
  unfold cd
  rw [if_pos (by omega)]
  exact t.2.2.1 i.toNat (by omega)
theorem sp_typeM {G : xG} {l : Launch} {n : Nat} {h : xH} {T : List Int} {wl z c : Int} {Po : Int → xH → Prop} (tm : isM n h wl (T.length : Int) z) (tt : isTx h T) (hc : rg c) (hy : 0 ≤ c → c ≤ 127 → T.length < 400 → ∀ h', hE (fun i => i = 26 ∨ i = 47) h h' → isM n h' wl ((T ++ [c]).length : Int) z → isTx h' (T ++ [c]) → (∀ k, k ≠ 24 → (h' 26).2.2 k = (h 26).2.2 k) → Po ((T.length : Int) + 1) h') (hn : ¬ (0 ≤ c ∧ c ≤ 127 ∧ T.length < 400) → Po (-1) h) : S_X9_type G l 26 c n h Po := by
  refine S_X9_type_of (fun k hl C E => ?_)
  have hT := tt.1
  have w20 : ¬ (0 ≤ c ∧ c ≤ 127 ∧ T.length < 400) → X9_type_w20 G k n h := fun y => X9_type_b20 C E n h rfl (hn y)
  refine X9_type_b0 C E 26 c n h rfl ⟨hc, fun g => w20 (by omega), fun g => ⟨⟨hc, rgS (by decide) (by decide)⟩, fun g2 => w20 (by omega), fun g2 => ?_⟩⟩
  rw [tm.g24, tm.g23, Int.toNat_natCast]
  refine ⟨tm.ok, ⟨rg_nat (by omega), rgS (by decide) (by decide)⟩, fun g3 => ⟨tm.ok, by decide, tm.ok, tm.t47.at (by omega) (by omega), fun h1 e1 => ?_⟩, fun g3 => w20 (by omega)⟩
  have e1' : hE (sC 47) h h1 := hE.put' (S := sC 47) e1 rfl
  have tm1 := tm.mv e1' (by decide) (by decide)
  rw [tm1.g24]
  refine ⟨tm1.ok, tm1.ok, fun h2 e2 => ?_⟩
  have tm2 : isM n h2 wl ((T.length : Int) + 1) z := tm1.set e2 (by decide)
  have e2' := hE26 e2
  rw [tm2.g24]
  refine ⟨tm2.ok, hy (by omega) (by omega) (by omega) h2 ((e1'.mono (fun i hi => Or.inr hi)).tr (e2'.mono (fun i hi => Or.inl hi))) ?_ ⟨by rw [List.length_append]; show T.length + 1 ≤ 400; omega, fun i hi => ?_⟩ (fun k hk => ?_)⟩
  · rw [List.length_append]; exact tm2
  · rw [List.length_append] at hi
    have hi2 : i < T.length + 1 := hi
    rw [(e2' 47).2.2 (by decide), e1, hS_g, getD_app]
    by_cases y : i < T.length
    · rw [if_neg (fun z => by have := z.2; omega), if_pos y]; exact tt.2 i y
    · rw [if_pos ⟨rfl, by omega⟩, if_neg y, if_pos (by omega)]
  · rw [e2, hS_g, if_neg (fun z => hk z.2), (e1' 26).2.2 (by decide)]
theorem sp_clearM {G : xG} {l : Launch} {n : Nat} {h : xH} {wl tl z : Int} {Po : xH → Prop} (tm : isM n h wl tl z) (hp : ∀ h', hE (sC 26) h h' → isM n h' wl 0 z → (∀ k, k ≠ 24 → (h' 26).2.2 k = (h 26).2.2 k) → Po h') : S_X9_clear G l 26 n h Po :=
  S_X9_clear_of (fun k hl C E => X9_clear_b0 C E 26 n h rfl ⟨tm.ok, fun h2 e2 => hp h2 (hE26 e2) (tm.set e2 (by decide)) (fun k hk => by rw [e2, hS_g, if_neg (fun z => hk z.2)])⟩)
theorem sp_backM {G : xG} {l : Launch} {n : Nat} {h : xH} {O : List Int} {fc tl z : Int} {Po : Int → xH → Prop} (t : isWr n h O fc tl z) (hy : O.length ≤ 400 → ∀ h', hE (fun i => i = 26 ∨ i = 47) h h' → isWr n h' O fc (O.length : Int) z → isTx h' O → Po 1 h') (hn : ¬ O.length ≤ 400 → Po 0 h) : S_X9_back G l 26 n h Po := by
  refine S_X9_back_of (fun k hl C E => X9_back_b0 C E 26 n h rfl ?_)
  have tm := t.1
  have hl := t.2.1
  rw [tm.g21]
  refine ⟨tm.ok, ⟨rg_nat (by omega), rgS (by decide) (by decide)⟩, fun g => ⟨tm.ok, tm.ok, fun h1 e1 => ?_⟩, fun g => ⟨Or.inl rfl, hn (by omega)⟩⟩
  have e1' := hE26 e1
  have tm1 : isM n h1 (O.length : Int) (O.length : Int) z := tm.set e1 (by decide)
  have t1 : isWr n h1 O fc (O.length : Int) z := ⟨tm1, hl, by rw [(e1' 46).2.2 (by decide)]; exact t.2.2.1, by rw [e1, hS_g, if_neg (by decide)]; exact t.2.2.2⟩
  suffices K : ∀ (u i : Nat) (h2 : xH), i + u = O.length → hE (sC 47) h1 h2 → (∀ j, j < i → (h2 47).2.2 j = O.getD j 0) → X9_back_w22 G k 26 i n h2 from K O.length 0 h1 (by omega) hE.rf (fun j hj => by omega)
  intro u
  induction u with
  | zero =>
    intro i h2 hi e2 hv
    have t2 := t1.mv e2 (by decide) (by decide) (by decide)
    refine X9_back_b22 C E 26 i n h2 rfl ?_
    rw [t2.1.g24]
    exact ⟨t2.1.ok, ⟨rg_nat (by omega), rg_nat (by omega)⟩, fun _ => ⟨Or.inr rfl, hy (by omega) h2 ((e1'.mono (fun i hi => Or.inl hi)).tr (e2.mono (fun i hi => Or.inr hi))) t2 ⟨by omega, fun j hj => hv j (by omega)⟩⟩, fun g => by omega⟩
  | succ u ih =>
    intro i h2 hi e2 hv
    have t2 := t1.mv e2 (by decide) (by decide) (by decide)
    refine X9_back_b22 C E 26 i n h2 rfl ?_
    rw [t2.1.g24, t2.1.g23, t2.1.g20]
    refine ⟨t2.1.ok, ⟨rg_nat (by omega), rg_nat (by omega)⟩, fun g => by omega, fun _ => ⟨t2.1.ok, by decide, t2.1.ok, by decide, t2.1.t46.at (by omega) (by omega), t2.1.t47.at (by omega) (by omega), fun h3 e3 => ?_⟩⟩
    rw [Int.toNat_natCast] at e3
    rw [show (i : Int) + 1 = ((i + 1 : Nat) : Int) by omega]
    refine ih (i + 1) h3 (by omega) (e2.tr (hE.put' (S := sC 47) e3 rfl)) (fun j hj => ?_)
    rw [e3]
    show (hS h2 47 i _ 47).2.2 j = _
    rw [hS_g]
    by_cases y : j = i
    · rw [if_pos ⟨rfl, y⟩, y]
      exact t2.2.2.1 i (by omega)
    · rw [if_neg (fun z => y z.2)]; exact hv j (by omega)
