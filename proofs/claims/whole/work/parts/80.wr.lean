/-! WRITING: the shortest digits -/
theorem sp_digitAt {G : xG} {l : Launch} {n : Nat} {h : xH} {L : List Int} {pt : Int} {i : Nat} {Po : Int → xH → Prop} (t : isQ n h L pt) (hi : i ≤ 1000) (hp : Po (L.getD i 0) h) : S_X3_digitAt G l 14 i n h Po := by
  refine S_X3_digitAt_of (fun k hl C E => ?_)
  have ln := t.2.2.2.1
  have hn := t.1.1
  have w28 : ∀ z, Po z h → X3_digitAt_w28 G k z n h := fun z y => X3_digitAt_b28 C E z n h rfl y
  have w27 : L.length ≤ i → X3_digitAt_w27 G k n h := fun y => X3_digitAt_b27 C E n h rfl (w28 0 (by
    rw [List.getD_eq_getElem?_getD, List.getElem?_eq_none y] at hp
    exact hp))
  refine X3_digitAt_b0 C E 14 i n h rfl ⟨rg_nat (by omega), fun g => by omega, fun g => ⟨t.ok, ⟨rg_nat (by omega), by rw [t.f1]; exact rg_nat (by omega)⟩, fun g2 => w27 (by rw [t.f1] at g2; omega), fun g2 => ⟨⟨rg_nat (by omega), rgS (by decide) (by decide)⟩, fun g3 => w27 (by omega), fun g3 => ?_⟩⟩⟩
  rw [t.f1] at g2
  rw [t.f0]
  refine ⟨t.ok, by decide, ⟨by show 15 < n; omega, t.1.2.2.2.1, by omega, by show (i : Int) < ((h 15).2.1 : Int); rw [t.1.2.2.2.2]; omega, by omega⟩, w28 _ ?_⟩
  rw [Int.toNat_natCast]
  show Po ((h 15).2.2 i) h
  rw [t.2.2.2.2 i (by omega)]
  exact hp
theorem sp_appShort {G : xG} {l : Launch} {n : Nat} {h : xH} {L O : List Int} {pt kd mn un pl : Int} {c m a b : Nat} {Po : xH → Prop} (t : isD n h kd mn un pl) (tq : isQ n h L pt) (q : isL n h 4 c m O) (hc : c = 5 ∨ 25 < c) (hab : a ≤ b) (hb : b ≤ 500) (hr : O.length + (b - a) ≤ m) (hL : ∀ i, 0 ≤ L.getD i 0 ∧ L.getD i 0 ≤ 20) (hp : ∀ h', hE (sL 4 c) h h' → isL n h' 4 c m (O ++ (List.range' a (b - a)).map (fun i => 48 + L.getD i 0)) → Po h') : S_X4_appendShortest G l 0 a b n h Po := by
  refine S_X4_appendShortest_of (fun k hl C E => X4_appendShortest_b0 C E 0 a b n h rfl ?_)
  have n0 : ∀ {i : Nat}, i ≠ 4 → i ≠ c → ¬ sL 4 c i := by
    intro i h1 h2
    rintro (z | z)
    · exact h1 z
    · exact h2 z
  suffices K : ∀ (u i : Nat) (M : List Int) (h1 : xH), i + u = b → M.length + u ≤ m → hE (sL 4 c) h h1 → isL n h1 4 c m M → (∀ h', hE (sL 4 c) h h' → isL n h' 4 c m (M ++ (List.range' i u).map (fun i => 48 + L.getD i 0)) → Po h') → X4_appendShortest_w2 G k 0 b i n h1 from K (b - a) a O h (by omega) hr hE.rf q hp
  intro u
  induction u with
  | zero =>
    intro i M h1 hi hM he q1 hp1
    refine X4_appendShortest_b2 C E 0 b i n h1 rfl ⟨⟨rg_nat (by omega), rg_nat (by omega)⟩, fun _ => hp1 h1 he ?_, fun g => by omega⟩
    rw [List.range'_zero, List.map_nil, List.append_nil]
    exact q1
  | succ u ih =>
    intro i M h1 hi hM he q1 hp1
    have t1 := t.mv he (n0 (by decide) (by omega))
    have tq1 := tq.mv he (n0 (by decide) (by omega)) (n0 (by decide) (by omega))
    refine X4_appendShortest_b2 C E 0 b i n h1 rfl ⟨⟨rg_nat (by omega), rg_nat (by omega)⟩, fun g => by omega, fun _ => ?_⟩
    rw [t1.f2, t1.f11]
    have hd := hL i
    refine ⟨t1.ok, by decide, t1.ok, by decide, tq1.ok, sp_digitAt tq1 (by omega) ⟨q1.ok, sp_app q1 (by omega) ⟨by omega, by omega⟩ (fun h2 e2 q2 => ?_)⟩⟩
    refine ih (i + 1) (M ++ [48 + L.getD i 0]) h2 (by omega) (by rw [List.length_append]; show M.length + 1 + u ≤ m; omega) (he.tr e2) q2 (fun h' e' q' => hp1 h' e' ?_)
    rw [List.range'_succ, List.map_cons]
    rw [List.append_assoc] at q'
    exact q'
