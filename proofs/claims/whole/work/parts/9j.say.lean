/-! THE MODEL: what is written -/
/-- the model has written L; fc digits are found -/
def isWr (n : Nat) (h : xH) (L : List Int) (fc tl nm : Int) : Prop := isM n h (L.length : Int) tl nm ∧ L.length ≤ 8200 ∧ (∀ i, i < L.length → (h 46).2.2 i = L.getD i 0) ∧ (h 26).2.2 19 = fc
abbrev sS : Nat → Prop := fun i => i = 26 ∨ i = 46
theorem isWr.mv {n : Nat} {h h' : xH} {S : Nat → Prop} {L : List Int} {fc tl nm : Int} (t : isWr n h L fc tl nm) (e : hE S h h') (h0 : ¬ S 26) (h1 : ¬ S 27) (h2 : ¬ S 46) : isWr n h' L fc tl nm := by
  obtain ⟨t1, t2, t3, t4⟩ := t
  exact ⟨t1.mv e h0 h1, t2, by rw [(e 46).2.2 h2]; exact t3, by rw [(e 26).2.2 h0]; exact t4⟩
theorem isWr.fr {n m' : Nat} {h h' : xH} {S : Nat → Prop} {L : List Int} {fc tl nm : Int} (t : isWr n h L fc tl nm) (e : hF S n h h') (hn : n ≤ m') (h0 : ¬ S 26) (h1 : ¬ S 27) (h2 : ¬ S 46) : isWr m' h' L fc tl nm := by
  obtain ⟨t1, t2, t3, t4⟩ := t
  have h47 := t1.1.1
  exact ⟨t1.fr e hn h0 h1, t2, by rw [(e 46 (by omega)).2.2 h2]; exact t3, by rw [(e 26 (by omega)).2.2 h0]; exact t4⟩
theorem sp_say {G : xG} {l : Launch} {n : Nat} {h : xH} {L : List Int} {fc tl nm x : Int} {Po : xH → Prop} (t : isWr n h L fc tl nm) (hlt : L.length < 8200) (hp : ∀ h', hE sS h h' → isWr n h' (L ++ [x]) fc tl nm → Po h') : S_X9_say G l 26 x n h Po := by
  refine S_X9_say_of (fun k hl C E => X9_say_b0 C E 26 x n h rfl ?_)
  obtain ⟨tm, t2, t3, t4⟩ := t
  rw [tm.g20, tm.g21, Int.toNat_natCast]
  refine ⟨tm.ok, by decide, tm.ok, tm.t46.at (by omega) (by omega), fun h5 e5 => ?_⟩
  have e5' : hE (sC 46) h h5 := hE.put' (S := sC 46) e5 rfl
  have tm5 := tm.mv e5' (by decide) (by decide)
  rw [tm5.g21]
  refine ⟨tm5.ok, tm5.ok, fun h8 e8 => hp h8 ((e5'.mono (fun i hi => Or.inr hi)).tr ((hE26 e8).mono (fun i hi => Or.inl hi))) ?_⟩
  have tm8 := tm5.set e8 (by decide)
  refine ⟨?_, by rw [List.length_append]; exact hlt, fun i hi => ?_, ?_⟩
  · rw [List.length_append]
    exact tm8
  · rw [List.length_append] at hi
    have hi2 : i < L.length + 1 := hi
    rw [(hE26 e8 46).2.2 (by decide), e5, hS_g, getD_app]
    by_cases g : i < L.length
    · rw [if_neg (fun z => by have := z.2; omega), if_pos g]; exact t3 i g
    · rw [if_pos ⟨rfl, by omega⟩, if_neg g, if_pos (by omega)]
  · rw [e8, hS_g, if_neg (by decide), (e5' 26).2.2 (by decide)]; exact t4
theorem sp_sayWord {G : xG} {l : Launch} {n : Nat} {h : xH} {L : List Int} {fc tl nm : Int} {j : Nat} {Po : xH → Prop} (t : isWr n h L fc tl nm) (hj : j < 8) (hr : L.length + xLen.getD j 0 ≤ 8200) (hp : ∀ h', hE sS h h' → isWr n h' (L ++ lStr j) fc tl nm → Po h') : S_X9_sayWord G l 26 j n h Po := by
  refine S_X9_sayWord_of (fun k hl C E => X9_sayWord_b0 C E 26 j n h rfl ?_)
  have hx : xLen.getD j 0 ≤ 40 := by
    have : ∀ j, j < 8 → xLen.getD j 0 ≤ 40 := by decide
    exact this j hj
  suffices K : ∀ (u i : Nat) (h1 : xH), i + u = xLen.getD j 0 → hE sS h h1 → isWr n h1 (L ++ (List.range i).map (xCh j)) fc tl nm → X9_sayWord_w2 G k 26 j i n h1 from K (xLen.getD j 0) 0 h (by omega) hE.rf (by simpa using t)
  intro u
  induction u with
  | zero =>
    intro i h1 hi e1 t1
    have : i = xLen.getD j 0 := by omega
    subst this
    exact X9_sayWord_b2 C E 26 j _ n h1 rfl ⟨hj, sp_length hj ⟨⟨rg_nat (by omega), rg_nat (by omega)⟩, fun _ => hp h1 e1 t1, fun g => by omega⟩⟩
  | succ u ih =>
    intro i h1 hi e1 t1
    refine X9_sayWord_b2 C E 26 j _ n h1 rfl ⟨hj, sp_length hj ⟨⟨rg_nat (by omega), rg_nat (by omega)⟩, fun g => by omega, fun _ => ⟨hj, sp_charAt hj (by omega) ⟨t1.1.ok, sp_say t1 (by rw [List.length_append, List.length_map, List.length_range]; omega) (fun h2 e2 t2 => ?_)⟩⟩⟩⟩
    refine ih (i + 1) h2 (by omega) (e1.tr e2) ?_
    rw [List.range_succ, List.map_append, ← List.append_assoc]
    exact t2
theorem sp_saySmall {G : xG} {l : Launch} {n : Nat} {h : xH} {L : List Int} {fc tl nm x : Int} {Po : xH → Prop} (t : isWr n h L fc tl nm) (hr : L.length + 4 ≤ 8200) (h0 : -999 ≤ x) (h1 : x ≤ 999) (hp : ∀ h' E, hE sS h h' → wrR 10 (if 0 ≤ x then x else -x) E → isWr n h' (L ++ ((if x < 0 then [45] else []) ++ E)) fc tl nm → Po h') : S_X9_saySmall G l 26 x n h Po := by
  refine S_X9_saySmall_of (fun k hl C E => ?_)
  have dgs : ∀ d : Int, 0 ≤ d → d ≤ 9 → dg d = 48 + d := fun d h1 h2 => by unfold dg; rw [if_neg (by omega)]
  have w58 : ∀ (y : Int) (P Q : List Int) (h1 : xH), 0 ≤ y → y ≤ 999 → P.length ≤ 2 → Q.length ≤ 1 → hE sS h h1 → isWr n h1 (L ++ (Q ++ P)) fc tl nm → wrR 10 y (P ++ [48 + y % 10]) → y = (if 0 ≤ x then x else -x) → Q = (if x < 0 then [45] else []) → X9_saySmall_w58 G k 26 y n h1 := by
    intro y P Q h1 hy0 hy1 hP hQ e1 t1 hw hyx hQx
    have tm := (tdm hy0 10).2
    refine X9_saySmall_b58 C E 26 y n h1 rfl ⟨⟨rgS (by omega) (by omega), rgS (by decide) (by decide), by decide⟩, t1.1.ok, ?_⟩
    rw [tm]
    refine sp_say t1 (by rw [List.length_append, List.length_append]; omega) (fun h2 e2 t2 => hp h2 (P ++ [48 + y % 10]) (e1.tr e2) (by rw [← hyx]; exact hw) ?_)
    rw [← hQx]
    rw [List.append_assoc, List.append_assoc] at t2
    exact t2
  have w38 : ∀ (y : Int) (P Q : List Int) (h1 : xH), 0 ≤ y → y ≤ 999 → Q.length ≤ 1 → hE sS h h1 → isWr n h1 (L ++ (Q ++ P)) fc tl nm → (99 < y ∧ P = [48 + y / 100] ∨ y ≤ 99 ∧ P = []) → y = (if 0 ≤ x then x else -x) → Q = (if x < 0 then [45] else []) → X9_saySmall_w38 G k 26 y n h1 := by
    intro y P Q h1 hy0 hy1 hQ e1 t1 hP hyx hQx
    have td := (tdm hy0 10).1
    have tm := (tdm (show 0 ≤ y / 10 by omega) 10).2
    have w1 : ∀ d : Int, 0 < d → d ≤ 9 → isDg 10 [48 + d] d := fun d h1 h2 => ⟨h1, by rw [Int.emod_eq_of_lt (by omega) (by omega), dgs d (by omega) h2], by show d / 10 = 0; omega⟩
    refine X9_saySmall_b38 C E 26 y n h1 rfl ⟨⟨rgS (by omega) (by omega), rgS (by decide) (by decide)⟩, fun g => ?_, fun g => ⟨⟨rgS (by omega) (by omega), rgS (by decide) (by decide), by decide⟩, ⟨by rw [td]; exact rgS (by omega) (by omega), rgS (by decide) (by decide), by decide⟩, t1.1.ok, ?_⟩⟩
    · have hP0 : P = [] := by
        rcases hP with ⟨z, _⟩ | ⟨_, z⟩
        · omega
        · exact z
      subst hP0
      refine w58 y [] Q h1 hy0 hy1 (by decide) hQ e1 t1 ?_ hyx hQx
      rcases Int.lt_or_le 0 y with z | z
      · right
        refine ⟨z, ?_⟩
        rw [Int.emod_eq_of_lt hy0 (by omega)]
        exact w1 y z (by omega)
      · left
        have : y = 0 := by omega
        rw [this]; exact ⟨rfl, rfl⟩
    · rw [td, tm]
      refine sp_say t1 (by rw [List.length_append, List.length_append]; rcases hP with ⟨_, z⟩ | ⟨_, z⟩ <;> rw [z] <;> simp <;> omega) (fun h2 e2 t2 => ?_)
      rw [List.append_assoc, List.append_assoc] at t2
      refine w58 y (P ++ [48 + y / 10 % 10]) Q h2 hy0 hy1 ?_ hQ (e1.tr e2) t2 ?_ hyx hQx
      · rcases hP with ⟨_, z⟩ | ⟨_, z⟩ <;> rw [z] <;> simp
      · right
        refine ⟨by omega, ?_⟩
        rcases hP with ⟨z0, z⟩ | ⟨z0, z⟩
        · rw [z]
          show isDg 10 [48 + y % 10, 48 + y / 10 % 10, 48 + y / 100] y
          refine ⟨by omega, by rw [dgs _ (by omega) (by omega)], by omega, by rw [dgs _ (by omega) (by omega)], ?_⟩
          rw [show y / 10 / 10 = y / 100 by omega]
          exact w1 _ (by omega) (by omega)
        · rw [z]
          show isDg 10 [48 + y % 10, 48 + y / 10 % 10] y
          refine ⟨by omega, by rw [dgs _ (by omega) (by omega)], ?_⟩
          have := w1 (y / 10) (by omega) (by omega)
          rw [show y / 10 % 10 = y / 10 by omega]
          exact this
  have w21 : ∀ (y : Int) (Q : List Int) (h1 : xH), 0 ≤ y → y ≤ 999 → Q.length ≤ 1 → hE sS h h1 → isWr n h1 (L ++ Q) fc tl nm → y = (if 0 ≤ x then x else -x) → Q = (if x < 0 then [45] else []) → X9_saySmall_w21 G k 26 y n h1 := by
    intro y Q h1 hy0 hy1 hQ e1 t1 hyx hQx
    have td := (tdm hy0 100).1
    refine X9_saySmall_b21 C E 26 y n h1 rfl ⟨⟨rgS (by omega) (by omega), rgS (by decide) (by decide)⟩, fun g => w38 y [] Q h1 hy0 hy1 hQ e1 (by rw [List.append_nil]; exact t1) (Or.inr ⟨g, rfl⟩) hyx hQx, fun g => ⟨⟨rgS (by omega) (by omega), rgS (by decide) (by decide), by decide⟩, t1.1.ok, ?_⟩⟩
    rw [td]
    refine sp_say t1 (by rw [List.length_append]; omega) (fun h2 e2 t2 => ?_)
    rw [List.append_assoc] at t2
    exact w38 y [48 + y / 100] Q h2 hy0 hy1 hQ (e1.tr e2) t2 (Or.inl ⟨by omega, rfl⟩) hyx hQx
  have rx : rg x := rgS (by omega) (by omega)
  refine X9_saySmall_b0 C E 26 x n h rfl ⟨rx, fun g => ?_, fun g => ?_⟩
  · refine X9_saySmall_b10 C E 26 x x n h rfl ⟨rx, fun _ => w21 x [] h (by omega) h1 (by decide) hE.rf (by rw [List.append_nil]; exact t) (by rw [if_pos g]) (by rw [if_neg (by omega)]), fun z => absurd g z⟩
  · refine X9_saySmall_b10 C E 26 x (-x) n h rfl ⟨rx, fun z => absurd z g, fun _ => ⟨t.1.ok, sp_say t (by omega) (fun h2 e2 t2 => w21 (-x) [45] h2 (by omega) (by omega) (by decide) e2 t2 (by rw [if_neg g]) (by rw [if_pos (by omega)]))⟩⟩
theorem ltr_dg : ∀ d : Nat, d < 16 → xCh 4 d = dg d := by decide +kernel
theorem sp_sayWhole {G : xG} {l : Launch} {n : Nat} {h : xH} {L : List Int} {fc tl nm sg v b : Int} {z r s : Nat} {Po : xH → Prop} (t : isWr n h L fc tl nm) (tw : isWh n h z r s sg v) (hb0 : 2 ≤ b) (hb1 : b ≤ 16) (hr : (L.length : Int) + bl v + 2 ≤ 8200) (hp : ∀ h' A, hE (fun i => i = 26 ∨ i = 28 ∨ i = 46) h h' → wrR b v A → isWr n h' (L ++ ((if sg < 0 then [45] else []) ++ A)) fc tl nm → Po h') : S_X9_sayWhole G l 26 z b n h Po := by
  refine S_X9_sayWhole_of (fun k hl C E => ?_)
  have hsg := tw.2.2.2.2.2.2.2.2
  have hz47 := tw.2.1
  have hr47 := tw.2.2.1
  have hs440 := tw.2.2.2.2.2.2.2.1
  have hbl0 : 0 ≤ bl v := by unfold bl; split <;> omega
  have sSm : ∀ {h1 h2 : xH}, hE sS h1 h2 → hE (fun i => i = 26 ∨ i = 28 ∨ i = 46) h1 h2 := fun e => e.mono (fun i hi => by
    rcases hi with y | y
    · exact Or.inl y
    · exact Or.inr (Or.inr y))
  have s28 : ∀ {h1 h2 : xH}, hE (sC 28) h1 h2 → hE (fun i => i = 26 ∨ i = 28 ∨ i = 46) h1 h2 := fun e => e.mono (fun i hi => Or.inr (Or.inl hi))
  -- turning round
  have w90 : ∀ (Q : List Int) (h1 : xH), hE (fun i => i = 26 ∨ i = 28 ∨ i = 46) h h1 → isWr n h1 (L ++ Q) fc tl nm → (∀ h' , hE (fun i => i = 26 ∨ i = 28 ∨ i = 46) h h' → isWr n h' (L ++ Q.reverse) fc tl nm → Po h') → X9_sayWhole_w90 G k 26 L.length n h1 := by
    intro Q h1 e1 t1 hp1
    have hlen : (L ++ Q).length = L.length + Q.length := List.length_append
    have hl2 := t1.2.1
    refine X9_sayWhole_b90 C E 26 L.length n h1 rfl ⟨t1.1.ok, ?_⟩
    rw [t1.1.g21, hlen]
    have fin : ∀ (lo : Nat) (hi : Int) (h2 : xH), hi ≤ lo → L.length ≤ lo → (lo : Int) + hi = L.length + (L.length + Q.length) - 1 → (lo : Int) ≤ hi + 2 → hE (sC 46) h1 h2 → (∀ j : Nat, (j : Int) < L.length + Q.length → (h2 46).2.2 j = if L.length ≤ j ∧ (j < lo ∨ hi < j) then (L ++ Q).getD (L.length + (L.length + Q.length) - 1 - j) 0 else (L ++ Q).getD j 0) → X9_sayWhole_w101 G k 26 lo hi n h2 := by
      intro lo hi h2 hu hlo hsum hle he hf
      refine X9_sayWhole_b101 C E 26 lo hi n h2 rfl ⟨⟨rg_nat (by omega), rgS (by omega) (by omega)⟩, fun _ => hp1 h2 (e1.tr (he.mono (fun i e => Or.inr (Or.inr e)))) ?_, fun g => by omega⟩
      obtain ⟨t2, t3, t4, t5⟩ := t1
      refine ⟨?_, by rw [List.length_append, List.length_reverse]; omega, fun i hi2 => ?_, by rw [(he 26).2.2 (by decide)]; exact t5⟩
      · rw [List.length_append, List.length_reverse, ← List.length_append]
        exact t2.mv he (by decide) (by decide)
      · rw [List.length_append, List.length_reverse] at hi2
        rw [hf i (by omega)]
        by_cases g : L.length ≤ i
        · rw [getD_rev g hi2]
          by_cases g2 : i < lo ∨ hi < i
          · rw [if_pos ⟨g, g2⟩]
          · rw [if_neg (fun z => g2 z.2)]
            congr 1
            omega
        · rw [if_neg (fun z => g z.1), getD_left (by omega), getD_left (by omega)]
    suffices K : ∀ (u lo : Nat) (hi : Int) (h2 : xH), hi + 1 - lo ≤ u → L.length ≤ lo → (lo : Int) + hi = L.length + (L.length + Q.length) - 1 → (lo : Int) ≤ hi + 2 → hE (sC 46) h1 h2 → (∀ j : Nat, (j : Int) < L.length + Q.length → (h2 46).2.2 j = if L.length ≤ j ∧ (j < lo ∨ hi < j) then (L ++ Q).getD (L.length + (L.length + Q.length) - 1 - j) 0 else (L ++ Q).getD j 0) → X9_sayWhole_w101 G k 26 lo hi n h2 by
      refine K (L.length + Q.length) L.length _ h1 (by omega) (Nat.le_refl _) (by omega) (by omega) hE.rf (fun j hj => ?_)
      rw [if_neg (by omega)]
      exact t1.2.2.1 j (by omega)
    intro u
    induction u with
    | zero =>
      intro lo hi h2 hu hlo hsum hle he hf
      exact fin lo hi h2 (by omega) hlo hsum hle he hf
    | succ u ih =>
      intro lo hi h2 hu hlo hsum hle he hf
      by_cases g : hi ≤ lo
      · exact fin lo hi h2 g hlo hsum hle he hf
      · obtain ⟨hh, rfl⟩ := ex_nat (show 0 ≤ hi by omega)
        have tm2 := t1.1.mv he (by decide) (by decide)
        have f1 : hG h2 46 hh = (L ++ Q).getD hh 0 := by show (h2 46).2.2 hh = _; rw [hf hh (by omega), if_neg (by omega)]
        have f2 : hG h2 46 lo = (L ++ Q).getD lo 0 := by show (h2 46).2.2 lo = _; rw [hf lo (by omega), if_neg (by omega)]
        refine X9_sayWhole_b101 C E 26 lo hh n h2 rfl ⟨⟨rg_nat (by omega), rg_nat (by omega)⟩, fun z => by omega, fun _ => ?_⟩
        rw [tm2.g20]
        have oklo := tm2.t46.at (i := (lo : Int)) (by omega) (by omega)
        have okhh := tm2.t46.at (i := (hh : Int)) (by omega) (by omega)
        rw [Int.toNat_natCast, Int.toNat_natCast, show ((46 : Int).toNat) = 46 from rfl, f1, f2]
        refine ⟨tm2.ok, by decide, oklo, tm2.ok, by decide, tm2.ok, by decide, okhh, oklo, fun h3 e3 => ?_⟩
        have he3 : hE (sC 46) h1 h3 := he.tr (hE.put' (S := sC 46) e3 rfl)
        have tm3 := t1.1.mv he3 (by decide) (by decide)
        rw [tm3.g20]
        refine ⟨tm3.ok, by decide, tm3.t46.at (by omega) (by omega), fun h4 e4 => ?_⟩
        rw [show (lo : Int) + 1 = ((lo + 1 : Nat) : Int) by omega]
        refine ih (lo + 1) _ h4 (by omega) (by omega) (by omega) (by omega) (he3.tr (hE.put' (S := sC 46) e4 rfl)) (fun j hj => ?_)
        rw [e4, show ((46 : Int).toNat) = 46 from rfl, hS_g]
        by_cases c1 : j = hh
        · rw [if_pos ⟨rfl, c1⟩, if_pos (by omega)]; congr 1; omega
        · rw [if_neg (fun z => c1 z.2), e3, hS_g]
          by_cases c2 : j = lo
          · rw [if_pos ⟨rfl, c2⟩, if_pos (by omega)]; congr 1; omega
          · rw [if_neg (fun z => c2 z.2), hf j hj]
            by_cases g4 : L.length ≤ j ∧ (j < lo ∨ (hh : Int) < j)
            · rw [if_pos g4, if_pos (by omega)]
            · rw [if_neg g4, if_neg (by omega)]
  refine X9_sayWhole_b0 C E 26 z b n h rfl ⟨tw.ok, sp_isZeroW tw ⟨by split <;> exact rgS (by decide) (by decide), fun g => ?_, fun g => ?_⟩⟩
  · have hv : 0 < v := by
      split at g
      · cases g
      · rcases hsg with y | y
        · rename_i hne; exact absurd y.1 hne
        · exact y.1
    obtain ⟨l1, l2, l3⟩ := tw.ln
    rw [tw.f1, Int.toNat_natCast, l1, t.1.g1, t.1.g21]
    refine ⟨t.1.ok, tw.ok, by omega, ⟨l2, Or.inl l3⟩, tw.ok, by omega, t.1.ok, by decide, sp_copyW tw.row t.1.t28 (by show r ≠ 28; omega) hs440 (fun h1 e1 t1 _ => ?_)⟩
    have e1' : hE (sC 28) h h1 := e1
    -- the digits
    suffices K : ∀ (N s' : Nat) (x : Int) (Q : List Int) (h2 : xH), x ≤ N → hE (fun i => i = 26 ∨ i = 28 ∨ i = 46) h h2 → isWr n h2 (L ++ Q) fc tl nm → isT n h2 28 440 s' x → (L.length : Int) + Q.length + bl x + 2 ≤ 8200 → (∀ Y, isDg b Y x → isDg b (Q ++ Y) v) → X9_sayWhole_w39 G k 26 z b L.length s' n h2 from K v.toNat s v [] h1 (by omega) (s28 e1') (by rw [List.append_nil]; exact t.mv e1' (by decide) (by decide) (by decide)) t1 (by show (L.length : Int) + (0 : Nat) + _ + _ ≤ _; omega) (fun Y hY => hY)
    have fin : ∀ (Q : List Int) (h2 : xH), hE (fun i => i = 26 ∨ i = 28 ∨ i = 46) h h2 → isWr n h2 (L ++ Q) fc tl nm → (L.length : Int) + Q.length + 2 ≤ 8200 → isDg b Q v → X9_sayWhole_w39 G k 26 z b L.length 0 n h2 := by
      intro Q h2 e2 t2 hroom hQ
      have tw2 := tw.mv e2 (by omega) (by omega)
      refine X9_sayWhole_b39 C E 26 z b L.length 0 n h2 rfl ⟨rgS (by decide) (by decide), fun _ => ?_, fun g => by omega⟩
      rw [tw2.f0]
      have hwr : wrR b v Q.reverse := Or.inr ⟨hv, by rw [List.reverse_reverse]; exact hQ⟩
      refine ⟨tw2.ok, tw2.sg, fun g2 => w90 Q h2 e2 t2 (fun h' e' t' => hp h' Q.reverse e' hwr (by rw [if_neg (by omega)]; exact t')), fun g2 => ⟨t2.1.ok, sp_say t2 (by rw [List.length_append]; omega) (fun h3 e3 t3 => ?_)⟩⟩
      rw [List.append_assoc] at t3
      refine w90 (Q ++ [45]) h3 (e2.tr (sSm e3)) t3 (fun h' e' t' => hp h' Q.reverse e' hwr ?_)
      rw [if_pos (by omega)]
      rw [List.reverse_append] at t'
      exact t'
    intro N
    induction N with
    | zero =>
      intro s' x Q h2 hN e2 t2 u2 hroom hY
      have hx : x = 0 := by have := u2.val.1; omega
      subst hx
      have hs0 : s' = 0 := by
        rcases Nat.eq_zero_or_pos s' with y | y
        · exact y
        · have := u2.pos.mpr y; omega
      subst hs0
      have hbl : bl 0 = 0 := rfl
      exact fin Q h2 e2 t2 (by omega) (by have := hY [] rfl; rwa [List.append_nil] at this)
    | succ N ih =>
      intro s' x Q h2 hN e2 t2 u2 hroom hY
      have hs' := u2.2.1
      rcases Nat.eq_zero_or_pos s' with hs0 | hs0
      · subst hs0
        have hx : x = 0 := u2.val.2.2.1 rfl
        subst hx
        have hbl : bl 0 = 0 := rfl
        exact fin Q h2 e2 t2 (by omega) (by have := hY [] rfl; rwa [List.append_nil] at this)
      · have hx : 0 < x := u2.pos.mpr hs0
        have hm0 := Int.emod_nonneg x (show b ≠ 0 by omega)
        have hm1 := Int.emod_lt_of_pos x (show 0 < b by omega)
        have hq0 : 0 ≤ x / b := Int.ediv_nonneg (by omega) (by omega)
        have hbx : bl (x / b) + 1 ≤ bl x := by
          rcases Int.lt_or_le 0 (x / b) with y | y
          · have := bl_div (v := x) (g := 1) hb0 (by rw [Int.pow_one]; exact y)
            rw [Int.pow_one] at this
            exact this
          · obtain ⟨tt, et, -⟩ := bl_pw hx
            have : bl (x / b) = 0 := by unfold bl; rw [if_pos y]
            omega
        have hbq : 0 ≤ bl (x / b) := by unfold bl; split <;> omega
        refine X9_sayWhole_b39 C E 26 z b L.length s' n h2 rfl ⟨rg_nat (by omega), fun g2 => by omega, fun _ => ?_⟩
        rw [t2.1.g1]
        refine ⟨t2.1.ok, by decide, sp_cutBy u2.1 hs' u2.2.2.1 (by omega) (by omega) (fun h3 e3 d3 v3 _ => ⟨by decide, ?_⟩)⟩
        have e3' : hE (sC 28) h2 h3 := e3
        have hvx : rv (h2 28).2.2 s' = x := u2.2.2.2.1
        have v3' : rv (h3 28).2.2 s' = x / b := by rw [← hvx]; exact v3
        obtain ⟨dn, hdn⟩ : ∃ dn : Nat, x % b = (dn : Int) := ⟨(x % b).toNat, by omega⟩
        have t3 := t2.mv e3' (by decide) (by decide) (by decide)
        show S_J0_charAt_5068e G (kl k) 4 (rv (h2 28).2.2 s' % b) n h3 _
        rw [hvx, hdn]
        refine sp_charAt (by decide) (by show dn < 36; omega) ⟨t3.1.ok, ?_⟩
        rw [ltr_dg dn (by omega), ← hdn]
        refine sp_say t3 (by rw [List.length_append]; omega) (fun h4 e4 t4 => ?_)
        rw [List.append_assoc] at t4
        rw [t4.1.g1]
        have y4 : tyR n h4 28 440 := (u2.1.mv e3').mv e4
        have c4 : (h4 28).2.2 = (h3 28).2.2 := (e4 28).2.2 (by decide)
        refine ⟨t4.1.ok, by decide, sp_used s' y4 hs' (by show dgt (h4 28).2.2 s'; rw [c4]; exact d3) (fun s5 hs5 u5 _ => ?_)⟩
        have u5' : isT n h4 28 440 s5 (x / b) := by
          rw [← v3', ← c4]; exact u5
        refine ih s5 (x / b) (Q ++ [dg (x % b)]) h4 ?_ (e2.tr ((s28 e3').tr (sSm e4))) t4 u5' ?_ (fun Y hY2 => ?_)
        · have := Int.ediv_le_self b (Int.le_of_lt hx)
          have h5 : x / b < x := by
            have := Int.ediv_lt_of_lt_mul (a := x) (b := x) (c := b) (by omega) (by
              have := Int.mul_le_mul_of_nonneg_left (show (2 : Int) ≤ b by omega) (Int.le_of_lt hx)
              omega)
            exact this
          omega
        · rw [List.length_append]
          show (L.length : Int) + ((Q.length + 1 : Nat) : Int) + _ + _ ≤ _
          omega
        · rw [List.append_assoc]
          exact hY _ ⟨hx, rfl, hY2⟩
  · have hv : v = 0 := by
      split at g
      · assumption
      · exact absurd rfl g
    have hs0 : sg = 0 := by omega
    refine ⟨t.1.ok, sp_say t (by omega) (fun h1 e1 t1 => hp h1 [48] (sSm e1) (Or.inl ⟨hv, rfl⟩) ?_)⟩
    rw [hs0, if_neg (by decide)]; exact t1
