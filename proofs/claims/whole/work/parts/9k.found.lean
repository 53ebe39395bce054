/-! THE MODEL: found digits, placed -/
theorem sp_lessen {G : xG} {l : Launch} {n : Nat} {h : xH} {a b m m' s t : Nat} {A B : Int} {Po : xH → Prop} (ta : isT n h a m s A) (tb : isT n h b m' t B) (hab : a ≠ b) (hle : B ≤ A) (hts : t ≤ s) (hp : ∀ h', hE (sC a) h h' → dgt (h' a).2.2 s → rv (h' a).2.2 s = A - B → Po h') : S_X9_lessen G l a s b t n h Po := by
  refine S_X9_lessen_of (fun k hl C E => X9_lessen_b0 C E a s b t n h rfl ?_)
  have hm := ta.1.2.2.2
  have hm' := tb.1.2.2.2
  have hsm := ta.2.1
  have htm := tb.2.1
  suffices K : ∀ (u i : Nat) (c : Int) (h1 : xH), i + u = s → (c = 0 ∨ c = 1) → hE (sC a) h h1 → (∀ j, i ≤ j → (h1 a).2.2 j = (h a).2.2 j) → dgt (h1 a).2.2 i → rv (h1 a).2.2 i - c * 10000 ^ i = rv (h a).2.2 i - rv (h b).2.2 (min i t) → X9_lessen_w6 G k a s b t c i n h1 from K s 0 0 h (by omega) (Or.inl rfl) hE.rf (fun _ _ => rfl) (fun i hi => by omega) (by simp [rv])
  intro u
  induction u with
  | zero =>
    intro i c h1 hi hc e1 hk hd1 hv
    have hi2 : i = s := by omega
    subst hi2
    rw [show min i t = t by omega, ta.2.2.2.1, tb.2.2.2.1] at hv
    have hb := rv_bd hd1
    have hc0 : c = 0 := by
      rcases hc with z | z
      · exact z
      · rw [z, Int.one_mul] at hv; omega
    rw [hc0, Int.zero_mul, Int.sub_zero] at hv
    exact X9_lessen_b6 C E a i b t c i n h1 rfl ⟨⟨rg_nat (by omega), rg_nat (by omega)⟩, fun _ => hp h1 e1 hd1 hv, fun g => by omega⟩
  | succ u ih =>
    intro i c h1 hi hc e1 hk hd1 hv
    have da := ta.2.2.1 i (by omega)
    have ga : hG h1 a i = (h a).2.2 i := hk i (Nat.le_refl _)
    have oka := (ta.1.mv e1).at (i := (i : Int)) (by omega) (by omega)
    have w33 : ∀ y : Int, 0 ≤ y → y ≤ 9999 → (i < t ∧ y = (h b).2.2 i ∨ t ≤ i ∧ y = 0) → X9_lessen_w33 G k a s b t i y ((h a).2.2 i - c) n h1 := by
      intro y hy0 hy1 hy
      have w46 : ∀ c' : Int, (c' = 0 ∧ 0 ≤ (h a).2.2 i - c - y ∨ c' = 1 ∧ (h a).2.2 i - c - y < 0) → X9_lessen_w46 G k a s b t i ((h a).2.2 i - c - y) c' n h1 := by
        intro c' hc'
        refine X9_lessen_b46 C E a s b t i _ c' n h1 rfl ⟨oka, fun h2 e2 => ?_⟩
        rw [Int.toNat_natCast] at e2
        have hg : ∀ j, (h2 a).2.2 j = if j = i then (h a).2.2 i - c - y + c' * 10000 else (h1 a).2.2 j := fun j => by rw [e2, hS_g]; simp
        refine ih (i + 1) c' h2 (by omega) (by omega) (e1.tr (hE.put' (S := sC a) e2 rfl)) (fun j hj => by rw [hg, if_neg (by omega)]; exact hk j (by omega)) (fun j hj => ?_) ?_
        · rw [hg]
          split
          · rcases hc with z | z <;> rcases hc' with z2 | z2 <;> omega
          · exact hd1 j (by omega)
        · rw [rv_s, rv_s, hg, if_pos rfl, rv_congr (g := (h1 a).2.2) (fun j hj => by rw [hg, if_neg (by omega)]), T_succ]
          have hB : rv (h b).2.2 (min (i + 1) t) = rv (h b).2.2 (min i t) + y * 10000 ^ i := by
            rcases hy with ⟨z, z2⟩ | ⟨z, z2⟩
            · rw [show min (i + 1) t = i + 1 by omega, show min i t = i by omega, rv_s, z2]
            · rw [show min (i + 1) t = t by omega, show min i t = t by omega, z2]; omega
          rw [hB, Int.add_mul, Int.sub_mul, Int.sub_mul]
          have m2 : c' * 10000 * 10000 ^ i = c' * (10000 * 10000 ^ i) := Int.mul_assoc _ _ _
          omega
      refine X9_lessen_b33 C E a s b t i y _ n h1 rfl ⟨rgS (by omega) (by omega), fun g => w46 0 (Or.inl ⟨rfl, g⟩), fun g => w46 1 (Or.inr ⟨rfl, by omega⟩)⟩
    refine X9_lessen_b6 C E a s b t c i n h1 rfl ⟨⟨rg_nat (by omega), rg_nat (by omega)⟩, fun g => by omega, fun _ => ⟨oka, ⟨rg_nat (by omega), rg_nat (by omega)⟩, fun g => ?_, fun g => ?_⟩⟩
    · rw [Int.toNat_natCast, ga]
      exact w33 0 (by decide) (by decide) (Or.inr ⟨by omega, rfl⟩)
    · have db := tb.2.2.1 i (by omega)
      have gb : hG h1 b i = (h b).2.2 i := by
        show (h1 b).2.2 i = _
        rw [(e1 b).2.2 (fun z => hab z.symm)]
      rw [Int.toNat_natCast, ga, gb]
      exact ⟨(tb.1.mv e1).at (by omega) (by omega), w33 _ db.1 db.2 (Or.inl ⟨by omega, rfl⟩)⟩
/-- the digits found so far -/
def isFd (h : xH) (F : List Int) : Prop := F.length ≤ 24 ∧ ∀ i, i < F.length → (h 45).2.2 i = F.getD i 0
theorem isFd.mv {h h' : xH} {S : Nat → Prop} {F : List Int} (t : isFd h F) (e : hE S h h') (h0 : ¬ S 45) : isFd h' F := ⟨t.1, by rw [(e 45).2.2 h0]; exact t.2⟩
/-- one more digit found -/
theorem fd_app {n : Nat} {h h1 h2 : xH} {L F : List Int} {tl nm x : Int} (t : isWr n h L (F.length : Int) tl nm) (f : isFd h F) (hF : F.length < 24) (e1 : h1 = hS h 45 F.length x) (e2 : h2 = hS h1 26 19 ((F.length : Int) + 1)) : isWr n h2 L ((F ++ [x]).length : Int) tl nm ∧ isFd h2 (F ++ [x]) ∧ hE (fun i => i = 26 ∨ i = 45) h h2 := by
  have e1' : hE (sC 45) h h1 := hE.put' (S := sC 45) e1 rfl
  have t1 := t.mv e1' (by decide) (by decide) (by decide)
  have e2' := hE26 e2
  have tm2 := t1.1.set e2 (by decide)
  refine ⟨⟨tm2, t.2.1, by rw [(e2' 46).2.2 (by decide)]; exact t1.2.2.1, by rw [e2, hS_g, if_pos ⟨rfl, rfl⟩, List.length_append]; rfl⟩, ⟨by rw [List.length_append]; exact hF, fun i hi => ?_⟩, (e1'.mono (fun i hi => Or.inr hi)).tr (e2'.mono (fun i hi => Or.inl hi))⟩
  rw [List.length_append] at hi
  have hi2 : i < F.length + 1 := hi
  rw [(e2' 45).2.2 (by decide), e1, hS_g, getD_app]
  by_cases g : i < F.length
  · rw [if_neg (fun z => by have := z.2; omega), if_pos g]; exact f.2 i g
  · rw [if_pos ⟨rfl, by omega⟩, if_neg g, if_pos (by omega)]
theorem sp_put {G : xG} {l : Launch} {n : Nat} {h : xH} {L F : List Int} {tl nm x : Int} {Po : Int → xH → Prop} (t : isWr n h L (F.length : Int) tl nm) (f : isFd h F) (hF : F.length < 24) (hx0 : 0 ≤ x) (hx1 : x ≤ 9 ∨ (x = 10 ∧ F = [])) (hp : ∀ h' F' r, hE (fun i => i = 26 ∨ i = 45) h h' → isWr n h' L (F'.length : Int) tl nm → isFd h' F' → (x ≤ 9 ∧ F' = F ++ [x] ∧ r = 0 ∨ x = 10 ∧ F' = [1] ∧ r = 1) → Po r h') : S_X9_put G l 26 x n h Po := by
  refine S_X9_put_of (fun k hl C E => X9_put_b0 C E 26 x n h rfl ?_)
  have tm := t.1
  have g19 : hG h 26 19 = (F.length : Int) := t.2.2.2
  rw [tm.g18, g19]
  refine ⟨⟨rgS (by omega) (by omega), rgS (by decide) (by decide)⟩, fun g => ?_, fun g => ?_⟩
  · have hx10 : x = 10 ∧ F = [] := by
      rcases hx1 with z | z
      · omega
      · exact z
    obtain ⟨hx, hF0⟩ := hx10
    subst hF0
    refine ⟨tm.ok, X9_put_b35 C E 26 _ n h rfl ⟨rgS (by decide) (by decide), fun _ => X9_put_b56 C E 26 _ n h rfl ⟨rgS (by decide) (by decide), fun z => absurd z (by decide), fun _ => ?_⟩, fun z => absurd (by decide) z⟩⟩
    rw [tm.g18]
    refine ⟨tm.ok, by decide, tm.t45.at (by decide) (by decide), fun h1 e1 => ?_⟩
    have tm1 := tm.mv (hE.put' (S := sC 45) e1 rfl) (by decide) (by decide)
    refine ⟨tm1.ok, fun h2 e2 => ?_⟩
    obtain ⟨a1, a2, a3⟩ := fd_app t f (by decide) e1 e2
    exact hp h2 [1] 1 a3 a1 a2 (Or.inr ⟨hx, rfl, rfl⟩)
  · refine ⟨tm.ok, by decide, tm.ok, tm.t45.at (by omega) (by omega), fun h1 e1 => ?_⟩
    rw [Int.toNat_natCast] at e1
    have e1' : hE (sC 45) h h1 := hE.put' (S := sC 45) e1 rfl
    have tm1 := tm.mv e1' (by decide) (by decide)
    have g19' : hG h1 26 19 = (F.length : Int) := by
      show (h1 26).2.2 19 = _
      rw [(e1' 26).2.2 (by decide)]; exact t.2.2.2
    rw [g19']
    refine ⟨tm1.ok, tm1.ok, fun h2 e2 => ?_⟩
    obtain ⟨a1, a2, a3⟩ := fd_app t f hF e1 e2
    exact hp h2 (F ++ [x]) 0 a3 a1 a2 (Or.inl ⟨by omega, rfl, rfl⟩)
theorem sp_sayFound {G : xG} {l : Launch} {n : Nat} {h : xH} {L F : List Int} {tl nm : Int} {a b : Nat} {Po : xH → Prop} (t : isWr n h L (F.length : Int) tl nm) (f : isFd h F) (hb : b ≤ 500) (hr : L.length + (b - a) ≤ 8200) (ha : a ≤ 500) (hp : ∀ h', hE sS h h' → isWr n h' (L ++ sgL F a b) (F.length : Int) tl nm → Po h') : S_X9_sayFound G l 26 a b n h Po := by
  refine S_X9_sayFound_of (fun k hl C E => X9_sayFound_b0 C E 26 a b n h rfl ?_)
  have hF := f.1
  suffices K : ∀ (u i : Nat) (M : List Int) (h1 : xH), b - i = u → i ≤ 500 → M.length + u ≤ 8200 → hE sS h h1 → isWr n h1 M (F.length : Int) tl nm → (∀ h', hE sS h h' → isWr n h' (M ++ sgL F i b) (F.length : Int) tl nm → Po h') → X9_sayFound_w2 G k 26 b i n h1 from K (b - a) a L h rfl ha hr hE.rf t hp
  intro u
  induction u with
  | zero =>
    intro i M h1 hu hi hM he t1 hp1
    refine X9_sayFound_b2 C E 26 b i n h1 rfl ⟨⟨rg_nat (by omega), rg_nat (by omega)⟩, fun _ => hp1 h1 he ?_, fun g => by omega⟩
    have : sgL F i b = [] := by unfold sgL; rw [hu]; rfl
    rw [this, List.append_nil]; exact t1
  | succ u ih =>
    intro i M h1 hu hi hM he t1 hp1
    have f1 := f.mv he (by decide)
    have g19 : hG h1 26 19 = (F.length : Int) := t1.2.2.2
    have w30 : ∀ x : Int, x = 48 + F.getD i 0 → X9_sayFound_w30 G k 26 b i x 26 n h1 := by
      intro x hx
      refine X9_sayFound_b30 C E 26 b i x 26 n h1 rfl ⟨t1.1.ok, sp_say t1 (by omega) (fun h2 e2 t2 => ?_)⟩
      refine ih (i + 1) (M ++ [x]) h2 (by omega) (by omega) (by rw [List.length_append]; show M.length + 1 + u ≤ _; omega) (he.tr e2) t2 (fun h' e' t' => hp1 h' e' ?_)
      have : sgL F i b = x :: sgL F (i + 1) b := by
        unfold sgL
        rw [hu, show b - (i + 1) = u by omega, List.range'_succ, List.map_cons, hx]
      rw [this]
      rw [List.append_assoc] at t'
      exact t'
    refine X9_sayFound_b2 C E 26 b i n h1 rfl ⟨⟨rg_nat (by omega), rg_nat (by omega)⟩, fun g => by omega, fun _ => ?_⟩
    rw [g19]
    refine ⟨t1.1.ok, ⟨rg_nat (by omega), rg_nat (by omega)⟩, fun g => w30 48 ?_, fun g => ?_⟩
    · rw [List.getD_eq_getElem?_getD, List.getElem?_eq_none (by omega)]; rfl
    · rw [t1.1.g18, Int.toNat_natCast]
      refine ⟨t1.1.ok, by decide, t1.1.t45.at (by omega) (by omega), w30 _ ?_⟩
      show 48 + (h1 45).2.2 i = _
      rw [f1.2 i (by omega)]
theorem sgL_nil {F : List Int} {a b : Nat} (h : b ≤ a) : sgL F a b = [] := by
  unfold sgL
  rw [show b - a = 0 by omega]; rfl
theorem sp_placed {G : xG} {l : Launch} {n : Nat} {h : xH} {L F : List Int} {tl nm p : Int} {Po : xH → Prop} (t : isWr n h L (F.length : Int) tl nm) (f : isFd h F) (hr : L.length + 200 ≤ 8200) (hp0 : -500 ≤ p) (hp1 : p ≤ 500) (hp : ∀ h' X, hE sS h h' → fnW F p X → isWr n h' (L ++ X) (F.length : Int) tl nm → Po h') : S_X9_placed G l 26 p n h Po := by
  refine S_X9_placed_of (fun k hl C E => X9_placed_b0 C E 26 p n h rfl ?_)
  have hF := f.1
  have g19 : hG h 26 19 = (F.length : Int) := t.2.2.2
  have w129 : ∀ h', Po h' → X9_placed_w129 G k n h' := fun h' y => X9_placed_b129 C E n h' rfl y
  have w110 : ∀ (P : List Int) (h1 : xH), (p ≤ -7 ∨ 21 < p) → hE sS h h1 → isWr n h1 (L ++ P) (F.length : Int) tl nm → P = sgL F 0 1 ++ (if 1 < F.length then [46] else []) → X9_placed_w110 G k 26 p F.length n h1 := by
    intro P h1 hpp e1 t1 hP
    have hPl : P.length ≤ 2 := by
      rw [hP, List.length_append, sgL_len]
      split <;> simp
    refine X9_placed_b110 C E 26 p F.length n h1 rfl ⟨t1.1.ok, sp_sayFound (a := 1) (b := F.length) t1 (f.mv e1 (by decide)) (by omega) (by rw [List.length_append]; omega) (by decide) (fun h2 e2 t2 => ⟨t2.1.ok, sp_say t2 (by rw [List.length_append, List.length_append, sgL_len]; omega) (fun h3 e3 t3 => ⟨t3.1.ok, sp_saySmall t3 (by rw [List.length_append, List.length_append, List.length_append, sgL_len]; show L.length + _ + _ + 1 + 4 ≤ _; omega) (by omega) (by omega) (fun h4 Ed e4 hEd t4 => w129 h4 (hp h4 _ (((e1.tr e2).tr e3).tr e4) (Or.inr (Or.inr ⟨hpp, Ed, hEd, rfl⟩)) ?_))⟩)⟩)⟩
    have : L ++ (sgL F 0 1 ++ ((if 1 < F.length then 46 :: sgL F 1 F.length else []) ++ 101 :: ((if p - 1 < 0 then [45] else []) ++ Ed))) = L ++ P ++ sgL F 1 F.length ++ [101] ++ ((if p - 1 < 0 then [45] else []) ++ Ed) := by
      rw [hP]
      by_cases g : 1 < F.length
      · rw [if_pos g, if_pos g]; simp
      · have hn : sgL F 1 F.length = [] := sgL_nil (by omega)
        rw [if_neg g, if_neg g, hn]; simp
    rw [this]; exact t4
  have w93 : (p ≤ -7 ∨ 21 < p) → X9_placed_w93 G k 26 p F.length n h := by
    intro hpp
    refine X9_placed_b93 C E 26 p F.length n h rfl ⟨t.1.ok, sp_sayFound (a := 0) (b := 1) t f (by decide) (by omega) (by decide) (fun h1 e1 t1 => ⟨⟨rg_nat (by omega), rgS (by decide) (by decide)⟩, fun g => ?_, fun g => ⟨t1.1.ok, sp_say t1 (by rw [List.length_append, sgL_len]; omega) (fun h2 e2 t2 => ?_)⟩⟩)⟩
    · exact w110 (sgL F 0 1) h1 hpp e1 t1 (by rw [if_neg (by omega), List.append_nil])
    · rw [List.append_assoc] at t2
      exact w110 _ h2 hpp (e1.tr e2) t2 (by rw [if_pos (by omega)])
  have w66 : ∀ (u i : Nat) (h1 : xH), -7 < p → p ≤ 0 → i + u = (-p).toNat → hE sS h h1 → isWr n h1 (L ++ ([48, 46] ++ List.replicate i 48)) (F.length : Int) tl nm → X9_placed_w66 G k 26 p F.length i n h1 := by
    intro u
    induction u with
    | zero =>
      intro i h1 p1 p2 hi e1 t1
      refine X9_placed_b66 C E 26 p F.length i n h1 rfl ⟨⟨rg_nat (by omega), rgS (by omega) (by omega)⟩, fun _ => ⟨t1.1.ok, sp_sayFound (a := 0) (b := F.length) t1 (f.mv e1 (by decide)) (by omega) (by simp; omega) (by decide) (fun h2 e2 t2 => w129 h2 (hp h2 _ (e1.tr e2) (Or.inr (Or.inl ⟨p1, p2, rfl⟩)) ?_))⟩, fun g => by omega⟩
      rw [show (-p).toNat = i by omega]
      simp only [List.append_assoc] at t2 ⊢
      exact t2
    | succ u ih =>
      intro i h1 p1 p2 hi e1 t1
      refine X9_placed_b66 C E 26 p F.length i n h1 rfl ⟨⟨rg_nat (by omega), rgS (by omega) (by omega)⟩, fun g => by omega, fun _ => ⟨t1.1.ok, sp_say t1 (by simp; omega) (fun h2 e2 t2 => ih (i + 1) h2 p1 p2 (by omega) (e1.tr e2) ?_)⟩⟩
      rw [List.replicate_succ']
      simp only [List.append_assoc] at t2 ⊢
      exact t2
  have w47 : (p ≤ 0 ∨ 21 < p) → X9_placed_w47 G k 26 p F.length n h := by
    intro hpp
    refine X9_placed_b47 C E 26 p F.length n h rfl ⟨⟨rgS (by omega) (by omega), rgS (by decide) (by decide)⟩, fun g => w93 (by omega), fun g => ⟨rgS (by omega) (by omega), fun g2 => w93 (by omega), fun g2 => ⟨t.1.ok, sp_sayWord t (by decide) (by show L.length + 2 ≤ _; omega) (fun h1 e1 t1 => ?_)⟩⟩⟩
    exact w66 (-p).toNat 0 h1 (by omega) (by omega) (by omega) e1 t1
  rw [g19]
  refine ⟨t.1.ok, rgS (by omega) (by omega), fun g => w47 (Or.inl g), fun g => ⟨⟨rgS (by omega) (by omega), rgS (by decide) (by decide)⟩, fun g2 => w47 (Or.inr g2), fun g2 => ⟨t.1.ok, ?_⟩⟩⟩
  obtain ⟨pn, rfl⟩ : ∃ pn : Nat, p = (pn : Int) := ⟨p.toNat, by omega⟩
  refine sp_sayFound (a := 0) (b := pn) t f (by omega) (by omega) (by decide) (fun h1 e1 t1 => ⟨t1.1.ok, sp_say t1 (by rw [List.length_append, sgL_len]; omega) (fun h2 e2 t2 => ?_)⟩)
  have e12 := e1.tr e2
  have w38 : ∀ (P : List Int) (h3 : xH), P.length ≤ 1 → hE sS h h3 → isWr n h3 (L ++ sgL F 0 pn ++ [46] ++ P) (F.length : Int) tl nm → P ++ sgL F pn F.length = sgL F pn (max F.length (pn + 1)) → X9_placed_w38 G k 26 pn F.length n h3 := by
    intro P h3 hP e3 t3 hPe
    refine X9_placed_b38 C E 26 pn F.length n h3 rfl ⟨t3.1.ok, sp_sayFound (a := pn) (b := F.length) t3 (f.mv e3 (by decide)) (by omega) (by rw [List.length_append, List.length_append, List.length_append, sgL_len]; show L.length + _ + 1 + _ + _ ≤ _; omega) (by omega) (fun h4 e4 t4 => w129 h4 (hp h4 _ (e3.tr e4) (Or.inl ⟨by omega, by omega, rfl⟩) ?_))⟩
    rw [Int.toNat_natCast, ← hPe]
    simp only [List.append_assoc, List.cons_append, List.nil_append] at t4 ⊢
    exact t4
  refine ⟨⟨rg_nat (by omega), rg_nat (by omega)⟩, fun g3 => w38 [] h2 (by decide) e12 (by rw [List.append_nil]; exact t2) ?_, fun g3 => ⟨t2.1.ok, sp_say t2 (by rw [List.length_append, List.length_append, sgL_len]; show L.length + _ + 1 < _; omega) (fun h3 e3 t3 => w38 [48] h3 (by decide) (e12.tr e3) t3 ?_)⟩⟩
  · rw [show max F.length (pn + 1) = F.length by omega]; rfl
  · rw [show max F.length (pn + 1) = pn + 1 by omega, sgL_nil (by omega)]
    unfold sgL
    rw [show pn + 1 - pn = 1 by omega]
    show [48] ++ [] = [48 + F.getD pn 0]
    rw [List.getD_eq_getElem?_getD, List.getElem?_eq_none (by omega)]; rfl
