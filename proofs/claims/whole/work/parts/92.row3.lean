/-! THE MODEL'S ROWS: a multiple taken away within a window, put back, compared -/
/-- the window of the row a at p, as a function -/
abbrev wn (h : xH) (a p : Nat) : Nat → Int := fun i => (h a).2.2 (p + i)
theorem rv_s (f : Nat → Int) (s : Nat) : rv f (s + 1) = rv f s + f s * 10000 ^ s := rfl
theorem sp_takeAway {G : xG} {l : Launch} {n : Nat} {h : xH} {a b m m' p s : Nat} {q : Int} {Po : Int → xH → Prop} (ta : tyR n h a m) (tb : tyR n h b m') (hab : a ≠ b) (hp1 : p + s < m) (hs : s ≤ m') (hda : dgt (wn h a p) (s + 1)) (hdb : dgt (h b).2.2 s) (hq0 : 0 ≤ q) (hq1 : q ≤ 9999)
    (hp : ∀ (z : Int) (h' : xH), hE (sC a) h h' → (∀ j, j < p ∨ p + s < j → (h' a).2.2 j = (h a).2.2 j) → dgt (wn h' a p) (s + 1) → ((z = 1 ∧ 0 ≤ rv (wn h a p) (s + 1) - q * rv (h b).2.2 s ∧ rv (wn h' a p) (s + 1) = rv (wn h a p) (s + 1) - q * rv (h b).2.2 s) ∨ (z = 0 ∧ rv (wn h a p) (s + 1) - q * rv (h b).2.2 s < 0 ∧ rv (wn h' a p) (s + 1) = rv (wn h a p) (s + 1) - q * rv (h b).2.2 s + 10000 ^ (s + 1))) → Po z h') : S_X9_takeAway G l a p b s q n h Po := by
  refine S_X9_takeAway_of (fun k hl C E => X9_takeAway_b0 C E a p b s q n h rfl ?_)
  have hm := ta.2.2.2
  have hm' := tb.2.2.2
  suffices K : ∀ (u i : Nat) (c : Int) (h1 : xH), i + u = s → 0 ≤ c → c ≤ 9999 → hE (sC a) h h1 → (∀ j, j < p ∨ p + i ≤ j → (h1 a).2.2 j = (h a).2.2 j) → dgt (wn h1 a p) i → rv (wn h1 a p) i - c * 10000 ^ i = rv (wn h a p) i - q * rv (h b).2.2 i → X9_takeAway_w6 G k a p b s q c i n h1 from K s 0 0 h (by omega) (by omega) (by omega) hE.rf (fun _ _ => rfl) (fun i hi => by omega) (by simp [rv])
  intro u
  induction u with
  | zero =>
    intro i c h1 hi hc0 hc1 e1 hk hd1 hv
    have hi2 : i = s := by omega
    subst hi2
    have dtop : 0 ≤ (h a).2.2 (p + i) ∧ (h a).2.2 (p + i) ≤ 9999 := hda i (by omega)
    have gtop : hG h1 a (p + i) = (h a).2.2 (p + i) := hk _ (Or.inr (Nat.le_refl _))
    have oka := (ta.mv e1).at (i := (p : Int) + i) (by omega) (by omega)
    have hrv := rv_bd hd1
    have hT := T_pos i
    have key : rv (wn h a p) (i + 1) - q * rv (h b).2.2 i = rv (wn h1 a p) i + ((h a).2.2 (p + i) - c) * 10000 ^ i := by
      rw [rv_s, Int.sub_mul]
      show rv (wn h a p) i + (h a).2.2 (p + i) * 10000 ^ i - _ = _
      omega
    have w109 : ∀ (x z : Int), x = (h a).2.2 (p + i) - c → (0 ≤ x ∧ z = x ∨ x < 0 ∧ z = x + 10000) → X9_takeAway_w109 G k x z ((p : Int) + i) a n h1 := by
      intro x z hx hz
      refine X9_takeAway_b109 C E x z _ a n h1 rfl ⟨oka, fun h2 e2 => ?_⟩
      rw [show ((p : Int) + i).toNat = p + i by omega] at e2
      have hg : ∀ j, (h2 a).2.2 j = if j = p + i then z else (h1 a).2.2 j := fun j => by rw [e2, hS_g]; simp
      have fin : ∀ y : Int, (y = 1 ∧ 0 ≤ x ∨ y = 0 ∧ x < 0) → Po y h2 := by
        intro y hy
        have hw : rv (wn h2 a p) (i + 1) = rv (wn h1 a p) i + z * 10000 ^ i := by
          rw [rv_s]
          show _ + (h2 a).2.2 (p + i) * _ = _
          rw [hg, if_pos rfl, rv_congr (g := wn h1 a p) (fun j hj => by show (h2 a).2.2 (p + j) = _; rw [hg, if_neg (by omega)])]
        refine hp y h2 (e1.tr (hE.put' (S := sC a) e2 rfl)) (fun j hj => by rw [hg, if_neg (by omega)]; exact hk j (by omega)) (fun j hj => ?_) ?_
        · show 0 ≤ (h2 a).2.2 (p + j) ∧ (h2 a).2.2 (p + j) ≤ 9999
          rw [hg]
          split
          · omega
          · exact hd1 j (by omega)
        · rw [hw, key, ← hx]
          rcases hy with ⟨y1, y2⟩ | ⟨y1, y2⟩
          · left
            have : 0 ≤ x * 10000 ^ i := Int.mul_nonneg y2 (Int.le_of_lt hT)
            have hzx : z = x := by omega
            exact ⟨y1, by omega, by rw [hzx]⟩
          · right
            have hzx : z = x + 10000 := by omega
            have h3 : x * 10000 ^ i ≤ -1 * 10000 ^ i := Int.mul_le_mul_of_nonneg_right (by omega) (Int.le_of_lt hT)
            exact ⟨y1, by omega, by rw [hzx, Int.add_mul, T_succ]; omega⟩
      have rx : rg x := rgS (by omega) (by omega)
      exact ⟨rx, fun g => X9_takeAway_b120 C E 0 n h2 rfl ⟨Or.inl rfl, fin 0 (Or.inr ⟨rfl, g⟩)⟩, fun g => X9_takeAway_b120 C E 1 n h2 rfl ⟨Or.inr rfl, fin 1 (Or.inl ⟨rfl, by omega⟩)⟩⟩
    refine X9_takeAway_b6 C E a p b i q c i n h1 rfl ⟨⟨rg_nat (by omega), rg_nat (by omega)⟩, fun _ => ⟨oka, ?_⟩, fun g => by omega⟩
    rw [show ((p : Int) + i).toNat = p + i by omega, gtop]
    exact ⟨rgS (by omega) (by omega), fun g => w109 _ _ rfl (Or.inl ⟨g, rfl⟩), fun g => w109 _ _ rfl (Or.inr ⟨by omega, rfl⟩)⟩
  | succ u ih =>
    intro i c h1 hi hc0 hc1 e1 hk hd1 hv
    have dai := hda i (by omega)
    have dai' : 0 ≤ (h a).2.2 (p + i) ∧ (h a).2.2 (p + i) ≤ 9999 := dai
    have dbi := hdb i (by omega)
    have ga : hG h1 a (p + i) = (h a).2.2 (p + i) := hk _ (Or.inr (Nat.le_refl _))
    have gb : hG h1 b i = (h b).2.2 i := by
      show (h1 b).2.2 i = _
      rw [(e1 b).2.2 (fun z => hab z.symm)]
    have oka := (ta.mv e1).at (i := (p : Int) + i) (by omega) (by omega)
    have okb := (tb.mv e1).at (i := (i : Int)) (by omega) (by omega)
    have hm0 : 0 ≤ (h b).2.2 i * q := Int.mul_nonneg dbi.1 hq0
    have hm1 : (h b).2.2 i * q ≤ 9999 * 9999 := Int.mul_le_mul dbi.2 hq1 hq0 (by decide)
    have w65 : ∀ (c' x : Int), 0 ≤ c' → c' ≤ 9999 → 0 ≤ x → x ≤ 9999 → x = (h a).2.2 (p + i) - (h b).2.2 i * q - c + c' * 10000 → X9_takeAway_w65 G k a p b s q c' i x n h1 := by
      intro c' x z1 z2 z3 z4 hx
      refine X9_takeAway_b65 C E a p b s q c' i x n h1 rfl ⟨oka, fun h2 e2 => ?_⟩
      rw [show ((p : Int) + i).toNat = p + i by omega] at e2
      have hg : ∀ j, (h2 a).2.2 j = if j = p + i then x else (h1 a).2.2 j := fun j => by rw [e2, hS_g]; simp
      refine ih (i + 1) c' h2 (by omega) z1 z2 (e1.tr (hE.put' (S := sC a) e2 rfl)) (fun j hj => by rw [hg, if_neg (by omega)]; exact hk j (by omega)) (fun j hj => ?_) ?_
      · show 0 ≤ (h2 a).2.2 (p + j) ∧ (h2 a).2.2 (p + j) ≤ 9999
        rw [hg]
        split
        · exact ⟨z3, z4⟩
        · exact hd1 j (by omega)
      · rw [rv_s, rv_s, rv_s]
        show rv (wn h2 a p) i + (h2 a).2.2 (p + i) * 10000 ^ i - c' * 10000 ^ (i + 1) = rv (wn h a p) i + (h a).2.2 (p + i) * 10000 ^ i - q * (rv (h b).2.2 i + (h b).2.2 i * 10000 ^ i)
        rw [hg, if_pos rfl, rv_congr (g := wn h1 a p) (fun j hj => by show (h2 a).2.2 (p + j) = _; rw [hg, if_neg (by omega)]), hx, T_succ, Int.mul_add, Int.add_mul, Int.sub_mul, Int.sub_mul]
        have m1 : q * ((h b).2.2 i * 10000 ^ i) = (h b).2.2 i * q * 10000 ^ i := by rw [← Int.mul_assoc, Int.mul_comm q]
        have m2 : c' * 10000 * 10000 ^ i = c' * (10000 * 10000 ^ i) := Int.mul_assoc _ _ _
        omega
    refine X9_takeAway_b6 C E a p b s q c i n h1 rfl ⟨⟨rg_nat (by omega), rg_nat (by omega)⟩, fun g => by omega, fun _ => ⟨oka, okb, fun y hy => ?_⟩⟩
    rw [show ((p : Int) + i).toNat = p + i by omega, Int.toNat_natCast, ga, gb] at hy
    refine ⟨⟨by omega, by omega⟩, fun g => w65 0 y (by omega) (by omega) g (by omega) (by omega), fun g => ⟨⟨⟨by omega, by omega⟩, rgS (by decide) (by decide), by decide⟩, fun y2 hy2 => ?_⟩⟩
    obtain ⟨td, -⟩ := tdm (show 0 ≤ -y + 10000 - 1 by omega) 10000
    rw [td] at hy2 ⊢
    exact w65 _ y2 (by omega) (by omega) (by omega) (by omega) (by omega)
theorem sp_putBack {G : xG} {l : Launch} {n : Nat} {h : xH} {a b m m' p s : Nat} {Po : xH → Prop} (ta : tyR n h a m) (tb : tyR n h b m') (hab : a ≠ b) (hp1 : p + s < m) (hs : s ≤ m') (hda : dgt (wn h a p) (s + 1)) (hdb : dgt (h b).2.2 s)
    (hp : ∀ (h' : xH), hE (sC a) h h' → (∀ j, j < p ∨ p + s < j → (h' a).2.2 j = (h a).2.2 j) → dgt (wn h' a p) (s + 1) → ((h a).2.2 (p + s) ≤ (h' a).2.2 (p + s) ∧ rv (wn h' a p) (s + 1) = rv (wn h a p) (s + 1) + rv (h b).2.2 s ∨ (h' a).2.2 (p + s) < (h a).2.2 (p + s) ∧ rv (wn h' a p) (s + 1) = rv (wn h a p) (s + 1) + rv (h b).2.2 s - 10000 ^ (s + 1)) → Po h') : S_X9_putBack G l a p b s n h Po := by
  refine S_X9_putBack_of (fun k hl C E => X9_putBack_b0 C E a p b s n h rfl ?_)
  have hm := ta.2.2.2
  have hm' := tb.2.2.2
  suffices K : ∀ (u i : Nat) (c : Int) (h1 : xH), i + u = s → 0 ≤ c → c ≤ 1 → hE (sC a) h h1 → (∀ j, j < p ∨ p + i ≤ j → (h1 a).2.2 j = (h a).2.2 j) → dgt (wn h1 a p) i → rv (wn h1 a p) i + c * 10000 ^ i = rv (wn h a p) i + rv (h b).2.2 i → X9_putBack_w6 G k a p b s c i n h1 from K s 0 0 h (by omega) (by omega) (by omega) hE.rf (fun _ _ => rfl) (fun i hi => by omega) (by simp [rv])
  intro u
  induction u with
  | zero =>
    intro i c h1 hi hc0 hc1 e1 hk hd1 hv
    have hi2 : i = s := by omega
    subst hi2
    have dtop : 0 ≤ (h a).2.2 (p + i) ∧ (h a).2.2 (p + i) ≤ 9999 := hda i (by omega)
    have gtop : hG h1 a (p + i) = (h a).2.2 (p + i) := hk _ (Or.inr (Nat.le_refl _))
    have oka := (ta.mv e1).at (i := (p : Int) + i) (by omega) (by omega)
    refine X9_putBack_b6 C E a p b i c i n h1 rfl ⟨⟨rg_nat (by omega), rg_nat (by omega)⟩, fun _ => ⟨oka, ?_⟩, fun g => by omega⟩
    rw [show ((p : Int) + i).toNat = p + i by omega, gtop]
    obtain ⟨-, tm⟩ := tdm (show 0 ≤ (h a).2.2 (p + i) + c by omega) 10000
    rw [tm]
    refine ⟨⟨⟨by omega, by omega⟩, rgS (by decide) (by decide), by decide⟩, oka, fun h2 e2 => ?_⟩
    have hg : ∀ j, (h2 a).2.2 j = if j = p + i then ((h a).2.2 (p + i) + c) % 10000 else (h1 a).2.2 j := fun j => by rw [e2, hS_g]; simp
    have hw : rv (wn h2 a p) (i + 1) = rv (wn h1 a p) i + ((h a).2.2 (p + i) + c) % 10000 * 10000 ^ i := by
      rw [rv_s]
      show _ + (h2 a).2.2 (p + i) * _ = _
      rw [hg, if_pos rfl, rv_congr (g := wn h1 a p) (fun j hj => by show (h2 a).2.2 (p + j) = _; rw [hg, if_neg (by omega)])]
    refine hp h2 (e1.tr (hE.put' (S := sC a) e2 rfl)) (fun j hj => by rw [hg, if_neg (by omega)]; exact hk j (by omega)) (fun j hj => ?_) ?_
    · show 0 ≤ (h2 a).2.2 (p + j) ∧ (h2 a).2.2 (p + j) ≤ 9999
      rw [hg]
      split
      · omega
      · exact hd1 j (by omega)
    · rw [hw, hg, if_pos rfl, rv_s (wn h a p)]
      show _ ∧ _ = rv (wn h a p) i + (h a).2.2 (p + i) * 10000 ^ i + _ ∨ _ ∧ _ = rv (wn h a p) i + (h a).2.2 (p + i) * 10000 ^ i + _ - _
      rcases Int.lt_or_le ((h a).2.2 (p + i) + c) 10000 with g | g
      · left
        rw [Int.emod_eq_of_lt (by omega) g, Int.add_mul]
        omega
      · right
        have e1 : (h a).2.2 (p + i) = 9999 := by omega
        have e2 : c = 1 := by omega
        rw [e1, e2, T_succ]
        rw [e2] at hv
        refine ⟨by decide, ?_⟩
        rw [show ((9999 : Int) + 1) % 10000 = 0 by decide]
        omega
  | succ u ih =>
    intro i c h1 hi hc0 hc1 e1 hk hd1 hv
    have dai : 0 ≤ (h a).2.2 (p + i) ∧ (h a).2.2 (p + i) ≤ 9999 := hda i (by omega)
    have dbi := hdb i (by omega)
    have ga : hG h1 a (p + i) = (h a).2.2 (p + i) := hk _ (Or.inr (Nat.le_refl _))
    have gb : hG h1 b i = (h b).2.2 i := by
      show (h1 b).2.2 i = _
      rw [(e1 b).2.2 (fun z => hab z.symm)]
    have oka := (ta.mv e1).at (i := (p : Int) + i) (by omega) (by omega)
    have okb := (tb.mv e1).at (i := (i : Int)) (by omega) (by omega)
    refine X9_putBack_b6 C E a p b s c i n h1 rfl ⟨⟨rg_nat (by omega), rg_nat (by omega)⟩, fun g => by omega, fun _ => ⟨oka, okb, fun y hy => ?_⟩⟩
    rw [show ((p : Int) + i).toNat = p + i by omega, Int.toNat_natCast, ga, gb] at hy
    obtain ⟨td, tm⟩ := tdm (show 0 ≤ y by omega) 10000
    rw [td, tm]
    refine ⟨⟨⟨by omega, by omega⟩, rgS (by decide) (by decide), by decide⟩, oka, fun h2 e2 => ⟨⟨⟨by omega, by omega⟩, rgS (by decide) (by decide), by decide⟩, ?_⟩⟩
    rw [show ((p : Int) + i).toNat = p + i by omega] at e2
    have hg : ∀ j, (h2 a).2.2 j = if j = p + i then y % 10000 else (h1 a).2.2 j := fun j => by rw [e2, hS_g]; simp
    refine ih (i + 1) (y / 10000) h2 (by omega) (by omega) (by omega) (e1.tr (hE.put' (S := sC a) e2 rfl)) (fun j hj => by rw [hg, if_neg (by omega)]; exact hk j (by omega)) (fun j hj => ?_) ?_
    · show 0 ≤ (h2 a).2.2 (p + j) ∧ (h2 a).2.2 (p + j) ≤ 9999
      rw [hg]
      split
      · omega
      · exact hd1 j (by omega)
    · rw [rv_s, rv_s, rv_s]
      show rv (wn h2 a p) i + (h2 a).2.2 (p + i) * 10000 ^ i + y / 10000 * 10000 ^ (i + 1) = rv (wn h a p) i + (h a).2.2 (p + i) * 10000 ^ i + (rv (h b).2.2 i + (h b).2.2 i * 10000 ^ i)
      rw [hg, if_pos rfl, rv_congr (g := wn h1 a p) (fun j hj => by show (h2 a).2.2 (p + j) = _; rw [hg, if_neg (by omega)]), T_succ, ← Int.mul_assoc, Int.add_assoc, ← Int.add_mul, show y % 10000 + y / 10000 * 10000 = y by omega, hy, Int.add_mul, Int.add_mul]
      omega
theorem sp_isAtLeast {G : xG} {l : Launch} {n : Nat} {h : xH} {a b m m' p s : Nat} {Po : Int → xH → Prop} (ta : tyR n h a m) (tb : tyR n h b m') (hp1 : p + s < m) (hs : s ≤ m') (hda : dgt (wn h a p) (s + 1)) (hdb : dgt (h b).2.2 s)
    (hp : Po (if rv (h b).2.2 s ≤ rv (wn h a p) (s + 1) then 1 else 0) h) : S_X9_isAtLeast G l a p b s n h Po := by
  refine S_X9_isAtLeast_of (fun k hl C E => ?_)
  have hm := ta.2.2.2
  have hm' := tb.2.2.2
  have dtop : 0 ≤ (h a).2.2 (p + s) ∧ (h a).2.2 (p + s) ≤ 9999 := hda s (by omega)
  have gtop : hG h a (p + s) = (h a).2.2 (p + s) := rfl
  have oka := ta.at (i := (p : Int) + s) (by omega) (by omega)
  have bb := rv_bd hdb
  have ba := rv_bd (hda.le (t := s) (by omega))
  have hT := T_pos s
  have hw : rv (wn h a p) (s + 1) = rv (wn h a p) s + (h a).2.2 (p + s) * 10000 ^ s := rfl
  have hy1 : rv (h b).2.2 s ≤ rv (wn h a p) (s + 1) → Po 1 h := fun g => by rwa [if_pos g] at hp
  have hy0 : ¬ rv (h b).2.2 s ≤ rv (wn h a p) (s + 1) → Po 0 h := fun g => by rwa [if_neg g] at hp
  refine X9_isAtLeast_b0 C E a p b s n h rfl ⟨oka, ?_⟩
  rw [show ((p : Int) + s).toNat = p + s by omega, gtop]
  refine ⟨rgS (by omega) (by omega), fun g => ?_, fun g => ⟨Or.inr rfl, hy1 ?_⟩⟩
  · have e0 : (h a).2.2 (p + s) = 0 := by omega
    rw [e0, Int.zero_mul, Int.add_zero] at hw
    suffices K : ∀ (u r : Nat), u + r = s → (∀ j, u ≤ j → j < s → (h a).2.2 (p + j) = (h b).2.2 j) → X9_isAtLeast_w15 G k a p b ((u : Int) - 1) n h from K s 0 (by omega) (fun j h1 h2 => by omega)
    intro u
    induction u with
    | zero =>
      intro r hr hk
      refine X9_isAtLeast_b15 C E a p b _ n h rfl ⟨rgS (by omega) (by omega), fun _ => ⟨Or.inr rfl, hy1 ?_⟩, fun g => by omega⟩
      rw [hw, rv_congr (f := wn h a p) (g := (h b).2.2) (fun i hi => hk i (by omega) hi)]
      exact Int.le_refl _
    | succ u ih =>
      intro r hr hk
      have da : 0 ≤ (h a).2.2 (p + u) ∧ (h a).2.2 (p + u) ≤ 9999 := hda u (by omega)
      have db := hdb u (by omega)
      have oka := ta.at (i := (p : Int) + u) (by omega) (by omega)
      have okb := tb.at (i := (u : Int)) (by omega) (by omega)
      have rga : rg (hG h a (p + u)) := rgS (by show _ ≤ (h a).2.2 (p + u); omega) (by show (h a).2.2 (p + u) ≤ _; omega)
      have rgb : rg (hG h b u) := rgS (by show _ ≤ (h b).2.2 u; omega) (by show (h b).2.2 u ≤ _; omega)
      have ea := rv_split (wn h a p) u (r + 1)
      have eb := rv_split (h b).2.2 u (r + 1)
      rw [show u + (r + 1) = s by omega] at ea eb
      rw [rv_shift] at ea eb
      have ee : rv (fun i => wn h a p (u + 1 + i)) r = rv (fun i => (h b).2.2 (u + 1 + i)) r := rv_congr (fun i hi => hk _ (by omega) (by omega))
      rw [← ee] at eb
      have eau : wn h a p u = (h a).2.2 (p + u) := rfl
      rw [eau] at ea
      have ba := rv_bd (hda.le (t := u) (by omega))
      have bb := rv_bd (hdb.le (t := u) (by omega))
      have hpu := T_pos u
      have w51 : ∀ z : Int, (z = 1 ∧ rv (h b).2.2 s ≤ rv (wn h a p) (s + 1) ∨ z = 0 ∧ ¬ rv (h b).2.2 s ≤ rv (wn h a p) (s + 1)) → X9_isAtLeast_w51 G k z n h := by
        intro z hz
        refine X9_isAtLeast_b51 C E z n h rfl ⟨by omega, ?_⟩
        rcases hz with ⟨z1, z2⟩ | ⟨z1, z2⟩
        · rw [z1]; exact hy1 z2
        · rw [z1]; exact hy0 z2
      refine X9_isAtLeast_b15 C E a p b _ n h rfl ⟨rgS (by omega) (by omega), fun g => by omega, fun _ => ?_⟩
      rw [show ((u + 1 : Nat) : Int) - 1 = (u : Int) by omega, Int.toNat_natCast, show ((p : Int) + u).toNat = p + u by omega]
      refine ⟨oka, okb, ⟨rga, rgb⟩, fun g => ?_, fun g => ⟨oka, okb, ⟨rga, rgb⟩, fun g2 => w51 0 (Or.inr ⟨rfl, ?_⟩), fun g2 => w51 1 (Or.inl ⟨rfl, ?_⟩)⟩⟩
      · rw [show (u : Int) + (-1) = (u : Int) - 1 by omega]
        refine ih (r + 1) (by omega) (fun j h1 h2 => ?_)
        rcases Nat.lt_or_ge u j with y | y
        · exact hk j y h2
        · have : j = u := by omega
          subst this
          exact g
      · have g3 : (h a).2.2 (p + u) + 1 ≤ (h b).2.2 u := by
          have g4 : (h a).2.2 (p + u) ≤ (h b).2.2 u := g2
          have g5 : (h a).2.2 (p + u) ≠ (h b).2.2 u := g
          omega
        have h5 := Int.mul_le_mul_of_nonneg_left (show (h a).2.2 (p + u) + 1 + 10000 * rv (fun i => wn h a p (u + 1 + i)) r ≤ (h b).2.2 u + 10000 * rv (fun i => wn h a p (u + 1 + i)) r by omega) (Int.le_of_lt hpu)
        rw [show (h a).2.2 (p + u) + 1 + 10000 * rv (fun i => wn h a p (u + 1 + i)) r = ((h a).2.2 (p + u) + 10000 * rv (fun i => wn h a p (u + 1 + i)) r) + 1 by omega, Int.mul_add, Int.mul_one] at h5
        omega
      · have g3 : (h b).2.2 u + 1 ≤ (h a).2.2 (p + u) := by
          have g4 : ¬ (h a).2.2 (p + u) ≤ (h b).2.2 u := g2
          omega
        have h5 := Int.mul_le_mul_of_nonneg_left (show (h b).2.2 u + 1 + 10000 * rv (fun i => wn h a p (u + 1 + i)) r ≤ (h a).2.2 (p + u) + 10000 * rv (fun i => wn h a p (u + 1 + i)) r by omega) (Int.le_of_lt hpu)
        rw [show (h b).2.2 u + 1 + 10000 * rv (fun i => wn h a p (u + 1 + i)) r = ((h b).2.2 u + 10000 * rv (fun i => wn h a p (u + 1 + i)) r) + 1 by omega, Int.mul_add, Int.mul_one] at h5
        omega
  · have h3 : 1 * 10000 ^ s ≤ (h a).2.2 (p + s) * 10000 ^ s := Int.mul_le_mul_of_nonneg_right (by omega) (Int.le_of_lt hT)
    omega
