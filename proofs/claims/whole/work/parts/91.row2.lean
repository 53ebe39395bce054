/-! THE MODEL'S ROWS: doubled, tenfold, cut, copied, compared -/
theorem ten_mono {a b : Nat} (h : a ≤ b) : (10 : Int) ^ a ≤ 10 ^ b := by
  have : (10 : Nat) ^ a ≤ 10 ^ b := Nat.pow_le_pow_right (by decide) h
  exact_mod_cast this
theorem iSl1 : ∀ z : Nat, z ≤ 13 → iSl 1 z = 2 ^ z := by decide +kernel
theorem sp_doubled {G : xG} {l : Launch} {n : Nat} {h : xH} {a m s k0 : Nat} {v : Int} {Po : Int → xH → Prop} (t : isT n h a m s v) (hk : k0 ≤ 100000) (hfit : v * 2 ^ k0 < 10000 ^ m) (hp : ∀ (h' : xH) (s' : Nat), hE (sC a) h h' → isT n h' a m s' (v * 2 ^ k0) → (∀ j, s' ≤ j → (h' a).2.2 j = (h a).2.2 j) → Po s' h') : S_X9_doubled G l a s k0 n h Po := by
  refine S_X9_doubled_of (fun k hl C E => X9_doubled_b0 C E a s k0 n h rfl ?_)
  suffices K : ∀ (f u : Nat) (s1 : Nat) (w : Int) (h1 : xH), u ≤ f → u ≤ 100000 → hE (sC a) h h1 → isT n h1 a m s1 w → w * 2 ^ u = v * 2 ^ k0 → (∀ j, s1 ≤ j → (h1 a).2.2 j = (h a).2.2 j) → X9_doubled_w5 G k a s1 u n h1 from K k0 k0 s v h (Nat.le_refl _) hk hE.rf t rfl (fun _ _ => rfl)
  intro f
  induction f with
  | zero =>
    intro u s1 w h1 hu hu2 e1 t1 hw hkk
    have : u = 0 := by omega
    subst this
    rw [Int.pow_zero, Int.mul_one] at hw
    subst hw
    exact X9_doubled_b5 C E a s1 0 n h1 rfl ⟨rgS (by decide) (by decide), fun _ => hp h1 s1 e1 t1 hkk, fun g => by omega⟩
  | succ f ih =>
    intro u s1 w h1 hu hu2 e1 t1 hw hkk
    rcases Nat.eq_zero_or_pos u with z | z
    · subst z
      exact ih 0 s1 w h1 (by omega) (by omega) e1 t1 hw hkk
    · refine X9_doubled_b5 C E a s1 u n h1 rfl ⟨rg_nat (by omega), fun g => by omega, fun _ => sp_min (rg_nat (by omega)) (rgS (by decide) (by decide)) ?_⟩
      obtain ⟨st, hst⟩ : ∃ st : Nat, min (u : Int) 13 = (st : Int) := ⟨min u 13, by omega⟩
      rw [hst]
      have h13 : st ≤ 13 := by omega
      have hsu : st ≤ u := by omega
      rw [iSl1 st h13]
      have hw0 := t1.val.1
      have hpst : (2 : Int) ^ st ≤ 2 ^ 13 := pw_mono h13
      have hpst0 := pw_pos st
      have h213 : (2 : Int) ^ 13 = 8192 := by decide
      have e2 : w * 2 ^ st * 2 ^ (u - st) = w * 2 ^ u := by rw [Int.mul_assoc, ← Int.pow_add, show st + (u - st) = u by omega]
      refine sp_scale t1 (by omega) (by omega) (by decide) (by decide) ?_ (fun h2 s2 e3 t2 hk2 => ?_)
      · have h3 : w * 2 ^ st * 1 ≤ w * 2 ^ st * 2 ^ (u - st) := Int.mul_le_mul_of_nonneg_left (by have := pw_pos (u - st); omega) (Int.mul_nonneg hw0 (Int.le_of_lt hpst0))
        rw [Int.mul_one, e2, hw] at h3
        omega
      · rw [Int.add_zero] at t2
        rw [show (u : Int) - st = ((u - st : Nat) : Int) by omega]
        refine ih (u - st) s2 (w * 2 ^ st) h2 (by omega) (by omega) (e1.tr e3) t2 (by rw [e2]; exact hw) (fun j hj => ?_)
        have hle : w ≤ w * 2 ^ st := by
          have := Int.mul_le_mul_of_nonneg_left (show (1 : Int) ≤ 2 ^ st by omega) hw0
          rwa [Int.mul_one] at this
        have := t1.len (k := s2) (by have := t2.val.2.1; omega)
        rw [hk2 j hj, hkk j (by omega)]
theorem sp_tenfold {G : xG} {l : Launch} {n : Nat} {h : xH} {a m s k0 : Nat} {v : Int} {Po : Int → xH → Prop} (t : isT n h a m s v) (hk : k0 ≤ 100000) (hfit : v * 10 ^ k0 < 10000 ^ m) (hp : ∀ (h' : xH) (s' : Nat), hE (sC a) h h' → isT n h' a m s' (v * 10 ^ k0) → Po s' h') : S_X9_tenfold G l a s k0 n h Po := by
  refine S_X9_tenfold_of (fun k hl C E => X9_tenfold_b0 C E a s k0 n h rfl ?_)
  have tp : ∀ j : Nat, (0 : Int) < 10 ^ j := fun j => Int.pow_pos (by decide)
  suffices K : ∀ (f : Nat) (u : Int) (r s1 : Nat) (w : Int) (h1 : xH), r ≤ f → (0 ≤ u ∧ u = r ∨ u < 0 ∧ r = 0) → -4 ≤ u → u ≤ 100000 → hE (sC a) h h1 → isT n h1 a m s1 w → w * 10 ^ r = v * 10 ^ k0 → X9_tenfold_w5 G k a s1 u n h1 from K k0 k0 k0 s v h (Nat.le_refl _) (Or.inl ⟨by omega, rfl⟩) (by omega) (by omega) hE.rf t rfl
  intro f
  induction f with
  | zero =>
    intro u r s1 w h1 hu hu1 hu2 hu3 e1 t1 hw
    have : r = 0 := by omega
    subst this
    rw [Int.pow_zero, Int.mul_one] at hw
    subst hw
    exact X9_tenfold_b5 C E a s1 u n h1 rfl ⟨rgS (by omega) (by omega), fun _ => hp h1 s1 e1 t1, fun g => by omega⟩
  | succ f ih =>
    intro u r s1 w h1 hu hu1 hu2 hu3 e1 t1 hw
    rcases Nat.eq_zero_or_pos r with z | z
    · subst z
      exact ih u 0 s1 w h1 (by omega) hu1 hu2 hu3 e1 t1 hw
    · have hur : u = r := by omega
      have w49 : ∀ st : Nat, st ≤ 4 → st ≤ r → ((r : Int) + (-4) < 0 ∧ r = st ∨ st = 4) → X9_tenfold_w49 G k a u ((10 : Int) ^ st) s1 a n h1 := by
        intro st h4 hsr hcase
        have hw0 := t1.val.1
        have hpst : (10 : Int) ^ st ≤ 10 ^ 4 := ten_mono h4
        have hpst0 := tp st
        have h104 : (10 : Int) ^ 4 = 10000 := by decide
        have e2 : w * 10 ^ st * 10 ^ (r - st) = w * 10 ^ r := by rw [Int.mul_assoc, ← Int.pow_add, show st + (r - st) = r by omega]
        refine X9_tenfold_b49 C E a u _ s1 a n h1 rfl (sp_scale t1 (by omega) (by omega) (by decide) (by decide) ?_ (fun h2 s2 e3 t2 _ => ?_))
        · have h3 : w * 10 ^ st * 1 ≤ w * 10 ^ st * 10 ^ (r - st) := Int.mul_le_mul_of_nonneg_left (by have := tp (r - st); omega) (Int.mul_nonneg hw0 (Int.le_of_lt hpst0))
          rw [Int.mul_one, e2, hw] at h3
          omega
        · rw [Int.add_zero] at t2
          refine ih (u + (-4)) (r - st) s2 (w * 10 ^ st) h2 ?_ (by omega) (by omega) (by omega) (e1.tr e3) t2 (by rw [e2]; exact hw)
          rcases Nat.eq_zero_or_pos st with y | y
          · omega
          · omega
      refine X9_tenfold_b5 C E a s1 u n h1 rfl ⟨rgS (by omega) (by omega), fun g => by omega, fun _ => ⟨⟨rgS (by omega) (by omega), rgS (by decide) (by decide)⟩, fun g => ⟨⟨rgS (by omega) (by omega), rgS (by decide) (by decide)⟩, fun g2 => ⟨⟨rgS (by omega) (by omega), rgS (by decide) (by decide)⟩, fun g3 => w49 1 (by omega) (by omega) (by omega), fun g3 => w49 2 (by omega) (by omega) (by omega)⟩, fun g2 => w49 3 (by omega) (by omega) (by omega)⟩, fun g => w49 4 (by omega) (by omega) (Or.inr rfl)⟩⟩
theorem sp_cutBy {G : xG} {l : Launch} {n : Nat} {h : xH} {a m s : Nat} {b : Int} {Po : Int → xH → Prop} (t : tyR n h a m) (hsm : s ≤ m) (hd : dgt (h a).2.2 s) (hb0 : 1 ≤ b) (hb1 : b ≤ 10000) (hp : ∀ (h' : xH), hE (sC a) h h' → dgt (h' a).2.2 s → rv (h' a).2.2 s = rv (h a).2.2 s / b → (∀ j, s ≤ j → (h' a).2.2 j = (h a).2.2 j) → Po (rv (h a).2.2 s % b) h') : S_X9_cutBy G l a s b n h Po := by
  refine S_X9_cutBy_of (fun k hl C E => X9_cutBy_b0 C E a s b n h rfl ?_)
  have hm := t.2.2.2
  suffices K : ∀ (u r : Nat) (c : Int) (h1 : xH), u + r = s → hE (sC a) h h1 → dgt (h1 a).2.2 s → (∀ j, j < u → (h1 a).2.2 j = (h a).2.2 j) → (∀ j, s ≤ j → (h1 a).2.2 j = (h a).2.2 j) → c = rv (fun i => (h a).2.2 (u + i)) r % b → rv (fun i => (h1 a).2.2 (u + i)) r = rv (fun i => (h a).2.2 (u + i)) r / b → X9_cutBy_w7 G k a b c ((u : Int) - 1) n h1 from K s 0 0 h (by omega) hE.rf hd (fun _ _ => rfl) (fun _ _ => rfl) (by simp [rv]) (by simp [rv])
  intro u
  induction u with
  | zero =>
    intro r c h1 hr e1 hd1 hk hk2 hc hv
    have : r = s := by omega
    subst this
    simp only [Nat.zero_add] at hc hv
    refine X9_cutBy_b7 C E a b c _ n h1 rfl ⟨rgS (by omega) (by omega), fun _ => by rw [hc]; exact hp h1 e1 hd1 hv hk2, fun g => by omega⟩
  | succ u ih =>
    intro r c h1 hr e1 hd1 hk hk2 hc hv
    have hdi := hd u (by omega)
    have hgi : hG h1 a u = (h a).2.2 u := hk u (by omega)
    have hcm := Int.emod_nonneg (rv (fun i => (h a).2.2 (u + 1 + i)) r) (show b ≠ 0 by omega)
    have hcl := Int.emod_lt_of_pos (rv (fun i => (h a).2.2 (u + 1 + i)) r) (show 0 < b by omega)
    rw [← hc] at hcm hcl
    refine X9_cutBy_b7 C E a b c _ n h1 rfl ⟨rgS (by omega) (by omega), fun g => by omega, fun _ => ?_⟩
    rw [show ((u + 1 : Nat) : Int) - 1 = (u : Int) by omega, Int.toNat_natCast, hgi]
    obtain ⟨td, tm⟩ := tdm (show 0 ≤ c * 10000 + (h a).2.2 u by omega) b
    rw [td, tm]
    have hq0 : 0 ≤ (c * 10000 + (h a).2.2 u) / b := Int.ediv_nonneg (by omega) (by omega)
    have hq1 : (c * 10000 + (h a).2.2 u) / b < 10000 := by
      apply Int.ediv_lt_of_lt_mul (by omega)
      omega
    refine ⟨(t.mv e1).at (by omega) (by omega), ⟨⟨by omega, by omega⟩, rgS (by omega) (by omega), by omega⟩, (t.mv e1).at (by omega) (by omega), fun h2 e2 => ⟨⟨⟨by omega, by omega⟩, rgS (by omega) (by omega), by omega⟩, fun y hy => ?_⟩⟩
    rw [show (u : Int) + (-1) = (u : Int) - 1 by omega]
    have hg : ∀ j, (h2 a).2.2 j = if j = u then (c * 10000 + (h a).2.2 u) / b else (h1 a).2.2 j := fun j => by rw [e2, hS_g]; simp
    have hsh := rv_shift (h a).2.2 u r
    have hW := Int.mul_ediv_add_emod (rv (fun i => (h a).2.2 (u + 1 + i)) r) b
    rw [← hc, ← hv] at hW
    have hB : rv (fun i => (h a).2.2 (u + i)) (r + 1) = (c * 10000 + (h a).2.2 u) + b * (10000 * rv (fun i => (h1 a).2.2 (u + 1 + i)) r) := by
      rw [hsh, ← hW]
      rw [Int.mul_add]
      have : 10000 * (b * rv (fun i => (h1 a).2.2 (u + 1 + i)) r) = b * (10000 * rv (fun i => (h1 a).2.2 (u + 1 + i)) r) := by rw [← Int.mul_assoc, Int.mul_comm 10000 b, Int.mul_assoc]
      omega
    refine ih (r + 1) y h2 (by omega) (e1.tr (hE.put' (S := sC a) e2 rfl)) (fun j hj => ?_) (fun j hj => by rw [hg, if_neg (by omega)]; exact hk j (by omega)) (fun j hj => by rw [hg, if_neg (by omega)]; exact hk2 j (by omega)) ?_ ?_
    · rw [hg]
      split
      · omega
      · exact hd1 j hj
    · rw [hy, hB, Int.add_mul_emod_self_left]
    · rw [hB, Int.add_mul_ediv_left _ _ (show b ≠ 0 by omega), rv_shift, hg, if_pos rfl]
      congr 2
      exact rv_congr (fun i hi => by rw [hg, if_neg (by omega)])
theorem sp_copyRow {G : xG} {l : Launch} {n : Nat} {h : xH} {a b m m' : Nat} {s : Nat} {Po : xH → Prop} (ta : tyR n h a m) (tb : tyR n h b m') (hab : a ≠ b) (hs : s ≤ m) (hp : ∀ (h' : xH), hE (sC b) h h' → (∀ j, j < m' → (h' b).2.2 j = if j < s then (h a).2.2 j else 0) → Po h') : S_X9_copyRow G l a b s n h Po := by
  refine S_X9_copyRow_of (fun k hl C E => X9_copyRow_b0 C E a b s n h rfl ?_)
  have hm := ta.2.2.2
  have hm' := tb.2.2.2
  suffices K : ∀ (u i : Nat) (h1 : xH), i + u = m' → hE (sC b) h h1 → (∀ j, j < i → (h1 b).2.2 j = if j < s then (h a).2.2 j else 0) → X9_copyRow_w2 G k a b s i n h1 from K m' 0 h (by omega) hE.rf (fun j hj => by omega)
  intro u
  induction u with
  | zero =>
    intro i h1 hi e1 hv
    have t1 := tb.mv e1
    refine X9_copyRow_b2 C E a b s i n h1 rfl ⟨⟨t1.1, Or.inl t1.2.1⟩, ⟨rg_nat (by omega), by rw [t1.2.2.1]; exact rg_nat (by omega)⟩, fun _ => hp h1 e1 (fun j hj => hv j (by omega)), fun g => by rw [t1.2.2.1] at g; omega⟩
  | succ u ih =>
    intro i h1 hi e1 hv
    have t1 := tb.mv e1
    have w22 : ∀ z, z = (if i < s then (h a).2.2 i else 0) → X9_copyRow_w22 G k a b s i z i b n h1 := by
      intro z hz
      refine X9_copyRow_b22 C E a b s i z i b n h1 rfl ⟨t1.at (by omega) (by omega), fun h2 e2 => ?_⟩
      rw [Int.toNat_natCast] at e2
      refine ih (i + 1) h2 (by omega) (e1.tr (hE.put' (S := sC b) e2 rfl)) (fun j hj => ?_)
      rw [e2, hS_g]
      by_cases hj2 : j = i
      · rw [if_pos ⟨rfl, hj2⟩, hz, hj2]
      · rw [if_neg (fun z => hj2 z.2)]; exact hv j (by omega)
    refine X9_copyRow_b2 C E a b s i n h1 rfl ⟨⟨t1.1, Or.inl t1.2.1⟩, ⟨rg_nat (by omega), by rw [t1.2.2.1]; exact rg_nat (by omega)⟩, fun g => by rw [t1.2.2.1] at g; omega, fun g => ⟨⟨rg_nat (by omega), rg_nat (by omega)⟩, fun g2 => w22 0 ?_, fun g2 => ⟨(ta.mv e1).at (by omega) (by omega), ?_⟩⟩⟩
    · rw [if_neg (by omega)]
    · rw [Int.toNat_natCast]
      refine w22 _ ?_
      rw [if_pos (by omega)]
      show (h1 a).2.2 i = _
      rw [(e1 a).2.2 hab]
theorem sp_copyW {G : xG} {l : Launch} {n : Nat} {h : xH} {a b m m' s : Nat} {v : Int} {Po : xH → Prop} (ta : isT n h a m s v) (tb : tyR n h b m') (hab : a ≠ b) (hs : s ≤ m') (hp : ∀ (h' : xH), hE (sC b) h h' → isT n h' b m' s v → (∀ j, s ≤ j → j < m' → (h' b).2.2 j = 0) → Po h') : S_X9_copyRow G l a b s n h Po := by
  refine sp_copyRow ta.1 tb hab ta.2.1 (fun h' e hv => hp h' e ⟨tb.mv e, hs, fun i hi => ?_, ?_, fun t e2 => ?_⟩ (fun j h1 h2 => ?_))
  · rw [hv i (by omega), if_pos hi]; exact ta.2.2.1 i hi
  · rw [← ta.2.2.2.1]; exact rv_congr (fun i hi => by rw [hv i (by omega), if_pos hi])
  · rw [hv t (by omega), if_pos (by omega)]; exact ta.2.2.2.2 t e2
  · rw [hv j h2, if_neg (by omega)]
theorem sp_compareRows {G : xG} {l : Launch} {n : Nat} {h : xH} {a b m m' s s' : Nat} {v w : Int} {Po : Int → xH → Prop} (ta : isT n h a m s v) (tb : isT n h b m' s' w) (hp : Po (ord v w) h) : S_X9_compareRows G l a s b s' n h Po := by
  refine S_X9_compareRows_of (fun k hl C E => ?_)
  have hm := ta.1.2.2.2
  have hm' := tb.1.2.2.2
  have hs := ta.2.1
  have hs' := tb.2.1
  have va := ta.val
  have vb := tb.val
  have w15 : ∀ z, ord v w = z → X9_compareRows_w15 G k z n h := fun z e => X9_compareRows_b15 C E z n h rfl (by rw [← e]; exact hp)
  have w53 : ∀ z, ord v w = z → X9_compareRows_w53 G k z n h := fun z e => X9_compareRows_b53 C E z n h rfl (by rw [← e]; exact hp)
  have lt_of : v < w → ord v w = -1 := fun g => by unfold ord; rw [if_pos g]
  have gt_of : w < v → ord v w = 1 := fun g => by unfold ord; rw [if_neg (by omega), if_neg (by omega)]
  refine X9_compareRows_b0 C E a s b s' n h rfl ⟨⟨rg_nat (by omega), rg_nat (by omega)⟩, fun g => ?_, fun g => ⟨⟨rg_nat (by omega), rg_nat (by omega)⟩, fun g2 => w15 1 (gt_of ?_), fun g2 => w15 (-1) (lt_of ?_)⟩⟩
  · have e : s = s' := by omega
    subst e
    suffices K : ∀ (u r : Nat), u + r = s → (∀ j, u ≤ j → j < s → (h a).2.2 j = (h b).2.2 j) → X9_compareRows_w21 G k a b ((u : Int) - 1) n h from K s 0 (by omega) (fun j h1 h2 => by omega)
    intro u
    induction u with
    | zero =>
      intro r hr hk
      refine X9_compareRows_b21 C E a b _ n h rfl ⟨rgS (by omega) (by omega), fun _ => ?_, fun g => by omega⟩
      have : v = w := by
        rw [← ta.2.2.2.1, ← tb.2.2.2.1]
        exact rv_congr (fun i hi => hk i (by omega) hi)
      rw [show ord v w = 0 by unfold ord; rw [if_neg (by omega), if_pos this]] at hp
      exact hp
    | succ u ih =>
      intro r hr hk
      have da := ta.2.2.1 u (by omega)
      have db := tb.2.2.1 u (by omega)
      have oka := ta.1.at (i := (u : Int)) (by omega) (by omega)
      have okb := tb.1.at (i := (u : Int)) (by omega) (by omega)
      have rga : rg (hG h a u) := rgS (by show _ ≤ (h a).2.2 u; omega) (by show (h a).2.2 u ≤ _; omega)
      have rgb : rg (hG h b u) := rgS (by show _ ≤ (h b).2.2 u; omega) (by show (h b).2.2 u ≤ _; omega)
      have ea := rv_split (h a).2.2 u (r + 1)
      have eb := rv_split (h b).2.2 u (r + 1)
      rw [show u + (r + 1) = s by omega] at ea eb
      rw [ta.2.2.2.1, rv_shift] at ea
      rw [tb.2.2.2.1, rv_shift] at eb
      have ee : rv (fun i => (h a).2.2 (u + 1 + i)) r = rv (fun i => (h b).2.2 (u + 1 + i)) r := rv_congr (fun i hi => hk _ (by omega) (by omega))
      rw [← ee] at eb
      have ba := rv_bd (ta.2.2.1.le (t := u) (by omega))
      have bb := rv_bd (tb.2.2.1.le (t := u) (by omega))
      have hp := T_pos u
      refine X9_compareRows_b21 C E a b _ n h rfl ⟨rgS (by omega) (by omega), fun g => by omega, fun _ => ?_⟩
      rw [show ((u + 1 : Nat) : Int) - 1 = (u : Int) by omega, Int.toNat_natCast]
      refine ⟨oka, okb, ⟨rga, rgb⟩, fun g => ?_, fun g => ⟨oka, okb, ⟨rga, rgb⟩, fun g2 => w53 1 (gt_of ?_), fun g2 => w53 (-1) (lt_of ?_)⟩⟩
      · rw [show (u : Int) + (-1) = (u : Int) - 1 by omega]
        refine ih (r + 1) (by omega) (fun j h1 h2 => ?_)
        rcases Nat.lt_or_ge u j with y | y
        · exact hk j y h2
        · have : j = u := by omega
          subst this
          exact g
      · have g3 : (h b).2.2 u + 1 ≤ (h a).2.2 u := by
          have g4 : (h b).2.2 u ≤ (h a).2.2 u := g2
          have g5 : (h a).2.2 u ≠ (h b).2.2 u := g
          omega
        have h5 := Int.mul_le_mul_of_nonneg_left (show (h b).2.2 u + 1 + 10000 * rv (fun i => (h a).2.2 (u + 1 + i)) r ≤ (h a).2.2 u + 10000 * rv (fun i => (h a).2.2 (u + 1 + i)) r by omega) (Int.le_of_lt hp)
        rw [show (h b).2.2 u + 1 + 10000 * rv (fun i => (h a).2.2 (u + 1 + i)) r = ((h b).2.2 u + 10000 * rv (fun i => (h a).2.2 (u + 1 + i)) r) + 1 by omega, Int.mul_add, Int.mul_one] at h5
        omega
      · have g3 : (h a).2.2 u + 1 ≤ (h b).2.2 u := by
          have g4 : ¬ (h b).2.2 u ≤ (h a).2.2 u := g2
          omega
        have h5 := Int.mul_le_mul_of_nonneg_left (show (h a).2.2 u + 1 + 10000 * rv (fun i => (h a).2.2 (u + 1 + i)) r ≤ (h b).2.2 u + 10000 * rv (fun i => (h a).2.2 (u + 1 + i)) r by omega) (Int.le_of_lt hp)
        rw [show (h a).2.2 u + 1 + 10000 * rv (fun i => (h a).2.2 (u + 1 + i)) r = ((h a).2.2 u + 10000 * rv (fun i => (h a).2.2 (u + 1 + i)) r) + 1 by omega, Int.mul_add, Int.mul_one] at h5
        omega
  · have h1 := va.2.2.2 (s - 1) (by omega)
    have h2 := T_mono (a := s') (b := s - 1) (by omega)
    omega
  · have h1 := vb.2.2.2 (s' - 1) (by omega)
    have h2 := T_mono (a := s) (b := s' - 1) (by omega)
    omega
