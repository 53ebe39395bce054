/-! THE MODEL'S ROWS: digits of the base 10000, the lowest first -/
def rv (f : Nat → Int) : Nat → Int
  | 0 => 0
  | s + 1 => rv f s + f s * 10000 ^ s
def dgt (f : Nat → Int) (s : Nat) : Prop := ∀ i, i < s → 0 ≤ f i ∧ f i ≤ 9999
theorem T_pos (s : Nat) : (0 : Int) < 10000 ^ s := Int.pow_pos (by decide)
theorem T_succ (s : Nat) : (10000 : Int) ^ (s + 1) = 10000 * 10000 ^ s := by rw [Int.pow_succ, Int.mul_comm]
theorem T_mono {a b : Nat} (h : a ≤ b) : (10000 : Int) ^ a ≤ 10000 ^ b := by
  have h2 := Int.ofNat_le.mpr (Nat.pow_le_pow_right (n := 10000) (by decide) h)
  rw [Int.natCast_pow, Int.natCast_pow] at h2
  exact h2
theorem T_lt {a b : Nat} (h : (10000 : Int) ^ a < 10000 ^ b) : a < b := by
  rcases Nat.lt_or_ge a b with g | g
  · exact g
  · have := T_mono g; omega
theorem dgt.le {f : Nat → Int} {s t : Nat} (h : dgt f s) (hs : t ≤ s) : dgt f t := fun i hi => h i (by omega)
theorem rv_bd {f : Nat → Int} {s : Nat} (h : dgt f s) : 0 ≤ rv f s ∧ rv f s < 10000 ^ s := by
  induction s with
  | zero => exact ⟨by simp [rv], by simp [rv]⟩
  | succ s ih =>
    have h0 := h s (by omega)
    have hp := T_pos s
    have ih := ih (h.le (by omega))
    have h2 : 0 ≤ f s * 10000 ^ s := Int.mul_nonneg h0.1 (Int.le_of_lt hp)
    have h3 : f s * 10000 ^ s ≤ 9999 * 10000 ^ s := Int.mul_le_mul_of_nonneg_right h0.2 (Int.le_of_lt hp)
    rw [T_succ]
    show 0 ≤ rv f s + f s * 10000 ^ s ∧ rv f s + f s * 10000 ^ s < _
    omega
theorem rv_congr {f g : Nat → Int} {s : Nat} (h : ∀ i, i < s → f i = g i) : rv f s = rv g s := by
  induction s with
  | zero => rfl
  | succ s ih =>
    show rv f s + _ = rv g s + _
    rw [ih (fun i hi => h i (by omega)), h s (by omega)]
theorem rv_top {f : Nat → Int} {s : Nat} (h : dgt f (s + 1)) (ht : f s ≠ 0) : 10000 ^ s ≤ rv f (s + 1) := by
  have h0 := h s (by omega)
  have hp := T_pos s
  have h1 : 1 * 10000 ^ s ≤ f s * 10000 ^ s := Int.mul_le_mul_of_nonneg_right (by omega) (Int.le_of_lt hp)
  have := (rv_bd (h.le (Nat.le_succ s))).1
  show _ ≤ rv f s + f s * 10000 ^ s
  omega
theorem rv_top' {f : Nat → Int} {s : Nat} (h : dgt f (s + 1)) (hv : 10000 ^ s ≤ rv f (s + 1)) : f s ≠ 0 := by
  intro e
  have := (rv_bd (h.le (Nat.le_succ s))).2
  have h2 : rv f (s + 1) = rv f s + f s * 10000 ^ s := rfl
  rw [h2, e, Int.zero_mul] at hv
  omega
theorem rv_shift (f : Nat → Int) (k t : Nat) : rv (fun i => f (k + i)) (t + 1) = f k + 10000 * rv (fun i => f (k + 1 + i)) t := by
  induction t with
  | zero => simp [rv]
  | succ t ih =>
    show rv (fun i => f (k + i)) (t + 1) + f (k + (t + 1)) * 10000 ^ (t + 1) = f k + 10000 * (rv (fun i => f (k + 1 + i)) t + f (k + 1 + t) * 10000 ^ t)
    rw [ih, T_succ, show k + (t + 1) = k + 1 + t by omega, Int.mul_add]
    have : f (k + 1 + t) * (10000 * 10000 ^ t) = 10000 * (f (k + 1 + t) * 10000 ^ t) := by rw [← Int.mul_assoc, Int.mul_comm (f _) 10000, Int.mul_assoc]
    omega
theorem rv_split (f : Nat → Int) (k t : Nat) : rv f (k + t) = rv f k + 10000 ^ k * rv (fun i => f (k + i)) t := by
  induction t with
  | zero => simp [rv]
  | succ t ih =>
    show rv f (k + t) + f (k + t) * 10000 ^ (k + t) = rv f k + 10000 ^ k * (rv (fun i => f (k + i)) t + f (k + t) * 10000 ^ t)
    rw [ih, Int.mul_add, Int.pow_add]
    have : f (k + t) * (10000 ^ k * 10000 ^ t) = 10000 ^ k * (f (k + t) * 10000 ^ t) := by rw [← Int.mul_assoc, Int.mul_comm (f _) (10000 ^ k), Int.mul_assoc]
    omega
/-- a row of m places -/
def tyR (n : Nat) (h : xH) (a m : Nat) : Prop := a < n ∧ (h a).1 = 100 ∧ (h a).2.1 = m ∧ m ≤ 8200
/-- the row a of m places holds v in its first s -/
def isT (n : Nat) (h : xH) (a m s : Nat) (v : Int) : Prop := tyR n h a m ∧ s ≤ m ∧ dgt (h a).2.2 s ∧ rv (h a).2.2 s = v ∧ (∀ t, s = t + 1 → (h a).2.2 t ≠ 0)
abbrev sC (a : Nat) : Nat → Prop := fun i => i = a
theorem tyR.at {n : Nat} {h : xH} {a m : Nat} (t : tyR n h a m) {i : Int} (h0 : 0 ≤ i) (h1 : i < m) : okA n h a 100 i := ⟨t.1, t.2.1, h0, by rw [t.2.2.1]; exact h1, by have := t.2.2.2; omega⟩
theorem tyR.mv {n : Nat} {h h' : xH} {S : Nat → Prop} {a m : Nat} (t : tyR n h a m) (e : hE S h h') : tyR n h' a m := ⟨t.1, by rw [(e a).1]; exact t.2.1, by rw [(e a).2.1]; exact t.2.2.1, t.2.2.2⟩
theorem tyR.fr {n m' : Nat} {h h' : xH} {S : Nat → Prop} {a m : Nat} (t : tyR n h a m) (e : hF S n h h') (hn : n ≤ m') : tyR m' h' a m := ⟨by have := t.1; omega, by rw [(e a t.1).1]; exact t.2.1, by rw [(e a t.1).2.1]; exact t.2.2.1, t.2.2.2⟩
theorem isT.mv {n : Nat} {h h' : xH} {S : Nat → Prop} {a m s : Nat} {v : Int} (t : isT n h a m s v) (e : hE S h h') (h0 : ¬ S a) : isT n h' a m s v := by
  have ea := (e a).2.2 h0
  exact ⟨t.1.mv e, t.2.1, by rw [ea]; exact t.2.2.1, by rw [ea]; exact t.2.2.2.1, by rw [ea]; exact t.2.2.2.2⟩
theorem isT.fr {n m' : Nat} {h h' : xH} {S : Nat → Prop} {a m s : Nat} {v : Int} (t : isT n h a m s v) (e : hF S n h h') (hn : n ≤ m') (h0 : ¬ S a) : isT m' h' a m s v := by
  have ea := (e a t.1.1).2.2 h0
  exact ⟨t.1.fr e hn, t.2.1, by rw [ea]; exact t.2.2.1, by rw [ea]; exact t.2.2.2.1, by rw [ea]; exact t.2.2.2.2⟩
theorem isT.val {n : Nat} {h : xH} {a m s : Nat} {v : Int} (t : isT n h a m s v) : 0 ≤ v ∧ v < 10000 ^ s ∧ (s = 0 → v = 0) ∧ (∀ u, s = u + 1 → 10000 ^ u ≤ v) := by
  have b := rv_bd t.2.2.1
  rw [t.2.2.2.1] at b
  refine ⟨b.1, b.2, fun e => ?_, fun u e => ?_⟩
  · subst e; exact t.2.2.2.1.symm
  · subst e
    rw [← t.2.2.2.1]
    exact rv_top t.2.2.1 (t.2.2.2.2 u rfl)
theorem isT.pos {n : Nat} {h : xH} {a m s : Nat} {v : Int} (t : isT n h a m s v) : 0 < v ↔ 0 < s := by
  obtain ⟨h0, h1, h2, h3⟩ := t.val
  constructor
  · intro g
    rcases Nat.eq_zero_or_pos s with e | e
    · have := h2 e; omega
    · exact e
  · intro g
    have := h3 (s - 1) (by omega)
    have := T_pos (s - 1)
    omega
theorem isT.len {n : Nat} {h : xH} {a m s k : Nat} {v : Int} (t : isT n h a m s v) (hv : v < 10000 ^ k) : s ≤ k := by
  obtain ⟨h0, h1, h2, h3⟩ := t.val
  rcases Nat.eq_zero_or_pos s with e | e
  · omega
  · have h4 := h3 (s - 1) (by omega)
    have := T_lt (a := s - 1) (b := k) (by omega)
    omega
/-- rows of the same value have the same length -/
theorem isT.same {n n' : Nat} {h h' : xH} {a b m m' s s' : Nat} {v : Int} (t : isT n h a m s v) (t' : isT n' h' b m' s' v) : s = s' := by
  have h1 := t.len (k := s') t'.val.2.1
  have h2 := t'.len (k := s) t.val.2.1
  omega
theorem tdm {x : Int} (h : 0 ≤ x) (y : Int) : x.tdiv y = x / y ∧ x.tmod y = x % y := ⟨Int.tdiv_eq_ediv_of_nonneg h, Int.tmod_eq_emod_of_nonneg h⟩
theorem sp_used {G : xG} {l : Launch} {n : Nat} {h : xH} {a m : Nat} {Po : Int → xH → Prop} : ∀ (s : Nat), tyR n h a m → s ≤ m → dgt (h a).2.2 s → (∀ s' : Nat, s' ≤ s → isT n h a m s' (rv (h a).2.2 s) → (∀ i, s' ≤ i → i < s → (h a).2.2 i = 0) → Po s' h) → S_X9_used G l a s n h Po := by
  intro s t hs hd hp
  refine S_X9_used_of (fun k hl C E => X9_used_b0 C E a s n h rfl ?_)
  have hm := t.2.2.2
  suffices K : ∀ u : Nat, u ≤ s → rv (h a).2.2 u = rv (h a).2.2 s → (∀ i, u ≤ i → i < s → (h a).2.2 i = 0) → X9_used_w2 G k a u n h from K s (Nat.le_refl _) rfl (fun i h1 h2 => by omega)
  intro u
  induction u with
  | zero =>
    intro h1 h2 h3
    refine X9_used_b2 C E a 0 n h rfl ⟨rgS (by decide) (by decide), fun _ => X9_used_b20 C E 0 n h rfl (hp 0 (by omega) ⟨t, by omega, hd.le (by omega), h2, fun t e => by omega⟩ h3), fun g => by omega⟩
  | succ u ih =>
    intro h1 h2 h3
    have hdu := hd u (by omega)
    refine X9_used_b2 C E a (u + 1 : Nat) n h rfl ⟨rg_nat (by omega), fun g => by omega, fun _ => ?_⟩
    rw [show ((u + 1 : Nat) : Int) - 1 = (u : Int) by omega, Int.toNat_natCast, show ((u + 1 : Nat) : Int) + (-1) = (u : Int) by omega]
    refine ⟨t.at (by omega) (by omega), rgS (by show _ ≤ (h a).2.2 u; omega) (by show (h a).2.2 u ≤ _; omega), fun g => ?_, fun g => ?_⟩
    · refine X9_used_b20 C E (u + 1 : Nat) n h rfl (hp (u + 1) (by omega) ⟨t, by omega, hd.le (by omega), h2, fun t e => ?_⟩ h3)
      have : t = u := by omega
      subst this
      exact g
    · refine ih (by omega) ?_ (fun i z1 z2 => ?_)
      · rw [← h2]
        show _ = rv _ u + (h a).2.2 u * _
        have : (h a).2.2 u = 0 := g
        rw [this]; omega
      · rcases Nat.lt_or_ge u i with y | y
        · exact h3 i (by omega) z2
        · have : i = u := by omega
          subst this
          exact g
theorem dgt.put {f g : Nat → Int} {s i : Nat} {z : Int} (h : dgt f s) (e : ∀ j, j < s → g j = if j = i then z else f j) (hz : 0 ≤ z ∧ z ≤ 9999) : dgt g s := by
  intro j hj
  rw [e j hj]
  split
  · exact hz
  · exact h j hj
theorem sp_scale {G : xG} {l : Launch} {n : Nat} {h : xH} {a m s : Nat} {v b p : Int} {Po : Int → xH → Prop} (t : isT n h a m s v) (hb0 : 1 ≤ b) (hb1 : b ≤ 10000) (hp0 : 0 ≤ p) (hp1 : p ≤ 10000) (hfit : v * b + p < 10000 ^ m) (hp : ∀ (h' : xH) (s' : Nat), hE (sC a) h h' → isT n h' a m s' (v * b + p) → (∀ j, s' ≤ j → (h' a).2.2 j = (h a).2.2 j) → Po s' h') : S_X9_scale G l a s b p n h Po := by
  refine S_X9_scale_of (fun k hl C E => X9_scale_b0 C E a s b p n h rfl ?_)
  obtain ⟨ty, hsm, hd, hv, htop⟩ := t
  have t : isT n h a m s v := ⟨ty, hsm, hd, hv, htop⟩
  have hm := ty.2.2.2
  have hval := t.val
  have hvb : v ≤ v * b := by
    have := Int.mul_le_mul_of_nonneg_left hb0 hval.1
    rw [Int.mul_one] at this
    exact this
  have w50 : ∀ (fuel : Nat) (c : Int) (s1 : Nat) (h1 : xH), 0 ≤ c → c ≤ 10000 ^ fuel → c < 10000 ^ fuel ∨ fuel = 0 ∧ c = 0 → hE (sC a) h h1 → s1 ≤ m → dgt (h1 a).2.2 s1 → rv (h1 a).2.2 s1 + c * 10000 ^ s1 = v * b + p → (∀ u, s1 = u + 1 → 10000 ^ u ≤ v * b + p) → c ≤ 100000000 → (∀ j, s1 ≤ j → (h1 a).2.2 j = (h a).2.2 j) → X9_scale_w50 G k a c s1 n h1 := by
    intro fuel
    induction fuel with
    | zero =>
      intro c s1 h1 hc0 hc1 hc2 e1 hs1 hd1 hv1 ht1 hc3 hkk
      have hc : c = 0 := by
        rcases hc2 with z | z
        · rw [Int.pow_zero] at z; omega
        · exact z.2
      subst hc
      rw [Int.zero_mul, Int.add_zero] at hv1
      refine X9_scale_b50 C E a 0 s1 n h1 rfl ⟨rgS (by decide) (by decide), fun _ => hp h1 s1 e1 ⟨ty.mv e1, hs1, hd1, hv1, fun u e => ?_⟩ hkk, fun g => by omega⟩
      subst e
      exact rv_top' hd1 (by rw [hv1]; exact ht1 u rfl)
    | succ fuel ih =>
      intro c s1 h1 hc0 hc1 hc2 e1 hs1 hd1 hv1 ht1 hc3 hkk
      rcases Int.lt_or_le 0 c with g | g
      · have hps := T_pos s1
        have hcs : 10000 ^ s1 ≤ c * 10000 ^ s1 := by
          have := Int.mul_le_mul_of_nonneg_right (show (1 : Int) ≤ c by omega) (Int.le_of_lt hps)
          rw [Int.one_mul] at this
          exact this
        have hrv := rv_bd hd1
        have hs1m : s1 < m := T_lt (by omega)
        obtain ⟨td, tm⟩ := tdm hc0 10000
        refine X9_scale_b50 C E a c s1 n h1 rfl ⟨⟨by omega, by omega⟩, fun z => by omega, fun _ => ⟨⟨⟨by omega, by omega⟩, rgS (by decide) (by decide), by decide⟩, (ty.mv e1).at (by omega) (by omega), fun h2 e2 => ⟨⟨⟨by omega, by omega⟩, rgS (by decide) (by decide), by decide⟩, ?_⟩⟩⟩
        rw [Int.toNat_natCast, tm] at e2
        rw [td]
        have e12 : hE (sC a) h h2 := e1.tr (hE.put' (S := sC a) e2 rfl)
        have hg : ∀ j, (h2 a).2.2 j = if j = s1 then c % 10000 else (h1 a).2.2 j := fun j => by rw [e2, hS_g]; simp
        have hcm : 0 ≤ c % 10000 ∧ c % 10000 ≤ 9999 := by omega
        refine ih (c / 10000) (s1 + 1) h2 (by omega) ?_ ?_ e12 (by omega) (fun j hj => ?_) ?_ (fun u e => ?_) (by omega) (fun j hj => by rw [hg, if_neg (by omega)]; exact hkk j (by omega))
        · rw [T_succ] at hc1; omega
        · rcases hc2 with z | z
          · left; rw [T_succ] at z; omega
          · omega
        · rw [hg]
          split
          · exact hcm
          · exact hd1 j (by omega)
        · rw [← hv1]
          show rv (h2 a).2.2 s1 + (h2 a).2.2 s1 * 10000 ^ s1 + c / 10000 * 10000 ^ (s1 + 1) = _
          rw [rv_congr (g := (h1 a).2.2) (fun i hi => by rw [hg, if_neg (by omega)]), hg, if_pos rfl, T_succ, ← Int.mul_assoc, Int.add_assoc, ← Int.add_mul]
          congr 2
          omega
        · have : u = s1 := by omega
          subst this
          omega
      · have hc : c = 0 := by omega
        subst hc
        exact ih 0 s1 h1 (by omega) (Int.le_of_lt (T_pos _)) (Or.inl (T_pos _)) e1 hs1 hd1 hv1 ht1 hc3 hkk
  suffices K : ∀ (u i : Nat) (c : Int) (h1 : xH), i + u = s → 0 ≤ c → c ≤ 10000 → hE (sC a) h h1 → dgt (h1 a).2.2 i → (∀ j, i ≤ j → (h1 a).2.2 j = (h a).2.2 j) → rv (h1 a).2.2 i + c * 10000 ^ i = rv (h a).2.2 i * b + p → X9_scale_w9 G k a s b c s i n h1 from K s 0 p h (by omega) hp0 hp1 hE.rf (fun i hi => by omega) (fun _ _ => rfl) (by simp [rv])
  intro u
  induction u with
  | zero =>
    intro i c h1 hi hc0 hc1 e1 hd1 hk hv1
    have hi2 : i = s := by omega
    subst hi2
    refine X9_scale_b9 C E a i b c i i n h1 rfl ⟨⟨rg_nat (by omega), rg_nat (by omega)⟩, fun _ => w50 2 c i h1 hc0 (by have : (10000 : Int) ^ 2 = 100000000 := by decide
                                                                                                                       omega) (Or.inl (by have : (10000 : Int) ^ 2 = 100000000 := by decide
                                                                                                                                          omega)) e1 (by omega) hd1 (by rw [hv1, hv]) (fun u e => ?_) (by omega) hk, fun g => by omega⟩
    have := hval.2.2.2 u e
    omega
  | succ u ih =>
    intro i c h1 hi hc0 hc1 e1 hd1 hk hv1
    have hdi := hd i (by omega)
    have hgi : hG h1 a i = (h a).2.2 i := hk i (Nat.le_refl _)
    have hm0 : 0 ≤ (h a).2.2 i * b := Int.mul_nonneg hdi.1 (by omega)
    have hm1 : (h a).2.2 i * b ≤ 9999 * 10000 := Int.mul_le_mul hdi.2 hb1 (by omega) (by decide)
    obtain ⟨td, tm⟩ := tdm (show 0 ≤ (h a).2.2 i * b + c by omega) 10000
    refine X9_scale_b9 C E a s b c s i n h1 rfl ⟨⟨rg_nat (by omega), rg_nat (by omega)⟩, fun g => by omega, fun _ => ⟨(ty.mv e1).at (by omega) (by omega), ?_⟩⟩
    rw [Int.toNat_natCast, hgi, td, tm]
    refine ⟨⟨⟨by omega, by omega⟩, rgS (by decide) (by decide), by decide⟩, (ty.mv e1).at (by omega) (by omega), fun h2 e2 => ⟨⟨⟨by omega, by omega⟩, rgS (by decide) (by decide), by decide⟩, fun y hy => ?_⟩⟩
    rw [hy]
    have hg : ∀ j, (h2 a).2.2 j = if j = i then ((h a).2.2 i * b + c) % 10000 else (h1 a).2.2 j := fun j => by rw [e2, hS_g]; simp
    refine ih (i + 1) _ h2 (by omega) (by omega) (by omega) (e1.tr (hE.put' (S := sC a) e2 rfl)) (fun j hj => ?_) (fun j hj => by rw [hg, if_neg (by omega)]; exact hk j (by omega)) ?_
    · rw [hg]
      split
      · omega
      · exact hd1 j (by omega)
    · show rv (h2 a).2.2 i + (h2 a).2.2 i * 10000 ^ i + _ * 10000 ^ (i + 1) = (rv (h a).2.2 i + (h a).2.2 i * 10000 ^ i) * b + p
      rw [rv_congr (g := (h1 a).2.2) (fun j hj => by rw [hg, if_neg (by omega)]), hg, if_pos rfl, T_succ, ← Int.mul_assoc, Int.add_assoc, ← Int.add_mul]
      rw [show ((h a).2.2 i * b + c) % 10000 + ((h a).2.2 i * b + c) / 10000 * 10000 = (h a).2.2 i * b + c by omega, Int.add_mul, Int.add_mul]
      have : (h a).2.2 i * 10000 ^ i * b = (h a).2.2 i * b * 10000 ^ i := by rw [Int.mul_assoc, Int.mul_comm (10000 ^ i) b, Int.mul_assoc]
      omega
