/-! THE MODEL: rows made whole numbers, bits, fractions -/
theorem sp_copyOf {G : xG} {l : Launch} {n : Nat} {h : xH} {a m s : Nat} {Po : Nat → Nat → xH → Prop} (t : tyR n h a m) (hs : s ≤ m) (hs2 : s ≤ 440) (hp : ∀ h', hK n h h' → (h' n).1 = 100 → (h' n).2.1 = s → (∀ j, j < s → (h' n).2.2 j = (h a).2.2 j) → Po n (n + 1) h') : S_J7_copyOf_59c91 G l a s n h Po := by
  refine S_J7_copyOf_59c91_of (fun k hl C E => ?_)
  have hm := t.2.2.2
  have an := t.1
  refine J7_copyOf_59c91_b0 (n0 := 0) C E a s n h ⟨⟨t.1, Or.inl t.2.1⟩, ⟨rg_nat (by omega), by rw [t.2.2.1]; exact rg_nat (by omega)⟩, fun g => ⟨⟨by omega, by omega⟩, fun h5 e5 => ?_⟩, fun g => ⟨⟨t.1, t.2.1, ?_⟩, fun h2 e2 => ⟨⟨by omega, by rw [e2, hN_self]; exact t.2.1⟩, hp h2 (by rw [e2]; exact hK.nw) (by rw [e2, hN_self]; exact t.2.1) ?_ (fun j hj => by rw [e2, hN_self])⟩⟩⟩
  · rw [Int.toNat_natCast] at e5
    have a5 : h5 a = h a := by rw [e5, hN_ne _ _ (by omega)]
    have n5 : h5 n = (100, s, fun _ => 0) := by rw [e5, hN_self]
    have k5 : hK n h h5 := by rw [e5]; exact hK.nw
    refine ⟨⟨by omega, by rw [a5]; exact Or.inl t.2.1⟩, sp_min (by rw [a5, t.2.2.1]; exact rg_nat (by omega)) (rg_nat (by omega)) ?_⟩
    rw [a5, t.2.2.1, show min (m : Int) (s : Int) = (s : Int) by omega, n5]
    refine ⟨⟨by omega, t.2.1, by omega, rfl, by omega, by omega, by show (s : Int) ≤ (s : Int); omega, by omega⟩, fun h6 e6 => ?_⟩
    rw [Int.toNat_natCast] at e6
    unfold hCp at e6
    rw [n5, a5] at e6
    refine hp h6 (fun i hi => ?_) (by rw [e6, hN_self]) (by rw [e6, hN_self]) (fun j hj => by rw [e6, hN_self]; show (if j < s then _ else _) = _; rw [if_pos hj])
    rw [e6, hN_ne _ _ (by omega)]
    exact k5 i hi
  · rw [t.2.2.1] at g ⊢
    omega
  · rw [e2, hN_self, t.2.2.1]
    rw [t.2.2.1] at g
    omega
theorem sp_wholeOf {G : xG} {l : Launch} {n : Nat} {h : xH} {a m s : Nat} {sg v : Int} {Po : Nat → Nat → xH → Prop} (hn : 47 < n) (t : isT n h a m s v) (hs2 : s ≤ 440) (hsg : sg = 1 ∨ sg = -1) (hp : ∀ h' z r s', hK n h h' → n ≤ z → n ≤ r → isWh (n + 2) h' z r s' (if v = 0 then 0 else sg) v → Po z (n + 2) h') : S_X9_wholeOf G l sg a s n h Po := by
  refine S_X9_wholeOf_of (fun k hl C E => X9_wholeOf_b0 (n0 := 0) C E sg a s n h ?_)
  have an := t.1.1
  have hsm := t.2.1
  have hm := t.1.2.2.2
  refine sp_used s t.1 t.2.1 t.2.2.1 (fun s' hs' ts' _ => ?_)
  rw [t.2.2.2.1] at ts'
  have hss : s' = s := ts'.same t
  subst hss
  refine ⟨rg_nat (by omega), fun g h5 e5 => ?_, fun g => ?_⟩
  · have hs0 : 0 < s' := by omega
    have hv0 : 0 < v := t.pos.mpr hs0
    have k5 : hK n h h5 := by rw [e5]; exact hK.nw
    have n5 : h5 n = (7, 0, xZ 7) := by rw [e5, hN_self]
    have a5 : h5 a = h a := by rw [e5, hN_ne _ _ (by omega)]
    have y5 : tyR (n + 1) h5 a m := t.1.fr (S := fun _ => False) k5 (by omega)
    refine sp_copyOf y5 hsm hs2 (fun h6 e6 f1 f2 f3 => ?_)
    refine sp_initW ⟨by omega, by rw [(e6.eq (by omega)).1, n5]⟩ (fun h7 e7 g0 g1 => X9_wholeOf_b29 (n0 := 0) C E n (n + 1 + 1) h7 (hp h7 n (n + 1) s' ((k5.tr e6 (by omega)).tr (hK.sc (n := n) e7 (Nat.le_refl n)) (Nat.le_refl n)) (Nat.le_refl n) (by omega) ?_))
    have e7n : (h7 (n + 1)).2.2 = (h6 (n + 1)).2.2 := (e7 (n + 1)).2.2 (show ¬ n + 1 = n by omega)
    rw [if_neg (by omega)]
    refine ⟨by omega, hn, by omega, by rw [(e7 n).1, (e6.eq (by omega)).1, n5], g0, g1, ⟨⟨by omega, by rw [(e7 _).1]; exact f1, by rw [(e7 _).2.1]; exact f2, by omega⟩, Nat.le_refl _, fun i hi => ?_, ?_, fun u hu => ?_⟩, hs2, Or.inr ⟨hv0, hsg⟩⟩
    · rw [e7n, f3 i hi, a5]; exact t.2.2.1 i hi
    · rw [← t.2.2.2.1]; exact rv_congr (fun i hi => by rw [e7n, f3 i hi, a5])
    · rw [e7n, f3 u (by omega), a5]; exact t.2.2.2.2 u hu
  · have hv0 : v = 0 := t.val.2.2.1 (by omega)
    refine sp_zeroW hn (fun h' e t0 => X9_wholeOf_b29 (n0 := 0) C E n (n + 2) h' (hp h' n (n + 1) 0 e (Nat.le_refl _) (by omega) ?_))
    rw [if_pos hv0, hv0]
    exact t0
theorem sp_isZeroW {G : xG} {l : Launch} {n : Nat} {h : xH} {z r s : Nat} {sg v : Int} {Po : Int → xH → Prop} (t : isWh n h z r s sg v) (hp : Po (if v = 0 then 1 else 0) h) : S_X8_isZero G l z n h Po := by
  refine S_X8_isZero_of (fun k hl C E => X8_isZero_b0 C E z n h rfl ?_)
  obtain ⟨l1, l2, l3⟩ := t.ln
  have hs := t.2.2.2.2.2.2.2.1
  rw [t.f1, Int.toNat_natCast, l1]
  have hpos := t.row.pos
  refine ⟨t.ok, by omega, ⟨l2, Or.inl l3⟩, rg_nat (by omega), fun g => X8_isZero_b13 C E 0 n h rfl ⟨Or.inl rfl, ?_⟩, fun g => X8_isZero_b13 C E 1 n h rfl ⟨Or.inr rfl, ?_⟩⟩
  · have : 0 < v := hpos.mpr (by omega)
    rwa [if_neg (by omega)] at hp
  · have : v = 0 := t.row.val.2.2.1 (by omega)
    rwa [if_pos this] at hp
theorem isT_one {n : Nat} {h : xH} {a m s : Nat} {v : Int} (t : isT n h a m s v) : v = 1 ↔ (s = 1 ∧ (h a).2.2 0 = 1) := by
  constructor
  · intro e
    subst e
    have h1 : s ≤ 1 := t.len (k := 1) (by decide)
    have h2 : 0 < s := t.pos.mp (by decide)
    have h3 : s = 1 := by omega
    subst h3
    refine ⟨rfl, ?_⟩
    have h4 : 0 + (h a).2.2 0 * 10000 ^ 0 = 1 := t.2.2.2.1
    rw [Int.pow_zero] at h4
    omega
  · rintro ⟨e1, e2⟩
    subst e1
    rw [← t.2.2.2.1]
    show 0 + (h a).2.2 0 * 10000 ^ 0 = 1
    rw [e2]; decide
theorem sp_isOneW {G : xG} {l : Launch} {n : Nat} {h : xH} {z r s : Nat} {sg v : Int} {Po : Int → xH → Prop} (t : isWh n h z r s sg v) (hp : Po (if v = 1 ∧ sg = 1 then 1 else 0) h) : S_X8_isOne G l z n h Po := by
  refine S_X8_isOne_of (fun k hl C E => X8_isOne_b0 C E z n h rfl ?_)
  obtain ⟨l1, l2, l3⟩ := t.ln
  have hs := t.2.2.2.2.2.2.2.1
  have h1 := isT_one t.row
  have hsg := t.2.2.2.2.2.2.2.2
  have w31 : ∀ z, Po z h → (z = 0 ∨ z = 1) → X8_isOne_w31 G k z n h := fun z y hz => X8_isOne_b31 C E z n h rfl ⟨hz, y⟩
  have w30 : ¬ (v = 1 ∧ sg = 1) → X8_isOne_w30 G k n h := fun g => X8_isOne_b30 C E n h rfl (w31 0 (by rwa [if_neg g] at hp) (Or.inl rfl))
  rw [t.f0, t.f1, Int.toNat_natCast, l1]
  refine ⟨t.ok, t.sg, fun g => w30 (by omega), fun g => ⟨t.ok, by omega, ⟨l2, Or.inl l3⟩, ⟨rg_nat (by omega), rgS (by decide) (by decide)⟩, fun g2 => w30 (fun y => ?_), fun g2 => ?_⟩⟩
  · have := (h1.mp y.1).1; omega
  · have d0 := t.row.2.2.1 0 (by omega)
    refine ⟨t.ok, by omega, t.row.1.at (by decide) (by omega), ⟨rgS (by show _ ≤ (h r).2.2 0; omega) (by show (h r).2.2 0 ≤ _; omega), rgS (by decide) (by decide)⟩, fun g3 => w30 (fun y => g3 (h1.mp y.1).2), fun g3 => w31 1 ?_ (Or.inr rfl)⟩
    have hv1 := h1.mpr ⟨by omega, g3⟩
    rwa [if_pos ⟨hv1, by omega⟩] at hp
theorem sp_negW {G : xG} {l : Launch} {n : Nat} {h : xH} {z r s : Nat} {sg v : Int} {Po : Nat → Nat → xH → Prop} (hn : 47 < n) (t : isWh n h z r s sg v) (hp : ∀ h' n' z' , hK n h h' → n ≤ n' → n' ≤ n + 1 → isWh n' h' z' r s (-sg) v → (z' = z ∨ z' = n) → Po z' n' h') : S_X8_negative G l z n h Po := by
  refine S_X8_negative_of (fun k hl C E => X8_negative_b0 (n0 := 0) C E z n h ⟨t.ok, sp_isZeroW t ⟨by split <;> exact rgS (by decide) (by decide), fun g h6 e6 => ?_, fun g => ?_⟩⟩)
  · have hv : v ≠ 0 := by
      split at g
      · cases g
      · assumption
    have k6 : hK n h h6 := by rw [e6]; exact hK.nw
    have t6 : isWh (n + 1) h6 z r s sg v := t.fr (S := fun _ => False) k6 (by omega) id id
    have n6 : h6 n = (7, 0, xZ 7) := by rw [e6, hN_self]
    rw [t6.f0, t6.f1, Int.toNat_natCast]
    refine ⟨t6.ok, t6.ok, by omega, sp_initW ⟨by omega, by rw [n6]⟩ (fun h7 e7 g0 g1 => X8_negative_b27 (n0 := 0) C E n (n + 1) h7 (hp h7 (n + 1) n (k6.tr (hK.sc (n := n) e7 (Nat.le_refl n)) (Nat.le_refl n)) (by omega) (by omega) ?_ (Or.inr rfl)))⟩
    have rn := t.row.1.1
    obtain ⟨t1, t2, t3, t4, t5, t6', t7, t8, t9⟩ := t6
    refine ⟨by omega, hn, t3, by rw [(e7 n).1, n6], g0, g1, t7.mv e7 (show ¬ r = n by omega), t8, ?_⟩
    rcases t9 with y | y
    · exact absurd y.1 hv
    · exact Or.inr ⟨y.1, by omega⟩
  · have hv : v = 0 := by
      split at g
      · assumption
      · exact absurd rfl g
    refine X8_negative_b27 (n0 := 0) C E z n h (hp h n z hF.rf (Nat.le_refl _) (by omega) ?_ (Or.inl rfl))
    obtain ⟨t1, t2, t3, t4, t5, t6', t7, t8, t9⟩ := t
    have hsg : sg = 0 := by omega
    rw [hsg] at t5 ⊢
    exact ⟨t1, t2, t3, t4, t5, t6', t7, t8, Or.inl ⟨hv, rfl⟩⟩
theorem sp_asLong {G : xG} {l : Launch} {n : Nat} {h : xH} {z r s : Nat} {sg v : Int} {Po : Int → xH → Prop} (t : isWh n h z r s sg v) (hs : s ≤ 4) (hp : Po (sg * v) h) : S_X8_asLong G l z n h Po := by
  refine S_X8_asLong_of (fun k hl C E => X8_asLong_b0 C E z n h rfl ?_)
  obtain ⟨l1, l2, l3⟩ := t.ln
  rw [t.f1, Int.toNat_natCast, l1]
  have hsg : sg = 0 ∨ sg = 1 ∨ sg = -1 := by have := t.2.2.2.2.2.2.2.2; omega
  refine ⟨t.ok, by omega, ⟨l2, Or.inl l3⟩, ?_⟩
  suffices K : ∀ (u d : Nat) (x : Int), u + d = s → x = sg * rv (fun i => (h r).2.2 (u + i)) d → X8_asLong_w10 G k z x ((u : Int) - 1) n h from K s 0 0 (by omega) (by simp [rv])
  intro u
  induction u with
  | zero =>
    intro d x hd hx
    have : d = s := by omega
    subst this
    simp only [Nat.zero_add] at hx
    rw [t.row.2.2.2.1] at hx
    exact X8_asLong_b10 C E z x _ n h rfl ⟨rgS (by omega) (by omega), fun _ => by rw [hx]; exact hp, fun g => by omega⟩
  | succ u ih =>
    intro d x hd hx
    have du := t.row.2.2.1 u (by omega)
    refine X8_asLong_b10 C E z x _ n h rfl ⟨rgS (by omega) (by omega), fun g => by omega, fun _ => ?_⟩
    rw [t.f0, t.f1, Int.toNat_natCast, show ((u + 1 : Nat) : Int) - 1 = (u : Int) by omega, Int.toNat_natCast]
    have hgu : hG h r u = (h r).2.2 u := rfl
    rw [hgu]
    refine ⟨t.ok, t.ok, by omega, t.row.1.at (by omega) (by omega), ?_, fun y hy => ?_⟩
    · rcases hsg with e | e | e <;> rw [e] <;> exact rgS (by omega) (by omega)
    · rw [show (u : Int) + (-1) = (u : Int) - 1 by omega]
      refine ih (d + 1) y (by omega) ?_
      rw [hy, hx, rv_shift]
      rcases hsg with e | e | e <;> rw [e] <;> omega
theorem bl_shr {v : Int} {k : Nat} (h : 2 ^ k ≤ v) : bl (v / 2 ^ k) + k = bl v := by
  have hp := pw_pos k
  obtain ⟨t, e, h1, h2⟩ := bl_pw (v := v) (by omega)
  have hk : k ≤ t := by
    rcases Nat.lt_or_ge t k with g | g
    · have := pw_mono (a := t + 1) (b := k) (by omega); omega
    · exact g
  have := pw_div h1 h2 hk
  rw [bl_of this.1 this.2, e]
  omega
theorem bl_half {x : Int} (h : 0 < x) : bl (x / 2) + 1 = bl x := by
  rcases Int.lt_or_le 1 x with g | g
  · have := bl_shr (v := x) (k := 1) (by rw [Int.pow_one]; omega)
    rw [Int.pow_one] at this
    exact this
  · have : x = 1 := by omega
    rw [this]; decide
theorem sp_bitsOf {G : xG} {l : Launch} {n : Nat} {h : xH} {wl tl nm : Int} {a m s : Nat} {v : Int} {Po : Int → xH → Prop} (tm : isM n h wl tl nm) (t : isT n h a m s v) (ha : a ≠ 28) (hs : s ≤ 440) (hp : ∀ h', hE (sC 28) h h' → Po (bl v) h') : S_X9_bitsOf G l 26 a s n h Po := by
  refine S_X9_bitsOf_of (fun k hl C E => X9_bitsOf_b0 C E 26 a s n h rfl ?_)
  rw [tm.g1]
  have h13 : (2 : Int) ^ 13 = 8192 := by decide
  have hbl : bl v ≤ 8000 := by
    have h1 := t.val.2.1
    have h2 := T_mono (a := s) (b := 440) hs
    have h3 : (10000 : Int) ^ 440 ≤ 2 ^ 8000 := by decide +kernel
    have := bl_le (v := v) (t := 8000) (by omega)
    omega
  refine ⟨tm.ok, by decide, sp_copyW t tm.t28 ha hs (fun h1 e1 t1 _ => ?_)⟩
  have w80 : ∀ (f : Nat) (c x : Int) (h2 : xH), hE (sC 28) h h2 → 0 ≤ x → x < 2 ^ f → f ≤ 13 → c + bl x = bl v → 0 ≤ c → X9_bitsOf_w80 G k c x n h2 := by
    intro f
    induction f with
    | zero =>
      intro c x h2 e2 hx0 hx1 hf hc hc0
      rw [Int.pow_zero] at hx1
      have hx : x = 0 := by omega
      subst hx
      refine X9_bitsOf_b80 C E c 0 n h2 rfl ⟨rgS (by decide) (by decide), fun _ => ?_, fun g => by omega⟩
      have : bl 0 = 0 := rfl
      rw [show c = bl v by omega]; exact hp h2 e2
    | succ f ih =>
      intro c x h2 e2 hx0 hx1 hf hc hc0
      have hf13 : (2 : Int) ^ (f + 1) ≤ 2 ^ 13 := pw_mono hf
      rcases Int.lt_or_le 0 x with g | g
      · have e1 := bl_half g
        refine X9_bitsOf_b80 C E c x n h2 rfl ⟨rgS (by omega) (by omega), fun z => by omega, fun _ => ⟨⟨rgS (by omega) (by omega), rgS (by decide) (by decide), by decide⟩, ?_⟩⟩
        rw [(tdm hx0 2).1]
        rw [Int.pow_succ] at hx1
        exact ih (c + 1) (x / 2) h2 e2 (by omega) (by omega) (by omega) (by omega) (by omega)
      · have hx : x = 0 := by omega
        subst hx
        exact ih c 0 h2 e2 (by omega) (pw_pos f) (by omega) hc hc0
  suffices K : ∀ (N s' : Nat) (v' c : Int) (h2 : xH), v' ≤ N → hE (sC 28) h h2 → isT n h2 28 440 s' v' → c + bl v' = bl v → 0 ≤ c → X9_bitsOf_w14 G k 26 s' c n h2 from K v.toNat s v 0 h1 (by omega) e1 t1 (by omega) (by omega)
  intro N
  induction N with
  | zero =>
    intro s' v' c h2 hN e2 t2 hc hc0
    have hv0 : v' = 0 := by have := t2.val.1; omega
    subst hv0
    have hs0 : s' = 0 := by
      rcases Nat.eq_zero_or_pos s' with z | z
      · exact z
      · have := t2.pos.mpr z; omega
    subst hs0
    have w64 : X9_bitsOf_w64 G k 26 0 c n h2 := X9_bitsOf_b64 C E 26 0 c n h2 rfl ⟨rgS (by decide) (by decide), fun g => absurd rfl g, fun _ => X9_bitsOf_b78 C E c 0 n h2 rfl (w80 0 c 0 h2 e2 (by decide) (by decide) (by decide) hc hc0)⟩
    exact X9_bitsOf_b14 C E 26 0 c n h2 rfl ⟨⟨rgS (by decide) (by decide), rgS (by decide) (by decide)⟩, fun g => absurd g (by decide), fun _ => ⟨⟨rgS (by decide) (by decide), rgS (by decide) (by decide)⟩, fun _ => w64, fun g => absurd g (by decide)⟩⟩
  | succ N ih =>
    intro s' v' c h2 hN e2 t2 hc hc0
    have hs' := t2.2.1
    have tm2 := tm.mv e2 (by decide) (by decide)
    have hb0 : 0 ≤ bl v' := by unfold bl; split <;> omega
    rcases Int.lt_or_le v' 8192 with g | g
    · have hs1 : s' ≤ 1 := t2.len (k := 1) (by rw [Int.pow_one]; omega)
      have d0 : 0 < s' → (h2 28).2.2 0 = v' := fun z => by
        have : s' = 1 := by omega
        subst this
        have h4 : 0 + (h2 28).2.2 0 * 10000 ^ 0 = v' := t2.2.2.2.1
        rw [Int.pow_zero] at h4
        omega
      have w64 : X9_bitsOf_w64 G k 26 s' c n h2 := by
        refine X9_bitsOf_b64 C E 26 s' c n h2 rfl ⟨rg_nat (by omega), fun z => ?_, fun z => ?_⟩
        · rw [tm2.g1]
          refine ⟨tm2.ok, by decide, t2.1.at (by decide) (by decide), X9_bitsOf_b78 C E c _ n h2 rfl ?_⟩
          show X9_bitsOf_w80 G k c ((h2 28).2.2 0) n h2
          rw [d0 (by omega)]
          exact w80 13 c v' h2 e2 t2.val.1 (by omega) (by decide) hc hc0
        · have hv0 : v' = 0 := t2.val.2.2.1 (by omega)
          refine X9_bitsOf_b78 C E c 0 n h2 rfl (w80 0 c 0 h2 e2 (by decide) (by decide) (by decide) (by rw [← hv0]; exact hc) hc0)
      refine X9_bitsOf_b14 C E 26 s' c n h2 rfl ⟨⟨rg_nat (by omega), rgS (by decide) (by decide)⟩, fun z => by omega, fun _ => ⟨⟨rg_nat (by omega), rgS (by decide) (by decide)⟩, fun _ => w64, fun z => ?_⟩⟩
      rw [tm2.g1]
      have hd := t2.2.2.1 0 (by omega)
      refine ⟨tm2.ok, by decide, t2.1.at (by decide) (by decide), ⟨rgS (by show _ ≤ (h2 28).2.2 0; omega) (by show (h2 28).2.2 0 ≤ _; omega), rgS (by decide) (by decide)⟩, fun _ => w64, fun z2 => ?_⟩
      have z3 : ¬ (h2 28).2.2 0 < 8192 := z2
      have := d0 (by omega)
      omega
    · have hbs := bl_shr (v := v') (k := 13) (by omega)
      rw [h13] at hbs
      have hb2 : 0 ≤ bl (v' / 8192) := by unfold bl; split <;> omega
      have w36 : X9_bitsOf_w36 G k 26 s' c n h2 := by
        refine X9_bitsOf_b36 C E 26 s' c n h2 rfl ?_
        rw [tm2.g1]
        refine ⟨tm2.ok, by decide, sp_cutBy t2.1 hs' t2.2.2.1 (by decide) (by decide) (fun h3 e3 d3 v3 _ => ?_)⟩
        have tm3 := tm2.mv e3 (by decide) (by decide)
        rw [tm3.g1]
        refine ⟨tm3.ok, by decide, sp_used s' (t2.1.mv e3) hs' d3 (fun s4 hs4 t4 _ => ?_)⟩
        have v3' : rv (h3 28).2.2 s' = v' / 8192 := by
          have : rv (h2 28).2.2 s' = v' := t2.2.2.2.1
          rw [← this]; exact v3
        have t4' : isT n h3 28 440 s4 (v' / 8192) := by rw [← v3']; exact t4
        exact ih s4 (v' / 8192) (c + 13) h3 (by omega) (e2.tr e3) t4' (by omega) (by omega)
      have hs0 : 0 < s' := t2.pos.mp (by omega)
      refine X9_bitsOf_b14 C E 26 s' c n h2 rfl ⟨⟨rg_nat (by omega), rgS (by decide) (by decide)⟩, fun z => w36, fun z => ⟨⟨rg_nat (by omega), rgS (by decide) (by decide)⟩, fun z2 => by omega, fun z2 => ?_⟩⟩
      rw [tm2.g1]
      have hd := t2.2.2.1 0 (by omega)
      refine ⟨tm2.ok, by decide, t2.1.at (by decide) (by decide), ⟨rgS (by show _ ≤ (h2 28).2.2 0; omega) (by show (h2 28).2.2 0 ≤ _; omega), rgS (by decide) (by decide)⟩, fun z3 => ?_, fun _ => w36⟩
      exfalso
      have z4 : (h2 28).2.2 0 < 8192 := z3
      have : s' = 1 := by omega
      subst this
      have h4 : 0 + (h2 28).2.2 0 * 10000 ^ 0 = v' := t2.2.2.2.1
      rw [Int.pow_zero] at h4
      omega
/-- the cells that the model works in -/
abbrev sM : Nat → Prop := fun i => i = 26 ∨ (28 ≤ i ∧ i ≤ 45)
theorem sp_kept {G : xG} {l : Launch} {n : Nat} {h : xH} {wl tl nm : Int} {a m s : Nat} {v : Int} {Po : Int → Nat → xH → Prop} (hn : 47 < n) (tm : isM n h wl tl nm) (t : isT n h a m s v) (ha : a ≠ 28) (hs : s ≤ 440) (hp : ∀ h' n' z, hF (sC 28) n h h' → n ≤ n' → n' ≤ n + 2 → isM n' h' wl tl nm → ((z = -1 ∧ 4096 < bl v) ∨ (bl v ≤ 4096 ∧ ∃ (zn r s' : Nat), z = (zn : Int) ∧ n ≤ zn ∧ n ≤ r ∧ isWh n' h' zn r s' (if v = 0 then 0 else 1) v)) → Po z n' h') : S_X9_kept G l 26 a s n h Po := by
  refine S_X9_kept_of (fun k hl C E => X9_kept_b0 (n0 := 0) C E 26 a s n h ⟨tm.ok, sp_bitsOf tm t ha hs (fun h1 e1 => ?_)⟩)
  have hbl : 0 ≤ bl v ∧ bl v ≤ 8000 := by
    refine ⟨by unfold bl; split <;> omega, ?_⟩
    have h1 := t.val.2.1
    have h2 := T_mono (a := s) (b := 440) hs
    have h3 : (10000 : Int) ^ 440 ≤ 2 ^ 8000 := by decide +kernel
    have := bl_le (v := v) (t := 8000) (by omega)
    omega
  have t1 := t.mv e1 ha
  have tm1 := tm.mv e1 (by decide) (by decide)
  refine ⟨⟨rgS (by omega) (by omega), rgS (by decide) (by decide)⟩, fun g => sp_wholeOf hn t1 hs (Or.inl rfl) (fun h2 z r s' e2 hz hr tw => X9_kept_b22 (n0 := 0) C E (z : Int) (n + 2) h2 (hp h2 (n + 2) z (e1.f.tr (hK.f e2) (Nat.le_refl _)) (by omega) (by omega) (tm1.fr (S := fun _ => False) e2 (by omega) id id) (Or.inr ⟨g, z, r, s', rfl, hz, hr, tw⟩))), fun g => X9_kept_b22 (n0 := 0) C E (-1) n h1 (hp h1 n (-1) e1.f (Nat.le_refl _) (by omega) tm1 (Or.inl ⟨rfl, by omega⟩))⟩
