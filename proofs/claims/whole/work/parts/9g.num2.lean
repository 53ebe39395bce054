/-! THE MODEL: units, place, bits -/
theorem sp_doublings {G : xG} {l : Launch} {n : Nat} {h : xH} {wl tl : Int} {z : Nat} {x : UInt64} {b : Int} {s : Bool} {c : Nat} {q : Int} {Po : Int → xH → Prop} (tm : isM n h wl tl (z : Int)) (t : isRl n h z x b) (hx : vl x = .fin s c q) (hc : 0 < c) (hp : ∀ (j m : Nat) (e : Int), sgR (zv c q) m e → m * 2 ^ j = c → e - j = q → j ≤ 60 → Po j h) : S_X9_doublings G l 26 n h Po := by
  refine S_X9_doublings_of (fun k hl C E => X9_doublings_b0 C E 26 n h rfl ⟨tm.ok, sp_value tm t ?_⟩)
  have hz := (dC_z (op := .l) (nn_fin hx) nn_0).2.1
  rw [zD_fin hx, zD_0] at hz
  have hzp : 0 < zv c q := Nat.mul_pos hc (Nat.two_pow_pos _)
  have hcn := fin_cn hx
  refine ⟨fun _ => ⟨tm.ok, sp_value tm t (sp_significand hx hc (fun m e hs => ?_))⟩, fun g => ?_⟩
  · have w56 : ∀ j : Nat, cnD (m * 2 ^ j) (e - j) → j ≤ 60 → X9_doublings_w56 G k j n h := by
      intro j hj hj2
      have hu := cn_u hj hcn (by
        unfold zv
        have h1 := hs.1
        unfold zv at h1
        rw [h1, Nat.mul_assoc, ← Nat.pow_add, show j + (e - j + 1074).toNat = (e + 1074).toNat by have := hj.2.1; omega])
      exact X9_doublings_b56 C E j n h rfl (hp j m e hs hu.1 hu.2 hj2)
    obtain ⟨s1, s2, s3, s4, s5, s6, s7⟩ := hs
    suffices K : ∀ (u j : Nat), j + u = 53 → m * 2 ^ j < 9007199254740992 → (0 < j → m * 2 ^ j < 9007199254740992 ∧ 2 ^ j ≤ m * 2 ^ j) → -1074 ≤ e - j → (e ≤ 0 ∨ j = 0) → X9_doublings_w21 G k 26 j ((m * 2 ^ j : Nat) : Int) n h by
      have := K 53 0 rfl (by simpa using s5) (fun y => by omega) (by omega) (Or.inr rfl)
      simpa using this
    intro u
    induction u with
    | zero =>
      intro j hj h1 h2 h3 h4
      have : j = 53 := by omega
      subst this
      have := h2 (by decide)
      have h53 : (2 : Nat) ^ 53 = 9007199254740992 := by decide
      omega
    | succ u ih =>
      intro j hj h1 h2 h3 h4
      have rm : rgL ((m * 2 ^ j : Nat) : Int) := ⟨by omega, by omega⟩
      have rc : rgL 4503599627370496 := ⟨by decide, by decide⟩
      refine X9_doublings_b21 C E 26 j _ n h rfl ⟨⟨rm, rc⟩, fun g => w56 j ⟨h1, h3, by omega, Or.inr ?_⟩ (by omega), fun g => ⟨tm.ok, sp_value tm t (sp_exponent hx hc (fun m2 e2 hs2 => ?_))⟩⟩
      · have := mt (lC_lt ((m * 2 ^ j : Nat) : Int) 4503599627370496).mpr (by omega)
        omega
      · have hu := sgR_u hs2 ⟨s1, s2, s3, s4, s5, s6, s7⟩
        have he2 : e2 = e := hu.2
        subst he2
        have hlt := (lC_lt ((m * 2 ^ j : Nat) : Int) 4503599627370496).mp (by omega)
        refine ⟨⟨rgS (by omega) (by omega), rgS (by decide) (by decide)⟩, fun g2 => w56 j ⟨h1, h3, by omega, Or.inl (by omega)⟩ (by omega), fun g2 => ?_⟩
        have e1 : m * 2 ^ (j + 1) = m * 2 ^ j * 2 := by rw [Nat.pow_succ, Nat.mul_assoc]
        have := ih (j + 1) (by omega) (by rw [e1]; omega) (fun _ => ⟨by rw [e1]; omega, by have := Nat.mul_le_mul_right (2 ^ (j + 1)) s4; omega⟩) (by omega) (by
          rcases Int.lt_or_le 0 e2 with y | y
          · have := s7 y
            have hp2 := Nat.two_pow_pos j
            have := Nat.mul_le_mul_left m hp2
            omega
          · exact Or.inl y)
        rw [e1] at this
        exact this
  · have := hz.mp g
    unfold sZ at this
    exfalso
    split at this <;> omega
theorem sp_unitsM {G : xG} {l : Launch} {n : Nat} {h : xH} {wl tl z kd mn un pl v w : Int} {Po : Int → xH → Prop} (tm : isM n h wl tl z) (t : nuM n h z kd mn un pl v w) (hp : Po (if kd = 2 then un else -1) h) : S_X9_units G l 26 n h Po := by
  refine S_X9_units_of (fun k hl C E => X9_units_b0 C E 26 n h rfl ⟨tm.ok, sp_kindM tm t ⟨⟨?_, rgS (by decide) (by decide)⟩, fun g => ?_, fun g => ?_⟩⟩)
  · rcases t with t | ⟨_, _, _, t | t | t | t⟩ <;> rw [t.1] <;> exact rgS (by decide) (by decide)
  · rw [if_pos g] at hp
    rcases t with ⟨t1, t2, t3⟩ | ⟨zn, rfl, tmn, t | t | t | t⟩
    · omega
    · have := t.1; omega
    · obtain ⟨t1, x, c, q, t2, t3, t4, t5⟩ := t
      have hz := (dC_z (op := .l) (nn_fin t3) nn_0).2.1
      rw [zD_fin t3, zD_0] at hz
      refine ⟨tm.ok, sp_value tm t2 ⟨fun g2 => ?_, fun g2 => X9_units_b37 C E 0 n h rfl ?_⟩⟩
      · have hc : 0 < c := by
          rcases Nat.eq_zero_or_pos c with y | y
          · exact absurd (hz.mpr (by rw [y]; unfold sZ zv; simp)) g2
          · exact y
        refine ⟨tm.ok, sp_value tm t2 (sp_significand t3 hc (fun m e hs => ⟨tm.ok, sp_doublings tm t2 t3 hc (fun j m2 e2 hs2 hj1 hj2 hj3 => X9_units_b37 C E _ n h rfl ?_)⟩))⟩
        have hu := sgR_u hs hs2
        have hc53 := (fin_cn t3).1
        have e1 : lSl (m : Int) (j : Int) = (c : Int) := by
          rw [lSl_w _ _ (by omega), hu.1]
          have : (m2 : Int) * 2 ^ j = (c : Int) := by rw [← hj1]; exact_mod_cast rfl
          rw [this]
          unfold w64
          exact Int.bmod_eq_of_le (by omega) (by omega)
        rw [e1, ← t4]; exact hp
      · have hc : c = 0 := by
          have := hz.mp g2
          have h2 : zv c q = 0 := by
            unfold sZ at this
            split at this <;> omega
          unfold zv at h2
          rcases Nat.mul_eq_zero.mp h2 with y | y
          · exact y
          · have := Nat.two_pow_pos (q + 1074).toNat; omega
        rw [t4, hc] at hp; exact hp
    · have := t.1; omega
    · have := t.1; omega
  · rwa [if_neg g] at hp
theorem sp_placeM {G : xG} {l : Launch} {n : Nat} {h : xH} {wl tl z kd mn un pl v w : Int} {Po : Int → xH → Prop} (tm : isM n h wl tl z) (t : nuM n h z kd mn un pl v w) (hp : Po (if kd = 2 then pl else 0) h) : S_X9_place G l 26 n h Po := by
  refine S_X9_place_of (fun k hl C E => X9_place_b0 C E 26 n h rfl ⟨tm.ok, sp_kindM tm t ⟨⟨?_, rgS (by decide) (by decide)⟩, fun g => ?_, fun g => ?_⟩⟩)
  · rcases t with t | ⟨_, _, _, t | t | t | t⟩ <;> rw [t.1] <;> exact rgS (by decide) (by decide)
  · rw [if_pos g] at hp
    rcases t with ⟨t1, t2, t3⟩ | ⟨zn, rfl, tmn, t | t | t | t⟩
    · omega
    · have := t.1; omega
    · obtain ⟨t1, x, c, q, t2, t3, t4, t5⟩ := t
      have hz := (dC_z (op := .l) (nn_fin t3) nn_0).2.1
      rw [zD_fin t3, zD_0] at hz
      refine ⟨tm.ok, sp_value tm t2 ⟨fun g2 => ?_, fun g2 => X9_place_b37 C E _ n h rfl ?_⟩⟩
      · have hc : 0 < c := by
          rcases Nat.eq_zero_or_pos c with y | y
          · exact absurd (hz.mpr (by rw [y]; unfold sZ zv; simp)) g2
          · exact y
        refine ⟨tm.ok, sp_value tm t2 (sp_exponent t3 hc (fun m e hs => ⟨tm.ok, sp_doublings tm t2 t3 hc (fun j m2 e2 hs2 hj1 hj2 hj3 => X9_place_b37 C E _ n h rfl ?_)⟩))⟩
        have hu := sgR_u hs hs2
        rw [hu.2, hj2, ← t5]; exact hp
      · have hc : c = 0 := by
          have := hz.mp g2
          have h2 : zv c q = 0 := by
            unfold sZ at this
            split at this <;> omega
          unfold zv at h2
          rcases Nat.mul_eq_zero.mp h2 with y | y
          · exact y
          · have := Nat.two_pow_pos (q + 1074).toNat; omega
        have hq : q = -1074 := by
          have := (fin_cn t3).2.2.2
          omega
        rw [t5, hq] at hp; exact hp
    · have := t.1; omega
    · have := t.1; omega
  · rwa [if_neg g] at hp
theorem sp_bitsM {G : xG} {l : Launch} {n : Nat} {h : xH} {wl tl z kd mn un pl v w b : Int} {Po : Int → Nat → xH → Prop} (tm : isM n h wl tl z) (t : nuM n h z kd mn un pl v w) (hb : b = 0 ∨ b = 1) (hp : ∀ n' h', hF (sC 28) n h h' → n ≤ n' → n' ≤ n + 2 → isM n' h' wl tl z → Po (if kd = 1 then (if b = 0 then bl v else bl w) else -1) n' h') : S_X9_bits G l 26 b n h Po := by
  have h47 : 47 < n := tm.1.1
  refine S_X9_bits_of (fun k hl C E => X9_bits_b0 (n0 := 0) C E 26 b n h ⟨tm.ok, sp_kindM tm t ⟨⟨?_, rgS (by decide) (by decide)⟩, fun g => ?_, fun g => ?_⟩⟩)
  · rcases t with t | ⟨_, _, _, t | t | t | t⟩ <;> rw [t.1] <;> exact rgS (by decide) (by decide)
  · rw [if_pos g] at hp
    rcases t with ⟨t1, t2, t3⟩ | ⟨zn, rfl, tmn, t | t | t | t⟩
    · omega
    · have w31 : ∀ (zc rc sc : Nat) (sg y : Int) (n1 : Nat) (h1 : xH), hK n h h1 → n ≤ n1 → n1 ≤ n + 2 → isM n1 h1 wl tl (zn : Int) → isWh n1 h1 zc rc sc sg y → y = (if b = 0 then v else w) → X9_bits_w31 G k 26 zc n1 h1 := by
        intro zc rc sc sg y n1 h1 k1 hn1 hn2 tm1 tw hy
        obtain ⟨l1, l2, l3⟩ := tw.ln
        refine X9_bits_b31 (n0 := 0) C E 26 zc n1 h1 ?_
        rw [tw.f1, Int.toNat_natCast, l1]
        refine ⟨tw.ok, by omega, tw.ok, by omega, ⟨l2, Or.inl l3⟩, tm1.ok, sp_bitsOf tm1 tw.row (by have := tw.2.2.1; omega) tw.2.2.2.2.2.2.2.1 (fun h2 e2 => ?_)⟩
        have := hp n1 h2 ((hK.f k1).tr e2.f hn1) hn1 hn2 (tm1.mv e2 (by decide) (by decide))
        rw [hy]
        split at this
        · rename_i hb0; rw [if_pos hb0]; exact this
        · rename_i hb0; rw [if_neg hb0]; exact this
      refine ⟨by rcases hb with y | y <;> rw [y] <;> exact rgS (by decide) (by decide), fun g2 => ?_, fun g2 => ?_⟩
      · rw [tm.g25]
        exact ⟨tm.ok, sp_above t.2.1 (fun za ra sa ta _ => w31 za ra sa _ v n h hF.rf (Nat.le_refl _) (by omega) tm ta (by rw [if_pos g2]))⟩
      · rw [tm.g25]
        exact ⟨tm.ok, sp_below h47 t.2.1 (fun h1 n1 zb rb sb k1 hn1 hn2 _ tb => w31 zb rb sb _ w n1 h1 k1 hn1 hn2 (tm.fr (S := fun _ => False) k1 hn1 id id) tb (by rw [if_neg g2]))⟩
    · have := t.1; omega
    · have := t.1; omega
    · have := t.1; omega
  · rw [if_neg g] at hp
    exact hp n h hF.rf (Nat.le_refl _) (by omega) tm
