/-! NATURALS: subtract, compare, fives, bits -/
theorem B_mono {a b : Nat} (h : a ≤ b) : (4294967296 : Int) ^ a ≤ 4294967296 ^ b := by
  rw [show (4294967296 : Int) = 2 ^ 32 from rfl, ← Int.pow_mul, ← Int.pow_mul]
  exact pw_mono (by omega)
theorem sp_subtract {G : xG} {l : Launch} {n : Nat} {h : xH} {a b : Nat} {v w : Int} {Po : xH → Prop} (ta : isN n h a v) (tb : isN n h b w) (hd : a + 1 < b ∨ b + 1 < a) (hle : w ≤ v) (hp : ∀ h', hE (sN a) h h' → isN n h' a (v - w) → Po h') : S_X1_subtract G l a b n h Po := by
  refine S_X1_subtract_of (fun k hl C E => ?_)
  obtain ⟨ty, s, q⟩ := ta
  obtain ⟨tyb, t, p⟩ := tb
  have hv := q.val
  have hw := p.val
  have hs2 := q.1
  have ht2 := p.1
  have hts : t ≤ s := by
    rcases Nat.lt_or_ge s t with g | g
    · have h1 := hw.2.2.2 (t - 1) (by omega)
      have h2 : (4294967296 : Int) ^ s ≤ 4294967296 ^ (t - 1) := B_mono (by omega)
      omega
    · exact g
  suffices K : ∀ (m i : Nat) (c : Int) (h1 : xH), i + m = s → hE (sN a) h h1 → tyN n h1 a → (h1 a).2.2 1 = (s : Int) → (∀ j, i ≤ j → (h1 (a + 1)).2.2 j = (h (a + 1)).2.2 j) → -1 ≤ c → c ≤ 0 → nv (h1 (a + 1)).2.2 i + c * 4294967296 ^ i = nv (h (a + 1)).2.2 i - nv (pd (h (b + 1)).2.2 t) i → X1_subtract_w5 G k a b c i n h1 by
    exact X1_subtract_b0 C E a b n h rfl (K s 0 0 h (by omega) hE.rf ty q.2.1 (fun _ _ => rfl) (by omega) (by omega) rfl)
  intro m
  induction m with
  | zero =>
    intro i c h1 hi he t1 hs hj c0 c1 hv1
    have : i = s := by omega
    subst this
    have hsz : hG h1 a 1 = (i : Int) := hs
    rw [nv_pd hts, q.2.2.1, p.2.2.1] at hv1
    have hc0 : c = 0 := by
      rcases Int.lt_or_le c 0 with g | g
      · have : c = -1 := by omega
        subst this
        have := (nv_bd (h1 (a + 1)).2.2 i).2
        omega
      · omega
    subst hc0
    refine X1_subtract_b5 C E a b 0 i n h1 rfl ⟨t1.ok, ⟨rg_nat (by omega), by rw [hsz]; exact rg_nat (by omega)⟩, fun g => X1_subtract_b69 C E a n h1 rfl ⟨t1.ok, sp_trim i h1 t1 hs hs2 (fun h' e' z => hp h' (he.tr (e'.mono (fun j hj => Or.inl hj))) ?_)⟩, fun g => ?_⟩
    · have : nv (h1 (a + 1)).2.2 i = v - w := by omega
      rwa [this] at z
    · rw [hsz] at g; omega
  | succ m ih =>
    intro i c h1 hi he t1 hs hj c0 c1 hv1
    have hsz : hG h1 a 1 = (s : Int) := hs
    have eb := (he b).2.2 (by rintro (e | e) <;> omega)
    have eb1 := (he (b + 1)).2.2 (by rintro (e | e) <;> omega)
    have tb1 : tyN n h1 b := tyb.mv (fun j hj => ⟨(he j).1, (he j).2.1, by rcases hj with rfl | rfl; exact eb; exact eb1⟩)
    have hrw : rg ((h1 (a + 1)).2.2 i) := t1.2.2.2.2.2 i (by omega)
    refine X1_subtract_b5 C E a b c i n h1 rfl ⟨t1.ok, ⟨rg_nat (by omega), by rw [hsz]; exact rg_nat (by omega)⟩, fun g => ?_, fun g => ⟨⟨rg_nat (by omega), rg132⟩, fun g2 => ?_, fun g2 => ⟨t1.ok, t1.w0, t1.at' (by omega) (by omega), by rw [t1.w]; exact hrw, tb1.ok, ?_⟩⟩⟩
    · rw [hsz] at g; omega
    · omega
    · refine sp_wordAt tb1 (by rw [eb]; exact p.2.1) ht2 (rg_nat (by omega)) ?_
      have z2 : (if 0 ≤ (i : Int) ∧ (i : Int) < t then (h1 (b + 1)).2.2 (i : Int).toNat else 0) = pd (h (b + 1)).2.2 t i := by
        unfold pd
        rw [Int.toNat_natCast, eb1]
        by_cases g3 : i < t
        · rw [if_pos g3, if_pos ⟨by omega, by omega⟩]
        · rw [if_neg g3, if_neg (by omega)]
      have r2 : rg (pd (h (b + 1)).2.2 t i) := by
        unfold pd; split
        · exact tyb.2.2.2.2.2 i (by omega)
        · exact rg0
      rw [z2]
      refine ⟨r2, fun y ey => ⟨t1.ok, t1.w0, t1.at' (by omega) (by omega), fun h2 e2 => ?_⟩⟩
      rw [t1.w, Int.toNat_natCast] at ey e2
      have hw1 : hG h1 (a + 1) i = (h (a + 1)).2.2 i := hj i (Nat.le_refl i)
      rw [hw1, lA_low, lA_low] at ey
      have b0 := Int.emod_nonneg ((h (a + 1)).2.2 i) (show (4294967296 : Int) ≠ 0 by decide)
      have b1 := Int.emod_lt_of_pos ((h (a + 1)).2.2 i) (show (0 : Int) < 4294967296 by decide)
      have b2 := Int.emod_nonneg (pd (h (b + 1)).2.2 t i) (show (4294967296 : Int) ≠ 0 by decide)
      have b3 := Int.emod_lt_of_pos (pd (h (b + 1)).2.2 t i) (show (0 : Int) < 4294967296 by decide)
      have hc' : lSr y 32 = y / 4294967296 := by
        have := lSr_d (x := y) ⟨by omega, by omega⟩ 32 (by decide)
        rw [show ((32 : Nat) : Int) = 32 from rfl] at this
        rw [this]; rfl
      rw [hc']
      subst e2
      refine ih (i + 1) (y / 4294967296) _ (by omega) (he.tr (hE.put (Or.inr rfl))) (t1.put (rg_w32 y)) (by rw [hS_g, if_neg (by omega)]; exact hs) (fun j hj2 => ?_) (by omega) (by omega) ?_
      · rw [hS_g, if_neg (by omega)]; exact hj j (by omega)
      · rw [nv_put (f := (h1 (a + 1)).2.2) (z := y % 4294967296) (by rw [hS_g, if_pos ⟨rfl, rfl⟩, w32_emod]) (fun j hj => by rw [hS_g, if_neg (by omega)])]
        show _ = (nv (h (a + 1)).2.2 i + (h (a + 1)).2.2 i % 4294967296 * 4294967296 ^ i) - (nv (pd (h (b + 1)).2.2 t) i + pd (h (b + 1)).2.2 t i % 4294967296 * 4294967296 ^ i)
        rw [B_succ]
        have e6 : y % 4294967296 + y / 4294967296 * 4294967296 = y := Int.emod_add_ediv_mul y 4294967296
        generalize (4294967296 : Int) ^ i = P at hv1 ⊢
        generalize nv (h1 (a + 1)).2.2 i = A at hv1 ⊢
        generalize nv (h (a + 1)).2.2 i = A0 at hv1 ⊢
        generalize nv (pd (h (b + 1)).2.2 t) i = A1 at hv1 ⊢
        generalize (h (a + 1)).2.2 i % 4294967296 = u0 at ey ⊢
        generalize pd (h (b + 1)).2.2 t i % 4294967296 = u1 at ey ⊢
        generalize y % 4294967296 = r at e6 ⊢
        generalize y / 4294967296 = qq at e6 ⊢
        grind
theorem nv_lt_of {f g : Nat → Int} {i s : Nat} (hi : i < s) (hlt : f i % 4294967296 < g i % 4294967296) (ho : ∀ j, i < j → j < s → f j % 4294967296 = g j % 4294967296) : nv f s < nv g s := by
  induction s with
  | zero => omega
  | succ s ih =>
    rcases Nat.lt_or_ge i s with c | c
    · show nv f s + _ < nv g s + _
      rw [ho s c (by omega)]
      have := ih c (fun j h1 h2 => ho j h1 (by omega))
      omega
    · have : i = s := by omega
      subst this
      show nv f i + f i % 4294967296 * 4294967296 ^ i < nv g i + g i % 4294967296 * 4294967296 ^ i
      have b1 := (nv_bd f i).2
      have b2 := (nv_bd g i).1
      have := Int.mul_le_mul_of_nonneg_right (show f i % 4294967296 + 1 ≤ g i % 4294967296 by omega) (Int.le_of_lt (B_pos i))
      rw [Int.add_mul] at this
      omega
theorem sp_compare {G : xG} {l : Launch} {n : Nat} {h : xH} {a b : Nat} {v w : Int} {Po : Int → xH → Prop} (ta : isN n h a v) (tb : isN n h b w) (hp : Po (ord v w) h) : S_X1_compare G l a b n h Po := by
  refine S_X1_compare_of (fun k hl C E => ?_)
  obtain ⟨ty, s, q⟩ := ta
  obtain ⟨tyb, t, p⟩ := tb
  have hv := q.val
  have hw := p.val
  have hs2 := q.1
  have ht2 := p.1
  have hsa : hG h a 1 = (s : Int) := q.2.1
  have hsb : hG h b 1 = (t : Int) := p.2.1
  have big : ∀ {x y : Int} {s t : Nat}, s < t → x < 4294967296 ^ s → (∀ u, t = u + 1 → 4294967296 ^ u ≤ y) → x < y := by
    intro x y s t h1 h2 h3
    have := h3 (t - 1) (by omega)
    have h2 : (4294967296 : Int) ^ s ≤ 4294967296 ^ (t - 1) := B_mono (by omega)
    omega
  refine X1_compare_b0 C E a b n h rfl ⟨ty.ok, tyb.ok, ⟨by rw [hsa]; exact rg_nat (by omega), by rw [hsb]; exact rg_nat (by omega)⟩, fun c => ⟨ty.ok, ?_⟩, fun c => ⟨ty.ok, tyb.ok, ?_⟩⟩
  · rw [hsa, hsb] at c
    have : t = s := by omega
    subst this
    suffices K : ∀ m : Nat, m ≤ t → (∀ j, m ≤ j → j < t → (h (a + 1)).2.2 j % 4294967296 = (h (b + 1)).2.2 j % 4294967296) → X1_compare_w30 G k a b ((m : Int) - 1) n h by
      rw [hsa]; exact K t (Nat.le_refl t) (fun j h1 h2 => by omega)
    intro m
    induction m with
    | zero =>
      intro hm hj
      refine X1_compare_b30 C E a b _ n h rfl ⟨⟨by omega, by omega⟩, fun g => ?_, fun g => by omega⟩
      have e : v = w := by
        rw [← q.2.2.1, ← p.2.2.1]
        exact nv_congr (fun j hj2 => hj j (by omega) hj2)
      unfold ord at hp
      rwa [if_neg (by omega), if_pos e] at hp
    | succ m ih =>
      intro hm hj
      refine X1_compare_b30 C E a b _ n h rfl ⟨⟨by omega, by omega⟩, fun g => by omega, fun g => ⟨ty.ok, sp_wordAt ty q.2.1 hs2 ⟨by omega, by omega⟩ ⟨tyb.ok, sp_wordAt tyb p.2.1 ht2 ⟨by omega, by omega⟩ (sp_cmpU ?_)⟩⟩⟩
      rw [if_pos ⟨by omega, by omega⟩, if_pos ⟨by omega, by omega⟩, show (((m + 1 : Nat) : Int) - 1).toNat = m by omega]
      refine ⟨rg_ord _ _, fun c2 => ?_, fun c2 => ?_⟩
      · have e : (h (a + 1)).2.2 m % 4294967296 = (h (b + 1)).2.2 m % 4294967296 := by
          unfold ord at c2
          split at c2
          · omega
          · split at c2
            · assumption
            · omega
        have := ih (by omega) (fun j h1 h2 => by
          rcases Nat.lt_or_ge m j with g2 | g2
          · exact hj j g2 h2
          · rw [show j = m by omega]; exact e)
        rwa [show (((m + 1 : Nat) : Int) - 1 + -1) = (m : Int) - 1 by omega]
      · unfold ord at c2 hp ⊢
        split at c2
        · rename_i h1
          have := nv_lt_of (f := (h (a + 1)).2.2) (g := (h (b + 1)).2.2) (s := t) (show m < t by omega) h1 (fun j h2 h3 => hj j h2 h3)
          rw [q.2.2.1, p.2.2.1] at this
          rw [if_pos h1]
          rwa [if_pos this] at hp
        · rename_i h1
          split at c2
          · omega
          · rename_i h2
            have := nv_lt_of (f := (h (b + 1)).2.2) (g := (h (a + 1)).2.2) (s := t) (show m < t by omega) (by omega) (fun j h3 h4 => (hj j h3 h4).symm)
            rw [q.2.2.1, p.2.2.1] at this
            rw [if_neg h1, if_neg h2]
            rwa [if_neg (by omega), if_neg (by omega)] at hp
  · rw [hsa, hsb] at c
    rw [hsa, hsb]
    refine sp_cmp (rg_nat (by omega)) (rg_nat (by omega)) ?_
    unfold ord at hp ⊢
    rcases Nat.lt_or_ge s t with g | g
    · have := big g hv.2.1 hw.2.2.2
      rw [if_pos (by omega)]
      rwa [if_pos this] at hp
    · have := big (show t < s by omega) hw.2.1 hv.2.2.2
      rw [if_neg (by omega), if_neg (by omega)]
      rwa [if_neg (by omega), if_neg (by omega)] at hp
theorem x5_pow : ∀ i, i < 14 → x5 i = (5 ^ i : Nat) := by decide
theorem sp_pow5 {G : xG} {l : Launch} {n : Nat} {h : xH} {m : Nat} {Po : Int → xH → Prop} (hm : m ≤ 2000000) (hp : Po ((5 ^ (min m 13) : Nat) : Int) h) : S_X1_powerOfFive G l m n h Po := by
  refine S_X1_powerOfFive_of (fun k hl C E => X1_powerOfFive_b0 C E m n h rfl ?_)
  refine sp_min (rg_nat (by omega)) ⟨by decide, by decide⟩ ?_
  have e : min (m : Int) 13 = ((min m 13 : Nat) : Int) := by omega
  rw [e]
  refine ⟨rg_nat (by omega), fun c => by omega, fun c => ⟨⟨rg_nat (by omega), by constructor <;> decide⟩, fun c2 => by omega, fun c2 => ⟨⟨by omega, by omega⟩, X1_powerOfFive_b28 C E _ n h rfl ?_⟩⟩⟩
  rw [Int.toNat_natCast, x5_pow _ (by omega)]
  exact hp
theorem sp_mulFives {G : xG} {l : Launch} {n : Nat} {a : Nat} {Po : xH → Prop} {h : xH} {v : Int} {m : Nat} (t : isN n h a v) (hm : m ≤ 2000000) (hfit : v * (5 ^ m : Nat) < 4294967296 ^ 132) (hp : ∀ h', hE (sN a) h h' → isN n h' a (v * (5 ^ m : Nat)) → Po h') : S_X1_multiplyByFives G l a m n h Po := by
  refine S_X1_multiplyByFives_of (fun k hl C E => ?_)
  suffices K : ∀ (u : Nat) (m : Int) (h1 : xH) (v1 : Int), m ≤ u → u ≤ 2000000 → -13 ≤ m → hE (sN a) h h1 → isN n h1 a v1 → v1 * (5 ^ m.toNat : Nat) < 4294967296 ^ 132 → (∀ h', hE (sN a) h h' → isN n h' a (v1 * (5 ^ m.toNat : Nat)) → Po h') → X1_multiplyByFives_w2 G k a m n h1 by
    refine X1_multiplyByFives_b0 C E a m n h rfl (K m m h v (by omega) hm (by omega) hE.rf t ?_ ?_)
    · rw [Int.toNat_natCast]; exact hfit
    · rw [Int.toNat_natCast]; exact hp
  intro u
  induction u using Nat.strongRecOn with
  | ind u ih =>
    intro m h1 v1 hmu hu hm0 he t1 hfit1 hp1
    refine X1_multiplyByFives_b2 C E a m n h1 rfl ⟨⟨by omega, by omega⟩, fun c => ?_, fun c => ?_⟩
    · have e : m.toNat = 0 := by omega
      rw [e] at hp1
      simp only [Nat.pow_zero] at hp1
      exact hp1 h1 he (by rw [show v1 * ((1 : Nat) : Int) = v1 by omega]; exact t1)
    · obtain ⟨mm, rfl⟩ := ex_nat (show 0 ≤ m by omega)
      refine sp_pow5 (by omega) ⟨t1.1.ok, ?_⟩
      have hv0 : 0 ≤ v1 := by obtain ⟨_, s, q⟩ := t1; exact q.val.1
      rw [Int.toNat_natCast] at hfit1 hp1
      have h5 : 5 ^ (min mm 13) ≤ 5 ^ 13 := Nat.pow_le_pow_right (by decide) (by omega)
      have h51 : 1 ≤ 5 ^ (min mm 13) := Nat.one_le_pow _ _ (by decide)
      have e5 : 5 ^ mm = 5 ^ (min mm 13) * 5 ^ (mm - min mm 13) := by rw [← Nat.pow_add]; congr 1; omega
      have h52 : 1 ≤ 5 ^ (mm - min mm 13) := Nat.one_le_pow _ _ (by decide)
      have hfit2 : v1 * ((5 ^ (min mm 13) : Nat) : Int) ≤ v1 * ((5 ^ mm : Nat) : Int) := by
        apply Int.mul_le_mul_of_nonneg_left _ hv0
        have : 5 ^ (min mm 13) * 1 ≤ 5 ^ (min mm 13) * 5 ^ (mm - min mm 13) := Nat.mul_le_mul_left _ h52
        omega
      refine sp_mulAdd t1 (by omega) (by omega) (by omega) (by omega) (by omega) (fun h2 e2 q2 => ?_)
      rw [Int.add_zero] at q2
      have et : ((mm : Int) + -13).toNat = mm - min mm 13 := by omega
      refine ih (u - 13) (by omega) _ h2 _ (by omega) (by omega) (by omega) (he.tr e2) q2 ?_ ?_
      · rw [et, Int.mul_assoc, ← Int.natCast_mul, ← e5]; exact hfit1
      · rw [et, Int.mul_assoc, ← Int.natCast_mul, ← e5]; exact hp1
theorem B_2 (s : Nat) : (4294967296 : Int) ^ s = 2 ^ (32 * s) := by
  rw [show (4294967296 : Int) = 2 ^ 32 from rfl, ← Int.pow_mul]
/-- the number of bits -/
def bl (v : Int) : Int := if v ≤ 0 then 0 else (v.toNat.log2 : Int) + 1
theorem bl_of {v : Int} {t : Nat} (h0 : 2 ^ t ≤ v) (h1 : v < 2 ^ (t + 1)) : bl v = (t : Int) + 1 := by
  have hp := pw_pos t
  obtain ⟨m, rfl⟩ := ex_nat (show 0 ≤ v by omega)
  unfold bl
  rw [if_neg (by omega), Int.toNat_natCast]
  have h2 : 2 ^ t ≤ m := by exact_mod_cast h0
  have h3 : m < 2 ^ (t + 1) := by exact_mod_cast h1
  have : m.log2 = t := (Nat.log2_eq_iff (by have := Nat.two_pow_pos t; omega)).mpr ⟨h2, h3⟩
  omega
theorem ex_bits {v : Int} (h : 0 < v) : ∃ t : Nat, 2 ^ t ≤ v ∧ v < 2 ^ (t + 1) := by
  obtain ⟨m, rfl⟩ := ex_nat (show 0 ≤ v by omega)
  have h1 := Nat.log2_self_le (n := m) (by omega)
  have h2 := Nat.lt_log2_self (n := m)
  exact ⟨m.log2, by exact_mod_cast h1, by exact_mod_cast h2⟩
theorem bl_le {v : Int} {t : Nat} (h1 : v < 2 ^ t) : bl v ≤ t := by
  rcases Int.lt_or_le 0 v with g | g
  · obtain ⟨u, a1, a2⟩ := ex_bits g
    rw [bl_of a1 a2]
    have := pw_lt_of a1 h1
    omega
  · unfold bl; rw [if_pos g]; omega
theorem sp_bitLength {G : xG} {l : Launch} {n : Nat} {h : xH} {a : Nat} {v : Int} {Po : Int → xH → Prop} (t : isN n h a v) (hp : Po (bl v) h) : S_X1_bitLength G l a n h Po := by
  refine S_X1_bitLength_of (fun k hl C E => ?_)
  obtain ⟨ty, s, q⟩ := t
  have hv := q.val
  have hs2 := q.1
  have hsz : hG h a 1 = (s : Int) := q.2.1
  refine X1_bitLength_b0 C E a n h rfl ⟨ty.ok, by rw [hsz]; exact rg_nat (by omega), fun c => ⟨ty.ok, ty.ok, ty.ok, ?_⟩, fun c => ?_⟩
  · rw [hsz] at c ⊢
    obtain ⟨u, rfl⟩ : ∃ u, s = u + 1 := ⟨s - 1, by omega⟩
    refine sp_wordAt ty q.2.1 hs2 ⟨by omega, by omega⟩ ?_
    rw [if_pos ⟨by omega, by omega⟩, show (((u + 1 : Nat) : Int) - 1).toNat = u by omega]
    have hw := q.2.2.2 u rfl
    have b0 := Int.emod_nonneg ((h (a + 1)).2.2 u) (show (4294967296 : Int) ≠ 0 by decide)
    obtain ⟨r, r1, r2⟩ := ex_bits (v := (h (a + 1)).2.2 u % 4294967296) (by omega)
    refine sp_nlz (ty.2.2.2.2.2 u (by omega)) r1 r2 (X1_bitLength_b32 C E _ n h rfl ?_)
    have ev : v = nv (h (a + 1)).2.2 u + (h (a + 1)).2.2 u % 4294967296 * 4294967296 ^ u := by rw [← q.2.2.1]; rfl
    have nb := nv_bd (h (a + 1)).2.2 u
    generalize (h (a + 1)).2.2 u % 4294967296 = w at *
    have e1 : (2 : Int) ^ (32 * u + r) = 2 ^ r * 4294967296 ^ u := by rw [B_2, ← Int.pow_add]; congr 1; omega
    have e2 : (2 : Int) ^ (32 * u + r + 1) = 2 ^ (r + 1) * 4294967296 ^ u := by rw [B_2, ← Int.pow_add]; congr 1; omega
    have g1 := Int.mul_le_mul_of_nonneg_right r1 (Int.le_of_lt (B_pos u))
    have g2 := Int.mul_le_mul_of_nonneg_right (show w + 1 ≤ 2 ^ (r + 1) by omega) (Int.le_of_lt (B_pos u))
    rw [Int.add_mul] at g2
    have := bl_of (v := v) (t := 32 * u + r) (by rw [e1]; omega) (by rw [e2]; omega)
    rw [this] at hp
    rwa [show (32 : Int) * ((u + 1 : Nat) : Int) - (31 - (r : Int)) = ((32 * u + r : Nat) : Int) + 1 by omega]
  · rw [hsz] at c
    refine X1_bitLength_b32 C E 0 n h rfl ?_
    have : v = 0 := hv.2.2.1 (by omega)
    rw [this] at hp
    exact hp
