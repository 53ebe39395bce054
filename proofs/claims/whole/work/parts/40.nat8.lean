/-! NATURALS: taking factors, division by an odd factor -/
theorem isN.nn {n : Nat} {h : xH} {a : Nat} {v : Int} (t : isN n h a v) : 0 ≤ v ∧ v < 4294967296 ^ 132 := by
  obtain ⟨_, s, q⟩ := t
  have := q.val
  have := B_mono q.1
  omega
theorem sp_takeFactor {G : xG} {l : Launch} {n : Nat} {h : xH} {a : Nat} {v d : Int} {m : Nat} {Po : Int → xH → Prop} (t : isN n h a v) (hv : 0 < v) (hd0 : 1 < d) (hd1 : d ≤ 2147483647) (hm : m ≤ 2000000) (hp : ∀ (h' : xH) (k : Nat) (w : Int), hE (sN a) h h' → isN n h' a w → k ≤ m → v = w * d ^ k → (k = m ∨ w % d ≠ 0) → Po k h') : S_X1_takeFactor G l a d m n h Po := by
  refine S_X1_takeFactor_of (fun k hl C E => X1_takeFactor_b0 C E a d m n h rfl ?_)
  suffices K : ∀ (u i : Nat) (w : Int) (h1 : xH), i + u = m → hE (sN a) h h1 → isN n h1 a w → v = w * d ^ i → X1_takeFactor_w2 G k a d m i n h1 by
    refine K m 0 v h (by omega) hE.rf t ?_
    rw [Int.pow_zero]; omega
  intro u
  induction u with
  | zero =>
    intro i w h1 hi he t1 hv1
    refine X1_takeFactor_b2 C E a d m i n h1 rfl ⟨⟨rg_nat (by omega), rg_nat (by omega)⟩, fun c => X1_takeFactor_b34 C E i n h1 rfl (hp h1 i w he t1 (by omega) hv1 (Or.inl (by omega))), fun c => by omega⟩
  | succ u ih =>
    intro i w h1 hi he t1 hv1
    have t1' := t1
    obtain ⟨ty, s, q⟩ := t1
    have hw := q.val
    have hs2 := q.1
    have hsz : hG h1 a 1 = (s : Int) := q.2.1
    refine X1_takeFactor_b2 C E a d m i n h1 rfl ⟨⟨rg_nat (by omega), rg_nat (by omega)⟩, fun c => by omega, fun c => ⟨ty.ok, by rw [hsz]; exact rg_nat (by omega), fun c2 => ?_, fun c2 => ⟨ty.ok, sp_remainder t1' (by omega) hd1 ⟨?_, fun c3 => X1_takeFactor_b34 C E i n h1 rfl (hp h1 i w he t1' (by omega) hv1 (Or.inr c3)), fun c3 => ⟨ty.ok, sp_divSmall t1' (by omega) hd1 (fun h2 e2 z => ?_)⟩⟩⟩⟩⟩
    · exfalso
      rw [hsz] at c2
      have := hw.2.2.1 (by omega)
      subst this
      omega
    · have r0 := Int.emod_nonneg w (show d ≠ 0 by omega)
      have r1 := Int.emod_lt_of_pos w (show 0 < d by omega)
      exact ⟨by omega, by omega⟩
    · refine ih (i + 1) (w / d) h2 (by omega) (he.tr e2) z ?_
      rw [hv1, Int.pow_succ, Int.mul_comm (d ^ i), ← Int.mul_assoc, Int.ediv_mul_cancel (Int.dvd_of_emod_eq_zero c3)]
theorem sp_takeFives {G : xG} {l : Launch} {n : Nat} {h : xH} {a : Nat} {v : Int} {m : Nat} {Po : Int → xH → Prop} (t : isN n h a v) (hv : 0 < v) (hm : m ≤ 2000000) (hp : ∀ (h' : xH) (k : Nat) (w : Int), hE (sN a) h h' → isN n h' a w → k ≤ m → v = w * 5 ^ k → (k = m ∨ w % 5 ≠ 0) → Po k h') : S_X1_takeFives G l a m n h Po := by
  refine S_X1_takeFives_of (fun k hl C E => X1_takeFives_b0 C E a m n h rfl ?_)
  refine sp_pow5 (m := 13) (by omega) ⟨⟨rg_nat (by omega), ⟨by decide, by decide⟩, by decide⟩, t.1.ok, ?_⟩
  have e13 : ((5 ^ (min 13 13) : Nat) : Int) = 1220703125 := by decide
  rw [e13, show ((m : Int).tdiv 13) = ((m / 13 : Nat) : Int) by rw [Int.tdiv_eq_ediv_of_nonneg (by omega)]; omega]
  refine sp_takeFactor t hv (by decide) (by decide) (by omega) (fun h1 i w e1 t1 hi hv1 hc => ⟨t1.1.ok, ?_⟩)
  have hw : 0 < w := by
    have := t1.nn.1
    rcases Int.lt_or_le 0 w with g | g
    · exact g
    · have : w = 0 := by omega
      subst this
      omega
  rw [show (m : Int) - 13 * (i : Int) = ((m - 13 * i : Nat) : Int) by omega]
  refine sp_takeFactor t1 hw (by decide) (by decide) (by omega) (fun h2 j x e2 t2 hj hv2 hc2 => ?_)
  rw [show 13 * (i : Int) + (j : Int) = ((13 * i + j : Nat) : Int) by omega]
  refine hp h2 _ x (e1.tr e2) t2 (by omega) ?_ ?_
  · rw [hv1, hv2, show (1220703125 : Int) = 5 ^ 13 by decide, ← Int.pow_mul, Int.pow_add, Int.mul_assoc, Int.mul_comm (5 ^ j)]
  · rcases hc2 with g | g
    · exact Or.inl (by omega)
    · exact Or.inr g
theorem w32_ex (z : Int) : ∃ c : Int, w32 z = z + 4294967296 * c := by
  have := w32_emod z
  exact ⟨(w32 z - z) / 4294967296, by omega⟩
theorem inv_step {x y t B C : Int} (hB : C ∣ B * B) (hC : C ∣ 4294967296) (h : x * y = 1 + B * t) : ∃ u, x * w32 (y * w32 (2 - w32 (x * y))) = 1 + C * u := by
  obtain ⟨p, hp⟩ := hB
  obtain ⟨q, hq⟩ := hC
  obtain ⟨c1, e1⟩ := w32_ex (x * y)
  obtain ⟨c2, e2⟩ := w32_ex (2 - w32 (x * y))
  obtain ⟨c3, e3⟩ := w32_ex (y * w32 (2 - w32 (x * y)))
  rw [e3, e2, e1]
  refine ⟨-(p * t * t) + q * (x * y * (c2 - c1) + x * c3), ?_⟩
  have : x * (y * (2 - (x * y + 4294967296 * c1) + 4294967296 * c2) + 4294967296 * c3) = (x * y) * (2 - (x * y)) + 4294967296 * (x * y * (c2 - c1) + x * c3) := by grind
  rw [this, hq]
  generalize x * y * (c2 - c1) + x * c3 = Z
  rw [h]
  grind
theorem sp_inverse {G : xG} {l : Launch} {n : Nat} {h : xH} {x : Int} {Po : Int → xH → Prop} (hx : x % 2 = 1) (hp : ∀ y, (∃ u, x * y = 1 + 4294967296 * u) → Po y h) : S_X1_inverse G l x n h Po := by
  refine S_X1_inverse_of (fun k hl C E => X1_inverse_b0 C E x n h rfl ?_)
  have r32 : rg (32 : Int) := ⟨by decide, by decide⟩
  have hb : ∃ t, x * x = 1 + 8 * t := by
    have : x = 2 * (x / 2) + 1 := by omega
    generalize x / 2 = y at this
    subst this
    have : ∃ z, y * (y + 1) = 2 * z := by
      rcases (show y % 2 = 0 ∨ y % 2 = 1 by omega) with g | g
      · exact ⟨y / 2 * (y + 1), by rw [← Int.mul_assoc]; congr 1; omega⟩
      · exact ⟨y * ((y + 1) / 2), by rw [← Int.mul_assoc, Int.mul_comm 2, Int.mul_assoc]; congr 1; omega⟩
    obtain ⟨z, hz⟩ := this
    exact ⟨z, by grind⟩
  obtain ⟨t, ht⟩ := hb
  refine X1_inverse_b4 C E x x 3 n h rfl ⟨⟨⟨by decide, by decide⟩, r32⟩, fun c => by omega, fun c => ?_⟩
  obtain ⟨t1, h1⟩ := inv_step (B := 8) (C := 64) ⟨1, by decide⟩ ⟨67108864, by decide⟩ ht
  generalize w32 (x * w32 (2 - w32 (x * x))) = y1 at h1 ⊢
  rw [show w32 ((3 : Int) * 2) = 6 by decide]
  refine X1_inverse_b4 C E x y1 6 n h rfl ⟨⟨⟨by decide, by decide⟩, r32⟩, fun c => by omega, fun c => ?_⟩
  obtain ⟨t2, h2⟩ := inv_step (B := 64) (C := 4096) ⟨1, by decide⟩ ⟨1048576, by decide⟩ h1
  generalize w32 (y1 * w32 (2 - w32 (x * y1))) = y2 at h2 ⊢
  rw [show w32 ((6 : Int) * 2) = 12 by decide]
  refine X1_inverse_b4 C E x y2 12 n h rfl ⟨⟨⟨by decide, by decide⟩, r32⟩, fun c => by omega, fun c => ?_⟩
  obtain ⟨t3, h3⟩ := inv_step (B := 4096) (C := 16777216) ⟨1, by decide⟩ ⟨256, by decide⟩ h2
  generalize w32 (y2 * w32 (2 - w32 (x * y2))) = y3 at h3 ⊢
  rw [show w32 ((12 : Int) * 2) = 24 by decide]
  refine X1_inverse_b4 C E x y3 24 n h rfl ⟨⟨⟨by decide, by decide⟩, r32⟩, fun c => by omega, fun c => ?_⟩
  obtain ⟨t4, h4⟩ := inv_step (B := 16777216) (C := 4294967296) ⟨65536, by decide⟩ ⟨1, by decide⟩ h3
  generalize w32 (y3 * w32 (2 - w32 (x * y3))) = y4 at h4 ⊢
  rw [show w32 ((24 : Int) * 2) = 48 by decide]
  exact X1_inverse_b4 C E x y4 48 n h rfl ⟨⟨⟨by decide, by decide⟩, r32⟩, fun c => hp y4 ⟨t4, h4⟩, fun c => by omega⟩
theorem nv_snoc {f : Nat → Int} {i j : Nat} (h : i ≤ j) : nv (fun u => f (i + u)) (j + 1 - i) = nv (fun u => f (i + u)) (j - i) + f j % 4294967296 * 4294967296 ^ (j - i) := by
  rw [show j + 1 - i = (j - i) + 1 by omega]
  show _ + f (i + (j - i)) % _ * _ = _
  rw [show i + (j - i) = j by omega]
theorem sp_subProd {G : xG} {l : Launch} {n : Nat} {h : xH} {a b s i : Nat} {w y : Int} {Po : xH → Prop} (ty : tyN n h a) (hs : (h a).2.2 1 = (s : Int)) (hs2 : s ≤ 132) (tb : isN n h b w) (hd : a + 1 < b ∨ b + 1 < a) (hi : i < s) (hy : rg y) (hp : ∀ h' c, hE (fun u => u = a + 1) h h' → tyN n h' a → (∀ j, j < i → (h' (a + 1)).2.2 j = (h (a + 1)).2.2 j) → nv (fun u => (h' (a + 1)).2.2 (i + u)) (s - i) = nv (fun u => (h (a + 1)).2.2 (i + u)) (s - i) - (y % 4294967296) * w + 4294967296 ^ (s - i) * c → Po h') : S_X1_subtractProduct G l a y b i n h Po := by
  refine S_X1_subtractProduct_of (fun k hl C E => X1_subtractProduct_b0 C E a y b i n h rfl ?_)
  refine sp_max (rg_nat (by omega)) rg0 ?_
  rw [show max (i : Int) 0 = (i : Int) by omega]
  obtain ⟨tyb, t, p⟩ := tb
  have hw := p.val
  have ht2 := p.1
  have Y0 := Int.emod_nonneg y (show (4294967296 : Int) ≠ 0 by decide)
  have Y1 := Int.emod_lt_of_pos y (show (0 : Int) < 4294967296 by decide)
  suffices K : ∀ (m j : Nat) (c : Int) (h1 : xH), j + m = s → i ≤ j → hE (fun u => u = a + 1) h h1 → tyN n h1 a → (∀ u, j ≤ u ∨ u < i → (h1 (a + 1)).2.2 u = (h (a + 1)).2.2 u) → 0 ≤ c → c ≤ 4294967295 → nv (fun u => (h1 (a + 1)).2.2 (i + u)) (j - i) - c * 4294967296 ^ (j - i) = nv (fun u => (h (a + 1)).2.2 (i + u)) (j - i) - (y % 4294967296) * nv (pd (h (b + 1)).2.2 t) (j - i) → X1_subtractProduct_w10 G k a y b i c j n h1 by
    refine K (s - i) i 0 h (by omega) (Nat.le_refl i) hE.rf ty (fun _ _ => rfl) (by omega) (by omega) ?_
    rw [Nat.sub_self]
    show (0 : Int) - 0 * 1 = 0 - _ * 0
    omega
  intro m
  induction m with
  | zero =>
    intro j c h1 hj hij he t1 hu c0 c1 hv1
    have : j = s := by omega
    subst this
    have hsz : hG h1 a 1 = (j : Int) := by show (h1 a).2.2 1 = _; rw [(he a).2.2 (by omega)]; exact hs
    refine X1_subtractProduct_b10 C E a y b i c j n h1 rfl ⟨t1.ok, ⟨rg_nat (by omega), by rw [hsz]; exact rg_nat (by omega)⟩, fun g => X1_subtractProduct_b103 C E n h1 rfl ?_, fun g => by rw [hsz] at g; omega⟩
    have key : ∃ c', nv (pd (h (b + 1)).2.2 t) (j - i) + 4294967296 ^ (j - i) * c' = w := by
      rcases Nat.le_total t (j - i) with g | g
      · exact ⟨0, by rw [nv_pd g, p.2.2.1]; omega⟩
      · refine ⟨nv (fun u => (h (b + 1)).2.2 (j - i + u)) (t - (j - i)), ?_⟩
        rw [nv_pd_le g, ← nv_split, show j - i + (t - (j - i)) = t by omega]
        exact p.2.2.1
    obtain ⟨c', hc'⟩ := key
    refine hp h1 (c + (y % 4294967296) * c') he t1 (fun u hu2 => hu u (Or.inr hu2)) ?_
    rw [← hc']
    generalize (4294967296 : Int) ^ (j - i) = P at hv1 ⊢
    generalize y % 4294967296 = Y at hv1 ⊢
    grind
  | succ m ih =>
    intro j c h1 hj hij he t1 hu c0 c1 hv1
    have hsz : hG h1 a 1 = (s : Int) := by show (h1 a).2.2 1 = _; rw [(he a).2.2 (by omega)]; exact hs
    have eb := (he b).2.2 (by omega)
    have eb1 := (he (b + 1)).2.2 (by omega)
    have tb1 : tyN n h1 b := tyb.mv (fun j hj => ⟨(he j).1, (he j).2.1, by rcases hj with rfl | rfl; exact eb; exact eb1⟩)
    refine X1_subtractProduct_b10 C E a y b i c j n h1 rfl ⟨t1.ok, ⟨rg_nat (by omega), by rw [hsz]; exact rg_nat (by omega)⟩, fun g => by rw [hsz] at g; omega, fun g => ⟨⟨rg_nat (by omega), rg132⟩, fun g2 => by omega, fun g2 => ⟨hy, tb1.ok, sp_wordAt tb1 (by rw [eb]; exact p.2.1) ht2 ⟨by omega, by omega⟩ ?_⟩⟩⟩
    have z2 : (if 0 ≤ (j : Int) - (i : Int) ∧ (j : Int) - (i : Int) < t then (h1 (b + 1)).2.2 ((j : Int) - (i : Int)).toNat else 0) = pd (h (b + 1)).2.2 t (j - i) := by
      unfold pd
      rw [show ((j : Int) - (i : Int)).toNat = j - i by omega, eb1]
      by_cases g3 : j - i < t
      · rw [if_pos g3, if_pos ⟨by omega, by omega⟩]
      · rw [if_neg g3, if_neg (by omega)]
    have r2 : rg (pd (h (b + 1)).2.2 t (j - i)) := by
      unfold pd; split
      · exact tyb.2.2.2.2.2 _ (by omega)
      · exact rg0
    rw [z2]
    have o0 := Int.emod_nonneg (pd (h (b + 1)).2.2 t (j - i)) (show (4294967296 : Int) ≠ 0 by decide)
    have o1 := Int.emod_lt_of_pos (pd (h (b + 1)).2.2 t (j - i)) (show (0 : Int) < 4294967296 by decide)
    have hpd : nv (pd (h (b + 1)).2.2 t) (j + 1 - i) = nv (pd (h (b + 1)).2.2 t) (j - i) + pd (h (b + 1)).2.2 t (j - i) % 4294967296 * 4294967296 ^ (j - i) := by
      rw [show j + 1 - i = (j - i) + 1 by omega]; rfl
    refine ⟨r2, fun q eq => ⟨t1.ok, t1.w0, t1.at' (by omega) (by omega), sp_cmpU ?_⟩⟩
    rw [lA_low, lA_low] at eq
    rw [t1.w, Int.toNat_natCast, show hG h1 (a + 1) j = (h (a + 1)).2.2 j from hu j (Or.inl (Nat.le_refl j)), w32_emod]
    have n0 := Int.emod_nonneg ((h (a + 1)).2.2 j) (show (4294967296 : Int) ≠ 0 by decide)
    have n1 := Int.emod_lt_of_pos ((h (a + 1)).2.2 j) (show (0 : Int) < 4294967296 by decide)
    have P0 : 0 ≤ (y % 4294967296) * (pd (h (b + 1)).2.2 t (j - i) % 4294967296) := Int.mul_nonneg Y0 o0
    have P1 : (y % 4294967296) * (pd (h (b + 1)).2.2 t (j - i) % 4294967296) ≤ 4294967295 * 4294967295 := Int.mul_le_mul (by omega) (by omega) o0 (by omega)
    have hq : lSu q 32 = q / 4294967296 := by rw [lSu_32]; omega
    rw [hq]
    have step : ∀ c2 : Int, 0 ≤ c2 → c2 ≤ 4294967295 → ((h (a + 1)).2.2 j % 4294967296 - q % 4294967296) % 4294967296 - c2 * 4294967296 = (h (a + 1)).2.2 j % 4294967296 - q → X1_subtractProduct_w85 G k a y b i c2 j (w32 q) n h1 := by
      intro c2 d0 d1 hc2
      refine X1_subtractProduct_b85 C E a y b i c2 j (w32 q) n h1 rfl ⟨t1.ok, t1.w0, t1.at' (by omega) (by omega), t1.at' (by omega) (by omega), fun h2 e2 => ?_⟩
      rw [t1.w, Int.toNat_natCast, show hG h1 (a + 1) j = (h (a + 1)).2.2 j from hu j (Or.inl (Nat.le_refl j))] at e2
      refine ih (j + 1) c2 h2 (by omega) (by omega) (he.tr (hE.put' e2 rfl)) (by rw [e2]; exact t1.put (rg_w32 _)) (fun u hu2 => by rw [e2, hS_g, if_neg (by omega)]; exact hu u (by omega)) d0 d1 ?_
      rw [nv_snoc hij, nv_snoc hij, hpd]
      have e3 : nv (fun u => (h2 (a + 1)).2.2 (i + u)) (j - i) = nv (fun u => (h1 (a + 1)).2.2 (i + u)) (j - i) := nv_congr (fun u hu3 => by
        show (h2 (a + 1)).2.2 (i + u) % _ = _
        rw [e2, hS_g, if_neg (by omega)])
      have e4 : (h2 (a + 1)).2.2 j % 4294967296 = ((h (a + 1)).2.2 j % 4294967296 - q % 4294967296) % 4294967296 := by
        rw [e2, hS_g, if_pos ⟨rfl, rfl⟩, w32_emod, Int.sub_emod, w32_emod]
      rw [e3, e4, show j + 1 - i = (j - i) + 1 by omega, B_succ]
      generalize (4294967296 : Int) ^ (j - i) = P at hv1 ⊢
      generalize y % 4294967296 = Y at hv1 eq ⊢
      generalize nv (fun u => (h1 (a + 1)).2.2 (i + u)) (j - i) = A at hv1 ⊢
      generalize nv (fun u => (h (a + 1)).2.2 (i + u)) (j - i) = A0 at hv1 ⊢
      generalize nv (pd (h (b + 1)).2.2 t) (j - i) = A1 at hv1 ⊢
      generalize pd (h (b + 1)).2.2 t (j - i) % 4294967296 = O at eq ⊢
      generalize ((h (a + 1)).2.2 j % 4294967296 - q % 4294967296) % 4294967296 = W at hc2 ⊢
      generalize (h (a + 1)).2.2 j % 4294967296 = W0 at hc2 ⊢
      grind
    refine ⟨rg_ord _ _, fun g3 => step _ (by omega) (by omega) ?_, fun g3 => step _ (by omega) ?_ ?_⟩
    · unfold ord at g3
      split at g3
      · omega
      · omega
    · unfold ord at g3
      split at g3
      · omega
      · split at g3 <;> omega
    · unfold ord at g3
      split at g3
      · omega
      · split at g3 <;> omega
