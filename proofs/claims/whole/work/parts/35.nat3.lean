/-! NATURALS: multiplyAdd, add, subtract, compare -/
theorem isS_of {h : xH} {a s : Nat} {v : Int} (h1 : s ≤ 132) (h2 : (h a).2.2 1 = (s : Int)) (h3 : nv (h (a + 1)).2.2 s = v) (h4 : ∀ t, s = t + 1 → 4294967296 ^ t ≤ v) : isS h a s v := by
  refine ⟨h1, h2, h3, fun t e q => ?_⟩
  have g := h4 t e
  subst e
  have b := nv_bd (h (a + 1)).2.2 t
  have : nv (h (a + 1)).2.2 (t + 1) = nv (h (a + 1)).2.2 t := by
    show nv (h (a + 1)).2.2 t + _ * _ = _
    rw [q]; omega
  omega
/-- the value with one word more -/
theorem nv_put {f g : Nat → Int} {i : Nat} {z : Int} (hz : g i % 4294967296 = z) (ho : ∀ j, j < i → g j = f j) : nv g (i + 1) = nv f i + z * 4294967296 ^ i := by
  show nv g i + g i % 4294967296 * 4294967296 ^ i = _
  rw [hz, nv_congr (f := g) (g := f) (fun j hj => by rw [ho j hj])]
theorem sp_mulAdd {G : xG} {l : Launch} {n : Nat} {h : xH} {a : Nat} {v f d : Int} {Po : xH → Prop} (t : isN n h a v) (hf1 : 1 ≤ f) (hf2 : f ≤ 2147483647) (hd0 : 0 ≤ d) (hd1 : d ≤ 2147483647) (hfit : v * f + d < 4294967296 ^ 132) (hp : ∀ h', hE (sN a) h h' → isN n h' a (v * f + d) → Po h') : S_X1_multiplyAdd G l a f d n h Po := by
  refine S_X1_multiplyAdd_of (fun k hl C E => ?_)
  obtain ⟨ty, s, q⟩ := t
  have hv := q.val
  have hs2 := q.1
  have hvf : v ≤ v * f := by have := Int.mul_le_mul_of_nonneg_left hf1 hv.1; omega
  have w61 : ∀ (c : Int) (h1 : xH), hE (sN a) h h1 → tyN n h1 a → (h1 a).2.2 1 = (s : Int) → 0 ≤ c → c ≤ 2147483647 → nv (h1 (a + 1)).2.2 s + c * 4294967296 ^ s = v * f + d → X1_multiplyAdd_w61 G k a c n h1 := by
    intro c h1 he t1 hs c0 c1 hv1
    refine X1_multiplyAdd_b61 C E a c n h1 rfl ⟨t1.ok, ?_⟩
    rw [w32_id ⟨by omega, c1⟩]
    refine sp_append t1 hs hs2 ⟨by omega, c1⟩ ?_
    by_cases hc : c = 0 ∨ s = 132
    · rw [if_pos hc]
      have hc0 : c = 0 := by
        rcases hc with e | e
        · exact e
        · subst e
          rcases Int.lt_or_le 0 c with g | g
          · have := Int.mul_le_mul_of_nonneg_right (show 1 ≤ c by omega) (Int.le_of_lt (B_pos 132))
            have := (nv_bd (h1 (a + 1)).2.2 132).1
            omega
          · omega
      subst hc0
      refine hp h1 he ⟨t1, s, isS_of hs2 hs (by omega) (fun u e => ?_)⟩
      have := hv.2.2.2 u e
      omega
    · rw [if_neg hc]
      have hcn : c ≠ 0 := fun e => hc (Or.inl e)
      refine hp _ (he.tr ((hE.put (Or.inr rfl)).tr (hE.put (Or.inl rfl)))) ⟨(t1.put ⟨by omega, c1⟩).size, s + 1, ?_⟩
      have hcm : c % 4294967296 = c := by omega
      refine ⟨by omega, ?_, ?_, fun u e => ?_⟩
      · rw [hS_g, if_pos ⟨rfl, rfl⟩]; omega
      · rw [hS_ne _ _ _ (by omega)]
        rw [nv_put (f := (h1 (a + 1)).2.2) (z := c) (by rw [hS_g, if_pos ⟨rfl, rfl⟩]; exact hcm) (fun j hj => by rw [hS_g, if_neg (by omega)])]
        exact hv1
      · have : u = s := by omega
        subst this
        rw [hS_ne _ _ _ (by omega), hS_g, if_pos ⟨rfl, rfl⟩, hcm]
        exact hcn
  suffices K : ∀ (m i : Nat) (c : Int) (h1 : xH), i + m = s → hE (sN a) h h1 → tyN n h1 a → (h1 a).2.2 1 = (s : Int) → (∀ j, i ≤ j → (h1 (a + 1)).2.2 j = (h (a + 1)).2.2 j) → 0 ≤ c → c ≤ 2147483647 → nv (h1 (a + 1)).2.2 i + c * 4294967296 ^ i = nv (h (a + 1)).2.2 i * f + d → X1_multiplyAdd_w6 G k a f c i n h1 by
    refine X1_multiplyAdd_b0 C E a f d n h rfl ⟨⟨by omega, hd1⟩, K s 0 d h (by omega) hE.rf ty q.2.1 (fun _ _ => rfl) hd0 hd1 ?_⟩
    show 0 + d * 1 = 0 * f + d
    omega
  intro m
  induction m with
  | zero =>
    intro i c h1 hi he t1 hs hj c0 c1 hv1
    have : i = s := by omega
    subst this
    have hsz : hG h1 a 1 = (i : Int) := hs
    rw [q.2.2.1] at hv1
    refine X1_multiplyAdd_b6 C E a f c i n h1 rfl ⟨t1.ok, ⟨rg_nat (by omega), by rw [hsz]; exact rg_nat (by omega)⟩, fun g => w61 c h1 he t1 hs c0 c1 hv1, fun g => ?_⟩
    rw [hsz] at g; omega
  | succ m ih =>
    intro i c h1 hi he t1 hs hj c0 c1 hv1
    have hsz : hG h1 a 1 = (s : Int) := hs
    refine X1_multiplyAdd_b6 C E a f c i n h1 rfl ⟨t1.ok, ⟨rg_nat (by omega), by rw [hsz]; exact rg_nat (by omega)⟩, fun g => ?_, fun g => ⟨⟨rg_nat (by omega), rg132⟩, fun g2 => ?_, fun g2 => ⟨t1.ok, t1.w0, t1.at' (by omega) (by omega), ?_, ⟨by omega, hf2⟩, fun y ey => ⟨t1.ok, t1.w0, t1.at' (by omega) (by omega), fun h2 e2 => ?_⟩⟩⟩⟩
    · rw [hsz] at g; omega
    · omega
    · rw [t1.w]; exact t1.2.2.2.2.2 i (by omega)
    · rw [t1.w, Int.toNat_natCast] at ey e2
      have hw : hG h1 (a + 1) i = (h (a + 1)).2.2 i := hj i (Nat.le_refl i)
      rw [hw, lA_low] at ey
      have b0 := Int.emod_nonneg ((h (a + 1)).2.2 i) (show (4294967296 : Int) ≠ 0 by decide)
      have b1 := Int.emod_lt_of_pos ((h (a + 1)).2.2 i) (show (0 : Int) < 4294967296 by decide)
      generalize hwd : (h (a + 1)).2.2 i % 4294967296 = w at ey b0 b1
      have p0 : 0 ≤ w * f := Int.mul_nonneg b0 (by omega)
      have p1 : w * f ≤ 4294967295 * 2147483647 := Int.mul_le_mul (by omega) hf2 (by omega) (by omega)
      have hc' : lSu y 32 = y / 4294967296 := by rw [lSu_32]; omega
      rw [hc']
      subst e2
      refine ih (i + 1) (y / 4294967296) _ (by omega) (he.tr (hE.put (Or.inr rfl))) (t1.put (rg_w32 y)) (by rw [hS_g, if_neg (by omega)]; exact hs) (fun j hj2 => ?_) (by omega) (by omega) ?_
      · rw [hS_g, if_neg (by omega)]; exact hj j (by omega)
      · rw [nv_put (f := (h1 (a + 1)).2.2) (z := y % 4294967296) (by rw [hS_g, if_pos ⟨rfl, rfl⟩, w32_emod]) (fun j hj => by rw [hS_g, if_neg (by omega)])]
        have e5 : nv (h (a + 1)).2.2 (i + 1) = nv (h (a + 1)).2.2 i + w * 4294967296 ^ i := by rw [← hwd]; rfl
        rw [e5, B_succ]
        have e6 : y % 4294967296 + y / 4294967296 * 4294967296 = y := Int.emod_add_ediv_mul y 4294967296
        generalize (4294967296 : Int) ^ i = P at hv1 ⊢
        generalize nv (h1 (a + 1)).2.2 i = A at hv1 ⊢
        generalize nv (h (a + 1)).2.2 i = A0 at hv1 ⊢
        generalize y % 4294967296 = r at e6 ⊢
        generalize y / 4294967296 = qq at e6 ⊢
        grind
def pd (f : Nat → Int) (s : Nat) : Nat → Int := fun j => if j < s then f j else 0
theorem nv_pd_le {f : Nat → Int} {s i : Nat} (h : i ≤ s) : nv (pd f s) i = nv f i := nv_congr (fun j hj => by unfold pd; rw [if_pos (by omega)])
theorem nv_pd {f : Nat → Int} {s i : Nat} (h : s ≤ i) : nv (pd f s) i = nv f s := by
  induction i with
  | zero => rw [show s = 0 by omega]; rfl
  | succ i ih =>
    rcases Nat.lt_or_ge i s with g | g
    · have : s = i + 1 := by omega
      rw [nv_pd_le (by omega), this]
    · show nv (pd f s) i + pd f s i % 4294967296 * _ = _
      rw [ih g, show pd f s i = 0 from if_neg (by omega)]
      simp
theorem sp_add {G : xG} {l : Launch} {n : Nat} {h : xH} {a b : Nat} {v w : Int} {Po : xH → Prop} (ta : isN n h a v) (tb : isN n h b w) (hd : a + 1 < b ∨ b + 1 < a) (hfit : v + w < 4294967296 ^ 132) (hp : ∀ h', hE (sN a) h h' → isN n h' a (v + w) → Po h') : S_X1_add G l a b n h Po := by
  refine S_X1_add_of (fun k hl C E => ?_)
  obtain ⟨ty, s, q⟩ := ta
  obtain ⟨tyb, t, p⟩ := tb
  have hv := q.val
  have hw := p.val
  have hs2 := q.1
  have ht2 := p.1
  obtain ⟨mx, hmx⟩ : ∃ mx : Nat, mx = max s t := ⟨_, rfl⟩
  have w77 : ∀ (c : Int) (h1 : xH), hE (sN a) h h1 → tyN n h1 a → 0 ≤ c → c ≤ 1 → nv (h1 (a + 1)).2.2 mx + c * 4294967296 ^ mx = v + w → X1_add_w77 G k a mx c n h1 := by
    intro c h1 he t1 c0 c1 hv1
    refine X1_add_b77 C E a mx c n h1 rfl ⟨t1.ok, fun h2 e2 => ?_⟩
    have t2 : tyN n h2 a := by rw [e2]; exact t1.size
    have hs : (h2 a).2.2 1 = (mx : Int) := by rw [e2, hS_g, if_pos ⟨rfl, rfl⟩]
    have he2 : hE (sN a) h h2 := he.tr (hE.put' e2 (Or.inl rfl))
    have hc2 : (h2 (a + 1)).2.2 = (h1 (a + 1)).2.2 := by rw [e2, hS_ne _ _ _ (by omega)]
    rw [← hc2] at hv1
    refine ⟨t2.ok, ?_⟩
    rw [w32_id ⟨by omega, by omega⟩]
    refine sp_append t2 hs (by omega) ⟨by omega, by omega⟩ ?_
    by_cases hc : c = 0 ∨ mx = 132
    · rw [if_pos hc]
      have hc0 : c = 0 := by
        rcases hc with e | e
        · exact e
        · rw [e] at hv1
          rcases Int.lt_or_le 0 c with g | g
          · have := Int.mul_le_mul_of_nonneg_right (show 1 ≤ c by omega) (Int.le_of_lt (B_pos 132))
            have := (nv_bd (h2 (a + 1)).2.2 132).1
            omega
          · omega
      subst hc0
      refine hp h2 he2 ⟨t2, mx, isS_of (by omega) hs (by omega) (fun u e => ?_)⟩
      rcases Nat.le_total s t with g | g
      · have := hw.2.2.2 u (by omega); omega
      · have := hv.2.2.2 u (by omega); omega
    · rw [if_neg hc]
      have hcn : c = 1 := by
        rcases Int.lt_or_le 0 c with g | g
        · omega
        · exact absurd (Or.inl (by omega)) hc
      subst hcn
      refine hp _ (he2.tr ((hE.put (Or.inr rfl)).tr (hE.put (Or.inl rfl)))) ⟨(t2.put ⟨by decide, by decide⟩).size, mx + 1, ?_⟩
      refine ⟨by omega, ?_, ?_, fun u e => ?_⟩
      · rw [hS_g, if_pos ⟨rfl, rfl⟩]; omega
      · rw [hS_ne _ _ _ (by omega)]
        rw [nv_put (f := (h2 (a + 1)).2.2) (z := 1) (by rw [hS_g, if_pos ⟨rfl, rfl⟩]; rfl) (fun j hj => by rw [hS_g, if_neg (by omega)])]
        exact hv1
      · have : u = mx := by omega
        subst this
        rw [hS_ne _ _ _ (by omega), hS_g, if_pos ⟨rfl, rfl⟩]
        decide
  suffices K : ∀ (m i : Nat) (c : Int) (h1 : xH), i + m = mx → hE (sN a) h h1 → tyN n h1 a → (h1 a).2.2 1 = (s : Int) → (∀ j, i ≤ j → (h1 (a + 1)).2.2 j = (h (a + 1)).2.2 j) → 0 ≤ c → c ≤ 1 → nv (h1 (a + 1)).2.2 i + c * 4294967296 ^ i = nv (pd (h (a + 1)).2.2 s) i + nv (pd (h (b + 1)).2.2 t) i → X1_add_w17 G k a b mx c i n h1 by
    refine X1_add_b0 C E a b n h rfl ⟨ty.ok, tyb.ok, ?_⟩
    rw [show hG h a 1 = (s : Int) from q.2.1, show hG h b 1 = (t : Int) from p.2.1]
    refine sp_max (rg_nat (by omega)) (rg_nat (by omega)) ?_
    rw [show max (s : Int) (t : Int) = (mx : Int) by omega]
    exact K mx 0 0 h (by omega) hE.rf ty q.2.1 (fun _ _ => rfl) (by omega) (by omega) rfl
  intro m
  induction m with
  | zero =>
    intro i c h1 hi he t1 hs hj c0 c1 hv1
    have : i = mx := by omega
    subst this
    rw [nv_pd (by omega), nv_pd (by omega), q.2.2.1, p.2.2.1] at hv1
    refine X1_add_b17 C E a b i c i n h1 rfl ⟨⟨rg_nat (by omega), rg_nat (by omega)⟩, fun g => w77 c h1 he t1 c0 c1 hv1, fun g => ?_⟩
    omega
  | succ m ih =>
    intro i c h1 hi he t1 hs hj c0 c1 hv1
    have eb := (he b).2.2 (by rintro (e | e) <;> omega)
    have eb1 := (he (b + 1)).2.2 (by rintro (e | e) <;> omega)
    have tb1 : tyN n h1 b := tyb.mv (fun j hj => ⟨(he j).1, (he j).2.1, by rcases hj with rfl | rfl; exact eb; exact eb1⟩)
    refine X1_add_b17 C E a b mx c i n h1 rfl ⟨⟨rg_nat (by omega), rg_nat (by omega)⟩, fun g => ?_, fun g => ⟨⟨rg_nat (by omega), rg132⟩, fun g2 => ?_, fun g2 => ⟨t1.ok, ?_⟩⟩⟩
    · omega
    · omega
    · refine sp_wordAt t1 hs hs2 (rg_nat (by omega)) ?_
      have z1 : (if 0 ≤ (i : Int) ∧ (i : Int) < s then (h1 (a + 1)).2.2 (i : Int).toNat else 0) = pd (h (a + 1)).2.2 s i := by
        unfold pd
        rw [Int.toNat_natCast, hj i (Nat.le_refl i)]
        by_cases g3 : i < s
        · rw [if_pos g3, if_pos ⟨by omega, by omega⟩]
        · rw [if_neg g3, if_neg (by omega)]
      have z2 : (if 0 ≤ (i : Int) ∧ (i : Int) < t then (h1 (b + 1)).2.2 (i : Int).toNat else 0) = pd (h (b + 1)).2.2 t i := by
        unfold pd
        rw [Int.toNat_natCast, eb1]
        by_cases g3 : i < t
        · rw [if_pos g3, if_pos ⟨by omega, by omega⟩]
        · rw [if_neg g3, if_neg (by omega)]
      have r1 : rg (pd (h (a + 1)).2.2 s i) := by
        unfold pd; split
        · exact ty.2.2.2.2.2 i (by omega)
        · exact rg0
      have r2 : rg (pd (h (b + 1)).2.2 t i) := by
        unfold pd; split
        · exact tyb.2.2.2.2.2 i (by omega)
        · exact rg0
      rw [z1]
      refine ⟨r1, tb1.ok, sp_wordAt tb1 (by rw [eb]; exact p.2.1) ht2 (rg_nat (by omega)) ?_⟩
      rw [z2]
      refine ⟨r2, fun y ey => ⟨t1.ok, t1.w0, t1.at' (by omega) (by omega), fun h2 e2 => ?_⟩⟩
      rw [t1.w, Int.toNat_natCast] at e2
      rw [lA_low, lA_low] at ey
      have b0 := Int.emod_nonneg (pd (h (a + 1)).2.2 s i) (show (4294967296 : Int) ≠ 0 by decide)
      have b1 := Int.emod_lt_of_pos (pd (h (a + 1)).2.2 s i) (show (0 : Int) < 4294967296 by decide)
      have b2 := Int.emod_nonneg (pd (h (b + 1)).2.2 t i) (show (4294967296 : Int) ≠ 0 by decide)
      have b3 := Int.emod_lt_of_pos (pd (h (b + 1)).2.2 t i) (show (0 : Int) < 4294967296 by decide)
      have hc' : lSu y 32 = y / 4294967296 := by rw [lSu_32]; omega
      rw [hc']
      subst e2
      refine ih (i + 1) (y / 4294967296) _ (by omega) (he.tr (hE.put (Or.inr rfl))) (t1.put (rg_w32 y)) (by rw [hS_g, if_neg (by omega)]; exact hs) (fun j hj2 => ?_) (by omega) (by omega) ?_
      · rw [hS_g, if_neg (by omega)]; exact hj j (by omega)
      · rw [nv_put (f := (h1 (a + 1)).2.2) (z := y % 4294967296) (by rw [hS_g, if_pos ⟨rfl, rfl⟩, w32_emod]) (fun j hj => by rw [hS_g, if_neg (by omega)])]
        show _ = (nv (pd (h (a + 1)).2.2 s) i + pd (h (a + 1)).2.2 s i % 4294967296 * 4294967296 ^ i) + (nv (pd (h (b + 1)).2.2 t) i + pd (h (b + 1)).2.2 t i % 4294967296 * 4294967296 ^ i)
        rw [B_succ]
        have e6 : y % 4294967296 + y / 4294967296 * 4294967296 = y := Int.emod_add_ediv_mul y 4294967296
        generalize (4294967296 : Int) ^ i = P at hv1 ⊢
        generalize nv (h1 (a + 1)).2.2 i = A at hv1 ⊢
        generalize nv (pd (h (a + 1)).2.2 s) i = A0 at hv1 ⊢
        generalize nv (pd (h (b + 1)).2.2 t) i = A1 at hv1 ⊢
        generalize pd (h (a + 1)).2.2 s i % 4294967296 = u0 at ey ⊢
        generalize pd (h (b + 1)).2.2 t i % 4294967296 = u1 at ey ⊢
        generalize y % 4294967296 = r at e6 ⊢
        generalize y / 4294967296 = qq at e6 ⊢
        grind
