/-! NATURALS: division by an odd factor -/
theorem odd_cancel {w x : Int} {s : Nat} (hw : w % 2 = 1) (hd : (4294967296 : Int) ^ s ∣ w * x) : (4294967296 : Int) ^ s ∣ x := by
  have h1 : ((4294967296 : Int) ^ s).natAbs = 4294967296 ^ s := by rw [Int.natAbs_pow]; rfl
  have h2 := Int.natAbs_dvd_natAbs.mpr hd
  rw [Int.natAbs_mul, h1] at h2
  have hc : Nat.Coprime (4294967296 ^ s) w.natAbs := by
    rw [show (4294967296 : Nat) = 2 ^ 32 from rfl, ← Nat.pow_mul]
    apply Nat.Coprime.pow_left
    have : w.natAbs % 2 = 1 := by omega
    rw [Nat.coprime_comm]
    show Nat.gcd w.natAbs 2 = 1
    rw [Nat.gcd_comm, Nat.gcd_rec, this]
    rfl
  have h3 := hc.dvd_of_dvd_mul_left h2
  rw [← h1] at h3
  exact Int.natAbs_dvd_natAbs.mp h3
theorem sp_divOdd {G : xG} {l : Launch} {n : Nat} {h : xH} {a b : Nat} {w q : Int} {Po : xH → Prop} (ta : isN n h a (w * q)) (tb : isN n h b w) (hd : a + 1 < b ∨ b + 1 < a) (hw : w % 2 = 1) (hp : ∀ h', hE (sN a) h h' → isN n h' a q → Po h') : S_X1_divideByOddFactor G l a b n h Po := by
  refine S_X1_divideByOddFactor_of (fun k hl C E => ?_)
  have tb0 := tb
  obtain ⟨ty, s, qa⟩ := ta
  obtain ⟨tyb, t, p⟩ := tb
  have hv := qa.val
  have hs2 := qa.1
  have hwv := p.val
  have ht2 := p.1
  have hsz : (h a).2.2 1 = (s : Int) := qa.2.1
  have ht0 : 0 < t := by
    rcases Nat.lt_or_ge 0 t with g | g
    · exact g
    · have := hwv.2.2.1 (by omega); omega
  have hw0 : w % 4294967296 = (h (b + 1)).2.2 0 % 4294967296 := by
    have e : w = nv (h (b + 1)).2.2 1 + 4294967296 ^ 1 * nv (fun j => (h (b + 1)).2.2 (1 + j)) (t - 1) := by
      rw [← p.2.2.1, ← nv_split]; congr 1; omega
    rw [e, show nv (h (b + 1)).2.2 1 = 0 + (h (b + 1)).2.2 0 % 4294967296 * 1 from rfl, show (4294967296 : Int) ^ 1 = 4294967296 from rfl]
    omega
  refine X1_divideByOddFactor_b0 C E a b n h rfl ⟨tyb.ok, sp_wordAt tyb p.2.1 ht2 rg0 ?_⟩
  rw [if_pos ⟨by omega, by omega⟩, show (0 : Int).toNat = 0 from rfl]
  refine sp_inverse (by omega) (fun y hy => ?_)
  have hyw : ∃ u, w * y = 1 + 4294967296 * u := by
    obtain ⟨u, hu⟩ := hy
    refine ⟨u + y * ((w - (h (b + 1)).2.2 0) / 4294967296), ?_⟩
    have : w = (h (b + 1)).2.2 0 + 4294967296 * ((w - (h (b + 1)).2.2 0) / 4294967296) := by omega
    generalize (w - (h (b + 1)).2.2 0) / 4294967296 = Z at this ⊢
    rw [this]
    grind
  obtain ⟨uy, huy⟩ := hyw
  suffices K : ∀ (m i : Nat) (c : Int) (h1 : xH), i + m = s → hE (sN a) h h1 → tyN n h1 a → (h1 a).2.2 1 = (s : Int) → w * q = w * nv (h1 (a + 1)).2.2 i + 4294967296 ^ i * nv (fun u => (h1 (a + 1)).2.2 (i + u)) (s - i) + 4294967296 ^ s * c → X1_divideByOddFactor_w11 G k a b y i n h1 by
    refine K s 0 0 h (by omega) hE.rf ty hsz ?_
    rw [show (fun u => (h (a + 1)).2.2 (0 + u)) = (h (a + 1)).2.2 from funext fun u => by rw [Nat.zero_add], Nat.sub_zero, qa.2.2.1]
    show _ = w * 0 + 1 * (w * q) + _
    omega
  intro m
  induction m with
  | zero =>
    intro i c h1 hi he t1 hs hv1
    have : i = s := by omega
    subst this
    have hsz1 : hG h1 a 1 = (i : Int) := hs
    refine X1_divideByOddFactor_b11 C E a b y i n h1 rfl ⟨t1.ok, ⟨rg_nat (by omega), by rw [hsz1]; exact rg_nat (by omega)⟩, fun g => X1_divideByOddFactor_b63 C E a n h1 rfl ⟨t1.ok, sp_trim i h1 t1 hs hs2 (fun h' e' z => hp h' (he.tr (e'.mono (fun j hj => Or.inl hj))) ?_)⟩, fun g => by rw [hsz1] at g; omega⟩
    have nb := nv_bd (h1 (a + 1)).2.2 i
    generalize nv (h1 (a + 1)).2.2 i = Q at hv1 z nb
    rw [Nat.sub_self] at hv1
    have hv2 : w * q = w * Q + 4294967296 ^ i * c := by
      rw [hv1]; show _ + _ * 0 + _ = _; omega
    have hd2 : (4294967296 : Int) ^ i ∣ w * (q - Q) := ⟨c, by rw [Int.mul_sub]; omega⟩
    obtain ⟨e, he2⟩ := odd_cancel hw hd2
    have hq0 : 0 ≤ q := by
      rcases Int.lt_or_le q 0 with g | g
      · have := Int.mul_neg_of_pos_of_neg (show 0 < w by omega) g
        omega
      · exact g
    have hq1 : q ≤ w * q := by
      have := Int.mul_le_mul_of_nonneg_right (show 1 ≤ w by omega) hq0
      omega
    have hBp := B_pos i
    have hqQ : q = Q := by
      have hlt : 4294967296 ^ i * e < 4294967296 ^ i * 1 := by omega
      have hgt : 4294967296 ^ i * (-1) < 4294967296 ^ i * e := by omega
      have l1 := Int.lt_of_mul_lt_mul_left hlt (Int.le_of_lt hBp)
      have l2 := Int.lt_of_mul_lt_mul_left hgt (Int.le_of_lt hBp)
      have : e = 0 := by omega
      subst this
      omega
    rw [hqQ]; exact z
  | succ m ih =>
    intro i c h1 hi he t1 hs hv1
    have hsz1 : hG h1 a 1 = (s : Int) := hs
    have eb := (he b).2.2 (by rintro (e | e) <;> omega)
    have eb1 := (he (b + 1)).2.2 (by rintro (e | e) <;> omega)
    have tb1 : isN n h1 b w := tb0.mv he (by rintro (e | e) <;> omega) (by rintro (e | e) <;> omega)
    refine X1_divideByOddFactor_b11 C E a b y i n h1 rfl ⟨t1.ok, ⟨rg_nat (by omega), by rw [hsz1]; exact rg_nat (by omega)⟩, fun g => by rw [hsz1] at g; omega, fun g => ⟨⟨rg_nat (by omega), rg132⟩, fun g2 => by omega, fun g2 => ⟨t1.ok, t1.w0, t1.at' (by omega) (by omega), fun x ex => ?_⟩⟩⟩
    rw [t1.w, Int.toNat_natCast, show hG h1 (a + 1) i = (h1 (a + 1)).2.2 i from rfl] at ex
    have hxr : rg x := by rw [ex]; exact rg_w32 _
    have hxw : ∃ u, x % 4294967296 * w = (h1 (a + 1)).2.2 i % 4294967296 + 4294967296 * u := by
      obtain ⟨c1, e1⟩ := w32_ex ((h1 (a + 1)).2.2 i * y)
      have e2 := Int.emod_add_ediv_mul x 4294967296
      have e3 := Int.emod_add_ediv_mul ((h1 (a + 1)).2.2 i) 4294967296
      rw [e1] at ex
      generalize x % 4294967296 = X at e2 ⊢
      generalize x / 4294967296 = X1 at e2
      generalize (h1 (a + 1)).2.2 i % 4294967296 = F at e3 ⊢
      generalize (h1 (a + 1)).2.2 i / 4294967296 = F1 at e3
      generalize (h1 (a + 1)).2.2 i = f at e3 ex
      refine ⟨F1 + f * uy + c1 * w - X1 * w, ?_⟩
      have : X = f * y + 4294967296 * c1 - X1 * 4294967296 := by omega
      rw [this]
      have : (f * y + 4294967296 * c1 - X1 * 4294967296) * w = f * (w * y) + 4294967296 * (c1 * w - X1 * w) := by grind
      rw [this, huy]
      grind
    obtain ⟨ux, hux⟩ := hxw
    have step : ∀ (h2 : xH) (c' : Int), hE (fun u => u = a + 1) h1 h2 → tyN n h2 a → (∀ j, j < i → (h2 (a + 1)).2.2 j = (h1 (a + 1)).2.2 j) → nv (fun u => (h2 (a + 1)).2.2 (i + u)) (s - i) = nv (fun u => (h1 (a + 1)).2.2 (i + u)) (s - i) - (x % 4294967296) * w + 4294967296 ^ (s - i) * c' → X1_divideByOddFactor_w49 G k a b y i x n h2 := by
      intro h2 c' e2 t2 hlo hv2
      refine X1_divideByOddFactor_b49 C E a b y i x n h2 rfl ⟨t2.ok, t2.w0, t2.at' (by omega) (by omega), fun h3 e3 => ?_⟩
      rw [t2.w, Int.toNat_natCast] at e3
      refine ih (i + 1) (c - c') h3 (by omega) ((he.tr (e2.mono (fun j hj => Or.inr hj))).tr (hE.put' e3 (Or.inr rfl))) (by rw [e3]; exact t2.put hxr) (by rw [e3, hS_g, if_neg (by omega), (e2 a).2.2 (by omega)]; exact hs) ?_
      have ePs : (4294967296 : Int) ^ s = 4294967296 ^ i * 4294967296 ^ (s - i) := by rw [← Int.pow_add]; congr 1; omega
      have ePi : (4294967296 : Int) ^ (s - i) = 4294967296 * 4294967296 ^ (s - (i + 1)) := by rw [← B_succ]; congr 1; omega
      rw [nv_put (f := (h1 (a + 1)).2.2) (z := x % 4294967296) (by rw [e3, hS_g, if_pos ⟨rfl, rfl⟩]) (fun j hj => by rw [e3, hS_g, if_neg (by omega)]; exact hlo j hj)]
      have e5 : nv (fun u => (h3 (a + 1)).2.2 (i + 1 + u)) (s - (i + 1)) = nv (fun u => (h2 (a + 1)).2.2 (i + 1 + u)) (s - (i + 1)) := nv_congr (fun u _ => by
        show (h3 (a + 1)).2.2 (i + 1 + u) % _ = _
        rw [e3, hS_g, if_neg (by omega)])
      rw [e5, hv1, B_succ]
      have z0 := Int.emod_nonneg ((h2 (a + 1)).2.2 i) (show (4294967296 : Int) ≠ 0 by decide)
      have z1 := Int.emod_lt_of_pos ((h2 (a + 1)).2.2 i) (show (0 : Int) < 4294967296 by decide)
      rw [nv_step (f := (h2 (a + 1)).2.2) (show i < s by omega), nv_step (f := (h1 (a + 1)).2.2) (show i < s by omega), ePi] at hv2
      rw [nv_step (f := (h1 (a + 1)).2.2) (show i < s by omega), ePs, ePi]
      generalize nv (fun u => (h2 (a + 1)).2.2 (i + 1 + u)) (s - (i + 1)) = R2 at hv2 ⊢
      generalize nv (fun u => (h1 (a + 1)).2.2 (i + 1 + u)) (s - (i + 1)) = R1 at hv2 ⊢
      generalize (h2 (a + 1)).2.2 i % 4294967296 = F2 at hv2 z0 z1
      generalize (h1 (a + 1)).2.2 i % 4294967296 = F1 at hv2 hux ⊢
      generalize (4294967296 : Int) ^ (s - (i + 1)) = P at hv2 ⊢
      generalize nv (h1 (a + 1)).2.2 i = L
      generalize (4294967296 : Int) ^ i = Pi
      generalize x % 4294967296 = X at hv2 hux ⊢
      have hF2 : F2 = 0 := by
        rw [hux] at hv2
        have : F2 = 4294967296 * (R1 - R2 - ux + P * c') := by
          have hh : (4294967296 * P) * c' = 4294967296 * (P * c') := Int.mul_assoc _ _ _
          rw [hh] at hv2
          generalize P * c' = Z at hv2 ⊢
          omega
        omega
      subst hF2
      have : F1 + 4294967296 * R1 = X * w + 4294967296 * R2 - 4294967296 * P * c' := by omega
      rw [this]
      grind
    refine ⟨hxr, fun c2 => ?_, fun c2 => ⟨t1.ok, sp_subProd t1 hs hs2 tb1 hd (by omega) hxr (fun h2 c' e2 t2 hlo hv2 => step h2 c' e2 t2 hlo hv2)⟩⟩
    refine step h1 0 hE.rf t1 (fun _ _ => rfl) ?_
    rw [c2]
    show _ = _ - 0 % 4294967296 * w + _
    omega
