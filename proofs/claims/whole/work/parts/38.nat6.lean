/-! NATURALS: shifts -/
theorem ip_bd {x : Int} {p : Nat} (h0 : 0 ≤ x) (h1 : x < 4294967296) (hp : p < 32) : 0 ≤ x * 2 ^ p ∧ x * 2 ^ p / 4294967296 < 4294967296 := by
  have hpp := pw_pos p
  have := pw_mono (show p ≤ 31 by omega)
  have h2 := Int.mul_nonneg h0 (Int.le_of_lt hpp)
  refine ⟨h2, Int.ediv_lt_of_lt_mul (by decide) ?_⟩
  have h3 : x * 2 ^ p ≤ 4294967295 * 2 ^ 31 := Int.mul_le_mul (by omega) this (by omega) (by omega)
  omega
/-- the words of the number shifted up by sk words and p bits, added up -/
theorem nv_shl {f g : Nat → Int} {s sk p : Nat} (hp : p < 32) (hg : ∀ i : Nat, g i % 4294967296 = (rd f s ((i : Int) - sk) % 4294967296 * 2 ^ p) % 4294967296 + (rd f s ((i : Int) - sk - 1) % 4294967296) * 2 ^ p / 4294967296) : ∀ N : Nat, nv g N + (rd f s ((N : Int) - 1 - sk) % 4294967296) * 2 ^ p / 4294967296 * 4294967296 ^ N = 2 ^ p * nv (fun i => rd f s ((i : Int) - sk)) N := by
  intro N
  induction N with
  | zero =>
    show 0 + _ * 1 = 2 ^ p * 0
    have : rd f s (((0 : Nat) : Int) - 1 - sk) = 0 := if_neg (by omega)
    rw [this]; simp
  | succ N ih =>
    show (nv g N + g N % 4294967296 * 4294967296 ^ N) + _ = 2 ^ p * (nv (fun i => rd f s ((i : Int) - sk)) N + rd f s ((N : Int) - sk) % 4294967296 * 4294967296 ^ N)
    rw [hg N, show (((N + 1 : Nat) : Int) - 1 - sk) = (N : Int) - sk by omega, B_succ, show (N : Int) - sk - 1 = (N : Int) - 1 - sk by omega]
    have e6 := Int.emod_add_ediv_mul (rd f s ((N : Int) - sk) % 4294967296 * 2 ^ p) 4294967296
    generalize (rd f s ((N : Int) - 1 - sk) % 4294967296) * 2 ^ p / 4294967296 = hi at ih ⊢
    generalize rd f s ((N : Int) - sk) % 4294967296 = w at e6 ⊢
    generalize w * 2 ^ p % 4294967296 = lo at e6 ⊢
    generalize hq : w * 2 ^ p / 4294967296 = qq at e6 ⊢
    generalize nv (fun i => rd f s ((i : Int) - sk)) N = V at ih ⊢
    generalize nv g N = A at ih ⊢
    generalize (4294967296 : Int) ^ N = P at ih ⊢
    generalize (2 : Int) ^ p = D at ih e6 ⊢
    grind
theorem nv_rd {f : Nat → Int} {s sk : Nat} (m : Nat) : nv (fun i => rd f s ((i : Int) - sk)) (sk + m) = 4294967296 ^ sk * nv (pd f s) m := by
  rw [nv_split]
  have e1 : nv (fun i => rd f s ((i : Int) - sk)) sk = 0 := by
    have : ∀ u, u ≤ sk → nv (fun i => rd f s ((i : Int) - sk)) u = 0 := by
      intro u
      induction u with
      | zero => intro _; rfl
      | succ u ih =>
        intro hu
        show nv _ u + rd f s ((u : Int) - sk) % _ * _ = 0
        rw [ih (by omega), show rd f s ((u : Int) - sk) = 0 from if_neg (by omega)]
        simp
    exact this sk (Nat.le_refl _)
  rw [e1, Int.zero_add]
  congr 1
  apply nv_congr
  intro i hi
  congr 1
  show rd f s (((sk + i : Nat) : Int) - sk) = pd f s i
  unfold rd pd
  rw [show (((sk + i : Nat) : Int) - sk) = (i : Int) by omega, Int.toNat_natCast]
  by_cases g : i < s
  · rw [if_pos ⟨by omega, by omega⟩, if_pos g]
  · rw [if_neg (by omega), if_neg g]
theorem sp_shl {G : xG} {l : Launch} {n : Nat} {h : xH} {a : Nat} {v : Int} {x : Int} {Po : xH → Prop} (t : isN n h a v) (hx : rg x) (hfit : 0 < v → bl v + x ≤ 4224) (hp : ∀ h', hE (sN a) h h' → isN n h' a (v * 2 ^ x.toNat) → Po h') : S_X1_shiftLeft G l a x n h Po := by
  refine S_X1_shiftLeft_of (fun k hl C E => ?_)
  have t0 := t
  obtain ⟨ty, s, q⟩ := t
  have hv := q.val
  have hs2 := q.1
  have hsz : hG h a 1 = (s : Int) := q.2.1
  have w25 : Po h → X1_shiftLeft_w25 G k n h := fun z => X1_shiftLeft_b25 C E n h rfl z
  have hx1 := hx.1
  have hx2 := hx.2
  refine X1_shiftLeft_b0 C E a x n h rfl ⟨ty.ok, sp_bitLength t0 ⟨ty.ok, by rw [hsz]; exact rg_nat (by omega), fun c => w25 ?_, fun c => ⟨hx, fun c2 => w25 ?_, fun c2 => ?_⟩⟩⟩
  · rw [hsz] at c
    have : v = 0 := hv.2.2.1 (by omega)
    refine hp h hE.rf ?_
    rw [this] at t0 ⊢
    rwa [Int.zero_mul]
  · refine hp h hE.rf ?_
    rw [show x.toNat = 0 by omega]
    rwa [show v * 2 ^ 0 = v by simp]
  · rw [hsz] at c
    obtain ⟨su, rfl⟩ : ∃ u, s = u + 1 := ⟨s - 1, by omega⟩
    have hvpos : 0 < v := by have := hv.2.2.2 su rfl; have := B_pos su; omega
    have hf := hfit hvpos
    obtain ⟨tt, t1, t2⟩ := ex_bits hvpos
    have hbl := bl_of t1 t2
    rw [hbl] at hf ⊢
    obtain ⟨xx, rfl⟩ := ex_nat (show 0 ≤ x by omega)
    refine ⟨⟨hx, ⟨by omega, by omega⟩⟩, fun c3 => ?_, fun c3 => by omega⟩
    have hsk : iSr (xx : Int) 5 = ((xx / 32 : Nat) : Int) := by
      have := iSr_d (x := (xx : Int)) hx 5 (by decide)
      rw [show ((5 : Nat) : Int) = 5 from rfl] at this
      rw [this]; omega
    have hpart : iA (xx : Int) 31 = ((xx % 32 : Nat) : Int) := by
      have := iA_mask (xx : Int) 5 (by decide)
      rw [show ((2 : Int) ^ 5 - 1) = 31 from rfl] at this
      rw [this]; omega
    have hns : iSr ((tt : Int) + 1 + (xx : Int) + 31) 5 = (((tt + xx + 32) / 32 : Nat) : Int) := by
      have := iSr_d (x := (tt : Int) + 1 + (xx : Int) + 31) ⟨by omega, by omega⟩ 5 (by decide)
      rw [show ((5 : Nat) : Int) = 5 from rfl] at this
      rw [this]; omega
    rw [hsk, hpart, hns]
    generalize hskd : xx / 32 = sk
    generalize hpd : xx % 32 = p
    generalize hNd : (tt + xx + 32) / 32 = N
    have hp32 : p < 32 := by omega
    have hN : N ≤ 132 := by omega
    have hts : 32 * su ≤ tt ∧ tt < 32 * (su + 1) := by
      have h1 := hv.2.2.2 su rfl
      have h2 := hv.2.1
      rw [B_2] at h1 h2
      exact ⟨by have := pw_lt_of h1 t2; omega, pw_lt_of t1 h2⟩
    have hNs : sk + (su + 1) ≤ N + 1 ∧ sk ≤ N := by omega
    have hrg : ∀ i, i < su + 1 → rg ((h (a + 1)).2.2 i) := fun i hi => ty.2.2.2.2.2 i (by omega)
    let GG : Nat → Int := fun i => iO (iSl (rd (h (a + 1)).2.2 (su + 1) ((i : Int) - sk)) p) (iSu (iSu (rd (h (a + 1)).2.2 (su + 1) ((i : Int) - sk - 1)) 1) (31 - (p : Int)))
    have hGG : ∀ i : Nat, GG i % 4294967296 = (rd (h (a + 1)).2.2 (su + 1) ((i : Int) - sk) % 4294967296 * 2 ^ p) % 4294967296 + (rd (h (a + 1)).2.2 (su + 1) ((i : Int) - sk - 1) % 4294967296) * 2 ^ p / 4294967296 := fun i => (sl_word hp32 (rg_rd hrg _)).1
    have hGr : ∀ i : Nat, rg (GG i) := fun i => (sl_word hp32 (rg_rd hrg _)).2
    suffices K : ∀ (u : Nat) (h1 : xH), u ≤ N → hE (sN a) h h1 → tyN n h1 a → (h1 a).2.2 1 = ((su + 1 : Nat) : Int) → (∀ j, j < u → (h1 (a + 1)).2.2 j = (h (a + 1)).2.2 j) → (∀ j, u ≤ j → j < N → (h1 (a + 1)).2.2 j = GG j) → (u = N ∨ True) → X1_shiftLeft_w52 G k a sk p N ((u : Int) - 1) n h1 by
      exact K N h (Nat.le_refl N) hE.rf ty q.2.1 (fun _ _ => rfl) (fun j h1 h2 => by omega) (Or.inr trivial)
    intro u
    induction u with
    | zero =>
      intro h1 hu he t1' hs hlo hhi _
      refine X1_shiftLeft_b52 C E a sk p N _ n h1 rfl ⟨⟨by omega, by omega⟩, fun g => ⟨t1'.ok, fun h2 e2 => hp h2 (he.tr (hE.put' e2 (Or.inl rfl))) ?_⟩, fun g => by omega⟩
      have hxp : (xx : Int).toNat = 32 * sk + p := by omega
      have key := nv_shl (f := (h (a + 1)).2.2) (s := su + 1) (sk := sk) hp32 hGG N
      have hval : v * 2 ^ (xx : Int).toNat < 4294967296 ^ N := by
        rw [B_2]
        have h3 : v * 2 ^ (xx : Int).toNat < 2 ^ (tt + 1) * 2 ^ (xx : Int).toNat := Int.mul_lt_mul_of_pos_right t2 (pw_pos _)
        rw [← Int.pow_add] at h3
        have h4 := pw_mono (show tt + 1 + (xx : Int).toNat ≤ 32 * N by omega)
        omega
      have hvv : 2 ^ p * nv (fun i => rd (h (a + 1)).2.2 (su + 1) ((i : Int) - sk)) N + 0 = v * 2 ^ (xx : Int).toNat - 2 ^ p * (if N < sk + (su + 1) then 4294967296 ^ sk * ((h (a + 1)).2.2 su % 4294967296 * 4294967296 ^ su) else 0) := by
        rw [hxp, Int.pow_add, ← B_2]
        by_cases hc : N < sk + (su + 1)
        · rw [if_pos hc, show N = sk + su by omega, nv_rd, nv_pd_le (by omega)]
          have : v = nv (h (a + 1)).2.2 su + (h (a + 1)).2.2 su % 4294967296 * 4294967296 ^ su := q.2.2.1.symm
          rw [this]
          generalize (4294967296 : Int) ^ sk = P1
          generalize (4294967296 : Int) ^ su = P2
          generalize (2 : Int) ^ p = D
          grind
        · rw [if_neg hc, show N = sk + (N - sk) by omega, nv_rd, nv_pd (by omega), q.2.2.1]
          generalize (4294967296 : Int) ^ sk = P1
          generalize (2 : Int) ^ p = D
          grind
      have hge : ¬ N < sk + (su + 1) := by
        intro hc
        have h5 : N = sk + su := by omega
        have h6 : 2 ^ (tt + xx) < (2 : Int) ^ (32 * N) := by
          rw [← B_2]
          have : (2 : Int) ^ (tt + xx) ≤ v * 2 ^ (xx : Int).toNat := by
            rw [Int.pow_add, Int.toNat_natCast]
            exact Int.mul_le_mul_of_nonneg_right t1 (Int.le_of_lt (pw_pos _))
          omega
        have h7 := pw_lt_of (c := 2 ^ (tt + xx)) (Int.le_refl _) h6
        omega
      rw [if_neg hge] at hvv
      rw [Int.mul_zero, Int.sub_zero, Int.add_zero] at hvv
      rw [hvv] at key
      have hi0 : 0 ≤ (rd (h (a + 1)).2.2 (su + 1) ((N : Int) - 1 - sk) % 4294967296) * 2 ^ p / 4294967296 := Int.ediv_nonneg (Int.mul_nonneg (Int.emod_nonneg _ (by decide)) (Int.le_of_lt (pw_pos p))) (by decide)
      have nb := nv_bd GG N
      have hiz : (rd (h (a + 1)).2.2 (su + 1) ((N : Int) - 1 - sk) % 4294967296) * 2 ^ p / 4294967296 = 0 := by
        rcases Int.lt_or_le 0 ((rd (h (a + 1)).2.2 (su + 1) ((N : Int) - 1 - sk) % 4294967296) * 2 ^ p / 4294967296) with g2 | g2
        · have := Int.mul_le_mul_of_nonneg_right (show 1 ≤ (rd (h (a + 1)).2.2 (su + 1) ((N : Int) - 1 - sk) % 4294967296) * 2 ^ p / 4294967296 by omega) (Int.le_of_lt (B_pos N))
          omega
        · omega
      rw [hiz, Int.zero_mul, Int.add_zero] at key
      subst e2
      refine ⟨t1'.size, N, isS_of hN (by rw [hS_g, if_pos ⟨rfl, rfl⟩]) ?_ (fun w e => ?_)⟩
      · rw [hS_ne _ _ _ (by omega), ← key]
        exact nv_congr (fun j hj => by rw [hhi j (by omega) hj])
      · have h8 : (2 : Int) ^ (tt + xx) ≤ v * 2 ^ (xx : Int).toNat := by
          rw [Int.pow_add, Int.toNat_natCast]
          exact Int.mul_le_mul_of_nonneg_right t1 (Int.le_of_lt (pw_pos _))
        have h9 := pw_mono (show 32 * w ≤ tt + xx by omega)
        rw [B_2]
        omega
    | succ u ih =>
      intro h1 hu he t1' hs hlo hhi _
      have hu1 : (((u + 1 : Nat) : Int) - 1) = (u : Int) := by omega
      rw [hu1]
      refine X1_shiftLeft_b52 C E a sk p N _ n h1 rfl ⟨rg_nat (by omega), fun g => by omega, fun g => ⟨t1'.ok, sp_wordAt t1' hs hs2 ⟨by omega, by omega⟩ ⟨t1'.ok, t1'.w0, t1'.ok, sp_wordAt t1' hs hs2 ⟨by omega, by omega⟩ ⟨t1'.at' (by omega) (by omega), fun h2 e2 => ?_⟩⟩⟩⟩
      rw [t1'.w, Int.toNat_natCast] at e2
      have hrd : ∀ z : Int, z < (u : Int) + 1 → (if 0 ≤ z ∧ z < ((su + 1 : Nat) : Int) then (h1 (a + 1)).2.2 z.toNat else 0) = rd (h (a + 1)).2.2 (su + 1) z := by
        intro z hz
        unfold rd
        by_cases gz : 0 ≤ z ∧ z < ((su + 1 : Nat) : Int)
        · rw [if_pos gz, if_pos gz, hlo z.toNat (by omega)]
        · rw [if_neg gz, if_neg gz]
      rw [hrd _ (by omega), hrd _ (by omega)] at e2
      have e3 : h2 = hS h1 (a + 1) u (GG u) := e2
      have := ih h2 (by omega) (he.tr (hE.put' e3 (Or.inr rfl))) (by rw [e3]; exact t1'.put (hGr u)) (by rw [e3, hS_g, if_neg (by omega)]; exact hs) (fun j hj => by rw [e3, hS_g, if_neg (by omega)]; exact hlo j (by omega)) (fun j h3 h4 => by
        rw [e3, hS_g]
        by_cases hju : j = u
        · rw [if_pos ⟨rfl, hju⟩, hju]
        · rw [if_neg (fun z => hju z.2)]; exact hhi j (by omega) h4) (Or.inr trivial)
      rwa [show (u : Int) + -1 = (u : Int) - 1 by omega]
