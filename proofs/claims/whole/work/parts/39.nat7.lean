/-! NATURALS: shiftRight, division by a small number -/
theorem sr_word {x y : Int} {p : Nat} (hp : p < 32) : iO (iSu x p) (iSl (iSl y 1) (31 - (p : Int))) % 4294967296 = (x % 4294967296) / 2 ^ p + (y % 4294967296 % 2 ^ p) * 2 ^ (32 - p) ∧ rg (iO (iSu x p) (iSl (iSl y 1) (31 - (p : Int)))) := by
  refine ⟨?_, rg_toInt _⟩
  have b0 := Int.emod_nonneg x (show (4294967296 : Int) ≠ 0 by decide)
  have b1 := Int.emod_lt_of_pos x (show (0 : Int) < 4294967296 by decide)
  have hpp := pw_pos p
  have hq := pw_pos (32 - p)
  have e32 : (4294967296 : Int) = 2 ^ p * 2 ^ (32 - p) := by rw [← Int.pow_add, show p + (32 - p) = 32 by omega]; rfl
  have c0 : 0 ≤ x % 4294967296 / 2 ^ p := Int.ediv_nonneg b0 (by omega)
  have c1 : x % 4294967296 / 2 ^ p < 2 ^ (32 - p) := Int.ediv_lt_of_lt_mul hpp (by rw [Int.mul_comm, ← e32]; exact b1)
  have c2 := pw_mono (show 32 - p ≤ 32 by omega)
  have e1 : iSu x p % 4294967296 = x % 4294967296 / 2 ^ p := by
    rw [iSu_w x p hp, w32_emod]
    omega
  have e2 : iSl (iSl y 1) (31 - (p : Int)) % 4294967296 = (y * 2 ^ (32 - p)) % 4294967296 := by
    have h1 := iSl_w y 1 (by decide)
    rw [show ((1 : Nat) : Int) = 1 from rfl] at h1
    rw [show (31 : Int) - (p : Int) = ((31 - p : Nat) : Int) by omega, iSl_w _ _ (by omega), w32_emod, h1, Int.mul_emod, w32_emod, ← Int.mul_emod, Int.mul_assoc, Int.pow_one]
    congr 2
    rw [show 32 - p = (31 - p) + 1 by omega, Int.pow_succ, Int.mul_comm]
  have e3 : (y * 2 ^ (32 - p)) % 4294967296 = (y % 2 ^ p) * 2 ^ (32 - p) := by
    rw [e32, Int.mul_comm y, Int.mul_comm (2 ^ p), Int.mul_emod_mul_of_pos _ _ hq, Int.mul_comm]
  have e4 : y % 4294967296 % 2 ^ p = y % 2 ^ p := Int.emod_emod_of_dvd _ ⟨2 ^ (32 - p), e32⟩
  have d0 := Int.emod_nonneg y (show (2 : Int) ^ p ≠ 0 by omega)
  have d1 := Int.emod_lt_of_pos y hpp
  have comm : iO (iSu x p) (iSl (iSl y 1) (31 - (p : Int))) = iO (iSl (iSl y 1) (31 - (p : Int))) (iSu x p) := by
    unfold iO
    rw [Int32.or_comm]
  rw [comm, iO_add (s := 32 - p) (y % 2 ^ p).toNat (by rw [e2, e3, Int.natCast_mul, Int.natCast_pow, Int.toNat_of_nonneg d0]; rfl) (by rw [e1]; exact c0) (by rw [e1, Int.natCast_pow]; exact c1), w32_emod, Int.add_emod, e1, e2, e3, e4]
  have d2 : y % 2 ^ p * 2 ^ (32 - p) ≤ 4294967296 - 2 ^ (32 - p) := by
    have := Int.mul_le_mul_of_nonneg_right (show y % 2 ^ p + 1 ≤ 2 ^ p by omega) (Int.le_of_lt hq)
    rw [Int.add_mul, ← e32] at this
    omega
  have d3 : 0 ≤ y % 2 ^ p * 2 ^ (32 - p) := Int.mul_nonneg d0 (Int.le_of_lt hq)
  omega
theorem nv_shr {f g : Nat → Int} {p : Nat} (hp : p < 32) (hg : ∀ i : Nat, g i % 4294967296 = (f i % 4294967296) / 2 ^ p + (f (i + 1) % 4294967296 % 2 ^ p) * 2 ^ (32 - p)) : ∀ N : Nat, 2 ^ p * nv g N + f 0 % 4294967296 % 2 ^ p = nv f N + f N % 4294967296 % 2 ^ p * 4294967296 ^ N := by
  intro N
  induction N with
  | zero => show 2 ^ p * 0 + _ = 0 + _ * 1; omega
  | succ N ih =>
    show 2 ^ p * (nv g N + g N % 4294967296 * 4294967296 ^ N) + _ = (nv f N + f N % 4294967296 * 4294967296 ^ N) + f (N + 1) % 4294967296 % 2 ^ p * 4294967296 ^ (N + 1)
    rw [hg N, B_succ]
    have e32 : (4294967296 : Int) = 2 ^ p * 2 ^ (32 - p) := by rw [← Int.pow_add, show p + (32 - p) = 32 by omega]; rfl
    have e6 := Int.emod_add_ediv_mul (f N % 4294967296) (2 ^ p)
    generalize f (N + 1) % 4294967296 % 2 ^ p = lo1
    generalize f N % 4294967296 = w at ih e6 ⊢
    generalize f 0 % 4294967296 % 2 ^ p = l0 at ih ⊢
    generalize w % 2 ^ p = lo at ih e6 ⊢
    generalize w / 2 ^ p = hi at e6 ⊢
    generalize nv f N = V at ih ⊢
    generalize nv g N = A at ih ⊢
    generalize (4294967296 : Int) ^ N = P at ih ⊢
    generalize hD : (2 : Int) ^ p = D at ih e6 e32 ⊢
    generalize hR : (2 : Int) ^ (32 - p) = R at e32 ⊢
    rw [e32]
    grind
theorem sp_shr {G : xG} {l : Launch} {n : Nat} {h : xH} {a : Nat} {v : Int} {x : Int} {Po : xH → Prop} (t : isN n h a v) (hx : rg x) (hp : ∀ h', hE (sN a) h h' → isN n h' a (v / 2 ^ x.toNat) → Po h') : S_X1_shiftRight G l a x n h Po := by
  refine S_X1_shiftRight_of (fun k hl C E => ?_)
  have t0 := t
  obtain ⟨ty, s, q⟩ := t
  have hv := q.val
  have hs2 := q.1
  have hsz : hG h a 1 = (s : Int) := q.2.1
  have hx1 := hx.1
  have hx2 := hx.2
  refine X1_shiftRight_b0 C E a x n h rfl ⟨hx, fun c => ⟨ty.ok, ?_⟩, fun c => hp h hE.rf ?_⟩
  · obtain ⟨xx, rfl⟩ := ex_nat (show 0 ≤ x by omega)
    have hsk : iSr (xx : Int) 5 = ((xx / 32 : Nat) : Int) := by
      have := iSr_d (x := (xx : Int)) hx 5 (by decide)
      rw [show ((5 : Nat) : Int) = 5 from rfl] at this
      rw [this]; omega
    have hpart : iA (xx : Int) 31 = ((xx % 32 : Nat) : Int) := by
      have := iA_mask (xx : Int) 5 (by decide)
      rw [show ((2 : Int) ^ 5 - 1) = 31 from rfl] at this
      rw [this]; omega
    rw [hsk, hpart, hsz]
    generalize hskd : xx / 32 = sk
    generalize hpd : xx % 32 = p
    have hp32 : p < 32 := by omega
    refine sp_max ⟨by omega, by omega⟩ rg0 ?_
    rw [show max ((s : Int) - (sk : Int)) 0 = ((s - sk : Nat) : Int) by omega]
    generalize hN : s - sk = N
    have hrg : ∀ i, i < s → rg ((h (a + 1)).2.2 i) := fun i hi => ty.2.2.2.2.2 i (by omega)
    let FF : Nat → Int := fun i => rd (h (a + 1)).2.2 s ((i : Int) + sk)
    let GG : Nat → Int := fun i => iO (iSu (rd (h (a + 1)).2.2 s ((i : Int) + sk)) p) (iSl (iSl (rd (h (a + 1)).2.2 s ((i : Int) + sk + 1)) 1) (31 - (p : Int)))
    have hGG : ∀ i : Nat, GG i % 4294967296 = (FF i % 4294967296) / 2 ^ p + (FF (i + 1) % 4294967296 % 2 ^ p) * 2 ^ (32 - p) := fun i => by
      have := (sr_word (x := rd (h (a + 1)).2.2 s ((i : Int) + sk)) (y := rd (h (a + 1)).2.2 s ((i : Int) + sk + 1)) hp32).1
      show _ = (FF i % 4294967296) / 2 ^ p + (rd (h (a + 1)).2.2 s (((i + 1 : Nat) : Int) + sk) % 4294967296 % 2 ^ p) * 2 ^ (32 - p)
      rw [show (((i + 1 : Nat) : Int) + sk) = (i : Int) + sk + 1 by omega]
      exact this
    have hGr : ∀ i : Nat, rg (GG i) := fun i => (sr_word hp32).2
    have key := nv_shr hp32 hGG N
    have hFN : FF N = 0 := if_neg (by omega)
    rw [hFN] at key
    have hFv : nv FF N = v / 4294967296 ^ sk := by
      rcases Nat.lt_or_ge sk s with g | g
      · have e1 : v = nv (h (a + 1)).2.2 sk + 4294967296 ^ sk * nv (fun j => (h (a + 1)).2.2 (sk + j)) N := by rw [← q.2.2.1, ← nv_split]; congr 1; omega
        have e2 : nv FF N = nv (fun j => (h (a + 1)).2.2 (sk + j)) N := nv_congr (fun j hj => by
          show rd (h (a + 1)).2.2 s ((j : Int) + sk) % _ = _
          unfold rd
          rw [if_pos ⟨by omega, by omega⟩, show ((j : Int) + sk).toNat = sk + j by omega])
        have nb := nv_bd (h (a + 1)).2.2 sk
        rw [e2, e1, Int.add_mul_ediv_left _ _ (by have := B_pos sk; omega), Int.ediv_eq_zero_of_lt nb.1 nb.2]
        omega
      · rw [show N = 0 by omega]
        have := B_mono g
        rw [Int.ediv_eq_zero_of_lt hv.1 (by omega)]
        rfl
    have hval : nv GG N = v / 2 ^ (xx : Int).toNat := by
      have hpp := pw_pos p
      have l0 := Int.emod_nonneg (FF 0 % 4294967296) (show (2 : Int) ^ p ≠ 0 by omega)
      have l1 := Int.emod_lt_of_pos (FF 0 % 4294967296) hpp
      rw [show (0 : Int) % 4294967296 % 2 ^ p = 0 by simp, Int.zero_mul, Int.add_zero, hFv] at key
      rw [show (xx : Int).toNat = 32 * sk + p by omega, Int.pow_add, ← B_2, ← Int.ediv_ediv_of_nonneg (Int.le_of_lt (B_pos sk)), ← key, Int.add_comm, Int.add_mul_ediv_left _ _ (by omega), Int.ediv_eq_zero_of_lt l0 l1]
      omega
    have w89 : ∀ h1, hE (sN a) h h1 → tyN n h1 a → (∀ j, j < N → (h1 (a + 1)).2.2 j = GG j) → X1_shiftRight_w89 G k a N n h1 := by
      intro h1 he t1 hw
      refine X1_shiftRight_b89 C E a N n h1 rfl ⟨t1.ok, fun h2 e2 => ?_⟩
      have t2 : tyN n h2 a := by rw [e2]; exact t1.size
      refine ⟨t2.ok, sp_trim N h2 t2 (by rw [e2, hS_g, if_pos ⟨rfl, rfl⟩]) (by omega) (fun h' e' z => hp h' ((he.tr (hE.put' e2 (Or.inl rfl))).tr (e'.mono (fun j hj => Or.inl hj))) ?_)⟩
      have e3 : nv (h2 (a + 1)).2.2 N = v / 2 ^ (xx : Int).toNat := by
        rw [← hval, e2, hS_ne _ _ _ (by omega)]
        exact nv_congr (fun j hj => by rw [hw j hj])
      rwa [e3] at z
    suffices K : ∀ (m i : Nat) (h1 : xH), i + m = N → hE (sN a) h h1 → tyN n h1 a → (h1 a).2.2 1 = (s : Int) → (∀ j, i ≤ j → (h1 (a + 1)).2.2 j = (h (a + 1)).2.2 j) → (∀ j, j < i → (h1 (a + 1)).2.2 j = GG j) → X1_shiftRight_w29 G k a sk p N i n h1 by
      exact K N 0 h (by omega) hE.rf ty q.2.1 (fun _ _ => rfl) (fun j hj => by omega)
    intro m
    induction m with
    | zero =>
      intro i h1 hi he t1 hs hhi hlo
      have : i = N := by omega
      subst this
      refine X1_shiftRight_b29 C E a sk p i i n h1 rfl ⟨⟨rg_nat (by omega), rg_nat (by omega)⟩, fun g => w89 h1 he t1 hlo, fun g => by omega⟩
    | succ m ih =>
      intro i h1 hi he t1 hs hhi hlo
      refine X1_shiftRight_b29 C E a sk p N i n h1 rfl ⟨⟨rg_nat (by omega), rg_nat (by omega)⟩, fun g => by omega, fun g => ⟨⟨rg_nat (by omega), rg132⟩, fun g2 => by omega, fun g2 => ⟨t1.ok, sp_wordAt t1 hs hs2 ⟨by omega, by omega⟩ ⟨t1.ok, t1.w0, t1.ok, sp_wordAt t1 hs hs2 ⟨by omega, by omega⟩ ⟨t1.at' (by omega) (by omega), fun h2 e2 => ?_⟩⟩⟩⟩⟩
      rw [t1.w, Int.toNat_natCast] at e2
      have hrd : ∀ z : Int, (i : Int) ≤ z → (if 0 ≤ z ∧ z < (s : Int) then (h1 (a + 1)).2.2 z.toNat else 0) = rd (h (a + 1)).2.2 s z := by
        intro z hz
        unfold rd
        by_cases gz : 0 ≤ z ∧ z < (s : Int)
        · rw [if_pos gz, if_pos gz, hhi z.toNat (by omega)]
        · rw [if_neg gz, if_neg gz]
      rw [hrd _ (by omega), hrd _ (by omega)] at e2
      have e3 : h2 = hS h1 (a + 1) i (GG i) := e2
      refine ih (i + 1) h2 (by omega) (he.tr (hE.put' e3 (Or.inr rfl))) (by rw [e3]; exact t1.put (hGr i)) (by rw [e3, hS_g, if_neg (by omega)]; exact hs) (fun j hj => by rw [e3, hS_g, if_neg (by omega)]; exact hhi j (by omega)) (fun j hj => ?_)
      rw [e3, hS_g]
      by_cases hji : j = i
      · rw [if_pos ⟨rfl, hji⟩, hji]
      · rw [if_neg (fun z => hji z.2)]; exact hlo j (by omega)
  · rw [show x.toNat = 0 by omega]
    rwa [show v / 2 ^ 0 = v by simp]
/-- the value of the words from i on -/
theorem nv_step {f : Nat → Int} {i s : Nat} (h : i < s) : nv (fun j => f (i + j)) (s - i) = f i % 4294967296 + 4294967296 * nv (fun j => f (i + 1 + j)) (s - (i + 1)) := by
  have e := nv_split (fun j => f (i + j)) 1 (s - (i + 1))
  rw [show 1 + (s - (i + 1)) = s - i by omega] at e
  rw [e]
  show (0 + f (i + 0) % 4294967296 * 1) + 4294967296 ^ 1 * nv (fun j => f (i + (1 + j))) (s - (i + 1)) = _
  rw [show i + 0 = i from rfl, show (fun j => f (i + (1 + j))) = fun j => f (i + 1 + j) from funext fun j => by rw [Nat.add_assoc]]
  omega
theorem up_word {r w : Int} (h0 : 0 ≤ r) (h1 : r ≤ 2147483647) : lO (lSl r 32) (lA w 4294967295) = r * 4294967296 + w % 4294967296 := by
  have b0 := Int.emod_nonneg w (show (4294967296 : Int) ≠ 0 by decide)
  have b1 := Int.emod_lt_of_pos w (show (0 : Int) < 4294967296 by decide)
  have e1 : lSl r 32 = r * 4294967296 := by
    have := lSl_w r 32 (by decide)
    rw [show ((32 : Nat) : Int) = 32 from rfl] at this
    rw [this, show (2 : Int) ^ 32 = 4294967296 from rfl]
    exact w64_id ⟨by omega, by omega⟩
  rw [e1, lA_low, lO_add (s := 32) r.toNat (by rw [Int.natCast_mul, Int.toNat_of_nonneg h0]; show _ = r * 4294967296; omega) (by omega) (by show _ < (4294967296 : Int); omega)]
  exact w64_id ⟨by omega, by omega⟩
theorem sp_remainder {G : xG} {l : Launch} {n : Nat} {h : xH} {a : Nat} {v d : Int} {Po : Int → xH → Prop} (t : isN n h a v) (hd0 : 0 < d) (hd1 : d ≤ 2147483647) (hp : Po (v % d) h) : S_X1_remainder G l a d n h Po := by
  refine S_X1_remainder_of (fun k hl C E => ?_)
  obtain ⟨ty, s, q⟩ := t
  have hv := q.val
  have hs2 := q.1
  have hsz : hG h a 1 = (s : Int) := q.2.1
  have hrd : rg d := ⟨by omega, hd1⟩
  refine X1_remainder_b0 C E a d n h rfl ⟨hrd, fun _ => ⟨ty.ok, ?_⟩, fun c => by omega⟩
  rw [hsz]
  suffices K : ∀ (m : Nat), m ≤ s → X1_remainder_w16 G k a d (nv (fun j => (h (a + 1)).2.2 (m + j)) (s - m) % d) ((m : Int) - 1) n h by
    have := K s (Nat.le_refl s)
    rw [Nat.sub_self] at this
    exact this
  intro m
  induction m with
  | zero =>
    intro hm
    refine X1_remainder_b16 C E a d _ _ n h rfl ⟨⟨by omega, by omega⟩, fun c => ?_, fun c => by omega⟩
    have e : nv (fun j => (h (a + 1)).2.2 (0 + j)) (s - 0) = v := by
      rw [← q.2.2.1, Nat.sub_zero]
      exact nv_congr (fun j _ => by rw [Nat.zero_add])
    have b0 := Int.emod_nonneg v (show d ≠ 0 by omega)
    have b1 := Int.emod_lt_of_pos v hd0
    rw [e, w32_id ⟨by omega, by omega⟩]
    exact hp
  | succ m ih =>
    intro hm
    have r0 := Int.emod_nonneg (nv (fun j => (h (a + 1)).2.2 (m + 1 + j)) (s - (m + 1))) (show d ≠ 0 by omega)
    have r1 := Int.emod_lt_of_pos (nv (fun j => (h (a + 1)).2.2 (m + 1 + j)) (s - (m + 1))) hd0
    refine X1_remainder_b16 C E a d _ _ n h rfl ⟨⟨by omega, by omega⟩, fun c => by omega, fun c => ⟨ty.ok, sp_wordAt ty q.2.1 hs2 ⟨by omega, by omega⟩ ?_⟩⟩
    rw [if_pos ⟨by omega, by omega⟩, show (((m + 1 : Nat) : Int) - 1).toNat = m by omega, up_word r0 (by omega)]
    have b0 := Int.emod_nonneg ((h (a + 1)).2.2 m) (show (4294967296 : Int) ≠ 0 by decide)
    have b1 := Int.emod_lt_of_pos ((h (a + 1)).2.2 m) (show (0 : Int) < 4294967296 by decide)
    refine ⟨ty.2.2.2.2.2 m (by omega), hrd, ⟨⟨by omega, by omega⟩, ⟨by omega, by omega⟩, by omega⟩, ?_⟩
    have := ih (by omega)
    rw [nv_step (show m < s by omega)] at this
    rw [Int.tmod_eq_emod_of_nonneg (by omega), show ((m + 1 : Nat) : Int) - 1 + -1 = (m : Int) - 1 by omega]
    have e : (nv (fun j => (h (a + 1)).2.2 (m + 1 + j)) (s - (m + 1)) % d * 4294967296 + (h (a + 1)).2.2 m % 4294967296) % d = ((h (a + 1)).2.2 m % 4294967296 + 4294967296 * nv (fun j => (h (a + 1)).2.2 (m + 1 + j)) (s - (m + 1))) % d := by
      rw [Int.add_emod, Int.mul_emod, Int.emod_emod_of_dvd _ (Int.dvd_refl _), ← Int.mul_emod, ← Int.add_emod, Int.add_comm, Int.mul_comm]
    rw [e]
    exact this
theorem sp_divSmall {G : xG} {l : Launch} {n : Nat} {h : xH} {a : Nat} {v d : Int} {Po : Int → xH → Prop} (t : isN n h a v) (hd0 : 0 < d) (hd1 : d ≤ 2147483647) (hp : ∀ h', hE (sN a) h h' → isN n h' a (v / d) → Po (v % d) h') : S_X1_divideBySmall G l a d n h Po := by
  refine S_X1_divideBySmall_of (fun k hl C E => ?_)
  obtain ⟨ty, s, q⟩ := t
  have hv := q.val
  have hs2 := q.1
  have hsz : hG h a 1 = (s : Int) := q.2.1
  have hrd : rg d := ⟨by omega, hd1⟩
  refine X1_divideBySmall_b0 C E a d n h rfl ⟨hrd, fun _ => ⟨ty.ok, ?_⟩, fun c => by omega⟩
  rw [hsz]
  refine sp_min (rg_nat (by omega)) rg132 ?_
  rw [show min (s : Int) 132 = (s : Int) by omega]
  suffices K : ∀ (m : Nat) (r : Int) (h1 : xH), m ≤ s → hE (sN a) h h1 → tyN n h1 a → (h1 a).2.2 1 = (s : Int) → (∀ j, j < m → (h1 (a + 1)).2.2 j = (h (a + 1)).2.2 j) → 0 ≤ r → r < d → nv (fun j => (h (a + 1)).2.2 (m + j)) (s - m) = nv (fun j => (h1 (a + 1)).2.2 (m + j)) (s - m) * d + r → X1_divideBySmall_w22 G k a d r ((m : Int) - 1) n h1 by
    refine K s 0 h (Nat.le_refl s) hE.rf ty q.2.1 (fun _ _ => rfl) (by omega) hd0 ?_
    rw [Nat.sub_self]
    show (0 : Int) = 0 * d + 0
    omega
  intro m
  induction m with
  | zero =>
    intro r h1 hm he t1 hs hlo r0 r1 hv1
    refine X1_divideBySmall_b22 C E a d r _ n h1 rfl ⟨⟨by omega, by omega⟩, fun c => ⟨t1.ok, sp_trim s h1 t1 hs hs2 (fun h' e' z => ?_)⟩, fun c => by omega⟩
    have e0 : ∀ f : Nat → Int, nv (fun j => f (0 + j)) (s - 0) = nv f s := fun f => nv_congr (fun j _ => by rw [Nat.zero_add])
    rw [e0, e0, q.2.2.1] at hv1
    have em : v % d = r := by rw [hv1, Int.add_comm, Int.add_mul_emod_self_right, Int.emod_eq_of_lt r0 r1]
    have eq : v / d = nv (h1 (a + 1)).2.2 s := by rw [hv1, Int.add_comm, Int.add_mul_ediv_right _ _ (by omega), Int.ediv_eq_zero_of_lt r0 r1, Int.zero_add]
    have := hp h' (he.tr (e'.mono (fun j hj => Or.inl hj))) (by rw [eq]; exact z)
    rw [em] at this
    rwa [w32_id ⟨by omega, by omega⟩]
  | succ m ih =>
    intro r h1 hm he t1 hs hlo r0 r1 hv1
    have hu1 : (((m + 1 : Nat) : Int) - 1) = (m : Int) := by omega
    rw [hu1]
    refine X1_divideBySmall_b22 C E a d r _ n h1 rfl ⟨rg_nat (by omega), fun c => by omega, fun c => ⟨t1.ok, t1.w0, t1.at' (by omega) (by omega), by rw [t1.w, Int.toNat_natCast]; exact t1.2.2.2.2.2 m (by omega), fun y ey => ?_⟩⟩
    rw [t1.w, Int.toNat_natCast, show hG h1 (a + 1) m = (h (a + 1)).2.2 m from hlo m (by omega), up_word r0 (by omega)] at ey
    have b0 := Int.emod_nonneg ((h (a + 1)).2.2 m) (show (4294967296 : Int) ≠ 0 by decide)
    have b1 := Int.emod_lt_of_pos ((h (a + 1)).2.2 m) (show (0 : Int) < 4294967296 by decide)
    have hry : rgL y := ⟨by omega, by omega⟩
    have hrL : rgL d := ⟨by omega, by omega⟩
    refine ⟨t1.ok, t1.w0, hrd, ⟨hry, hrL, by omega⟩, t1.at' (by omega) (by omega), fun h2 e2 => ⟨hrd, ⟨hry, hrL, by omega⟩, ?_⟩⟩
    rw [t1.w, Int.toNat_natCast, Int.tdiv_eq_ediv_of_nonneg (by omega)] at e2
    rw [Int.tmod_eq_emod_of_nonneg (by omega), show (m : Int) + -1 = (m : Int) - 1 by omega]
    have q0 : 0 ≤ y / d := Int.ediv_nonneg (by omega) (by omega)
    have q1 : y / d < 4294967296 := Int.ediv_lt_of_lt_mul hd0 (by
      have := Int.mul_le_mul_of_nonneg_right (show r + 1 ≤ d by omega) (show (0 : Int) ≤ 4294967296 by decide)
      rw [Int.mul_comm d] at this
      omega)
    refine ih (y % d) h2 (by omega) (he.tr (hE.put' e2 (Or.inr rfl))) (by rw [e2]; exact t1.put (rg_w32 _)) (by rw [e2, hS_g, if_neg (by omega)]; exact hs) (fun j hj => by rw [e2, hS_g, if_neg (by omega)]; exact hlo j (by omega)) (Int.emod_nonneg _ (by omega)) (Int.emod_lt_of_pos _ hd0) ?_
    rw [nv_step (show m < s by omega), nv_step (f := (h2 (a + 1)).2.2) (show m < s by omega)]
    have e3 : (h2 (a + 1)).2.2 m % 4294967296 = y / d := by rw [e2, hS_g, if_pos ⟨rfl, rfl⟩, w32_emod]; omega
    have e4 : nv (fun j => (h2 (a + 1)).2.2 (m + 1 + j)) (s - (m + 1)) = nv (fun j => (h1 (a + 1)).2.2 (m + 1 + j)) (s - (m + 1)) := nv_congr (fun j _ => by
      show (h2 (a + 1)).2.2 (m + 1 + j) % _ = _
      rw [e2, hS_g, if_neg (by omega)])
    rw [e3, e4, hv1]
    have e6 := Int.emod_add_ediv_mul y d
    generalize nv (fun j => (h1 (a + 1)).2.2 (m + 1 + j)) (s - (m + 1)) = Q
    generalize (h (a + 1)).2.2 m % 4294967296 = w at ey
    generalize y / d = yq at e6
    generalize y % d = yr at e6
    grind
