/-! THE JDK's METHODS -/
theorem sp_max {G : xG} {l : Launch} {n : Nat} {h : xH} {x y : Int} {Po : Int → xH → Prop} (hx : rg x) (hy : rg y) (hp : Po (max x y) h) : S_J9_max_7cf53 G l x y n h Po := by
  refine S_J9_max_7cf53_of (fun k hl C E => J9_max_7cf53_b0 C E x y n h rfl ⟨⟨hx, hy⟩, fun c => J9_max_7cf53_b10 C E _ n h rfl ?_, fun c => J9_max_7cf53_b10 C E _ n h rfl ?_⟩)
  · rwa [show max x y = y by omega] at hp
  · rwa [show max x y = x by omega] at hp
theorem sp_min {G : xG} {l : Launch} {n : Nat} {h : xH} {x y : Int} {Po : Int → xH → Prop} (hx : rg x) (hy : rg y) (hp : Po (min x y) h) : S_J9_min_7cf53 G l x y n h Po := by
  refine S_J9_min_7cf53_of (fun k hl C E => J9_min_7cf53_b0 C E x y n h rfl ⟨⟨hx, hy⟩, fun c => J9_min_7cf53_b10 C E _ n h rfl ?_, fun c => J9_min_7cf53_b10 C E _ n h rfl ?_⟩)
  · rwa [show min x y = y by omega] at hp
  · rwa [show min x y = x by omega] at hp
theorem sp_abs {G : xG} {l : Launch} {n : Nat} {h : xH} {x : Int} {Po : Int → xH → Prop} (hx : rg x) (hp : Po (if 0 ≤ x then x else -x) h) : S_J9_abs_0f7a4 G l x n h Po := by
  refine S_J9_abs_0f7a4_of (fun k hl C E => J9_abs_0f7a4_b0 C E x n h rfl ⟨hx, fun c => J9_abs_0f7a4_b10 C E _ n h rfl ?_, fun c => J9_abs_0f7a4_b10 C E _ n h rfl ?_⟩)
  · rwa [if_pos c] at hp
  · rwa [if_neg c] at hp
/-- the order of two numbers, as compare answers it -/
def ord (x y : Int) : Int := if x < y then -1 else if x = y then 0 else 1
theorem rg_ord (x y : Int) : rg (ord x y) := by unfold ord; split <;> (try split) <;> constructor <;> omega
theorem sp_cmp {G : xG} {l : Launch} {n : Nat} {h : xH} {x y : Int} {Po : Int → xH → Prop} (hx : rg x) (hy : rg y) (hp : Po (ord x y) h) : S_J6_compare_7cf53 G l x y n h Po := by
  refine S_J6_compare_7cf53_of (fun k hl C E => J6_compare_7cf53_b0 C E x y n h rfl ⟨⟨hx, hy⟩, fun c => ⟨⟨hx, hy⟩, fun c2 => J6_compare_7cf53_b19 C E _ n h rfl ?_, fun c2 => J6_compare_7cf53_b19 C E _ n h rfl ?_⟩, fun c => J6_compare_7cf53_b19 C E _ n h rfl ?_⟩)
  · unfold ord at hp; rwa [if_neg (by omega), if_neg c2] at hp
  · unfold ord at hp; rwa [if_neg (by omega), if_pos c2] at hp
  · unfold ord at hp; rwa [if_pos (by omega)] at hp
theorem w32_flip (x : Int) : w32 (x + (-2147483648)) = x % 4294967296 - 2147483648 := by
  have h0 := Int.emod_nonneg x (show (4294967296 : Int) ≠ 0 by decide)
  have h1 := Int.emod_lt_of_pos x (show (0 : Int) < 4294967296 by decide)
  rw [← w32_id (x := x % 4294967296 - 2147483648) ⟨by omega, by omega⟩]
  exact w32_congr (by omega)
theorem sp_cmpU {G : xG} {l : Launch} {n : Nat} {h : xH} {x y : Int} {Po : Int → xH → Prop} (hp : Po (ord (x % 4294967296) (y % 4294967296)) h) : S_J6_compareUnsigned_7cf53 G l x y n h Po := by
  refine S_J6_compareUnsigned_7cf53_of (fun k hl C E => J6_compareUnsigned_7cf53_b0 C E x y n h rfl ?_)
  refine sp_cmp (rg_w32 _) (rg_w32 _) ?_
  rw [w32_flip, w32_flip]
  have e : ord (x % 4294967296 - 2147483648) (y % 4294967296 - 2147483648) = ord (x % 4294967296) (y % 4294967296) := by
    unfold ord
    split <;> split <;> (try split) <;> (try split) <;> omega
  rwa [e]
theorem pw_mono {a b : Nat} (h : a ≤ b) : (2 : Int) ^ a ≤ 2 ^ b := by
  have : (2 : Nat) ^ a ≤ 2 ^ b := Nat.pow_le_pow_right (by decide) h
  exact_mod_cast this
theorem pw_pos (a : Nat) : (0 : Int) < 2 ^ a := Int.pow_pos (by decide)
theorem pw_lt_of {a b : Nat} {c : Int} (h1 : 2 ^ a ≤ c) (h2 : c < 2 ^ b) : a < b := by
  rcases Nat.lt_or_ge a b with h | h
  · exact h
  · have := pw_mono h; omega
theorem pw_div {c : Int} {t k : Nat} (h0 : 2 ^ t ≤ c) (h1 : c < 2 ^ (t + 1)) (hk : k ≤ t) : 2 ^ (t - k) ≤ c / 2 ^ k ∧ c / 2 ^ k < 2 ^ (t - k + 1) := by
  have e1 : (2 : Int) ^ (t - k) * 2 ^ k = 2 ^ t := by rw [← Int.pow_add, Nat.sub_add_cancel hk]
  have e2 : (2 : Int) ^ (t - k + 1) * 2 ^ k = 2 ^ (t + 1) := by rw [← Int.pow_add]; congr 1; omega
  refine ⟨Int.le_ediv_of_mul_le (pw_pos k) (by rw [e1]; exact h0), Int.ediv_lt_of_lt_mul (pw_pos k) (by rw [e2]; exact h1)⟩
theorem iSu_d {x : Int} (h0 : 0 ≤ x) (h1 : x ≤ 2147483647) (s : Nat) (hs : s < 32) : iSu x s = x / 2 ^ s := by
  rw [iSu_w x s hs, Int.emod_eq_of_lt h0 (by omega)]
  have := Int.ediv_nonneg h0 (Int.le_of_lt (pw_pos s))
  have h3 : x / 2 ^ s ≤ x := by
    have := Int.ediv_le_self (2 ^ s) h0
    exact this
  exact w32_id ⟨by omega, by omega⟩
theorem sp_nlz {G : xG} {l : Launch} {n : Nat} {h : xH} {x : Int} {t : Nat} {Po : Int → xH → Prop} (hx : rg x) (h0 : 2 ^ t ≤ x % 4294967296) (h1 : x % 4294967296 < 2 ^ (t + 1)) (hp : Po (31 - (t : Int)) h) : S_J6_numberOfLeadingZeros_0f7a4 G l x n h Po := by
  refine S_J6_numberOfLeadingZeros_0f7a4_of (fun k hl C E => ?_)
  have hx1 := hx.1
  have hx2 := hx.2
  have w73 : ∀ (c m : Int) (u : Nat), 2 ^ u ≤ c → c < 2 ^ (u + 1) → u < 2 → Po (m - u) h → J6_numberOfLeadingZeros_0f7a4_w73 G k c m n h := by
    intro c m u a1 a2 a3 q
    refine J6_numberOfLeadingZeros_0f7a4_b73 C E c m n h rfl ?_
    have hc : c < 4 := by have := pw_mono (show u + 1 ≤ 2 by omega); omega
    have hc0 : 0 < c := by have := pw_pos u; omega
    have e : iSu c 1 = c / 2 := by
      have := iSu_d (x := c) (by omega) (by omega) 1 (by decide)
      rw [show ((1 : Nat) : Int) = 1 from rfl] at this
      rw [this]; rfl
    rw [e]
    match u, a1, a2, a3, q with
    | 0, a1, a2, _, q => rwa [show c / 2 = ((0 : Nat) : Int) by omega]
    | 1, a1, a2, _, q => rwa [show c / 2 = ((1 : Nat) : Int) by omega]
  have stage : ∀ (c m : Int) (u b j : Nat), 2 ^ u ≤ c → c < 2 ^ (u + 1) → u < b → b < 32 → (c < 2 ^ j ∨ ¬ c < 2 ^ j) → j ≤ b → b ≤ 2 * j → (c < 2 ^ j → u < j) ∧ (¬ c < 2 ^ j → j ≤ u ∧ iSu c j = c / 2 ^ j ∧ 2 ^ (u - j) ≤ c / 2 ^ j ∧ c / 2 ^ j < 2 ^ (u - j + 1) ∧ u - j < j) := by
    intro c m u b j a1 a2 a3 a4 _ a5 a6
    have hc : c < 2147483648 := by have := pw_mono (show u + 1 ≤ 31 by omega); omega
    have hc0 := pw_pos u
    refine ⟨fun q => pw_lt_of a1 q, fun q => ?_⟩
    have hju : j ≤ u := by
      rcases Nat.lt_or_ge u j with g | g
      · have := pw_mono (show u + 1 ≤ j by omega); omega
      · exact g
    exact ⟨hju, iSu_d (by omega) (by omega) j (by omega), (pw_div a1 a2 hju).1, (pw_div a1 a2 hju).2, by omega⟩
  have rgc : ∀ (c : Int) (u b : Nat), 2 ^ u ≤ c → c < 2 ^ (u + 1) → u < b → b < 32 → rg c := by
    intro c u b a1 a2 a3 a4
    have := pw_mono (show u + 1 ≤ 31 by omega)
    have := pw_pos u
    exact ⟨by omega, by omega⟩
  have w61 : ∀ (c m : Int) (u : Nat), 2 ^ u ≤ c → c < 2 ^ (u + 1) → u < 4 → Po (m - u) h → J6_numberOfLeadingZeros_0f7a4_w61 G k c m n h := by
    intro c m u a1 a2 a3 q
    obtain ⟨s1, s2⟩ := stage c m u 4 2 a1 a2 a3 (by omega) (by omega) (by omega) (by omega)
    refine J6_numberOfLeadingZeros_0f7a4_b61 C E c m n h rfl ⟨⟨rgc c u 4 a1 a2 a3 (by omega), by constructor <;> decide⟩, fun g => w73 c m u a1 a2 (s1 g) q, fun g => ?_⟩
    obtain ⟨z1, z2, z3, z4, z5⟩ := s2 g
    rw [show iSu c 2 = c / 2 ^ 2 from z2]
    exact w73 _ _ (u - 2) z3 z4 z5 (by rwa [show m + -2 - ((u - 2 : Nat) : Int) = m - u by omega])
  have w48 : ∀ (c m : Int) (u : Nat), 2 ^ u ≤ c → c < 2 ^ (u + 1) → u < 8 → Po (m - u) h → J6_numberOfLeadingZeros_0f7a4_w48 G k c m n h := by
    intro c m u a1 a2 a3 q
    obtain ⟨s1, s2⟩ := stage c m u 8 4 a1 a2 a3 (by omega) (by omega) (by omega) (by omega)
    refine J6_numberOfLeadingZeros_0f7a4_b48 C E c m n h rfl ⟨⟨rgc c u 8 a1 a2 a3 (by omega), by constructor <;> decide⟩, fun g => w61 c m u a1 a2 (s1 g) q, fun g => ?_⟩
    obtain ⟨z1, z2, z3, z4, z5⟩ := s2 g
    rw [show iSu c 4 = c / 2 ^ 4 from z2]
    exact w61 _ _ (u - 4) z3 z4 z5 (by rwa [show m + -4 - ((u - 4 : Nat) : Int) = m - u by omega])
  have w33 : ∀ (c m : Int) (u : Nat), 2 ^ u ≤ c → c < 2 ^ (u + 1) → u < 16 → Po (m - u) h → J6_numberOfLeadingZeros_0f7a4_w33 G k c m n h := by
    intro c m u a1 a2 a3 q
    obtain ⟨s1, s2⟩ := stage c m u 16 8 a1 a2 a3 (by omega) (by omega) (by omega) (by omega)
    refine J6_numberOfLeadingZeros_0f7a4_b33 C E c m n h rfl ⟨⟨rgc c u 16 a1 a2 a3 (by omega), by constructor <;> decide⟩, fun g => w48 c m u a1 a2 (s1 g) q, fun g => ?_⟩
    obtain ⟨z1, z2, z3, z4, z5⟩ := s2 g
    rw [show iSu c 8 = c / 2 ^ 8 from z2]
    exact w48 _ _ (u - 8) z3 z4 z5 (by rwa [show m + -8 - ((u - 8 : Nat) : Int) = m - u by omega])
  refine J6_numberOfLeadingZeros_0f7a4_b0 C E x n h rfl ⟨hx, fun c => ?_, fun c => ⟨hx, fun c2 => ?_, fun c2 => ?_⟩⟩
  · have e : x % 4294967296 = x := by omega
    rw [e] at h0 h1
    have ht : t < 31 := pw_lt_of h0 (show x < 2 ^ 31 by omega)
    obtain ⟨s1, s2⟩ := stage x 31 t 31 16 h0 h1 ht (by omega) (by omega) (by omega) (by omega)
    refine ⟨⟨hx, by constructor <;> decide⟩, fun g => w33 x 31 t h0 h1 (s1 g) hp, fun g => ?_⟩
    obtain ⟨z1, z2, z3, z4, z5⟩ := s2 g
    rw [show iSu x 16 = x / 2 ^ 16 from z2]
    exact w33 _ _ (t - 16) z3 z4 z5 (by rwa [show (31 : Int) + -16 - ((t - 16 : Nat) : Int) = 31 - t by omega])
  · have ht : t = 31 := by
      have g1 : 31 < t + 1 := pw_lt_of (show 2 ^ 31 ≤ x % 4294967296 by omega) h1
      have g2 : t < 32 := pw_lt_of h0 (show x % 4294967296 < 2 ^ 32 by omega)
      omega
    subst ht
    exact J6_numberOfLeadingZeros_0f7a4_b14 C E 0 n h rfl hp
  · have := pw_pos t
    omega
theorem sp_nlzL {G : xG} {l : Launch} {n : Nat} {h : xH} {x : Int} {t : Nat} {Po : Int → xH → Prop} (h0 : 2 ^ t ≤ x % 18446744073709551616) (h1 : x % 18446744073709551616 < 2 ^ (t + 1)) (hp : Po (63 - (t : Int)) h) : S_J13_numberOfLeadingZeros_95d88 G l x n h Po := by
  refine S_J13_numberOfLeadingZeros_95d88_of (fun k hl C E => ?_)
  have e1 : w32 (lSu x 32) % 4294967296 = x % 18446744073709551616 / 4294967296 := by rw [w32_emod, lSu_32]; omega
  have e2 : w32 x % 4294967296 = x % 4294967296 := w32_emod x
  have hr := rg_w32 (lSu x 32)
  have hz := rg_mod0 hr
  refine J13_numberOfLeadingZeros_95d88_b0 C E x n h rfl ⟨hr, fun c => ?_, fun c => ?_⟩
  · have ht : 32 ≤ t := by
      have : 32 < t + 1 := pw_lt_of (c := x % 18446744073709551616) (by
        have : ¬ w32 (lSu x 32) % 4294967296 = 0 := fun q => c (hz.mp q)
        omega) h1
      omega
    obtain ⟨d1, d2⟩ := pw_div h0 h1 ht
    refine sp_nlz hr (t := t - 32) (by rw [e1]; exact d1) (by rw [e1]; exact d2) ?_
    refine J13_numberOfLeadingZeros_95d88_b25 C E _ n h rfl ?_
    rwa [show (31 : Int) - ((t - 32 : Nat) : Int) = 63 - t by omega]
  · have c' : w32 (lSu x 32) % 4294967296 = 0 := hz.mpr c
    have e3 : x % 4294967296 = x % 18446744073709551616 := by omega
    refine sp_nlz (rg_w32 x) (t := t) (by rw [e2, e3]; exact h0) (by rw [e2, e3]; exact h1) ?_
    refine J13_numberOfLeadingZeros_95d88_b25 C E _ n h rfl ?_
    rwa [show (32 : Int) + (31 - (t : Int)) = 63 - t by omega]
