/-! NATURALS: trailing zeros, shifts -/
theorem nv_split (f : Nat → Int) (i m : Nat) : nv f (i + m) = nv f i + 4294967296 ^ i * nv (fun j => f (i + j)) m := by
  induction m with
  | zero => show nv f i = nv f i + _ * 0; omega
  | succ m ih =>
    show nv f (i + m) + f (i + m) % 4294967296 * 4294967296 ^ (i + m) = nv f i + 4294967296 ^ i * (nv (fun j => f (i + j)) m + f (i + m) % 4294967296 * 4294967296 ^ m)
    rw [ih, Int.pow_add, Int.mul_add]
    generalize (4294967296 : Int) ^ i = P
    generalize (4294967296 : Int) ^ m = Q
    grind
theorem ex_odd : ∀ w : Nat, 0 < w → ∃ r m, w = 2 ^ r * (2 * m + 1) := by
  intro w
  induction w using Nat.strongRecOn with
  | ind w ih =>
    intro hw
    rcases Nat.mod_two_eq_zero_or_one w with e | e
    · obtain ⟨r, m, h⟩ := ih (w / 2) (by omega) (by omega)
      refine ⟨r + 1, m, ?_⟩
      rw [Nat.pow_succ, Nat.mul_comm (2 ^ r) 2, Nat.mul_assoc, ← h]; omega
    · exact ⟨0, w / 2, by omega⟩
theorem odd_unique {t r m k : Nat} (h : 2 ^ t * (2 * m + 1) = 2 ^ r * (2 * k + 1)) : t = r := by
  have key : ∀ {t r m k : Nat}, t < r → 2 ^ t * (2 * m + 1) = 2 ^ r * (2 * k + 1) → False := by
    intro t r m k hlt h
    have e : 2 ^ r = 2 ^ t * (2 * 2 ^ (r - t - 1)) := by
      rw [← Nat.mul_assoc, ← Nat.pow_succ, ← Nat.pow_add]; congr 1; omega
    rw [e, Nat.mul_assoc] at h
    have := Nat.eq_of_mul_eq_mul_left (Nat.two_pow_pos t) h
    rw [Nat.mul_assoc] at this
    omega
  rcases Nat.lt_trichotomy t r with g | g | g
  · exact (key g h).elim
  · exact g
  · exact (key g h.symm).elim
theorem sp_tz {G : xG} {l : Launch} {n : Nat} {h : xH} {a : Nat} {t m : Nat} {Po : Int → xH → Prop} (q0 : isN n h a ((2 ^ t * (2 * m + 1) : Nat) : Int)) (hp : Po (t : Int) h) : S_X1_trailingZeros G l a n h Po := by
  refine S_X1_trailingZeros_of (fun k hl C E => ?_)
  obtain ⟨ty, s, q⟩ := q0
  have hv := q.val
  have hs2 := q.1
  have hsz : hG h a 1 = (s : Int) := q.2.1
  have hvpos : 0 < 2 ^ t * (2 * m + 1) := Nat.mul_pos (Nat.two_pow_pos t) (by omega)
  suffices K : ∀ (u i : Nat), i + u = s → nv (h (a + 1)).2.2 i = 0 → X1_trailingZeros_w2 G k a i n h from X1_trailingZeros_b0 C E a n h rfl (K s 0 (by omega) rfl)
  intro u
  induction u with
  | zero =>
    intro i hi hz
    have : i = s := by omega
    subst this
    rw [q.2.2.1] at hz
    omega
  | succ u ih =>
    intro i hi hz
    have hr := ty.2.2.2.2.2 i (by omega)
    refine X1_trailingZeros_b2 C E a i n h rfl ⟨ty.ok, ⟨rg_nat (by omega), by rw [hsz]; exact rg_nat (by omega)⟩, fun c => ?_, fun c => ⟨ty.ok, sp_wordAt ty q.2.1 hs2 (rg_nat (by omega)) ?_⟩⟩
    · rw [hsz] at c; omega
    · rw [if_pos ⟨by omega, by omega⟩, Int.toNat_natCast]
      refine ⟨hr, fun c2 => ?_, fun c2 => ⟨ty.ok, sp_wordAt ty q.2.1 hs2 (rg_nat (by omega)) ?_⟩⟩
      · refine ih (i + 1) (by omega) ?_
        show nv (h (a + 1)).2.2 i + _ % _ * _ = 0
        rw [hz, c2]; simp
      · rw [if_pos ⟨by omega, by omega⟩, Int.toNat_natCast]
        have b0 := Int.emod_nonneg ((h (a + 1)).2.2 i) (show (4294967296 : Int) ≠ 0 by decide)
        have b1 := Int.emod_lt_of_pos ((h (a + 1)).2.2 i) (show (0 : Int) < 4294967296 by decide)
        have bn : (h (a + 1)).2.2 i % 4294967296 ≠ 0 := fun e => c2 ((rg_mod0 hr).mp e)
        obtain ⟨r, mm, hrm⟩ := ex_odd ((h (a + 1)).2.2 i % 4294967296).toNat (by omega)
        have hr32 : r < 32 := by
          have h1 : 2 ^ r ≤ 2 ^ r * (2 * mm + 1) := Nat.le_mul_of_pos_right _ (by omega)
          have h2 : 2 ^ r < 2 ^ 32 := by omega
          exact (Nat.pow_lt_pow_iff_right (by decide)).mp h2
        have hw : (h (a + 1)).2.2 i % 4294967296 = ((2 ^ r * (2 * mm + 1) : Nat) : Int) := by omega
        refine sp_ntz hr32 hw ?_
        have e1 : ((2 ^ t * (2 * m + 1) : Nat) : Int) = 4294967296 ^ i * ((h (a + 1)).2.2 i % 4294967296 + 4294967296 * nv (fun j => (h (a + 1)).2.2 (i + 1 + j)) u) := by
          rw [← q.2.2.1, show s = (i + 1) + u by omega, nv_split]
          show (nv (h (a + 1)).2.2 i + _ * _) + _ = _
          rw [hz, B_succ]
          generalize (4294967296 : Int) ^ i = P
          generalize (h (a + 1)).2.2 i % 4294967296 = ww
          grind
        have nb := (nv_bd (fun j => (h (a + 1)).2.2 (i + 1 + j)) u).1
        obtain ⟨X, hX⟩ := ex_nat nb
        rw [hw, hX] at e1
        have e2 : 2 ^ t * (2 * m + 1) = 2 ^ (32 * i + r) * (2 * (mm + 2 ^ (31 - r) * X) + 1) := by
          have e3 : ((2 ^ t * (2 * m + 1) : Nat) : Int) = ((2 ^ (32 * i + r) * (2 * (mm + 2 ^ (31 - r) * X) + 1) : Nat) : Int) := by
            rw [e1, B_2]
            have e4 : (4294967296 : Int) = 2 ^ r * (2 * 2 ^ (31 - r)) := by
              rw [← Int.mul_assoc, ← Int.pow_succ, ← Int.pow_add, show r + 1 + (31 - r) = 32 by omega]; rfl
            rw [show (4294967296 : Int) * (X : Int) = 2 ^ r * (2 * 2 ^ (31 - r)) * X by rw [← e4]]
            simp only [Int.natCast_mul, Int.natCast_add, Int.natCast_pow, Int.pow_add]
            show (2 : Int) ^ (32 * i) * (2 ^ r * (2 * mm + 1) + 2 ^ r * (2 * 2 ^ (31 - r)) * X) = 2 ^ (32 * i) * 2 ^ r * (2 * (mm + 2 ^ (31 - r) * X) + 1)
            generalize (2 : Int) ^ (32 * i) = P
            generalize (2 : Int) ^ r = Q
            generalize (2 : Int) ^ (31 - r) = R
            grind
          exact_mod_cast e3
        have := odd_unique e2
        rw [this] at hp
        rwa [show (32 : Int) * (i : Int) + (r : Int) = ((32 * i + r : Nat) : Int) by omega]
/-- a word of a natural, at any place -/
def rd (f : Nat → Int) (s : Nat) (z : Int) : Int := if 0 ≤ z ∧ z < s then f z.toNat else 0
theorem rg_rd {f : Nat → Int} {s : Nat} (h : ∀ i, i < s → rg (f i)) (z : Int) : rg (rd f s z) := by
  unfold rd; split
  · exact h _ (by omega)
  · exact rg0
theorem sh_low {x : Int} {p : Nat} (hp : p < 32) : ∃ m : Nat, (x * 2 ^ p) % 4294967296 = ((m * 2 ^ p : Nat) : Int) := by
  have e : (4294967296 : Int) = 2 ^ p * 2 ^ (32 - p) := by rw [← Int.pow_add, show p + (32 - p) = 32 by omega]; rfl
  refine ⟨(x % 2 ^ (32 - p)).toNat, ?_⟩
  rw [e, Int.mul_comm x, Int.mul_emod_mul_of_pos _ _ (pw_pos p), Int.mul_comm, Int.natCast_mul, Int.natCast_pow, Int.toNat_of_nonneg (Int.emod_nonneg _ (by have := pw_pos (32 - p); omega))]
  rfl
theorem sl_word {x y : Int} {p : Nat} (hp : p < 32) (hy : rg y) : iO (iSl x p) (iSu (iSu y 1) (31 - (p : Int))) % 4294967296 = (x % 4294967296 * 2 ^ p) % 4294967296 + (y % 4294967296) * 2 ^ p / 4294967296 ∧ rg (iO (iSl x p) (iSu (iSu y 1) (31 - (p : Int)))) := by
  refine ⟨?_, rg_toInt _⟩
  have b0 := Int.emod_nonneg y (show (4294967296 : Int) ≠ 0 by decide)
  have b1 := Int.emod_lt_of_pos y (show (0 : Int) < 4294967296 by decide)
  have e1 : iSu y 1 = y % 4294967296 / 2 := by
    have := iSu_w y 1 (by decide)
    rw [show ((1 : Nat) : Int) = 1 from rfl] at this
    rw [this]
    exact w32_id ⟨by omega, by omega⟩
  have e2 : iSu (iSu y 1) (31 - (p : Int)) = y % 4294967296 / 2 ^ (32 - p) := by
    rw [e1, show (31 : Int) - (p : Int) = ((31 - p : Nat) : Int) by omega, iSu_d (by omega) (by omega) _ (by omega), Int.ediv_ediv_of_nonneg (by decide)]
    congr 1
    rw [show 32 - p = (31 - p) + 1 by omega, Int.pow_succ, Int.mul_comm]
  have hq := pw_pos (32 - p)
  have e32 : (4294967296 : Int) = 2 ^ p * 2 ^ (32 - p) := by rw [← Int.pow_add, show p + (32 - p) = 32 by omega]; rfl
  have e3 : (y % 4294967296) * 2 ^ p / 4294967296 = y % 4294967296 / 2 ^ (32 - p) := by
    rw [show (y % 4294967296) * 2 ^ p / 4294967296 = (2 ^ p * (y % 4294967296)) / (2 ^ p * 2 ^ (32 - p)) by rw [← e32, Int.mul_comm]]
    exact Int.mul_ediv_mul_of_pos _ _ (pw_pos p)
  have c0 : 0 ≤ y % 4294967296 / 2 ^ (32 - p) := Int.ediv_nonneg b0 (by omega)
  have c1 : y % 4294967296 / 2 ^ (32 - p) < 2 ^ p := Int.ediv_lt_of_lt_mul hq (by rw [← e32]; exact b1)
  have c2 := pw_mono (show p ≤ 31 by omega)
  have cm : y % 4294967296 / 2 ^ (32 - p) % 4294967296 = y % 4294967296 / 2 ^ (32 - p) := by omega
  obtain ⟨m, hm⟩ := sh_low (x := x) hp
  have hsl : iSl x p % 4294967296 = ((m * 2 ^ p : Nat) : Int) := by rw [iSl_w x p hp, w32_emod, hm]
  rw [e2, e3, iO_add m hsl (by rw [cm]; exact c0) (by rw [cm, Int.natCast_pow]; exact c1), w32_emod, Int.add_emod, hsl, cm, ← hm]
  have hx : (x * 2 ^ p) % 4294967296 = (x % 4294967296 * 2 ^ p) % 4294967296 := by rw [Int.mul_emod x (2 ^ p), Int.mul_emod (x % 4294967296) (2 ^ p), Int.emod_emod_of_dvd x (Int.dvd_refl _)]
  rw [← hx, hm]
  have hpp := pw_pos p
  have hmlt : ((m * 2 ^ p : Nat) : Int) ≤ 4294967296 - 2 ^ p := by
    have hlt := Int.emod_lt_of_pos (x * 2 ^ p) (show (0 : Int) < 4294967296 by decide)
    rw [hm] at hlt
    rw [Int.natCast_mul, Int.natCast_pow] at hlt ⊢
    have h3 : (m : Int) < 2 ^ (32 - p) := by
      rw [e32, Int.mul_comm] at hlt
      exact Int.lt_of_mul_lt_mul_left hlt (by show (0 : Int) ≤ 2 ^ p; omega)
    have h4 := Int.mul_le_mul_of_nonneg_right (show (m : Int) + 1 ≤ 2 ^ (32 - p) by omega) (show (0 : Int) ≤ 2 ^ p by omega)
    rw [Int.add_mul, Int.mul_comm (2 ^ (32 - p)), ← e32] at h4
    show (m : Int) * 2 ^ p ≤ _
    omega
  have hm0 : (0 : Int) ≤ ((m * 2 ^ p : Nat) : Int) := by omega
  omega
