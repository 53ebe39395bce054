/-! THE NUMBER: lowest terms -/
theorem cop2 {t y : Nat} (hy : y % 2 = 1) : Nat.Coprime (2 ^ t) y := by
  apply Nat.Coprime.pow_left
  show Nat.gcd 2 y = 1
  rw [Nat.gcd_rec, hy]
  rfl
theorem gcd_step {x y t x' : Nat} (hy : y % 2 = 1) (hlt : y < x) (h : x - y = 2 ^ t * x') : Nat.gcd x' y = Nat.gcd x y := by
  have e1 : Nat.gcd (2 ^ t * x') y = Nat.gcd x' y := Nat.Coprime.gcd_mul_left_cancel x' (cop2 hy)
  rw [← e1, ← h]
  have : x = (x - y) + y := by omega
  rw [this, Nat.gcd_add_self_left]
  congr 1
  omega
theorem shr_mul (t m : Nat) : ((2 ^ t * m : Nat) : Int) / 2 ^ (t : Int).toNat = (m : Int) := by
  rw [Int.toNat_natCast, Int.natCast_mul, Int.natCast_pow]
  exact Int.mul_ediv_cancel_left _ (by have := pw_pos t; show (2 : Int) ^ t ≠ 0; omega)
theorem shr_odd (t m : Nat) : ((2 ^ t * (2 * m + 1) : Nat) : Int) / 2 ^ (t : Int).toNat = ((2 * m + 1 : Nat) : Int) := shr_mul t (2 * m + 1)
theorem tzb {n : Nat} {h : xH} {c t m : Nat} (q : isN n h c ((2 ^ t * (2 * m + 1) : Nat) : Int)) : t ≤ 4224 := by
  have hb := q.nn.2
  rw [← P4224] at hb
  rcases Nat.lt_or_ge 4224 t with g | g
  · have h1 := Nat.pow_le_pow_right (show 0 < 2 by decide) (show 4224 ≤ t by omega)
    have h2 : 2 ^ t * 1 ≤ 2 ^ t * (2 * m + 1) := Nat.mul_le_mul_left _ (by omega)
    have h3 : ((2 ^ 4224 : Nat) : Int) ≤ ((2 ^ t * (2 * m + 1) : Nat) : Int) := by omega
    rw [Int.natCast_pow] at h3
    have h4 : ((2 : Nat) : Int) ^ 4224 = (2 : Int) ^ 4224 := rfl
    omega
  · exact g
theorem sp_odd {G : xG} {l : Launch} {n : Nat} {h : xH} {kd mn un pl : Int} {x y a b : Nat} {s10 s12 : Int} {Po : Nat → xH → Prop} (t : isD n h kd mn un pl) (qv : isN n h 6 ((2 ^ a * (2 * x + 1) : Nat) : Int)) (qw : isN n h 8 ((2 ^ b * (2 * y + 1) : Nat) : Int)) (q10 : isN n h 10 s10) (q12 : isN n h 12 s12) (hp : ∀ h' z, hE (fun i => 10 ≤ i ∧ i ≤ 13) h h' → (z = 10 ∨ z = 12) → isN n h' z (Nat.gcd (2 * x + 1) (2 * y + 1) : Nat) → (∃ s, isN n h' 10 s) → (∃ s, isN n h' 12 s) → Po z h') : S_X4_greatestOddDivisor G l 0 n h Po := by
  refine S_X4_greatestOddDivisor_of (fun k hl C E => X4_greatestOddDivisor_b0 C E 0 n h rfl ?_)
  rw [t.f9, t.f10, t.f7]
  refine ⟨t.ok, by decide, t.ok, by decide, t.ok, by decide, q10.1.ok, sp_copy q10.1 qv (by decide) (fun h1 e1 p1 => ?_)⟩
  have t1 := t.mv e1 (by decide)
  have y1 := q12.mv e1 (by decide) (by decide)
  have w1 := qw.mv e1 (by decide) (by decide)
  rw [t1.f8]
  refine ⟨t1.ok, by decide, y1.1.ok, sp_copy y1.1 w1 (by decide) (fun h2 e2 p2 => ?_)⟩
  have x2 : isN n h2 10 ((2 ^ a * (2 * x + 1) : Nat) : Int) := p1.mv e2 (by decide) (by decide)
  have shr := shr_odd
  refine ⟨x2.1.ok, sp_tz x2 ⟨x2.1.ok, sp_shr x2 (rg_nat (by have := tzb x2; omega)) (fun h3 e3 p3 => ?_)⟩⟩
  rw [shr] at p3
  have y3 := p2.mv e3 (by decide) (by decide)
  refine ⟨y3.1.ok, sp_tz y3 ⟨y3.1.ok, sp_shr y3 (rg_nat (by have := tzb y3; omega)) (fun h4 e4 p4 => ?_)⟩⟩
  rw [shr] at p4
  have x4 := p3.mv e4 (by decide) (by decide)
  have sA : ∀ {h h' : xH}, hE (sN 10) h h' → hE (fun i => 10 ≤ i ∧ i ≤ 13) h h' := fun e => e.mono (fun i hi => by rcases hi with z | z <;> omega)
  have sB : ∀ {h h' : xH}, hE (sN 12) h h' → hE (fun i => 10 ≤ i ∧ i ≤ 13) h h' := fun e => e.mono (fun i hi => by rcases hi with z | z <;> omega)
  have he4 : hE (fun i => 10 ≤ i ∧ i ≤ 13) h h4 := (((sA e1).tr (sB e2)).tr (sA e3)).tr (sB e4)
  have sC : ∀ {c : Nat} {h h' : xH}, (c = 10 ∨ c = 12) → hE (sN c) h h' → hE (fun i => 10 ≤ i ∧ i ≤ 13) h h' := by
    intro c h h' hc e
    rcases hc with z | z
    · subst z; exact sA e
    · subst z; exact sB e
  suffices K : ∀ (u : Nat) (i : Nat) (c d X Y : Nat) (h5 : xH), (c = 10 ∧ d = 12 ∨ c = 12 ∧ d = 10) → hE (fun i => 10 ≤ i ∧ i ≤ 13) h h5 → isN n h5 c ((2 * X + 1 : Nat) : Int) → isN n h5 d ((2 * Y + 1 : Nat) : Int) → Nat.gcd (2 * X + 1) (2 * Y + 1) = Nat.gcd (2 * x + 1) (2 * y + 1) → bl ((2 * X + 1 : Nat) : Int) + bl ((2 * Y + 1 : Nat) : Int) ≤ u → i + u ≤ 8448 → X4_greatestOddDivisor_w44 G k c d i n h5 by
    refine K 8448 0 10 12 x y h4 (Or.inl ⟨rfl, rfl⟩) he4 x4 p4 rfl ?_ (by decide)
    have c1 := x4.nn.2
    have c2 := p4.nn.2
    rw [← P4224] at c1 c2
    have := bl_le c1
    have := bl_le c2
    omega
  intro u
  induction u with
  | zero =>
    intro i c d X Y h5 hcd he5 qx qy hg hb hi
    exfalso
    obtain ⟨s, b1, _⟩ := bl_pw (v := ((2 * X + 1 : Nat) : Int)) (by omega)
    obtain ⟨s', b2, _⟩ := bl_pw (v := ((2 * Y + 1 : Nat) : Int)) (by omega)
    omega
  | succ u ih =>
    intro i c d X Y h5 hcd he5 qx qy hg hb hi
    have ex10 : ∃ s, isN n h5 10 s := by
      rcases hcd with ⟨z1, z2⟩ | ⟨z1, z2⟩
      · subst z1; exact ⟨_, qx⟩
      · subst z2; exact ⟨_, qy⟩
    have ex12 : ∃ s, isN n h5 12 s := by
      rcases hcd with ⟨z1, z2⟩ | ⟨z1, z2⟩
      · subst z2; exact ⟨_, qy⟩
      · subst z1; exact ⟨_, qx⟩
    have step : ∀ (c d X Y : Nat), (c = 10 ∧ d = 12 ∨ c = 12 ∧ d = 10) → isN n h5 c ((2 * X + 1 : Nat) : Int) → isN n h5 d ((2 * Y + 1 : Nat) : Int) → Nat.gcd (2 * X + 1) (2 * Y + 1) = Nat.gcd (2 * x + 1) (2 * y + 1) → bl ((2 * X + 1 : Nat) : Int) + bl ((2 * Y + 1 : Nat) : Int) ≤ ((u + 1 : Nat) : Int) → Y < X → X4_greatestOddDivisor_w79 G k c d i n h5 := by
      intro c d X Y hcd qx qy hg hb hlt
      refine X4_greatestOddDivisor_b79 C E c d i n h5 rfl ⟨qx.1.ok, sp_subtract qx qy (by omega) (by omega) (fun h6 e6 p6 => ?_)⟩
      obtain ⟨r, m, hrm⟩ := ex_odd (2 * X + 1 - (2 * Y + 1)) (by omega)
      rw [show ((2 * X + 1 : Nat) : Int) - ((2 * Y + 1 : Nat) : Int) = ((2 * X + 1 - (2 * Y + 1) : Nat) : Int) by omega, hrm] at p6
      refine ⟨p6.1.ok, sp_tz p6 ⟨p6.1.ok, sp_shr p6 (rg_nat (by have := tzb p6; omega)) (fun h7 e7 p7 => ?_)⟩⟩
      rw [shr] at p7
      have hc12 : c = 10 ∨ c = 12 := by omega
      have y7 : isN n h7 d ((2 * Y + 1 : Nat) : Int) := (qy.mv e6 (by rintro (z | z) <;> omega) (by rintro (z | z) <;> omega)).mv e7 (by rintro (z | z) <;> omega) (by rintro (z | z) <;> omega)
      refine ih (i + 1) c d m Y h7 hcd ((he5.tr (sC hc12 e6)).tr (sC hc12 e7)) p7 y7 ?_ ?_ (by omega)
      · rw [gcd_step (t := r) (x := 2 * X + 1) (by omega) (by omega) hrm]; exact hg
      · obtain ⟨s, b1, b2, b3⟩ := bl_pw (v := ((2 * X + 1 : Nat) : Int)) (by omega)
        have hr1 : 1 ≤ r := by
          rcases Nat.eq_zero_or_pos r with z | z
          · subst z; omega
          · exact z
        have h2 : 2 ^ 1 * (2 * m + 1) ≤ 2 ^ r * (2 * m + 1) := Nat.mul_le_mul_right _ (Nat.pow_le_pow_right (by decide) hr1)
        rw [Int.pow_succ] at b3
        have : bl ((2 * m + 1 : Nat) : Int) ≤ s := bl_le (by omega)
        omega
    refine X4_greatestOddDivisor_b44 C E c d i n h5 rfl ⟨⟨rg_nat (by omega), rgS (by decide) (by decide)⟩, fun g => ?_, fun g => ⟨qx.1.ok, sp_compare qx qy ⟨rg_ord _ _, fun o => ⟨rg_ord _ _, fun o2 => step c d X Y hcd qx qy hg hb ?_, fun o2 => step d c Y X (by omega) qy qx (by rw [Nat.gcd_comm]; exact hg) (by omega) ?_⟩, fun o => X4_greatestOddDivisor_b98 C E d n h5 rfl (hp h5 d he5 (by omega) ?_ ex10 ex12)⟩⟩⟩
    · omega
    · unfold ord at o o2
      split at o
      · rename_i g1; rw [if_pos g1] at o2; omega
      · split at o
        · exact absurd rfl o
        · omega
    · unfold ord at o2
      split at o2
      · omega
      · split at o2 <;> omega
    · unfold ord at o
      split at o
      · omega
      · split at o
        · rename_i g1 g2
          have : X = Y := by omega
          subst this
          rw [← hg, Nat.gcd_self]
          exact qy
        · omega
