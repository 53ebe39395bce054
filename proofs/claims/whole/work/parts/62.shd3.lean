/-! THE SHORTEST DIGITS: the numbers they come from, all of them -/
theorem bl1 : bl 1 = 1 := bl_of (t := 0) (by decide) (by decide)
theorem five_le (m : Nat) : ((5 ^ m : Nat) : Int) ≤ 2 ^ (3 * m) := by
  have h5 : (5 : Nat) ^ m ≤ (2 ^ 3) ^ m := Nat.pow_le_pow_left (by decide) m
  rw [← Nat.pow_mul] at h5
  have h6 : ((5 ^ m : Nat) : Int) ≤ ((2 ^ (3 * m) : Nat) : Int) := by omega
  rwa [Int.natCast_pow] at h6
theorem five_fit {v : Int} {m : Nat} (v0 : 0 ≤ v) (v1 : v < 2 ^ 2100) (hm : m ≤ 400) : v * ((5 ^ m : Nat) : Int) < 2 ^ 3300 := by
  have h1 := five_le m
  have h2 := pw_mono (show 3 * m ≤ 1200 by omega)
  have h3 : v * ((5 ^ m : Nat) : Int) ≤ v * 2 ^ 1200 := Int.mul_le_mul_of_nonneg_left (by omega) v0
  have h4 : v * 2 ^ 1200 < 2 ^ 2100 * 2 ^ 1200 := Int.mul_lt_mul_of_pos_right v1 (pw_pos 1200)
  rw [← Int.pow_add] at h4
  omega
theorem sp_setUp {G : xG} {l : Launch} {n : Nat} {h : xH} {L : List Int} {pt r w a b u tw nb : Int} {Po : xH → Prop} (t : isQ n h L pt) (z : isZ n h r w a b) (hu0 : 0 < u) (hu1 : u < 2 ^ 63) (ht0 : -2000 ≤ tw) (ht1 : tw ≤ 2000) (hnb : nb = 0 ∨ nb = 1) (hp : ∀ h', hE sQ h h' → isQ n h' L pt → isZ n h' (u * 2 ^ (tw.toNat + 2)) (2 ^ ((-tw).toNat + 2)) (2 ^ (tw.toNat + 1)) (2 ^ (tw.toNat + (if nb = 0 then 1 else 0))) → Po h') : S_X3_setUp G l 14 u tw nb n h Po := by
  refine S_X3_setUp_of (fun k hl C E => X3_setUp_b0 C E 14 u tw nb n h rfl (sp_max (rgS (by omega) (by omega)) rg0 ?_))
  have h63 : (2 : Int) ^ 63 = 9223372036854775808 := by decide
  have hu2 : u % 18446744073709551616 = u := Int.emod_eq_of_lt (by omega) (by omega)
  have hmx : max tw 0 = (tw.toNat : Int) := by omega
  have hmd : max (-tw) 0 = ((-tw).toNat : Int) := by omega
  rw [hmx, t.f3]
  generalize hup : tw.toNat = up at hp ⊢
  generalize hdn : (-tw).toNat = dn at hp hmd
  have hup2 : up ≤ 2000 := by omega
  have hdn2 : dn ≤ 2000 := by omega
  refine ⟨t.ok, by decide, z.1.1.ok, sp_set z.1.1 (fun h1 e1 q1 => ?_)⟩
  rw [hu2] at q1
  have t1 := t.mv e1 (by decide) (by decide)
  have z1 := z.n16 e1 q1
  rw [t1.f3]
  refine ⟨t1.ok, by decide, q1.1.ok, sp_shl q1 (rgS (by omega) (by omega)) (fun _ => by have := bl_le hu1; omega) (fun h2 e2 q2 => ?_)⟩
  rw [show ((up : Int) + 2).toNat = up + 2 by omega] at q2
  have t2 := t1.mv e2 (by decide) (by decide)
  have z2 := z1.n16 e2 q2
  rw [t2.f4]
  refine ⟨t2.ok, by decide, z2.2.1.1.ok, sp_set z2.2.1.1 (fun h3 e3 q3 => ?_)⟩
  have q3 : isN n h3 18 1 := q3
  have t3 := t2.mv e3 (by decide) (by decide)
  have z3 := z2.n18 e3 q3
  rw [t3.f4]
  refine ⟨t3.ok, by decide, sp_max (rgS (by omega) (by omega)) rg0 ?_⟩
  rw [hmd]
  refine ⟨q3.1.ok, sp_shl q3 (rgS (by omega) (by omega)) (fun _ => by rw [bl1]; omega) (fun h4 e4 q4 => ?_)⟩
  rw [show ((dn : Int) + 2).toNat = dn + 2 by omega, Int.one_mul] at q4
  have t4 := t3.mv e4 (by decide) (by decide)
  have z4 := z3.n18 e4 q4
  rw [t4.f5]
  refine ⟨t4.ok, by decide, z4.2.2.1.1.ok, sp_set z4.2.2.1.1 (fun h5 e5 q5 => ?_)⟩
  have q5 : isN n h5 20 1 := q5
  have t5 := t4.mv e5 (by decide) (by decide)
  have z5 := z4.n20 e5 q5
  rw [t5.f5]
  refine ⟨t5.ok, by decide, q5.1.ok, sp_shl q5 (rgS (by omega) (by omega)) (fun _ => by rw [bl1]; omega) (fun h6 e6 q6 => ?_)⟩
  rw [show ((up : Int) + 1).toNat = up + 1 by omega, Int.one_mul] at q6
  have t6 := t5.mv e6 (by decide) (by decide)
  have z6 := z5.n20 e6 q6
  rw [t6.f6]
  refine ⟨t6.ok, by decide, z6.2.2.2.1.1.ok, sp_set z6.2.2.2.1.1 (fun h7 e7 q7 => ?_)⟩
  have q7 : isN n h7 22 1 := q7
  have t7 := t6.mv e7 (by decide) (by decide)
  have z7 := z6.n22 e7 q7
  rw [t7.f6]
  have he7 : hE sQ h h7 := (((((((sq16 e1).tr (sq16 e2)).tr (sq18 e3)).tr (sq18 e4)).tr (sq20 e5)).tr (sq20 e6)).tr (sq22 e7))
  have w94 : ∀ x : Nat, x = up + (if nb = 0 then 1 else 0) → X3_setUp_w94 G k x 22 n h7 := by
    intro x hx
    have hx2 : x ≤ 2001 := by rw [hx]; split <;> omega
    refine X3_setUp_b94 C E x 22 n h7 rfl ⟨q7.1.ok, sp_shl q7 (rg_nat (by omega)) (fun _ => by rw [bl1]; omega) (fun h8 e8 q8 => ?_)⟩
    rw [Int.toNat_natCast, Int.one_mul, hx] at q8
    exact hp h8 (he7.tr (sq22 e8)) (t7.mv e8 (by decide) (by decide)) (z7.n22 e8 q8)
  refine ⟨t7.ok, by decide, by rcases hnb with v | v <;> rw [v] <;> exact rgS (by decide) (by decide), fun v => ?_, fun v => ?_⟩
  · have := w94 (up + 1) (by rw [if_pos v])
    rw [Int.natCast_add] at this
    exact this
  · exact w94 up (by rw [if_neg v]; rfl)
theorem sp_scale5 {G : xG} {l : Launch} {n : Nat} {h : xH} {L : List Int} {pt r w a b : Int} {Po : xH → Prop} (t : isQ n h L pt) (z : isZ n h r w a b) (hp0 : -400 ≤ pt) (hp1 : pt ≤ 400) (hr : r < 2 ^ 2100) (hw : w < 2 ^ 2100) (ha : a < 2 ^ 2100) (hb : b < 2 ^ 2100) (hp : ∀ h', hE sQ h h' → isQ n h' L pt → isZ n h' (r * (5 ^ (-pt).toNat : Nat)) (w * (5 ^ pt.toNat : Nat)) (a * (5 ^ (-pt).toNat : Nat)) (b * (5 ^ (-pt).toNat : Nat)) → Po h') : S_X3_scaleByFives G l 14 n h Po := by
  refine S_X3_scaleByFives_of (fun k hl C E => X3_scaleByFives_b0 C E 14 n h rfl ?_)
  have fit : ∀ (v : Int) (m : Nat), 0 ≤ v → v < 2 ^ 2100 → m ≤ 400 → v * ((5 ^ m : Nat) : Int) < 4294967296 ^ 132 := fun v m v0 v1 hm => fit132 (t := 3300) (five_fit v0 v1 hm) (by decide)
  rw [t.f2, t.f3, t.f4]
  have w57 : ∀ h', Po h' → X3_scaleByFives_w57 G k n h' := fun h' v => X3_scaleByFives_b57 C E n h' rfl v
  refine ⟨t.ok, rgS (by omega) (by omega), fun v => ?_, fun v => ?_⟩
  · obtain ⟨m, hm⟩ := ex_nat (show 0 ≤ -pt by omega)
    have e0 : pt.toNat = 0 := by omega
    rw [hm, Int.toNat_natCast, e0] at hp
    rw [hm]
    refine ⟨t.ok, by decide, t.ok, z.1.1.ok, sp_mulFives z.1 (by omega) (fit r m z.1.nn.1 hr (by omega)) (fun h1 e1 q1 => ?_)⟩
    have t1 := t.mv e1 (by decide) (by decide)
    have z1 := z.n16 e1 q1
    rw [t1.f5, t1.f2, hm]
    refine ⟨t1.ok, by decide, t1.ok, z1.2.2.1.1.ok, sp_mulFives z1.2.2.1 (by omega) (fit a m z1.2.2.1.nn.1 ha (by omega)) (fun h2 e2 q2 => ?_)⟩
    have t2 := t1.mv e2 (by decide) (by decide)
    have z2 := z1.n20 e2 q2
    rw [t2.f6, t2.f2, hm]
    refine ⟨t2.ok, by decide, t2.ok, z2.2.2.2.1.1.ok, sp_mulFives z2.2.2.2.1 (by omega) (fit b m z2.2.2.2.1.nn.1 hb (by omega)) (fun h3 e3 q3 => w57 h3 ?_)⟩
    refine hp h3 (((sq16 e1).tr (sq20 e2)).tr (sq22 e3)) (t2.mv e3 (by decide) (by decide)) ?_
    have := z2.n22 e3 q3
    rwa [show w = w * ((5 ^ 0 : Nat) : Int) by rw [show ((5 ^ 0 : Nat) : Int) = 1 from rfl]; omega] at this
  · obtain ⟨m, hm⟩ := ex_nat (show 0 ≤ pt by omega)
    have e0 : (-pt).toNat = 0 := by omega
    rw [e0] at hp
    have one : ∀ x : Int, x * ((5 ^ 0 : Nat) : Int) = x := fun x => by rw [show ((5 ^ 0 : Nat) : Int) = 1 from rfl]; omega
    rw [one, one, one, hm, Int.toNat_natCast] at hp
    rw [hm]
    refine ⟨t.ok, by decide, t.ok, z.2.1.1.ok, sp_mulFives z.2.1 (by omega) (fit w m z.2.1.nn.1 hw (by omega)) (fun h1 e1 q1 => w57 h1 ?_)⟩
    refine hp h1 (sq18 e1) ?_ (z.n18 e1 q1)
    have := t.mv e1 (by decide) (by decide)
    rwa [hm] at this
