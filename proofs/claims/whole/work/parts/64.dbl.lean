/-! THE NUMBER (cell 0): its fields, the quotient -/
def tyD (n : Nat) (h : xH) : Prop := 25 < n ∧ (h 0).1 = 4 ∧ ((h 0).2.2 0 = 1 ∧ (h 0).2.2 1 = 2 ∧ (h 0).2.2 2 = 4) ∧ ((h 0).2.2 7 = 6 ∧ (h 0).2.2 8 = 8 ∧ (h 0).2.2 9 = 10 ∧ (h 0).2.2 10 = 12 ∧ (h 0).2.2 11 = 14)
/-- kind, sign, units, place -/
def isD (n : Nat) (h : xH) (kd mn un pl : Int) : Prop := tyD n h ∧ (h 0).2.2 3 = kd ∧ (h 0).2.2 4 = mn ∧ (h 0).2.2 5 = un ∧ (h 0).2.2 6 = pl
theorem isD.ok {n : Nat} {h : xH} {kd mn un pl : Int} (t : isD n h kd mn un pl) : okO n h 0 4 := ⟨by have := t.1.1; omega, t.1.2.1⟩
theorem isD.f0 {n : Nat} {h : xH} {kd mn un pl : Int} (t : isD n h kd mn un pl) : hG h 0 0 = 1 := t.1.2.2.1.1
theorem isD.f1 {n : Nat} {h : xH} {kd mn un pl : Int} (t : isD n h kd mn un pl) : hG h 0 1 = 2 := t.1.2.2.1.2.1
theorem isD.f2 {n : Nat} {h : xH} {kd mn un pl : Int} (t : isD n h kd mn un pl) : hG h 0 2 = 4 := t.1.2.2.1.2.2
theorem isD.f3 {n : Nat} {h : xH} {kd mn un pl : Int} (t : isD n h kd mn un pl) : hG h 0 3 = kd := t.2.1
theorem isD.f4 {n : Nat} {h : xH} {kd mn un pl : Int} (t : isD n h kd mn un pl) : hG h 0 4 = mn := t.2.2.1
theorem isD.f5 {n : Nat} {h : xH} {kd mn un pl : Int} (t : isD n h kd mn un pl) : hG h 0 5 = un := t.2.2.2.1
theorem isD.f6 {n : Nat} {h : xH} {kd mn un pl : Int} (t : isD n h kd mn un pl) : hG h 0 6 = pl := t.2.2.2.2
theorem isD.f7 {n : Nat} {h : xH} {kd mn un pl : Int} (t : isD n h kd mn un pl) : hG h 0 7 = 6 := t.1.2.2.2.1
theorem isD.f8 {n : Nat} {h : xH} {kd mn un pl : Int} (t : isD n h kd mn un pl) : hG h 0 8 = 8 := t.1.2.2.2.2.1
theorem isD.f9 {n : Nat} {h : xH} {kd mn un pl : Int} (t : isD n h kd mn un pl) : hG h 0 9 = 10 := t.1.2.2.2.2.2.1
theorem isD.f10 {n : Nat} {h : xH} {kd mn un pl : Int} (t : isD n h kd mn un pl) : hG h 0 10 = 12 := t.1.2.2.2.2.2.2.1
theorem isD.f11 {n : Nat} {h : xH} {kd mn un pl : Int} (t : isD n h kd mn un pl) : hG h 0 11 = 14 := t.1.2.2.2.2.2.2.2
theorem isD.mv {n : Nat} {h h' : xH} {S : Nat → Prop} {kd mn un pl : Int} (t : isD n h kd mn un pl) (e : hE S h h') (h0 : ¬ S 0) : isD n h' kd mn un pl := by
  obtain ⟨⟨t1, t2, t3, t4⟩, t5⟩ := t
  have e0 := (e 0).2.2 h0
  exact ⟨⟨t1, by rw [(e 0).1]; exact t2, by rw [e0]; exact t3, by rw [e0]; exact t4⟩, by rw [e0]; exact t5⟩
theorem tyD.set {n : Nat} {h h' : xH} {k : Nat} {z : Int} (t : tyD n h) (e : h' = hS h 0 k z) (h3 : 3 ≤ k) (h6 : k ≤ 6) : tyD n h' := by
  obtain ⟨t1, t2, t3, t4⟩ := t
  have g : ∀ j, j ≠ k → (h' 0).2.2 j = (h 0).2.2 j := fun j hj => by rw [e, hS_g, if_neg (fun z => hj z.2)]
  refine ⟨t1, by rw [e, hS_k]; exact t2, ?_, ?_⟩
  · rw [g 0 (by omega), g 1 (by omega), g 2 (by omega)]; exact t3
  · rw [g 7 (by omega), g 8 (by omega), g 9 (by omega), g 10 (by omega), g 11 (by omega)]; exact t4
theorem isD.s3 {n : Nat} {h h' : xH} {kd mn un pl z : Int} (t : isD n h kd mn un pl) (e : h' = hS h 0 3 z) : isD n h' z mn un pl := by
  have g : ∀ j, j ≠ 3 → (h' 0).2.2 j = (h 0).2.2 j := fun j hj => by rw [e, hS_g, if_neg (fun z => hj z.2)]
  exact ⟨t.1.set e (by decide) (by decide), by rw [e, hS_g, if_pos ⟨rfl, rfl⟩], by rw [g 4 (by decide)]; exact t.2.2.1, by rw [g 5 (by decide)]; exact t.2.2.2.1, by rw [g 6 (by decide)]; exact t.2.2.2.2⟩
theorem isD.s4 {n : Nat} {h h' : xH} {kd mn un pl z : Int} (t : isD n h kd mn un pl) (e : h' = hS h 0 4 z) : isD n h' kd z un pl := by
  have g : ∀ j, j ≠ 4 → (h' 0).2.2 j = (h 0).2.2 j := fun j hj => by rw [e, hS_g, if_neg (fun z => hj z.2)]
  exact ⟨t.1.set e (by decide) (by decide), by rw [g 3 (by decide)]; exact t.2.1, by rw [e, hS_g, if_pos ⟨rfl, rfl⟩], by rw [g 5 (by decide)]; exact t.2.2.2.1, by rw [g 6 (by decide)]; exact t.2.2.2.2⟩
theorem isD.s5 {n : Nat} {h h' : xH} {kd mn un pl z : Int} (t : isD n h kd mn un pl) (e : h' = hS h 0 5 z) : isD n h' kd mn z pl := by
  have g : ∀ j, j ≠ 5 → (h' 0).2.2 j = (h 0).2.2 j := fun j hj => by rw [e, hS_g, if_neg (fun z => hj z.2)]
  exact ⟨t.1.set e (by decide) (by decide), by rw [g 3 (by decide)]; exact t.2.1, by rw [g 4 (by decide)]; exact t.2.2.1, by rw [e, hS_g, if_pos ⟨rfl, rfl⟩], by rw [g 6 (by decide)]; exact t.2.2.2.2⟩
theorem isD.s6 {n : Nat} {h h' : xH} {kd mn un pl z : Int} (t : isD n h kd mn un pl) (e : h' = hS h 0 6 z) : isD n h' kd mn un z := by
  have g : ∀ j, j ≠ 6 → (h' 0).2.2 j = (h 0).2.2 j := fun j hj => by rw [e, hS_g, if_neg (fun z => hj z.2)]
  exact ⟨t.1.set e (by decide) (by decide), by rw [g 3 (by decide)]; exact t.2.1, by rw [g 4 (by decide)]; exact t.2.2.1, by rw [g 5 (by decide)]; exact t.2.2.2.1, by rw [e, hS_g, if_pos ⟨rfl, rfl⟩]⟩
abbrev s0 : Nat → Prop := fun i => i = 0
theorem sp_finite {G : xG} {l : Launch} {n : Nat} {h : xH} {kd mn un pl sg u p : Int} {Po : xH → Prop} (t : isD n h kd mn un pl) (hs : sg = 0 ∨ sg = 1) (hp : ∀ h', hE s0 h h' → isD n h' 2 sg u p → Po h') : S_X4_becomeFinite G l 0 sg u p n h Po := by
  refine S_X4_becomeFinite_of (fun k hl C E => X4_becomeFinite_b0 C E 0 sg u p n h rfl ⟨t.ok, fun h1 e1 => ?_⟩)
  have t1 := t.s3 e1
  refine ⟨t1.ok, hs, fun h2 e2 => ?_⟩
  have t2 := t1.s4 e2
  refine ⟨t2.ok, fun h3 e3 => ?_⟩
  have t3 := t2.s5 e3
  refine ⟨t3.ok, fun h4 e4 => hp h4 ((((hE.put' (S := s0) e1 rfl).tr (hE.put' e2 rfl)).tr (hE.put' e3 rfl)).tr (hE.put' e4 rfl)) (t3.s6 e4)⟩
theorem sp_infinite {G : xG} {l : Launch} {n : Nat} {h : xH} {kd mn un pl sg : Int} {Po : xH → Prop} (t : isD n h kd mn un pl) (hs : sg = 0 ∨ sg = 1) (hp : ∀ h', hE s0 h h' → isD n h' 3 sg un pl → Po h') : S_X4_becomeInfinite G l 0 sg n h Po := by
  refine S_X4_becomeInfinite_of (fun k hl C E => X4_becomeInfinite_b0 C E 0 sg n h rfl ⟨t.ok, fun h1 e1 => ?_⟩)
  have t1 := t.s3 e1
  exact ⟨t1.ok, hs, fun h2 e2 => hp h2 ((hE.put' (S := s0) e1 rfl).tr (hE.put' e2 rfl)) (t1.s4 e2)⟩
theorem sp_nan {G : xG} {l : Launch} {n : Nat} {h : xH} {kd mn un pl : Int} {Po : xH → Prop} (t : isD n h kd mn un pl) (hp : ∀ h', hE s0 h h' → isD n h' 4 0 un pl → Po h') : S_X4_becomeNotANumber G l 0 n h Po := by
  refine S_X4_becomeNotANumber_of (fun k hl C E => X4_becomeNotANumber_b0 C E 0 n h rfl ⟨t.ok, fun h1 e1 => ?_⟩)
  have t1 := t.s3 e1
  exact ⟨t1.ok, Or.inl rfl, fun h2 e2 => hp h2 ((hE.put' (S := s0) e1 rfl).tr (hE.put' e2 rfl)) (t1.s4 e2)⟩
theorem sp_none {G : xG} {l : Launch} {n : Nat} {h : xH} {kd mn un pl : Int} {Po : xH → Prop} (t : isD n h kd mn un pl) (hp : ∀ h', hE s0 h h' → isD n h' 0 0 un pl → Po h') : S_X4_becomeNone G l 0 n h Po := by
  refine S_X4_becomeNone_of (fun k hl C E => X4_becomeNone_b0 C E 0 n h rfl ⟨t.ok, fun h1 e1 => ?_⟩)
  have t1 := t.s3 e1
  exact ⟨t1.ok, Or.inl rfl, fun h2 e2 => hp h2 ((hE.put' (S := s0) e1 rfl).tr (hE.put' e2 rfl)) (t1.s4 e2)⟩
theorem sp_zero {G : xG} {l : Launch} {n : Nat} {h : xH} {kd mn un pl sg : Int} {Po : xH → Prop} (t : isD n h kd mn un pl) (hs : sg = 0 ∨ sg = 1) (hp : ∀ h', hE s0 h h' → isD n h' 2 sg 0 (-1074) → Po h') : S_X4_becomeZero G l 0 sg n h Po := by
  refine S_X4_becomeZero_of (fun k hl C E => X4_becomeZero_b0 C E 0 sg n h rfl ⟨t.ok, sp_finite t hs (fun h1 e1 t1 => hp h1 e1 t1)⟩)
theorem sp_exactNum {G : xG} {l : Launch} {n : Nat} {h : xH} {kd mn un pl sg v : Int} {Po : xH → Prop} (t : isD n h kd mn un pl) (hs : sg = 0 ∨ sg = 1) (q : isN n h 6 v) (hp : ∀ h', hE s0 h h' → isD n h' 1 (if v = 0 then 0 else sg) un pl → Po h') : S_X4_becomeExactNumber G l 0 sg n h Po := by
  refine S_X4_becomeExactNumber_of (fun k hl C E => X4_becomeExactNumber_b0 C E 0 sg n h rfl ⟨t.ok, fun h1 e1 => ?_⟩)
  have t1 := t.s3 e1
  have f1 : hE s0 h h1 := hE.put' e1 rfl
  have q1 : isN n h1 6 v := q.mv f1 (by decide) (by decide)
  have w25 : ∀ s, (s = 0 ∨ s = 1) → s = (if v = 0 then 0 else sg) → X4_becomeExactNumber_w25 G k s 0 n h1 := fun s h01 hs2 => X4_becomeExactNumber_b25 C E s 0 n h1 rfl ⟨t1.ok, h01, fun h2 e2 => hp h2 (f1.tr (hE.put' e2 rfl)) (by rw [← hs2]; exact t1.s4 e2)⟩
  have w24 : (if v = 0 then 0 else sg) = 0 → X4_becomeExactNumber_w24 G k 0 n h1 := fun z => X4_becomeExactNumber_b24 C E 0 n h1 rfl (w25 0 (Or.inl rfl) z.symm)
  refine ⟨by rcases hs with z | z <;> rw [z] <;> exact rgS (by decide) (by decide), fun z => w24 ?_, fun z => ?_⟩
  · split
    · rfl
    · exact z
  · rw [t1.f7]
    refine ⟨t1.ok, by decide, q1.1.ok, sp_isZero q1 ?_⟩
    by_cases g : v = 0
    · rw [if_pos g]
      exact ⟨rgS (by decide) (by decide), fun _ => w24 (by rw [if_pos g]), fun y => absurd y (by decide)⟩
    · rw [if_neg g]
      exact ⟨rg0, fun y => absurd rfl y, fun _ => w25 1 (Or.inr rfl) (by rw [if_neg g]; rcases hs with y | y; exact absurd y z; exact y.symm)⟩
theorem sp_quotient {G : xG} {l : Launch} {n : Nat} {h : xH} {kd mn un pl V W : Int} {c : Nat} {Po : Int → xH → Prop} (t : isD n h kd mn un pl) (qv : isN n h 6 V) (qw : isN n h 8 W) (hV : V < 2 * W) (hW : W < 2 ^ 4220) (hc : c ≤ 60) (hp : ∀ h' q v, hE (sN 6) h h' → V * 2 ^ c = 2 * W * q + v → 0 ≤ v → v < 2 * W → 0 ≤ q → q < 2 ^ c → isN n h' 6 v → Po q h') : S_X4_takeQuotient G l 0 c n h Po := by
  refine S_X4_takeQuotient_of (fun k hl C E => X4_takeQuotient_b0 C E 0 c n h rfl ?_)
  suffices K : ∀ (u i : Nat) (q v : Int) (h1 : xH), i + u = c → hE (sN 6) h h1 → V * 2 ^ i = 2 * W * q + v → v < 2 * W → 0 ≤ q → q < 2 ^ i → isN n h1 6 v → X4_takeQuotient_w5 G k 0 c q i n h1 by
    refine K c 0 0 V h (by omega) hE.rf ?_ hV (by decide) (by decide) qv
    rw [Int.pow_zero]; omega
  intro u
  induction u with
  | zero =>
    intro i q v h1 hi he hv v1 q0 q1 n1
    have : i = c := by omega
    subst this
    exact X4_takeQuotient_b5 C E 0 i q i n h1 rfl ⟨⟨rg_nat (by omega), rg_nat (by omega)⟩, fun _ => hp h1 q v he hv n1.nn.1 v1 q0 q1 n1, fun g => by omega⟩
  | succ u ih =>
    intro i q v h1 hi he hv v1 q0 q1 n1
    have t1 := t.mv he (by decide)
    have w1 : isN n h1 8 W := qw.mv he (by decide) (by decide)
    have p60 := pw_mono (show i ≤ 59 by omega)
    have e59 : (2 : Int) ^ 59 = 576460752303423488 := by decide
    have hsl : lSl q 1 = 2 * q := by
      have := lSl_w q 1 (by decide)
      rw [show ((1 : Nat) : Int) = 1 from rfl] at this
      rw [this, show (2 : Int) ^ 1 = 2 from rfl, w64_id ⟨by omega, by omega⟩]
      omega
    have hor : lO (2 * q) 1 = 2 * q + 1 := by
      rw [lO_add (s := 1) q.toNat (by rw [Int.natCast_mul, Int.toNat_of_nonneg q0]; show _ = q * 2; omega) (by decide) (by decide)]
      exact w64_id ⟨by omega, by omega⟩
    have hpw : (2 : Int) ^ (i + 1) = 2 * 2 ^ i := by rw [Int.pow_succ]; omega
    have w44 : ∀ (q' v' : Int) (h2 : xH), hE (sN 6) h h2 → isN n h2 6 v' → v' < W → V * 2 ^ (i + 1) = 2 * W * q' + 2 * v' → 0 ≤ q' → q' < 2 ^ (i + 1) → X4_takeQuotient_w44 G k 0 c q' i n h2 := by
      intro q' v' h2 he2 n2 hvW hv2 q0' q1'
      have t2 := t.mv he2 (by decide)
      refine X4_takeQuotient_b44 C E 0 c q' i n h2 rfl ?_
      rw [t2.f7]
      have hfit : v' * 2 + 0 < 4294967296 ^ 132 := fit132 (t := 4221) (by rw [show 4221 = 4220 + 1 from rfl, Int.pow_succ]; omega) (by decide)
      refine ⟨t2.ok, by decide, n2.1.ok, sp_mulAdd n2 (by decide) (by decide) (by decide) (by decide) hfit (fun h3 e3 n3 => ?_)⟩
      rw [Int.add_zero] at n3
      exact ih (i + 1) q' (v' * 2) h3 (by omega) (he2.tr e3) (by rw [hv2]; omega) (by omega) q0' q1' n3
    refine X4_takeQuotient_b5 C E 0 c q i n h1 rfl ⟨⟨rg_nat (by omega), rg_nat (by omega)⟩, fun g => by omega, fun _ => ?_⟩
    rw [t1.f7, t1.f8, hsl]
    have hV2 : V * 2 ^ (i + 1) = 2 * W * (2 * q) + 2 * v := by
      rw [hpw, show V * (2 * 2 ^ i) = 2 * (V * 2 ^ i) by rw [Int.mul_left_comm], hv, Int.mul_add, Int.mul_left_comm 2 (2 * W)]
    refine ⟨t1.ok, by decide, t1.ok, by decide, n1.1.ok, sp_compare n1 w1 ⟨rg_ord _ _, fun o => w44 (2 * q) v h1 he n1 ?_ hV2 (by omega) (by omega), fun o => ?_⟩⟩
    · unfold ord at o
      split at o
      · assumption
      · split at o <;> omega
    · have hle : W ≤ v := by
        unfold ord at o
        split at o
        · omega
        · omega
      rw [t1.f7, t1.f8, hor]
      refine ⟨t1.ok, by decide, t1.ok, by decide, n1.1.ok, sp_subtract n1 w1 (by decide) hle (fun h2 e2 n2 => w44 (2 * q + 1) (v - W) h2 (he.tr e2) n2 (by omega) ?_ (by omega) (by omega))⟩
      rw [hV2, Int.mul_add]
      omega
