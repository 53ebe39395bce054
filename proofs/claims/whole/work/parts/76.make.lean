/-! MAKE, DIVIDE, INEXACT -/
theorem nr_0 {N D e m : Int} (h : nrR (N * 2 ^ (0 : Int).toNat) (D * 2 ^ (-(0 : Int)).toNat) e m) : nrR N D e m := by
  rw [show (0 : Int).toNat = 0 from rfl, show (-(0 : Int)).toNat = 0 from rfl, Int.pow_zero, Int.mul_one, Int.mul_one] at h
  exact h
theorem sp_make {G : xG} {l : Launch} {n : Nat} {h : xH} {kd mn un pl v0 w0 sg u p : Int} {Po : Int → xH → Prop} (t : isD n h kd mn un pl) (q6 : isN n h 6 v0) (q8 : isN n h 8 w0) (hs : sg = 0 ∨ sg = 1) (hu : rgL u) (hpp : rg p) (hy : 0 ≤ u → -2000 ≤ p → p ≤ 2000 → ∀ h' e m v' w', hE s068 h h' → nrR (u * 2 ^ p.toNat) (1 * 2 ^ (-p).toNat) e m → finD n h' sg m e → isN n h' 6 v' → isN n h' 8 w' → Po 1 h') (hn : ¬ (0 ≤ u ∧ -2000 ≤ p ∧ p ≤ 2000) → Po 0 h) : S_X4_make G l 0 sg u p n h Po := by
  refine S_X4_make_of (fun k hl C E => ?_)
  have w22 : ¬ (0 ≤ u ∧ -2000 ≤ p ∧ p ≤ 2000) → X4_make_w22 G k n h := fun z => X4_make_b22 C E n h rfl ⟨Or.inl rfl, hn z⟩
  refine X4_make_b0 C E 0 sg u p n h rfl ⟨⟨hu, ⟨by decide, by decide⟩⟩, fun g => w22 (fun z => ?_), fun g => ⟨⟨hpp, rgS (by decide) (by decide)⟩, fun g2 => w22 (fun z => by omega), fun g2 => ⟨⟨hpp, rgS (by decide) (by decide)⟩, fun g3 => ?_, fun g3 => w22 (fun z => by omega)⟩⟩⟩
  · have := (lC_lt u 0).mp g; omega
  · have hu0 : 0 ≤ u := by
      rcases Int.lt_or_le u 0 with y | y
      · exact absurd ((lC_lt u 0).mpr y) g
      · exact y
    have hu1 := hu.2
    rw [t.f7]
    refine ⟨t.ok, by decide, q6.1.ok, sp_set q6.1 (fun h1 e1 a1 => ?_)⟩
    rw [Int.emod_eq_of_lt hu0 (by omega)] at a1
    have t1 := t.mv e1 (by decide)
    have b1 := q8.mv e1 (by decide) (by decide)
    rw [t1.f8]
    refine ⟨t1.ok, by decide, b1.1.ok, sp_set b1.1 (fun h2 e2 b2 => ?_)⟩
    have b2 : isN n h2 8 1 := b2
    have t2 := t1.mv e2 (by decide)
    have a2 := a1.mv e2 (by decide) (by decide)
    have big : (9223372036854775808 : Int) ≤ 2 ^ 4200 := by
      rw [show (9223372036854775808 : Int) = 2 ^ 63 by decide]; exact pw_mono (by decide)
    refine ⟨t2.ok, sp_nearest t2 hs a2 b2 (by decide) (by omega) (by omega) (by omega) (by omega) (fun h3 e m v' w' e3 hnr hf q3 r3 => ⟨Or.inr rfl, ?_⟩)⟩
    exact hy hu0 (by omega) (by omega) h3 e m v' w' (((e1.mono (fun i hi => Or.inr (Or.inl hi))).tr (e2.mono (fun i hi => Or.inr (Or.inr hi)))).tr e3) hnr hf q3 r3
theorem sp_inexact {G : xG} {l : Launch} {n : Nat} {h : xH} {kd mn un pl v w : Int} {Po : Int → xH → Prop} (t : isD n h kd mn un pl) (hk : rg kd) (q6 : isN n h 6 v) (q8 : isN n h 8 w) (hmn : mn = 0 ∨ mn = 1) (hv : kd = 1 → 0 < w ∧ v < 2 ^ 4200 ∧ w < 2 ^ 4200) (hy : kd = 1 → ∀ h' e m v' w', hE s068 h h' → nrR v w e m → finD n h' mn m e → isN n h' 6 v' → isN n h' 8 w' → Po 1 h') (hn : kd ≠ 1 → Po 0 h) : S_X4_inexact G l 0 n h Po := by
  refine S_X4_inexact_of (fun k hl C E => X4_inexact_b0 C E 0 n h rfl ?_)
  rw [t.f3, t.f4]
  refine ⟨t.ok, ⟨hk, rgS (by decide) (by decide)⟩, fun g => ⟨t.ok, t.ok, ?_⟩, fun g => ⟨Or.inl rfl, hn g⟩⟩
  have H := hv g
  exact sp_nearest t hmn q6 q8 H.1 H.2.1 H.2.2 (by decide) (by decide) (fun h3 e m v' w' e3 hnr hf q3 r3 => ⟨Or.inr rfl, hy g h3 e m v' w' e3 (nr_0 hnr) hf q3 r3⟩)
