/-! DIVIDE -/
theorem sp_divide {G : xG} {l : Launch} {n : Nat} {h : xH} {kd mn un pl v0 w0 a d : Int} {Po : Int → xH → Prop} (t : isD n h kd mn un pl) (q6 : isN n h 6 v0) (q8 : isN n h 8 w0) (ha : rgL a) (hd : rgL d) (hy : 0 < d → ∀ h' e m v' w', hE s068 h h' → nrR (if a < 0 then -a else a) d e m → finD n h' (if a < 0 then 1 else 0) m e → isN n h' 6 v' → isN n h' 8 w' → Po 1 h') (hn : ¬ 0 < d → Po 0 h) : S_X4_divide G l 0 a d n h Po := by
  refine S_X4_divide_of (fun k hl C E => ?_)
  have rL0 : rgL 0 := ⟨by decide, by decide⟩
  have ha1 := ha.1
  have ha2 := ha.2
  have hd2 := hd.2
  refine X4_divide_b0 C E 0 a d n h rfl ⟨⟨hd, rL0⟩, fun g => ?_, fun g => ⟨Or.inl rfl, hn (fun z => g ((lC_gt d 0).mpr z))⟩⟩
  have hd0 : 0 < d := (lC_gt d 0).mp g
  have lCle : 0 ≤ lC a 0 ↔ ¬ a < 0 := ⟨fun z y => by have := (lC_lt a 0).mpr y; omega, fun z => by
    rcases Int.lt_or_le (lC a 0) 0 with y | y
    · exact absurd ((lC_lt a 0).mp y) z
    · exact y⟩
  have big : (9223372036854775809 : Int) ≤ 2 ^ 4200 := by
    have : (2 : Int) ^ 64 ≤ 2 ^ 4200 := pw_mono (by decide)
    rw [show (2 : Int) ^ 64 = 18446744073709551616 by decide] at this
    omega
  have w24 : ∀ x, x = (if a < 0 then -a else a) → X4_divide_w24 G k 0 a d x 6 n h := by
    intro x hx
    have hx0 : 0 ≤ x ∧ x ≤ 9223372036854775808 := by rw [hx]; split <;> omega
    refine X4_divide_b24 C E 0 a d x 6 n h rfl ⟨q6.1.ok, sp_set q6.1 (fun h1 e1 a1 => ?_)⟩
    rw [Int.emod_eq_of_lt hx0.1 (by omega)] at a1
    have t1 := t.mv e1 (by decide)
    have b1 := q8.mv e1 (by decide) (by decide)
    rw [t1.f8]
    refine ⟨t1.ok, by decide, b1.1.ok, sp_set b1.1 (fun h2 e2 b2 => ?_)⟩
    rw [Int.emod_eq_of_lt (Int.le_of_lt hd0) (by omega)] at b2
    have t2 := t1.mv e2 (by decide)
    have a2 := a1.mv e2 (by decide) (by decide)
    have w47 : ∀ s, s = (if a < 0 then 1 else 0) → (s = 0 ∨ s = 1) → X4_divide_w47 G k s 0 n h2 := by
      intro s hs h01
      refine X4_divide_b47 C E s 0 n h2 rfl ⟨t2.ok, sp_nearest t2 h01 a2 b2 hd0 (by omega) (by omega) (by decide) (by decide) (fun h3 e m v' w' e3 hnr hf q3 r3 => ⟨Or.inr rfl, ?_⟩)⟩
      have hnr := nr_0 hnr
      rw [hx] at hnr
      rw [hs] at hf
      exact hy hd0 h3 e m v' w' (((e1.mono (fun i hi => Or.inr (Or.inl hi))).tr (e2.mono (fun i hi => Or.inr (Or.inr hi)))).tr e3) hnr hf q3 r3
    exact ⟨⟨ha, rL0⟩, fun g2 => w47 0 (by rw [if_neg (lCle.mp g2)]) (Or.inl rfl), fun g2 => w47 1 (by
      rw [if_pos]
      rcases Int.lt_or_le a 0 with y | y
      · exact y
      · exact absurd (lCle.mpr (by omega)) g2) (Or.inr rfl)⟩
  rw [t.f7]
  refine ⟨t.ok, by decide, ⟨ha, rL0⟩, fun g2 => w24 a (by rw [if_neg (lCle.mp g2)]), fun g2 => w24 (-a) ?_⟩
  rw [if_pos]
  rcases Int.lt_or_le a 0 with y | y
  · exact y
  · exact absurd (lCle.mpr (by omega)) g2
