/-! THE CLASS AND THE MODEL, SIDE BY SIDE: read and write -/
theorem rd_rg {n : Nat} {h : xH} {T : List Int} {ret : Int} (r : rdR n h T ret) : rg ret := by
  obtain ⟨fm, mn, ex, tn, v, w, _, c | c | c | c | c | c | c | c⟩ := r
  · rw [c.2.1]; exact rgS (by decide) (by decide)
  · rw [c.2.1]; exact rgS (by decide) (by decide)
  · rw [c.2.1]; exact rgS (by decide) (by decide)
  all_goals rw [c.2.2.1]; exact rgS (by decide) (by decide)
section PAIRS
variable {G : xG} {l : Launch} {n : Nat} {h : xH} {A : Prop} {K X : Nat → xH → Prop}
theorem lw_read (I : Iv n h) (hK : ∀ n' h', Iv n' h' → K n' h') : okO n h 0 4 ∧ S_X4_read G l 0 n h (fun z2 h3 => okO n h3 26 8 ∧ S_X9_read G l 26 n h3 (fun z5 n7 h6 => (rg z2 ∧ rg z5) ∧ ((z2 = z5 → K n7 h6) ∧ (¬ z2 = z5 → X n7 h6)))) := by
  obtain ⟨kd, mn, un, pl, v, w, T, O, s, t, hT, hO⟩ := I
  obtain ⟨d, ⟨f, u⟩, ⟨c, m, o, hc, hm⟩, v6, w8, ⟨xa, a⟩, ⟨xb, b⟩, ⟨D, pt, q⟩, ⟨r, w', a', b', z⟩⟩ := s
  refine ⟨d.ok, sp_read d u v6 w8 a b (fun h1 ret f' v' w' xa' xb' e1 hrd u1 i6 i8 i10 i12 => ?_)⟩
  have ns : ∀ {i : Nat}, i ≠ 0 → i ≠ 1 → (i < 6 ∨ 13 < i) → ¬ sR i := fun p q r y => by rcases y with y | y | y <;> omega
  have t1 := t.fr (e1.f (n := n)) (Nat.le_refl _) (fun i y => by rcases y with y | y | y <;> omega)
  obtain ⟨⟨fc, z0, t1, t2⟩, t3⟩ := t1
  have rr := rd_rg hrd
  refine ⟨t1.1.ok, sp_readM t1.1 t3 hT hrd i6 i8 (fun h2 n2 z2 kd' mn' un' pl' v2 w2 f2 hn1 hn2 tm2 hd2 j6 j8 hnu => ⟨⟨rr, rr⟩, fun _ => hK n2 h2 ?_, fun y => absurd rfl y⟩)⟩
  have s1 : cS n h1 kd' mn' un' pl' v2 w2 T O := ⟨hd2, ⟨f', u1⟩, ⟨c, m, o.mv e1 (ns (by decide) (by decide) (by decide)) (ns (by omega) (by omega) (by omega)), hc, hm⟩, j6, j8, ⟨xa', i10⟩, ⟨xb', i12⟩, ⟨D, pt, q.mv e1 (ns (by decide) (by decide) (by decide)) (ns (by decide) (by decide) (by decide))⟩, ⟨r, _, a', b', z.mv e1 (fun i p q => ns (by omega) (by omega) (by omega))⟩⟩
  exact Iv_mk s1 t1 t3 hT hO f2 hn1 sM_in tm2 hnu
theorem lw_write {b : Int} (aa : A) (I : Iv n h) (hb : rg b) (hK : ∀ n' h', Iv n' h' → K n' h') : okO n h 0 4 ∧ S_X4_write G l 0 b n h (fun z3 n5 h4 => A ∧ okO n5 h4 26 8 ∧ S_X9_write G l 26 b n5 h4 (fun z8 n10 h9 => (rg z3 ∧ rg z8) ∧ ((z3 = z8 → K n10 h9) ∧ (¬ z3 = z8 → X n10 h9)))) := by
  have I' := I
  obtain ⟨kd, mn, un, pl, v, w, T, O, s, t, hT, hO⟩ := I
  have t' := t
  obtain ⟨⟨fc, z0, t1, t2⟩, t3⟩ := t
  obtain ⟨d, ⟨f, u⟩, ⟨c, m, o, hc, hm⟩, v6, w8, ⟨xa, a⟩, ⟨xb, b0⟩, ⟨D, pt0, q⟩, ⟨r, w', a', b', z⟩⟩ := s
  have rr := t2.rgs
  -- the digits of a double
  obtain ⟨F, pt, hF1, hF2⟩ : ∃ (F : List Int) (pt : Int), (kd = 2 → 0 ≤ un ∧ un < 2 ^ 63 ∧ -1074 ≤ pl ∧ pl ≤ 971 ∧ findR un pl F pt ∧ (∀ i, 0 ≤ F.getD i 0 ∧ F.getD i 0 ≤ 20) ∧ -500 ≤ pt ∧ pt ≤ 500) ∧ (kd = 2 → (un = 0 → F = [0] ∧ pt = 1) ∧ (0 < un → ∃ p D, shR un pl p D F pt)) := by
    by_cases g : kd = 2
    · obtain ⟨cc, c1, c2⟩ := t2.fin g
      have h63 : (2 : Int) ^ 63 = 9223372036854775808 := by decide
      have c2' := c2
      obtain ⟨b1, b2, b3, b4⟩ := c2
      subst c1
      rcases Nat.eq_zero_or_pos cc with y | y
      · subst y
        refine ⟨[0], 1, fun _ => ⟨by omega, by omega, b2, b3, Or.inl ⟨rfl, rfl, rfl⟩, fun i => ?_, by decide, by decide⟩, fun _ => ⟨fun _ => ⟨rfl, rfl⟩, fun y => by omega⟩⟩
        rcases Nat.eq_zero_or_pos i with y | y
        · subst y; decide
        · rw [List.getD_eq_getElem?_getD, List.getElem?_eq_none (by simp; omega)]; decide
      · obtain ⟨p, D', L, pt', s1, s2, s3, s4, s5⟩ := short_ex c2' y
        exact ⟨L, pt', fun _ => ⟨by omega, by omega, b2, b3, s2, s3, s4, s5⟩, fun _ => ⟨fun y2 => by omega, fun _ => ⟨p, D', s1⟩⟩⟩
    · exact ⟨[0], 1, fun y => absurd y g, fun y => absurd y g⟩
  refine ⟨d.ok, sp_write (L := F) (pt := pt) d rr.2.2 rr.1 rr.2.1 o (by omega) hm v6 w8 a b0 q z hb (fun y => ?_) hF1 (fun hno => ⟨aa, t1.1.ok, sp_writeM t1.1 t2 hb hF2 (fun _ => ⟨⟨rgS (by decide) (by decide), rgS (by decide) (by decide)⟩, fun _ => hK n h I', fun y => absurd rfl y⟩) (fun y => absurd hno y)⟩) (fun hno n1 h1 c1 m1 Y D1 pd1 x10 x12 r1 w1 a1 b1 hn1 hn2 e1 hout o1 hm1 hc1 i10 i12 q1 z1 => ⟨aa, ?_⟩)⟩
  · obtain ⟨b1, b2, b3, b4, b5⟩ := t2.exb y
    exact ⟨b4, b5, b2, fun y2 => (b3 y2).2⟩
  · have h47 : 47 < n := t1.1.1.1
    have ns : ∀ {i : Nat}, i ≤ 47 → i ≠ 4 → i ≠ 5 → (i < 10 ∨ 25 < i) → ¬ sY c i := fun p0 p q r y => by rcases y with y | y | y <;> omega
    have tt1 : mS n1 h1 kd mn un pl v w T O := t'.fr e1 hn1 (fun i y => by
      rcases y with y | y | y
      · omega
      · rcases hc with y2 | y2
        · omega
        · refine Or.inr ⟨by omega, ?_⟩
          rw [y]; exact o.2.2.1.1
      · omega)
    obtain ⟨⟨fc1, z01, t11, t21⟩, t31⟩ := tt1
    have s1 : cS n1 h1 kd mn un pl v w T Y := ⟨d.fr e1 hn1 (ns (by decide) (by decide) (by decide) (by decide)), ⟨f, u.fr e1 hn1 (ns (by decide) (by decide) (by decide) (by decide)) (ns (by decide) (by decide) (by decide) (by decide)) (ns (by decide) (by decide) (by decide) (by decide))⟩, ⟨c1, m1, o1, by omega, hm1⟩, v6.fr e1 hn1 (ns (by decide) (by decide) (by decide) (by decide)) (ns (by decide) (by decide) (by decide) (by decide)), w8.fr e1 hn1 (ns (by decide) (by decide) (by decide) (by decide)) (ns (by decide) (by decide) (by decide) (by decide)), ⟨x10, i10⟩, ⟨x12, i12⟩, ⟨D1, pd1, q1⟩, ⟨r1, w1, a1, b1, z1⟩⟩
    have lY : Y.length ≤ 8226 := by have := o1.2.2.1.2.2; omega
    refine ⟨t11.1.ok, sp_writeM t11.1 t21 hb hF2 (fun y => absurd y hno) (fun _ n2 h2 Y2 fc2 hn3 hn4 f2 hout2 tw2 => ?_)⟩
    have eY := outW_u hout2 hout
    subst eY
    refine ⟨⟨rg_nat (by omega), rg_nat (by omega)⟩, fun _ => hK n2 h2 ?_, fun y => absurd rfl y⟩
    have sv : ∀ i, sV i → 26 ≤ i ∧ i ≤ 46 := fun i y => by rcases y with y | y <;> omega
    exact ⟨kd, mn, un, pl, v, w, T, Y2, s1.fr f2 hn3 (fun i y => by have := sv i y; omega), ⟨⟨fc2, z01, tw2, t21.fr f2 hn3 (fun i hi y => by have := sv i y; omega)⟩, t31.fr f2 t11.1.1.1 (fun y => by have := sv 47 y; omega)⟩, hT, cdL.out hno (fun y => (hF1 y).2.2.2.2.2.1) hout⟩
end PAIRS
