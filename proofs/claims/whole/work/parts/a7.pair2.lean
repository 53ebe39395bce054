/-! THE CLASS AND THE MODEL, SIDE BY SIDE: calls that make numbers -/
theorem Iv_mk {n n' : Nat} {h h' : xH} {S : Nat → Prop} {kd mn un pl v w fc tl z0 z' : Int} {T O : List Int} (s : cS n h kd mn un pl v w T O) (tw : isWr n h O fc tl z0) (tx : isTx h T) (hT : cdL T) (hO : cdL O) (e : hF S n h h') (hn : n ≤ n') (hs : ∀ i, S i → 26 ≤ i ∧ i ≤ 45) (tm : isM n' h' (O.length : Int) (T.length : Int) z') (nu : nuM n' h' z' kd mn un pl v w) : Iv n' h' :=
  ⟨kd, mn, un, pl, v, w, T, O, s.fr e hn (fun i y => by have := hs i y; omega), ⟨⟨_, z', tw.frM e (fun y => by have := hs 46 y; omega) tm, nu⟩, tx.fr e tw.1.1.1 (fun y => by have := hs 47 y; omega)⟩, hT, hO⟩
theorem cS.num {n : Nat} {h h1 : xH} {kd mn un pl v w kd' mn' un' pl' v' w' : Int} {T O : List Int} (s : cS n h kd mn un pl v w T O) (e : hE s068 h h1) (d : isD n h1 kd' mn' un' pl') (q6 : isN n h1 6 v') (q8 : isN n h1 8 w') : cS n h1 kd' mn' un' pl' v' w' T O := by
  obtain ⟨_, ⟨f, u⟩, ⟨c, m, o, hc, hm⟩, _, _, ⟨xa, a⟩, ⟨xb, b⟩, ⟨D, pt, q⟩, ⟨r, w', a', b', z⟩⟩ := s
  have ns : ∀ {i : Nat}, i ≠ 0 → i ≠ 6 → i ≠ 7 → i ≠ 8 → i ≠ 9 → ¬ s068 i := by
    rintro i h0 h6 h7 h8 h9 (y | (y | y) | (y | y)) <;> omega
  exact ⟨d, ⟨f, u.mv e (ns (by decide) (by decide) (by decide) (by decide) (by decide)) (ns (by decide) (by decide) (by decide) (by decide) (by decide)) (ns (by decide) (by decide) (by decide) (by decide) (by decide))⟩, ⟨c, m, o.mv e (ns (by decide) (by decide) (by decide) (by decide) (by decide)) (ns (by omega) (by omega) (by omega) (by omega) (by omega)), hc, hm⟩, q6, q8, ⟨xa, a.mv e (ns (by decide) (by decide) (by decide) (by decide) (by decide)) (ns (by decide) (by decide) (by decide) (by decide) (by decide))⟩, ⟨xb, b.mv e (ns (by decide) (by decide) (by decide) (by decide) (by decide)) (ns (by decide) (by decide) (by decide) (by decide) (by decide))⟩, ⟨D, pt, q.mv e (ns (by decide) (by decide) (by decide) (by decide) (by decide)) (ns (by decide) (by decide) (by decide) (by decide) (by decide))⟩, ⟨r, _, a', b', z.mv e (fun i p q => ns (by omega) (by omega) (by omega) (by omega) (by omega))⟩⟩
theorem mS.num {n : Nat} {h h1 : xH} {kd mn un pl v w : Int} {T O : List Int} (t : mS n h kd mn un pl v w T O) (e : hE s068 h h1) : mS n h1 kd mn un pl v w T O := t.fr (e.f (n := n)) (Nat.le_refl _) (fun i y => by rcases y with y | (y | y) | (y | y) <;> omega)
theorem sM_in : ∀ i, sM i → 26 ≤ i ∧ i ≤ 45 := fun i y => by rcases y with y | y <;> omega
theorem bl_nn (v : Int) : 0 ≤ bl v := by unfold bl; split <;> omega
theorem bl_lt' {v : Int} {k : Nat} (h : bl v ≤ k) (hk : 0 < k) : v < 2 ^ k := by
  rcases Int.lt_or_le 0 v with g | g
  · obtain ⟨t, t1, t2⟩ := ex_bits g
    have b := bl_of t1 t2
    have := pw_mono (show t + 1 ≤ k by omega)
    omega
  · have := pw_pos k; omega
theorem low_le {v w V W : Int} (hw : 0 < w) (h : lowR v w V W) : V ≤ v ∧ W ≤ w := by
  obtain ⟨A, B, d, l1, l2, l3, l4, l5, l6⟩ := h
  have hd : 0 < d := by
    rcases Nat.eq_zero_or_pos d with y5 | y5
    · rw [y5, Nat.mul_zero] at l4; omega
    · exact y5
  have m1 := Nat.le_mul_of_pos_right A hd
  have m2 := Nat.le_mul_of_pos_right B hd
  omega
section PAIRS
variable {G : xG} {l : Launch} {n : Nat} {h : xH} {A : Prop} {K X : Nat → xH → Prop}
theorem lw_make {sg u p : Int} {M : Int → xH → Prop} (I : Iv n h) (hs : sg = 0 ∨ sg = 1) (hu : rgL u) (hp : rg p) (hM : ∀ z h', (okO n h' 26 8 ∧ S_X9_make G l 26 sg u p n h' (fun z7 n9 h8 => (rg z ∧ rg z7) ∧ ((z = z7 → K n9 h8) ∧ (¬ z = z7 → X n9 h8)))) → M z h') (hK : ∀ n' h', Iv n' h' → K n' h') : okO n h 0 4 ∧ S_X4_make G l 0 sg u p n h M := by
  have I' := I
  obtain ⟨kd, mn, un, pl, v, w, T, O, s, t, hT, hO⟩ := I
  refine ⟨s.d.ok, sp_make s.d s.2.2.2.1 s.2.2.2.2.1 hs hu hp (fun u0 p0 p1 h1 e m v' w' e1 hnr hfin q6 q8 => hM 1 h1 ?_) (fun hno => hM 0 h ?_)⟩
  · obtain ⟨⟨fc, z, t1, t2⟩, t3⟩ := t.num e1
    obtain ⟨kd', un', pl', d1, d2, d3, d4⟩ := fin_vl hnr hfin hs
    have s1 := s.num e1 d1 q6 q8
    refine ⟨t1.1.ok, sp_makeM t1.1 hs hu hp (fun _ _ _ h2 n2 z2 x e2 m2 f2 hn1 hn2 tm2 hnr2 hrl hvl => ⟨⟨rgS (by decide) (by decide), rgS (by decide) (by decide)⟩, fun _ => hK n2 h2 ?_, fun y => absurd rfl y⟩) (fun hno => absurd ⟨u0, p0, p1⟩ hno)⟩
    obtain ⟨c1, c2⟩ := nr_u (Int.mul_pos (by decide) (pw_pos _)) hnr hnr2
    subst c1 c2
    exact Iv_mk s1 t1 t3 hT hO f2 hn1 sM_in tm2 (d4 n2 h2 z2 x v' w' hrl hvl)
  · obtain ⟨⟨fc, z, t1, t2⟩, t3⟩ := t
    exact ⟨t1.1.ok, sp_makeM t1.1 hs hu hp (fun u0 p0 p1 => absurd ⟨u0, p0, p1⟩ hno) (fun _ => ⟨⟨rg0, rg0⟩, fun _ => hK n h I', fun y => absurd rfl y⟩)⟩
theorem lw_divide {B : Int → xH → Prop → Prop} {a d : Int} (hB : ∀ z h' P, P → B z h' P) (I : Iv n h) (ha : rgL a) (hd : rgL d) (hK : ∀ n' h', Iv n' h' → K n' h') : okO n h 0 4 ∧ S_X4_divide G l 0 a d n h (fun z10 h11 => B z10 h11 (okO n h11 26 8 ∧ S_X9_divide G l 26 a d n h11 (fun z21 n23 h22 => (rg z10 ∧ rg z21) ∧ ((z10 = z21 → K n23 h22) ∧ (¬ z10 = z21 → X n23 h22))))) := by
  have I' := I
  obtain ⟨kd, mn, un, pl, v, w, T, O, s, t, hT, hO⟩ := I
  have hs : (if a < 0 then (1 : Int) else 0) = 0 ∨ (if a < 0 then (1 : Int) else 0) = 1 := by split; exact Or.inr rfl; exact Or.inl rfl
  refine ⟨s.d.ok, sp_divide s.d s.2.2.2.1 s.2.2.2.2.1 ha hd (fun d0 h1 e m v' w' e1 hnr hfin q6 q8 => hB 1 h1 _ ?_) (fun hno => hB 0 h _ ?_)⟩
  · obtain ⟨⟨fc, z, t1, t2⟩, t3⟩ := t.num e1
    obtain ⟨kd', un', pl', d1, d2, d3, d4⟩ := fin_vl hnr hfin hs
    have s1 := s.num e1 d1 q6 q8
    refine ⟨t1.1.ok, sp_divideM t1.1 ha hd (fun _ h2 n2 z2 x e2 m2 f2 hn1 hn2 tm2 hnr2 hrl hvl => ⟨⟨rgS (by decide) (by decide), rgS (by decide) (by decide)⟩, fun _ => hK n2 h2 ?_, fun y => absurd rfl y⟩) (fun hno => absurd d0 hno)⟩
    obtain ⟨c1, c2⟩ := nr_u d0 hnr hnr2
    subst c1 c2
    have hsg : sgB (if a < 0 then 1 else 0) = decide (a < 0) := by unfold sgB; split <;> simp_all
    rw [← hsg] at hvl
    exact Iv_mk s1 t1 t3 hT hO f2 hn1 sM_in tm2 (d4 n2 h2 z2 x v' w' hrl hvl)
  · obtain ⟨⟨fc, z, t1, t2⟩, t3⟩ := t
    exact ⟨t1.1.ok, sp_divideM t1.1 ha hd (fun d0 => absurd d0 hno) (fun _ => ⟨⟨rg0, rg0⟩, fun _ => hK n h I', fun y => absurd rfl y⟩)⟩
theorem sp_exactN {kd mn un pl : Int} {Po : Int → xH → Prop} (t : isD n h kd mn un pl) (hk : rg kd) (hne : kd ≠ 2) (hp : Po 0 h) : S_X4_exact G l 0 n h Po := by
  refine S_X4_exact_of (fun k hl C E => X4_exact_b0 C E 0 n h rfl ?_)
  have g : hG h 0 3 = kd := t.2.1
  rw [g]
  exact ⟨t.ok, ⟨hk, rgS (by decide) (by decide)⟩, fun y => absurd y hne, fun _ => ⟨Or.inl rfl, hp⟩⟩
theorem lw_exact (I : Iv n h) (hK : ∀ n' h', Iv n' h' → K n' h') : okO n h 0 4 ∧ S_X4_exact G l 0 n h (fun z2 h3 => okO n h3 26 8 ∧ S_X9_exact G l 26 n h3 (fun z5 n7 h6 => (rg z2 ∧ rg z5) ∧ ((z2 = z5 → K n7 h6) ∧ (¬ z2 = z5 → X n7 h6)))) := by
  have I' := I
  obtain ⟨kd, mn, un, pl, v, w, T, O, s, t, hT, hO⟩ := I
  obtain ⟨⟨fc, z, t1, t2⟩, t3⟩ := t
  have rr := t2.rgs
  refine ⟨s.d.ok, ?_⟩
  by_cases g : kd = 2
  · obtain ⟨c, c1, c2⟩ := t2.fin g
    subst c1
    obtain ⟨b1, b2, b3, b4⟩ := c2
    have h53 : (2 : Int) ^ 53 = 9007199254740992 := by decide
    have n53 : (2 : Nat) ^ 53 = 9007199254740992 := by decide
    refine sp_exact s.d (rgS (by omega) (by omega)) s.2.2.2.1 s.2.2.2.2.1 rr.2.2 (fun _ => ⟨by omega, b2, b3⟩) (fun _ h1 V W e1 hlw d1 q6 q8 => ?_) (fun y => absurd g y)
    obtain ⟨⟨fc, z, t1, t2⟩, t3⟩ := mS.num (⟨⟨fc, z, t1, t2⟩, t3⟩ : mS n h kd mn (c : Int) pl v w T O) e1
    have s1 := s.num e1 d1 q6 q8
    refine ⟨t1.1.ok, sp_exactM t1.1 t2 (fun _ h2 n2 z2 V' W' f2 hn1 hn2 tm2 hlw2 hV hW hVW hex => ⟨⟨rgS (by decide) (by decide), rgS (by decide) (by decide)⟩, fun _ => hK n2 h2 ?_, fun y => absurd rfl y⟩) (fun y => absurd g y)⟩
    obtain ⟨u1, u2⟩ := low_u (pw_pos _) hlw hlw2
    subst u1 u2
    have hle := low_le (pw_pos _) hlw
    have bV : bl V ≤ 4096 := by
      have a1 : (c : Int) * 2 ^ pl.toNat < 2 ^ 53 * 2 ^ pl.toNat := Int.mul_lt_mul_of_pos_right (by omega) (pw_pos _)
      rw [← Int.pow_add] at a1
      have a2 := pw_mono (show 53 + pl.toNat ≤ 4096 by omega)
      have := bl_le (t := 4096) (show V < 2 ^ 4096 by omega)
      omega
    have bW : bl W ≤ 4096 := by
      have a2 := pw_add_le (show (-pl).toNat ≤ 4095 by omega)
      have := bl_le (t := 4096) (show W < 2 ^ 4096 by omega)
      omega
    refine Iv_mk s1 t1 t3 hT hO f2 hn1 sM_in tm2 (Or.inr ⟨z2, rfl, by split; exact Or.inl rfl; exact rr.2.2, Or.inl ⟨rfl, ?_, hV, hW, fun y => ⟨by rw [if_pos y], hVW y⟩, bV, bW⟩⟩)
    by_cases gV : V = 0
    · rw [if_pos gV] at hex ⊢; exact hex
    · rw [if_neg gV] at hex ⊢; rw [if_neg gV]; exact hex
  · refine sp_exactN s.d (rgS (by omega) (by omega)) g ⟨t1.1.ok, sp_exactM t1.1 t2 (fun y => absurd y g) (fun _ => ⟨⟨rg0, rg0⟩, fun _ => hK n h I', fun y => absurd rfl y⟩)⟩
theorem lw_inexact (I : Iv n h) (hK : ∀ n' h', Iv n' h' → K n' h') : okO n h 0 4 ∧ S_X4_inexact G l 0 n h (fun z2 h3 => okO n h3 26 8 ∧ S_X9_inexact G l 26 n h3 (fun z5 n7 h6 => (rg z2 ∧ rg z5) ∧ ((z2 = z5 → K n7 h6) ∧ (¬ z2 = z5 → X n7 h6)))) := by
  have I' := I
  obtain ⟨kd, mn, un, pl, v, w, T, O, s, t, hT, hO⟩ := I
  obtain ⟨⟨fc, z, t1, t2⟩, t3⟩ := t
  have rr := t2.rgs
  refine ⟨s.d.ok, sp_inexact s.d (rgS (by omega) (by omega)) s.2.2.2.1 s.2.2.2.2.1 rr.2.2 (fun y => ?_) (fun g h1 e m v' w' e1 hnr hfin q6 q8 => ?_) (fun y => ⟨t1.1.ok, sp_inexactM t1.1 t2 (fun y2 => absurd y2 y) (fun _ => ⟨⟨rg0, rg0⟩, fun _ => hK n h I', fun y => absurd rfl y⟩)⟩)⟩
  · obtain ⟨b1, b2, b3, b4, b5⟩ := t2.exb y
    have a1 := bl_lt' (k := 4096) b4 (by decide)
    have a2 := bl_lt' (k := 4096) b5 (by decide)
    have a3 := pw_mono (show 4096 ≤ 4200 by decide)
    exact ⟨b2, by omega, by omega⟩
  · have hw := (t2.exb g).2.1
    obtain ⟨⟨fc, z, t1, t2⟩, t3⟩ := mS.num (⟨⟨fc, z, t1, t2⟩, t3⟩ : mS n h kd mn un pl v w T O) e1
    obtain ⟨kd', un', pl', d1, d2, d3, d4⟩ := fin_vl hnr hfin rr.2.2
    have s1 := s.num e1 d1 q6 q8
    refine ⟨t1.1.ok, sp_inexactM t1.1 t2 (fun _ h2 n2 z2 x e2 m2 f2 hn1 hn2 tm2 hnr2 hrl hvl => ⟨⟨rgS (by decide) (by decide), rgS (by decide) (by decide)⟩, fun _ => hK n2 h2 ?_, fun y => absurd rfl y⟩) (fun y => absurd g y)⟩
    obtain ⟨c1, c2⟩ := nr_u hw hnr hnr2
    subst c1 c2
    exact Iv_mk s1 t1 t3 hT hO f2 hn1 sM_in tm2 (d4 n2 h2 z2 x v' w' hrl hvl)
theorem lw_bitsC {b : Int} {M : Int → xH → Prop} (I : Iv n h) (hb : b = 0 ∨ b = 1) (hM : ∀ z h', (okO n h' 26 8 ∧ S_X9_bits G l 26 b n h' (fun z2 n4 h3 => (rg z ∧ rg z2) ∧ ((z = z2 → K n4 h3) ∧ (¬ z = z2 → X n4 h3)))) → M z h') (hK : ∀ n' h', Iv n' h' → K n' h') : okO n h 0 4 ∧ S_X4_bits G l 0 b n h M := by
  obtain ⟨kd, mn, un, pl, v, w, T, O, s, t, hT, hO⟩ := I
  obtain ⟨⟨fc, z, t1, t2⟩, t3⟩ := t
  have rr := t2.rgs
  have r1 : rg (if kd = 1 then (if b = 0 then bl v else bl w) else -1) := by
    split
    · rename_i y
      obtain ⟨b1, b2, b3, b4, b5⟩ := t2.exb y
      have := bl_nn v
      have := bl_nn w
      split <;> exact rgS (by omega) (by omega)
    · exact rgS (by decide) (by decide)
  refine ⟨s.d.ok, sp_bits s.d (rgS (by omega) (by omega)) hb s.2.2.2.1 s.2.2.2.2.1 (hM _ h ⟨t1.1.ok, sp_bitsM t1.1 t2 hb (fun n2 h2 f2 hn1 hn2 tm2 => ⟨⟨r1, r1⟩, fun _ => hK n2 h2 (Iv_mk s t1 t3 hT hO f2 hn1 (fun i y => by have : i = 28 := y; omega) tm2 (t2.fr f2 hn1 (fun i hi y => by have : i = 28 := y; omega))), fun y => absurd rfl y⟩)⟩)⟩
end PAIRS
