/-! THE SHORTEST DIGITS (cells 14 to 25) -/
def tyQ (n : Nat) (h : xH) : Prop := 25 < n ∧ (h 14).1 = 3 ∧ ((h 14).2.2 0 = 15 ∧ (h 14).2.2 3 = 16 ∧ (h 14).2.2 4 = 18 ∧ (h 14).2.2 5 = 20 ∧ (h 14).2.2 6 = 22 ∧ (h 14).2.2 7 = 24) ∧ (h 15).1 = 100 ∧ (h 15).2.1 = 20
/-- the digits found -/
def isQ (n : Nat) (h : xH) (L : List Int) (pt : Int) : Prop := tyQ n h ∧ (h 14).2.2 1 = (L.length : Int) ∧ (h 14).2.2 2 = pt ∧ L.length ≤ 20 ∧ (∀ i, i < L.length → (h 15).2.2 i = L.getD i 0)
def isZ (n : Nat) (h : xH) (r w a b : Int) : Prop := isN n h 16 r ∧ isN n h 18 w ∧ isN n h 20 a ∧ isN n h 22 b ∧ ∃ s, isN n h 24 s
abbrev sQ : Nat → Prop := fun i => 14 ≤ i ∧ i ≤ 25
theorem isQ.mv {n : Nat} {h h' : xH} {S : Nat → Prop} {L : List Int} {pt : Int} (t : isQ n h L pt) (e : hE S h h') (h0 : ¬ S 14) (h1 : ¬ S 15) : isQ n h' L pt := by
  obtain ⟨⟨t1, t2, t3, t4, t5⟩, t6, t7, t8, t9⟩ := t
  have ea := e 14
  have eb := e 15
  refine ⟨⟨t1, by rw [ea.1]; exact t2, by rw [ea.2.2 h0]; exact t3, by rw [eb.1]; exact t4, by rw [eb.2.1]; exact t5⟩, by rw [ea.2.2 h0]; exact t6, by rw [ea.2.2 h0]; exact t7, t8, fun i hi => by rw [eb.2.2 h1]; exact t9 i hi⟩
theorem isQ.ok {n : Nat} {h : xH} {L : List Int} {pt : Int} (t : isQ n h L pt) : okO n h 14 3 := ⟨by have := t.1.1; omega, t.1.2.1⟩
theorem isQ.f0 {n : Nat} {h : xH} {L : List Int} {pt : Int} (t : isQ n h L pt) : hG h 14 0 = 15 := t.1.2.2.1.1
theorem isQ.f1 {n : Nat} {h : xH} {L : List Int} {pt : Int} (t : isQ n h L pt) : hG h 14 1 = (L.length : Int) := t.2.1
theorem isQ.f2 {n : Nat} {h : xH} {L : List Int} {pt : Int} (t : isQ n h L pt) : hG h 14 2 = pt := t.2.2.1
theorem isQ.f3 {n : Nat} {h : xH} {L : List Int} {pt : Int} (t : isQ n h L pt) : hG h 14 3 = 16 := t.1.2.2.1.2.1
theorem isQ.f4 {n : Nat} {h : xH} {L : List Int} {pt : Int} (t : isQ n h L pt) : hG h 14 4 = 18 := t.1.2.2.1.2.2.1
theorem isQ.f5 {n : Nat} {h : xH} {L : List Int} {pt : Int} (t : isQ n h L pt) : hG h 14 5 = 20 := t.1.2.2.1.2.2.2.1
theorem isQ.f6 {n : Nat} {h : xH} {L : List Int} {pt : Int} (t : isQ n h L pt) : hG h 14 6 = 22 := t.1.2.2.1.2.2.2.2.1
theorem isQ.f7 {n : Nat} {h : xH} {L : List Int} {pt : Int} (t : isQ n h L pt) : hG h 14 7 = 24 := t.1.2.2.1.2.2.2.2.2
theorem isQ.point {n : Nat} {h h' : xH} {L : List Int} {pt z : Int} (t : isQ n h L pt) (e : h' = hS h 14 2 z) : isQ n h' L z := by
  obtain ⟨⟨t1, t2, t3, t4, t5⟩, t6, t7, t8, t9⟩ := t
  have eb : h' 15 = h 15 := by rw [e, hS_ne _ _ _ (by decide)]
  have g : ∀ k, k ≠ 2 → (h' 14).2.2 k = (h 14).2.2 k := fun k hk => by rw [e, hS_g, if_neg (fun z => hk z.2)]
  refine ⟨⟨t1, by rw [e, hS_k]; exact t2, ?_, by rw [eb]; exact t4, by rw [eb]; exact t5⟩, by rw [g 1 (by decide)]; exact t6, by rw [e, hS_g, if_pos ⟨rfl, rfl⟩], t8, fun i hi => by rw [eb]; exact t9 i hi⟩
  rw [g 0 (by decide), g 3 (by decide), g 4 (by decide), g 5 (by decide), g 6 (by decide), g 7 (by decide)]
  exact t3
theorem isQ.none {n : Nat} {h h' : xH} {L : List Int} {pt : Int} (t : isQ n h L pt) (e : h' = hS h 14 1 0) : isQ n h' [] pt := by
  obtain ⟨⟨t1, t2, t3, t4, t5⟩, t6, t7, t8, t9⟩ := t
  have eb : h' 15 = h 15 := by rw [e, hS_ne _ _ _ (by decide)]
  have g : ∀ k, k ≠ 1 → (h' 14).2.2 k = (h 14).2.2 k := fun k hk => by rw [e, hS_g, if_neg (fun z => hk z.2)]
  refine ⟨⟨t1, by rw [e, hS_k]; exact t2, ?_, by rw [eb]; exact t4, by rw [eb]; exact t5⟩, by rw [e, hS_g, if_pos ⟨rfl, rfl⟩]; rfl, by rw [g 2 (by decide)]; exact t7, Nat.zero_le _, fun i hi => absurd hi (Nat.not_lt_zero _)⟩
  rw [g 0 (by decide), g 3 (by decide), g 4 (by decide), g 5 (by decide), g 6 (by decide), g 7 (by decide)]
  exact t3
theorem isZ.mv {n : Nat} {h h' : xH} {S : Nat → Prop} {r w a b : Int} (t : isZ n h r w a b) (e : hE S h h') (h1 : ∀ i, 16 ≤ i → i ≤ 25 → ¬ S i) : isZ n h' r w a b := by
  obtain ⟨t1, t2, t3, t4, s, t5⟩ := t
  exact ⟨t1.mv e (h1 _ (by decide) (by decide)) (h1 _ (by decide) (by decide)), t2.mv e (h1 _ (by decide) (by decide)) (h1 _ (by decide) (by decide)), t3.mv e (h1 _ (by decide) (by decide)) (h1 _ (by decide) (by decide)), t4.mv e (h1 _ (by decide) (by decide)) (h1 _ (by decide) (by decide)), s, t5.mv e (h1 _ (by decide) (by decide)) (h1 _ (by decide) (by decide))⟩
theorem isZ.n16 {n : Nat} {h h' : xH} {r w a b r' : Int} (t : isZ n h r w a b) (e : hE (sN 16) h h') (q : isN n h' 16 r') : isZ n h' r' w a b := by
  obtain ⟨t1, t2, t3, t4, s, t5⟩ := t
  exact ⟨q, t2.mv e (by decide) (by decide), t3.mv e (by decide) (by decide), t4.mv e (by decide) (by decide), s, t5.mv e (by decide) (by decide)⟩
theorem isZ.n18 {n : Nat} {h h' : xH} {r w a b w' : Int} (t : isZ n h r w a b) (e : hE (sN 18) h h') (q : isN n h' 18 w') : isZ n h' r w' a b := by
  obtain ⟨t1, t2, t3, t4, s, t5⟩ := t
  exact ⟨t1.mv e (by decide) (by decide), q, t3.mv e (by decide) (by decide), t4.mv e (by decide) (by decide), s, t5.mv e (by decide) (by decide)⟩
theorem isZ.n20 {n : Nat} {h h' : xH} {r w a b a' : Int} (t : isZ n h r w a b) (e : hE (sN 20) h h') (q : isN n h' 20 a') : isZ n h' r w a' b := by
  obtain ⟨t1, t2, t3, t4, s, t5⟩ := t
  exact ⟨t1.mv e (by decide) (by decide), t2.mv e (by decide) (by decide), q, t4.mv e (by decide) (by decide), s, t5.mv e (by decide) (by decide)⟩
theorem isZ.n22 {n : Nat} {h h' : xH} {r w a b b' : Int} (t : isZ n h r w a b) (e : hE (sN 22) h h') (q : isN n h' 22 b') : isZ n h' r w a b' := by
  obtain ⟨t1, t2, t3, t4, s, t5⟩ := t
  exact ⟨t1.mv e (by decide) (by decide), t2.mv e (by decide) (by decide), t3.mv e (by decide) (by decide), q, s, t5.mv e (by decide) (by decide)⟩
theorem isZ.n24 {n : Nat} {h h' : xH} {r w a b s' : Int} (t : isZ n h r w a b) (e : hE (sN 24) h h') (q : isN n h' 24 s') : isZ n h' r w a b := by
  obtain ⟨t1, t2, t3, t4, s, t5⟩ := t
  exact ⟨t1.mv e (by decide) (by decide), t2.mv e (by decide) (by decide), t3.mv e (by decide) (by decide), t4.mv e (by decide) (by decide), s', q⟩
theorem sq16 {h h' : xH} (e : hE (sN 16) h h') : hE sQ h h' := e.mono (fun i hi => by rcases hi with z | z <;> omega)
theorem sq18 {h h' : xH} (e : hE (sN 18) h h') : hE sQ h h' := e.mono (fun i hi => by rcases hi with z | z <;> omega)
theorem sq20 {h h' : xH} (e : hE (sN 20) h h') : hE sQ h h' := e.mono (fun i hi => by rcases hi with z | z <;> omega)
theorem sq22 {h h' : xH} (e : hE (sN 22) h h') : hE sQ h h' := e.mono (fun i hi => by rcases hi with z | z <;> omega)
theorem sq24 {h h' : xH} (e : hE (sN 24) h h') : hE sQ h h' := e.mono (fun i hi => by rcases hi with z | z <;> omega)
theorem isQ.app {n : Nat} {h h1 h2 : xH} {L : List Int} {pt x : Int} (t : isQ n h L pt) (hr : L.length < 20) (e1 : h1 = hS h 15 L.length x) (e2 : h2 = hS h1 14 1 ((L.length : Int) + 1)) : isQ n h2 (L ++ [x]) pt := by
  obtain ⟨⟨t1, t2, t3, t4, t5⟩, t6, t7, t8, t9⟩ := t
  subst e1
  subst e2
  have g : ∀ k, k ≠ 1 → (hS (hS h 15 L.length x) 14 1 ((L.length : Int) + 1) 14).2.2 k = (h 14).2.2 k := fun k hk => by rw [hS_g, if_neg (fun z => hk z.2), hS_g, if_neg (by omega)]
  refine ⟨⟨t1, by rw [hS_k, hS_k]; exact t2, ?_, by rw [hS_k, hS_k]; exact t4, by rw [hS_l, hS_l]; exact t5⟩, by rw [hS_g, if_pos ⟨rfl, rfl⟩, List.length_append]; rfl, by rw [g 2 (by decide)]; exact t7, by rw [List.length_append]; exact hr, fun i hi => ?_⟩
  · rw [g 0 (by decide), g 3 (by decide), g 4 (by decide), g 5 (by decide), g 6 (by decide), g 7 (by decide)]
    exact t3
  · rw [List.length_append] at hi
    have hi2 : i < L.length + 1 := hi
    rw [hS_g, if_neg (by omega), hS_g, getD_app]
    by_cases z : i < L.length
    · rw [if_neg (by omega), if_pos z]; exact t9 i z
    · rw [if_pos ⟨rfl, by omega⟩, if_neg z, if_pos (by omega)]
theorem sp_appQ {G : xG} {l : Launch} {n : Nat} {h : xH} {L : List Int} {pt x r w a b : Int} {Po : xH → Prop} (t : isQ n h L pt) (z : isZ n h r w a b) (hr : L.length < 20) (hp : ∀ h', hE sQ h h' → isQ n h' (L ++ [x]) pt → isZ n h' r w a b → Po h') : S_X3_append G l 14 x n h Po := by
  have hn := t.1.1
  refine S_X3_append_of (fun k hl C E => X3_append_b0 C E 14 x n h rfl ⟨t.ok, ⟨by rw [t.f1]; exact rg_nat (by omega), rgS (by decide) (by decide)⟩, fun g => ?_, fun g => ⟨t.ok, by rw [t.f0]; decide, t.ok, ?_, fun h1 e1 => ?_⟩⟩)
  · rw [t.f1] at g; omega
  · rw [t.f0, t.f1]; exact ⟨by show 15 < n; omega, t.1.2.2.2.1, by omega, by show (L.length : Int) < ((h 15).2.1 : Int); rw [t.1.2.2.2.2]; omega, by omega⟩
  · rw [t.f0, t.f1, Int.toNat_natCast] at e1
    have ok1 : okO n h1 14 3 := ⟨by omega, by rw [e1, hS_k]; exact t.1.2.1⟩
    refine ⟨ok1, ok1, fun h2 e2 => X3_append_b29 C E n h2 rfl ?_⟩
    have : hG h1 14 1 = (L.length : Int) := by
      show (h1 14).2.2 1 = _
      rw [e1, hS_g, if_neg (by intro z; exact absurd z.1 (by decide))]; exact t.f1
    rw [this] at e2
    have f1 : hE (fun i => i = 14 ∨ i = 15) h h2 := (hE.put' (S := fun i => i = 14 ∨ i = 15) e1 (Or.inr rfl)).tr (hE.put' e2 (Or.inl rfl))
    exact hp h2 (f1.mono (fun i hi => by omega)) (t.app hr e1 e2) (z.mv f1 (fun i a b => by omega))
/-- x is below y, or the same where the ends count -/
def lv (ev x y : Int) : Prop := x < y ∨ (ev ≠ 0 ∧ x = y)
theorem sp_reaches {G : xG} {l : Launch} {n : Nat} {h : xH} {L : List Int} {pt r w a b ev : Int} {Po : Int → xH → Prop} (t : isQ n h L pt) (z : isZ n h r w a b) (hev : ev = 0 ∨ ev = 1) (hfit : r + a < 4294967296 ^ 132) (hy : lv ev w (r + a) → ∀ h', hE sQ h h' → isQ n h' L pt → isZ n h' r w a b → Po 1 h') (hn : ¬ lv ev w (r + a) → ∀ h', hE sQ h h' → isQ n h' L pt → isZ n h' r w a b → Po 0 h') : S_X3_reachesWhole G l 14 ev n h Po := by
  refine S_X3_reachesWhole_of (fun k hl C E => X3_reachesWhole_b0 C E 14 ev n h rfl ?_)
  have z0 := z
  obtain ⟨z1, z2, z3, z4, s, z5⟩ := z
  rw [t.f7, t.f3]
  refine ⟨t.ok, by decide, t.ok, by decide, z5.1.ok, sp_copy z5.1 z1 (by decide) (fun h1 e1 q1 => ?_)⟩
  have t1 := t.mv e1 (by decide) (by decide)
  have y1 := z0.n24 e1 q1
  rw [t1.f7, t1.f5]
  refine ⟨t1.ok, by decide, t1.ok, by decide, q1.1.ok, sp_add q1 y1.2.2.1 (by decide) hfit (fun h2 e2 q2 => ?_)⟩
  have t2 := t1.mv e2 (by decide) (by decide)
  have y2 := y1.n24 e2 q2
  rw [t2.f7, t2.f4]
  have eq : hE sQ h h2 := (sq24 e1).tr (sq24 e2)
  refine ⟨t2.ok, by decide, t2.ok, by decide, q2.1.ok, sp_compare q2 y2.2.1 ⟨by rcases hev with v | v <;> rw [v] <;> exact rgS (by decide) (by decide), fun v => ⟨rg_ord _ _, fun o => X3_reachesWhole_b59 C E 0 n h2 rfl ⟨Or.inl rfl, hn ?_ h2 eq t2 y2⟩, fun o => X3_reachesWhole_b59 C E 1 n h2 rfl ⟨Or.inr rfl, hy ?_ h2 eq t2 y2⟩⟩, fun v => ⟨rg_ord _ _, fun o => X3_reachesWhole_b59 C E 0 n h2 rfl ⟨Or.inl rfl, hn ?_ h2 eq t2 y2⟩, fun o => X3_reachesWhole_b59 C E 1 n h2 rfl ⟨Or.inr rfl, hy ?_ h2 eq t2 y2⟩⟩⟩⟩
  all_goals (unfold ord at o; unfold lv)
  · split at o
    · omega
    · split at o <;> omega
  · split at o
    · omega
    · split at o <;> omega
  · split at o
    · omega
    · split at o <;> omega
  · split at o
    · omega
    · split at o <;> omega
