/-! THE CLASS AND THE MODEL, SIDE BY SIDE -/
def cS (n : Nat) (h : xH) (kd mn un pl v w : Int) (T O : List Int) : Prop := isD n h kd mn un pl ∧ (∃ f, isU n h T f) ∧ (∃ c m, isL n h 4 c m O ∧ (c = 5 ∨ 47 < c) ∧ 400 ≤ m) ∧ isN n h 6 v ∧ isN n h 8 w ∧ (∃ x, isN n h 10 x) ∧ (∃ x, isN n h 12 x) ∧ (∃ D pt, isQ n h D pt) ∧ (∃ r w a b, isZ n h r w a b)
theorem cS.d {n : Nat} {h : xH} {kd mn un pl v w : Int} {T O : List Int} (t : cS n h kd mn un pl v w T O) : isD n h kd mn un pl := t.1
theorem cS.u {n : Nat} {h : xH} {kd mn un pl v w : Int} {T O : List Int} (t : cS n h kd mn un pl v w T O) : ∃ f, isU n h T f := t.2.1
theorem cS.o {n : Nat} {h : xH} {kd mn un pl v w : Int} {T O : List Int} (t : cS n h kd mn un pl v w T O) : ∃ c m, isL n h 4 c m O ∧ (c = 5 ∨ 47 < c) ∧ 400 ≤ m := t.2.2.1
def mS (n : Nat) (h : xH) (kd mn un pl v w : Int) (T O : List Int) : Prop := (∃ fc z, isWr n h O fc (T.length : Int) z ∧ nuM n h z kd mn un pl v w) ∧ isTx h T
/-- what holds between two steps of the law -/
def Iv (n : Nat) (h : xH) : Prop := ∃ kd mn un pl v w T O, cS n h kd mn un pl v w T O ∧ mS n h kd mn un pl v w T O ∧ cdL T ∧ cdL O
theorem cS.fr {n n' : Nat} {h h' : xH} {S : Nat → Prop} {kd mn un pl v w : Int} {T O : List Int} (t : cS n h kd mn un pl v w T O) (e : hF S n h h') (hn : n ≤ n') (hs : ∀ i, S i → 26 ≤ i ∧ i ≤ 47) : cS n' h' kd mn un pl v w T O := by
  have ns : ∀ {i : Nat}, i ≤ 25 → ¬ S i := fun hi y => by have := hs _ y; omega
  obtain ⟨d, ⟨f, u⟩, ⟨c, m, o, hc, hm⟩, v6, w8, ⟨xa, a⟩, ⟨xb, b⟩, ⟨D, pt, q⟩, ⟨r, w', a', b', z⟩⟩ := t
  exact ⟨d.fr e hn (ns (by decide)), ⟨f, u.fr e hn (ns (by decide)) (ns (by decide)) (ns (by decide))⟩, ⟨c, m, o.fr e hn (ns (by decide)) (fun y => by have := hs _ y; omega), hc, hm⟩, v6.fr e hn (ns (by decide)) (ns (by decide)), w8.fr e hn (ns (by decide)) (ns (by decide)), ⟨xa, a.fr e hn (ns (by decide)) (ns (by decide))⟩, ⟨xb, b.fr e hn (ns (by decide)) (ns (by decide))⟩, ⟨D, pt, q.fr e hn (ns (by decide)) (ns (by decide))⟩, ⟨r, w', a', b', z.fr e hn (fun i _ hi => ns hi)⟩⟩
theorem mS.fr {n n' : Nat} {h h' : xH} {S : Nat → Prop} {kd mn un pl v w : Int} {T O : List Int} (t : mS n h kd mn un pl v w T O) (e : hF S n h h') (hn : n ≤ n') (hs : ∀ i, S i → i ≤ 25 ∨ (47 < i ∧ (h i).1 = 101)) : mS n' h' kd mn un pl v w T O := by
  have ns : ∀ {i : Nat}, 26 ≤ i → i ≤ 47 → ¬ S i := fun hi hj y => by have := hs _ y; omega
  obtain ⟨⟨fc, z, t1, t2⟩, t3⟩ := t
  exact ⟨⟨fc, z, t1.fr e hn (ns (by decide) (by decide)) (ns (by decide) (by decide)) (ns (by decide) (by decide)), t2.frK e hn (fun i hi y => by have := hs _ y; omega)⟩, t3.fr e t1.1.1.1 (ns (by decide) (by decide))⟩
theorem nuM.rgs {n : Nat} {h : xH} {z kd mn un pl v w : Int} (t : nuM n h z kd mn un pl v w) : 0 ≤ kd ∧ kd ≤ 4 ∧ (mn = 0 ∨ mn = 1) := by
  rcases t with ⟨a, b, c⟩ | ⟨zn, a1, a2, ⟨b1, _⟩ | ⟨b1, _⟩ | ⟨b1, _⟩ | ⟨b1, _⟩⟩
  · exact ⟨by omega, by omega, Or.inl c⟩
  all_goals exact ⟨by omega, by omega, a2⟩
theorem nuM.fin {n : Nat} {h : xH} {z kd mn un pl v w : Int} (t : nuM n h z kd mn un pl v w) (hk : kd = 2) : ∃ c : Nat, un = (c : Int) ∧ cnD c pl := by
  rcases t with ⟨a, b, c⟩ | ⟨zn, a1, a2, ⟨b1, _⟩ | ⟨b1, x, c, q, b2, b3, b4, b5⟩ | ⟨b1, _⟩ | ⟨b1, _⟩⟩
  · omega
  · omega
  · exact ⟨c, b4, by rw [b5]; exact fin_cn b3⟩
  · omega
  · omega
theorem nuM.exb {n : Nat} {h : xH} {z kd mn un pl v w : Int} (t : nuM n h z kd mn un pl v w) (hk : kd = 1) : 0 ≤ v ∧ 0 < w ∧ (v = 0 → mn = 0 ∧ w = 1) ∧ bl v ≤ 4096 ∧ bl w ≤ 4096 := by
  rcases t with ⟨a, b, c⟩ | ⟨zn, a1, a2, ⟨b1, b2, b3⟩ | ⟨b1, _⟩ | ⟨b1, _⟩ | ⟨b1, _⟩⟩
  · omega
  · exact b3
  all_goals omega
section PAIRS
variable {G : xG} {l : Launch} {n : Nat} {h : xH} {A : Prop} {K X : Nat → xH → Prop}
theorem lw_type {c : Int} (a : A) (I : Iv n h) (hc : rg c) (hK : ∀ h', Iv n h' → K n h') : okO n h 0 4 ∧ S_X4_type G l 0 c n h (fun z3 h4 => A ∧ okO n h4 26 8 ∧ S_X9_type G l 26 c n h4 (fun z7 h8 => (rg z3 ∧ rg z7) ∧ ((z3 = z7 → K n h8) ∧ (¬ z3 = z7 → X n h8)))) := by
  obtain ⟨kd, mn, un, pl, v, w, T, O, s, t, hT, hO⟩ := I
  obtain ⟨⟨fc, z, t1, t2⟩, t3⟩ := t
  obtain ⟨f, u⟩ := s.u
  have lT := t3.1
  refine ⟨s.d.ok, sp_type s.d u hc (fun c0 c1 c2 h1 e1 i1 => ⟨a, ?_⟩) (fun hno => ⟨a, t1.1.ok, sp_typeM t1.1 t3 hc (fun c0 c1 c2 => absurd ⟨c0, c1, c2⟩ hno) (fun _ => ⟨⟨rgS (by decide) (by decide), rgS (by decide) (by decide)⟩, fun _ => hK h ⟨kd, mn, un, pl, v, w, T, O, s, ⟨⟨fc, z, t1, t2⟩, t3⟩, hT, hO⟩, fun y => absurd rfl y⟩)⟩)⟩
  have nL : ∀ {i : Nat}, i ≠ 2 → i ≠ 3 → ¬ sL 2 3 i := fun p q y => by rcases y with y | y <;> omega
  have t' : mS n h1 kd mn un pl v w T O := mS.fr ⟨⟨fc, z, t1, t2⟩, t3⟩ (e1.f (n := n)) (Nat.le_refl _) (fun i y => by rcases y with y | y <;> omega)
  obtain ⟨⟨fc', z', t1', t2'⟩, t3'⟩ := t'
  have s' : cS n h1 kd mn un pl v w (T ++ [c]) O := by
    obtain ⟨d, _, ⟨cc, m, o, hcc, hm⟩, v6, w8, ⟨xa, a⟩, ⟨xb, b⟩, ⟨D, pt, q⟩, ⟨r, w', a', b', z⟩⟩ := s
    exact ⟨d.mv e1 (nL (by decide) (by decide)), ⟨f, by rw [(e1 1).1]; exact u.1, by rw [(e1 1).2.2 (nL (by decide) (by decide))]; exact u.2.1, by rw [(e1 1).2.2 (nL (by decide) (by decide))]; exact u.2.2.1, i1⟩, ⟨cc, m, o.mv e1 (nL (by decide) (by decide)) (nL (by omega) (by omega)), hcc, hm⟩, v6.mv e1 (nL (by decide) (by decide)) (nL (by decide) (by decide)), w8.mv e1 (nL (by decide) (by decide)) (nL (by decide) (by decide)), ⟨xa, a.mv e1 (nL (by decide) (by decide)) (nL (by decide) (by decide))⟩, ⟨xb, b.mv e1 (nL (by decide) (by decide)) (nL (by decide) (by decide))⟩, ⟨D, pt, q.mv e1 (nL (by decide) (by decide)) (nL (by decide) (by decide))⟩, ⟨r, w', a', b', z.mv e1 (fun i p q => nL (by omega) (by omega))⟩⟩
  refine ⟨t1'.1.ok, sp_typeM t1'.1 t3' hc (fun _ _ _ h2 e2 tm2 tx2 _ => ⟨⟨rgS (by omega) (by omega), rgS (by omega) (by omega)⟩, fun _ => hK h2 ⟨kd, mn, un, pl, v, w, T ++ [c], O, s'.fr (e2.f (n := n)) (Nat.le_refl _) (fun i y => by rcases y with y | y <;> omega), ⟨⟨_, z', t1'.frM (e2.f (n := n)) (by decide) tm2, t2'.fr (e2.f (n := n)) (Nat.le_refl _) (fun i hi y => by rcases y with y | y <;> omega)⟩, tx2⟩, hT.app (cdL.cons c0 c1 cdL.nil), hO⟩, fun y => absurd rfl y⟩) (fun hno => absurd ⟨c0, c1, c2⟩ hno)⟩
theorem lw_clear (I : Iv n h) (hK : ∀ h', Iv n h' → K n h') : okO n h 0 4 ∧ S_X4_clear G l 0 n h (fun h2 => okO n h2 26 8 ∧ S_X9_clear G l 26 n h2 (fun h4 => K n h4)) := by
  obtain ⟨kd, mn, un, pl, v, w, T, O, s, t, hT, hO⟩ := I
  obtain ⟨f, u⟩ := s.u
  refine ⟨s.d.ok, sp_clear s.d u (fun h1 e1 i1 => ?_)⟩
  have nL : ∀ {i : Nat}, i ≠ 2 → i ≠ 3 → ¬ sL 2 3 i := fun p q y => by rcases y with y | y <;> omega
  have t' : mS n h1 kd mn un pl v w T O := t.fr (e1.f (n := n)) (Nat.le_refl _) (fun i y => by rcases y with y | y <;> omega)
  obtain ⟨⟨fc', z', t1', t2'⟩, t3'⟩ := t'
  have s' : cS n h1 kd mn un pl v w [] O := by
    obtain ⟨d, _, ⟨cc, m, o, hcc, hm⟩, v6, w8, ⟨xa, a⟩, ⟨xb, b⟩, ⟨D, pt, q⟩, ⟨r, w', a', b', z⟩⟩ := s
    exact ⟨d.mv e1 (nL (by decide) (by decide)), ⟨f, by rw [(e1 1).1]; exact u.1, by rw [(e1 1).2.2 (nL (by decide) (by decide))]; exact u.2.1, by rw [(e1 1).2.2 (nL (by decide) (by decide))]; exact u.2.2.1, i1⟩, ⟨cc, m, o.mv e1 (nL (by decide) (by decide)) (nL (by omega) (by omega)), hcc, hm⟩, v6.mv e1 (nL (by decide) (by decide)) (nL (by decide) (by decide)), w8.mv e1 (nL (by decide) (by decide)) (nL (by decide) (by decide)), ⟨xa, a.mv e1 (nL (by decide) (by decide)) (nL (by decide) (by decide))⟩, ⟨xb, b.mv e1 (nL (by decide) (by decide)) (nL (by decide) (by decide))⟩, ⟨D, pt, q.mv e1 (nL (by decide) (by decide)) (nL (by decide) (by decide))⟩, ⟨r, w', a', b', z.mv e1 (fun i p q => nL (by omega) (by omega))⟩⟩
  refine ⟨t1'.1.ok, sp_clearM t1'.1 (fun h2 e2 tm2 _ => hK h2 ⟨kd, mn, un, pl, v, w, [], O, s'.fr (e2.f (n := n)) (Nat.le_refl _) (fun i y => by have : i = 26 := y; omega), ⟨⟨_, z', t1'.frM (e2.f (n := n)) (by decide) tm2, t2'.fr (e2.f (n := n)) (Nat.le_refl _) (fun i hi y => by have : i = 26 := y; omega)⟩, ⟨Nat.zero_le _, fun i hi => absurd hi (Nat.not_lt_zero _)⟩⟩, cdL.nil, hO⟩)⟩
theorem lw_back (I : Iv n h) (hK : ∀ h', Iv n h' → K n h') : okO n h 0 4 ∧ S_X4_back G l 0 n h (fun z2 h3 => okO n h3 26 8 ∧ S_X9_back G l 26 n h3 (fun z5 h6 => (rg z2 ∧ rg z5) ∧ ((z2 = z5 → K n h6) ∧ (¬ z2 = z5 → X n h6)))) := by
  obtain ⟨kd, mn, un, pl, v, w, T, O, s, t, hT, hO⟩ := I
  obtain ⟨f, u⟩ := s.u
  obtain ⟨cc, m, o, hcc, hm⟩ := s.o
  refine ⟨s.d.ok, sp_back s.d u o (by omega) (fun hle h1 e1 i1 => ?_) (fun hle => ?_)⟩
  · have nL : ∀ {i : Nat}, i ≠ 2 → i ≠ 3 → ¬ sL 2 3 i := fun p q y => by rcases y with y | y <;> omega
    have t' : mS n h1 kd mn un pl v w T O := t.fr (e1.f (n := n)) (Nat.le_refl _) (fun i y => by rcases y with y | y <;> omega)
    obtain ⟨⟨fc', z', t1', t2'⟩, t3'⟩ := t'
    have s' : cS n h1 kd mn un pl v w O O := by
      obtain ⟨d, _, _, v6, w8, ⟨xa, a⟩, ⟨xb, b⟩, ⟨D, pt, q⟩, ⟨r, w', a', b', z⟩⟩ := s
      exact ⟨d.mv e1 (nL (by decide) (by decide)), ⟨f, by rw [(e1 1).1]; exact u.1, by rw [(e1 1).2.2 (nL (by decide) (by decide))]; exact u.2.1, by rw [(e1 1).2.2 (nL (by decide) (by decide))]; exact u.2.2.1, i1⟩, ⟨cc, m, o.mv e1 (nL (by decide) (by decide)) (nL (by omega) (by omega)), hcc, hm⟩, v6.mv e1 (nL (by decide) (by decide)) (nL (by decide) (by decide)), w8.mv e1 (nL (by decide) (by decide)) (nL (by decide) (by decide)), ⟨xa, a.mv e1 (nL (by decide) (by decide)) (nL (by decide) (by decide))⟩, ⟨xb, b.mv e1 (nL (by decide) (by decide)) (nL (by decide) (by decide))⟩, ⟨D, pt, q.mv e1 (nL (by decide) (by decide)) (nL (by decide) (by decide))⟩, ⟨r, w', a', b', z.mv e1 (fun i p q => nL (by omega) (by omega))⟩⟩
    refine ⟨t1'.1.ok, sp_backM t1' (fun _ h2 e2 tw2 tx2 => ⟨⟨rgS (by decide) (by decide), rgS (by decide) (by decide)⟩, fun _ => hK h2 ⟨kd, mn, un, pl, v, w, O, O, s'.fr (e2.f (n := n)) (Nat.le_refl _) (fun i y => by rcases y with y | y <;> omega), ⟨⟨_, z', tw2, t2'.fr (e2.f (n := n)) (Nat.le_refl _) (fun i hi y => by rcases y with y | y <;> omega)⟩, tx2⟩, hO, hO⟩, fun y => absurd rfl y⟩) (fun y => absurd hle y)⟩
  · obtain ⟨⟨fc, z, t1, t2⟩, t3⟩ := t
    exact ⟨t1.1.ok, sp_backM t1 (fun y => absurd y hle) (fun _ => ⟨⟨rg0, rg0⟩, fun _ => hK h ⟨kd, mn, un, pl, v, w, T, O, s, ⟨⟨fc, z, t1, t2⟩, t3⟩, hT, hO⟩, fun y => absurd rfl y⟩)⟩
theorem lw_kind (I : Iv n h) (hK : ∀ h', Iv n h' → K n h') : okO n h 0 4 ∧ S_X4_kind G l 0 n h (fun z2 h3 => okO n h3 26 8 ∧ S_X9_kind G l 26 n h3 (fun z5 h6 => (rg z2 ∧ rg z5) ∧ ((z2 = z5 → K n h6) ∧ (¬ z2 = z5 → X n h6)))) := by
  have I' := I
  obtain ⟨kd, mn, un, pl, v, w, T, O, s, ⟨⟨fc, z, t1, t2⟩, t3⟩, hT, hO⟩ := I
  have rr := t2.rgs
  exact ⟨s.d.ok, sp_kind s.d ⟨t1.1.ok, sp_kindM t1.1 t2 ⟨⟨rgS (by omega) (by omega), rgS (by omega) (by omega)⟩, fun _ => hK h I', fun y => absurd rfl y⟩⟩⟩
theorem lw_negative (I : Iv n h) (hK : ∀ h', Iv n h' → K n h') : okO n h 0 4 ∧ S_X4_negative G l 0 n h (fun z2 h3 => okO n h3 26 8 ∧ S_X9_negative G l 26 n h3 (fun z5 h6 => (rg z2 ∧ rg z5) ∧ ((z2 = z5 → K n h6) ∧ (¬ z2 = z5 → X n h6)))) := by
  have I' := I
  obtain ⟨kd, mn, un, pl, v, w, T, O, s, ⟨⟨fc, z, t1, t2⟩, t3⟩, hT, hO⟩ := I
  have rr := t2.rgs
  exact ⟨s.d.ok, sp_negative s.d rr.2.2 ⟨t1.1.ok, sp_negativeM t1.1 t2 ⟨⟨rgS (by omega) (by omega), rgS (by omega) (by omega)⟩, fun _ => hK h I', fun y => absurd rfl y⟩⟩⟩
theorem lw_place (I : Iv n h) (hK : ∀ h', Iv n h' → K n h') : okO n h 0 4 ∧ S_X4_place G l 0 n h (fun z2 h3 => okO n h3 26 8 ∧ S_X9_place G l 26 n h3 (fun z5 h6 => (rg z2 ∧ rg z5) ∧ ((z2 = z5 → K n h6) ∧ (¬ z2 = z5 → X n h6)))) := by
  have I' := I
  obtain ⟨kd, mn, un, pl, v, w, T, O, s, ⟨⟨fc, z, t1, t2⟩, t3⟩, hT, hO⟩ := I
  have rr := t2.rgs
  have r1 : rg (if kd = 2 then pl else 0) := by
    split
    · rename_i y
      obtain ⟨c, c1, c2, c3, c4, c5⟩ := t2.fin y
      exact rgS (by omega) (by omega)
    · exact rg0
  exact ⟨s.d.ok, sp_place s.d (rgS (by omega) (by omega)) ⟨t1.1.ok, sp_placeM t1.1 t2 ⟨⟨r1, r1⟩, fun _ => hK h I', fun y => absurd rfl y⟩⟩⟩
theorem lw_units (I : Iv n h) (hK : ∀ h', Iv n h' → K n h') : okO n h 0 4 ∧ S_X4_units G l 0 n h (fun z2 h3 => okO n h3 26 8 ∧ S_X9_units G l 26 n h3 (fun z5 h6 => (rgL z2 ∧ rgL z5) ∧ (((lC z2 z5) = 0 → K n h6) ∧ (¬ (lC z2 z5) = 0 → X n h6)))) := by
  have I' := I
  obtain ⟨kd, mn, un, pl, v, w, T, O, s, ⟨⟨fc, z, t1, t2⟩, t3⟩, hT, hO⟩ := I
  have rr := t2.rgs
  have r1 : rgL (if kd = 2 then un else -1) := by
    split
    · rename_i y
      obtain ⟨c, c1, c2, c3, c4, c5⟩ := t2.fin y
      exact ⟨by omega, by omega⟩
    · exact ⟨by decide, by decide⟩
  have e0 : lC (if kd = 2 then un else -1) (if kd = 2 then un else -1) = 0 := by unfold lC; omega
  exact ⟨s.d.ok, sp_units s.d (rgS (by omega) (by omega)) ⟨t1.1.ok, sp_unitsM t1.1 t2 ⟨⟨r1, r1⟩, fun _ => hK h I', fun y => absurd e0 y⟩⟩⟩
theorem lw_out {i : Int} (a : A) (I : Iv n h) (hi : rg i) (hK : ∀ h', Iv n h' → K n h') : okO n h 0 4 ∧ S_X4_out G l 0 i n h (fun z3 h4 => A ∧ okO n h4 26 8 ∧ S_X9_out G l 26 i n h4 (fun z7 h8 => (rg z3 ∧ rg z7) ∧ ((z3 = z7 → K n h8) ∧ (¬ z3 = z7 → X n h8)))) := by
  have I' := I
  obtain ⟨kd, mn, un, pl, v, w, T, O, s, ⟨⟨fc, z, t1, t2⟩, t3⟩, hT, hO⟩ := I
  obtain ⟨cc, m, o, hcc, hm⟩ := s.o
  have hc := cd_rg hO i
  exact ⟨s.d.ok, sp_out s.d o hi ⟨a, t1.1.ok, sp_outM t1 hi ⟨⟨rgS (by omega) (by omega), rgS (by omega) (by omega)⟩, fun _ => hK h I', fun y => absurd rfl y⟩⟩⟩
end PAIRS
