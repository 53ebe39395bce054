/-! THE MODEL: the shortest digits, from the double on -/
def kM (c q : Int) : Nat := if nbf c q = 0 then 1 else 2
def RM (c q p : Int) : Int := c * 2 ^ (q.toNat + kM c q) * 10 ^ (-p).toNat
def WM (c q p : Int) : Int := 2 ^ ((-q).toNat + kM c q) * 10 ^ p.toNat
def BM (c q p : Int) : Int := 2 ^ q.toNat * 10 ^ (-p).toNat
def AM (c q p : Int) : Int := (if nbf c q = 0 then 1 else 2) * 2 ^ q.toNat * 10 ^ (-p).toNat
theorem sp_shortest {G : xG} {l : Launch} {n : Nat} {h : xH} {x : UInt64} {c : Nat} {q p fc tl nm : Int} {L D : List Int} {Po : Nat → xH → Prop} (hx : vl x = .fin false c q) (hc : 0 < c) (t : isWr n h L fc tl nm) (hL : L.length + 300 ≤ 8200) (hp0 : -400 ≤ p) (hp1 : p ≤ 400) (hRW : RM c q p < WM c q p) (hWR : WM c q p ≤ 10 * RM c q p) (hg : genR (WM c q p) (evf c) D (RM c q p) (AM c q p) (BM c q p)) (hDl : D.length ≤ 20) (hD : D = [10] ∨ ∀ x, x ∈ D → x ≤ 9)
    (hp : ∀ h' X F p', hF sT n h h' → ((D = [10] ∧ F = [1] ∧ p' = p + 1) ∨ (F = D ∧ p' = p ∧ ∀ x, x ∈ D → x ≤ 9)) → fnW F p' X → isWr (n + 2) h' (L ++ X) (F.length : Int) tl nm → Po (n + 2) h') : S_X9_shortest G l 26 x n h Po := by
  refine S_X9_shortest_of (fun k hl C E => ?_)
  have h47 : 47 < n := t.1.1.1
  have hcn := fin_cn hx
  obtain ⟨c1, c2, c3, c4⟩ := hcn
  have hnb : nbf c q = 0 ∨ nbf c q = 1 := by unfold nbf; split <;> simp
  have hevv : evf c = 0 ∨ evf c = 1 := by unfold evf; split <;> simp
  have hkM : kM c q = 1 ∨ kM c q = 2 := by unfold kM; split <;> simp
  have tenp : ∀ j : Nat, (0 : Int) < 10 ^ j := fun j => Int.pow_pos (by decide)
  have hRp : 0 < RM c q p := Int.mul_pos (Int.mul_pos (by omega) (pw_pos _)) (tenp _)
  have hWp : 0 < WM c q p := Int.mul_pos (pw_pos _) (tenp _)
  -- bounds
  have hW1080 : WM c q p < 2 ^ 1080 := by
    rcases Int.lt_or_le 0 p with g | g
    · have e : RM c q p = c * 2 ^ (q.toNat + kM c q) := by unfold RM; rw [show (-p).toNat = 0 by omega, Int.pow_zero, Int.mul_one]
      have h1 : (c : Int) * 2 ^ (q.toNat + kM c q) ≤ 2 ^ 53 * 2 ^ 973 := Int.mul_le_mul (by have : (2 : Int) ^ 53 = 9007199254740992 := by decide
                                                                                            omega) (pw_mono (by omega)) (Int.le_of_lt (pw_pos _)) (by decide)
      have h2 : 10 * ((2 : Int) ^ 53 * 2 ^ 973) < 2 ^ 1080 := by decide +kernel
      omega
    · have e : WM c q p = 2 ^ ((-q).toNat + kM c q) := by unfold WM; rw [show p.toNat = 0 by omega, Int.pow_zero, Int.mul_one]
      rw [e]
      have h1 : (2 : Int) ^ ((-q).toNat + kM c q) ≤ 2 ^ 1076 := pw_mono (by omega)
      have h2 : (2 : Int) ^ 1076 < 2 ^ 1080 := by decide +kernel
      omega
  have hBR : BM c q p ≤ RM c q p := by
    unfold BM RM
    refine Int.mul_le_mul_of_nonneg_right ?_ (Int.le_of_lt (tenp _))
    rw [Int.pow_add, ← Int.mul_assoc, Int.mul_comm (c : Int), Int.mul_assoc]
    have h1 : (1 : Int) ≤ c * 2 ^ kM c q := by
      have := Int.mul_le_mul (show (1 : Int) ≤ c by omega) (show (1 : Int) ≤ 2 ^ kM c q by have := pw_pos (kM c q); omega) (by decide) (by omega)
      omega
    have := Int.mul_le_mul_of_nonneg_left h1 (Int.le_of_lt (pw_pos q.toNat))
    rwa [Int.mul_one] at this
  have hAR : AM c q p ≤ RM c q p := by
    unfold AM RM
    refine Int.mul_le_mul_of_nonneg_right ?_ (Int.le_of_lt (tenp _))
    rw [Int.pow_add, ← Int.mul_assoc, Int.mul_comm (c : Int), Int.mul_assoc, Int.mul_comm _ (2 ^ q.toNat)]
    refine Int.mul_le_mul_of_nonneg_left ?_ (Int.le_of_lt (pw_pos q.toNat))
    have h2 : (2 : Int) ^ 1 ≤ 2 ^ kM c q := pw_mono (by omega)
    rw [Int.pow_one] at h2
    have := Int.mul_le_mul (show (1 : Int) ≤ c by omega) h2 (by decide) (by omega)
    split <;> omega
  have hA0 : 0 < AM c q p := by
    unfold AM
    refine Int.mul_pos (Int.mul_pos ?_ (pw_pos _)) (tenp _)
    split <;> decide
  have hB0 : 0 < BM c q p := Int.mul_pos (pw_pos _) (tenp _)
  have fits : ∀ v : Int, v < 2 ^ 1100 → v * 10 < 10000 ^ 200 := fun v hv => by
    have : (2 : Int) ^ 1100 * 10 < 10000 ^ 200 := by decide +kernel
    omega
  have h1080 : (2 : Int) ^ 1080 < 2 ^ 1100 := by decide +kernel
  -- rows changed from n + 2 on
  -- the digits
  have w412 : ∀ (h1 h2 : xH) (rn sn ln hn : Nat) (fc0 : Int), hF sT n h h1 → isWr (n + 2) h1 L fc0 tl nm → isT (n + 2) h1 40 200 rn (RM c q p) → isT (n + 2) h1 41 200 sn (WM c q p) → isT (n + 2) h1 42 200 ln (BM c q p) → isT (n + 2) h1 43 200 hn (AM c q p) → h2 = hS h1 26 19 0 → X9_shortest_w412 G k 26 (evf c) rn sn ln hn p (n + 2) h2 := by
    intro h1 h2 rn sn ln hn fc0 e1 t1 u40 u41 u42 u43 e2
    have e2' := hE26 e2
    have tm2 := t1.1.set e2 (by decide)
    have t2 : isWr (n + 2) h2 L (([] : List Int).length : Int) tl nm := ⟨tm2, t1.2.1, by rw [(e2' 46).2.2 (by decide)]; exact t1.2.2.1, by rw [e2, hS_g, if_pos ⟨rfl, rfl⟩]; rfl⟩
    have hlen : (10 : Int) ^ D.length ≤ 10 ^ 20 := ten_mono hDl
    have h1160 : (2 : Int) ^ 1080 * 10 ^ 20 < 2 ^ 1160 := by decide +kernel
    have bnd : ∀ v : Int, 0 < v → v ≤ RM c q p → v * 10 ^ D.length < 2 ^ 1160 := by
      intro v hv0 hv
      have : v * 10 ^ D.length ≤ 2 ^ 1080 * 10 ^ 20 := Int.mul_le_mul (by omega) hlen (Int.le_of_lt (tenp _)) (Int.le_of_lt (pw_pos _))
      omega
    refine short_dig (h := h2) C E hL hWp hW1080 hevv (by omega) (by omega) D [] (RM c q p) (AM c q p) (BM c q p) rn ln hn h2 hg (by omega) hRW hA0 hB0 (bnd _ hA0 hAR) (bnd _ hB0 hBR) (by show 0 + D.length ≤ 23; omega) (by rcases hD with z | z; exact Or.inl ⟨z, rfl⟩; exact Or.inr z) hE.rf t2 ⟨by decide, fun i hi => absurd hi (Nat.not_lt_zero _)⟩ (u40.mv e2' (by decide)) (u41.mv e2' (by decide)) (u42.mv e2' (by decide)) (u43.mv e2' (by decide)) (fun h' X F' p' g1 g2 g3 g4 => hp h' X F' p' ?_ ?_ g3 g4)
    · exact (e1.tr ((e2'.mono (fun i hi => Or.inl hi) : hE sT h1 h2).f (n := n)) (Nat.le_refl _)).tr (g1.f (n := n)) (Nat.le_refl _)
    · rcases g2 with ⟨z1, _, z2, z3⟩ | ⟨z1, z2, z3⟩
      · exact Or.inl ⟨z1, z2, z3⟩
      · exact Or.inr ⟨by rw [z1]; rfl, z2, z3⟩
  -- the row is too small
  have w305 : ∀ (u i : Nat) (h1 : xH) (rn sn ln hn : Nat) (fc0 y : Int), hF sT n h h1 → isWr (n + 2) h1 L fc0 tl nm → (0 ≤ p ∧ u = 0 ∧ y = p ∨ p < 0 ∧ ((i + u : Nat) : Int) = -p ∧ y = -(i : Int)) → isT (n + 2) h1 40 200 rn (c * 2 ^ (q.toNat + kM c q) * 10 ^ i) → isT (n + 2) h1 41 200 sn (WM c q p) → isT (n + 2) h1 42 200 ln (2 ^ q.toNat * 10 ^ i) → isT (n + 2) h1 43 200 hn ((if nbf c q = 0 then 1 else 2) * 2 ^ q.toNat * 10 ^ i) → (0 ≤ p → i = 0) → X9_shortest_w305 G k 26 (evf c) rn sn ln hn y 1 (n + 2) h1 := by
    intro u
    induction u with
    | zero =>
      intro i h1 rn sn ln hn fc0 y e1 t1 hi u40 u41 u42 u43 hpi
      have hiy : y = p ∧ i = (-p).toNat := by
        rcases hi with z | z
        · have := hpi z.1; omega
        · omega
      obtain ⟨hy, hi2⟩ := hiy
      subst hi2
      subst hy
      have v40 : isT (n + 2) h1 40 200 rn (RM c q y) := u40
      refine X9_shortest_b305 (n0 := 0) C E 26 _ rn sn ln hn y 1 (n + 2) h1 ⟨rgS (by decide) (by decide), fun z => absurd z (by decide), fun _ => ?_⟩
      rw [t1.1.g13, t1.1.g17]
      refine ⟨t1.1.ok, by decide, t1.1.ok, by decide, sp_copyW v40 t1.1.t44 (by decide) v40.2.1 (fun h2 e2 u2 _ => ?_)⟩
      have e2' : hE (sC 44) h1 h2 := e2
      have t2 := t1.mv e2' (by decide) (by decide) (by decide)
      rw [t2.1.g17]
      refine ⟨t2.1.ok, by decide, sp_tenfold (k0 := 1) u2 (by decide) (by rw [Int.pow_one]; exact fits _ (by omega)) (fun h3 s3 e3 u3 => ?_)⟩
      have e3' : hE (sC 44) h2 h3 := e3
      have t3 := t2.mv e3' (by decide) (by decide) (by decide)
      have v41 := (u41.mv e2' (by decide)).mv e3' (by decide)
      have v43 := (u43.mv e2' (by decide)).mv e3' (by decide)
      have v42 := (u42.mv e2' (by decide)).mv e3' (by decide)
      have v40' := (v40.mv e2' (by decide)).mv e3' (by decide)
      have e13 : hE sT h1 h3 := (sT_c e2' (by decide) (by decide)).tr (sT_c e3' (by decide) (by decide))
      have e03 : hF sT n h h3 := e1.tr (e13.f (n := n)) (Nat.le_refl _)
      rw [t3.1.g17, t3.1.g14]
      have fin : X9_shortest_w358 G k 26 (evf c) rn sn ln hn y 0 (n + 2) h3 := by
        refine X9_shortest_b358 (n0 := 0) C E 26 _ rn sn ln hn y 0 (n + 2) h3 ⟨rgS (by decide) (by decide), fun _ => X9_shortest_b404 (n0 := 0) C E 26 _ rn sn ln hn y 0 (n + 2) h3 (X9_shortest_b305 (n0 := 0) C E 26 _ rn sn ln hn y 0 (n + 2) h3 ⟨rgS (by decide) (by decide), fun _ => ⟨t3.1.ok, fun h4 e4 => w412 h3 h4 rn sn ln hn fc0 e03 t3 v40' v41 v42 v43 e4⟩, fun z => absurd rfl z⟩), fun z => absurd rfl z⟩
      refine ⟨t3.1.ok, by decide, t3.1.ok, by decide, sp_compareRows u3 v41 ⟨rg_ord _ _, fun _ => fin, fun z => ?_⟩⟩
      exfalso
      apply z
      unfold ord
      rw [if_neg (by rw [Int.pow_one]; omega)]
      split <;> decide
    | succ u ih =>
      intro i h1 rn sn ln hn fc0 y e1 t1 hi u40 u41 u42 u43 hpi
      have hp' : p < 0 ∧ ((i + (u + 1) : Nat) : Int) = -p ∧ y = -(i : Int) := by
        rcases hi with z | z
        · have := z.2.1; omega
        · exact z
      obtain ⟨hpn, hiu, hy⟩ := hp'
      have hstep : ∀ (v : Int) (j : Nat), v * 10 ^ j * 10 ^ 1 = v * 10 ^ (j + 1) := fun v j => by rw [Int.mul_assoc, ← Int.pow_add]
      have hmon : ∀ v : Int, 0 ≤ v → v * 10 ^ (i + 1) ≤ v * 10 ^ (-p).toNat := fun v hv => Int.mul_le_mul_of_nonneg_left (ten_mono (by omega)) hv
      have hRi : c * 2 ^ (q.toNat + kM c q) * 10 ^ (i + 1) ≤ RM c q p := hmon _ (Int.mul_nonneg (by omega) (Int.le_of_lt (pw_pos _)))
      have hBi : (2 : Int) ^ q.toNat * 10 ^ (i + 1) ≤ BM c q p := hmon _ (Int.le_of_lt (pw_pos _))
      have hAi : (if nbf c q = 0 then (1 : Int) else 2) * 2 ^ q.toNat * 10 ^ (i + 1) ≤ AM c q p := hmon _ (Int.mul_nonneg (by split <;> decide) (Int.le_of_lt (pw_pos _)))
      have hbig : (2 : Int) ^ 1080 < 10000 ^ 200 := by decide +kernel
      refine X9_shortest_b305 (n0 := 0) C E 26 _ rn sn ln hn y 1 (n + 2) h1 ⟨rgS (by decide) (by decide), fun z => absurd z (by decide), fun _ => ?_⟩
      rw [t1.1.g13, t1.1.g17]
      refine ⟨t1.1.ok, by decide, t1.1.ok, by decide, sp_copyW u40 t1.1.t44 (by decide) u40.2.1 (fun h2 e2 u2 _ => ?_)⟩
      have e2' : hE (sC 44) h1 h2 := e2
      have t2 := t1.mv e2' (by decide) (by decide) (by decide)
      rw [t2.1.g17]
      refine ⟨t2.1.ok, by decide, sp_tenfold (k0 := 1) u2 (by decide) (by rw [hstep]; omega) (fun h3 s3 e3 u3 => ?_)⟩
      have e3' : hE (sC 44) h2 h3 := e3
      have t3 := t2.mv e3' (by decide) (by decide) (by decide)
      have v41 := (u41.mv e2' (by decide)).mv e3' (by decide)
      have v43 := (u43.mv e2' (by decide)).mv e3' (by decide)
      have v42 := (u42.mv e2' (by decide)).mv e3' (by decide)
      have v40 := (u40.mv e2' (by decide)).mv e3' (by decide)
      have e13 : hE sT h1 h3 := (sT_c e2' (by decide) (by decide)).tr (sT_c e3' (by decide) (by decide))
      have e03 : hF sT n h h3 := e1.tr (e13.f (n := n)) (Nat.le_refl _)
      rw [t3.1.g17, t3.1.g14]
      refine ⟨t3.1.ok, by decide, t3.1.ok, by decide, sp_compareRows u3 v41 ⟨rg_ord _ _, fun z => ?_, fun _ => ?_⟩⟩
      · exfalso
        unfold ord at z
        rw [if_pos (by rw [hstep]; omega)] at z
        exact absurd z (by decide)
      · refine X9_shortest_b358 (n0 := 0) C E 26 _ rn sn ln hn y 1 (n + 2) h3 ⟨rgS (by decide) (by decide), fun z => absurd z (by decide), fun _ => ?_⟩
        rw [t3.1.g13]
        refine ⟨t3.1.ok, by decide, sp_tenfold (k0 := 1) v40 (by decide) (by rw [hstep]; omega) (fun h4 s4 e4 u4 => ?_)⟩
        have e4' : hE (sC 40) h3 h4 := e4
        have t4 := t3.mv e4' (by decide) (by decide) (by decide)
        rw [t4.1.g15]
        refine ⟨t4.1.ok, by decide, sp_tenfold (k0 := 1) (v42.mv e4' (by decide)) (by decide) (by rw [hstep]; omega) (fun h5 s5 e5 u5 => ?_)⟩
        have e5' : hE (sC 42) h4 h5 := e5
        have t5 := t4.mv e5' (by decide) (by decide) (by decide)
        rw [t5.1.g16]
        refine ⟨t5.1.ok, by decide, sp_tenfold (k0 := 1) ((v43.mv e4' (by decide)).mv e5' (by decide)) (by decide) (by rw [hstep]; omega) (fun h6 s6 e6 u6 => ?_)⟩
        have e6' : hE (sC 43) h5 h6 := e6
        have t6 := t5.mv e6' (by decide) (by decide) (by decide)
        have w40 : isT (n + 2) h6 40 200 s4 (c * 2 ^ (q.toNat + kM c q) * 10 ^ (i + 1)) := by
          have : isT (n + 2) h4 40 200 s4 _ := u4
          rw [hstep] at this
          exact (this.mv e5' (by decide)).mv e6' (by decide)
        have w42 : isT (n + 2) h6 42 200 s5 (2 ^ q.toNat * 10 ^ (i + 1)) := by
          have : isT (n + 2) h5 42 200 s5 _ := u5
          rw [hstep] at this
          exact this.mv e6' (by decide)
        have w43 : isT (n + 2) h6 43 200 s6 ((if nbf c q = 0 then 1 else 2) * 2 ^ q.toNat * 10 ^ (i + 1)) := by
          have : isT (n + 2) h6 43 200 s6 _ := u6
          rw [hstep] at this
          exact this
        have w41 := ((v41.mv e4' (by decide)).mv e5' (by decide)).mv e6' (by decide)
        have e36 : hE sT h3 h6 := ((sT_c e4' (by decide) (by decide)).tr (sT_c e5' (by decide) (by decide))).tr (sT_c e6' (by decide) (by decide))
        exact X9_shortest_b404 (n0 := 0) C E 26 _ s4 sn s5 s6 _ 1 (n + 2) h6 (ih (i + 1) h6 s4 sn s5 s6 fc0 _ (e03.tr (e36.f (n := n)) (Nat.le_refl _)) t6 (Or.inr ⟨hpn, by omega, by omega⟩) w40 w41 w42 w43 (fun z => by omega))
  -- the unit is too small
  have w266 : ∀ (u j : Nat) (h1 : xH) (rn sn ln hn : Nat) (fc0 : Int), hF sT n h h1 → isWr (n + 2) h1 L fc0 tl nm → (0 ≤ p ∧ ((j + u : Nat) : Int) = p ∨ p < 0 ∧ j = 0 ∧ u = 0) → isT (n + 2) h1 40 200 rn (c * 2 ^ (q.toNat + kM c q)) → isT (n + 2) h1 41 200 sn (2 ^ ((-q).toNat + kM c q) * 10 ^ j) → isT (n + 2) h1 42 200 ln (2 ^ q.toNat) → isT (n + 2) h1 43 200 hn ((if nbf c q = 0 then 1 else 2) * 2 ^ q.toNat) → X9_shortest_w266 G k 26 (evf c) rn sn ln hn j (n + 2) h1 := by
    intro u
    induction u with
    | zero =>
      intro j h1 rn sn ln hn fc0 e1 t1 hj u40 u41 u42 u43
      have hW : 2 ^ ((-q).toNat + kM c q) * 10 ^ j = WM c q p := by
        unfold WM
        rw [show p.toNat = j by omega]
      rw [hW] at u41
      have hR1 : (c : Int) * 2 ^ (q.toNat + kM c q) ≤ RM c q p := by
        unfold RM
        have := Int.mul_le_mul_of_nonneg_left (show (1 : Int) ≤ 10 ^ (-p).toNat by have := tenp (-p).toNat; omega) (Int.mul_nonneg (show (0 : Int) ≤ c by omega) (Int.le_of_lt (pw_pos (q.toNat + kM c q))))
        rwa [Int.mul_one] at this
      refine X9_shortest_b266 (n0 := 0) C E 26 _ rn sn ln hn j (n + 2) h1 ?_
      rw [t1.1.g13, t1.1.g14]
      refine ⟨t1.1.ok, by decide, t1.1.ok, by decide, sp_compareRows u40 u41 ⟨rg_ord _ _, fun _ => ?_, fun z => ?_⟩⟩
      · refine w305 (-p).toNat 0 h1 rn sn ln hn fc0 j e1 t1 (by omega) (by rw [Int.pow_zero, Int.mul_one]; exact u40) u41 (by rw [Int.pow_zero, Int.mul_one]; exact u42) (by rw [Int.pow_zero, Int.mul_one]; exact u43) (fun _ => rfl)
      · exfalso
        apply z
        unfold ord
        rw [if_pos (by omega)]; decide
    | succ u ih =>
      intro j h1 rn sn ln hn fc0 e1 t1 hj u40 u41 u42 u43
      have hp' : 0 ≤ p ∧ ((j + (u + 1) : Nat) : Int) = p := by omega
      have hR : RM c q p = c * 2 ^ (q.toNat + kM c q) := by unfold RM; rw [show (-p).toNat = 0 by omega, Int.pow_zero, Int.mul_one]
      have hWj : 2 ^ ((-q).toNat + kM c q) * 10 ^ (j + 1) ≤ WM c q p := Int.mul_le_mul_of_nonneg_left (ten_mono (by omega)) (Int.le_of_lt (pw_pos _))
      have hstep : (2 : Int) ^ ((-q).toNat + kM c q) * 10 ^ j * 10 ^ 1 = 2 ^ ((-q).toNat + kM c q) * 10 ^ (j + 1) := by rw [Int.mul_assoc, ← Int.pow_add]
      have hge : 2 ^ ((-q).toNat + kM c q) * 10 ^ j ≤ (c : Int) * 2 ^ (q.toNat + kM c q) := by
        rw [Int.pow_one] at hstep
        omega
      have hbig : (2 : Int) ^ 1080 < 10000 ^ 200 := by decide +kernel
      refine X9_shortest_b266 (n0 := 0) C E 26 _ rn sn ln hn j (n + 2) h1 ?_
      rw [t1.1.g13, t1.1.g14]
      refine ⟨t1.1.ok, by decide, t1.1.ok, by decide, sp_compareRows u40 u41 ⟨rg_ord _ _, fun z => ?_, fun _ => ?_⟩⟩
      · exfalso
        unfold ord at z
        rw [if_neg (by omega)] at z
        split at z <;> omega
      · rw [t1.1.g14]
        refine ⟨t1.1.ok, by decide, sp_tenfold (k0 := 1) u41 (by decide) (by rw [hstep]; omega) (fun h2 s2 e2 u2 => ?_)⟩
        have e2' : hE (sC 41) h1 h2 := e2
        have t2 := t1.mv e2' (by decide) (by decide) (by decide)
        have u2' : isT (n + 2) h2 41 200 s2 (2 ^ ((-q).toNat + kM c q) * 10 ^ (j + 1)) := by rw [← hstep]; exact u2
        have := ih (j + 1) h2 rn s2 ln hn fc0 (e1.tr ((sT_c e2' (by decide) (by decide)).f (n := n)) (Nat.le_refl _)) t2 (by omega) (u40.mv e2' (by decide)) u2' (u42.mv e2' (by decide)) (u43.mv e2' (by decide))
        rw [show ((j + 1 : Nat) : Int) = (j : Int) + 1 by omega] at this
        exact this
  -- the four rows are scaled
  have e0 : ((0 : Int)).toNat = 0 := rfl
  have w151 : ∀ (h1 : xH) (z1 r1 d1 : Nat) (fc0 : Int), hF sT n h h1 → isWr (n + 2) h1 L fc0 tl nm → isWh (n + 2) h1 z1 r1 d1 1 (c : Int) → isT (n + 2) h1 40 200 d1 (c : Int) → isT (n + 2) h1 41 200 1 1 → isT (n + 2) h1 42 200 1 1 → isT (n + 2) h1 43 200 1 (if nbf c q = 0 then 1 else 2) → X9_shortest_w151 G k 26 q (evf c) (nbf c q) z1 (n + 2) h1 := by
    intro h1 z1 r1 d1 fc0 e1 t1 tw u40 u41 u42 u43
    obtain ⟨l1, l2, l3⟩ := tw.ln
    have hbig : (2 : Int) ^ 1080 < 10000 ^ 200 := by decide +kernel
    have h53 : (2 : Int) ^ 53 = 9007199254740992 := by decide
    have rq : rg q := rgS (by omega) (by omega)
    have rnb : rg (nbf c q) := by rcases hnb with z | z <;> rw [z] <;> exact rgS (by decide) (by decide)
    -- high
    have w258 : ∀ (h2 : xH) (rn sn ln : Nat) (fc0 : Int), hF sT n h h2 → isWr (n + 2) h2 L fc0 tl nm → isT (n + 2) h2 40 200 rn (c * 2 ^ (q.toNat + kM c q)) → isT (n + 2) h2 41 200 sn (2 ^ ((-q).toNat + kM c q)) → isT (n + 2) h2 42 200 ln (2 ^ q.toNat) → isT (n + 2) h2 43 200 1 (if nbf c q = 0 then 1 else 2) → X9_shortest_w258 G k 26 (evf c) rn sn ln (q.toNat : Int) 1 43 (n + 2) h2 := by
      intro h2 rn sn ln fc0 e2 t2 v40 v41 v42 v43
      refine X9_shortest_b258 (n0 := 0) C E 26 _ rn sn ln _ 1 43 (n + 2) h2 (sp_doubled (s := 1) v43 (by omega) ?_ (fun h3 s3 e3 u3 _ => ?_))
      · have h1 : (if nbf c q = 0 then (1 : Int) else 2) * 2 ^ q.toNat ≤ 2 * 2 ^ 971 := Int.mul_le_mul (by split <;> decide) (pw_mono (by omega)) (Int.le_of_lt (pw_pos _)) (by decide)
        have h2 : (2 : Int) * 2 ^ 971 < 10000 ^ 200 := by decide +kernel
        omega
      · have e3' : hE (sC 43) h2 h3 := e3
        exact w266 p.toNat 0 h3 rn sn ln s3 fc0 (e2.tr ((sT_c e3' (by decide) (by decide)).f (n := n)) (Nat.le_refl _)) (t2.mv e3' (by decide) (by decide) (by decide)) (by omega) (v40.mv e3' (by decide)) (by rw [Int.pow_zero, Int.mul_one]; exact v41.mv e3' (by decide)) (v42.mv e3' (by decide)) u3
    -- low
    have w237 : ∀ (h2 : xH) (rn sn : Nat) (fc0 : Int), hF sT n h h2 → isWr (n + 2) h2 L fc0 tl nm → isT (n + 2) h2 40 200 rn (c * 2 ^ (q.toNat + kM c q)) → isT (n + 2) h2 41 200 sn (2 ^ ((-q).toNat + kM c q)) → isT (n + 2) h2 42 200 1 1 → isT (n + 2) h2 43 200 1 (if nbf c q = 0 then 1 else 2) → X9_shortest_w237 G k 26 q (evf c) rn sn (q.toNat : Int) 1 42 (n + 2) h2 := by
      intro h2 rn sn fc0 e2 t2 v40 v41 v42 v43
      refine X9_shortest_b237 (n0 := 0) C E 26 q _ rn sn _ 1 42 (n + 2) h2 (sp_doubled (s := 1) v42 (by omega) ?_ (fun h3 s3 e3 u3 _ => ?_))
      · have h1 : (1 : Int) * 2 ^ q.toNat ≤ 2 ^ 971 := by rw [Int.one_mul]; exact pw_mono (by omega)
        have h2 : (2 : Int) ^ 971 < 10000 ^ 200 := by decide +kernel
        omega
      · have e3' : hE (sC 42) h2 h3 := e3
        have t3 := t2.mv e3' (by decide) (by decide) (by decide)
        have := w258 h3 rn sn s3 fc0 (e2.tr ((sT_c e3' (by decide) (by decide)).f (n := n)) (Nat.le_refl _)) t3 (v40.mv e3' (by decide)) (v41.mv e3' (by decide)) (by rw [← Int.one_mul (2 ^ q.toNat)]; exact u3) (v43.mv e3' (by decide))
        rw [t3.1.g16]
        refine ⟨t3.1.ok, by decide, rq, fun z => ?_, fun z => ?_⟩
        · rw [show ((q.toNat : Nat) : Int) = 0 by omega] at this; exact this
        · rw [show ((q.toNat : Nat) : Int) = q by omega] at this; exact this
    -- unit
    have w215 : ∀ (h2 : xH) (rn : Nat) (fc0 : Int), hF sT n h h2 → isWr (n + 2) h2 L fc0 tl nm → isT (n + 2) h2 40 200 rn (c * 2 ^ (q.toNat + kM c q)) → isT (n + 2) h2 41 200 1 1 → isT (n + 2) h2 42 200 1 1 → isT (n + 2) h2 43 200 1 (if nbf c q = 0 then 1 else 2) → X9_shortest_w215 G k 26 q (evf c) rn (kM c q : Int) ((-q).toNat : Int) 1 41 (n + 2) h2 := by
      intro h2 rn fc0 e2 t2 v40 v41 v42 v43
      refine X9_shortest_b215 (n0 := 0) C E 26 q _ rn _ _ 1 41 (n + 2) h2 ?_
      rw [show ((-q).toNat : Int) + (kM c q : Int) = (((-q).toNat + kM c q : Nat) : Int) by omega]
      refine sp_doubled (s := 1) v41 (by omega) ?_ (fun h3 s3 e3 u3 _ => ?_)
      · have h1 : (1 : Int) * 2 ^ ((-q).toNat + kM c q) ≤ 2 ^ 1080 := by rw [Int.one_mul]; exact pw_mono (by omega)
        omega
      · have e3' : hE (sC 41) h2 h3 := e3
        have t3 := t2.mv e3' (by decide) (by decide) (by decide)
        have := w237 h3 rn s3 fc0 (e2.tr ((sT_c e3' (by decide) (by decide)).f (n := n)) (Nat.le_refl _)) t3 (v40.mv e3' (by decide)) (by rw [← Int.one_mul (2 ^ ((-q).toNat + kM c q))]; exact u3) (v42.mv e3' (by decide)) (v43.mv e3' (by decide))
        rw [t3.1.g15]
        refine ⟨t3.1.ok, by decide, rq, fun z => ?_, fun z => ?_⟩
        · rw [show ((q.toNat : Nat) : Int) = 0 by omega] at this; exact this
        · rw [show ((q.toNat : Nat) : Int) = q by omega] at this; exact this
    have w205 : ∀ (h2 : xH) (rn : Nat) (fc0 : Int), hF sT n h h2 → isWr (n + 2) h2 L fc0 tl nm → isT (n + 2) h2 40 200 rn (c * 2 ^ (q.toNat + kM c q)) → isT (n + 2) h2 41 200 1 1 → isT (n + 2) h2 42 200 1 1 → isT (n + 2) h2 43 200 1 (if nbf c q = 0 then 1 else 2) → X9_shortest_w205 G k 26 q (evf c) (nbf c q) rn ((-q).toNat : Int) 1 41 (n + 2) h2 := by
      intro h2 rn fc0 e2 t2 v40 v41 v42 v43
      have := w215 h2 rn fc0 e2 t2 v40 v41 v42 v43
      unfold kM at this
      refine X9_shortest_b205 (n0 := 0) C E 26 q _ _ rn _ 1 41 (n + 2) h2 ⟨rnb, fun z => ?_, fun z => ?_⟩
      · rw [if_pos z] at this; exact this
      · rw [if_neg z] at this; exact this
    -- way
    have w182 : X9_shortest_w182 G k 26 q (evf c) (nbf c q) (kM c q : Int) (q.toNat : Int) d1 40 (n + 2) h1 := by
      refine X9_shortest_b182 (n0 := 0) C E 26 q _ _ _ _ d1 40 (n + 2) h1 ?_
      rw [show (q.toNat : Int) + (kM c q : Int) = ((q.toNat + kM c q : Nat) : Int) by omega]
      refine sp_doubled u40 (by omega) ?_ (fun h3 s3 e3 u3 _ => ?_)
      · have h1 : (c : Int) * 2 ^ (q.toNat + kM c q) ≤ 2 ^ 53 * 2 ^ 973 := Int.mul_le_mul (by omega) (pw_mono (by omega)) (Int.le_of_lt (pw_pos _)) (by decide)
        have h2 : (2 : Int) ^ 53 * 2 ^ 973 < 10000 ^ 200 := by decide +kernel
        omega
      · have e3' : hE (sC 40) h1 h3 := e3
        have t3 := t1.mv e3' (by decide) (by decide) (by decide)
        have := w205 h3 s3 fc0 (e1.tr ((sT_c e3' (by decide) (by decide)).f (n := n)) (Nat.le_refl _)) t3 u3 (u41.mv e3' (by decide)) (u42.mv e3' (by decide)) (u43.mv e3' (by decide))
        rw [t3.1.g14]
        refine ⟨t3.1.ok, by decide, rq, fun z => ?_, fun z => ?_⟩
        · rw [show (((-q).toNat : Nat) : Int) = 0 by omega] at this; exact this
        · rw [show (((-q).toNat : Nat) : Int) = -q by omega] at this; exact this
    have w172 : X9_shortest_w172 G k 26 q (evf c) (nbf c q) (q.toNat : Int) d1 40 (n + 2) h1 := by
      have := w182
      unfold kM at this
      refine X9_shortest_b172 (n0 := 0) C E 26 q _ _ _ d1 40 (n + 2) h1 ⟨rnb, fun z => ?_, fun z => ?_⟩
      · rw [if_pos z] at this; exact this
      · rw [if_neg z] at this; exact this
    refine X9_shortest_b151 (n0 := 0) C E 26 q _ _ z1 (n + 2) h1 ?_
    rw [t1.1.g13, tw.f1, Int.toNat_natCast, l1]
    refine ⟨t1.1.ok, by decide, tw.ok, by omega, ⟨l2, Or.inl l3⟩, rq, fun z => ?_, fun z => ?_⟩
    · have := w172
      rw [show ((q.toNat : Nat) : Int) = 0 by omega] at this; exact this
    · have := w172
      rw [show ((q.toNat : Nat) : Int) = q by omega] at this; exact this
  -- the rows are filled
  have w77 : X9_shortest_w77 G k 26 c q (evf c) (nbf c q) n h := by
    refine X9_shortest_b77 (n0 := 0) C E 26 c q _ _ n h (sp_whole h47 ⟨by omega, by omega⟩ (fun h1 z1 r1 d1 k1 hz1 hr1 tw => ?_))
    rw [if_neg (by omega), if_pos (by omega), Int.natAbs_natCast] at tw
    have t1 : isWr (n + 2) h1 L fc tl nm := t.fr (S := fun _ => False) k1 (by omega) id id id
    obtain ⟨l1, l2, l3⟩ := tw.ln
    have hd1 : d1 ≤ 5 := tw.row.len (by
      have : (10000 : Int) ^ 5 = 100000000000000000000 := by decide
      omega)
    have hz47 := tw.2.1
    have hr47 := tw.2.2.1
    rw [tw.f1, Int.toNat_natCast, l1, t1.1.g13]
    refine ⟨tw.ok, by omega, t1.1.ok, by decide, tw.ok, by omega, ⟨l2, Or.inl l3⟩, sp_copyW tw.row t1.1.t40 (by show r1 ≠ 40; omega) (by omega) (fun h2 e2 u2 _ => ?_)⟩
    have e2' : hE (sC 40) h1 h2 := e2
    have t2 := t1.mv e2' (by decide) (by decide) (by decide)
    rw [t2.1.g0, t2.1.g14]
    refine ⟨t2.1.ok, by decide, t2.1.ok, by decide, sp_copyW (s := 1) t2.1.one t2.1.t41 (by decide) (by decide) (fun h3 e3 u3 _ => ?_)⟩
    have e3' : hE (sC 41) h2 h3 := e3
    have t3 := t2.mv e3' (by decide) (by decide) (by decide)
    rw [t3.1.g0, t3.1.g15]
    refine ⟨t3.1.ok, by decide, t3.1.ok, by decide, sp_copyW (s := 1) t3.1.one t3.1.t42 (by decide) (by decide) (fun h4 e4 u4 _ => ?_)⟩
    have e4' : hE (sC 42) h3 h4 := e4
    have t4 := t3.mv e4' (by decide) (by decide) (by decide)
    rw [t4.1.g0, t4.1.g16]
    refine ⟨t4.1.ok, by decide, t4.1.ok, by decide, sp_copyW (s := 1) t4.1.one t4.1.t43 (by decide) (by decide) (fun h5 e5 u5 _ => ?_)⟩
    have e5' : hE (sC 43) h4 h5 := e5
    have t5 := t4.mv e5' (by decide) (by decide) (by decide)
    have tw5 : isWh (n + 2) h5 z1 r1 d1 1 (c : Int) := (((tw.mv e2' (show ¬ z1 = 40 by omega) (show ¬ r1 = 40 by omega)).mv e3' (show ¬ z1 = 41 by omega) (show ¬ r1 = 41 by omega)).mv e4' (show ¬ z1 = 42 by omega) (show ¬ r1 = 42 by omega)).mv e5' (show ¬ z1 = 43 by omega) (show ¬ r1 = 43 by omega)
    have v40 : isT (n + 2) h5 40 200 d1 (c : Int) := ((u2.mv e3' (by decide)).mv e4' (by decide)).mv e5' (by decide)
    have v41 : isT (n + 2) h5 41 200 1 1 := (u3.mv e4' (by decide)).mv e5' (by decide)
    have v42 : isT (n + 2) h5 42 200 1 1 := u4.mv e5' (by decide)
    have v43 : isT (n + 2) h5 43 200 1 1 := u5
    have e15 : hE sT h1 h5 := (((sT_c e2' (by decide) (by decide)).tr (sT_c e3' (by decide) (by decide))).tr (sT_c e4' (by decide) (by decide))).tr (sT_c e5' (by decide) (by decide))
    have e05 : hF sT n h h5 := (hK.f k1).tr (e15.f (n := n)) (Nat.le_refl _)
    refine ⟨by rcases hnb with z | z <;> rw [z] <;> exact rgS (by decide) (by decide), fun z => w151 h5 z1 r1 d1 fc e05 t5 tw5 v40 v41 v42 (by rw [if_pos z]; exact v43), fun z => ?_⟩
    rw [t5.1.g16]
    refine ⟨t5.1.ok, by decide, t5.1.t43.at (by decide) (by decide), fun h6 e6 => ?_⟩
    have e6' : hE (sC 43) h5 h6 := hE.put' (S := sC 43) e6 rfl
    have hg6 : (h6 43).2.2 0 = 2 := by rw [e6]; show (hS h5 43 0 2 43).2.2 0 = 2; rw [hS_g, if_pos ⟨rfl, rfl⟩]
    have v43' : isT (n + 2) h6 43 200 1 2 := by
      refine ⟨v43.1.mv e6', by decide, fun i hi => ?_, ?_, fun u hu => ?_⟩
      · have : i = 0 := by omega
        rw [this, hg6]; decide
      · show 0 + (h6 43).2.2 0 * 10000 ^ 0 = 2
        rw [hg6]; decide
      · have : u = 0 := by omega
        rw [this, hg6]; decide
    exact w151 h6 z1 r1 d1 fc (e05.tr ((sT_c e6' (by decide) (by decide)).f (n := n)) (Nat.le_refl _)) (t5.mv e6' (by decide) (by decide) (by decide)) (tw5.mv e6' (show ¬ z1 = 43 by omega) (show ¬ r1 = 43 by omega)) (v40.mv e6' (by decide)) (v41.mv e6' (by decide)) (v42.mv e6' (by decide)) (by rw [if_neg z]; exact v43')
  have rcL : rgL (c : Int) := ⟨by omega, by omega⟩
  have rcc : rgL 4503599627370496 := ⟨by decide, by decide⟩
  have w54 : X9_shortest_w54 G k 26 c q (evf c) n h := by
    have w76 : nbf c q = 0 → X9_shortest_w76 G k 26 c q (evf c) n h := fun z => X9_shortest_b76 (n0 := 0) C E 26 c q _ n h (by rw [← z]; exact w77)
    refine X9_shortest_b54 (n0 := 0) C E 26 c q _ n h ⟨⟨rcL, rcc⟩, fun g => w76 ?_, fun g => ⟨⟨rgS (by omega) (by omega), rgS (by decide) (by decide)⟩, fun g2 => w76 ?_, fun g2 => ?_⟩⟩
    · unfold nbf
      rw [if_neg (fun z => g ((lC_eq0 _ _).mpr z.1))]
    · unfold nbf
      rw [if_neg (fun z => by omega)]
    · have : nbf c q = 1 := by
        unfold nbf
        rw [if_pos ⟨(lC_eq0 _ _).mp g, by omega⟩]
      rw [← this]; exact w77
  have w39 : X9_shortest_w39 G k 26 c q n h := by
    have tq2 := (tdm (show (0 : Int) ≤ c by omega) 2).2
    refine X9_shortest_b39 (n0 := 0) C E 26 c q n h ⟨⟨rcL, ⟨by decide, by decide⟩, by decide⟩, ⟨by rw [tq2]; exact ⟨by omega, by omega⟩, ⟨by decide, by decide⟩⟩, fun g => ?_, fun g => ?_⟩
    · have : evf c = 0 := by
        unfold evf
        rw [if_neg (fun z => g ((lC_eq0 _ _).mpr (by rw [tq2]; exact z)))]
      rw [← this]; exact w54
    · have : evf c = 1 := by
        unfold evf
        have := (lC_eq0 _ _).mp g
        rw [tq2] at this
        rw [if_pos this]
      rw [← this]; exact w54
  refine X9_shortest_b0 (n0 := 0) C E 26 x n h (sp_significand hx hc (fun m e hs => sp_exponent hx hc (fun m2 e2 hs2 => ?_)))
  have hu := sgR_u hs2 hs
  rw [hu.2]
  have hs' := hs
  obtain ⟨s1, s2, s3, s4, s5, s6, s7⟩ := hs
  have done : ∀ j : Nat, cnD (m * 2 ^ j) (e - j) → m * 2 ^ j = c ∧ e - j = q := by
    intro j hj
    exact cn_u hj ⟨c1, c2, c3, c4⟩ (by
      unfold zv
      have h1 := s1
      unfold zv at h1
      rw [h1, Nat.mul_assoc, ← Nat.pow_add, show j + (e - j + 1074).toNat = (e + 1074).toNat by have := hj.2.1; omega])
  suffices K : ∀ (u j : Nat), j + u = 53 → m * 2 ^ j < 9007199254740992 → -1074 ≤ e - j → (e ≤ 0 ∨ j = 0) → X9_shortest_w11 G k 26 ((m * 2 ^ j : Nat) : Int) (e - j) n h by
    have := K 53 0 rfl (by simpa using s5) (by omega) (Or.inr rfl)
    simpa using this
  intro u
  induction u with
  | zero =>
    intro j hj h1 h3 h4
    have : j = 53 := by omega
    subst this
    have h53 : (2 : Nat) ^ 53 = 9007199254740992 := by decide
    have := Nat.mul_le_mul_right (2 ^ 53) s4
    omega
  | succ u ih =>
    intro j hj h1 h3 h4
    have rm : rgL ((m * 2 ^ j : Nat) : Int) := ⟨by omega, by omega⟩
    refine X9_shortest_b11 (n0 := 0) C E 26 _ _ n h ⟨⟨rm, rcc⟩, fun g => ?_, fun g => ⟨⟨rgS (by omega) (by omega), rgS (by decide) (by decide)⟩, fun g2 => ?_, fun g2 => ?_⟩⟩
    · have := mt (lC_lt ((m * 2 ^ j : Nat) : Int) 4503599627370496).mpr (by omega)
      obtain ⟨d1, d2⟩ := done j ⟨h1, h3, by omega, Or.inr (by omega)⟩
      rw [d1, d2]; exact w39
    · obtain ⟨d1, d2⟩ := done j ⟨h1, h3, by omega, Or.inl (by omega)⟩
      rw [d1, d2]; exact w39
    · have hlt := (lC_lt ((m * 2 ^ j : Nat) : Int) 4503599627370496).mp (by omega)
      have e1 : m * 2 ^ (j + 1) = m * 2 ^ j * 2 := by rw [Nat.pow_succ, Nat.mul_assoc]
      have := ih (j + 1) (by omega) (by rw [e1]; omega) (by omega) (by
        rcases Int.lt_or_le 0 e with y | y
        · have := s7 y
          have hp2 := Nat.two_pow_pos j
          have := Nat.mul_le_mul_left m hp2
          omega
        · exact Or.inl y)
      rw [e1, show e - ((j + 1 : Nat) : Int) = e - j + (-1) by omega] at this
      exact this
