/-! THE SHORTEST DIGITS: find -/
def genR (w ev : Int) : List Int → Int → Int → Int → Prop
  | [], _, _, _ => False
  | d :: L, r, a, b => ∃ q m, dgR r w q m ∧ ((¬ (lv ev m (10 * b) ∨ lv ev w (m + 10 * a)) ∧ d = q ∧ genR w ev L m (10 * a) (10 * b)) ∨ ((lv ev m (10 * b) ∨ lv ev w (m + 10 * a)) ∧ L = [] ∧ ((lv ev w (m + 10 * a) ∧ (¬ lv ev m (10 * b) ∨ nr m w q) ∧ d = q + 1) ∨ (¬ (lv ev w (m + 10 * a) ∧ (¬ lv ev m (10 * b) ∨ nr m w q)) ∧ d = q))))
def P0 (u pl : Int) : Int := ((bl u + pl - 1) * 30103) / 100000 + 1
def evf (u : Int) : Int := if u % 2 = 0 then 1 else 0
def nbf (u pl : Int) : Int := if u = 4503599627370496 ∧ -1074 < pl then 1 else 0
def R0 (u pl : Int) : Int := u * 2 ^ ((pl - P0 u pl).toNat + 2) * (5 ^ (-P0 u pl).toNat : Nat)
def W0 (u pl : Int) : Int := 2 ^ ((-(pl - P0 u pl)).toNat + 2) * (5 ^ (P0 u pl).toNat : Nat)
def A0 (u pl : Int) : Int := 2 ^ ((pl - P0 u pl).toNat + 1) * (5 ^ (-P0 u pl).toNat : Nat)
def B0 (u pl : Int) : Int := 2 ^ ((pl - P0 u pl).toNat + (if nbf u pl = 0 then 1 else 0)) * (5 ^ (-P0 u pl).toNat : Nat)
/-- the shortest digits of u * 2^pl, and their point -/
def findR (u pl : Int) (L : List Int) (pt : Int) : Prop := (u = 0 ∧ L = [0] ∧ pt = 1) ∨ (0 < u ∧ ∃ c : Nat, c ≤ 3 ∧ pt = P0 u pl + c ∧ (∀ j : Nat, j < c → lv (evf u) (W0 u pl * 10 ^ j) (R0 u pl + A0 u pl)) ∧ (c = 3 ∨ ¬ lv (evf u) (W0 u pl * 10 ^ c) (R0 u pl + A0 u pl)) ∧ L.length ≤ 20 ∧ genR (W0 u pl * 10 ^ c) (evf u) L (R0 u pl) (A0 u pl) (B0 u pl))
theorem p0_bd {u pl : Int} (hu0 : 0 < u) (hu1 : u < 2 ^ 63) (h0 : -1074 ≤ pl) (h1 : pl ≤ 971) : 1 ≤ bl u ∧ bl u ≤ 63 ∧ -400 ≤ P0 u pl ∧ P0 u pl ≤ 400 ∧ -2000 ≤ pl - P0 u pl ∧ pl - P0 u pl ≤ 2000 := by
  have b1 := bl_le hu1
  obtain ⟨t, t1, t2⟩ := ex_bits hu0
  have b2 := bl_of t1 t2
  unfold P0
  refine ⟨by omega, by omega, by omega, by omega, by omega, by omega⟩
theorem pw_add_le {k t : Nat} (h : k ≤ t) : (2 : Int) ^ k < 2 ^ (t + 1) := by
  have := pw_mono h
  have := pw_pos t
  rw [Int.pow_succ]; omega
theorem sp_find {G : xG} {l : Launch} {n : Nat} {h : xH} {D L : List Int} {pd0 pt r w a b u pl : Int} {Po : xH → Prop} (t : isQ n h D pd0) (z : isZ n h r w a b) (hu0 : 0 ≤ u) (hu1 : u < 2 ^ 63) (h0 : -1074 ≤ pl) (h1 : pl ≤ 971) (hf : findR u pl L pt) (hp : ∀ h' r w a b, hE sQ h h' → isQ n h' L pt → isZ n h' r w a b → Po h') : S_X3_find G l 14 u pl n h Po := by
  have h63 : (2 : Int) ^ 63 = 9223372036854775808 := by decide
  have rLu : rgL u := ⟨by omega, by omega⟩
  have rL0 : rgL 0 := ⟨by decide, by decide⟩
  refine S_X3_find_of (fun k hl C E => X3_find_b0 C E 14 u pl n h rfl ⟨t.ok, fun h1' e1 => ⟨⟨rLu, rL0⟩, fun g => ?_, fun g => ?_⟩⟩)
  · have t1 := t.none e1
    have f1 : hE (fun i => i = 14) h h1' := hE.put' (S := fun i => i = 14) e1 rfl
    have z1 := z.mv f1 (fun i a b => by omega)
    have he1 : hE sQ h h1' := f1.mono (fun i hi => by omega)
    have hu : 0 < u := (lC_gt u 0).mp g
    rcases hf with ⟨hz, _⟩ | ⟨_, c, hc3, hpt, hcl, hce, hL20, hgen⟩
    · omega
    have pb := p0_bd hu hu1 h0 h1
    have hlA : lA u 1 = u % 2 := by
      have := lA_mask u 1 (by decide)
      rw [show ((2 : Int) ^ 1 - 1) = 1 from rfl, show ((2 : Int) ^ 1) = 2 from rfl] at this
      exact this
    have hev01 : evf u = 0 ∨ evf u = 1 := by unfold evf; split; exact Or.inr rfl; exact Or.inl rfl
    have hnb01 : nbf u pl = 0 ∨ nbf u pl = 1 := by unfold nbf; split; exact Or.inr rfl; exact Or.inl rfl
    -- bounds
    have hTW : (pl - P0 u pl).toNat ≤ 2000 := by omega
    have bR : u * 2 ^ ((pl - P0 u pl).toNat + 2) < 2 ^ 2100 := by
      have h2 := pw_mono (show (pl - P0 u pl).toNat + 2 ≤ 2002 by omega)
      have h3 : u * 2 ^ ((pl - P0 u pl).toNat + 2) ≤ 2 ^ 63 * 2 ^ 2002 := Int.mul_le_mul (by omega) h2 (Int.le_of_lt (pw_pos _)) (Int.le_of_lt (pw_pos _))
      rw [← Int.pow_add] at h3
      have := pw_add_le (show 63 + 2002 ≤ 2099 by decide)
      omega
    have bW : (2 : Int) ^ ((-(pl - P0 u pl)).toNat + 2) < 2 ^ 2100 := pw_add_le (by omega)
    have bA : (2 : Int) ^ ((pl - P0 u pl).toNat + 1) < 2 ^ 2100 := pw_add_le (by omega)
    have bB : (2 : Int) ^ ((pl - P0 u pl).toNat + (if nbf u pl = 0 then 1 else 0)) < 2 ^ 2100 := pw_add_le (by split <;> omega)
    have cR : R0 u pl < 2 ^ 3300 := five_fit (Int.mul_nonneg (by omega) (Int.le_of_lt (pw_pos _))) bR (by omega)
    have cW : W0 u pl < 2 ^ 3300 := five_fit (Int.le_of_lt (pw_pos _)) bW (by omega)
    have cA : A0 u pl < 2 ^ 3300 := five_fit (Int.le_of_lt (pw_pos _)) bA (by omega)
    have cB : B0 u pl < 2 ^ 3300 := five_fit (Int.le_of_lt (pw_pos _)) bB (by omega)
    have W0p : 0 < W0 u pl := Int.mul_pos (pw_pos _) (by have : 0 < 5 ^ (P0 u pl).toNat := Nat.pow_pos (by decide)
                                                         omega)
    have w182 : ∀ h', Po h' → X3_find_w182 G k n h' := fun h' v => X3_find_b182 C E n h' rfl v
    have rev : rg (evf u) := by rcases hev01 with v | v <;> rw [v] <;> exact rgS (by decide) (by decide)
    -- the digits
    have dig : ∀ (M : List Int) (D : List Int) (r a b : Int) (h2 : xH), hE sQ h h2 → isQ n h2 D pt → isZ n h2 r (W0 u pl * 10 ^ c) a b → D ++ M = L → r < 2 ^ (3400 + 4 * D.length) → a < 2 ^ (3400 + 4 * D.length) → b < 2 ^ (3400 + 4 * D.length) → genR (W0 u pl * 10 ^ c) (evf u) M r a b → X3_find_w156 G k 14 (evf u) 0 D.length n h2 := by
      intro M
      induction M with
      | nil => intro D r a b h2 he2 t2 z2 hD br ba bb hg; exact hg.elim
      | cons d M ih =>
        intro D r a b h2 he2 t2 z2 hD br ba bb hg
        have hlen : D.length + M.length + 1 ≤ 20 := by
          have : L.length = D.length + (M.length + 1) := by rw [← hD, List.length_append]; rfl
          omega
        have up : ∀ v : Int, v < 2 ^ (3400 + 4 * D.length) → v < 2 ^ 3990 := fun v hv => by
          have := pw_mono (show 3400 + 4 * D.length ≤ 3990 by omega)
          omega
        obtain ⟨q, m, hdg, hcase⟩ := hg
        refine X3_find_b156 C E 14 (evf u) 0 D.length n h2 rfl ⟨⟨rg_nat (by omega), rgS (by decide) (by decide)⟩, fun g => by omega, fun _ => ⟨rg0, fun v => absurd rfl v, fun _ => ⟨t2.ok, sp_takeDigit t2 z2 (by omega) hev01 (up r br) (up a ba) (up b bb) (fun h3 q' m' d' e3 hd' hdd t3 z3 => ?_)⟩⟩⟩
        have hwp : 0 < W0 u pl * 10 ^ c := Int.mul_pos W0p (Int.pow_pos (by decide))
        obtain ⟨rfl, rfl⟩ := hdg.uniq hd' hwp
        have hlenD : ((D ++ [d']).length : Int) = (D.length : Int) + 1 := by rw [List.length_append]; rfl
        rcases hcase with ⟨c1, c2, c3⟩ | ⟨c1, c2, c3⟩
        · refine ⟨fun v => absurd v c1, fun _ => ?_⟩
          have ed : d' = d := by
            rw [c2]
            rcases hdd with ⟨v1, v2, v3⟩ | ⟨_, v2⟩
            · exact absurd (Or.inr v1) c1
            · exact v2
          rw [ed] at t3 hlenD
          have st : ∀ v : Int, v < 2 ^ (3400 + 4 * D.length) → 10 * v < 2 ^ (3400 + 4 * (D ++ [d]).length) := fun v hv => by
            rw [show 3400 + 4 * (D ++ [d]).length = (3400 + 4 * D.length) + 4 by rw [List.length_append]; show 3400 + 4 * (D.length + 1) = _; omega, Int.pow_add, show (2 : Int) ^ 4 = 16 from rfl]
            have := pw_pos (3400 + 4 * D.length)
            omega
          have hm2 : m < 2 ^ (3400 + 4 * (D ++ [d]).length) := by
            have := st r br
            have hq := Int.mul_nonneg hdg.1 (Int.le_of_lt hwp)
            have := hdg.2.2.1
            omega
          have := ih (D ++ [d]) m (10 * a) (10 * b) h3 (he2.tr e3) t3 z3 (by rw [List.append_assoc]; exact hD) hm2 (st a ba) (st b bb) c3
          rw [hlenD] at this
          exact this
        · refine ⟨fun _ => ?_, fun v => absurd c1 v⟩
          have ed : d' = d := by
            rcases hdd with ⟨v1, v2, v3⟩ | ⟨v1, v2⟩
            · rcases c3 with ⟨_, _, u3⟩ | ⟨u1, _⟩
              · rw [v3, u3]
              · exact absurd ⟨v1, v2⟩ u1
            · rcases c3 with ⟨u1, u2, _⟩ | ⟨_, u2⟩
              · exact absurd ⟨u1, u2⟩ v1
              · rw [v2, u2]
          have hfin : isQ n h3 L pt := by rw [← hD, c2, ← ed]; exact t3
          have := w182 h3 (hp h3 _ _ _ _ (he2.tr e3) hfin z3)
          refine X3_find_b156 C E 14 (evf u) 1 _ n h3 rfl ⟨⟨by rw [← hlenD]; rw [hlenD]; exact rgS (by omega) (by omega), rgS (by decide) (by decide)⟩, fun _ => this, fun _ => ⟨rgS (by decide) (by decide), fun _ => this, fun v => absurd v (by decide)⟩⟩
    -- the corrections
    have w150 : ∀ h2, hE sQ h h2 → isQ n h2 [] pt → isZ n h2 (R0 u pl) (W0 u pl * 10 ^ c) (A0 u pl) (B0 u pl) → X3_find_w150 G k 14 (evf u) n h2 := by
      intro h2 he2 t2 z2
      have up : ∀ v : Int, v < 2 ^ 3300 → v < 2 ^ (3400 + 4 * ([] : List Int).length) := fun v hv => by
        have := pw_mono (show 3300 ≤ 3400 + 4 * ([] : List Int).length by decide)
        omega
      exact X3_find_b150 C E 14 (evf u) n h2 rfl (dig L [] _ _ _ h2 he2 t2 z2 rfl (up _ cR) (up _ cA) (up _ cB) hgen)
    have hra : R0 u pl + A0 u pl < 4294967296 ^ 132 := fit132 (t := 3301) (by rw [show 3301 = 3300 + 1 from rfl, Int.pow_succ]; omega) (by decide)
    have w109 : ∀ (v j : Nat) (h2 : xH), j + v = c → hE sQ h h2 → isQ n h2 [] (P0 u pl + j) → isZ n h2 (R0 u pl) (W0 u pl * 10 ^ j) (A0 u pl) (B0 u pl) → X3_find_w109 G k 14 (evf u) j n h2 := by
      intro v
      induction v with
      | zero =>
        intro j h2 hj he2 t2 z2
        have hjc : j = c := by omega
        subst hjc
        rw [← hpt] at t2
        refine X3_find_b109 C E 14 (evf u) j n h2 rfl ⟨⟨rg_nat (by omega), rgS (by decide) (by decide)⟩, fun _ => w150 h2 he2 t2 z2, fun g3 => ⟨t2.ok, sp_reaches t2 z2 hev01 hra (fun o => ?_) (fun o h3 e3 t3 z3 => ⟨rg0, fun _ => w150 h3 (he2.tr e3) t3 z3, fun y => absurd rfl y⟩)⟩⟩
        rcases hce with y | y
        · omega
        · exact absurd o y
      | succ v ih =>
        intro j h2 hj he2 t2 z2
        refine X3_find_b109 C E 14 (evf u) j n h2 rfl ⟨⟨rg_nat (by omega), rgS (by decide) (by decide)⟩, fun g3 => by omega, fun g3 => ⟨t2.ok, sp_reaches t2 z2 hev01 hra (fun o h3 e3 t3 z3 => ⟨rgS (by decide) (by decide), fun y => absurd y (by decide), fun _ => ?_⟩) (fun o => absurd (hcl j (by omega)) o)⟩⟩
        rw [t3.f4]
        have hfw : W0 u pl * 10 ^ j * 10 + 0 < 4294967296 ^ 132 := by
          have t10 : (10 : Int) ^ j ≤ 10 ^ 3 := by
            match j, (show j ≤ 3 by omega) with
            | 0, _ => decide
            | 1, _ => decide
            | 2, _ => decide
            | 3, _ => decide
          have := Int.mul_le_mul_of_nonneg_left t10 (Int.le_of_lt W0p)
          refine fit132 (t := 3314) ?_ (by decide)
          rw [show 3314 = 3300 + 14 from rfl, Int.pow_add, show (2 : Int) ^ 14 = 16384 from rfl]
          rw [show (10 : Int) ^ 3 = 1000 from rfl] at this
          omega
        refine ⟨t3.ok, by decide, z3.2.1.1.ok, sp_mulAdd z3.2.1 (by decide) (by decide) (by decide) (by decide) hfw (fun h4 e4 q4 => ?_)⟩
        rw [Int.add_zero, Int.mul_assoc, ← Int.pow_succ] at q4
        have t4 := t3.mv e4 (by decide) (by decide)
        have z4 := z3.n18 e4 q4
        refine ⟨t4.ok, t4.ok, fun h5 e5 => ?_⟩
        rw [t4.f2] at e5
        have f5 : hE (fun i => i = 14) h4 h5 := hE.put' (S := fun i => i = 14) e5 rfl
        have t5 := t4.point e5
        refine ih (j + 1) h5 (by omega) (((he2.tr e3).tr (sq18 e4)).tr (f5.mono (fun i hi => by omega))) ?_ (z4.mv f5 (fun i a b => by omega))
        rw [Int.natCast_add, ← Int.add_assoc]; exact t5
    have w57 : ∀ nb, nb = nbf u pl → X3_find_w57 G k 14 u pl (evf u) nb n h1' := by
      intro nb hnb
      obtain ⟨tt, t1', t2'⟩ := ex_bits hu
      have b2 := bl_of t1' t2'
      have hu2 : u % 18446744073709551616 = u := Int.emod_eq_of_lt (by omega) (by omega)
      refine X3_find_b57 C E 14 u pl (evf u) nb n h1' rfl (sp_nlzL (t := tt) (by rw [hu2]; exact t1') (by rw [hu2]; exact t2') ?_)
      rw [show (64 - (63 - (tt : Int)) + pl - 1) * 30103 = (bl u + pl - 1) * 30103 by rw [b2]; congr 1; omega]
      refine sp_floorDiv ⟨by omega, by omega⟩ (by decide) (by decide) ⟨t1.ok, fun h2 e2 => ?_⟩
      have e2 : h2 = hS h1' 14 2 (P0 u pl) := e2
      have t2 := t1.point e2
      have f2 : hE (fun i => i = 14) h1' h2 := hE.put' (S := fun i => i = 14) e2 rfl
      have z2 := z1.mv f2 (fun i a b => by omega)
      rw [t2.f2]
      refine ⟨t2.ok, t2.ok, sp_setUp t2 z2 hu hu1 pb.2.2.2.2.1 pb.2.2.2.2.2 (by rw [hnb]; exact hnb01) (fun h3 e3 t3 z3 => ?_)⟩
      rw [hnb] at z3
      refine ⟨t3.ok, sp_scale5 t3 z3 pb.2.2.1 pb.2.2.2.1 bR bW bA bB (fun h4 e4 t4 z4 => ?_)⟩
      refine w109 c 0 h4 (by omega) (((he1.tr (f2.mono (fun i hi => by omega))).tr e3).tr e4) (by rw [show P0 u pl + ((0 : Nat) : Int) = P0 u pl by omega]; exact t4) ?_
      rw [show W0 u pl * 10 ^ 0 = W0 u pl by rw [Int.pow_zero, Int.mul_one]]
      exact z4
    have w56 : nbf u pl = 0 → X3_find_w56 G k 14 u pl (evf u) n h1' := fun v => X3_find_b56 C E 14 u pl (evf u) n h1' rfl (w57 0 v.symm)
    have w35 : ∀ ev, ev = evf u → X3_find_w35 G k 14 u pl ev n h1' := by
      intro ev hev
      subst hev
      refine X3_find_b35 C E 14 u pl (evf u) n h1' rfl ⟨⟨rLu, ⟨by decide, by decide⟩⟩, fun v => w56 ?_, fun v => ⟨⟨rgS (by omega) (by omega), rgS (by decide) (by decide)⟩, fun v2 => w56 ?_, fun v2 => w57 1 ?_⟩⟩
      · unfold nbf; rw [if_neg (fun y => v ((lC_eq0 _ _).mpr y.1))]
      · unfold nbf; rw [if_neg (by omega)]
      · unfold nbf; rw [if_pos ⟨(lC_eq0 _ _).mp v, by omega⟩]
    rw [hlA]
    refine ⟨⟨⟨by omega, by omega⟩, rL0⟩, fun v => w35 0 ?_, fun v => w35 1 ?_⟩
    · unfold evf; rw [if_neg (fun y => v ((lC_eq0 _ _).mpr y))]
    · unfold evf; rw [if_pos ((lC_eq0 _ _).mp v)]
  · have t1 := t.none e1
    have f1 : hE (fun i => i = 14) h h1' := hE.put' (S := fun i => i = 14) e1 rfl
    have z1 := z.mv f1 (fun i a b => by omega)
    have hu : u = 0 := by
      have : ¬ 0 < u := fun y => g ((lC_gt u 0).mpr y)
      omega
    rcases hf with ⟨_, hL, hpt⟩ | ⟨hz, _⟩
    · refine ⟨t1.ok, sp_appQ t1 z1 (by decide) (fun h2 e2 t2 z2 => ⟨t2.ok, fun h3 e3 => ?_⟩)⟩
      have f3 : hE (fun i => i = 14) h2 h3 := hE.put' (S := fun i => i = 14) e3 rfl
      refine hp h3 _ _ _ _ (((f1.mono (fun i hi => by omega)).tr e2).tr (f3.mono (fun i hi => by omega))) ?_ (z2.mv f3 (fun i a b => by omega))
      rw [hL, hpt]; exact t2.point e3
    · omega
