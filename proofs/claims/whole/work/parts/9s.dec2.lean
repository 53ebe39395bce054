/-! THE MODEL: decimals -/
/-- an exact number with its sign, or none -/
def exS (n : Nat) (h : xH) (z mn V W : Int) : Prop := (z = -1 ∧ (4096 < bl V ∨ 4096 < bl W)) ∨ (bl V ≤ 4096 ∧ bl W ≤ 4096 ∧ ∃ zn : Nat, z = (zn : Int) ∧ isEx n h zn (if V = 0 then 0 else if mn = 0 then 1 else -1) V W)
/-- the exponent's digits behind the mark at e -/
def xn (T : List Int) (e : Nat) : Nat := T.length - (e + 1 + sgn T e)
def xq (T : List Int) (e : Nat) : Int := if e = T.length then 0 else xv T e (xn T e)
/-- the decimal is whole -/
def scD (T : List Int) (r r2 e : Nat) : Prop := 0 < r + r2 ∧ (e = T.length ∨ (e < T.length ∧ em (cd T (e : Int)) ∧ e + 1 + sgn T e < T.length ∧ xn T e ≤ 4 ∧ ∀ j, j < xn T e → 0 ≤ dv 10 (cd T ((e + 1 + sgn T e + j : Nat) : Int))))
theorem nr_huge {N D : Int} (hD : 0 < D) (h : D * 2 ^ 1024 ≤ N) : ∃ e m, nrR N D e m ∧ 2 ^ 2098 ≤ m.toNat * 2 ^ (e + 1074).toNat := by
  obtain ⟨e, m0, hn, he⟩ := nr_big hD h
  refine ⟨e, m0, hn, ?_⟩
  obtain ⟨he0, f, r, x1, x2, x3, x4, x5, x6, x7⟩ := hn
  have hm : 4503599627370496 ≤ m0.toNat := by omega
  have h2 : (2 : Nat) ^ 2046 ≤ 2 ^ (e + 1074).toNat := Nat.pow_le_pow_right (by decide) (by omega)
  have h3 : (2 : Nat) ^ 2098 = 4503599627370496 * 2 ^ 2046 := by decide +kernel
  rw [h3]
  exact Nat.mul_le_mul hm h2
theorem nr_tiny {N D : Int} (hN : 0 ≤ N) (hD : 0 < D) (h : 2 * (N * 2 ^ 1074) < D) : nrR N D (-1074) 0 := by
  have hm : (-(-1074 : Int)).toNat = 1074 := by decide
  have hm2 : (-1074 : Int).toNat = 0 := by decide
  have h0 : 0 ≤ N * 2 ^ 1074 := Int.mul_nonneg hN (Int.le_of_lt (pw_pos _))
  refine ⟨by decide, 0, N * 2 ^ 1074, by rw [hm, Int.zero_mul, Int.zero_add], h0, by rw [hm2, Int.pow_zero, Int.mul_one]; omega, by decide, by decide, Or.inr rfl, Or.inr ⟨rfl, ?_⟩⟩
  rw [hm2, Int.pow_zero, Int.mul_one]; omega
theorem sp_finD {G : xG} {l : Launch} {n : Nat} {h : xH} {wl tl z mn : Int} {x : UInt64} {Z : Nat} {Po : Nat → Nat → xH → Prop} (tm : isM n h wl tl z) (hx : isVl x (sgB mn) Z) (hp : ∀ h', hK n h h' → isM (n + 1) h' wl tl z → isRl (n + 1) h' n x 0 → Po n (n + 1) h') : S_X7_of G l x n h Po :=
  sp_of tm.1.1 (fun h' e t => hp h' e (tm.fr (S := fun _ => False) e (by omega) id id) t)
/-- behind the trimming: m * 10^pw -/
theorem dec_eq {v m : Int} {tz : Nat} {tn pw : Int} (hv : v = m * 10 ^ tz) (hpw : pw = tn + tz) : m * 10 ^ pw.toNat * 10 ^ (-tn).toNat = v * 10 ^ tn.toNat * 10 ^ (-pw).toNat := by
  have key : pw.toNat + (-tn).toNat = tz + (tn.toNat + (-pw).toNat) := by omega
  calc m * 10 ^ pw.toNat * 10 ^ (-tn).toNat = m * 10 ^ (pw.toNat + (-tn).toNat) := by rw [Int.pow_add, Int.mul_assoc]
    _ = m * 10 ^ (tz + (tn.toNat + (-pw).toNat)) := by rw [key]
    _ = v * 10 ^ tn.toNat * 10 ^ (-pw).toNat := by rw [hv, Int.pow_add, Int.pow_add, ← Int.mul_assoc, ← Int.mul_assoc]
theorem low_ex {v w : Int} (hv : 0 ≤ v) (hw : 0 < w) : ∃ V W, lowR v w V W := by
  obtain ⟨a, rfl⟩ : ∃ a : Nat, v = (a : Int) := ⟨v.toNat, by omega⟩
  obtain ⟨b, rfl⟩ : ∃ b : Nat, w = (b : Int) := ⟨w.toNat, by omega⟩
  exact ⟨_, _, low_div (by omega)⟩
theorem low_bigV {v w V W : Int} (h : lowR v w V W) (hw : 0 < w) (hb : 2 ^ 4096 * w ≤ v) : 4096 < bl V := by
  obtain ⟨a, b, d, rfl, rfl, rfl, rfl, hg, hb0⟩ := h
  refine bl_ge (t := 4096) ?_
  have h1 : (2 : Int) ^ 4096 * ((b * d : Nat) : Int) = 2 ^ 4096 * b * d := by rw [Int.natCast_mul, Int.mul_assoc]
  have h2 : ((a * d : Nat) : Int) = (a : Int) * d := by rw [Int.natCast_mul]
  rw [h1, h2] at hb
  have hd : (0 : Int) < d := by
    rcases Nat.eq_zero_or_pos d with z | z
    · rw [z, Nat.mul_zero] at hw; exact absurd hw (by decide)
    · omega
  have h3 := Int.le_of_mul_le_mul_right hb hd
  have h4 := Int.mul_le_mul_of_nonneg_left (show (1 : Int) ≤ b by omega) (Int.le_of_lt (pw_pos 4096))
  rw [Int.mul_one] at h4
  omega
theorem low_bigW {v w V W : Int} (h : lowR v w V W) (hv : 0 < v) (hb : v * 2 ^ 4096 ≤ w) : 4096 < bl W := by
  obtain ⟨a, b, d, rfl, rfl, rfl, rfl, hg, hb0⟩ := h
  refine bl_ge (t := 4096) ?_
  have h1 : ((a * d : Nat) : Int) * 2 ^ 4096 = a * 2 ^ 4096 * d := by rw [Int.natCast_mul, Int.mul_assoc, Int.mul_comm (d : Int), ← Int.mul_assoc]
  have h2 : ((b * d : Nat) : Int) = (b : Int) * d := by rw [Int.natCast_mul]
  rw [h1, h2] at hb
  have hd : (0 : Int) < d := by
    rcases Nat.eq_zero_or_pos d with z | z
    · rw [z, Nat.mul_zero] at hv; exact absurd hv (by decide)
    · omega
  have ha : (1 : Int) ≤ a := by
    rcases Nat.eq_zero_or_pos a with z | z
    · rw [z, Nat.zero_mul] at hv; exact absurd hv (by decide)
    · omega
  have h3 := Int.le_of_mul_le_mul_right hb hd
  have h4 := Int.mul_le_mul_of_nonneg_right ha (Int.le_of_lt (pw_pos 4096))
  rw [Int.one_mul] at h4
  omega
theorem vlm0_isVl : isVl 9223372036854775808 true 0 := Or.inl ⟨Nat.two_pow_pos _, 0, -1074, by decide +kernel, by decide⟩
theorem sp_decimalM {G : xG} {l : Launch} {n : Nat} {h : xH} {T : List Int} {wl tl z ex mn : Int} {p r r2 e : Nat} {pt : Int} {Po : Int → Nat → xH → Prop} (tm : isM n h wl tl z) (tt : isTx h T) (hT : ∀ x, x ∈ T → 0 ≤ x ∧ x ≤ 127) (hS : decS T p r r2 e pt) (heN : e ≤ T.length) (hstop : e = T.length ∨ em (cd T (e : Int)) ∨ (dv 10 (cd T (e : Int)) < 0 ∧ ¬ (cd T (e : Int) = 46 ∧ pt = -1) ∧ ¬ em (cd T (e : Int)))) (hmn : mn = 0 ∨ mn = 1) (hex : rg ex)
    (hn : ¬ scD T r r2 e → Po (-1) n h)
    (hyE : scD T r r2 e → ex = 101 → ∀ h' n' y V W, hF sM n h h' → n ≤ n' → n' ≤ n + 9 → isM n' h' wl tl z → lowR (dvl T 10 (p + r + 1) (dvl T 10 p 0 r) r2 * 10 ^ (xq T e - r2).toNat) (10 ^ (-(xq T e - r2)).toNat) V W → exS n' h' y mn V W → Po y n' h')
    (hyR : scD T r r2 e → ex ≠ 101 → ∀ h' n' (y : Nat) x e1 m1, hF sM n h h' → n ≤ n' → n' ≤ n + 9 → isM n' h' wl tl z → nrR (dvl T 10 (p + r + 1) (dvl T 10 p 0 r) r2 * 10 ^ (xq T e - r2).toNat) (10 ^ (-(xq T e - r2)).toNat) e1 m1 → isRl n' h' y x 0 → isVl x (sgB mn) (m1.toNat * 2 ^ (e1 + 1074).toNat) → Po y n' h') :
    S_X9_decimal G l 26 47 p T.length ex mn n h Po := by
  refine S_X9_decimal_of (fun k hl C E => X9_decimal_b0 (n0 := 0) C E 26 47 p T.length ex mn n h ?_)
  have h47 : 47 < n := tm.1.1
  have h400 := tt.1
  have hval := hS.val
  have rmn : rg mn := by rcases hmn with y | y <;> rw [y] <;> exact rgS (by decide) (by decide)
  have hsgn : sgn T e ≤ 1 := by unfold sgn; split <;> decide
  have hptb : -1 ≤ pt ∧ pt < 500 := by
    rcases hS.2 with y | y <;> omega
  -- the digits' ends are found, the exponent is x
  have w222 : ∀ x : Int, scD T r r2 e → x = xq T e → -9999 ≤ x → x ≤ 9999 → X9_decimal_w222 G k 26 47 p ex mn e pt x n h := by
    intro x hsc hx hx0 hx1
    have hyE' := hyE hsc
    have hyR' := hyR hsc
    rw [← hx] at hyE' hyR'
    clear hyE hyR hn
    have hbehind : (if 0 ≤ pt then pt else (e : Int)) = ((p + r : Nat) : Int) := by
      rcases hS.2 with y | y
      · rw [if_neg (by omega)]; omega
      · rw [if_pos (by omega)]; exact y.1
    -- first and last are found
    have aft : ∀ f la : Nat, p ≤ f → f ≤ e → (∀ j, p ≤ j → j < f → cd T (j : Int) = 48 ∨ cd T (j : Int) = 46) → (f = e ∨ ¬ (cd T (f : Int) = 48 ∨ cd T (f : Int) = 46)) → f ≤ la → la ≤ e → (∀ j, la ≤ j → j < e → cd T (j : Int) = 48 ∨ cd T (j : Int) = 46) → (f < e → f < la) → X9_decimal_w295 G k 26 47 ex mn e pt x f la n h := by
      intro f la f0 f1 f2 f3 l0 l1 l2 l3
      obtain ⟨hdg, hnd, ⟨tz, htz, htz2⟩, hzero, hpos⟩ := hS.cut f0 f1 f2 f3 l0 l1 l2 l3
      rw [hval.2] at htz hzero
      generalize hv : dvl T 10 (p + r + 1) (dvl T 10 p 0 r) r2 = v at *
      generalize hm : gvl T 10 f 0 (la - f) = m at *
      generalize hdn : ndp T f (la - f) = dn at *
      have hdnl : dn ≤ 400 := by split at hnd <;> omega
      -- the power
      obtain ⟨pw, hpw⟩ : ∃ pw : Int, pw = x + (if (la : Int) ≤ ((p + r : Nat) : Int) then ((p + r : Nat) : Int) - la else ((p + r : Nat) : Int) + 1 - la) := ⟨_, rfl⟩
      have hpwt : pw = (x - r2) + tz := by rw [hpw, htz2]; omega
      have htz500 : tz ≤ 900 := by rcases hS.2 with y | y <;> split at htz2 <;> omega
      have heq := dec_eq (v := v) (m := m) (tz := tz) (tn := x - r2) (pw := pw) htz hpwt
      have hDm : (0 : Int) < 10 ^ (-pw).toNat := Int.pow_pos (by decide)
      have hDv : (0 : Int) < 10 ^ (-(x - (r2 : Int))).toNat := Int.pow_pos (by decide)
      have tnn : ∀ j : Nat, (0 : Int) < 10 ^ j := fun j => Int.pow_pos (by decide)
      -- what the ratio m * 10^pw gives
      have nrI : ∀ {e1 m1 : Int}, nrR (m * 10 ^ pw.toNat) (10 ^ (-pw).toNat) e1 m1 → nrR (v * 10 ^ (x - (r2 : Int)).toNat) (10 ^ (-(x - (r2 : Int))).toNat) e1 m1 := fun h => nr_congr hDm hDv heq h
      have rpw : rg pw := by rw [hpwt]; exact rgS (by omega) (by omega)
      have w360 : X9_decimal_w360 G k 26 47 ex mn f la pw (if (f : Int) ≤ pt ∧ pt < (la : Int) then 1 else 0) ((la : Int) - f) n h := by
        refine X9_decimal_b360 (n0 := 0) C E 26 47 ex mn f la pw _ _ n h ?_
        rw [← hnd]
        refine ⟨rg_nat (by omega), fun g => ?_, fun g => ?_⟩
        · -- some digits
          have hfe : f < e := by
            rcases Nat.lt_or_ge f e with y | y
            · exact y
            · exact absurd (by have := (hzero (by omega)).2; omega) g
          obtain ⟨q1, q2, q3⟩ := hpos hfe
          have hmp : 0 < m := by have := tnn (dn - 1); omega
          have hv0 : 0 ≤ v := by rw [htz]; exact Int.mul_nonneg (by omega) (Int.le_of_lt (tnn _))
          have rdp : rg ((dn : Int) + pw) := rgS (by omega) (by omega)
          have w484 : (ex = 101 → -1300 ≤ (dn : Int) + pw ∧ (dn : Int) + pw ≤ 1300) → (ex ≠ 101 → -350 ≤ (dn : Int) + pw ∧ (dn : Int) + pw ≤ 330) → X9_decimal_w484 G k 26 47 ex mn f la pw n h := by
            intro b1 b2
            have bpw : -1700 ≤ pw ∧ (dn : Int) + pw ≤ 1300 := by
              rcases Classical.em (ex = 101) with y | y
              · have := b1 y; omega
              · have := b2 y; omega
            refine X9_decimal_b484 (n0 := 0) C E 26 47 ex mn f la pw n h ⟨tm.ok, ?_⟩
            rw [show (la : Int) = ((f + (la - f) : Nat) : Int) by omega]
            refine sp_digits tm tt hT (by omega) (by decide) (by decide) hdg (fun h1 z1 r1 s1 e1 hz1 hr1 tm1 tw => ?_)
            rw [hm, if_neg (by omega)] at tw
            obtain ⟨l1', l2', l3'⟩ := tw.ln
            have hz47 := tw.2.1
            have hr47 := tw.2.2.1
            have hs100 : s1 ≤ 100 := tw.row.len (by
              have h1 : (10 : Int) ^ dn ≤ 10 ^ 400 := ten_mono hdnl
              have h2 : (10 : Int) ^ 400 = 10000 ^ 100 := by decide +kernel
              omega)
            have e1M : hF sM n h h1 := e1.mono (fun i _ hi => by have : i = 34 := hi; exact Or.inr (by omega))
            -- tens stand
            have w568 : ∀ (en sa : Nat) (y : Int) (h2 : xH), (en : Int) = (if 0 < pw then pw else -pw) → y = (if 0 < pw then m else 1) → hF sM n h h2 → isM (n + 2) h2 wl tl z → isWh (n + 2) h2 z1 r1 s1 1 m → isT (n + 2) h2 29 440 sa y → X9_decimal_w568 G k 26 ex mn pw z1 en sa 29 (n + 2) h2 := by
              intro en sa y h2 hen hy e2 tm2 tw2 t2
              have hen1 : en ≤ 1700 := by split at hen <;> omega
              have hfit : y * 10 ^ en < 10000 ^ 430 := by
                by_cases g2 : 0 < pw
                · rw [if_pos g2] at hen hy
                  have h1 : m * 10 ^ en ≤ 10 ^ dn * 10 ^ en := Int.mul_le_mul_of_nonneg_right (by omega) (Int.le_of_lt (tnn _))
                  rw [← Int.pow_add] at h1
                  have h2 : (10 : Int) ^ (dn + en) ≤ 10 ^ 1300 := ten_mono (by omega)
                  have h3 : (10 : Int) ^ 1300 < 10000 ^ 430 := by decide +kernel
                  rw [hy]; omega
                · rw [if_neg g2] at hen hy
                  have h2 : (10 : Int) ^ en ≤ 10 ^ 1700 := ten_mono hen1
                  have h3 : (10 : Int) ^ 1700 < 10000 ^ 430 := by decide +kernel
                  rw [hy, Int.one_mul]; omega
              have h430 : (10000 : Int) ^ 430 ≤ 10000 ^ 440 := T_mono (by decide)
              refine X9_decimal_b568 (n0 := 0) C E 26 ex mn pw z1 en sa 29 (n + 2) h2 (sp_tenfold t2 (by omega) (by omega) (fun h3 s3 e3 u3 => ?_))
              have e3' : hE (sC 29) h2 h3 := e3
              have tm3 := tm2.mv e3' (by decide) (by decide)
              have tw3 := tw2.mv e3' (show ¬ z1 = 29 by omega) (show ¬ r1 = 29 by omega)
              obtain ⟨k1, k2, k3⟩ := tw3.ln
              have hs3 : s3 ≤ 430 := u3.len hfit
              have e03 : hF sM n h h3 := e2.tr ((e3'.mono (fun i hi => by have : i = 29 := hi; exact Or.inr (by omega)) : hE sM h2 h3).f) (Nat.le_refl _)
              have hyv : 0 < y * 10 ^ en := Int.mul_pos (by rw [hy]; split <;> omega) (tnn _)
              -- a double
              have w686 : ∀ (xx : UInt64) (e4 m4 : Int) (h4 : xH), ex ≠ 101 → hF sM n h h4 → isM (n + 2) h4 wl tl z → nrR (m * 10 ^ pw.toNat) (10 ^ (-pw).toNat) e4 m4 → isVl xx false (m4.toNat * 2 ^ (e4 + 1074).toNat) → X9_decimal_w686 G k mn xx (n + 2) h4 := by
                intro xx e4 m4 h4 hne e04 tm4 hnr hxx
                have w701 : ∀ yy, isVl yy (sgB mn) (m4.toNat * 2 ^ (e4 + 1074).toNat) → X9_decimal_w701 G k yy (n + 2) h4 := fun yy hyy => X9_decimal_b701 (n0 := 0) C E yy (n + 2) h4 (sp_finD tm4 hyy (fun h5 k5 tm5 t5 => hyR' hne h5 (n + 2 + 1) (n + 2) yy e4 m4 (e04.tr (hK.f (hK.le k5 (by omega))) (Nat.le_refl _)) (by omega) (by omega) tm5 (nrI hnr) t5 hyy))
                refine X9_decimal_b686 (n0 := 0) C E mn xx (n + 2) h4 ⟨rmn, fun y => w701 xx ?_, fun y => w701 _ ?_⟩
                · rw [show sgB mn = false by unfold sgB; simp; exact y]; exact hxx
                · rw [show sgB mn = true by unfold sgB; simp; exact y]; exact hxx.neg
              -- an exact number
              have w619 : ∀ (yz : Int) (h4 : xH) (n4 : Nat) (V W : Int), ex = 101 → hF sM n h h4 → n + 2 ≤ n4 → n4 ≤ n + 7 → isM n4 h4 wl tl z → lowR (m * 10 ^ pw.toNat) (10 ^ (-pw).toNat) V W → 0 < V → exR n4 h4 yz V W → X9_decimal_w619 G k mn yz n4 h4 := by
                intro yz h4 n4 V W hx1 e04 hn4 hn5 tm4 hlw hV hexr
                have hlw' : lowR (v * 10 ^ (x - (r2 : Int)).toNat) (10 ^ (-(x - (r2 : Int))).toNat) V W := low_congr hDm hDv (Int.mul_nonneg hv0 (Int.le_of_lt (tnn _))) heq hlw
                have w641 : ∀ (yz : Int) (h5 : xH) (n5 : Nat), hF sM n h h5 → n + 2 ≤ n5 → n5 ≤ n + 9 → isM n5 h5 wl tl z → exS n5 h5 yz mn V W → X9_decimal_w641 G k yz n5 h5 := fun yz h5 n5 a1 a2 a3 a4 a5 => X9_decimal_b641 (n0 := 0) C E yz n5 h5 (hyE' hx1 h5 n5 yz V W a1 (by omega) a3 a4 hlw' a5)
                have w639 : (mn = 0 ∨ yz < 0) → X9_decimal_w639 G k yz n4 h4 := fun y => X9_decimal_b639 (n0 := 0) C E yz n4 h4 (w641 yz h4 n4 e04 hn4 (by omega) tm4 (by
                  rcases hexr with ⟨a1, a2⟩ | ⟨a1, a2, zn, a3, a4⟩
                  · exact Or.inl ⟨a1, a2⟩
                  · refine Or.inr ⟨a1, a2, zn, a3, ?_⟩
                    rw [if_neg (by omega)] at a4
                    rw [if_neg (by omega), if_pos (by omega)]; exact a4))
                refine X9_decimal_b619 (n0 := 0) C E mn yz n4 h4 ⟨fun y => w639 (Or.inr y), fun y => ⟨rmn, fun y2 => w639 (Or.inl y2), fun y2 => ?_⟩⟩
                rcases hexr with ⟨a1, a2⟩ | ⟨a1, a2, zn, a3, a4⟩
                · omega
                · subst a3
                  refine sp_negatedE (by omega) a4 (fun h5 n5 z5 k5 hn6 hn7 t5 => w641 z5 h5 n5 (e04.tr (hK.f (hK.le k5 (by omega))) (Nat.le_refl _)) (by omega) (by omega) (tm4.fr (S := fun _ => False) k5 hn6 id id) (Or.inr ⟨a1, a2, z5, rfl, ?_⟩))
                  rw [if_neg (by omega)] at t5
                  rw [if_neg (by omega), if_neg y2]; exact t5
              by_cases g2 : 0 < pw
              · have eN : y * 10 ^ en = m * 10 ^ pw.toNat := by
                  rw [if_pos g2] at hen hy
                  rw [hy, ← hen, Int.toNat_natCast]
                have eD : (10 : Int) ^ (-pw).toNat = 1 := by rw [show (-pw).toNat = 0 by omega, Int.pow_zero]
                refine ⟨⟨hex, rgS (by decide) (by decide)⟩, fun y1 => ⟨rpw, fun y2 => by omega, fun _ => ?_⟩, fun y1 => ⟨rpw, fun y2 => by omega, fun _ => ?_⟩⟩
                · rw [tm3.g2, tm3.g0]
                  refine ⟨tm3.ok, by decide, tm3.ok, by decide, tm3.ok, sp_nearestM (s := s3) (t := 1) tm3 u3 tm3.one (Or.inl (by decide)) (Or.inl (by decide)) (by omega) (by decide) hyv (by decide) (fun h4 xx e4 m4 e44 tm4 hnr hxx => w686 xx e4 m4 h4 y1 (e03.tr ((sM35 (e44.mono (fun i hi => ⟨hi.1, by omega⟩))).f (n := n)) (Nat.le_refl _)) tm4 ?_ hxx)⟩
                  rw [eD, ← eN]; exact hnr
                · rw [tm3.g2]
                  refine ⟨tm3.ok, by decide, tm3.ok, sp_kept (by omega) tm3 u3 (by decide) (by omega) (fun h4 n4 yz e44 hn4 hn5 tm4 hz4 => w619 yz h4 n4 (m * 10 ^ pw.toNat) 1 y1 (e03.tr ((hF.mono e44 (fun i _ hi => by have : i = 28 := hi; exact Or.inr (by omega)) : hF sM (n + 2) h3 h4)) (by omega)) (by omega) (by omega) tm4 ?_ (by omega) ?_)⟩
                  · rw [eD]
                    obtain ⟨mm, hmm⟩ : ∃ mm : Nat, m * 10 ^ pw.toNat = (mm : Int) := ⟨(m * 10 ^ pw.toNat).toNat, by omega⟩
                    rw [hmm]
                    exact ⟨mm, 1, 1, rfl, rfl, by rw [Nat.mul_one], rfl, Nat.gcd_one_right _, by decide⟩
                  · rw [← eN]
                    rcases hz4 with ⟨a1, a2⟩ | ⟨a1, zn, r4, s4, a2, a3, a4, a5⟩
                    · exact Or.inl ⟨a1, Or.inl a2⟩
                    · exact Or.inr ⟨a1, by rw [bl1]; decide, zn, a2, Or.inl ⟨rfl, r4, s4, a5⟩⟩
              · have eN : m * 10 ^ pw.toNat = m := by rw [show pw.toNat = 0 by omega, Int.pow_zero, Int.mul_one]
                have eD : y * 10 ^ en = 10 ^ (-pw).toNat := by
                  rw [if_neg g2] at hen hy
                  rw [hy, ← hen, Int.toNat_natCast, Int.one_mul]
                have hxt : (hG h3 z1 1).toNat = r1 := by rw [tw3.f1, Int.toNat_natCast]
                refine ⟨⟨hex, rgS (by decide) (by decide)⟩, fun y1 => ⟨rpw, fun _ => ?_, fun y2 => by omega⟩, fun y1 => ⟨rpw, fun _ => ?_, fun y2 => by omega⟩⟩
                · rw [tw3.f1, Int.toNat_natCast, k1, tm3.g2]
                  refine ⟨tw3.ok, by omega, tw3.ok, by omega, ⟨k2, Or.inl k3⟩, tm3.ok, by decide, tm3.ok, sp_nearestM tm3 tw3.row u3 (Or.inr (by omega)) (Or.inl (by decide)) (by omega) (by omega) hmp hyv (fun h4 xx e4 m4 e44 tm4 hnr hxx => w686 xx e4 m4 h4 y1 (e03.tr ((sM35 (e44.mono (fun i hi => ⟨hi.1, by omega⟩))).f (n := n)) (Nat.le_refl _)) tm4 ?_ hxx)⟩
                  rw [eN, ← eD]; exact hnr
                · rw [tw3.f1, Int.toNat_natCast, k1, tm3.g2]
                  obtain ⟨mm, hmm⟩ : ∃ mm : Nat, m = (mm : Int) := ⟨m.toNat, by omega⟩
                  obtain ⟨dd, hdd⟩ : ∃ dd : Nat, y * 10 ^ en = (dd : Int) := ⟨(y * 10 ^ en).toNat, by omega⟩
                  have tmm : isT (n + 2) h3 r1 s1 s1 (mm : Int) := by rw [← hmm]; exact tw3.row
                  have tdd : isT (n + 2) h3 29 440 s3 (dd : Int) := by rw [← hdd]; exact u3
                  refine ⟨tw3.ok, by omega, tw3.ok, by omega, ⟨k2, Or.inl k3⟩, tm3.ok, by decide, tm3.ok, sp_fraction tm3 tmm tdd (Or.inr (Or.inr (by omega))) (Or.inr (Or.inl rfl)) (by omega) (by omega) (by omega) (fun h4 n4 yz V W e44 hn4 hn5 tm4 hlw hex4 => w619 yz h4 n4 V W y1 (e03.tr e44 (by omega)) hn4 (by omega) tm4 ?_ ?_ hex4)⟩
                  · rw [eN, ← eD, hmm, hdd]; exact hlw
                  · obtain ⟨a1, a2, a3, b1', b2', b3', b4', b5', b6'⟩ := hlw
                    rw [b1']
                    have : a1 * a3 = mm := by exact_mod_cast b3'.symm
                    rcases Nat.eq_zero_or_pos a1 with y3 | y3
                    · rw [y3, Nat.zero_mul] at this; omega
                    · omega
            have w533 : ∀ (a' m' sa : Nat) (y : Int), isT (n + 2) h1 a' m' sa y → a' ≠ 29 → sa ≤ 100 → y = (if 0 < pw then m else 1) → (0 < pw → sa = s1) → (¬ 0 < pw → sa = 1) → X9_decimal_w533 G k 26 ex mn pw z1 sa 29 a' (n + 2) h1 := by
              intro a' m' sa y ta ha hsa hy h1a h1b
              refine X9_decimal_b533 (n0 := 0) C E 26 ex mn pw z1 sa 29 a' (n + 2) h1 (sp_copyW ta tm1.t29 ha (by omega) (fun h2 e2 t2 _ => ?_))
              have tm2 := tm1.mv e2 (by decide) (by decide)
              have tw2 := tw.mv e2 (show ¬ z1 = 29 by omega) (show ¬ r1 = 29 by omega)
              obtain ⟨k1, k2, k3⟩ := tw2.ln
              have e02 : hF sM n h h2 := e1M.tr ((e2.mono (fun i hi => by have : i = 29 := hi; exact Or.inr (by omega)) : hE sM h1 h2).f) (Nat.le_refl _)
              have w555 : X9_decimal_w555 G k 26 ex mn pw z1 sa 29 (n + 2) h2 := by
                refine X9_decimal_b555 (n0 := 0) C E 26 ex mn pw z1 sa 29 (n + 2) h2 ⟨rpw, fun y2 => ?_, fun y2 => ?_⟩
                · have := w568 (-pw).toNat sa y h2 (by rw [if_neg (by omega)]; omega) hy e02 tm2 tw2 t2
                  rwa [show (((-pw).toNat : Nat) : Int) = -pw by omega] at this
                · have := w568 pw.toNat sa y h2 (by rw [if_pos (by omega)]; omega) hy e02 tm2 tw2 t2
                  rwa [show ((pw.toNat : Nat) : Int) = pw by omega] at this
              rw [tm2.g2]
              refine ⟨tm2.ok, by decide, rpw, fun y2 => ?_, fun y2 => ?_⟩
              · rw [h1b (by omega)] at w555; exact w555
              · rw [tw2.f1, Int.toNat_natCast, k1]
                rw [h1a (by omega)] at w555
                exact ⟨tw2.ok, by omega, ⟨k2, Or.inl k3⟩, w555⟩
            refine ⟨rpw, fun y2 => ?_, fun y2 => ?_⟩
            · rw [tm1.g0]
              refine ⟨tm1.ok, by decide, X9_decimal_b514 (n0 := 0) C E 26 ex mn pw z1 27 (n + 2) h1 ?_⟩
              rw [tm1.g2]
              exact ⟨tm1.ok, by decide, rpw, fun _ => w533 27 1 1 1 tm1.one (by decide) (by decide) (by rw [if_neg (by omega)]) (fun y => by omega) (fun _ => rfl), fun y => by omega⟩
            · rw [tw.f1, Int.toNat_natCast]
              refine ⟨tw.ok, by omega, X9_decimal_b514 (n0 := 0) C E 26 ex mn pw z1 r1 (n + 2) h1 ?_⟩
              rw [tm1.g2, tw.f1, Int.toNat_natCast, l1']
              exact ⟨tm1.ok, by decide, rpw, fun y => by omega, fun _ => ⟨tw.ok, by omega, ⟨l2', Or.inl l3'⟩, w533 r1 s1 s1 m tw.row (by omega) hs100 (by rw [if_pos (by omega)]) (fun _ => rfl) (fun y => by omega)⟩⟩
          have hmpw : (dn : Int) + pw > 0 → (10 : Int) ^ ((dn : Int) + pw - 1).toNat * 10 ^ (-pw).toNat ≤ m * 10 ^ pw.toNat := by
            intro y
            rw [← Int.pow_add]
            have e1 : ((dn : Int) + pw - 1).toNat + (-pw).toNat = (dn - 1) + pw.toNat := by omega
            rw [e1, Int.pow_add]
            exact Int.mul_le_mul_of_nonneg_right q2 (Int.le_of_lt (tnn _))
          have hmpw2 : (dn : Int) + pw < 0 → m * 10 ^ pw.toNat * 10 ^ (-((dn : Int) + pw)).toNat < 10 ^ (-pw).toNat := by
            intro y
            have e1 : (-pw).toNat = pw.toNat + (-((dn : Int) + pw)).toNat + dn := by omega
            have e2 : m * 10 ^ pw.toNat * 10 ^ (-((dn : Int) + pw)).toNat = 10 ^ (pw.toNat + (-((dn : Int) + pw)).toNat) * m := by
              rw [Int.mul_assoc, ← Int.pow_add, Int.mul_comm]
            rw [e2, e1, Int.pow_add 10 (pw.toNat + (-((dn : Int) + pw)).toNat) dn]
            exact Int.mul_lt_mul_of_pos_left q3 (tnn _)
          refine ⟨⟨hex, rgS (by decide) (by decide)⟩, fun hx101 => ⟨⟨rdp, rgS (by decide) (by decide)⟩, fun y => X9_decimal_b482 (n0 := 0) C E n h ?_, fun y => ⟨⟨rdp, rgS (by decide) (by decide)⟩, fun y2 => w484 (fun _ => ⟨by omega, by omega⟩) (fun y3 => absurd hx101 y3), fun y2 => X9_decimal_b482 (n0 := 0) C E n h ?_⟩⟩, fun hx101 => ⟨⟨rdp, rgS (by decide) (by decide)⟩, fun y => ⟨⟨rdp, rgS (by decide) (by decide)⟩, fun y2 => w484 (fun y3 => absurd y3 hx101) (fun _ => ⟨by omega, by omega⟩), fun y2 => ?_⟩, fun y => ?_⟩⟩
          · -- too great to be exact
            obtain ⟨V, W, hlow⟩ : ∃ V W, lowR (v * 10 ^ (x - (r2 : Int)).toNat) (10 ^ (-(x - (r2 : Int))).toNat) V W := low_ex (Int.mul_nonneg hv0 (Int.le_of_lt (tnn _))) hDv
            have hl2 : lowR (m * 10 ^ pw.toNat) (10 ^ (-pw).toNat) V W := low_congr hDv hDm (Int.mul_nonneg (by omega) (Int.le_of_lt (tnn _))) heq.symm hlow
            refine hyE' hx101 h n (-1) V W hF.rf (Nat.le_refl _) (by omega) tm hlow (Or.inl ⟨rfl, Or.inl ?_⟩)
            refine low_bigV hl2 hDm ?_
            have h1 := hmpw (by omega)
            have h2 : (10 : Int) ^ 1300 ≤ 10 ^ ((dn : Int) + pw - 1).toNat := ten_mono (by omega)
            have h3 : (2 : Int) ^ 4096 ≤ 10 ^ 1300 := by decide +kernel
            have h4 := Int.mul_le_mul_of_nonneg_right (show (2 : Int) ^ 4096 ≤ 10 ^ ((dn : Int) + pw - 1).toNat by omega) (Int.le_of_lt hDm)
            omega
          · obtain ⟨V, W, hlow⟩ : ∃ V W, lowR (v * 10 ^ (x - (r2 : Int)).toNat) (10 ^ (-(x - (r2 : Int))).toNat) V W := low_ex (Int.mul_nonneg hv0 (Int.le_of_lt (tnn _))) hDv
            have hl2 : lowR (m * 10 ^ pw.toNat) (10 ^ (-pw).toNat) V W := low_congr hDv hDm (Int.mul_nonneg (by omega) (Int.le_of_lt (tnn _))) heq.symm hlow
            refine hyE' hx101 h n (-1) V W hF.rf (Nat.le_refl _) (by omega) tm hlow (Or.inl ⟨rfl, Or.inr ?_⟩)
            refine low_bigW hl2 (Int.mul_pos hmp (tnn _)) ?_
            have h1 := hmpw2 (by omega)
            have h2 : (10 : Int) ^ 1300 ≤ 10 ^ (-((dn : Int) + pw)).toNat := ten_mono (by omega)
            have h3 : (2 : Int) ^ 4096 ≤ 10 ^ 1300 := by decide +kernel
            have h4 := Int.mul_le_mul_of_nonneg_left (show (2 : Int) ^ 4096 ≤ 10 ^ (-((dn : Int) + pw)).toNat by omega) (Int.le_of_lt (Int.mul_pos hmp (tnn pw.toNat)))
            omega
          · -- too small
            have hnr : nrR (m * 10 ^ pw.toNat) (10 ^ (-pw).toNat) (-1074) 0 := by
              refine nr_tiny (Int.mul_nonneg (by omega) (Int.le_of_lt (tnn _))) hDm ?_
              have h1 := hmpw2 (by omega)
              have h2 : (10 : Int) ^ 350 ≤ 10 ^ (-((dn : Int) + pw)).toNat := ten_mono (by omega)
              have h3 : (2 : Int) * 2 ^ 1074 ≤ 10 ^ 350 := by decide +kernel
              have h4 := Int.mul_le_mul_of_nonneg_left (show (2 : Int) * 2 ^ 1074 ≤ 10 ^ (-((dn : Int) + pw)).toNat by omega) (Int.le_of_lt (Int.mul_pos hmp (tnn pw.toNat)))
              have e5 : m * 10 ^ pw.toNat * (2 * 2 ^ 1074) = 2 * (m * 10 ^ pw.toNat * 2 ^ 1074) := by rw [Int.mul_left_comm]
              omega
            have w456 : ∀ yy, isVl yy (sgB mn) 0 → X9_decimal_w456 G k yy n h := fun yy hyy => X9_decimal_b456 (n0 := 0) C E yy n h (sp_finD tm hyy (fun h5 k5 tm5 t5 => hyR' hx101 h5 (n + 1) n yy (-1074) 0 (hK.f k5) (by omega) (by omega) tm5 (nrI hnr) t5 (by rw [show (Int.toNat 0 * 2 ^ ((-1074 : Int) + 1074).toNat) = 0 from by decide]; exact hyy)))
            refine ⟨rmn, fun y3 => w456 FP.dconst0 ?_, fun y3 => w456 _ ?_⟩
            · rw [show sgB mn = false by unfold sgB; simp; exact y3]; exact vl0_isVl
            · rw [show sgB mn = true by unfold sgB; simp; exact y3]; exact vlm0_isVl
          · -- too great
            obtain ⟨e4, m4, hnr, hbig⟩ := nr_huge (N := m * 10 ^ pw.toNat) (D := 10 ^ (-pw).toNat) hDm (by
              have h1 := hmpw (by omega)
              have h2 : (10 : Int) ^ 330 ≤ 10 ^ ((dn : Int) + pw - 1).toNat := ten_mono (by omega)
              have h3 : (2 : Int) ^ 1024 ≤ 10 ^ 330 := by decide +kernel
              have h4 := Int.mul_le_mul_of_nonneg_right (show (2 : Int) ^ 1024 ≤ 10 ^ ((dn : Int) + pw - 1).toNat by omega) (Int.le_of_lt hDm)
              rw [Int.mul_comm (10 ^ (-pw).toNat)]
              omega)
            have w429 : ∀ yy, vl yy = .inf (sgB mn) → X9_decimal_w429 G k yy n h := fun yy hyy => X9_decimal_b429 (n0 := 0) C E yy n h (sp_finD (mn := mn) (Z := m4.toNat * 2 ^ (e4 + 1074).toNat) tm (Or.inr ⟨hbig, hyy⟩) (fun h5 k5 tm5 t5 => hyR' hx101 h5 (n + 1) n yy e4 m4 (hK.f k5) (by omega) (by omega) tm5 (nrI hnr) t5 (Or.inr ⟨hbig, hyy⟩)))
            refine ⟨rmn, fun y3 => w429 9218868437227405312 ?_, fun y3 => w429 18442240474082181120 ?_⟩
            · rw [show sgB mn = false by unfold sgB; simp; exact y3]; decide +kernel
            · rw [show sgB mn = true by unfold sgB; simp; exact y3]; decide +kernel
        · -- no digit but zeros
          have hfe : f = e := by
            rcases Nat.lt_or_ge f e with y | y
            · have := (hpos y).1; omega
            · omega
          have hv0 := (hzero hfe).1
          have w396 : ∀ (yz n5 : Nat) (h5 : xH), Po (yz : Int) n5 h5 → X9_decimal_w396 G k yz n5 h5 := fun yz n5 h5 y => X9_decimal_b396 (n0 := 0) C E yz n5 h5 y
          refine ⟨⟨hex, rgS (by decide) (by decide)⟩, fun y => ?_, fun y => sp_zeroW h47 (fun h5 k5 t5 => w396 n (n + 2) h5 (hyE' y h5 (n + 2) n 0 1 (hK.f k5) (by omega) (by omega) (tm.fr (S := fun _ => False) k5 (by omega) id id) ?_ (Or.inr ⟨by decide, by rw [bl1]; decide, n, rfl, ?_⟩)))⟩
          · have w393 : ∀ yy, isVl yy (sgB mn) 0 → X9_decimal_w393 G k yy n h := fun yy hyy => X9_decimal_b393 (n0 := 0) C E yy n h (sp_finD tm hyy (fun h5 k5 tm5 t5 => w396 n (n + 1) h5 (hyR' y h5 (n + 1) n yy (-1074) 0 (hK.f k5) (by omega) (by omega) tm5 (by rw [hv0, Int.zero_mul]; exact nr_zero hDv) t5 (by rw [show (Int.toNat 0 * 2 ^ ((-1074 : Int) + 1074).toNat) = 0 from by decide]; exact hyy))))
            refine ⟨rmn, fun y3 => w393 FP.dconst0 ?_, fun y3 => w393 _ ?_⟩
            · rw [show sgB mn = false by unfold sgB; simp; exact y3]; exact vl0_isVl
            · rw [show sgB mn = true by unfold sgB; simp; exact y3]; exact vlm0_isVl
          · rw [hv0, Int.zero_mul]
            obtain ⟨dd, hdd⟩ : ∃ dd : Nat, (10 : Int) ^ (-(x - (r2 : Int))).toNat = (dd : Int) := ⟨((10 : Int) ^ (-(x - (r2 : Int))).toNat).toNat, by omega⟩
            rw [hdd]
            exact ⟨0, 1, dd, rfl, rfl, by rw [Nat.zero_mul]; rfl, by rw [Nat.one_mul], by decide, by decide⟩
          · rw [if_pos rfl]; exact isEx.ofW t5
      have w333 : ∀ s0 : Int, x + s0 = pw → X9_decimal_w333 G k 26 47 ex mn pt f la s0 x n h := by
        intro s0 hs0
        have w359 : (if (f : Int) ≤ pt ∧ pt < (la : Int) then (1 : Int) else 0) = 0 → X9_decimal_w359 G k 26 47 ex mn f la (x + s0) ((la : Int) - f) n h := fun y => X9_decimal_b359 (n0 := 0) C E 26 47 ex mn f la _ _ n h (by rw [hs0]; rw [y] at w360; exact w360)
        refine X9_decimal_b333 (n0 := 0) C E 26 47 ex mn pt f la s0 x n h ⟨⟨rgS (by omega) (by omega), rg_nat (by omega)⟩, fun y => w359 (by rw [if_neg (by omega)]), fun y => ⟨⟨rgS (by omega) (by omega), rg_nat (by omega)⟩, fun y2 => w359 (by rw [if_neg (by omega)]), fun y2 => ?_⟩⟩
        rw [hs0]
        rw [if_pos (by omega)] at w360
        exact w360
      have w307 : X9_decimal_w307 G k 26 47 ex mn pt x f la ((p + r : Nat) : Int) n h := by
        refine X9_decimal_b307 (n0 := 0) C E 26 47 ex mn pt x f la _ n h ⟨⟨rg_nat (by omega), rg_nat (by omega)⟩, fun y => w333 _ ?_, fun y => w333 _ ?_⟩
        · rw [hpw, if_neg (by omega)]
        · rw [hpw, if_pos (by omega)]
      refine X9_decimal_b295 (n0 := 0) C E 26 47 ex mn e pt x f la n h ⟨rgS (by omega) (by omega), fun y => ?_, fun y => ?_⟩
      · rw [if_pos y] at hbehind
        rw [← hbehind] at w307
        exact w307
      · rw [if_neg y] at hbehind
        rw [← hbehind] at w307
        exact w307
    -- last
    have lst : ∀ (f : Nat), p ≤ f → f ≤ e → (∀ j, p ≤ j → j < f → cd T (j : Int) = 48 ∨ cd T (j : Int) = 46) → (f = e ∨ ¬ (cd T (f : Int) = 48 ∨ cd T (f : Int) = 46)) → ∀ (u la : Nat), la = f + u → la ≤ e → (∀ j, la ≤ j → j < e → cd T (j : Int) = 48 ∨ cd T (j : Int) = 46) → (f < e → f < la) → X9_decimal_w260 G k 26 47 ex mn e pt x f la n h := by
      intro f f0 f1 f2 f3 u
      induction u with
      | zero =>
        intro la hla l1 l2 l3
        refine X9_decimal_b260 (n0 := 0) C E 26 47 ex mn e pt x f la n h ⟨⟨rg_nat (by omega), rg_nat (by omega)⟩, fun _ => aft f la f0 f1 f2 f3 (by omega) l1 l2 l3, fun y => by omega⟩
      | succ u ih =>
        intro la hla l1 l2 l3
        obtain ⟨ok, hcc⟩ := tt.at tm (i := la - 1) (by omega)
        have hcr := cd_rg hT ((la - 1 : Nat) : Int)
        have rc : rg (cd T ((la - 1 : Nat) : Int)) := rgS (by omega) (by omega)
        have ela : (la : Int) - 1 = ((la - 1 : Nat) : Int) := by omega
        have w289 : (cd T ((la - 1 : Nat) : Int) = 48 ∨ cd T ((la - 1 : Nat) : Int) = 46) → X9_decimal_w289 G k 26 47 ex mn e pt x f la n h := by
          intro y
          refine X9_decimal_b289 (n0 := 0) C E 26 47 ex mn e pt x f la n h ?_
          rw [show (la : Int) + (-1) = ((la - 1 : Nat) : Int) by omega]
          refine ih (la - 1) (by omega) (by omega) (fun j y1 y2 => ?_) (fun y1 => ?_)
          · rcases Nat.lt_or_ge j la with y3 | y3
            · have : j = la - 1 := by omega
              rw [this]; exact y
            · exact l2 j y3 y2
          · rcases f3 with y3 | y3
            · omega
            · rcases Nat.lt_or_ge f (la - 1) with y4 | y4
              · exact y4
              · have : f = la - 1 := by omega
                rw [this] at y3; exact absurd y y3
        refine X9_decimal_b260 (n0 := 0) C E 26 47 ex mn e pt x f la n h ⟨⟨rg_nat (by omega), rg_nat (by omega)⟩, fun y => by omega, fun _ => ?_⟩
        rw [ela, hcc]
        exact ⟨ok, ⟨rc, rgS (by decide) (by decide)⟩, fun y => w289 (Or.inl y), fun y => ⟨ok, ⟨rc, rgS (by decide) (by decide)⟩, fun y2 => aft f la f0 f1 f2 f3 (by omega) l1 l2 (fun _ => by omega), fun y2 => w289 (Or.inr y2)⟩⟩
    -- first
    have fst : ∀ (u f : Nat), f + u = e → p ≤ f → (∀ j, p ≤ j → j < f → cd T (j : Int) = 48 ∨ cd T (j : Int) = 46) → X9_decimal_w225 G k 26 47 ex mn e pt x f n h := by
      intro u
      induction u with
      | zero =>
        intro f hf f0 f2
        have : f = e := by omega
        subst this
        exact X9_decimal_b225 (n0 := 0) C E 26 47 ex mn f pt x f n h ⟨⟨rg_nat (by omega), rg_nat (by omega)⟩, fun _ => X9_decimal_b256 (n0 := 0) C E 26 47 ex mn f pt x f n h (lst f f0 (Nat.le_refl _) f2 (Or.inl rfl) 0 f rfl (Nat.le_refl _) (fun j y1 y2 => by omega) (fun y => by omega)), fun y => by omega⟩
      | succ u ih =>
        intro f hf f0 f2
        obtain ⟨ok, hcc⟩ := tt.at tm (i := f) (by omega)
        have hcr := cd_rg hT (f : Int)
        have rc : rg (cd T (f : Int)) := rgS (by omega) (by omega)
        have w250 : (cd T (f : Int) = 48 ∨ cd T (f : Int) = 46) → X9_decimal_w250 G k 26 47 ex mn e pt x f n h := by
          intro y
          refine X9_decimal_b250 (n0 := 0) C E 26 47 ex mn e pt x f n h ?_
          rw [show (f : Int) + 1 = ((f + 1 : Nat) : Int) by omega]
          refine ih (f + 1) (by omega) (by omega) (fun j y1 y2 => ?_)
          rcases Nat.lt_or_ge j f with y3 | y3
          · exact f2 j y1 y3
          · have : j = f := by omega
            rw [this]; exact y
        refine X9_decimal_b225 (n0 := 0) C E 26 47 ex mn e pt x f n h ⟨⟨rg_nat (by omega), rg_nat (by omega)⟩, fun y => by omega, fun _ => ?_⟩
        rw [hcc]
        exact ⟨ok, ⟨rc, rgS (by decide) (by decide)⟩, fun y => w250 (Or.inl y), fun y => ⟨ok, ⟨rc, rgS (by decide) (by decide)⟩, fun y2 => X9_decimal_b256 (n0 := 0) C E 26 47 ex mn e pt x f n h (lst f f0 (by omega) f2 (Or.inr (fun y3 => by rcases y3 with y3 | y3; exact y y3; exact y2 y3)) (e - f) e (by omega) (Nat.le_refl _) (fun j y1 y2 => by omega) (fun y => y)), fun y2 => w250 (Or.inr y2)⟩⟩
    exact X9_decimal_b222 (n0 := 0) C E 26 47 p ex mn e pt x n h (fst (e - p) p (by omega) (Nat.le_refl _) (fun j y1 y2 => by omega))
  -- behind the scan
  have w77 : (e = T.length ∨ em (cd T (e : Int))) → X9_decimal_w77 G k 26 47 p T.length ex mn e pt ((r + r2 : Nat) : Int) n h := by
    intro hend
    have hrr : r + r2 ≤ 900 := by rcases hS.2 with y | y <;> omega
    refine X9_decimal_b77 (n0 := 0) C E 26 47 p T.length ex mn e pt _ n h ⟨rg_nat (by omega), fun g => ?_, fun g => hn (fun y => by have := y.1; omega)⟩
    refine ⟨⟨rg_nat (by omega), rg_nat (by omega)⟩, fun g2 => ?_, fun g2 => ?_⟩
    · have heq : e = T.length := by omega
      have hsc : scD T r r2 e := ⟨by omega, Or.inl heq⟩
      have h0 : (0 : Int) = xq T e := by unfold xq; rw [if_pos heq]
      exact w222 0 hsc h0 (by decide) (by decide)
    · have hem : em (cd T (e : Int)) := by
        rcases hend with y | y
        · omega
        · exact y
      have hlt : e < T.length := by omega
      -- from the exponent's first place on
      have w146 : ∀ s0 : Int, s0 = (sgn T e : Int) → X9_decimal_w146 G k 26 47 p T.length ex mn e pt 0 s0 ((e + 1 + sgn T e : Nat) : Int) n h := by
        intro s0 hs0
        refine X9_decimal_b146 (n0 := 0) C E 26 47 p T.length ex mn e pt 0 s0 _ n h (sp_areDigits tm tt hT (Nat.le_refl _) (by omega) (by decide) (by decide) (fun y1 y2 => ⟨rgS (by decide) (by decide), fun y => by omega, fun _ => ?_⟩) (fun y => ⟨rgS (by decide) (by decide), fun _ => X9_decimal_b168 (n0 := 0) C E n h (hn (fun y3 => ?_)), fun y2 => absurd rfl y2⟩))
        · have ex1 : xn T e = T.length - (e + 1 + sgn T e) := rfl
          refine ⟨⟨rgS (by omega) (by omega), rgS (by decide) (by decide)⟩, fun y3 => ?_, fun y3 => X9_decimal_b168 (n0 := 0) C E n h (hn (fun y4 => ?_))⟩
          · have hsc : scD T r r2 e := ⟨by omega, Or.inr ⟨hlt, hem, y1, by omega, fun j hj => y2 _ (by omega) (by omega)⟩⟩
            have hdig : ∀ j, j < xn T e → 0 ≤ dv 10 (cd T ((e + 1 + sgn T e + j : Nat) : Int)) := fun j hj => y2 _ (by omega) (by omega)
            have d48 : ∀ i : Int, 0 ≤ dv 10 i → dv 10 i = i - 48 := by
              intro i hi
              unfold dv at hi ⊢
              split at hi
              · rename_i h10
                rw [if_pos h10]
                unfold dw at hi h10 ⊢
                split
                · rfl
                · split
                  · rw [if_neg (by assumption), if_pos (by assumption)] at h10; omega
                  · split
                    · rw [if_neg (by assumption), if_neg (by assumption), if_pos (by assumption)] at h10; omega
                    · rw [if_neg (by assumption), if_neg (by assumption), if_neg (by assumption)] at hi; omega
              · omega
            suffices K : ∀ (u j : Nat), j + u = xn T e → X9_decimal_w174 G k 26 47 p T.length ex mn e pt (dvl T 10 (e + 1 + sgn T e) 0 j) s0 ((e + 1 + sgn T e + j : Nat) : Int) n h from K (xn T e) 0 (by omega)
            intro u
            induction u with
            | zero =>
              intro j hj
              have hjx : j = xn T e := by omega
              subst hjx
              have hb := dvl_bd hdig
              have h104 : (10 : Int) ^ xn T e ≤ 10 ^ 4 := ten_mono (by omega)
              have h4 : (10 : Int) ^ 4 = 10000 := by decide
              have hxq : xq T e = if cd T ((e + 1 : Nat) : Int) = 45 then -(dvl T 10 (e + 1 + sgn T e) 0 (xn T e)) else dvl T 10 (e + 1 + sgn T e) 0 (xn T e) := by
                unfold xq
                rw [if_neg (by omega)]; rfl
              refine X9_decimal_b174 (n0 := 0) C E 26 47 p T.length ex mn e pt _ s0 _ n h ⟨⟨rg_nat (by omega), rg_nat (by omega)⟩, fun _ => ⟨by rw [hs0]; exact rg_nat (by omega), fun z0 => ?_, fun z0 => ?_⟩, fun z => by omega⟩
              · have hns : ¬ (cd T ((e + 1 : Nat) : Int) = 45) := by
                  intro z1
                  have : sgn T e = 1 := by unfold sgn; rw [if_pos (Or.inl z1)]
                  omega
                rw [if_neg hns] at hxq
                exact w222 _ hsc hxq.symm (by omega) (by omega)
              · obtain ⟨ok, hcc⟩ := tt.at tm (i := e + 1) (by omega)
                have hcr := cd_rg hT ((e + 1 : Nat) : Int)
                rw [show (e : Int) + 1 = ((e + 1 : Nat) : Int) by omega, hcc]
                refine ⟨ok, ⟨rgS (by omega) (by omega), rgS (by decide) (by decide)⟩, fun z1 => ?_, fun z1 => ?_⟩
                · rw [if_neg z1] at hxq
                  exact w222 _ hsc hxq.symm (by omega) (by omega)
                · rw [if_pos z1] at hxq
                  exact w222 _ hsc hxq.symm (by omega) (by omega)
            | succ u ih =>
              intro j hj
              obtain ⟨ok, hcc⟩ := tt.at tm (i := e + 1 + sgn T e + j) (by omega)
              refine X9_decimal_b174 (n0 := 0) C E 26 47 p T.length ex mn e pt _ s0 _ n h ⟨⟨rg_nat (by omega), rg_nat (by omega)⟩, fun z => by omega, fun _ => ⟨ok, ?_⟩⟩
              rw [hcc, show ((e + 1 + sgn T e + j : Nat) : Int) + 1 = ((e + 1 + sgn T e + (j + 1) : Nat) : Int) by omega]
              have := ih (j + 1) (by omega)
              have hst : dvl T 10 (e + 1 + sgn T e) 0 (j + 1) = dvl T 10 (e + 1 + sgn T e) 0 j * 10 + dv 10 (cd T ((e + 1 + sgn T e + j : Nat) : Int)) := rfl
              rw [hst, d48 _ (hdig j (by omega))] at this
              rw [show 10 * dvl T 10 (e + 1 + sgn T e) 0 j + cd T ((e + 1 + sgn T e + j : Nat) : Int) - 48 = dvl T 10 (e + 1 + sgn T e) 0 j * 10 + (cd T ((e + 1 + sgn T e + j : Nat) : Int) - 48) by omega]
              exact this
          · rcases y4.2 with y5 | y5
            · omega
            · have := y5.2.2.2.1; omega
        · rcases y3.2 with y5 | y5
          · omega
          · apply y
            refine ⟨y5.2.2.1, fun j z1 z2 => ?_⟩
            have ex1 : xn T e = T.length - (e + 1 + sgn T e) := rfl
            have := y5.2.2.2.2 (j - (e + 1 + sgn T e)) (by omega)
            rwa [show e + 1 + sgn T e + (j - (e + 1 + sgn T e)) = j by omega] at this
      have w128 : ∀ s0 : Int, s0 = (sgn T e : Int) → X9_decimal_w128 G k 26 47 p T.length ex mn e pt 0 s0 n h := by
        intro s0 hs0
        have := w146 s0 hs0
        refine X9_decimal_b128 (n0 := 0) C E 26 47 p T.length ex mn e pt 0 s0 n h ⟨by rw [hs0]; exact rg_nat (by omega), fun z => ?_, fun z => ?_⟩
        · rw [show ((e + 1 + sgn T e : Nat) : Int) = (e : Int) + 1 by omega] at this; exact this
        · rw [show ((e + 1 + sgn T e : Nat) : Int) = (e : Int) + 2 by omega] at this; exact this
      have w127 : ¬ (cd T ((e + 1 : Nat) : Int) = 45 ∨ cd T ((e + 1 : Nat) : Int) = 43) → X9_decimal_w127 G k 26 47 p T.length ex mn e pt 0 n h := fun y => X9_decimal_b127 (n0 := 0) C E 26 47 p T.length ex mn e pt 0 n h (w128 0 (by unfold sgn; rw [if_neg y]; rfl))
      have w123 : (cd T ((e + 1 : Nat) : Int) = 45 ∨ cd T ((e + 1 : Nat) : Int) = 43) → X9_decimal_w123 G k 26 47 p T.length ex mn e pt 0 n h := fun y => X9_decimal_b123 (n0 := 0) C E 26 47 p T.length ex mn e pt 0 n h (w128 1 (by unfold sgn; rw [if_pos y]; rfl))
      refine ⟨⟨rgS (by omega) (by omega), rg_nat (by omega)⟩, fun y => w127 ?_, fun y => ?_⟩
      · rw [cd_end (by omega)]; decide
      · obtain ⟨ok, hcc⟩ := tt.at tm (i := e + 1) (by omega)
        have hcr := cd_rg hT ((e + 1 : Nat) : Int)
        have rc : rg (cd T ((e + 1 : Nat) : Int)) := rgS (by omega) (by omega)
        rw [show (e : Int) + 1 = ((e + 1 : Nat) : Int) by omega, hcc]
        exact ⟨ok, ⟨rc, rgS (by decide) (by decide)⟩, fun y2 => w123 (Or.inr y2), fun y2 => ⟨ok, ⟨rc, rgS (by decide) (by decide)⟩, fun y3 => w127 (fun y4 => by rcases y4 with y4 | y4; exact y3 y4; exact y2 y4), fun y3 => w123 (Or.inl y3)⟩⟩
  -- the scan
  have scan : ∀ (u i c : Nat) (pt' : Int), i + u = e → p ≤ i → (pt' = pt ∨ (pt' = -1 ∧ (i : Int) ≤ pt)) → (pt' = pt → (pt = -1 ∨ pt < i)) → ((c + u : Nat) : Int) = ((r + r2 : Nat) : Int) + (if pt' = pt then 0 else 1) → X9_decimal_w9 G k 26 47 p T.length ex mn i pt' c n h := by
    intro u
    induction u with
    | zero =>
      intro i c pt' hi hpi hpt hpt2 hc
      have hie : i = e := by omega
      subst hie
      have hpe : pt' = pt := by
        rcases hpt with y | y
        · exact y
        · have : pt < (i : Int) := by rcases hS.2 with z | z <;> omega
          omega
      rw [if_pos hpe] at hc
      rw [hpe, show (c : Int) = ((r + r2 : Nat) : Int) by omega]
      refine X9_decimal_b9 (n0 := 0) C E 26 47 p T.length ex mn i pt _ n h ⟨⟨rg_nat (by omega), rg_nat (by omega)⟩, fun g => w77 (Or.inl (by omega)), fun g => ?_⟩
      obtain ⟨ok, hcc⟩ := tt.at tm (i := i) (by omega)
      have hcr := cd_rg hT (i : Int)
      have rc : rg (cd T (i : Int)) := rgS (by omega) (by omega)
      rw [hcc]
      refine ⟨ok, ⟨rc, rgS (by decide) (by decide)⟩, fun g2 => w77 (Or.inr (Or.inl g2)), fun g2 => ⟨ok, ⟨rc, rgS (by decide) (by decide)⟩, fun g3 => w77 (Or.inr (Or.inr g3)), fun g3 => ?_⟩⟩
      have hbad : dv 10 (cd T (i : Int)) < 0 ∧ ¬ (cd T (i : Int) = 46 ∧ pt = -1) ∧ ¬ em (cd T (i : Int)) := by
        rcases hstop with y | y | y
        · omega
        · rcases y with y | y
          · exact absurd y g2
          · exact absurd y g3
        · exact y
      have hnull : Po (-1) n h := hn (fun y => by
        rcases y.2 with y | y
        · omega
        · exact hbad.2.2 y.2.1)
      have w54 : X9_decimal_w54 G k 26 47 p T.length ex mn i pt ((r + r2 : Nat) : Int) n h := by
        refine X9_decimal_b54 (n0 := 0) C E 26 47 p T.length ex mn i pt _ n h ⟨ok, ?_⟩
        rw [hcc]
        have hdb := dv_bd 10 (cd T (i : Int))
        exact sp_digitOf rc (by decide) (by decide) ⟨rgS (by omega) (by omega), fun y => by omega, fun _ => hnull⟩
      refine ⟨ok, ⟨rc, rgS (by decide) (by decide)⟩, fun _ => w54, fun g4 => ⟨rgS (by omega) (by omega), fun _ => w54, fun g5 => ?_⟩⟩
      exact absurd ⟨g4, by omega⟩ hbad.2.1
    | succ u ih =>
      intro i c pt' hi hpi hpt hpt2 hc
      obtain ⟨ok, hcc⟩ := tt.at tm (i := i) (by omega)
      have hcr := cd_rg hT (i : Int)
      have rc : rg (cd T (i : Int)) := rgS (by omega) (by omega)
      obtain ⟨hp1, hp2⟩ := hS.pt (j := i) hpi (by omega)
      have hne : cd T (i : Int) ≠ 101 ∧ cd T (i : Int) ≠ 69 := by
        rcases hp2 with y | y
        · rw [y]; decide
        · constructor
          · intro z; rw [z] at y; exact absurd y (by decide)
          · intro z; rw [z] at y; exact absurd y (by decide)
      refine X9_decimal_b9 (n0 := 0) C E 26 47 p T.length ex mn i pt' _ n h ⟨⟨rg_nat (by omega), rg_nat (by omega)⟩, fun g => by omega, fun g => ?_⟩
      rw [hcc]
      have rpt : rg pt' := by rcases hpt with y | y <;> rw [show pt' = _ from by first | exact y | exact y.1] <;> exact rgS (by omega) (by omega)
      have w54 : cd T (i : Int) ≠ 46 → X9_decimal_w54 G k 26 47 p T.length ex mn i pt' c n h := by
        intro h46
        have hd0 : 0 ≤ dv 10 (cd T (i : Int)) := by
          rcases hp2 with y | y
          · exact absurd y h46
          · exact y
        have hpne : pt ≠ (i : Int) := fun y => h46 (hp1.mpr y)
        refine X9_decimal_b54 (n0 := 0) C E 26 47 p T.length ex mn i pt' _ n h ⟨ok, ?_⟩
        rw [hcc]
        have hdb := dv_bd 10 (cd T (i : Int))
        refine sp_digitOf rc (by decide) (by decide) ⟨rgS (by omega) (by omega), fun _ => X9_decimal_b71 (n0 := 0) C E 26 47 p T.length ex mn i pt' _ n h ?_, fun y => absurd hd0 y⟩
        rw [show (i : Int) + 1 = ((i + 1 : Nat) : Int) by omega, show (c : Int) + 1 = ((c + 1 : Nat) : Int) by omega]
        exact ih (i + 1) (c + 1) pt' (by omega) (by omega) (by omega) (by omega) (by omega)
      refine ⟨ok, ⟨rc, rgS (by decide) (by decide)⟩, fun y => absurd y hne.1, fun _ => ⟨ok, ⟨rc, rgS (by decide) (by decide)⟩, fun y => absurd y hne.2, fun _ => ⟨ok, ⟨rc, rgS (by decide) (by decide)⟩, fun y => w54 y, fun y => ⟨rpt, fun y2 => ?_, fun y2 => X9_decimal_b71 (n0 := 0) C E 26 47 p T.length ex mn i (i : Int) c n h ?_⟩⟩⟩⟩
      · exfalso
        have hpi2 := hp1.mp y
        rcases hpt with y3 | y3
        · have := hpt2 y3; omega
        · omega
      · have hpi2 := hp1.mp y
        have hne2 : pt' ≠ pt := by
          intro y3
          have := hpt2 y3
          omega
        rw [if_neg hne2] at hc
        rw [show (i : Int) + 1 = ((i + 1 : Nat) : Int) by omega, ← hpi2]
        exact ih (i + 1) c pt (by omega) (by omega) (Or.inl rfl) (fun _ => by omega) (by rw [if_pos rfl]; omega)
  have := scan (e - p) p 0 (-1) (by omega) (Nat.le_refl _) (by rcases hS.2 with y | y <;> omega) (by intro y; exact Or.inl y.symm) (by
    rcases hS.2 with y | y
    · rw [if_pos y.1.symm]; omega
    · rw [if_neg (by omega)]; omega)
  exact this
