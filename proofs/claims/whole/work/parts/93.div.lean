/-! THE GUESS OF A DIGIT: doubles that hold whole numbers -/
abbrev vl (x : UInt64) : FP.Core.Datum := FP.Core.val64 x
theorem qmin64 : FP.Core.Fmt.qmin FP.Core.b64 = -1074 := by decide
theorem qmax64 : FP.Core.Fmt.qmax FP.Core.b64 = 971 := by decide
theorem tails64 : FP.Core.Fmt.tails FP.Core.b64 = 4503599627370496 := by decide
theorem exps64 : FP.Core.Fmt.exps FP.Core.b64 = 2048 := by decide
theorem cmp_lt {a b : Int} (h : a < b) : compare a b = .lt := by
  show compareOfLessAndEq a b = _
  unfold compareOfLessAndEq; rw [if_pos h]
theorem cmp_gt {a b : Int} (h : b < a) : compare a b = .gt := by
  show compareOfLessAndEq a b = _
  unfold compareOfLessAndEq; rw [if_neg (by omega), if_neg (by omega)]
/-- bits that are no NaN -/
theorem n64_of {x : UInt64} (h : vl x ≠ .nan) : vf_n64 x := by
  show x &&& 0x7fffffffffffffff ≤ 0x7ff0000000000000
  rw [UInt64.le_iff_toNat_le, UInt64.toNat_and]
  have e : (0x7fffffffffffffff : UInt64).toNat = 2 ^ 63 - 1 := by decide
  rw [e, Nat.and_two_pow_sub_one_eq_mod]
  show x.toNat % 2 ^ 63 ≤ 9218868437227405312
  have hx := x.toNat_lt
  rcases Nat.lt_or_ge 9218868437227405312 (x.toNat % 2 ^ 63) with g | g
  · exfalso
    apply h
    show FP.Core.decode FP.Core.b64 x.toNat = .nan
    unfold FP.Core.decode FP.Core.fieldE FP.Core.fieldT
    rw [tails64, exps64]
    rw [if_pos (by omega), if_neg (by omega)]
  · exact g
theorem fin_n64 {x : UInt64} {s : Bool} {c : Nat} {q : Int} (h : vl x = .fin s c q) : vf_n64 x := n64_of (by rw [h]; exact fun e => by cases e)
theorem inf_n64 {x : UInt64} {s : Bool} (h : vl x = .inf s) : vf_n64 x := n64_of (by rw [h]; exact fun e => by cases e)
theorem dint_n64 {i : Int} {x : UInt64} (h : FP.Core.DInt i x) : vf_n64 x := by
  unfold FP.Core.DInt at h
  refine n64_of (fun e => ?_)
  rw [show FP.Core.val64 x = .nan from e] at h
  exact h
theorem dint_k : FP.Core.DInt 10000 4666723172467343360 := by
  have : FP.i2d 10000 = 4666723172467343360 := by decide +kernel
  rw [← this]
  exact FP.Core.i2d_int 10000
theorem dint_i {z : Int} (h : rg z) : FP.Core.DInt z (FP.i2d (iz z)) := by
  have := FP.Core.i2d_int (iz z)
  rw [iz_toInt h] at this
  exact this
/-- a whole double's parts -/
theorem dint_parts {i : Int} {x : UInt64} (h : FP.Core.DInt i x) (hi : 0 < i) : ∃ c q, vl x = .fin false c q ∧ 0 < c := by
  unfold FP.Core.DInt at h
  show ∃ c q, FP.Core.val64 x = .fin false c q ∧ 0 < c
  cases e : FP.Core.val64 x with
  | nan => rw [e] at h; exact absurd h id
  | inf s => rw [e] at h; exact absurd h id
  | fin s c q =>
    rw [e] at h
    have h1 := FP.Core.whole_sign h (by omega)
    have h2 := FP.Core.whole_zero h
    have hs : s = false := by rw [h1]; simp; omega
    rw [hs]
    refine ⟨c, q, rfl, ?_⟩
    rcases Nat.eq_zero_or_pos c with z | z
    · have := h2.mp z; omega
    · exact z
/-- the guess lies within 0 .. 9999 -/
theorem guess_in {i j : Int} {x y : UInt64} (hx : FP.Core.DInt i x) (hy : FP.Core.DInt j y) (hi : 0 ≤ i) (hj : 0 < j) : vf_n64 (FP.ddiv x y) ∧ 0 ≤ (FP.d2i (Native.java_lang_Math.nans.pick64 false 4666722622711529472 (FP.ddiv x y))).toInt ∧ (FP.d2i (Native.java_lang_Math.nans.pick64 false 4666722622711529472 (FP.ddiv x y))).toInt ≤ 9999 := by
  obtain ⟨d, r, hd, hd0⟩ := dint_parts hy hj
  have key : ∃ s c q, FP.Core.val64 (FP.ddiv x y) = FP.Core.roundRatio FP.Core.b64 s c d q ∧ (c = 0 ∨ s = false) := by
    unfold FP.Core.DInt at hx
    have hv := FP.Core.val64_ddiv x y
    cases e : FP.Core.val64 x with
    | nan => rw [e] at hx; exact absurd hx id
    | inf s => rw [e] at hx; exact absurd hx id
    | fin s c q =>
      rw [e] at hx
      rw [e, show FP.Core.val64 y = .fin false d r from hd] at hv
      refine ⟨(s != false), c, q - r, ?_, ?_⟩
      · show FP.Core.val64 (FP.Core.ddiv x y) = _
        rw [hv]
        unfold FP.Core.quotient
        simp only []
        rw [if_neg (by omega)]
      · rcases Nat.eq_zero_or_pos c with z | z
        · exact Or.inl z
        · right
          have h2 := FP.Core.whole_zero hx
          have hne : i ≠ 0 := fun w => by have := h2.mpr w; omega
          have h1 := FP.Core.whole_sign hx hne
          rw [h1]; simp; omega
  obtain ⟨s, c, q, hq, hs⟩ := key
  have hnn := FP.Core.roundRatio_ne_nan FP.Core.b64 s c d q
  rw [← hq] at hnn
  refine ⟨n64_of hnn, ?_⟩
  have hz0 : 0 ≤ FP.Core.zval FP.Core.b64 (FP.Core.val64 (FP.ddiv x y)) := by
    unfold FP.Core.zval
    rw [hq, FP.Core.sgn_roundRatio]
    rcases hs with e | e
    · rw [e]
      unfold FP.Core.roundRatio
      rw [if_pos rfl]
      unfold FP.Core.zmag FP.Core.signed FP.Core.inUnits
      simp
    · rw [e]; unfold FP.Core.signed; simp
  have v99 : FP.Core.zval FP.Core.b64 (FP.Core.val64 4666722622711529472) = ((9999 : Nat) : Int) * (FP.Core.one64 : Int) := by decide +kernel
  have n99 : FP.Core.val64 4666722622711529472 ≠ .nan := by decide +kernel
  have fin : ∀ z : UInt64, FP.Core.val64 z ≠ .nan → 0 ≤ FP.Core.zval FP.Core.b64 (FP.Core.val64 z) → FP.Core.zval FP.Core.b64 (FP.Core.val64 z) ≤ ((9999 : Nat) : Int) * (FP.Core.one64 : Int) → 0 ≤ (FP.d2i z).toInt ∧ (FP.d2i z).toInt ≤ 9999 := by
    intro z h1 h2 h3
    have hd := FP.Core.d2i_val h1
    have h1p : 0 < FP.Core.one64 := FP.Core.one64_pos
    unfold FP.Core.zval at h2 h3
    have hm : FP.Core.zmag FP.Core.b64 (FP.Core.val64 z) / FP.Core.one64 ≤ 9999 ∧ (FP.Core.sgn (FP.Core.val64 z) = true → FP.Core.zmag FP.Core.b64 (FP.Core.val64 z) / FP.Core.one64 = 0) := by
      unfold FP.Core.signed at h2 h3
      split at h2
      · have e0 : FP.Core.zmag FP.Core.b64 (FP.Core.val64 z) = 0 := by omega
        rw [e0, Nat.zero_div]; exact ⟨by omega, fun _ => rfl⟩
      · rename_i hs2
        rw [if_neg hs2] at h3
        have h4 : FP.Core.zmag FP.Core.b64 (FP.Core.val64 z) ≤ 9999 * FP.Core.one64 := by exact_mod_cast h3
        refine ⟨?_, fun e => absurd e hs2⟩
        have := Nat.div_le_div_right (c := FP.Core.one64) h4
        rwa [Nat.mul_div_cancel _ h1p] at this
    have hd' : (FP.d2i z).toInt = max (-2 ^ 31) (min (2 ^ 31 - 1) (FP.Core.signed (FP.Core.sgn (FP.Core.val64 z)) (FP.Core.zmag FP.Core.b64 (FP.Core.val64 z) / FP.Core.one64))) := hd
    rw [hd']
    unfold FP.Core.signed
    generalize FP.Core.zmag FP.Core.b64 (FP.Core.val64 z) / FP.Core.one64 = u at hm ⊢
    split
    · rename_i e
      rw [hm.2 e]; decide
    · omega
  have hc := FP.Core.dcmp_zval n99 hnn
  have hc' : FP.dcmp 4666722622711529472 (FP.ddiv x y) = some (compare (FP.Core.zval FP.Core.b64 (FP.Core.val64 4666722622711529472)) (FP.Core.zval FP.Core.b64 (FP.Core.val64 (FP.ddiv x y)))) := hc
  have one0 : (0 : Int) ≤ ((9999 : Nat) : Int) * (FP.Core.one64 : Int) := Int.mul_nonneg (by decide) (by omega)
  have f99 := fin 4666722622711529472 n99 (by rw [v99]; exact one0) (by rw [v99]; exact Int.le_refl _)
  unfold Native.java_lang_Math.nans.pick64
  rw [hc', v99]
  generalize hT : ((9999 : Nat) : Int) * (FP.Core.one64 : Int) = T at *
  rcases Int.lt_or_le T (FP.Core.zval FP.Core.b64 (FP.Core.val64 (FP.ddiv x y))) with g | g
  · rw [show compare T (FP.Core.zval FP.Core.b64 (FP.Core.val64 (FP.ddiv x y))) = .lt from cmp_lt g]
    exact f99
  · have fz := fin (FP.ddiv x y) hnn hz0 g
    rcases Int.lt_or_eq_of_le g with g2 | g2
    · rw [show compare T (FP.Core.zval FP.Core.b64 (FP.Core.val64 (FP.ddiv x y))) = .gt from cmp_gt g2]
      exact fz
    · rw [show compare T (FP.Core.zval FP.Core.b64 (FP.Core.val64 (FP.ddiv x y))) = .eq from by rw [g2]; exact FP.Core.compare_self_int T]
      simp only []
      split
      · exact fz
      · exact f99
/-! LONG DIVISION: right whatever the guesses are -/
theorem rv_zero {f : Nat → Int} {x y : Nat} (hxy : x ≤ y) (h : ∀ i, x ≤ i → i < y → f i = 0) : rv f y = rv f x := by
  obtain ⟨d, rfl⟩ : ∃ d, y = x + d := ⟨y - x, by omega⟩
  induction d with
  | zero => rfl
  | succ d ih =>
    rw [show x + (d + 1) = (x + d) + 1 by omega, rv_s, h (x + d) (by omega) (by omega), ih (by omega) (fun i h1 h2 => h i h1 (by omega))]
    omega
theorem rv_topz {f : Nat → Int} {s : Nat} (h : dgt f (s + 1)) (hv : rv f (s + 1) < 10000 ^ s) : f s = 0 ∧ rv f s = rv f (s + 1) := by
  have e : f s = 0 := Classical.byContradiction (fun z => by have := rv_top h z; omega)
  exact ⟨e, by rw [rv_s, e]; omega⟩
theorem sp_divideRows {G : xG} {l : Launch} {n : Nat} {h : xH} {a b m m' s t : Nat} {q A B : Int} {Po : Int → xH → Prop} (ta : isT n h a m s A) (tb : isT n h b m' t B) (hab : a ≠ b) (hts : t ≤ s) (hB : 0 < B) (hsm : s < m) (htop : (h a).2.2 s = 0) (hq : q < 0 ∨ (0 ≤ q ∧ q.toNat ≠ a ∧ q.toNat ≠ b ∧ ∃ mq, tyR n h q.toNat mq ∧ s - t < mq))
    (hp : ∀ (h' : xH) (r : Nat), hE (fun i => i = a ∨ (0 ≤ q ∧ i = q.toNat)) h h' → isT n h' a m r (A % B) → r ≤ t → (0 ≤ q → dgt (h' q.toNat).2.2 (s - t + 1) ∧ rv (h' q.toNat).2.2 (s - t + 1) = A / B ∧ (∀ j, s - t < j → (h' q.toNat).2.2 j = (h q.toNat).2.2 j)) → Po r h') : S_X9_divideRows G l a s b t q n h Po := by
  refine S_X9_divideRows_of (fun k hl C E => ?_)
  obtain ⟨ya, hsm1, hda, hva, hta⟩ := ta
  have ta : isT n h a m s A := ⟨ya, hsm1, hda, hva, hta⟩
  have hm := ya.2.2.2
  have hm' := tb.1.2.2.2
  have htm := tb.2.1
  have ht0 : 0 < t := tb.pos.mp hB
  have hvb := tb.2.2.2.1
  have vb := tb.val
  have va := ta.val
  have db1 := tb.2.2.1 (t - 1) (by omega)
  have dtop := tb.2.2.2.2 (t - 1) (by omega)
  let S : Nat → Prop := fun i => i = a ∨ (0 ≤ q ∧ i = q.toNat)
  have hSb : ¬ S b := by
    rintro (z | z)
    · exact hab z.symm
    · rcases hq with y | y
      · omega
      · exact y.2.2.1 z.2.symm
  have hBT : B < 10000 ^ t := vb.2.1
  have hBT1 : 10000 ^ (t - 1) ≤ B := vb.2.2.2 (t - 1) (by omega)
  -- the main loop
  have main : ∀ (low : UInt64) (jl : Int), FP.Core.DInt jl low → 0 < jl → ∀ (u : Nat) (h1 : xH), u ≤ s - t + 1 → hE S h h1 → dgt (h1 a).2.2 (s + 1) → (∀ j, u + t ≤ j → j < s + 1 → (h1 a).2.2 j = 0) → (∀ j, j < u → (h1 a).2.2 j = (h a).2.2 j) →
      rv (wn h1 a u) t < B → (0 ≤ q → dgt (wn h1 q.toNat u) (s - t + 1 - u) ∧ (∀ j, s - t < j → (h1 q.toNat).2.2 j = (h q.toNat).2.2 j)) →
      (∃ Q : Int, rv (wn h a u) (s + 1 - u) = Q * B + rv (wn h1 a u) t ∧ (0 ≤ q → Q = rv (wn h1 q.toNat u) (s - t + 1 - u))) → X9_divideRows_w33 G k a s b t q low ((u : Int) - 1) n h1 := by
    intro low jl hlow hjl u
    induction u with
    | zero =>
      intro h1 hu e1 hd1 hz hk hlt hq1 hQ
      obtain ⟨Q, hQ1, hQ2⟩ := hQ
      have e0 : wn h a 0 = (h a).2.2 := by funext i; show (h a).2.2 (0 + i) = _; rw [Nat.zero_add]
      have e01 : wn h1 a 0 = (h1 a).2.2 := by funext i; show (h1 a).2.2 (0 + i) = _; rw [Nat.zero_add]
      rw [e0, e01] at hQ1
      rw [e01] at hlt
      simp only [Nat.sub_zero] at hQ1 hQ2
      rw [rv_s, htop, Int.zero_mul, Int.add_zero, hva] at hQ1
      refine X9_divideRows_b33 C E a s b t q low _ n h1 rfl ⟨rgS (by omega) (by omega), fun _ => sp_min (rg_nat (by omega)) (rg_nat (by omega)) ?_, fun g => by omega⟩
      rw [show min (s : Int) (t : Int) = (t : Int) by omega]
      have yb := ya.mv e1
      refine sp_used t yb (by omega) (hd1.le (by omega)) (fun r hr tr _ => ?_)
      have hnn := (rv_bd (hd1.le (t := t) (by omega))).1
      have hmod : A % B = rv (h1 a).2.2 t := by
        rw [hQ1, Int.add_comm, Int.add_mul_emod_self_right, Int.emod_eq_of_lt hnn hlt]
      have hdiv : A / B = Q := by
        rw [hQ1, Int.add_comm, Int.add_mul_ediv_right _ _ (by omega), Int.ediv_eq_zero_of_lt hnn hlt, Int.zero_add]
      rw [← hmod] at tr
      refine hp h1 r e1 tr hr (fun hq0 => ?_)
      have eq0 : wn h1 q.toNat 0 = (h1 q.toNat).2.2 := by funext i; show (h1 q.toNat).2.2 (0 + i) = _; rw [Nat.zero_add]
      have hh := hq1 hq0
      have hh2 := hQ2 hq0
      rw [eq0] at hh hh2
      simp only [Nat.sub_zero] at hh
      exact ⟨hh.1, by rw [hdiv]; exact hh2.symm, hh.2⟩
    | succ u ih =>
      intro h1 hu e1 hd1 hz hk hlt hq1 hQ
      obtain ⟨Q, hQ1, hQ2⟩ := hQ
      have hust : u + t ≤ s := by omega
      have y1 := ya.mv e1
      have yb1 := tb.1.mv e1
      have eb : (h1 b).2.2 = (h b).2.2 := (e1 b).2.2 hSb
      have hdb1 : dgt (h1 b).2.2 t := by rw [eb]; exact tb.2.2.1
      have hvb1 : rv (h1 b).2.2 t = B := by rw [eb]; exact hvb
      have hdw : dgt (wn h1 a u) (t + 1) := fun i hi => hd1 (u + i) (by omega)
      have hR := rv_bd (f := wn h1 a (u + 1)) (s := t) (fun i hi => hd1 (u + 1 + i) (by omega))
      have hW : rv (wn h1 a u) (t + 1) = (h1 a).2.2 u + 10000 * rv (wn h1 a (u + 1)) t := rv_shift (h1 a).2.2 u t
      have hau := hd1 u (by omega)
      have hW0 : 0 ≤ rv (wn h1 a u) (t + 1) := (rv_bd hdw).1
      have hWB : rv (wn h1 a u) (t + 1) < 10000 * B := by omega
      -- behind a digit
      have store : ∀ (g V : Int) (h6 : xH), hE (sC a) h1 h6 → (∀ j, j < u ∨ u + t < j → (h6 a).2.2 j = (h1 a).2.2 j) → dgt (wn h6 a u) (t + 1) → rv (wn h6 a u) (t + 1) = V → rv (wn h1 a u) (t + 1) = g * B + V → 0 ≤ V → V < B → 0 ≤ g → g ≤ 9999 → ((q < 0 → X9_divideRows_w198 G k a s b t q low u n h6) ∧ (¬ q < 0 → 0 ≤ q ∧ okA n h6 q.toNat 100 u ∧ (∀ h8 : xH, h8 = hS h6 q.toNat ((u : Int).toNat) g → X9_divideRows_w198 G k a s b t q low u n h8))) := by
        intro g V h6 e6 hk6 hd6 hv6 hgV hV0 hVB hg0 hg1
        obtain ⟨tz, tz2⟩ := rv_topz hd6 (by rw [hv6]; omega)
        rw [hv6] at tz2
        have e16 : hE S h1 h6 := e6.mono (fun i hi => Or.inl hi)
        have gen : ∀ h7 : xH, hE S h1 h7 → (h7 a).2.2 = (h6 a).2.2 → (0 ≤ q → dgt (wn h7 q.toNat u) (s - t + 1 - u) ∧ (∀ j, s - t < j → (h7 q.toNat).2.2 j = (h1 q.toNat).2.2 j) ∧ rv (wn h7 q.toNat u) (s - t + 1 - u) = 10000 * rv (wn h1 q.toNat (u + 1)) (s - t + 1 - (u + 1)) + g) → X9_divideRows_w198 G k a s b t q low u n h7 := by
          intro h7 e7 ea7 hq7
          refine X9_divideRows_b198 C E a s b t q low u n h7 rfl ?_
          rw [show (u : Int) + (-1) = (u : Int) - 1 by omega]
          have ew : wn h7 a u = wn h6 a u := by unfold wn; rw [ea7]
          refine ih h7 (by omega) (e1.tr e7) (fun j hj => ?_) (fun j z1 z2 => ?_) (fun j hj => ?_) (by rw [ew, tz2]; exact hVB) (fun hq0 => ⟨(hq7 hq0).1, fun j hj => by rw [(hq7 hq0).2.1 j hj]; exact (hq1 hq0).2 j hj⟩) ⟨10000 * Q + g, ?_, fun hq0 => ?_⟩
          · rw [ea7]
            rcases Classical.em (j < u ∨ u + t < j) with z | z
            · rw [hk6 j z]; exact hd1 j hj
            · have := hd6 (j - u) (by omega)
              have e2 : wn h6 a u (j - u) = (h6 a).2.2 j := by show (h6 a).2.2 (u + (j - u)) = _; rw [show u + (j - u) = j by omega]
              rwa [e2] at this
          · rw [ea7]
            rcases Nat.lt_or_ge (u + t) j with z | z
            · rw [hk6 j (Or.inr z)]; exact hz j (by omega) z2
            · have : j = u + t := by omega
              rw [this]; exact tz
          · rw [ea7, hk6 j (Or.inl hj)]; exact hk j (by omega)
          · rw [ew, tz2, show s + 1 - u = (s + 1 - (u + 1)) + 1 by omega]
            show rv (fun i => (h a).2.2 (u + i)) _ = _
            rw [rv_shift]
            have hQ1' : rv (fun i => (h a).2.2 (u + 1 + i)) (s + 1 - (u + 1)) = Q * B + rv (wn h1 a (u + 1)) t := hQ1
            rw [hQ1', ← hk u (by omega)]
            rw [hW] at hgV
            have : (10000 * Q + g) * B = 10000 * (Q * B) + g * B := by rw [Int.add_mul, Int.mul_assoc]
            omega
          · rw [(hq7 hq0).2.2, hQ2 hq0]
        refine ⟨fun z => gen h6 e16 rfl (fun z2 => by omega), fun z => ?_⟩
        rcases hq with z2 | ⟨z2, z3, z4, mq, ymq, hmq⟩
        · omega
        · have y6 := (ymq.mv e1).mv e6
          refine ⟨z2, y6.at (by omega) (by omega), fun h8 e8 => ?_⟩
          rw [Int.toNat_natCast] at e8
          have e68 : hE S h6 h8 := hE.put' (S := S) e8 (Or.inr ⟨z2, rfl⟩)
          have eq6 : (h6 q.toNat).2.2 = (h1 q.toNat).2.2 := (e6 q.toNat).2.2 z3
          have hg8 : ∀ j, (h8 q.toNat).2.2 j = if j = u then g else (h1 q.toNat).2.2 j := fun j => by rw [e8, hS_g, eq6]; simp
          refine gen h8 (e16.tr e68) (by rw [e8, hS_ne _ _ _ (fun z => z3 z.symm)]) (fun _ => ⟨fun j hj => ?_, fun j hj => by rw [hg8, if_neg (by omega)], ?_⟩)
          · show 0 ≤ (h8 q.toNat).2.2 (u + j) ∧ (h8 q.toNat).2.2 (u + j) ≤ 9999
            rw [hg8]
            split
            · exact ⟨hg0, hg1⟩
            · have := (hq1 z2).1 (j - 1) (by omega)
              have e2 : wn h1 q.toNat (u + 1) (j - 1) = (h1 q.toNat).2.2 (u + j) := by show (h1 q.toNat).2.2 (u + 1 + (j - 1)) = _; rw [show u + 1 + (j - 1) = u + j by omega]
              rwa [e2] at this
          · rw [show s - t + 1 - u = (s - t + 1 - (u + 1)) + 1 by omega]
            show rv (fun i => (h8 q.toNat).2.2 (u + i)) _ = _
            rw [rv_shift, hg8, if_pos rfl, rv_congr (f := fun i => (h8 q.toNat).2.2 (u + 1 + i)) (g := wn h1 q.toNat (u + 1)) (fun i hi => by show (h8 q.toNat).2.2 (u + 1 + i) = _; rw [hg8, if_neg (by omega)])]
            omega
      -- too little taken away
      have w158 : ∀ (f : Nat) (g V : Int) (h6 : xH), hE (sC a) h1 h6 → (∀ j, j < u ∨ u + t < j → (h6 a).2.2 j = (h1 a).2.2 j) → dgt (wn h6 a u) (t + 1) → rv (wn h6 a u) (t + 1) = V → rv (wn h1 a u) (t + 1) = g * B + V → 0 ≤ V → 0 ≤ g → V < (f : Int) * B + B → X9_divideRows_w158 G k a s b t q low u g n h6 := by
        intro f
        induction f with
        | zero =>
          intro g V h6 e6 hk6 hd6 hv6 hgV hV0 hg0 hf
          have hVB : V < B := by rw [show ((0 : Nat) : Int) * B = 0 from Int.zero_mul B] at hf; omega
          have hg9 : g ≤ 9999 := by
            rcases Int.lt_or_le 9999 g with z | z
            · have := Int.mul_le_mul_of_nonneg_right (show (10000 : Int) ≤ g by omega) (Int.le_of_lt hB)
              omega
            · exact z
          refine X9_divideRows_b158 C E a s b t q low u g n h6 rfl (sp_isAtLeast (y1.mv e6) (yb1.mv e6) (by omega) (by omega) hd6 (by rw [(e6 b).2.2 (fun z => hab z.symm)]; exact hdb1) ?_)
          rw [(e6 b).2.2 (fun z => hab z.symm), hvb1, hv6, if_neg (by omega)]
          exact ⟨rgS (by decide) (by decide), fun _ => store g V h6 e6 hk6 hd6 hv6 hgV hV0 hVB hg0 hg9, fun z => absurd rfl z⟩
        | succ f ihf =>
          intro g V h6 e6 hk6 hd6 hv6 hgV hV0 hg0 hf
          rcases Int.lt_or_le V B with z | z
          · exact ihf g V h6 e6 hk6 hd6 hv6 hgV hV0 hg0 (by have := Int.mul_nonneg (show (0 : Int) ≤ (f : Int) by omega) (Int.le_of_lt hB); omega)
          · have eb6 : (h6 b).2.2 = (h1 b).2.2 := (e6 b).2.2 (fun z => hab z.symm)
            refine X9_divideRows_b158 C E a s b t q low u g n h6 rfl (sp_isAtLeast (y1.mv e6) (yb1.mv e6) (by omega) (by omega) hd6 (by rw [eb6]; exact hdb1) ?_)
            rw [eb6, hvb1, hv6, if_pos z]
            refine ⟨rgS (by decide) (by decide), fun z => by omega, fun _ => sp_takeAway (y1.mv e6) (yb1.mv e6) hab (by omega) (by omega) hd6 (by rw [eb6]; exact hdb1) (by decide) (by decide) (fun z7 h7 e7 hk7 hd7 hv7 => ?_)⟩
            rw [eb6, hvb1, hv6, Int.one_mul] at hv7
            have hv7' : rv (wn h7 a u) (t + 1) = V - B := by omega
            refine ihf (g + 1) (V - B) h7 (e6.tr e7) (fun j hj => by rw [hk7 j hj]; exact hk6 j hj) hd7 hv7' (by rw [Int.add_mul, Int.one_mul]; omega) (by omega) (by omega) ?_
            rw [show ((f + 1 : Nat) : Int) * B = (f : Int) * B + B by rw [show ((f + 1 : Nat) : Int) = (f : Int) + 1 by omega, Int.add_mul, Int.one_mul]] at hf
            omega
      -- too much taken away
      have w113 : ∀ (g : Nat) (V z : Int) (h6 : xH), hE (sC a) h1 h6 → (∀ j, j < u ∨ u + t < j → (h6 a).2.2 j = (h1 a).2.2 j) → dgt (wn h6 a u) (t + 1) → rv (wn h1 a u) (t + 1) = (g : Int) * B + V → (z = 1 ∧ 0 ≤ V ∧ rv (wn h6 a u) (t + 1) = V ∨ z = 0 ∧ V < 0 ∧ rv (wn h6 a u) (t + 1) = V + 10000 ^ (t + 1)) → X9_divideRows_w113 G k a s b t q low u g z n h6 := by
        intro g
        induction g with
        | zero =>
          intro V z h6 e6 hk6 hd6 hgV hz6
          rw [show ((0 : Nat) : Int) * B = 0 from Int.zero_mul B, Int.zero_add] at hgV
          rcases hz6 with ⟨z1, z2, z3⟩ | ⟨z1, z2, z3⟩
          · refine X9_divideRows_b113 C E a s b t q low u 0 z n h6 rfl ⟨by rw [z1]; exact rgS (by decide) (by decide), fun _ => w158 9999 0 V h6 e6 hk6 hd6 z3 (by rw [Int.zero_mul, Int.zero_add]; exact hgV) z2 (by decide) (by omega), fun y => by omega⟩
          · omega
        | succ g ihg =>
          intro V z h6 e6 hk6 hd6 hgV hz6
          rcases hz6 with ⟨z1, z2, z3⟩ | ⟨z1, z2, z3⟩
          · have : 0 ≤ ((g + 1 : Nat) : Int) * B := Int.mul_nonneg (by omega) (Int.le_of_lt hB)
            refine X9_divideRows_b113 C E a s b t q low u _ z n h6 rfl ⟨by rw [z1]; exact rgS (by decide) (by decide), fun _ => w158 9999 _ V h6 e6 hk6 hd6 z3 hgV z2 (by omega) (by omega), fun y => by omega⟩
          · have eb6 : (h6 b).2.2 = (h1 b).2.2 := (e6 b).2.2 (fun z => hab z.symm)
            have y6 := y1.mv e6
            have oka := y6.at (i := (u : Int) + t) (by omega) (by omega)
            refine X9_divideRows_b113 C E a s b t q low u _ z n h6 rfl ⟨by rw [z1]; exact rgS (by decide) (by decide), fun y => absurd z1 y, fun _ => ⟨oka, sp_putBack y6 (yb1.mv e6) hab (by omega) (by omega) hd6 (by rw [eb6]; exact hdb1) (fun h7 e7 hk7 hd7 hv7 => ?_)⟩⟩
            rw [eb6, hvb1, z3] at hv7
            have hd6t : 0 ≤ (h6 a).2.2 (u + t) ∧ (h6 a).2.2 (u + t) ≤ 9999 := hd6 t (by omega)
            have hd7t : 0 ≤ (h7 a).2.2 (u + t) ∧ (h7 a).2.2 (u + t) ≤ 9999 := hd7 t (by omega)
            have b7 := rv_bd hd7
            have hgV' : rv (wn h1 a u) (t + 1) = (g : Int) * B + (V + B) := by
              rw [hgV, show ((g + 1 : Nat) : Int) = (g : Int) + 1 by omega, Int.add_mul, Int.one_mul]; omega
            have oka7 := (y6.mv e7).at (i := (u : Int) + t) (by omega) (by omega)
            have r6 : rg (hG h6 a (u + t)) := rgS (by show _ ≤ (h6 a).2.2 (u + t); omega) (by show (h6 a).2.2 (u + t) ≤ _; omega)
            have r7 : rg (hG h7 a (u + t)) := rgS (by show _ ≤ (h7 a).2.2 (u + t); omega) (by show (h7 a).2.2 (u + t) ≤ _; omega)
            rw [show ((u : Int) + t).toNat = u + t by omega, show ((g + 1 : Nat) : Int) + (-1) = (g : Int) by omega]
            have e67 := e6.tr e7
            have hk67 : ∀ j, j < u ∨ u + t < j → (h7 a).2.2 j = (h1 a).2.2 j := fun j hj => by rw [hk7 j hj]; exact hk6 j hj
            refine ⟨oka7, ⟨r6, r7⟩, fun y => X9_divideRows_b153 C E a s b t q low u g 0 n h7 rfl (ihg (V + B) 0 h7 e67 hk67 hd7 hgV' (Or.inr ⟨rfl, ?_⟩)), fun y => X9_divideRows_b153 C E a s b t q low u g 1 n h7 rfl (ihg (V + B) 1 h7 e67 hk67 hd7 hgV' (Or.inl ⟨rfl, ?_⟩))⟩
            · have y' : (h6 a).2.2 (u + t) ≤ (h7 a).2.2 (u + t) := y
              omega
            · have y' : ¬ (h6 a).2.2 (u + t) ≤ (h7 a).2.2 (u + t) := y
              omega
      -- the guess
      have d0 := hd1 (u + t) (by omega)
      have d1 := hd1 (u + t - 1) (by omega)
      have g0 : hG h1 a (u + t) = (h1 a).2.2 (u + t) := rfl
      have ok0 := y1.at (i := (u : Int) + t) (by omega) (by omega)
      have ok1 := y1.at (i := (u : Int) + t - 1) (by omega) (by omega)
      have i0 := dint_i (z := (h1 a).2.2 (u + t)) (rgS (by omega) (by omega))
      have i1 := dint_i (z := (h1 a).2.2 (u + t - 1)) (rgS (by omega) (by omega))
      have p0 := FP.Core.dmul_int i0 dint_k (by omega)
      have p1 := FP.Core.dadd_int p0 i1 (by omega)
      have p2 := FP.Core.dmul_int p1 dint_k (by omega)
      have w83 : ∀ d2 : Int, 0 ≤ d2 → d2 ≤ 9999 → X9_divideRows_w83 G k a s b t q low u d2 (FP.dmul (FP.dadd (FP.dmul (FP.i2d (iz ((h1 a).2.2 (u + t)))) 4666723172467343360) (FP.i2d (iz ((h1 a).2.2 (u + t - 1))))) 4666723172467343360) n h1 := by
        intro d2 z0 z1
        have i2 := dint_i (z := d2) (rgS (by omega) (by omega))
        have p3 := FP.Core.dadd_int p2 i2 (by omega)
        obtain ⟨q1, q2, q3⟩ := guess_in p3 hlow (by omega) hjl
        have n99 : vf_n64 4666722622711529472 := by unfold vf_n64; decide
        refine X9_divideRows_b83 C E a s b t q low u d2 _ n h1 rfl ⟨dint_n64 p3, q1, ⟨n99, q1⟩, fun y hy => ?_⟩
        have hy' : 0 ≤ y ∧ y ≤ 9999 := by rw [hy]; exact ⟨q2, q3⟩
        refine sp_takeAway y1 yb1 hab (by omega) (by omega) hdw hdb1 hy'.1 hy'.2 (fun z6 h6 e6 hk6 hd6 hv6 => ?_)
        rw [hvb1] at hv6
        obtain ⟨gn, hgn⟩ : ∃ gn : Nat, y = (gn : Int) := ⟨y.toNat, by omega⟩
        rw [hgn] at hv6 ⊢
        exact w113 gn (rv (wn h1 a u) (t + 1) - (gn : Int) * B) z6 h6 e6 hk6 hd6 (by omega) hv6
      refine X9_divideRows_b33 C E a s b t q low _ n h1 rfl ⟨rgS (by omega) (by omega), fun g => by omega, fun _ => ?_⟩
      rw [show ((u + 1 : Nat) : Int) - 1 = (u : Int) by omega, show ((u : Int) + t).toNat = u + t by omega, show ((u : Int) + t - 1).toNat = u + t - 1 by omega]
      refine ⟨ok0, dint_n64 p0, ok1, dint_n64 p1, dint_n64 p2, ⟨rgS (by omega) (by omega), rgS (by decide) (by decide)⟩, fun _ => w83 0 (by decide) (by decide), fun z => ⟨y1.at (by omega) (by omega), w83 _ ?_ ?_⟩⟩
      · have := hd1 ((u : Int) + t - 2).toNat (by omega)
        exact this.1
      · have := hd1 ((u : Int) + t - 2).toNat (by omega)
        exact this.2
  -- the start
  have hA1 : dgt (h a).2.2 (s + 1) := fun j hj => by
    rcases Nat.lt_or_ge j s with z | z
    · exact hda j z
    · have : j = s := by omega
      rw [this, htop]; decide
  have okb1 := tb.1.at (i := (t : Int) - 1) (by omega) (by omega)
  have i0 := dint_i (z := (h b).2.2 (t - 1)) (rgS (by omega) (by omega))
  have p0 := FP.Core.dmul_int i0 dint_k (by omega)
  have w24 : ∀ d2 : Int, 0 ≤ d2 → d2 ≤ 9999 → X9_divideRows_w24 G k a s b t q d2 (FP.dmul (FP.i2d (iz ((h b).2.2 (t - 1)))) 4666723172467343360) n h := by
    intro d2 z0 z1
    have i2 := dint_i (z := d2) (rgS (by omega) (by omega))
    have p3 := FP.Core.dadd_int p0 i2 (by omega)
    refine X9_divideRows_b24 C E a s b t q d2 _ n h rfl ⟨dint_n64 p3, ?_⟩
    rw [show (s : Int) - t = ((s - t + 1 : Nat) : Int) - 1 by omega]
    refine main _ _ p3 (by omega) (s - t + 1) h (Nat.le_refl _) hE.rf hA1 (fun j z2 z3 => by omega) (fun _ _ => rfl) ?_ (fun _ => ⟨fun i hi => by omega, fun _ _ => rfl⟩) ⟨0, ?_, fun _ => ?_⟩
    · obtain ⟨t', rfl⟩ : ∃ t', t = t' + 1 := ⟨t - 1, by omega⟩
      have hd' : dgt (wn h a (s - (t' + 1) + 1)) (t' + 1) := fun i hi => hA1 _ (by omega)
      have e2 : wn h a (s - (t' + 1) + 1) t' = 0 := by
        show (h a).2.2 (s - (t' + 1) + 1 + t') = 0
        rw [show s - (t' + 1) + 1 + t' = s by omega]; exact htop
      have := (rv_bd (hd'.le (t := t') (by omega))).2
      rw [rv_s, e2, Int.zero_mul, Int.add_zero]
      simp only [Nat.add_sub_cancel] at hBT1
      omega
    · rw [show s + 1 - (s - t + 1) = t by omega]; omega
    · rw [show s - t + 1 - (s - t + 1) = 0 by omega]; rfl
  refine X9_divideRows_b0 C E a s b t q n h rfl ⟨okb1, ?_⟩
  rw [show ((t : Int) - 1).toNat = t - 1 by omega]
  refine ⟨dint_n64 p0, ⟨rgS (by omega) (by omega), rgS (by decide) (by decide)⟩, fun _ => w24 0 (by decide) (by decide), fun z => ⟨tb.1.at (by omega) (by omega), w24 _ ?_ ?_⟩⟩
  · have := tb.2.2.1 ((t : Int) - 2).toNat (by omega)
    exact this.1
  · have := tb.2.2.1 ((t : Int) - 2).toNat (by omega)
    exact this.2
