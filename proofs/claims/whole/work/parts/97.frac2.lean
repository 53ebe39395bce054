/-! THE MODEL: fractions in lowest terms, parts, signs -/
/-- an exact number of the model: sign, numerator, denominator -/
def isEx (n : Nat) (h : xH) (z : Nat) (sg v w : Int) : Prop := (w = 1 ∧ ∃ r s, isWh n h z r s sg v) ∨ (1 < w ∧ 0 < v ∧ z < n ∧ 47 < z ∧ (h z).1 = 5 ∧ ∃ za ra sa zb rb sb : Nat, (h z).2.2 0 = (za : Int) ∧ (h z).2.2 1 = (zb : Int) ∧ isWh n h za ra sa sg v ∧ isWh n h zb rb sb 1 w)
theorem isEx.fr {n m' : Nat} {h h' : xH} {S : Nat → Prop} {z : Nat} {sg v w : Int} (t : isEx n h z sg v w) (e : hF S n h h') (hn : n ≤ m') (hs : ∀ i, 47 < i → ¬ S i) : isEx m' h' z sg v w := by
  rcases t with ⟨t1, r, s, t2⟩ | ⟨t1, t2, t3, t4, t5, za, ra, sa, zb, rb, sb, t6, t7, t8, t9⟩
  · exact Or.inl ⟨t1, r, s, t2.fr e hn (hs _ t2.2.1) (hs _ t2.2.2.1)⟩
  · have ee := e z t3
    have e0 := ee.2.2 (hs _ t4)
    exact Or.inr ⟨t1, t2, by omega, t4, by rw [ee.1]; exact t5, za, ra, sa, zb, rb, sb, by rw [e0]; exact t6, by rw [e0]; exact t7, t8.fr e hn (hs _ t8.2.1) (hs _ t8.2.2.1), t9.fr e hn (hs _ t9.2.1) (hs _ t9.2.2.1)⟩
theorem isEx.mv {n : Nat} {h h' : xH} {S : Nat → Prop} {z : Nat} {sg v w : Int} (t : isEx n h z sg v w) (e : hE S h h') (hs : ∀ i, 47 < i → ¬ S i) : isEx n h' z sg v w := t.fr e.f (Nat.le_refl _) hs
theorem low_div {A B : Nat} (hB : 0 < B) : lowR (A : Int) (B : Int) ((A / Nat.gcd A B : Nat) : Int) ((B / Nat.gcd A B : Nat) : Int) := by
  have hg : 0 < Nat.gcd A B := Nat.gcd_pos_of_pos_right A hB
  refine ⟨A / Nat.gcd A B, B / Nat.gcd A B, Nat.gcd A B, rfl, rfl, by rw [Nat.div_mul_cancel (Nat.gcd_dvd_left A B)], by rw [Nat.div_mul_cancel (Nat.gcd_dvd_right A B)], Nat.gcd_div_gcd_div_gcd_of_pos_right hB, ?_⟩
  exact Nat.div_pos (Nat.le_of_dvd hB (Nat.gcd_dvd_right A B)) hg
/-- what fraction and kept answer -/
def exR (n : Nat) (h : xH) (z : Int) (V W : Int) : Prop := (z = -1 ∧ (4096 < bl V ∨ 4096 < bl W)) ∨ (bl V ≤ 4096 ∧ bl W ≤ 4096 ∧ ∃ zn : Nat, z = (zn : Int) ∧ isEx n h zn (if V = 0 then 0 else 1) V W)
theorem sM_ok : ∀ i, 47 < i → ¬ sM i := fun i hi => by rintro (z | z) <;> omega
theorem sp_fraction {G : xG} {l : Launch} {n : Nat} {h : xH} {wl tl nm : Int} {a b m m' s t : Nat} {A B : Nat} {Po : Int → Nat → xH → Prop} (tm : isM n h wl tl nm) (ta : isT n h a m s (A : Int)) (tb : isT n h b m' t (B : Int)) (ha : a = 27 ∨ a = 29 ∨ 47 < a) (hb : b = 27 ∨ b = 29 ∨ 47 < b) (hs : s < 440) (ht : t < 440) (hB : 0 < B) (hp : ∀ h' n' z V W, hF sM n h h' → n ≤ n' → n' ≤ n + 5 → isM n' h' wl tl nm → lowR (A : Int) (B : Int) V W → exR n' h' z V W → Po z n' h') : S_X9_fraction G l 26 a s b t n h Po := by
  refine S_X9_fraction_of (fun k hl C E => ?_)
  have hn : 47 < n := tm.1.1
  have tp : 0 < t := tb.pos.mp (by omega)
  have db0 := tb.2.2.1 0 tp
  have rgb : rg (hG h b 0) := rgS (by show _ ≤ (h b).2.2 0; omega) (by show (h b).2.2 0 ≤ _; omega)
  have h28 : ∀ i : Nat, sC 28 i → sM i := fun i hi => by
    have : i = 28 := hi
    exact Or.inr ⟨by omega, by omega⟩
  have w127 : ∀ (h1 : xH) (V W : Int), hF sM n h h1 → isM n h1 wl tl nm → lowR (A : Int) (B : Int) V W → (4096 < bl V ∨ 4096 < bl W) → X9_fraction_w127 G k n h1 := fun h1 V W e1 tm1 hl hb => X9_fraction_b127 (n0 := 0) C E n h1 (hp h1 n (-1) V W e1 (Nat.le_refl _) (by omega) tm1 hl (Or.inl ⟨rfl, hb⟩))
  have w28 : 0 < A → X9_fraction_w28 G k 26 a s b t n h := by
    intro hA
    have hg : 0 < Nat.gcd A B := Nat.gcd_pos_of_pos_right A hB
    have hl0 := low_div (A := A) hB
    have hV0 : 0 < A / Nat.gcd A B := Nat.div_pos (Nat.le_of_dvd hA (Nat.gcd_dvd_left A B)) hg
    have hW0 : 0 < B / Nat.gcd A B := Nat.div_pos (Nat.le_of_dvd hB (Nat.gcd_dvd_right A B)) hg
    have hgA := Nat.le_of_dvd hA (Nat.gcd_dvd_left A B)
    have hgB := Nat.le_of_dvd hB (Nat.gcd_dvd_right A B)
    have hVA : A / Nat.gcd A B ≤ A := Nat.div_le_self _ _
    have hWB : B / Nat.gcd A B ≤ B := Nat.div_le_self _ _
    refine X9_fraction_b28 (n0 := 0) C E 26 a s b t n h ⟨tm.ok, sp_gcd tm ta tb (by omega) (by omega) hs ht hA (fun h1 x r e1 tm1 hx hcx tg => ?_)⟩
    have ta1 := ta.mv e1 (by omega)
    have tb1 := tb.mv e1 (by omega)
    have e1' : hE sM h h1 := e1.mono (fun i hi => by show _ ∨ _; omega)
    rw [tm1.g5]
    refine ⟨tm1.ok, by decide, tm1.ok, sp_reduced tm1 ta1 tg hx hcx (by show a ≠ 28 ∧ a ≠ 32; omega) (Or.inl rfl) hs (by omega) (by omega) (fun h2 r2 e2 t2 => ?_)⟩
    have e2x : hE (fun i => i = 28 ∨ i = 32) h1 h2 := e2
    have e2' : hE sM h1 h2 := e2x.mono (fun i hi => by show _ ∨ _; omega)
    have tm2 := tm1.mv e2x (by decide) (by decide)
    have tg2 := tg.mv e2x (by omega)
    have tb2 := tb1.mv e2x (by omega)
    have hcx2 : (h2 26).2.2 22 = (x : Int) := by rw [(e2x 26).2.2 (by decide)]; exact hcx
    rw [tm2.g6]
    refine ⟨tm2.ok, by decide, tm2.ok, sp_reduced tm2 tb2 tg2 hx hcx2 (by show b ≠ 28 ∧ b ≠ 33; omega) (Or.inr rfl) ht (by omega) (by omega) (fun h3 r3 e3 t3 => ?_)⟩
    have e3x : hE (fun i => i = 28 ∨ i = 33) h2 h3 := e3
    have e3' : hE sM h2 h3 := e3x.mono (fun i hi => by show _ ∨ _; omega)
    have tm3 := tm2.mv e3x (by decide) (by decide)
    have t23 : isT n h3 32 440 r2 ((A / Nat.gcd A B : Nat) : Int) := by
      have : isT n h2 32 440 r2 ((A : Int) / (Nat.gcd A B : Nat)) := t2
      have := this.mv e3x (by decide)
      rwa [show (A : Int) / ((Nat.gcd A B : Nat) : Int) = ((A / Nat.gcd A B : Nat) : Int) from (Int.natCast_ediv _ _).symm] at this
    have t33 : isT n h3 33 440 r3 ((B / Nat.gcd A B : Nat) : Int) := by
      have : isT n h3 33 440 r3 ((B : Int) / (Nat.gcd A B : Nat)) := t3
      rwa [show (B : Int) / ((Nat.gcd A B : Nat) : Int) = ((B / Nat.gcd A B : Nat) : Int) from (Int.natCast_ediv _ _).symm] at this
    have e03 : hE sM h h3 := (e1'.tr e2').tr e3'
    have hr2 := t23.2.1
    have hr3 := t33.2.1
    have hr30 : 0 < r3 := t33.pos.mp (by omega)
    have d3 := t33.2.2.1 0 hr30
    have b8 : ∀ {c r : Nat} {v : Int} {h : xH}, isT n h c 440 r v → 0 ≤ bl v ∧ bl v ≤ 8000 := by
      intro c r v h t
      refine ⟨by unfold bl; split <;> omega, ?_⟩
      have h1 := t.val.2.1
      have h2 := T_mono (a := r) (b := 440) t.2.1
      have h3 : (10000 : Int) ^ 440 ≤ 2 ^ 8000 := by decide +kernel
      have := bl_le (v := v) (t := 8000) (by omega)
      omega
    have w95 : ((B / Nat.gcd A B : Nat) : Int) ≠ 1 → X9_fraction_w95 G k 26 r2 r3 n h3 := by
      intro hne
      refine X9_fraction_b95 (n0 := 0) C E 26 r2 r3 n h3 ?_
      rw [tm3.g5]
      refine ⟨tm3.ok, by decide, tm3.ok, sp_bitsOf tm3 t23 (by decide) hr2 (fun h4 e4 => ?_)⟩
      have tm4 := tm3.mv e4 (by decide) (by decide)
      have t24 := t23.mv e4 (by decide)
      have t34 := t33.mv e4 (by decide)
      have e04 : hE sM h h4 := e03.tr (e4.mono h28)
      have b2 := b8 t23
      have b3 := b8 t33
      refine ⟨⟨rgS (by omega) (by omega), rgS (by decide) (by decide)⟩, fun g => w127 h4 _ _ e04.f tm4 hl0 (Or.inl g), fun g => ?_⟩
      rw [tm4.g6]
      refine ⟨tm4.ok, by decide, tm4.ok, sp_bitsOf tm4 t34 (by decide) hr3 (fun h5 e5 => ?_)⟩
      have tm5 := tm4.mv e5 (by decide) (by decide)
      have t25 := t24.mv e5 (by decide)
      have t35 := t34.mv e5 (by decide)
      have e05 : hE sM h h5 := e04.tr (e5.mono h28)
      refine ⟨⟨rgS (by omega) (by omega), rgS (by decide) (by decide)⟩, fun g2 => fun h6 e6 => ?_, fun g2 => w127 h5 _ _ e05.f tm5 hl0 (Or.inr (by omega))⟩
      have k6 : hK n h5 h6 := by rw [e6]; exact hK.nw
      have n6 : h6 n = (5, 0, xZ 5) := by rw [e6, hN_self]
      have tm6 : isM (n + 1) h6 wl tl nm := tm5.fr (S := fun _ => False) k6 (by omega) id id
      have t26 : isT (n + 1) h6 32 440 r2 _ := t25.fr (S := fun _ => False) k6 (by omega) id
      have t36 : isT (n + 1) h6 33 440 r3 _ := t35.fr (S := fun _ => False) k6 (by omega) id
      rw [tm6.g5]
      refine ⟨tm6.ok, by decide, sp_wholeOf (by omega) t26 hr2 (Or.inl rfl) (fun h7 za ra sa k7 hza hra w7 => ?_)⟩
      have tm7 : isM (n + 1 + 2) h7 wl tl nm := tm6.fr (S := fun _ => False) k7 (by omega) id id
      have t37 : isT (n + 1 + 2) h7 33 440 r3 _ := t36.fr (S := fun _ => False) k7 (by omega) id
      rw [tm7.g6]
      refine ⟨tm7.ok, by decide, sp_wholeOf (by omega) t37 hr3 (Or.inl rfl) (fun h8 zb rb sb k8 hzb hrb w8 => ?_)⟩
      have tm8 : isM (n + 1 + 2 + 2) h8 wl tl nm := tm7.fr (S := fun _ => False) k8 (by omega) id id
      have w78 : isWh (n + 1 + 2 + 2) h8 za ra sa _ _ := w7.fr (S := fun _ => False) k8 (by omega) id id
      have n8 : (h8 n).1 = 5 := by rw [(k8.eq (by omega)).1, (k7.eq (by omega)).1, n6]
      refine sp_initR ⟨by omega, n8⟩ (fun h9 e9 f0 f1 => hp h9 (n + 1 + 2 + 2) n _ _ ?_ (by omega) (by omega) (tm8.mv e9 (show ¬ 26 = n by omega) (show ¬ 27 = n by omega)) hl0 (Or.inr ⟨by omega, by omega, n, rfl, Or.inr ⟨by omega, by omega, by omega, hn, by rw [(e9 n).1]; exact n8, za, ra, sa, zb, rb, sb, f0, f1, ?_, ?_⟩⟩))
      · exact e05.f.tr (hK.f (((k6.tr k7 (by omega)).tr k8 (by omega)).tr (hK.sc (n := n) e9 (Nat.le_refl n)) (Nat.le_refl n))) (Nat.le_refl _)
      · exact w78.mv e9 (show ¬ za = n by omega) (show ¬ ra = n by omega)
      · have := w8.mv e9 (show ¬ zb = n by omega) (show ¬ rb = n by omega)
        rwa [if_neg (by omega)] at this
    have h1B := isT_one t33
    refine ⟨⟨rg_nat (by omega), rgS (by decide) (by decide)⟩, fun g => w95 (fun z => by have := (h1B.mp z).1; omega), fun g => ?_⟩
    rw [tm3.g6]
    refine ⟨tm3.ok, by decide, t33.1.at (by decide) (by decide), ⟨rgS (by show _ ≤ (h3 33).2.2 0; omega) (by show (h3 33).2.2 0 ≤ _; omega), rgS (by decide) (by decide)⟩, fun g2 => w95 (fun z => g2 (h1B.mp z).2), fun g2 => ?_⟩
    have hW1 := h1B.mpr ⟨by omega, g2⟩
    rw [tm3.g5]
    refine ⟨tm3.ok, by decide, tm3.ok, sp_kept hn tm3 t23 (by decide) hr2 (fun h' n' z e1 hn1 hn2 tm1 hz => hp h' n' z _ _ (e03.f.tr (e1.mono (fun i _ hi => h28 i hi)) (Nat.le_refl _)) hn1 (by omega) tm1 hl0 ?_)⟩
    rcases hz with ⟨z1, z2⟩ | ⟨z1, zn, r, s', z2, z3, z4, z5⟩
    · exact Or.inl ⟨z1, Or.inl z2⟩
    · exact Or.inr ⟨z1, by rw [hW1, bl1]; decide, zn, z2, Or.inl ⟨hW1, r, s', z5⟩⟩
  refine X9_fraction_b0 (n0 := 0) C E 26 a s b t n h ⟨rg_nat (by omega), fun g => ⟨⟨rg_nat (by omega), rgS (by decide) (by decide)⟩, fun g2 => w28 ?_, fun g2 => ⟨tb.1.at (by decide) (by have := tb.2.1; omega), ⟨rgb, rgS (by decide) (by decide)⟩, fun g3 => w28 ?_, fun g3 => ?_⟩⟩, fun g => ?_⟩
  · have := ta.pos.mpr (by omega); omega
  · have := ta.pos.mpr (by omega); omega
  · have hB1 : (B : Int) = 1 := (isT_one tb).mpr ⟨by omega, g3⟩
    have hB1' : B = 1 := by omega
    have hA : 0 < A := by have := ta.pos.mpr (by omega); omega
    refine ⟨tm.ok, sp_kept hn tm ta (by omega) (by omega) (fun h' n' z e1 hn1 hn2 tm1 hz => hp h' n' z (A : Int) 1 (e1.mono (fun i _ hi => h28 i hi)) hn1 (by omega) tm1 ?_ ?_)⟩
    · have := low_div (A := A) hB
      rw [hB1', Nat.gcd_one_right, Nat.div_one, Nat.div_one] at this
      rw [hB1']; exact this
    · rcases hz with ⟨z1, z2⟩ | ⟨z1, zn, r, s', z2, z3, z4, z5⟩
      · exact Or.inl ⟨z1, Or.inl z2⟩
      · exact Or.inr ⟨z1, by rw [bl1]; decide, zn, z2, Or.inl ⟨rfl, r, s', z5⟩⟩
  · have hA : A = 0 := by have := ta.val.2.2.1 (by omega); omega
    refine sp_zeroW hn (fun h' e tw => hp h' (n + 2) n 0 1 (hK.f e) (by omega) (by omega) (tm.fr (S := fun _ => False) e (by omega) id id) ?_ (Or.inr ⟨by decide, by rw [bl1]; decide, n, rfl, Or.inl ⟨rfl, n + 1, 0, tw⟩⟩))
    have := low_div (A := A) hB
    rw [hA, Nat.gcd_zero_left, Nat.zero_div, Nat.div_self hB] at this
    rw [hA]; exact this
