/-! THE NUMBER: becomeNearest -/
theorem pw2 (a b : Nat) : (2 : Int) ^ a * 2 ^ b = 2 ^ (a + b) := (Int.pow_add _ _ _).symm
theorem sp_nearest {G : xG} {l : Launch} {n : Nat} {h : xH} {kd mn un pl sg v w tw : Int} {Po : xH → Prop} (t : isD n h kd mn un pl) (hs : sg = 0 ∨ sg = 1) (qv : isN n h 6 v) (qw : isN n h 8 w) (hw : 0 < w) (hvb : v < 2 ^ 4200) (hwb : w < 2 ^ 4200) (ht0 : -3000 ≤ tw) (ht1 : tw ≤ 3000) (hp : ∀ h' e m v' w', hE (fun i => i = 0 ∨ sN 6 i ∨ sN 8 i) h h' → nrR (v * 2 ^ tw.toNat) (w * 2 ^ (-tw).toNat) e m → finD n h' sg m e → isN n h' 6 v' → isN n h' 8 w' → Po h') : S_X4_becomeNearest G l 0 sg tw n h Po := by
  refine S_X4_becomeNearest_of (fun k hl C E => X4_becomeNearest_b0 C E 0 sg tw n h rfl ?_)
  have w113 : ∀ h', Po h' → X4_becomeNearest_w113 G k n h' := fun h' y => X4_becomeNearest_b113 C E n h' rfl y
  have m0 : ∀ {h' : xH}, hE s0 h h' → hE (fun i => i = 0 ∨ sN 6 i ∨ sN 8 i) h h' := fun e => e.mono (fun i hi => Or.inl hi)
  have hwD : 0 < w * 2 ^ (-tw).toNat := Int.mul_pos hw (pw_pos _)
  have zer : 2 * (v * 2 ^ tw.toNat * 2 ^ 1074) < w * 2 ^ (-tw).toNat → ∀ h', hE s0 h h' → isD n h' 2 sg 0 (-1074) → Po h' := by
    intro hz h' e' t'
    have hv0 := qv.nn.1
    refine hp h' (-1074) 0 v w (m0 e') ⟨by decide, 0, v * 2 ^ tw.toNat * 2 ^ 1074, ?_, ?_, ?_, by decide, by decide, Or.inr rfl, Or.inr ⟨rfl, ?_⟩⟩ (Or.inl ⟨by decide, t'⟩) (qv.mv e' (by decide) (by decide)) (qw.mv e' (by decide) (by decide))
    · rw [show (-(-1074 : Int)).toNat = 1074 from rfl]; omega
    · exact Int.mul_nonneg (Int.mul_nonneg hv0 (Int.le_of_lt (pw_pos _))) (Int.le_of_lt (pw_pos _))
    · rw [show ((-1074 : Int)).toNat = 0 from rfl, Int.pow_zero, Int.mul_one]
      have := Int.mul_nonneg (Int.mul_nonneg hv0 (Int.le_of_lt (pw_pos tw.toNat))) (Int.le_of_lt (pw_pos 1074))
      omega
    · rw [show ((-1074 : Int)).toNat = 0 from rfl, Int.pow_zero, Int.mul_one]
      rintro (y | ⟨y, _⟩) <;> omega
  rw [t.f7]
  refine ⟨t.ok, by decide, qv.1.ok, sp_isZero qv ?_⟩
  by_cases gv : v = 0
  · rw [if_pos gv]
    refine ⟨rgS (by decide) (by decide), fun _ => X4_becomeNearest_b20 C E 0 sg n h rfl ⟨t.ok, sp_zero t hs (fun h1 e1 t1 => zer ?_ h1 e1 t1)⟩, fun y => absurd y (by decide)⟩
    rw [gv]; omega
  · rw [if_neg gv]
    refine ⟨rg0, fun y => absurd rfl y, fun _ => ?_⟩
    rw [t.f8]
    refine ⟨t.ok, by decide, qw.1.ok, sp_isZero qw ?_⟩
    rw [if_neg (by omega)]
    refine ⟨rg0, fun _ => ?_, fun y => absurd rfl y⟩
    have hv : 0 < v := by have := qv.nn.1; omega
    obtain ⟨a, ha, a1, a2⟩ := bl_pw hv
    obtain ⟨b, hb, b1, b2⟩ := bl_pw hw
    have ba := bl_le hvb
    have bb := bl_le hwb
    rw [t.f7]
    refine ⟨t.ok, by decide, qv.1.ok, sp_bitLength qv ?_⟩
    rw [t.f8]
    refine ⟨t.ok, by decide, qw.1.ok, sp_bitLength qw ?_⟩
    rw [ha, hb, show (a : Int) + 1 - ((b : Int) + 1) + tw = (a : Int) - b + tw by omega]
    generalize htop : (a : Int) - b + tw = top
    refine ⟨⟨rgS (by omega) (by omega), rgS (by decide) (by decide)⟩, fun g => ⟨⟨rgS (by omega) (by omega), rgS (by decide) (by decide)⟩, fun g2 => ?_, fun g2 => ⟨t.ok, sp_infinite t hs (fun h1 e1 t1 => w113 h1 ?_)⟩⟩, fun g => ⟨t.ok, sp_zero t hs (fun h1 e1 t1 => w113 h1 (zer ?_ h1 e1 t1))⟩⟩
    · refine sp_max (rgS (by omega) (by omega)) (rgS (by decide) (by decide)) ?_
      generalize hpl : max (top - 53) (-1074) = place
      refine ⟨t.ok, sp_align t qv qw hv hw hvb hwb (fun h1 e1 q1 r1 => ?_)⟩
      rw [ha, hb, show (b : Int) + 1 - ((a : Int) + 1) = (b : Int) - a by omega] at q1
      rw [ha, hb, show (a : Int) + 1 - ((b : Int) + 1) = (a : Int) - b by omega] at r1
      have t1 := t.mv e1 (by rintro ((y | y) | (y | y)) <;> omega)
      have he1 : hE (fun i => i = 0 ∨ sN 6 i ∨ sN 8 i) h h1 := e1.mono (fun i hi => Or.inr hi)
      obtain ⟨c, hc⟩ := ex_nat (show 0 ≤ top - place + 2 by omega)
      have hc55 : c ≤ 55 := by omega
      rw [hc]
      have Vlo : 2 ^ (a + ((b : Int) - a).toNat) ≤ v * 2 ^ ((b : Int) - a).toNat := by
        rw [← pw2]; exact Int.mul_le_mul_of_nonneg_right a1 (Int.le_of_lt (pw_pos _))
      have Vhi : v * 2 ^ ((b : Int) - a).toNat < 2 ^ (a + 1 + ((b : Int) - a).toNat) := by
        rw [← pw2]; exact Int.mul_lt_mul_of_pos_right a2 (pw_pos _)
      have Wlo : 2 ^ (b + ((a : Int) - b).toNat) ≤ w * 2 ^ ((a : Int) - b).toNat := by
        rw [← pw2]; exact Int.mul_le_mul_of_nonneg_right b1 (Int.le_of_lt (pw_pos _))
      have Whi : w * 2 ^ ((a : Int) - b).toNat < 2 ^ (b + 1 + ((a : Int) - b).toNat) := by
        rw [← pw2]; exact Int.mul_lt_mul_of_pos_right b2 (pw_pos _)
      have eM : a + ((b : Int) - a).toNat = b + ((a : Int) - b).toNat := by omega
      have eM2 : a + 1 + ((b : Int) - a).toNat = (b + ((a : Int) - b).toNat) + 1 := by omega
      have eM3 : b + 1 + ((a : Int) - b).toNat = (b + ((a : Int) - b).toNat) + 1 := by omega
      rw [eM] at Vlo
      rw [eM2, Int.pow_succ] at Vhi
      rw [eM3] at Whi
      have hWb : w * 2 ^ ((a : Int) - b).toNat < 2 ^ 4220 := by
        have := pw_mono (show (b + ((a : Int) - b).toNat) + 1 ≤ 4220 by omega)
        omega
      rw [Int.pow_succ] at Whi
      have WP : 0 < w * 2 ^ ((a : Int) - b).toNat := Int.mul_pos hw (pw_pos _)
      refine ⟨t1.ok, sp_quotient t1 q1 r1 (by omega) hWb (by omega) (fun h2 q vv e2 hq v0 v1 q0 q2 n2 => ?_)⟩
      have t2 := t1.mv e2 (by decide)
      have he2 := he1.tr (e2.mono (fun i hi => Or.inr (Or.inl hi)))
      have r2 : isN n h2 8 (w * 2 ^ ((a : Int) - b).toNat) := r1.mv e2 (by decide) (by decide)
      have p55 := pw_mono hc55
      have e55 : (2 : Int) ^ 55 = 36028797018963968 := by decide
      refine ⟨t2.ok, sp_rounded t2 hs n2 q0 (by omega) (by omega) (by omega) (fun h3 m x D e3 hx hm hf => w113 h3 ?_)⟩
      have he3 := he2.tr (e3.mono (fun i hi => Or.inl hi))
      have hx12 : x = 1 ∨ x = 2 := by omega
      refine hp h3 (place - 1 + x) m vv _ he3 ?_ hf (n2.mv e3 (by decide) (by decide)) (r2.mv e3 (by decide) (by decide))
      refine nr_of hwD WP hx hq v0 v1 q0 (by omega) (by omega) ?_ ?_ hm
      · rcases hx with ⟨y, _, _⟩ | ⟨y, _, _⟩
        · by_cases hpp : place = -1074
          · exact Or.inr (Or.inl ⟨y, by omega⟩)
          · left
            have hc5 : c = 55 := by omega
            rw [hc5, e55] at hq
            rcases Int.lt_or_le q 9007199254740992 with z | z
            · have h1 := Int.mul_le_mul_of_nonneg_left (show q ≤ 9007199254740991 by omega) (show 0 ≤ 2 * (w * 2 ^ ((a : Int) - b).toNat) by omega)
              omega
            · exact z
        · exact Or.inr (Or.inr y)
      · obtain ⟨X, hX, hD2⟩ : ∃ X : Nat, x = (X : Int) ∧ D = 2 ^ X := by
          rcases hx with ⟨y, z, _⟩ | ⟨y, z, _⟩
          · exact ⟨1, y, z⟩
          · exact ⟨2, y, z⟩
        rw [hD2]
        have l1 : v * 2 ^ tw.toNat * 2 ^ (-(place - 1 + x)).toNat * (2 * (w * 2 ^ ((a : Int) - b).toNat) * 2 ^ X) = (v * w) * 2 ^ (tw.toNat + (-(place - 1 + x)).toNat + 1 + ((a : Int) - b).toNat + X) := by
          rw [Int.pow_add, Int.pow_add, Int.pow_add, Int.pow_add, Int.pow_one]
          generalize (2 : Int) ^ tw.toNat = u1
          generalize (2 : Int) ^ (-(place - 1 + x)).toNat = u2
          generalize (2 : Int) ^ ((a : Int) - b).toNat = u3
          generalize (2 : Int) ^ X = u4
          grind
        have l2 : v * 2 ^ ((b : Int) - a).toNat * 2 ^ c * (w * 2 ^ (-tw).toNat * 2 ^ (place - 1 + x).toNat) = (v * w) * 2 ^ (((b : Int) - a).toNat + c + (-tw).toNat + (place - 1 + x).toNat) := by
          rw [Int.pow_add, Int.pow_add, Int.pow_add]
          generalize (2 : Int) ^ ((b : Int) - a).toNat = u1
          generalize (2 : Int) ^ c = u2
          generalize (2 : Int) ^ (-tw).toNat = u3
          generalize (2 : Int) ^ (place - 1 + x).toNat = u4
          grind
        rw [l1, l2]
        congr 2
        omega
    · have hbig : w * 2 ^ (-tw).toNat * 2 ^ 1024 ≤ v * 2 ^ tw.toNat := by
        have h1 : w * 2 ^ (-tw).toNat * 2 ^ 1024 ≤ 2 ^ (b + 1) * 2 ^ (-tw).toNat * 2 ^ 1024 := Int.mul_le_mul_of_nonneg_right (Int.mul_le_mul_of_nonneg_right (by omega) (Int.le_of_lt (pw_pos _))) (Int.le_of_lt (pw_pos _))
        have h2 : 2 ^ a * 2 ^ tw.toNat ≤ v * 2 ^ tw.toNat := Int.mul_le_mul_of_nonneg_right a1 (Int.le_of_lt (pw_pos _))
        rw [pw2, pw2] at h1
        rw [pw2] at h2
        have := pw_mono (show b + 1 + (-tw).toNat + 1024 ≤ a + tw.toNat by omega)
        omega
      obtain ⟨e, m, hn, he⟩ := nr_big hwD hbig
      exact hp h1 e m v w (m0 e1) hn (Or.inr ⟨by split <;> omega, _, _, t1⟩) (qv.mv e1 (by decide) (by decide)) (qw.mv e1 (by decide) (by decide))
    · have h1 : v * 2 ^ tw.toNat * 2 ^ 1074 < 2 ^ (a + 1) * 2 ^ tw.toNat * 2 ^ 1074 := Int.mul_lt_mul_of_pos_right (Int.mul_lt_mul_of_pos_right a2 (pw_pos _)) (pw_pos _)
      have h2 : 2 ^ b * 2 ^ (-tw).toNat ≤ w * 2 ^ (-tw).toNat := Int.mul_le_mul_of_nonneg_right b1 (Int.le_of_lt (pw_pos _))
      rw [pw2, pw2] at h1
      rw [pw2] at h2
      have h3 := pw_mono (show (a + 1 + tw.toNat + 1074) + 1 ≤ b + (-tw).toNat by omega)
      rw [Int.pow_succ] at h3
      omega
