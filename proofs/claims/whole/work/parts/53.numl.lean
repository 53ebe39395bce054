/-! THE NUMERAL: its fields, its characters, its digits -/
def up (f : Nat → Int) (k : Nat) (z : Int) : Nat → Int := fun j => if j = k then z else f j
theorem up_s (f : Nat → Int) (k : Nat) (z : Int) : up f k z k = z := if_pos rfl
theorem up_n (f : Nat → Int) {k j : Nat} (z : Int) (h : j ≠ k) : up f k z j = f j := if_neg h
/-- the numeral (cell 1; its text's cells are 2 and 3) with the text T and the fields f 1 .. f 7 -/
def isU (n : Nat) (h : xH) (T : List Int) (f : Nat → Int) : Prop := (h 1).1 = 2 ∧ (h 1).2.2 0 = 2 ∧ (∀ k, 1 ≤ k → k ≤ 7 → (h 1).2.2 k = f k) ∧ isL n h 2 3 400 T
abbrev sU : Nat → Prop := fun i => i = 1
theorem isU.ok {n : Nat} {h : xH} {T : List Int} {f : Nat → Int} (t : isU n h T f) : okO n h 1 2 := ⟨by have := t.2.2.2.1; omega, t.1⟩
theorem isU.g {n : Nat} {h : xH} {T : List Int} {f : Nat → Int} (t : isU n h T f) {k : Nat} (h1 : 1 ≤ k) (h2 : k ≤ 7) : hG h 1 k = f k := t.2.2.1 k h1 h2
theorem isU.w {n : Nat} {h : xH} {T : List Int} {f : Nat → Int} (t : isU n h T f) : (hG h 1 0).toNat = 2 := by
  show ((h 1).2.2 0).toNat = _
  rw [t.2.1]; rfl
theorem isU.w0 {n : Nat} {h : xH} {T : List Int} {f : Nat → Int} (t : isU n h T f) : 0 ≤ hG h 1 0 := by
  show 0 ≤ (h 1).2.2 0
  rw [t.2.1]; decide
theorem isU.set {n : Nat} {h h' : xH} {T : List Int} {f : Nat → Int} (t : isU n h T f) {k : Nat} {z : Int} (hk : 1 ≤ k) (e : h' = hS h 1 k z) : isU n h' T (up f k z) := by
  have e1 : hE sU h h' := hE.put' e rfl
  refine ⟨by rw [(e1 1).1]; exact t.1, by rw [e, hS_g, if_neg (by omega)]; exact t.2.1, fun j h1 h2 => ?_, t.2.2.2.mv e1 (by decide) (by decide)⟩
  rw [e, hS_g]
  by_cases c : j = k
  · rw [if_pos ⟨rfl, c⟩, c, up_s]
  · rw [if_neg (fun z => c z.2), up_n _ _ c]; exact t.2.2.1 j h1 h2
theorem isU.mv {n : Nat} {h h' : xH} {S : Nat → Prop} {T : List Int} {f : Nat → Int} (t : isU n h T f) (e : hE S h h') (h1 : ¬ S 1) (h2 : ¬ S 2) (h3 : ¬ S 3) : isU n h' T f :=
  ⟨by rw [(e 1).1]; exact t.1, by rw [(e 1).2.2 h1]; exact t.2.1, fun k a b => by rw [(e 1).2.2 h1]; exact t.2.2.1 k a b, t.2.2.2.mv e h2 h3⟩
theorem isU.cg {n : Nat} {h : xH} {T : List Int} {f g : Nat → Int} (t : isU n h T f) (e : ∀ k, 1 ≤ k → k ≤ 7 → f k = g k) : isU n h T g := ⟨t.1, t.2.1, fun k a b => (t.2.2.1 k a b).trans (e k a b), t.2.2.2⟩
theorem isU.ln {n : Nat} {h : xH} {T : List Int} {f : Nat → Int} (t : isU n h T f) : T.length ≤ 400 := t.2.2.2.ln.1
theorem isU.cr {n : Nat} {h : xH} {T : List Int} {f : Nat → Int} (t : isU n h T f) (i : Int) : rg (cd T i) := by
  have := t.2.2.2.cdr i
  exact ⟨by omega, by omega⟩
theorem sp_current {G : xG} {l : Launch} {n : Nat} {h : xH} {T : List Int} {f : Nat → Int} {Po : Int → xH → Prop} (t : isU n h T f) (hr : rg (f 1)) (hp : Po (cd T (f 1)) h) : S_X2_current G l 1 n h Po := by
  refine S_X2_current_of (fun k hl C E => X2_current_b0 C E 1 n h rfl ⟨t.ok, t.w0, t.ok, ?_, ?_⟩)
  · rw [t.w]; exact t.2.2.2.ok
  · rw [t.w, t.g (by decide) (by decide)]
    exact sp_codeAt t.2.2.2 hr hp
/-- the value of a character as a digit -/
def dw (c : Int) : Int := if 48 ≤ c ∧ c ≤ 57 then c - 48 else if 97 ≤ c ∧ c ≤ 102 then c - 87 else if 65 ≤ c ∧ c ≤ 70 then c - 55 else -1
def dv (b c : Int) : Int := if dw c < b then dw c else -1
theorem dw_bd (c : Int) : -1 ≤ dw c ∧ dw c ≤ 15 := by
  unfold dw
  split
  · omega
  · split
    · omega
    · split <;> omega
theorem dv_bd (b c : Int) : -1 ≤ dv b c ∧ dv b c ≤ 15 ∧ (0 ≤ dv b c → dv b c < b) := by
  have := dw_bd c
  unfold dv
  split <;> omega
theorem sp_curDigit {G : xG} {l : Launch} {n : Nat} {h : xH} {T : List Int} {f : Nat → Int} {Po : Int → xH → Prop} (t : isU n h T f) (hr : rg (f 1)) (hb : rg (f 2)) (hp : Po (dv (f 2) (cd T (f 1))) h) : S_X2_currentDigit G l 1 n h Po := by
  refine S_X2_currentDigit_of (fun k hl C E => X2_currentDigit_b0 C E 1 n h rfl ⟨t.ok, t.w0, t.ok, by rw [t.w]; exact t.2.2.2.ok, ?_⟩)
  rw [t.w, t.g (by decide) (by decide)]
  have hc := t.cr (f 1)
  refine sp_codeAt t.2.2.2 hr ?_
  have bd := dw_bd (cd T (f 1))
  unfold dv at hp
  generalize cd T (f 1) = c at hp hc bd ⊢
  have r1 : ∀ z : Int, 0 ≤ z → z ≤ 200 → rg z := fun z a b => ⟨by omega, by omega⟩
  have w90 : ∀ z, Po z h → X2_currentDigit_w90 G k z n h := fun z q => X2_currentDigit_b90 C E z n h rfl q
  have w77 : ∀ z, dw c = z → X2_currentDigit_w77 G k 1 z n h := by
    intro z hz
    rw [hz] at hp bd
    refine X2_currentDigit_b77 C E 1 z n h rfl ⟨t.ok, ⟨⟨by omega, by omega⟩, ?_⟩, fun g => w90 _ ?_, fun g => w90 _ ?_⟩
    · rw [t.g (by decide) (by decide)]; exact hb
    · rw [t.g (by decide) (by decide)] at g; rwa [if_neg (by omega)] at hp
    · rw [t.g (by decide) (by decide)] at g; rwa [if_pos (by omega)] at hp
  have w57 : ¬ (48 ≤ c ∧ c ≤ 57) → ¬ (97 ≤ c ∧ c ≤ 102) → X2_currentDigit_w57 G k 1 c (-1) n h := by
    intro n1 n2
    refine X2_currentDigit_b57 C E 1 c (-1) n h rfl ⟨⟨hc, r1 _ (by decide) (by decide)⟩, fun g => w77 _ ?_, fun g => ⟨⟨hc, r1 _ (by decide) (by decide)⟩, fun g2 => w77 _ ?_, fun g2 => w77 _ ?_⟩⟩
    · unfold dw; rw [if_neg n1, if_neg n2, if_neg (by omega)]
    · unfold dw; rw [if_neg n1, if_neg n2, if_neg (by omega)]
    · unfold dw; rw [if_neg n1, if_neg n2, if_pos (by omega)]; omega
  have w34 : ¬ (48 ≤ c ∧ c ≤ 57) → X2_currentDigit_w34 G k 1 c (-1) n h := by
    intro n1
    refine X2_currentDigit_b34 C E 1 c (-1) n h rfl ⟨⟨hc, r1 _ (by decide) (by decide)⟩, fun g => w57 n1 (by omega), fun g => ⟨⟨hc, r1 _ (by decide) (by decide)⟩, fun g2 => w57 n1 (by omega), fun g2 => w77 _ ?_⟩⟩
    unfold dw; rw [if_neg n1, if_pos (by omega)]; omega
  refine ⟨⟨hc, r1 _ (by decide) (by decide)⟩, fun g => w34 (by omega), fun g => ⟨⟨hc, r1 _ (by decide) (by decide)⟩, fun g2 => w34 (by omega), fun g2 => w77 _ ?_⟩⟩
  unfold dw; rw [if_pos (by omega)]
theorem sp_baseOf {G : xG} {l : Launch} {n : Nat} {h : xH} {c : Int} {Po : Int → xH → Prop} (hc : rg c) (hp : Po (if c = 98 then 2 else if c = 100 then 10 else if c = 111 then 8 else if c = 120 then 16 else 0) h) : S_X2_baseOf G l c n h Po := by
  refine S_X2_baseOf_of (fun k hl C E => X2_baseOf_b0 C E c n h rfl ⟨hc, fun g => ?_, fun g => ⟨fun g2 => ?_, fun g2 => ⟨fun g3 => ?_, fun g3 => ⟨fun g4 => ?_, fun g4 => ?_⟩⟩⟩⟩)
  · rwa [if_pos g] at hp
  · rwa [if_neg g, if_pos g2] at hp
  · rwa [if_neg g, if_neg g2, if_pos g3] at hp
  · rwa [if_neg g, if_neg g2, if_neg g3, if_pos g4] at hp
  · rwa [if_neg g, if_neg g2, if_neg g3, if_neg g4] at hp
/-- the digits of T from p on, behind the value v -/
def dvl (T : List Int) (b : Int) (p : Nat) (v : Int) : Nat → Int
  | 0 => v
  | r + 1 => dvl T b p v r * b + dv b (cd T ((p + r : Nat) : Int))
/-- r digits stand at p, and no more -/
def isR (T : List Int) (b : Int) (p r : Nat) : Prop := (∀ j, j < r → 0 ≤ dv b (cd T ((p + j : Nat) : Int))) ∧ dv b (cd T ((p + r : Nat) : Int)) < 0
theorem cd_end {T : List Int} {i : Int} (h : (T.length : Int) ≤ i) : cd T i = -1 := by
  unfold cd; rw [if_neg (by omega)]
theorem dv_end (b : Int) : dv b (-1) = -1 := by
  unfold dv
  rw [show dw (-1) = -1 by decide]
  split <;> rfl
theorem dig_lt {T : List Int} {b : Int} {i : Nat} (h : 0 ≤ dv b (cd T (i : Int))) : i < T.length := by
  rcases Nat.lt_or_ge i T.length with g | g
  · exact g
  · rw [cd_end (by omega), dv_end] at h; omega
/-- the decimal digits from the first that is not 0 -/
def sgOK (v s : Int) : Prop := (v = 0 → s = 0) ∧ (0 < v → 0 < s ∧ 10 ^ (s.toNat - 1) ≤ v ∧ v < 10 ^ s.toNat)
theorem sgOK.step {v s d : Int} (h : sgOK v s) (hv : 0 ≤ v) (h0 : 0 ≤ d) (h1 : d < 10) : sgOK (v * 10 + d) (if v * 10 + d = 0 then s else s + 1) := by
  by_cases g : v * 10 + d = 0
  · rw [if_pos g]
    exact ⟨fun _ => h.1 (by omega), fun z => by omega⟩
  · rw [if_neg g]
    refine ⟨fun z => absurd z g, fun z => ?_⟩
    rcases Int.lt_or_le 0 v with c | c
    · have := h.2 c
      have e : (s + 1).toNat = s.toNat + 1 := by omega
      have e2 : s.toNat = (s.toNat - 1) + 1 := by omega
      rw [e, Nat.add_sub_cancel, Int.pow_succ]
      refine ⟨by omega, ?_, by omega⟩
      rw [e2, Int.pow_succ]; omega
    · have hv0 : v = 0 := by omega
      have hs := h.1 hv0
      subst hv0
      rw [hs]
      exact ⟨by decide, by simp; omega, by simp; omega⟩
theorem sp_takeDigits {G : xG} {l : Launch} {n : Nat} {h : xH} {T : List Int} {f : Nat → Int} {a p : Nat} {v : Int} {Po : Int → xH → Prop} (t : isU n h T f) (q : isN n h a v) (ha : 4 ≤ a) (hp1 : f 1 = (p : Int)) (hb0 : 2 ≤ f 2) (hb1 : f 2 ≤ 16) (hv : v < 16 ^ p) (hpb : p ≤ 1000) (hp : ∀ (h' : xH) (r : Nat) (s : Int), hE (fun i => i = 1 ∨ sN a i) h h' → isU n h' T (up (up f 1 ((p + r : Nat) : Int)) 7 s) → isN n h' a (dvl T (f 2) p v r) → isR T (f 2) p r → r ≤ 400 → (0 < r → p + r ≤ T.length) → dvl T (f 2) p v r < 16 ^ (p + r) → (f 2 = 10 → sgOK v (f 7) → sgOK (dvl T (f 2) p v r) s) → Po r h') : S_X2_takeDigits G l 1 a n h Po := by
  refine S_X2_takeDigits_of (fun k hl C E => X2_takeDigits_b0 C E 1 a n h rfl ?_)
  have ln := t.ln
  have rb : rg (f 2) := ⟨by omega, by omega⟩
  have fin : ∀ (r : Nat) (s : Int) (h1 : xH), (0 < r → p + r ≤ T.length) → hE (fun i => i = 1 ∨ sN a i) h h1 → isU n h1 T (up (up f 1 ((p + r : Nat) : Int)) 7 s) → isN n h1 a (dvl T (f 2) p v r) → (∀ j, j < r → 0 ≤ dv (f 2) (cd T ((p + j : Nat) : Int))) → dvl T (f 2) p v r < 16 ^ (p + r) → (f 2 = 10 → sgOK v (f 7) → sgOK (dvl T (f 2) p v r) s) → dv (f 2) (cd T ((p + r : Nat) : Int)) < 0 → X2_takeDigits_w61 G k r n h1 := by
    intro r s h1 hle he t1 q1 hr hvb hs hd
    exact X2_takeDigits_b61 C E r n h1 rfl (hp h1 r s he t1 q1 ⟨hr, hd⟩ (by omega) hle hvb hs)
  suffices K : ∀ (u r : Nat) (s : Int) (h1 : xH), T.length ≤ p + r + u → (0 < r → p + r ≤ T.length) → hE (fun i => i = 1 ∨ sN a i) h h1 → isU n h1 T (up (up f 1 ((p + r : Nat) : Int)) 7 s) → isN n h1 a (dvl T (f 2) p v r) → (∀ j, j < r → 0 ≤ dv (f 2) (cd T ((p + j : Nat) : Int))) → dvl T (f 2) p v r < 16 ^ (p + r) → (f 2 = 10 → sgOK v (f 7) → sgOK (dvl T (f 2) p v r) s) → X2_takeDigits_w2 G k 1 a r n h1 by
    refine K T.length 0 (f 7) h (by omega) (fun z => by omega) hE.rf (t.cg (fun j h1 h2 => ?_)) q (fun j hj => by omega) hv (fun _ z => z)
    by_cases c7 : j = 7
    · rw [c7, up_s]
    · rw [up_n _ _ c7]
      by_cases c1 : j = 1
      · rw [c1, up_s]; exact hp1
      · rw [up_n _ _ c1]
  intro u
  induction u with
  | zero =>
    intro r s h1 hu hle he t1 q1 hr hvb hs
    have hd : dv (f 2) (cd T ((p + r : Nat) : Int)) < 0 := by rw [cd_end (by omega), dv_end]; decide
    have F := fin r s h1 hle he t1 q1 hr hvb hs hd
    refine X2_takeDigits_b2 C E 1 a r n h1 rfl ⟨⟨rg_nat (by omega), rg_nat (s := 400) (by omega)⟩, fun _ => F, fun _ => ⟨t1.ok, sp_curDigit t1 (rg_nat (by omega)) rb ⟨?_, fun _ => F, fun g => absurd hd g⟩⟩⟩
    have := dv_bd (f 2) (cd T ((p + r : Nat) : Int))
    exact ⟨by show _ ≤ dv (f 2) (cd T ((p + r : Nat) : Int)); omega, by show dv (f 2) (cd T ((p + r : Nat) : Int)) ≤ _; omega⟩
  | succ u ih =>
    intro r s h1 hu hle he t1 q1 hr hvb hs
    have bd := dv_bd (f 2) (cd T ((p + r : Nat) : Int))
    have rd : rg (dv (f 2) (cd T ((p + r : Nat) : Int))) := ⟨by omega, by omega⟩
    refine X2_takeDigits_b2 C E 1 a r n h1 rfl ⟨⟨rg_nat (by omega), rg_nat (s := 400) (by omega)⟩, fun g => fin r s h1 hle he t1 q1 hr hvb hs ?_, fun _ => ⟨t1.ok, sp_curDigit t1 (rg_nat (by omega)) rb ⟨rd, fun g => fin r s h1 hle he t1 q1 hr hvb hs g, fun g => ⟨t1.ok, t1.ok, sp_curDigit t1 (rg_nat (by omega)) rb ⟨q1.1.ok, ?_⟩⟩⟩⟩⟩
    · rw [cd_end (by omega), dv_end]; decide
    · have g' : 0 ≤ dv (f 2) (cd T ((p + r : Nat) : Int)) := by
        rcases Int.lt_or_le (dv (f 2) (cd T ((p + r : Nat) : Int))) 0 with z | z
        · exact absurd z g
        · exact z
      have hlt := dig_lt g'
      rw [t1.g (by decide) (by decide)]
      show S_X1_multiplyAdd G (kl k) a (f 2) (dv (f 2) (cd T ((p + r : Nat) : Int))) n h1 _
      have hvn := q1.nn.1
      have hm1 : dvl T (f 2) p v r * f 2 ≤ dvl T (f 2) p v r * 16 := Int.mul_le_mul_of_nonneg_left hb1 hvn
      have hbig : dvl T (f 2) p v r * f 2 + dv (f 2) (cd T ((p + r : Nat) : Int)) < 16 ^ (p + (r + 1)) := by
        rw [show p + (r + 1) = (p + r) + 1 by omega, Int.pow_succ]
        omega
      have hB : (16 : Int) ^ (p + (r + 1)) ≤ 4294967296 ^ 132 := by
        rw [show (16 : Int) = 2 ^ 4 by decide, ← Int.pow_mul, B_2]
        exact pw_mono (by omega)
      refine sp_mulAdd q1 (by omega) (by omega) g' (by omega) (by omega) (fun h2 e2 q2 => ⟨q2.1.ok, sp_isZero q2 ?_⟩)
      have t2 : isU n h2 T (up (up f 1 ((p + r : Nat) : Int)) 7 s) := t1.mv e2 (by rintro (z | z) <;> omega) (by rintro (z | z) <;> omega) (by rintro (z | z) <;> omega)
      have he2 : hE (fun i => i = 1 ∨ sN a i) h h2 := he.tr (e2.mono (fun i hi => Or.inr hi))
      have hr2 : ∀ j, j < r + 1 → 0 ≤ dv (f 2) (cd T ((p + j : Nat) : Int)) := fun j hj => by
        rcases Nat.lt_or_ge j r with z | z
        · exact hr j z
        · rw [show j = r by omega]; exact g'
      have w45 : ∀ (h3 : xH) (s' : Int), hE (fun i => i = 1 ∨ sN a i) h h3 → isU n h3 T (up (up f 1 ((p + r : Nat) : Int)) 7 s') → isN n h3 a (dvl T (f 2) p v (r + 1)) → (f 2 = 10 → sgOK v (f 7) → sgOK (dvl T (f 2) p v (r + 1)) s') → X2_takeDigits_w45 G k 1 a r n h3 := by
        intro h3 s' e3 t3 q3 hs3
        refine X2_takeDigits_b45 C E 1 a r n h3 rfl ⟨t3.ok, t3.ok, fun h4 e4 => ?_⟩
        have t4 := t3.set (by decide) e4
        refine ih (r + 1) s' h4 (by omega) (fun _ => by omega) (e3.tr (hE.put' e4 (Or.inl rfl))) (t4.cg (fun j j1 j7 => ?_)) (q3.mv (hE.put' (S := fun i => i = 1) e4 rfl) (by omega) (by omega)) hr2 hbig hs3
        by_cases c1 : j = 1
        · rw [c1, up_s, t3.g (by decide) (by decide)]
          show ((p + r : Nat) : Int) + 1 = ((p + (r + 1) : Nat) : Int)
          omega
        · rw [up_n _ _ c1]
          by_cases c7 : j = 7
          · rw [c7, up_s, up_s]
          · rw [up_n _ _ c7, up_n _ _ c7, up_n _ _ c1, up_n _ _ c1]
      have key : ∀ s', s' = (if dvl T (f 2) p v (r + 1) = 0 then s else s + 1) → (f 2 = 10 → sgOK v (f 7) → sgOK (dvl T (f 2) p v (r + 1)) s') := by
        intro s' es hb hv0
        have o := (hs hb hv0).step (d := dv (f 2) (cd T ((p + r : Nat) : Int))) hvn g' (by have := bd.2.2 g'; omega)
        rw [es]
        show sgOK (dvl T (f 2) p v r * f 2 + dv (f 2) (cd T ((p + r : Nat) : Int))) (if dvl T (f 2) p v r * f 2 + dv (f 2) (cd T ((p + r : Nat) : Int)) = 0 then s else s + 1)
        rw [hb] at o ⊢
        exact o
      rw [show dvl T (f 2) p v r * f 2 + dv (f 2) (cd T ((p + r : Nat) : Int)) = dvl T (f 2) p v (r + 1) from rfl]
      by_cases z : dvl T (f 2) p v (r + 1) = 0
      · rw [if_pos z]
        refine ⟨⟨by decide, by decide⟩, fun _ => w45 h2 s he2 t2 q2 (key s (by rw [if_pos z])), fun y => absurd y (by decide)⟩
      · rw [if_neg z]
        refine ⟨rg0, fun y => absurd rfl y, fun _ => ⟨t2.ok, t2.ok, fun h3 e3 => ?_⟩⟩
        rw [t2.g (by decide) (by decide), up_s] at e3
        refine w45 h3 (s + 1) (he2.tr (hE.put' e3 (Or.inl rfl))) ((t2.set (by decide) e3).cg (fun j _ _ => ?_)) (q2.mv (hE.put' (S := fun i => i = 1) e3 rfl) (by omega) (by omega)) (key _ (by rw [if_neg z]))
        by_cases c7 : j = 7
        · rw [c7, up_s, up_s]
        · rw [up_n _ _ c7, up_n _ _ c7, up_n _ _ c7]
