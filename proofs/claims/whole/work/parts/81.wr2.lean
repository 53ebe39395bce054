/-! WRITING: a natural's digits in a base -/
/-- L holds the digits of v, the last first, none of them too many -/
def isDg (b : Int) : List Int → Int → Prop
  | [], v => v = 0
  | d :: L, v => 0 < v ∧ d = dg (v % b) ∧ isDg b L (v / b)
/-- the same, with zeros behind -/
def isPd (b : Int) : List Int → Int → Prop
  | [], v => v = 0
  | d :: L, v => 0 ≤ v ∧ d = dg (v % b) ∧ isPd b L (v / b)
/-- L is v as it is written in the base b -/
def wrR (b v : Int) (L : List Int) : Prop := (v = 0 ∧ L = [48]) ∨ (0 < v ∧ isDg b L.reverse v)
theorem isDg_u {b : Int} : ∀ {L M : List Int} {v : Int}, isDg b L v → isDg b M v → L = M
  | [], [], _, _, _ => rfl
  | [], _ :: _, v, h1, h2 => by
    have h1' : v = 0 := h1
    have := h2.1
    omega
  | _ :: _, [], v, h1, h2 => by
    have h2' : v = 0 := h2
    have := h1.1
    omega
  | _ :: _, _ :: _, v, h1, h2 => by rw [h1.2.1, h2.2.1, isDg_u h1.2.2 h2.2.2]
theorem wrR_u {b v : Int} {L M : List Int} (h1 : wrR b v L) (h2 : wrR b v M) : L = M := by
  rcases h1 with ⟨a, e⟩ | ⟨a, e⟩ <;> rcases h2 with ⟨a2, e2⟩ | ⟨a2, e2⟩
  · rw [e, e2]
  · omega
  · omega
  · have := isDg_u e e2
    rw [← List.reverse_reverse L, this, List.reverse_reverse]
theorem isPd_0 {b : Int} : ∀ {L : List Int}, isPd b L 0 → ∀ x, x ∈ L → x = 48
  | [], _, x, hx => absurd hx (by simp)
  | d :: L, h, x, hx => by
    rcases List.mem_cons.mp hx with e | e
    · rw [e, h.2.1, Int.zero_emod]; rfl
    · refine isPd_0 (b := b) ?_ x e
      have := h.2.2
      rwa [Int.zero_ediv] at this
theorem isPd_strip {b : Int} (hb : 0 < b) : ∀ {M : List Int} {j : Nat} {v : Int}, isPd b (M ++ List.replicate j 48) v → (M = [] ∨ ∃ N x, M = N ++ [x] ∧ x ≠ 48) → isDg b M v
  | [], j, v, h, _ => by
    show v = 0
    induction j generalizing v with
    | zero => exact h
    | succ j ih =>
      rw [List.nil_append, List.replicate_succ] at h
      have h3 := ih (v := v / b) h.2.2
      have h4 : dg (v % b) = 48 := h.2.1.symm
      have h5 := Int.emod_nonneg v (show b ≠ 0 by omega)
      have h6 : v % b = 0 := by
        unfold dg at h4
        split at h4 <;> omega
      have h7 := Int.mul_ediv_add_emod v b
      rw [h3, h6] at h7
      omega
  | d :: M, j, v, h, hl => by
    have h0 := h.1
    refine ⟨?_, h.2.1, isPd_strip hb h.2.2 ?_⟩
    · rcases Int.lt_or_le 0 v with g | g
      · exact g
      · have hv : v = 0 := by omega
        subst hv
        rcases hl with e | ⟨N, x, e, hx⟩
        · cases e
        · exfalso
          apply hx
          refine isPd_0 h x ?_
          show x ∈ d :: M ++ List.replicate j 48
          rw [e]
          simp
    · rcases hl with e | ⟨N, x, e, hx⟩
      · cases e
      · cases N with
        | nil => left; exact (List.cons.inj e).2
        | cons y N => right; exact ⟨N, x, (List.cons.inj e).2, hx⟩
theorem isPd_lds {b : Int} (hb : 0 < b) : ∀ {g : Nat} {v : Int} {Z : List Int}, 0 ≤ v → isPd b Z (v / b ^ g) → isPd b (lds (v % b ^ g) b g ++ Z) v
  | 0, v, Z, _, h => by
    rw [Int.pow_zero, Int.ediv_one] at h
    exact h
  | g + 1, v, Z, h0, h => by
    have hp : (0 : Int) < b ^ g := Int.pow_pos hb
    have e1 : v % b ^ (g + 1) % b = v % b := Int.emod_emod_of_dvd v ⟨b ^ g, by rw [Int.pow_succ, Int.mul_comm]⟩
    have e2 : v % b ^ (g + 1) / b = v / b % b ^ g := by
      rw [Int.pow_succ, Int.mul_comm, Int.emod_def, Int.emod_def, Int.mul_assoc, Int.sub_mul_ediv_left _ _ (show b ≠ 0 by omega), Int.ediv_ediv_of_nonneg (by omega)]
    have e3 : v / b / b ^ g = v / b ^ (g + 1) := by rw [Int.ediv_ediv_of_nonneg (by omega), Int.pow_succ, Int.mul_comm]
    refine ⟨h0, ?_, ?_⟩
    · show dg (v % b ^ (g + 1) % b) = _
      rw [e1]
    · show isPd b (lds (v % b ^ (g + 1) / b) b g ++ Z) (v / b)
      rw [e2]
      exact isPd_lds hb (Int.ediv_nonneg h0 (by omega)) (by rw [e3]; exact h)
theorem pw_le_pw {b : Int} (hb : 2 ≤ b) (g : Nat) : (2 : Int) ^ g ≤ b ^ g := by
  induction g with
  | zero => simp
  | succ g ih =>
    rw [Int.pow_succ, Int.pow_succ]
    exact Int.mul_le_mul ih hb (by decide) (Int.le_of_lt (Int.pow_pos (by omega)))
theorem bl_div {v b : Int} {g : Nat} (hb : 2 ≤ b) (hv : 0 < v / b ^ g) : bl (v / b ^ g) + g ≤ bl v := by
  obtain ⟨t, e, h1, h2⟩ := bl_pw hv
  have hp : (0 : Int) < b ^ g := Int.pow_pos (by omega)
  have h3 := Int.mul_ediv_self_le (x := v) (k := b ^ g) (by omega)
  have h4 : (2 : Int) ^ g * 2 ^ t ≤ b ^ g * (v / b ^ g) := Int.mul_le_mul (pw_le_pw hb g) h1 (Int.le_of_lt (pw_pos t)) (Int.le_of_lt hp)
  have h5 := bl_ge (v := v) (t := g + t) (by rw [Int.pow_add]; omega)
  omega
abbrev sW (c : Nat) : Nat → Prop := fun i => i = 4 ∨ i = c ∨ i = 10 ∨ i = 11
theorem sW_L {c : Nat} {h h' : xH} (e : hE (sL 4 c) h h') : hE (sW c) h h' := e.mono (fun i hi => by
  rcases hi with z | z
  · exact Or.inl z
  · exact Or.inr (Or.inl z))
theorem sW_N {c : Nat} {h h' : xH} (e : hE (sN 10) h h') : hE (sW c) h h' := e.mono (fun i hi => by
  rcases hi with z | z
  · exact Or.inr (Or.inr (Or.inl z))
  · exact Or.inr (Or.inr (Or.inr z)))
theorem sp_appNat {G : xG} {l : Launch} {n : Nat} {h : xH} {O : List Int} {kd mn un pl v s10 b : Int} {c m a : Nat} {Po : xH → Prop} (t : isD n h kd mn un pl) (q : isL n h 4 c m O) (hc : c = 5 ∨ 25 < c) (qv : isN n h a v) (ha : a = 6 ∨ a = 8 ∨ a = 12) (q10 : isN n h 10 s10) (hb0 : 2 ≤ b) (hb1 : b ≤ 16) (hr : (O.length : Int) + bl v + 31 ≤ m) (hp : ∀ h' L, hE (sW c) h h' → wrR b v L → isL n h' 4 c m (O ++ L) → isN n h' 10 0 → Po h') : S_X4_appendNatural G l 0 a b n h Po := by
  refine S_X4_appendNatural_of (fun k hl C E => X4_appendNatural_b0 C E 0 a b n h rfl ⟨⟨rgS (by omega) (by omega), rgS (by decide) (by decide)⟩, fun g => by omega, fun _ => ⟨⟨rgS (by omega) (by omega), rgS (by decide) (by decide)⟩, fun _ => ?_, fun g => by omega⟩⟩)
  have lnq := q.ln
  have hv := qv.nn
  -- the group
  suffices K : ∀ g : Nat, 1 ≤ g → g ≤ 31 → b ^ g ≤ 2147483647 → X4_appendNatural_w46 G k 0 a b (b ^ g) g n h by
    suffices K2 : ∀ u g : Nat, g + u = 31 → 1 ≤ g → b ^ g ≤ 2147483647 → X4_appendNatural_w17 G k 0 a b (b ^ g) g n h by
      have := K2 30 1 rfl (by omega) (by rw [Int.pow_one]; omega)
      rw [Int.pow_one] at this
      exact this
    intro u
    induction u with
    | zero =>
      intro g hg h1 h2
      exact X4_appendNatural_b17 C E 0 a b (b ^ g) g n h rfl ⟨⟨rg_nat (by omega), rgS (by decide) (by decide)⟩, fun _ => K g h1 (by omega) h2, fun z => by omega⟩
    | succ u ih =>
      intro g hg h1 h2
      have hp : (0 : Int) < b ^ g := Int.pow_pos (by omega)
      have hm : b ^ g * b ≤ 2147483647 * 16 := Int.mul_le_mul h2 hb1 (by omega) (by decide)
      have hm0 : 0 ≤ b ^ g * b := Int.mul_nonneg (by omega) (by omega)
      refine X4_appendNatural_b17 C E 0 a b (b ^ g) g n h rfl ⟨⟨rg_nat (by omega), rgS (by decide) (by decide)⟩, fun _ => K g h1 (by omega) h2, fun z => ⟨⟨by omega, by omega⟩, rgS (by omega) (by omega), ⟨⟨by omega, by omega⟩, ⟨by decide, by decide⟩⟩, fun _ => K g h1 (by omega) h2, fun z2 => ?_⟩⟩
      rw [lC_gt] at z2
      have := ih (g + 1) (by omega) (by omega) (by rw [Int.pow_succ]; omega)
      rw [Int.pow_succ] at this
      exact this
  intro g hg1 hg2 hgm
  have hgp : (2 : Int) ≤ b ^ g := by
    have h1 := pw_le_pw hb0 g
    have h2 : (2 : Int) ^ 1 ≤ 2 ^ g := pw_mono hg1
    rw [Int.pow_one] at h2
    omega
  -- behind the loop
  have w138 : ∀ (Q : List Int) (h1 : xH), hE (sW c) h h1 → isL n h1 4 c m (O ++ Q) → isN n h1 10 0 → wrR b v Q.reverse → X4_appendNatural_w138 G k 0 (O.length : Int) n h1 := by
    intro Q h1 e1 q1 q101 hw
    have t1 := t.mv e1 (by omega)
    refine X4_appendNatural_b138 C E 0 O.length n h1 rfl ?_
    rw [t1.f2]
    refine ⟨t1.ok, by decide, q1.ok, sp_reverse q1 (fun h2 e2 q2 => hp h2 Q.reverse (e1.tr (sW_L e2)) hw q2 (q101.mv e2 ?_ ?_))⟩ <;> · rintro (z | z) <;> omega
  have w108 : ∀ (Z : List Int) (h1 : xH), hE (sW c) h h1 → isL n h1 4 c m (O ++ Z) → isN n h1 10 0 → isPd b Z v → (v = 0 → Z = []) → X4_appendNatural_w108 G k 0 (O.length : Int) n h1 := by
    intro Z h1 e1 q1 q101 hw hz0
    have t1 := t.mv e1 (by omega)
    refine X4_appendNatural_b108 C E 0 O.length n h1 rfl ?_
    rw [t1.f2]
    refine ⟨t1.ok, by decide, q1.ok, sp_dropZeros q1 (by rw [List.length_append]; omega) (fun h2 M j e2 q2 hM hs hM2 => ?_)⟩
    obtain ⟨Q, hQ⟩ : ∃ Q, M = O ++ Q := by
      have : O ++ Z = M ++ List.replicate j 48 := hM
      rcases List.append_eq_append_iff.mp this with ⟨x, y1, y2⟩ | ⟨x, y1, y2⟩
      · exact ⟨x, y1⟩
      · have hx : x = [] := by
          have := congrArg List.length y1
          rw [List.length_append] at this
          exact List.eq_nil_of_length_eq_zero (by omega)
        subst hx
        exact ⟨[], by rw [y1]; simp⟩
    subst hQ
    rw [List.append_assoc] at hM
    have hZ : Z = Q ++ List.replicate j 48 := List.append_cancel_left hM
    have hQ2 : Q = [] ∨ ∃ N x, Q = N ++ [x] ∧ x ≠ 48 := by
      rcases hM2 with y | ⟨N, x, y, y2⟩
      · left
        rw [List.length_append] at y
        exact List.eq_nil_of_length_eq_zero (by omega)
      · rcases List.eq_nil_or_concat Q with z | ⟨Q', z, hz⟩
        · exact Or.inl z
        · right
          refine ⟨Q', z, by simpa using hz, ?_⟩
          rw [hz, List.concat_eq_append, ← List.append_assoc] at y
          have := List.append_inj' y rfl
          have h3 := this.2
          simp at h3
          rw [h3]; exact y2
    rw [hZ] at hw
    have hd := isPd_strip (by omega) hw hQ2
    have e12 : hE (sW c) h h2 := e1.tr (sW_L e2)
    have t2 := t.mv e12 (by omega)
    have q102 : isN n h2 10 0 := q101.mv e2 (by rintro (z | z) <;> omega) (by rintro (z | z) <;> omega)
    rw [t2.f2]
    have ln2 := q2.ln
    rw [List.length_append] at ln2
    refine ⟨t2.ok, by decide, q2.ok, sp_size q2 ⟨⟨rg_nat (by rw [List.length_append]; omega), rg_nat (by omega)⟩, fun g3 => w138 Q h2 e12 q2 q102 ?_, fun g3 => ⟨t2.ok, by rw [t2.f2]; decide, ?_⟩⟩⟩
    · cases Q with
      | nil => exact absurd (by simp) g3
      | cons x Q =>
        right
        refine ⟨hd.1, ?_⟩
        rw [List.reverse_reverse]; exact hd
    · rw [t2.f2]
      have hQ0 : Q = [] := by
        rw [List.length_append] at g3
        exact List.eq_nil_of_length_eq_zero (by omega)
      subst hQ0
      have hv0 : v = 0 := hd
      have hb : bl v = 0 := by rw [hv0]; rfl
      refine ⟨q2.ok, sp_app q2 (by rw [List.append_nil]; omega) ⟨by decide, by decide⟩ (fun h3 e3 q3 => ?_)⟩
      rw [List.append_nil] at q3
      refine w138 [48] h3 (e12.tr (sW_L e3)) q3 (q102.mv e3 (by rintro (z | z) <;> omega) (by rintro (z | z) <;> omega)) (Or.inl ⟨hv0, rfl⟩)
  refine X4_appendNatural_b46 C E 0 a b (b ^ g) g n h rfl ?_
  rw [t.f2]
  refine ⟨t.ok, by decide, q.ok, sp_size q ?_⟩
  rw [t.f9]
  refine ⟨t.ok, by decide, q10.1.ok, sp_copy q10.1 qv (by show 11 < a ∨ a + 1 < 10; omega) (fun h1 e1 q1 => ?_)⟩
  have e10 : hE (sW c) h h1 := sW_N e1
  have ql1 : isL n h1 4 c m O := q.mv e1 (by rintro (z | z) <;> omega) (by rintro (z | z) <;> omega)
  -- the loop
  suffices K : ∀ (u i : Nat) (x : Int) (Z : List Int) (h1 : xH), i + u = 4224 → 0 ≤ x → x < 2 ^ u → hE (sW c) h h1 → isL n h1 4 c m (O ++ Z) → isN n h1 10 x → ((x = 0 ∧ (Z.length : Int) + O.length ≤ m) ∨ (Z.length : Int) + O.length + bl x + 30 ≤ m) → (∀ Y, isPd b Y x → isPd b (Z ++ Y) v) → (v = 0 → Z = []) → x ≤ v → X4_appendNatural_w66 G k 0 b (b ^ g) g O.length i n h1 from K 4224 0 v [] h1 rfl hv.1 (by have := hv.2; rw [show (4294967296 : Int) = 2 ^ 32 from by decide, ← Int.pow_mul] at this; exact this) e10 (by rw [List.append_nil]; exact ql1) q1 (Or.inr (by show (0 : Int) + _ + _ + _ ≤ _; omega)) (fun Y hY => hY) (fun _ => rfl) (Int.le_refl _)
  intro u
  induction u with
  | zero =>
    intro i x Z h1 hi hx0 hx1 e1 q1 q2 hroom hY hz hxv
    rw [Int.pow_zero] at hx1
    have hx : x = 0 := by omega
    subst hx
    refine X4_appendNatural_b66 C E 0 b (b ^ g) g O.length i n h1 rfl ⟨⟨rg_nat (by omega), rgS (by decide) (by decide)⟩, fun _ => w108 Z h1 e1 q1 q2 (by have := hY [] rfl; rwa [List.append_nil] at this) hz, fun z => by omega⟩
  | succ u ih =>
    intro i x Z h1 hi hx0 hx1 e1 q1 q2 hroom hY hz hxv
    have t1 := t.mv e1 (by omega)
    refine X4_appendNatural_b66 C E 0 b (b ^ g) g O.length i n h1 rfl ⟨⟨rg_nat (by omega), rgS (by decide) (by decide)⟩, fun z => by omega, fun _ => ?_⟩
    rw [t1.f9]
    refine ⟨t1.ok, by decide, q2.1.ok, sp_isZero q2 ⟨by split <;> exact rgS (by decide) (by decide), fun z => ?_, fun z => ?_⟩⟩
    · have hx : x = 0 := by
        split at z
        · assumption
        · exact absurd rfl z
      subst hx
      exact w108 Z h1 e1 q1 q2 (by have := hY [] rfl; rwa [List.append_nil] at this) hz
    · have hx : 0 < x := by
        split at z
        · cases z
        · omega
      have hgpos : (0 : Int) < b ^ g := by omega
      rw [t1.f2, t1.f9]
      refine ⟨t1.ok, by decide, t1.ok, by decide, q2.1.ok, sp_divSmall q2 hgpos hgm (fun h2 e2 q3 => ?_)⟩
      have q12 : isL n h2 4 c m (O ++ Z) := q1.mv e2 (by rintro (z | z) <;> omega) (by rintro (z | z) <;> omega)
      have hmn := Int.emod_nonneg x (show b ^ g ≠ 0 by omega)
      have hml := Int.emod_lt_of_pos x hgpos
      have hr2 : (Z.length : Int) + O.length + bl x + 30 ≤ m := by
        rcases hroom with y | y
        · omega
        · exact y
      obtain ⟨tt, et, ht1, ht2⟩ := bl_pw hx
      refine ⟨q12.ok, sp_lastDigits q12 hmn (by omega) hb0 hb1 (by rw [List.length_append]; omega) (fun h3 e3 q4 => ?_)⟩
      rw [List.append_assoc] at q4
      refine ih (i + 1) (x / b ^ g) (Z ++ lds (x % b ^ g) b g) h3 (by omega) (Int.ediv_nonneg hx0 (by omega)) ?_ (e1.tr ((sW_N e2).tr (sW_L e3))) q4 (q3.mv e3 (by rintro (z | z) <;> omega) (by rintro (z | z) <;> omega)) ?_ (fun Y hY2 => ?_) (fun y => ?_) ?_
      · apply Int.ediv_lt_of_lt_mul hgpos
        have h4 : (2 : Int) ^ u * 2 ≤ 2 ^ u * b ^ g := Int.mul_le_mul_of_nonneg_left hgp (Int.le_of_lt (pw_pos u))
        rw [Int.pow_succ] at hx1
        omega
      · rw [List.length_append, lds_length]
        rcases Int.lt_or_le 0 (x / b ^ g) with y | y
        · right
          have := bl_div hb0 y
          omega
        · left
          have := Int.ediv_nonneg hx0 (show 0 ≤ b ^ g by omega)
          refine ⟨by omega, ?_⟩
          omega
      · rw [List.append_assoc]
        exact hY _ (isPd_lds (by omega) hx0 hY2)
      · omega
      · have := Int.ediv_le_self (b ^ g) hx0
        omega
