/-! THE MODEL: the shortest digits -/
abbrev sT : Nat → Prop := fun i => i = 26 ∨ (40 ≤ i ∧ i ≤ 46)
theorem sT_S {h h' : xH} (e : hE sS h h') : hE sT h h' := e.mono (fun i hi => by
  rcases hi with z | z
  · exact Or.inl z
  · exact Or.inr (by omega))
theorem sT_c {h h' : xH} {a : Nat} (e : hE (sC a) h h') (h0 : 40 ≤ a) (h1 : a ≤ 46) : hE sT h h' := e.mono (fun i hi => by
  have : i = a := hi
  exact Or.inr (by omega))
theorem wn0 (h : xH) (a : Nat) : wn h a 0 = (h a).2.2 := by funext i; show (h a).2.2 (0 + i) = _; rw [Nat.zero_add]
/-- a row lessened by one that isn't greater, as the model does it -/
theorem sp_sub1 {G : xG} {l : Launch} {n : Nat} {h : xH} {rn sn : Nat} {y w : Int} {Po : Int → xH → Prop} (ta : isT n h 40 200 rn y) (tb : isT n h 41 200 sn w) (hw : 0 < w) (hle : w ≤ y) (hlt : y < 10 * w) (hs : sn < 190) (ht : (h 40).2.2 rn = 0) (hp : ∀ z h', hE (sC 40) h h' → dgt (h' 40).2.2 rn → rv (h' 40).2.2 rn = y - w → Po z h') : S_X9_takeAway G l 40 0 41 sn 1 n h Po := by
  have hsr : sn ≤ rn := tb.len (by have := ta.val.2.1; omega)
  have hrs : rn ≤ sn + 1 := ta.len (by
    have := tb.val.2.1
    rw [T_succ]; omega)
  have hwin : dgt (wn h 40 0) (sn + 1) ∧ rv (wn h 40 0) (sn + 1) = y := by
    rw [wn0]
    rcases Nat.lt_or_ge sn rn with g | g
    · have : rn = sn + 1 := by omega
      rw [← this]; exact ⟨ta.2.2.1, ta.2.2.2.1⟩
    · have : rn = sn := by omega
      subst this
      refine ⟨fun i hi => ?_, ?_⟩
      · rcases Nat.lt_or_ge i rn with z | z
        · exact ta.2.2.1 i z
        · have : i = rn := by omega
          rw [this, ht]; decide
      · rw [rv_s, ht, ta.2.2.2.1]; omega
  refine sp_takeAway (p := 0) ta.1 tb.1 (by decide) (by omega) tb.2.1 hwin.1 tb.2.2.1 (by decide) (by decide) (fun z h' e hk hd hv => hp z h' e ?_ ?_)
  · rw [wn0] at hd
    exact hd.le hrs
  · rw [hwin.2, tb.2.2.2.1, wn0, Int.one_mul] at hv
    rw [wn0] at hd
    have hv' : rv (h' 40).2.2 (sn + 1) = y - w := by
      rcases hv with ⟨_, _, e2⟩ | ⟨_, e2, _⟩
      · exact e2
      · omega
    rcases Nat.lt_or_ge sn rn with g | g
    · have : rn = sn + 1 := by omega
      rw [this]; exact hv'
    · have : rn = sn := by omega
      subst this
      have := (rv_topz hd (by rw [hv']; have := ta.val.2.1; omega)).2
      rw [this]; exact hv'
/-- the digits, found one by one -/
theorem short_dig {G : xG} {k : xK} {n : Nat} {Po : Nat → xH → Prop} (C : CC G k cX9_shortest RX9 23 rm_X9_shortest) (E : CQ G k none rm_X9_shortest (fun r n1 h1 => r = none ∧ Po n1 h1)) {tl nm w ev p : Int} {L : List Int} {sn : Nat} {h : xH} (hL : L.length + 300 ≤ 8200) (hw : 0 < w) (hwb : w < 2 ^ 1080) (hev : ev = 0 ∨ ev = 1) (hp0 : -450 ≤ p) (hp1 : p ≤ 450) :
    ∀ (D F : List Int) (r a b : Int) (rn ln hn : Nat) (h1 : xH), genR w ev D r a b → 0 ≤ r → r < w → 0 < a → 0 < b → a * 10 ^ D.length < 2 ^ 1160 → b * 10 ^ D.length < 2 ^ 1160 → F.length + D.length ≤ 23 → ((D = [10] ∧ F = []) ∨ ∀ x, x ∈ D → x ≤ 9) →
      hE sT h h1 → isWr n h1 L (F.length : Int) tl nm → isFd h1 F → isT n h1 40 200 rn r → isT n h1 41 200 sn w → isT n h1 42 200 ln b → isT n h1 43 200 hn a →
      (∀ h' X F' p', hE sT h h' → ((D = [10] ∧ F = [] ∧ F' = [1] ∧ p' = p + 1) ∨ (F' = F ++ D ∧ p' = p ∧ ∀ x, x ∈ D → x ≤ 9)) → fnW F' p' X → isWr n h' (L ++ X) (F'.length : Int) tl nm → Po n h') → X9_shortest_w412 G k 26 ev rn sn ln hn p n h1 := by
  have h1160 : (2 : Int) ^ 1160 < 10000 ^ 190 := by decide +kernel
  have h1080 : (2 : Int) ^ 1080 * 10 < 2 ^ 1160 := by decide +kernel
  have h190 : (10000 : Int) ^ 190 ≤ 10000 ^ 200 := T_mono (by decide)
  intro D
  induction D with
  | nil => intro F r a b rn ln hn h1 hg; exact absurd hg id
  | cons d D ih =>
    intro F r a b rn ln hn h1 hg hr0 hr1 ha hb hab hbb hF hD e1 t1 f1 u40 u41 u42 u43 hp
    obtain ⟨q, m, ⟨q0, q1, hm, hm0, hm1⟩, hgen⟩ := hg
    have hmw : m < w := by
      rcases hm1 with z | z
      · rw [hm, z]; omega
      · exact z
    have tp : (10 : Int) ^ (D.length + 1) = 10 * 10 ^ D.length := by rw [Int.pow_succ, Int.mul_comm]
    have tpos : (0 : Int) < 10 ^ D.length := Int.pow_pos (by decide)
    have hlen : (d :: D).length = D.length + 1 := rfl
    rw [hlen, tp] at hab hbb
    have ha10 : a * 10 * 10 ^ D.length = a * (10 * 10 ^ D.length) := Int.mul_assoc _ _ _
    have hb10 : b * 10 * 10 ^ D.length = b * (10 * 10 ^ D.length) := Int.mul_assoc _ _ _
    have ha1 : a * 10 ≤ a * 10 * 10 ^ D.length := by
      have := Int.mul_le_mul_of_nonneg_left (show (1 : Int) ≤ 10 ^ D.length by omega) (show 0 ≤ a * 10 by omega)
      rwa [Int.mul_one] at this
    have hb1 : b * 10 ≤ b * 10 * 10 ^ D.length := by
      have := Int.mul_le_mul_of_nonneg_left (show (1 : Int) ≤ 10 ^ D.length by omega) (show 0 ≤ b * 10 by omega)
      rwa [Int.mul_one] at this
    have hsn : sn ≤ 189 := u41.len (by
      have : (2 : Int) ^ 1080 < 10000 ^ 189 := by decide +kernel
      omega)
    have ten1 : ∀ v : Int, v * 10 ^ 1 = v * 10 := fun v => by rw [Int.pow_one]
    refine X9_shortest_b412 (n0 := 0) C E 26 ev rn sn ln hn p n h1 ?_
    rw [t1.1.g13]
    refine ⟨t1.1.ok, by decide, sp_tenfold (k0 := 1) u40 (by decide) (by rw [ten1]; omega) (fun h2 s2 e2 u2 => ?_)⟩
    have e2' : hE (sC 40) h1 h2 := e2
    have t2 := t1.mv e2' (by decide) (by decide) (by decide)
    have u42' := u42.mv e2' (by decide)
    rw [t2.1.g15]
    refine ⟨t2.1.ok, by decide, sp_tenfold (k0 := 1) u42' (by decide) (by rw [ten1]; omega) (fun h3 s3 e3 u3 => ?_)⟩
    have e3' : hE (sC 42) h2 h3 := e3
    have t3 := t2.mv e3' (by decide) (by decide) (by decide)
    have u43' := (u43.mv e2' (by decide)).mv e3' (by decide)
    rw [t3.1.g16]
    refine ⟨t3.1.ok, by decide, sp_tenfold (k0 := 1) u43' (by decide) (by rw [ten1]; omega) (fun h4 s4 e4 u4 => ?_)⟩
    have e4' : hE (sC 43) h3 h4 := e4
    have t4 := t3.mv e4' (by decide) (by decide) (by decide)
    have f4 : isFd h4 F := ((f1.mv e2' (by decide)).mv e3' (by decide)).mv e4' (by decide)
    have v40 : isT n h4 40 200 s2 (10 * r) := by
      have : isT n h2 40 200 s2 (r * 10 ^ 1) := u2
      rw [ten1, Int.mul_comm] at this
      exact (this.mv e3' (by decide)).mv e4' (by decide)
    have v41 : isT n h4 41 200 sn w := ((u41.mv e2' (by decide)).mv e3' (by decide)).mv e4' (by decide)
    have v42 : isT n h4 42 200 s3 (10 * b) := by
      have : isT n h3 42 200 s3 (b * 10 ^ 1) := u3
      rw [ten1, Int.mul_comm] at this
      exact this.mv e4' (by decide)
    have v43 : isT n h4 43 200 s4 (10 * a) := by
      have : isT n h4 43 200 s4 (a * 10 ^ 1) := u4
      rw [ten1, Int.mul_comm] at this
      exact this
    have e04 : hE sT h h4 := ((e1.tr (sT_c e2' (by decide) (by decide))).tr (sT_c e3' (by decide) (by decide))).tr (sT_c e4' (by decide) (by decide))
    -- behind a digit: rn is the rest's length
    have aft : ∀ (rn : Nat) (h5 : xH), hE sT h h5 → isWr n h5 L (F.length : Int) tl nm → isFd h5 F → isT n h5 40 200 rn m → isT n h5 41 200 sn w → isT n h5 42 200 s3 (10 * b) → isT n h5 43 200 s4 (10 * a) → X9_shortest_w451 G k 26 ev rn sn s3 s4 p q n h5 := by
      intro rn h5 e5 t5 f5 y40 y41 y42 y43
      refine X9_shortest_b451 (n0 := 0) C E 26 ev rn sn s3 s4 p q n h5 ?_
      rw [t5.1.g13, t5.1.g14]
      refine ⟨t5.1.ok, by decide, t5.1.ok, by decide, sp_compareRows y40 y41 ⟨rg_ord _ _, fun _ => ?_, fun z => ?_⟩⟩
      · rw [t5.1.g13, t5.1.g15]
        refine ⟨t5.1.ok, by decide, t5.1.ok, by decide, sp_compareRows y40 y42 ?_⟩
        rw [t5.1.g14, t5.1.g17]
        refine ⟨t5.1.ok, by decide, t5.1.ok, by decide, sp_copyW y41 t5.1.t44 (by decide) (by omega) (fun h6 e6 u6 _ => ?_)⟩
        have e6' : hE (sC 44) h5 h6 := e6
        have t6 := t5.mv e6' (by decide) (by decide) (by decide)
        have x40 := y40.mv e6' (by decide)
        have hrs : rn ≤ sn := y40.len (by have := y41.val.2.1; omega)
        rw [t6.1.g17, t6.1.g13]
        refine ⟨t6.1.ok, by decide, t6.1.ok, by decide, sp_lessen u6 x40 (by decide) (by omega) hrs (fun h7 e7 d7 v7 => ?_)⟩
        have e7' : hE (sC 44) h6 h7 := e7
        have t7 := t6.mv e7' (by decide) (by decide) (by decide)
        rw [t7.1.g17]
        refine ⟨t7.1.ok, by decide, sp_used sn (u6.1.mv e7') (by omega) d7 (fun tn htn u7 _ => ?_)⟩
        have u7' : isT n h7 44 200 tn (w - m) := by
          have v7' : rv (h7 44).2.2 sn = w - m := v7
          rw [← v7']; exact u7
        have z40 : isT n h7 40 200 rn m := x40.mv e7' (by decide)
        have z41 := (y41.mv e6' (by decide)).mv e7' (by decide)
        have z42 := (y42.mv e6' (by decide)).mv e7' (by decide)
        have z43 := (y43.mv e6' (by decide)).mv e7' (by decide)
        have f7 : isFd h7 F := (f5.mv e6' (by decide)).mv e7' (by decide)
        have e07 : hE sT h h7 := (e5.tr (sT_c e6' (by decide) (by decide))).tr (sT_c e7' (by decide) (by decide))
        rw [t7.1.g17, t7.1.g16]
        refine ⟨t7.1.ok, by decide, t7.1.ok, by decide, sp_compareRows u7' z43 ?_⟩
        -- what under and upper say
        have hund : lv ev m (10 * b) ↔ (ord m (10 * b) < 0 ∨ (ord m (10 * b) = 0 ∧ ev ≠ 0)) := by
          unfold lv ord
          constructor
          · rintro (y | ⟨y1, y2⟩)
            · left; rw [if_pos y]; decide
            · right; rw [if_neg (by omega), if_pos y2]; exact ⟨rfl, y1⟩
          · rintro (y | ⟨y1, y2⟩)
            · left
              split at y
              · assumption
              · split at y <;> omega
            · right
              refine ⟨y2, ?_⟩
              split at y1
              · omega
              · split at y1
                · assumption
                · omega
        have hupp : lv ev w (m + 10 * a) ↔ (ord (w - m) (10 * a) < 0 ∨ (ord (w - m) (10 * a) = 0 ∧ ev ≠ 0)) := by
          unfold lv ord
          constructor
          · rintro (y | ⟨y1, y2⟩)
            · left; rw [if_pos (by omega)]; decide
            · right; rw [if_neg (by omega), if_pos (by omega)]; exact ⟨rfl, y1⟩
          · rintro (y | ⟨y1, y2⟩)
            · left
              split at y
              · omega
              · split at y <;> omega
            · right
              refine ⟨y2, ?_⟩
              split at y1
              · omega
              · split at y1
                · omega
                · omega
        -- one digit more, or the last
        have w625 : ∀ us up : Int, (us = 1 ∧ lv ev m (10 * b) ∨ us = 0 ∧ ¬ lv ev m (10 * b)) → (up = 1 ∧ lv ev w (m + 10 * a) ∨ up = 0 ∧ ¬ lv ev w (m + 10 * a)) → X9_shortest_w625 G k 26 ev rn sn s3 s4 p q tn us up n h7 := by
          intro us up hus hup
          have w661 : (us = 1 ∨ up = 1) → X9_shortest_w661 G k 26 rn p q tn us up n h7 := by
            intro hone
            have hany : lv ev m (10 * b) ∨ lv ev w (m + 10 * a) := by
              rcases hone with y | y
              · left
                rcases hus with z | z
                · exact z.2
                · omega
              · right
                rcases hup with z | z
                · exact z.2
                · omega
            have hlast : D = [] ∧ ((lv ev w (m + 10 * a) ∧ (¬ lv ev m (10 * b) ∨ nr m w q) ∧ d = q + 1) ∨ (¬ (lv ev w (m + 10 * a) ∧ (¬ lv ev m (10 * b) ∨ nr m w q)) ∧ d = q)) := by
              rcases hgen with y | y
              · exact absurd hany y.1
              · exact y.2
            obtain ⟨hD0, hdd⟩ := hlast
            subst hD0
            have w730 : ∀ x : Int, x = d → X9_shortest_w730 G k 26 x 26 p n h7 := by
              intro x hx
              have hd9 : (d = 10 ∧ F = []) ∨ d ≤ 9 := by
                rcases hD with ⟨y1, y2⟩ | y
                · left; exact ⟨by injection y1, y2⟩
                · right; exact y d (List.mem_singleton.mpr rfl)
              have hd0 : 0 ≤ d := by
                rcases hdd with y | y
                · have := y.2.2; omega
                · have := y.2; omega
              refine X9_shortest_b730 (n0 := 0) C E 26 x 26 p n h7 ⟨t7.1.ok, sp_put t7 f7 (by have : F.length + 1 ≤ 23 := hF; omega) (by omega) (by rw [hx]; rcases hd9 with y | y; exact Or.inr y; exact Or.inl y) (fun h8 F' r8 e8 t8 f8 hF8 => ⟨t8.1.ok, sp_placed t8 f8 (by omega) ?_ ?_ (fun h9 X e9 hX t9 => hp h9 X F' (p + r8) ?_ ?_ hX t9)⟩)⟩
              · rcases hF8 with y | y <;> omega
              · rcases hF8 with y | y <;> omega
              · exact (e07.tr (e8.mono (fun i hi => by
                  rcases hi with z | z
                  · exact Or.inl z
                  · exact Or.inr (by omega)))).tr (sT_S e9)
              · rw [hx] at hF8
                rcases hF8 with ⟨y1, y2, y3⟩ | ⟨y1, y2, y3⟩
                · right
                  refine ⟨y2, by rw [y3, Int.add_zero], fun x hx2 => ?_⟩
                  rw [List.mem_singleton.mp hx2]; exact y1
                · left
                  rcases hd9 with y | y
                  · exact ⟨by rw [y1], y.2, y2, by rw [y3]⟩
                  · omega
            have w711 : ∀ s0 : Int, (s0 = 1 ∧ d = q + 1 ∨ s0 = 0 ∧ d = q) → X9_shortest_w711 G k 26 p q s0 n h7 := by
              intro s0 hs0
              refine X9_shortest_b711 (n0 := 0) C E 26 p q s0 n h7 ⟨by rcases hs0 with y | y <;> rw [y.1] <;> exact rgS (by decide) (by decide), fun y => w730 q (by omega), fun y => w730 (q + 1) (by omega)⟩
            have w706 : d = q + 1 → X9_shortest_w706 G k 26 p q n h7 := fun y => X9_shortest_b706 (n0 := 0) C E 26 p q n h7 (w711 1 (Or.inl ⟨rfl, y⟩))
            have w710 : d = q → X9_shortest_w710 G k 26 p q n h7 := fun y => X9_shortest_b710 (n0 := 0) C E 26 p q n h7 (w711 0 (Or.inr ⟨rfl, y⟩))
            have dup : (¬ lv ev m (10 * b) ∨ (lv ev w (m + 10 * a) ∧ nr m w q)) → d = q + 1 := by
              intro y
              rcases hdd with z | z
              · exact z.2.2
              · exfalso
                apply z.1
                rcases y with y | y
                · rcases hany with z2 | z2
                  · exact absurd z2 y
                  · exact ⟨z2, Or.inl y⟩
                · exact ⟨y.1, Or.inr y.2⟩
            have ddn : lv ev m (10 * b) → ¬ (lv ev w (m + 10 * a) ∧ nr m w q) → d = q := by
              intro y1 y2
              rcases hdd with z | z
              · exfalso
                rcases z.2.1 with z2 | z2
                · exact z2 y1
                · exact y2 ⟨z.1, z2⟩
              · exact z.2
            refine X9_shortest_b661 (n0 := 0) C E 26 rn p q tn us up n h7 ?_
            rw [t7.1.g13, t7.1.g17]
            have rus : rg us := by rcases hus with y | y <;> rw [y.1] <;> exact rgS (by decide) (by decide)
            have rup : rg up := by rcases hup with y | y <;> rw [y.1] <;> exact rgS (by decide) (by decide)
            have tq2 := (tdm q0 2).2
            refine ⟨t7.1.ok, by decide, t7.1.ok, by decide, sp_compareRows z40 u7' ⟨rus, fun y => w706 (dup (Or.inl ?_)), fun y => ⟨rup, fun y2 => w710 (ddn ?_ ?_), fun y2 => ⟨rg_ord _ _, fun y3 => w706 (dup (Or.inr ⟨?_, ?_⟩)), fun y3 => ⟨rg_ord _ _, fun y4 => w710 (ddn ?_ ?_), fun y4 => ⟨⟨rgS (by omega) (by omega), rgS (by decide) (by decide), by decide⟩, ⟨by rw [tq2]; exact rgS (by omega) (by omega), rgS (by decide) (by decide)⟩, fun y5 => w710 (ddn ?_ ?_), fun y5 => w706 (dup (Or.inr ⟨?_, ?_⟩))⟩⟩⟩⟩⟩⟩
            · rcases hus with z | z
              · omega
              · exact z.2
            · rcases hus with z | z
              · exact z.2
              · exact absurd z.1 y
            · rcases hup with z | z
              · omega
              · exact fun z2 => z.2 z2.1
            · rcases hup with z | z
              · exact z.2
              · exact absurd z.1 y2
            · left
              unfold ord at y3
              split at y3
              · omega
              · split at y3 <;> omega
            · rcases hus with z | z
              · exact z.2
              · exact absurd z.1 y
            · intro z2
              unfold nr at z2
              unfold ord at y3 y4
              rcases Int.lt_trichotomy m (w - m) with z3 | z3 | z3
              · omega
              · apply y4; rw [if_neg (by omega), if_pos z3]
              · rw [if_neg (by omega), if_neg (by omega)] at y3; omega
            · rcases hus with z | z
              · exact z.2
              · exact absurd z.1 y
            · intro z2
              rw [tq2] at y5
              unfold nr at z2
              unfold ord at y4
              split at y4
              · omega
              · split at y4 <;> omega
            · rcases hup with z | z
              · exact z.2
              · exact absurd z.1 y2
            · right
              rw [tq2] at y5
              unfold ord at y4
              split at y4
              · omega
              · split at y4 <;> omega
          have rus : rg us := by rcases hus with y | y <;> rw [y.1] <;> exact rgS (by decide) (by decide)
          have rup : rg up := by rcases hup with y | y <;> rw [y.1] <;> exact rgS (by decide) (by decide)
          have g19 : hG h7 26 19 = (F.length : Int) := t7.2.2.2
          refine X9_shortest_b625 (n0 := 0) C E 26 ev rn sn s3 s4 p q tn us up n h7 ⟨rus, fun y => w661 (by omega), fun y => ⟨rup, fun y2 => w661 (by omega), fun y2 => ?_⟩⟩
          rw [t7.1.g18, g19]
          have hF1 : F.length + (D.length + 1) ≤ 23 := hF
          refine ⟨t7.1.ok, by decide, t7.1.ok, t7.1.t45.at (by omega) (by omega), fun h8 e8 => ?_⟩
          rw [Int.toNat_natCast] at e8
          have e8' : hE (sC 45) h7 h8 := hE.put' (S := sC 45) e8 rfl
          have tm8 := t7.1.mv e8' (by decide) (by decide)
          have g19' : hG h8 26 19 = (F.length : Int) := by
            show (h8 26).2.2 19 = _
            rw [(e8' 26).2.2 (by decide)]; exact t7.2.2.2
          rw [g19']
          refine ⟨tm8.ok, tm8.ok, fun h9 e9 => ?_⟩
          obtain ⟨a1, a2, a3⟩ := fd_app t7 f7 (by omega) e8 e9
          have hnone : ¬ (lv ev m (10 * b) ∨ lv ev w (m + 10 * a)) := by
            rintro (z | z)
            · rcases hus with z2 | z2
              · omega
              · exact z2.2 z
            · rcases hup with z2 | z2
              · omega
              · exact z2.2 z
          rcases hgen with ⟨y3, y4, y5⟩ | y3
          · subst y4
            have e79 : hE sT h7 h9 := a3.mono (fun i hi => by
              rcases hi with z | z
              · exact Or.inl z
              · exact Or.inr (by omega))
            have hdq : d ≤ 9 := q1
            have hD' : (D = [10] ∧ F ++ [d] = []) ∨ ∀ x, x ∈ D → x ≤ 9 := by
              right
              intro x hx
              rcases hD with ⟨z, _⟩ | z
              · have : D = [] := by injection z
                rw [this] at hx; cases hx
              · exact z x (List.mem_cons_of_mem _ hx)
            refine ih (F ++ [d]) m (10 * a) (10 * b) rn s3 s4 h9 y5 hm0 hmw (by omega) (by omega) (by rw [Int.mul_comm 10 a, ha10]; exact hab) (by rw [Int.mul_comm 10 b, hb10]; exact hbb) (by rw [List.length_append]; show F.length + 1 + D.length ≤ 23; omega) hD' (e07.tr e79) a1 a2 (z40.mv a3 (by decide)) (z41.mv a3 (by decide)) (z42.mv a3 (by decide)) (z43.mv a3 (by decide)) (fun h' X F' p' g1 g2 g3 g4 => hp h' X F' p' g1 ?_ g3 g4)
            rcases g2 with ⟨_, z2, _⟩ | ⟨z1, z2, z3⟩
            · exact absurd z2 (by simp)
            · right
              refine ⟨by rw [z1]; simp, z2, fun x hx => ?_⟩
              rcases List.mem_cons.mp hx with y | y
              · rw [y]; exact hdq
              · exact z3 x y
          · exact absurd y3.1 hnone
        have w603 : ∀ us : Int, (us = 1 ∧ lv ev m (10 * b) ∨ us = 0 ∧ ¬ lv ev m (10 * b)) → X9_shortest_w603 G k 26 ev rn sn s3 s4 p q tn (ord (w - m) (10 * a)) us n h7 := by
          intro us hus
          have w620 : lv ev w (m + 10 * a) → X9_shortest_w620 G k 26 ev rn sn s3 s4 p q tn us n h7 := fun y => X9_shortest_b620 (n0 := 0) C E 26 ev rn sn s3 s4 p q tn us n h7 (w625 us 1 hus (Or.inl ⟨rfl, y⟩))
          have w624 : ¬ lv ev w (m + 10 * a) → X9_shortest_w624 G k 26 ev rn sn s3 s4 p q tn us n h7 := fun y => X9_shortest_b624 (n0 := 0) C E 26 ev rn sn s3 s4 p q tn us n h7 (w625 us 0 hus (Or.inr ⟨rfl, y⟩))
          refine X9_shortest_b603 (n0 := 0) C E 26 ev rn sn s3 s4 p q tn _ us n h7 ⟨rg_ord _ _, fun y => w620 (hupp.mpr (Or.inl y)), fun y => ⟨rg_ord _ _, fun y2 => w624 (fun z => ?_), fun y2 => ⟨by rcases hev with z | z <;> rw [z] <;> exact rgS (by decide) (by decide), fun y3 => w624 (fun z => ?_), fun y3 => w620 (hupp.mpr (Or.inr ⟨y2, y3⟩))⟩⟩⟩
          · rcases hupp.mp z with z2 | z2
            · exact y z2
            · exact y2 z2.1
          · rcases hupp.mp z with z2 | z2
            · exact y z2
            · exact z2.2 y3
        have w598 : lv ev m (10 * b) → X9_shortest_w598 G k 26 ev rn sn s3 s4 p q tn (ord (w - m) (10 * a)) n h7 := fun y => X9_shortest_b598 (n0 := 0) C E 26 ev rn sn s3 s4 p q tn _ n h7 (w603 1 (Or.inl ⟨rfl, y⟩))
        have w602 : ¬ lv ev m (10 * b) → X9_shortest_w602 G k 26 ev rn sn s3 s4 p q tn (ord (w - m) (10 * a)) n h7 := fun y => X9_shortest_b602 (n0 := 0) C E 26 ev rn sn s3 s4 p q tn _ n h7 (w603 0 (Or.inr ⟨rfl, y⟩))
        refine ⟨rg_ord _ _, fun y => w598 (hund.mpr (Or.inl y)), fun y => ⟨rg_ord _ _, fun y2 => w602 (fun z => ?_), fun y2 => ⟨by rcases hev with z | z <;> rw [z] <;> exact rgS (by decide) (by decide), fun y3 => w602 (fun z => ?_), fun y3 => w598 (hund.mpr (Or.inr ⟨y2, y3⟩))⟩⟩⟩
        · rcases hund.mp z with z2 | z2
          · exact y z2
          · exact y2 z2.1
        · rcases hund.mp z with z2 | z2
          · exact y z2
          · exact z2.2 y3
      · exfalso
        apply z
        unfold ord
        rw [if_pos hmw]; decide
    -- the digit is counted
    suffices K : ∀ (u j : Nat) (y : Int) (rn : Nat) (h5 : xH), ((j + u : Nat) : Int) = q → y = 10 * r - j * w → hE sT h h5 → isWr n h5 L (F.length : Int) tl nm → isFd h5 F → isT n h5 40 200 rn y → isT n h5 41 200 sn w → isT n h5 42 200 s3 (10 * b) → isT n h5 43 200 s4 (10 * a) → X9_shortest_w451 G k 26 ev rn sn s3 s4 p j n h5 from K q.toNat 0 (10 * r) s2 h4 (by omega) (by show _ = 10 * r - ((0 : Nat) : Int) * w; rw [show ((0 : Nat) : Int) = 0 from rfl, Int.zero_mul]; omega) e04 t4 f4 v40 v41 v42 v43
    intro u
    induction u with
    | zero =>
      intro j y rn h5 hj hy e5 t5 f5 y40 y41 y42 y43
      have hjq : (j : Int) = q := by omega
      have hym : y = m := by rw [hy, hm, hjq]
      rw [hjq]
      rw [hym] at y40
      exact aft rn h5 e5 t5 f5 y40 y41 y42 y43
    | succ u ihu =>
      intro j y rn h5 hj hy e5 t5 f5 y40 y41 y42 y43
      have hq1 : ((j + 1 : Nat) : Int) * w ≤ q * w := Int.mul_le_mul_of_nonneg_right (by omega) (by omega)
      have hj1 : ((j + 1 : Nat) : Int) * w = (j : Int) * w + w := by rw [show ((j + 1 : Nat) : Int) = (j : Int) + 1 by omega, Int.add_mul, Int.one_mul]
      have hjw : 0 ≤ (j : Int) * w := Int.mul_nonneg (by omega) (by omega)
      have hwy : w ≤ y := by omega
      have hy10 : y < 10 * w := by omega
      refine X9_shortest_b451 (n0 := 0) C E 26 ev rn sn s3 s4 p j n h5 ?_
      rw [t5.1.g13, t5.1.g14]
      refine ⟨t5.1.ok, by decide, t5.1.ok, by decide, sp_compareRows y40 y41 ⟨rg_ord _ _, fun z => ?_, fun _ => ?_⟩⟩
      · exfalso
        unfold ord at z
        rw [if_neg (by omega)] at z
        split at z <;> omega
      · have hrn : rn ≤ 190 := y40.len (by omega)
        rw [t5.1.g13]
        refine ⟨t5.1.ok, by decide, y40.1.at (by omega) (by omega), fun h6 e6 => ?_⟩
        rw [Int.toNat_natCast] at e6
        have e6' : hE (sC 40) h5 h6 := hE.put' (S := sC 40) e6 rfl
        have t6 := t5.mv e6' (by decide) (by decide) (by decide)
        have hg6 : ∀ i, (h6 40).2.2 i = if i = rn then 0 else (h5 40).2.2 i := fun i => by
          rw [e6, hS_g]
          simp
        have x40 : isT n h6 40 200 rn y := by
          refine ⟨y40.1.mv e6', y40.2.1, fun i hi => ?_, ?_, fun i hi => ?_⟩
          · rw [hg6, if_neg (by omega)]; exact y40.2.2.1 i hi
          · rw [← y40.2.2.2.1]; exact rv_congr (fun i hi => by rw [hg6, if_neg (by omega)])
          · rw [hg6, if_neg (by omega)]; exact y40.2.2.2.2 i hi
        have x41 := y41.mv e6' (by decide)
        rw [t6.1.g13, t6.1.g14]
        refine ⟨t6.1.ok, by decide, t6.1.ok, by decide, sp_sub1 x40 x41 hw hwy hy10 (by omega) (by rw [hg6, if_pos rfl]) (fun z7 h7 e7 d7 v7 => ?_)⟩
        have t7 := t6.mv e7 (by decide) (by decide) (by decide)
        rw [t7.1.g13]
        refine ⟨t7.1.ok, by decide, sp_used rn (x40.1.mv e7) (by omega) d7 (fun r8 hr8 u8 _ => ?_)⟩
        have u8' : isT n h7 40 200 r8 (y - w) := by
          rw [← v7]; exact u8
        have := ihu (j + 1) (y - w) r8 h7 (by omega) (by rw [hj1, hy]; omega) ((e5.tr (sT_c e6' (by decide) (by decide))).tr (sT_c e7 (by decide) (by decide))) t7 ((f5.mv e6' (by decide)).mv e7 (by decide)) u8' (x41.mv e7 (by decide)) ((y42.mv e6' (by decide)).mv e7 (by decide)) ((y43.mv e6' (by decide)).mv e7 (by decide))
        rw [show ((j + 1 : Nat) : Int) = (j : Int) + 1 by omega] at this
        exact this
