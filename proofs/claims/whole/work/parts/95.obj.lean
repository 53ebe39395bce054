/-! THE MODEL'S NUMBERS: whole ones, fractions, doubles -/
theorem sp_initW {G : xG} {l : Launch} {n : Nat} {h : xH} {a b : Nat} {x : Int} {Po : xH → Prop} (ok : okO n h a 7) (hp : ∀ h', hE (sC a) h h' → (h' a).2.2 0 = x → (h' a).2.2 1 = (b : Int) → Po h') : S_X8_init G l a x b n h Po := by
  refine S_X8_init_of (fun k hl hin C E => X8_init_b0 C E hin a x b n h rfl (S_X5_init_of (fun k2 hl2 hin2 C2 E2 => X5_init_b0 C2 E2 hin2 a n h rfl ⟨ok, fun h3 e3 => ⟨⟨ok.1, by rw [e3, hS_k]; exact ok.2⟩, fun h5 e5 => hp h5 ((hE.put' (S := sC a) e3 rfl).tr (hE.put' (S := sC a) e5 rfl)) ?_ ?_⟩⟩)))
  · rw [e5, hS_g, if_neg (by omega), e3, hS_g, if_pos ⟨rfl, rfl⟩]
  · rw [e5, hS_g, if_pos ⟨rfl, rfl⟩]
theorem sp_initR {G : xG} {l : Launch} {n : Nat} {h : xH} {a b c : Nat} {Po : xH → Prop} (ok : okO n h a 5) (hp : ∀ h', hE (sC a) h h' → (h' a).2.2 0 = (b : Int) → (h' a).2.2 1 = (c : Int) → Po h') : S_X6_init G l a b c n h Po := by
  refine S_X6_init_of (fun k hl hin C E => X6_init_b0 C E hin a b c n h rfl (S_X5_init_of (fun k2 hl2 hin2 C2 E2 => X5_init_b0 C2 E2 hin2 a n h rfl ⟨ok, fun h3 e3 => ⟨⟨ok.1, by rw [e3, hS_k]; exact ok.2⟩, fun h5 e5 => hp h5 ((hE.put' (S := sC a) e3 rfl).tr (hE.put' (S := sC a) e5 rfl)) ?_ ?_⟩⟩)))
  · rw [e5, hS_g, if_neg (by omega), e3, hS_g, if_pos ⟨rfl, rfl⟩]
  · rw [e5, hS_g, if_pos ⟨rfl, rfl⟩]
theorem sp_initD {G : xG} {l : Launch} {n : Nat} {h : xH} {a : Nat} {x : UInt64} {b : Int} {Po : xH → Prop} (ok : okO n h a 6) (hb : b = 0 ∨ b = 1) (hp : ∀ h', hE (sC a) h h' → (h' a).2.2 0 = (x.toNat : Int) → (h' a).2.2 1 = b → Po h') : S_X7_init G l a x b n h Po := by
  refine S_X7_init_of (fun k hl hin C E => X7_init_b0 C E hin a x b n h rfl (S_X5_init_of (fun k2 hl2 hin2 C2 E2 => X5_init_b0 C2 E2 hin2 a n h rfl ⟨ok, fun h3 e3 => ⟨⟨ok.1, by rw [e3, hS_k]; exact ok.2⟩, hb, fun h5 e5 => hp h5 ((hE.put' (S := sC a) e3 rfl).tr (hE.put' (S := sC a) e5 rfl)) ?_ ?_⟩⟩)))
  · rw [e5, hS_g, if_neg (by omega), e3, hS_g, if_pos ⟨rfl, rfl⟩]
  · rw [e5, hS_g, if_pos ⟨rfl, rfl⟩]
/-- nothing below n changes -/
abbrev hK (n : Nat) (h h' : xH) : Prop := hF (fun _ => False) n h h'
theorem hK.eq {n : Nat} {h h' : xH} (e : hK n h h') {i : Nat} (hi : i < n) : (h' i).1 = (h i).1 ∧ (h' i).2.1 = (h i).2.1 ∧ (h' i).2.2 = (h i).2.2 := ⟨(e i hi).1, (e i hi).2.1, (e i hi).2.2 id⟩
theorem hK.tr {n m : Nat} {h h' h'' : xH} (a : hK n h h') (b : hK m h' h'') (hm : n ≤ m) : hK n h h'' := hF.tr a b hm
theorem hK.sc {n a : Nat} {h h' : xH} (e : hE (sC a) h h') (ha : n ≤ a) : hK n h h' := fun i hi => ⟨(e i).1, (e i).2.1, fun _ => (e i).2.2 (by show ¬ i = a; omega)⟩
theorem hK.nw {n : Nat} {h : xH} {X : xC} : hK n h (hN h n X) := hF.new rfl
theorem hK.f {n : Nat} {h h' : xH} {S : Nat → Prop} (e : hK n h h') : hF S n h h' := hF.mono e (fun _ _ z => z.elim)
/-- a double, made -/
def isRl (n : Nat) (h : xH) (z : Nat) (x : UInt64) (b : Int) : Prop := z < n ∧ 47 < z ∧ (h z).1 = 6 ∧ (h z).2.2 0 = (x.toNat : Int) ∧ (h z).2.2 1 = b
theorem sp_of {G : xG} {l : Launch} {n : Nat} {h : xH} {x : UInt64} {Po : Nat → Nat → xH → Prop} (hn : 47 < n) (hp : ∀ h', hK n h h' → isRl (n + 1) h' n x 0 → Po n (n + 1) h') : S_X7_of G l x n h Po := by
  refine S_X7_of_of (fun k hl C E => X7_of_b0 (n0 := 0) C E x n h (fun h1 e1 => ?_))
  have ok : okO (n + 1) h1 n 6 := ⟨by omega, by rw [e1, hN_self]⟩
  refine sp_initD ok (Or.inl rfl) (fun h2 e2 f0 f1 => hp h2 ((by rw [e1]; exact hK.nw : hK n h h1).tr (hK.sc e2 (Nat.le_refl n)) (Nat.le_refl n)) ⟨by omega, hn, by rw [(e2 n).1]; exact ok.2, f0, f1⟩)
/-- a whole number: its cell, its row's, how many digits, its sign, its absolute value -/
def isWh (n : Nat) (h : xH) (z r s : Nat) (sg v : Int) : Prop := z < n ∧ 47 < z ∧ 47 < r ∧ (h z).1 = 7 ∧ (h z).2.2 0 = sg ∧ (h z).2.2 1 = (r : Int) ∧ isT n h r s s v ∧ s ≤ 440 ∧ ((v = 0 ∧ sg = 0) ∨ (0 < v ∧ (sg = 1 ∨ sg = -1)))
theorem isWh.ok {n : Nat} {h : xH} {z r s : Nat} {sg v : Int} (t : isWh n h z r s sg v) : okO n h z 7 := ⟨t.1, t.2.2.2.1⟩
theorem isWh.f0 {n : Nat} {h : xH} {z r s : Nat} {sg v : Int} (t : isWh n h z r s sg v) : hG h z 0 = sg := t.2.2.2.2.1
theorem isWh.f1 {n : Nat} {h : xH} {z r s : Nat} {sg v : Int} (t : isWh n h z r s sg v) : hG h z 1 = (r : Int) := t.2.2.2.2.2.1
theorem isWh.row {n : Nat} {h : xH} {z r s : Nat} {sg v : Int} (t : isWh n h z r s sg v) : isT n h r s s v := t.2.2.2.2.2.2.1
theorem isWh.sg {n : Nat} {h : xH} {z r s : Nat} {sg v : Int} (t : isWh n h z r s sg v) : rg sg := by
  rcases t.2.2.2.2.2.2.2.2 with y | y
  · rw [y.2]; exact rgS (by decide) (by decide)
  · rcases y.2 with y | y <;> rw [y] <;> exact rgS (by decide) (by decide)
theorem isWh.ln {n : Nat} {h : xH} {z r s : Nat} {sg v : Int} (t : isWh n h z r s sg v) : (h r).2.1 = s ∧ r < n ∧ (h r).1 = 100 := ⟨t.row.1.2.2.1, t.row.1.1, t.row.1.2.1⟩
theorem isWh.fr {n m' : Nat} {h h' : xH} {S : Nat → Prop} {z r s : Nat} {sg v : Int} (t : isWh n h z r s sg v) (e : hF S n h h') (hn : n ≤ m') (h0 : ¬ S z) (h1 : ¬ S r) : isWh m' h' z r s sg v := by
  obtain ⟨t1, t2, t3, t4, t5, t6, t7, t8, t9⟩ := t
  have ee := e z t1
  have e0 := ee.2.2 h0
  exact ⟨by omega, t2, t3, by rw [ee.1]; exact t4, by rw [e0]; exact t5, by rw [e0]; exact t6, t7.fr e hn h1, t8, t9⟩
theorem isWh.mv {n : Nat} {h h' : xH} {S : Nat → Prop} {z r s : Nat} {sg v : Int} (t : isWh n h z r s sg v) (e : hE S h h') (h0 : ¬ S z) (h1 : ¬ S r) : isWh n h' z r s sg v := t.fr e.f (Nat.le_refl _) h0 h1
theorem sp_zeroW {G : xG} {l : Launch} {n : Nat} {h : xH} {Po : Nat → Nat → xH → Prop} (hn : 47 < n) (hp : ∀ h', hK n h h' → isWh (n + 2) h' n (n + 1) 0 0 0 → Po n (n + 2) h') : S_X9_zero G l n h Po := by
  refine S_X9_zero_of (fun k hl C E => X9_zero_b0 (n0 := 0) C E n h (fun h1 e1 => ⟨⟨by decide, by decide⟩, fun h3 e3 => ?_⟩))
  have k1 : hK n h h1 := by rw [e1]; exact hK.nw
  have k3 : hK (n + 1) h1 h3 := by rw [e3]; exact hK.nw
  have a3 : h3 n = (7, 0, xZ 7) := by rw [e3, hN_ne _ _ (by omega), e1, hN_self]
  have b3 : h3 (n + 1) = (100, 0, fun _ => 0) := by rw [e3, hN_self]
  refine sp_initW ⟨by omega, by rw [a3]⟩ (fun h4 e4 f0 f1 => hp h4 ((k1.tr k3 (by omega)).tr (hK.sc (n := n) e4 (Nat.le_refl n)) (Nat.le_refl n)) ?_)
  refine ⟨by omega, hn, by omega, by rw [(e4 n).1, a3], f0, f1, ⟨⟨by omega, by rw [(e4 _).1, b3], by rw [(e4 _).2.1, b3], by decide⟩, by decide, fun i hi => by omega, rfl, fun t e => by omega⟩, by decide, Or.inl ⟨rfl, rfl⟩⟩
theorem emod_T {V : Int} (h : 0 ≤ V) (i : Nat) : V % 10000 ^ (i + 1) = V % 10000 ^ i + V / 10000 ^ i % 10000 * 10000 ^ i := by
  have ha := T_pos i
  have h1 := Int.mul_ediv_add_emod V (10000 ^ i)
  have h2 := Int.mul_ediv_add_emod (V / 10000 ^ i) 10000
  have h3 := Int.emod_nonneg V (show (10000 : Int) ^ i ≠ 0 by omega)
  have h4 := Int.emod_lt_of_pos V ha
  have h5 : 0 ≤ V / 10000 ^ i % 10000 * 10000 ^ i := Int.mul_nonneg (by omega) (by omega)
  have h6 : V / 10000 ^ i % 10000 * 10000 ^ i ≤ 9999 * 10000 ^ i := Int.mul_le_mul_of_nonneg_right (by omega) (by omega)
  have e : V = (V % 10000 ^ i + V / 10000 ^ i % 10000 * 10000 ^ i) + 10000 ^ (i + 1) * (V / 10000 ^ i / 10000) := by
    have e2 : 10000 ^ i * (V / 10000 ^ i) = V / 10000 ^ i % 10000 * 10000 ^ i + 10000 ^ (i + 1) * (V / 10000 ^ i / 10000) := by
      rw [T_succ, Int.mul_comm 10000 (10000 ^ i), Int.mul_assoc, Int.mul_comm (V / 10000 ^ i % 10000), ← Int.mul_add]
      congr 1
      omega
    omega
  have h7 : (V % 10000 ^ i + V / 10000 ^ i % 10000 * 10000 ^ i) < 10000 ^ (i + 1) := by rw [T_succ]; omega
  have e3 : V % 10000 ^ (i + 1) = ((V % 10000 ^ i + V / 10000 ^ i % 10000 * 10000 ^ i) + 10000 ^ (i + 1) * (V / 10000 ^ i / 10000)) % 10000 ^ (i + 1) := by rw [← e]
  rw [e3, Int.add_mul_emod_self_left, Int.emod_eq_of_lt (by omega) h7]
/-- a long as a whole number -/
theorem sp_whole {G : xG} {l : Launch} {n : Nat} {h : xH} {v : Int} {Po : Nat → Nat → xH → Prop} (hn : 47 < n) (hv : rgL v) (hp : ∀ h' z r s, hK n h h' → n ≤ z → n ≤ r → isWh (n + 2) h' z r s (if v = 0 then 0 else if 0 < v then 1 else -1) (v.natAbs : Int) → Po z (n + 2) h') : S_X9_whole G l v n h Po := by
  refine S_X9_whole_of (fun k hl C E => ?_)
  have r0 : rgL 0 := ⟨by decide, by decide⟩
  refine X9_whole_b0 (n0 := 0) C E v n h ⟨⟨hv, r0⟩, fun g => ?_, fun g => ?_⟩
  · have hv0 : v ≠ 0 := fun e => g ((lC_eq0 v 0).mpr e)
    -- how many digits
    have h105 : (10000 : Int) ^ 5 = 100000000000000000000 := by decide
    suffices K : ∀ s : Nat, s ≤ 5 → (v.natAbs : Int) < 10000 ^ s → (∀ u, s = u + 1 → (10000 : Int) ^ u ≤ v.natAbs) → ∀ h5 : xH, h5 = hN h n (100, s, fun _ => 0) → X9_whole_w42 G k v s n v 0 (n + 1) h5 by
      suffices K2 : ∀ (u i : Nat) (x : Int), i + u = 5 → (x.natAbs : Int) = v.natAbs / 10000 ^ i → (∀ w, i = w + 1 → (10000 : Int) ^ w ≤ v.natAbs) → rgL x → X9_whole_w14 G k v i x n h from K2 5 0 v rfl (by rw [Int.pow_zero, Int.ediv_one]) (fun w e => by omega) hv
      intro u
      induction u with
      | zero =>
        intro i x hi hx hw hxr
        have : i = 5 := by omega
        subst this
        have hx0 : x = 0 := by
          have : (v.natAbs : Int) / 10000 ^ 5 = 0 := Int.ediv_eq_zero_of_lt (by omega) (by rw [h105]; omega)
          omega
        refine X9_whole_b14 (n0 := 0) C E v (5 : Nat) x n h ⟨⟨hxr, r0⟩, fun _ => ⟨⟨by decide, by decide⟩, fun h5 e5 => K 5 (by decide) (by rw [h105]; omega) hw h5 e5⟩, fun g2 => absurd ((lC_eq0 x 0).mpr hx0) g2⟩
      | succ u ih =>
        intro i x hi hx hw hxr
        refine X9_whole_b14 (n0 := 0) C E v i x n h ⟨⟨hxr, r0⟩, fun g2 => ⟨⟨by omega, by omega⟩, fun h5 e5 => K i (by omega) ?_ hw h5 (by rw [e5, Int.toNat_natCast])⟩, fun g2 => ⟨⟨hxr, ⟨by decide, by decide⟩, by decide⟩, ?_⟩⟩
        · have hx0 := (lC_eq0 x 0).mp g2
          rw [hx0] at hx
          have hx' : (v.natAbs : Int) / 10000 ^ i = 0 := by rw [← hx]; rfl
          have := Int.lt_ediv_add_one_mul_self (v.natAbs : Int) (T_pos i)
          rw [hx'] at this
          omega
        · have hx0 : x ≠ 0 := fun e => g2 ((lC_eq0 x 0).mpr e)
          have hxa : ((x.tdiv 10000).natAbs : Int) = (x.natAbs : Int) / 10000 := by
            rcases Int.lt_or_le x 0 with z | z
            · obtain ⟨y, rfl⟩ : ∃ y, x = -y := ⟨-x, by omega⟩
              rw [Int.neg_tdiv, (tdm (show 0 ≤ y by omega) 10000).1]
              omega
            · rw [(tdm z 10000).1]; omega
          have := ih (i + 1) (x.tdiv 10000) (by omega) (by rw [hxa, hx, Int.ediv_ediv_of_nonneg (Int.le_of_lt (T_pos i)), Int.pow_succ]) (fun w e => ?_) ⟨by omega, by omega⟩
          · exact this
          · have : w = i := by omega
            subst this
            rcases Int.lt_or_le (v.natAbs : Int) (10000 ^ w) with y | y
            · have := Int.ediv_eq_zero_of_lt (show (0 : Int) ≤ v.natAbs by omega) y
              omega
            · exact y
    intro s hs5 hs1 hs2 h5 e5
    have k5 : hK n h h5 := by rw [e5]; exact hK.nw
    have c5 : h5 n = (100, s, fun _ => 0) := by rw [e5, hN_self]
    have y5 : tyR (n + 1) h5 n s := ⟨by omega, by rw [c5], by rw [c5], by omega⟩
    -- the digits
    suffices K3 : ∀ (u i : Nat) (x : Int) (h6 : xH), i + u = s → (x.natAbs : Int) = v.natAbs / 10000 ^ i → rgL x → hE (sC n) h5 h6 → dgt (h6 n).2.2 i → rv (h6 n).2.2 i = v.natAbs % 10000 ^ i → X9_whole_w42 G k v s n x i (n + 1) h6 from K3 s 0 v h5 (by omega) (by rw [Int.pow_zero, Int.ediv_one]) hv hE.rf (fun i hi => by omega) (by rw [Int.pow_zero, Int.emod_one]; rfl)
    intro u
    induction u with
    | zero =>
      intro i x h6 hi hx hxr e6 hd6 hv6
      have : i = s := by omega
      subst this
      rw [Int.emod_eq_of_lt (by omega) hs1] at hv6
      refine X9_whole_b42 (n0 := 0) C E v i n x i (n + 1) h6 ⟨⟨rg_nat (by omega), rg_nat (by omega)⟩, fun _ => fun h7 e7 => ⟨⟨hv, r0⟩, fun g2 => ?_, fun g2 => ?_⟩, fun g2 => by omega⟩
      all_goals
        have k7 : hK (n + 1) h6 h7 := by rw [e7]; exact hK.nw
        have c7 : h7 (n + 1) = (7, 0, xZ 7) := by rw [e7, hN_self]
        have fin : ∀ sg : Int, sg = (if v = 0 then 0 else if 0 < v then 1 else -1) → X9_whole_w105 G k n sg (n + 1) (n + 1) (n + 1 + 1) h7 := by
          intro sg hsg
          refine X9_whole_b105 (n0 := 0) C E n sg (n + 1) (n + 1) (n + 1 + 1) h7 (sp_initW ⟨by omega, by rw [c7]⟩ (fun h8 e8 f0 f1 => hp h8 (n + 1) n i (((k5.tr (hK.sc (n := n) e6 (Nat.le_refl n)) (Nat.le_refl n)).tr k7 (by omega)).tr (hK.sc (n := n) e8 (by omega)) (Nat.le_refl n)) (by omega) (Nat.le_refl n) ?_))
          have t6 : isT (n + 1) h6 n i i (v.natAbs : Int) := ⟨y5.mv e6, Nat.le_refl _, hd6, hv6, fun w e => by subst e; exact rv_top' hd6 (by rw [hv6]; exact hs2 w rfl)⟩
          refine ⟨by omega, by omega, by omega, by rw [(e8 _).1, c7], by rw [f0, hsg], f1, (t6.fr k7 (m' := n + 2) (by omega) id).mv e8 (show ¬ n = n + 1 by omega), by omega, ?_⟩
          right
          rw [if_neg hv0]
          refine ⟨by omega, ?_⟩
          split <;> simp
      · exact fin 1 (by rw [if_neg hv0, if_pos (by have := mt (lC_lt v 0).mpr (by omega); omega)])
      · exact fin (-1) (by rw [if_neg hv0, if_neg (by have := (lC_lt v 0).mp (by omega); omega)])
    | succ u ih =>
      intro i x h6 hi hx hxr e6 hd6 hv6
      have w74 : ∀ dg0 : Int, dg0 = (x.natAbs : Int) % 10000 → X9_whole_w74 G k v s n x i dg0 i n (n + 1) h6 := by
        intro dg0 hdg
        refine X9_whole_b74 (n0 := 0) C E v s n x i dg0 i n (n + 1) h6 ⟨(y5.mv e6).at (by omega) (by omega), fun h7 e7 => ⟨⟨hxr, ⟨by decide, by decide⟩, by decide⟩, ?_⟩⟩
        have hdr : rg dg0 := rgS (by omega) (by omega)
        rw [Int.toNat_natCast, show w32 dg0 = dg0 from by unfold w32; exact Int.bmod_eq_of_le (by omega) (by omega)] at e7
        have hg7 : ∀ j, (h7 n).2.2 j = if j = i then dg0 else (h6 n).2.2 j := fun j => by rw [e7, hS_g]; simp
        have hxa : ((x.tdiv 10000).natAbs : Int) = (x.natAbs : Int) / 10000 := by
          rcases Int.lt_or_le x 0 with z | z
          · obtain ⟨y, rfl⟩ : ∃ y, x = -y := ⟨-x, by omega⟩
            rw [Int.neg_tdiv, (tdm (show 0 ≤ y by omega) 10000).1]
            omega
          · rw [(tdm z 10000).1]; omega
        refine ih (i + 1) (x.tdiv 10000) h7 (by omega) (by rw [hxa, hx, Int.ediv_ediv_of_nonneg (Int.le_of_lt (T_pos i)), Int.pow_succ]) ⟨by omega, by omega⟩ (e6.tr (hE.put' (S := sC n) e7 rfl)) (fun j hj => ?_) ?_
        · rw [hg7]
          split
          · omega
          · exact hd6 j (by omega)
        · rw [rv_s, hg7, if_pos rfl, rv_congr (g := (h6 n).2.2) (fun j hj => by rw [hg7, if_neg (by omega)]), hv6, hdg, hx]
          exact (emod_T (by omega) i).symm
      refine X9_whole_b42 (n0 := 0) C E v s n x i (n + 1) h6 ⟨⟨rg_nat (by omega), rg_nat (by omega)⟩, fun g2 => by omega, fun _ => ?_⟩
      have hxm : ((x.tmod 10000).natAbs : Int) = (x.natAbs : Int) % 10000 ∧ -10000 < x.tmod 10000 ∧ x.tmod 10000 < 10000 := by
        rcases Int.lt_or_le x 0 with z | z
        · obtain ⟨y, rfl⟩ : ∃ y, x = -y := ⟨-x, by omega⟩
          rw [Int.neg_tmod, (tdm (show 0 ≤ y by omega) 10000).2]
          omega
        · rw [(tdm z 10000).2]; omega
      refine ⟨⟨hxr, ⟨by decide, by decide⟩, by decide⟩, ⟨⟨by omega, by omega⟩, r0⟩, fun g2 => w74 _ ?_, fun g2 => w74 _ ?_⟩
      · have := mt (lC_lt (x.tmod 10000) 0).mpr (by omega)
        omega
      · have := (lC_lt (x.tmod 10000) 0).mp (by omega)
        omega
  · have hv0 := (lC_eq0 v 0).mp g
    refine sp_zeroW hn (fun h' e t => hp h' n (n + 1) 0 e (Nat.le_refl _) (by omega) ?_)
    rw [if_pos hv0, hv0]
    exact t
