/-! THE MODEL: write, out, back, type, clear -/
abbrev sV : Nat → Prop := fun i => i = 26 ∨ (28 ≤ i ∧ i ≤ 46)
theorem sV_S {h h' : xH} (e : hE sS h h') : hE sV h h' := e.mono (fun i hi => by
  rcases hi with z | z
  · exact Or.inl z
  · exact Or.inr (by omega))
theorem sV_ok : ∀ i, 47 < i → ¬ sV i := fun i hi => by rintro (z | z) <;> omega
/-- the model's digits D and place p, and the digits L and point pt that both write -/
def shR (c q p : Int) (D L : List Int) (pt : Int) : Prop := -400 ≤ p ∧ p ≤ 400 ∧ RM c q p < WM c q p ∧ WM c q p ≤ 10 * RM c q p ∧ genR (WM c q p) (evf c) D (RM c q p) (AM c q p) (BM c q p) ∧ D.length ≤ 20 ∧ ((D = [10] ∧ L = [1] ∧ pt = p + 1) ∨ (L = D ∧ pt = p ∧ ∀ x, x ∈ D → x ≤ 9))
theorem str5 : lStr 5 = 43 :: lStr 0 := by decide
theorem str6 : lStr 6 = 45 :: lStr 0 := by decide
theorem str7 : lStr 7 = [48, 46, 48] := by decide
theorem fnW_0 : fnW [0] 1 [48, 46, 48] := Or.inl ⟨by decide, by decide, by decide⟩
theorem sp_sayRealF {G : xG} {l : Launch} {n : Nat} {h : xH} {x : UInt64} {s : Bool} {c : Nat} {q fc tl nm pt : Int} {L F : List Int} {Po : Nat → xH → Prop} (hx : vl x = .fin s c q) (t : isWr n h L fc tl nm) (hL : L.length + 310 ≤ 8200) (hz : c = 0 → F = [0] ∧ pt = 1) (hs : 0 < c → ∃ p D, shR c q p D F pt) (hp : ∀ h' n' Y fc', hF sV n h h' → n ≤ n' → n' ≤ n + 2 → fnW F pt Y → isWr n' h' (L ++ ((if s then [45] else []) ++ Y)) fc' tl nm → Po n' h') : S_X9_sayReal G l 26 x n h Po := by
  refine S_X9_sayReal_of (fun k hl C E => X9_sayReal_b0 (n0 := 0) C E 26 x n h (sp_isFiniteY hx ⟨rgS (by decide) (by decide), fun _ => ?_, fun g => by omega⟩))
  have w78 : ∀ n' h', Po n' h' → X9_sayReal_w78 G k n' h' := fun n' h' y => X9_sayReal_b78 (n0 := 0) C E n' h' y
  have hzl := dC_z (op := .l) (nn_fin hx) nn_0
  have hzg := dC_z (op := .g) (nn_fin hx) nn_0
  rw [zD_fin hx, zD_0] at hzl hzg
  have hc0 : zv c q = 0 ↔ c = 0 := by
    unfold zv
    constructor
    · intro y
      rcases Nat.mul_eq_zero.mp y with z | z
      · exact z
      · have := Nat.two_pow_pos (q + 1074).toNat; omega
    · intro y; rw [y, Nat.zero_mul]
  have w46 : ∀ (h1 : xH), hE sS h h1 → isWr n h1 (L ++ (if s then [45] else [])) fc tl nm → X9_sayReal_w46 G k 26 x n h1 := by
    intro h1 e1 t1
    have hl1 : (L ++ (if s then [45] else [])).length ≤ L.length + 1 := by rw [List.length_append]; split <;> simp
    refine X9_sayReal_b46 (n0 := 0) C E 26 x n h1 ⟨fun g => ?_, fun g => ⟨t1.1.ok, sp_sayWord t1 (by decide) (by show _ + 3 ≤ _; omega) (fun h2 e2 t2 => w78 n h2 ?_)⟩⟩
    · have hcp : 0 < c := by
        rcases Nat.eq_zero_or_pos c with y | y
        · exact absurd (hzl.2.1.mpr (by rw [hc0.mpr y]; unfold sZ; simp)) g
        · exact y
      obtain ⟨p, D, s1, s2, s3, s4, s5, s6, s7⟩ := hs hcp
      have w75 : ∀ y, vl y = .fin false c q → X9_sayReal_w75 G k y 26 n h1 := by
        intro y hy
        refine X9_sayReal_b75 (n0 := 0) C E y 26 n h1 ⟨t1.1.ok, sp_shortest hy hcp t1 (by omega) s1 s2 s3 s4 s5 s6 (by rcases s7 with z | z; exact Or.inl z.1; exact Or.inr z.2.2) (fun h2 X F2 p2 e2 hF2 hX t2 => w78 (n + 2) h2 (hp h2 (n + 2) X _ ?_ (by omega) (by omega) ?_ (by rw [List.append_assoc] at t2; exact t2)))⟩
        · exact (sV_S e1).f.tr (e2.mono (fun i _ hi => by
            rcases hi with z | z
            · exact Or.inl z
            · exact Or.inr (by omega))) (Nat.le_refl _)
        · rcases s7 with ⟨z1, z2, z3⟩ | ⟨z1, z2, z3⟩
          · rcases hF2 with ⟨y1, y2, y3⟩ | ⟨y1, y2, y3⟩
            · rw [z2, z3]; rw [y2, y3] at hX; exact hX
            · have := y3 10 (by rw [z1]; exact List.mem_singleton.mpr rfl)
              omega
          · rcases hF2 with ⟨y1, y2, y3⟩ | ⟨y1, y2, y3⟩
            · have := z3 10 (by rw [y1]; exact List.mem_singleton.mpr rfl)
              omega
            · rw [z1, z2]; rw [y1, y2] at hX; exact hX
      have hzp : 0 < zv c q := Nat.mul_pos hcp (Nat.two_pow_pos _)
      refine ⟨fun g2 => w75 x ?_, fun g2 => w75 _ ?_⟩
      · cases s with
        | false => exact hx
        | true =>
          have := hzg.1.mpr (by unfold sZ; simp; omega)
          omega
      · cases s with
        | true => exact vl_neg hx
        | false =>
          have := hzg.1.mp (by omega)
          unfold sZ at this; simp at this; omega
    · have hcz : c = 0 := by
        have := hzl.2.1.mp g
        refine hc0.mp ?_
        unfold sZ at this
        split at this <;> omega
      obtain ⟨f1, f2⟩ := hz hcz
      refine hp h2 n [48, 46, 48] fc ((sV_S (e1.tr e2)).f) (Nat.le_refl _) (by omega) (by rw [f1, f2]; exact fnW_0) ?_
      rw [str7, List.append_assoc] at t2
      exact t2
  have w40 : s = true → X9_sayReal_w40 G k 26 x n h := fun hs => X9_sayReal_b40 (n0 := 0) C E 26 x n h ⟨t.1.ok, sp_say t (by omega) (fun h1 e1 t1 => w46 h1 e1 (by rw [hs]; exact t1))⟩
  refine ⟨fun g => w40 ?_, fun g => sp_negZero hx ⟨by split <;> exact rgS (by decide) (by decide), fun g2 => w46 h hE.rf ?_, fun g2 => w40 ?_⟩⟩
  · have := hzg.1.mp g
    cases s with
    | true => rfl
    | false => unfold sZ at this; simp at this; omega
  · have hsf : s = false := by
      cases s with
      | false => rfl
      | true =>
        exfalso
        rcases Nat.eq_zero_or_pos c with y | y
        · rw [if_pos ⟨y, rfl⟩] at g2; cases g2
        · apply g
          apply hzg.1.mpr
          have hzp : 0 < zv c q := Nat.mul_pos y (Nat.two_pow_pos _)
          unfold sZ; simp; omega
    rw [hsf]
    show isWr n h (L ++ []) fc tl nm
    rw [List.append_nil]; exact t
  · split at g2
    · rename_i hh; exact hh.2
    · exact absurd rfl g2
theorem sp_sayRealI {G : xG} {l : Launch} {n : Nat} {h : xH} {x : UInt64} {s : Bool} {fc tl nm : Int} {L : List Int} {Po : Nat → xH → Prop} (hx : vl x = .inf s) (t : isWr n h L fc tl nm) (hL : L.length + 310 ≤ 8200) (hp : ∀ h', hE sS h h' → isWr n h' (L ++ ((if s then 45 else 43) :: lStr 0)) fc tl nm → Po n h') : S_X9_sayReal G l 26 x n h Po := by
  refine S_X9_sayReal_of (fun k hl C E => X9_sayReal_b0 (n0 := 0) C E 26 x n h (sp_isFiniteN hx ⟨rgS (by decide) (by decide), fun g => absurd rfl g, fun _ => ?_⟩))
  have hz := dC_z (op := .l) (nn_inf hx) nn_0
  rw [zD_inf hx, zD_0] at hz
  have hb := Nat.two_pow_pos 2098
  generalize 2 ^ 2098 = T at hz hb
  have w21 : ∀ j : Nat, j < 8 → xLen.getD j 0 = 6 → lStr j = (if s then 45 else 43) :: lStr 0 → X9_sayReal_w21 G k j 26 n h := fun j hj hjl hjs => X9_sayReal_b21 (n0 := 0) C E j 26 n h ⟨t.1.ok, sp_sayWord t hj (by rw [hjl]; omega) (fun h1 e1 t1 => X9_sayReal_b78 (n0 := 0) C E n h1 (hp h1 e1 (by rw [← hjs]; exact t1)))⟩
  refine ⟨fun g => w21 6 (by decide) rfl ?_, fun g => w21 5 (by decide) rfl ?_⟩
  · have hs : s = true := by
      cases s with
      | true => rfl
      | false =>
        have := hz.2.2.mpr (by unfold sZ; simp; omega)
        omega
    rw [hs]; exact str6
  · have hs : s = false := by
      cases s with
      | false => rfl
      | true =>
        have := hz.2.2.mp (by omega)
        unfold sZ at this; simp at this; omega
    rw [hs]; exact str5
theorem sp_writeM {G : xG} {l : Launch} {n : Nat} {h : xH} {wl tl z kd mn un pl v w b pt : Int} {F : List Int} {Po : Int → Nat → xH → Prop} (tm : isM n h wl tl z) (t : nuM n h z kd mn un pl v w) (hb : rg b) (hsh : kd = 2 → (un = 0 → F = [0] ∧ pt = 1) ∧ (0 < un → ∃ p D, shR un pl p D F pt)) (hn : noW b kd → Po (-1) n h) (hy : ¬ noW b kd → ∀ n' h' X fc, n ≤ n' → n' ≤ n + 2 → hF sV n h h' → outW b kd mn v w F pt X → isWr n' h' X fc tl z → Po (X.length : Int) n' h') : S_X9_write G l 26 b n h Po := by
  refine S_X9_write_of (fun k hl C E => ?_)
  have h47 : 47 < n := tm.1.1
  have w31 : noW b kd → X9_write_w31 G k n h := fun y => X9_write_b31 (n0 := 0) C E n h (hn y)
  have w119 : ¬ noW b kd → ∀ n' h' X fc, n ≤ n' → n' ≤ n + 2 → hF sV n h h' → outW b kd mn v w F pt X → isWr n' h' X fc tl z → X9_write_w119 G k 26 n' h' := by
    intro g n' h' X fc g1 g2 g3 g4 g5
    refine X9_write_b119 (n0 := 0) C E 26 n' h' ⟨g5.1.ok, ?_⟩
    rw [g5.1.g21]
    exact hy g n' h' X fc g1 g2 g3 g4 g5
  -- the number is written
  have w33 : ¬ noW b kd → X9_write_w33 G k 26 b n h := by
    intro g
    refine X9_write_b33 (n0 := 0) C E 26 b n h ⟨tm.ok, fun h2 e2 => ?_⟩
    have e2' := hE26 e2
    have tm2 : isM n h2 0 tl z := tm.set e2 (by decide)
    have t2 : nuM n h2 z kd mn un pl v w := t.fr e2'.f (Nat.le_refl _) (fun i hi => show ¬ i = 26 by omega)
    have wr2 : isWr n h2 [] ((h2 26).2.2 19) tl z := ⟨tm2, by decide, fun i hi => absurd hi (Nat.not_lt_zero _), rfl⟩
    have f2 : hF sV n h h2 := (e2'.mono (fun i hi => Or.inl hi) : hE sV h h2).f
    rcases t2 with ⟨t1, _, _⟩ | ⟨zn, rfl, tmn, t2 | t2 | t2 | t2⟩
    · exact absurd (Or.inl t1) g
    · obtain ⟨t1, tex, tv, tw, tvw, bv, bw⟩ := t2
      have hb216 : 2 ≤ b ∧ b ≤ 16 := by
        rcases Classical.em (2 ≤ b ∧ b ≤ 16) with y | y
        · exact y
        · exact absurd (Or.inr (Or.inl ⟨t1, y⟩)) g
      refine ⟨tm2.ok, sp_isDoubleN tm2 tex ⟨rgS (by decide) (by decide), fun y => absurd rfl y, fun _ => ?_⟩⟩
      rw [tm2.g25]
      refine ⟨tm2.ok, sp_above tex (fun za ra sa ta _ => ⟨tm2.ok, sp_sayWhole wr2 ta hb216.1 hb216.2 (by show ((0 : Nat) : Int) + _ + _ ≤ _; omega) (fun h3 A e3 hA t3 => ?_)⟩)⟩
      rw [List.nil_append] at t3
      have hsgn : (if (if v = 0 then (0 : Int) else if mn = 0 then 1 else -1) < 0 then [(45 : Int)] else []) = if mn = 0 then [] else [45] := by
        rcases tmn with e | e
        · rw [e]; by_cases hv : v = 0 <;> simp [hv]
        · have hv : v ≠ 0 := fun y => by have := (tvw y).1; omega
          rw [e]; simp [hv]
      rw [hsgn] at t3
      have e3' : hE sV h2 h3 := e3.mono (fun i hi => by show _ ∨ _; omega)
      have f3 : hF sV n h h3 := f2.tr (e3'.f (n := n)) (Nat.le_refl _)
      have tex3 := tex.mv e3 (fun i hi => by omega)
      have hAl := wrR_len hb216.1 hA
      rw [t3.1.g25, xI_at]
      refine ⟨t3.1.ok, tex3.any, by split <;> exact rgS (by decide) (by decide), fun y => ?_, fun y => ?_⟩
      · have hw1 : w = 1 := by
          rcases tex3.kd.2.2 with y2 | y2
          · exact y2.2
          · rw [if_pos y2.1] at y; cases y
        refine w119 g n h3 _ _ (Nat.le_refl _) (by omega) f3 (Or.inl ⟨t1, A, [49], hA, ?_, ?_⟩) t3
        · right
          rw [hw1]
          refine ⟨by decide, by decide, ?_, ?_⟩
          · rw [Int.emod_eq_of_lt (by decide) (by omega)]; rfl
          · show (1 : Int) / b = 0
            rw [Int.ediv_eq_zero_of_lt (by decide) (by omega)]
        · rw [if_pos hw1, List.append_nil]
      · have hw1 : 1 < w := by
          rcases tex3.kd.2.2 with y2 | y2
          · rw [if_neg (by rw [y2.1]; decide)] at y; exact absurd rfl y
          · exact y2.2
        have hv0 : v ≠ 0 := fun y2 => by have := (tvw y2).2; omega
        rw [if_neg hv0] at hAl
        have hl3 : ((if mn = 0 then ([] : List Int) else [45]) ++ A).length ≤ 4097 := by
          rw [List.length_append]
          split <;> simp <;> omega
        refine ⟨t3.1.ok, sp_say t3 (by omega) (fun h4 e4 t4 => ?_)⟩
        have tex4 := tex3.mv e4 (fun i hi => by show ¬ (i = 26 ∨ i = 46); omega)
        rw [t4.1.g25]
        refine ⟨t4.1.ok, sp_below h47 tex4 (fun h5 n5 zb rb sb k5 hn5 hn6 hn7 tb => ?_)⟩
        have hn5' := hn7 hw1
        subst hn5'
        have t5 := t4.fr (S := fun _ => False) k5 (Nat.le_refl _) id id id
        refine ⟨t5.1.ok, sp_sayWhole t5 tb hb216.1 hb216.2 (by rw [List.length_append]; show ((_ + 1 : Nat) : Int) + _ + _ ≤ _; omega) (fun h6 B e6 hB t6 => ?_)⟩
        rw [if_neg (show ¬ (1 : Int) < 0 by decide), List.nil_append] at t6
        refine w119 g n5 h6 _ _ (Nat.le_refl _) (by omega) ?_ (Or.inl ⟨t1, A, B, hA, hB, ?_⟩) t6
        · exact ((f3.tr ((sV_S e4).f (n := n5)) (Nat.le_refl _)).tr (hK.f k5) (Nat.le_refl _)).tr ((e6.mono (fun i hi => by show _ ∨ _; omega) : hE sV h5 h6).f (n := n5)) (Nat.le_refl _)
        · have hw2 : ¬ w = 1 := by omega
          simp only [if_neg hw2]; simp
    · obtain ⟨t1, x, c, q, tr, tx, tu, tp⟩ := t2
      refine ⟨tm2.ok, sp_isDoubleY tm2 tr ⟨rgS (by decide) (by decide), fun _ => ?_, fun y => by omega⟩⟩
      have f1 : hG h2 zn 1 = 0 := tr.2.2.2.2
      rw [tm2.g25, Int.toNat_natCast, f1]
      obtain ⟨hs1, hs2⟩ := hsh t1
      refine ⟨tm2.ok, Or.inr ⟨tr.1, tr.2.2.1⟩, by omega, ⟨tr.1, tr.2.2.1⟩, rgS (by decide) (by decide), fun _ => ⟨tm2.ok, sp_value tm2 tr ⟨tm2.ok, sp_sayRealF tx wr2 (by decide) (fun y => hs1 (by rw [tu, y]; rfl)) (fun y => by
        obtain ⟨p, D, hh⟩ := hs2 (by rw [tu]; omega)
        rw [tu, tp] at hh
        exact ⟨p, D, hh⟩) (fun h3 n3 Y fc3 e3 hn3 hn4 hY t3 => ?_)⟩⟩, fun y => absurd rfl y⟩
      rw [List.nil_append] at t3
      refine w119 g n3 h3 _ fc3 hn3 hn4 (f2.tr e3 (Nat.le_refl _)) (Or.inr (Or.inl ⟨t1, Y, hY, ?_⟩)) t3
      unfold sgB
      rcases tmn with e | e <;> rw [e] <;> rfl
    · obtain ⟨t1, x, tr, tx⟩ := t2
      refine ⟨tm2.ok, sp_isDoubleY tm2 tr ⟨rgS (by decide) (by decide), fun _ => ?_, fun y => by omega⟩⟩
      have f1 : hG h2 zn 1 = 0 := tr.2.2.2.2
      rw [tm2.g25, Int.toNat_natCast, f1]
      refine ⟨tm2.ok, Or.inr ⟨tr.1, tr.2.2.1⟩, by omega, ⟨tr.1, tr.2.2.1⟩, rgS (by decide) (by decide), fun _ => ⟨tm2.ok, sp_value tm2 tr ⟨tm2.ok, sp_sayRealI tx wr2 (by decide) (fun h3 e3 t3 => ?_)⟩⟩, fun y => absurd rfl y⟩
      rw [List.nil_append] at t3
      refine w119 g n h3 _ _ (Nat.le_refl _) (by omega) (f2.tr ((sV_S e3).f (n := n)) (Nat.le_refl _)) (Or.inr (Or.inr (Or.inl ⟨t1, ?_⟩))) t3
      unfold sgB
      rcases tmn with e | e <;> rw [e] <;> rfl
    · obtain ⟨t1, tmn0, x, tr⟩ := t2
      refine ⟨tm2.ok, sp_isDoubleY tm2 tr ⟨rgS (by decide) (by decide), fun _ => ?_, fun y => by omega⟩⟩
      have f1 : hG h2 zn 1 = 1 := tr.2.2.2.2
      rw [tm2.g25, Int.toNat_natCast, f1]
      refine ⟨tm2.ok, Or.inr ⟨tr.1, tr.2.2.1⟩, by omega, ⟨tr.1, tr.2.2.1⟩, rgS (by decide) (by decide), fun y => by omega, fun _ => ⟨tm2.ok, sp_sayWord wr2 (by decide) (by decide) (fun h3 e3 t3 => ?_)⟩⟩
      rw [List.nil_append] at t3
      exact w119 g n h3 _ _ (Nat.le_refl _) (by omega) (f2.tr ((sV_S e3).f (n := n)) (Nat.le_refl _)) (Or.inr (Or.inr (Or.inr ⟨t1, rfl⟩))) t3
  refine X9_write_b0 (n0 := 0) C E 26 b n h ?_
  rw [tm.g25]
  have hkd : (kd = 0 ∧ z < 0) ∨ (kd ≠ 0 ∧ ¬ z < 0) := by
    rcases t with ⟨t1, t2, _⟩ | ⟨zn, rfl, _, t | t | t | t⟩
    · left; omega
    · right; have := t.1; omega
    · right; have := t.1; omega
    · right; have := t.1; omega
    · right; have := t.1; omega
  have fin : ¬ z < 0 → 2 ≤ b → b ≤ 16 → S_X9_isDouble G (kl k) 26 n h (fun z8 h9 => rg z8 ∧ ((z8 = 0 → X9_write_w33 G k 26 b n h9) ∧ (¬ z8 = 0 → (rg b ∧ rg (10 : Int)) ∧ ((b = (10 : Int) → X9_write_w33 G k 26 b n h9) ∧ (¬ b = (10 : Int) → X9_write_w31 G k n h9))))) := by
    intro hz hb0 hb1
    have dbl : ∀ (zn : Nat) (x : UInt64) (bb : Int), z = (zn : Int) → isRl n h zn x bb → (kd = 2 ∨ kd = 3 ∨ kd = 4) → S_X9_isDouble G (kl k) 26 n h (fun z8 h9 => rg z8 ∧ ((z8 = 0 → X9_write_w33 G k 26 b n h9) ∧ (¬ z8 = 0 → (rg b ∧ rg (10 : Int)) ∧ ((b = (10 : Int) → X9_write_w33 G k 26 b n h9) ∧ (¬ b = (10 : Int) → X9_write_w31 G k n h9))))) := by
      intro zn x bb e1 e2 e3
      rw [e1] at tm
      exact sp_isDoubleY tm e2 ⟨rgS (by decide) (by decide), fun y => by omega, fun _ => ⟨⟨hb, rgS (by decide) (by decide)⟩, fun y => w33 (by unfold noW; omega), fun y => w31 (by unfold noW; omega)⟩⟩
    rcases t with ⟨t1, t2, _⟩ | ⟨zn, e, _, t | t | t | t⟩
    · omega
    · rw [e] at tm
      have t1 := t.1
      exact sp_isDoubleN tm t.2.1 ⟨rgS (by decide) (by decide), fun _ => w33 (by unfold noW; omega), fun y => absurd rfl y⟩
    · obtain ⟨t1, x, c, q, tr, _⟩ := t
      exact dbl zn x 0 e tr (by omega)
    · obtain ⟨t1, x, tr, _⟩ := t
      exact dbl zn x 0 e tr (by omega)
    · obtain ⟨t1, _, x, tr⟩ := t
      exact dbl zn x 1 e tr (by omega)
  refine ⟨tm.ok, fun g => w31 (by unfold noW; omega), fun g => ⟨⟨hb, rgS (by decide) (by decide)⟩, fun g2 => w31 (by unfold noW; omega), fun g2 => ⟨⟨hb, rgS (by decide) (by decide)⟩, fun g3 => w31 (by unfold noW; omega), fun g3 => ⟨tm.ok, fin g (by omega) (by omega)⟩⟩⟩⟩
