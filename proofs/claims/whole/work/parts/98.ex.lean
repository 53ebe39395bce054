/-! THE MODEL: an exact number's parts and its negation -/
theorem isEx.ofW {n : Nat} {h : xH} {z r s : Nat} {sg v : Int} (t : isWh n h z r s sg v) : isEx n h z sg v 1 := Or.inl ⟨rfl, r, s, t⟩
theorem isEx.kd {n : Nat} {h : xH} {z : Nat} {sg v w : Int} (t : isEx n h z sg v w) : z < n ∧ 47 < z ∧ ((h z).1 = 7 ∧ w = 1 ∨ (h z).1 = 5 ∧ 1 < w) := by
  rcases t with ⟨t1, r, s, t2⟩ | ⟨t1, t2, t3, t4, t5, _⟩
  · exact ⟨t2.1, t2.2.1, Or.inl ⟨t2.2.2.2.1, t1⟩⟩
  · exact ⟨t3, t4, Or.inr ⟨t5, t1⟩⟩
theorem isEx.any {n : Nat} {h : xH} {z : Nat} {sg v w : Int} (t : isEx n h z sg v w) : (z : Int) < 0 ∨ ((z : Int).toNat < n ∧ ((h (z : Int).toNat).1 = 5 ∨ (h (z : Int).toNat).1 = 6 ∨ (h (z : Int).toNat).1 = 7)) := by
  have := t.kd
  rw [Int.toNat_natCast]
  right
  refine ⟨this.1, ?_⟩
  rcases this.2.2 with y | y
  · exact Or.inr (Or.inr y.1)
  · exact Or.inl y.1
theorem xI_at {h : xH} {ci z : Nat} : xI h ci (z : Int) = if (h z).1 = ci then 1 else 0 := by
  unfold xI
  rw [if_neg (by omega), Int.toNat_natCast]
theorem rg_xI {h : xH} {ci : Nat} {z : Int} : rg (xI h ci z) := by
  unfold xI
  split
  · exact rgS (by decide) (by decide)
  · split <;> exact rgS (by decide) (by decide)
theorem sp_isExactY {G : xG} {l : Launch} {n : Nat} {h : xH} {z : Nat} {sg v w : Int} {Po : Int → xH → Prop} (t : isEx n h z sg v w) (hp : Po 1 h) : S_X9_isExact G l z n h Po := by
  refine S_X9_isExact_of (fun k hl C E => ?_)
  have w14 : X9_isExact_w14 G k n h := X9_isExact_b14 C E n h rfl (X9_isExact_b19 C E 1 n h rfl ⟨Or.inr rfl, hp⟩)
  refine X9_isExact_b0 C E z n h rfl ⟨t.any, rg_xI, fun _ => w14, fun g => ⟨t.any, rg_xI, fun g2 => ?_, fun _ => w14⟩⟩
  rw [xI_at] at g g2
  rcases t.kd.2.2 with y | y
  · rw [if_pos y.1] at g; cases g
  · rw [if_pos y.1] at g2; cases g2
theorem sp_above {G : xG} {l : Launch} {n : Nat} {h : xH} {z : Nat} {sg v w : Int} {Po : Nat → xH → Prop} (t : isEx n h z sg v w) (hp : ∀ za ra sa, isWh n h za ra sa sg v → (w = 1 → za = z) → Po za h) : S_X9_above G l z n h Po := by
  refine S_X9_above_of (fun k hl C E => X9_above_b0 C E z n h rfl ⟨t.any, rg_xI, fun g => ?_, fun g => ?_⟩)
  · rw [xI_at] at g
    rcases t with ⟨t1, r, s, t2⟩ | ⟨t1, t2, t3, t4, t5, za, ra, sa, zb, rb, sb, t6, t7, t8, t9⟩
    · rw [if_pos t2.2.2.2.1] at g; cases g
    · have f0 : hG h z 0 = (za : Int) := t6
      rw [Int.toNat_natCast, f0, Int.toNat_natCast]
      exact ⟨Or.inr ⟨t3, t5⟩, by omega, ⟨t3, t5⟩, by omega, X9_above_b21 C E za n h rfl (hp za ra sa t8 (fun y => by omega))⟩
  · rw [xI_at] at g
    rcases t with ⟨t1, r, s, t2⟩ | ⟨t1, t2, t3, t4, t5, za, ra, sa, zb, rb, sb, t6, t7, t8, t9⟩
    · rw [Int.toNat_natCast]
      exact ⟨Or.inr ⟨t2.1, t2.2.2.2.1⟩, by omega, X9_above_b21 C E z n h rfl (hp z r s t2 (fun _ => rfl))⟩
    · rw [if_neg (by rw [t5]; decide)] at g; exact absurd rfl g
theorem sp_below {G : xG} {l : Launch} {n : Nat} {h : xH} {z : Nat} {sg v w : Int} {Po : Nat → Nat → xH → Prop} (hn : 47 < n) (t : isEx n h z sg v w) (hp : ∀ h' n' zb rb sb, hK n h h' → n ≤ n' → n' ≤ n + 2 → (1 < w → n' = n) → isWh n' h' zb rb sb 1 w → Po zb n' h') : S_X9_below G l z n h Po := by
  refine S_X9_below_of (fun k hl C E => X9_below_b0 (n0 := 0) C E z n h ⟨t.any, rg_xI, fun g => ?_, fun g => ?_⟩)
  · rw [xI_at] at g
    rcases t with ⟨t1, r, s, t2⟩ | ⟨t1, t2, t3, t4, t5, za, ra, sa, zb, rb, sb, t6, t7, t8, t9⟩
    · rw [if_pos t2.2.2.2.1] at g; cases g
    · have f0 : hG h z 1 = (zb : Int) := t7
      rw [Int.toNat_natCast, f0, Int.toNat_natCast]
      exact ⟨Or.inr ⟨t3, t5⟩, by omega, ⟨t3, t5⟩, by omega, X9_below_b21 (n0 := 0) C E zb n h (hp h n zb rb sb hF.rf (Nat.le_refl _) (by omega) (fun _ => rfl) t9)⟩
  · rw [xI_at] at g
    rcases t with ⟨t1, r, s, t2⟩ | ⟨t1, t2, t3, t4, t5, za, ra, sa, zb, rb, sb, t6, t7, t8, t9⟩
    · refine sp_whole hn ⟨by decide, by decide⟩ (fun h' zb rb sb e h1 h2 tw => X9_below_b21 (n0 := 0) C E zb (n + 2) h' (hp h' (n + 2) zb rb sb e (by omega) (by omega) (fun y => by omega) ?_))
      rw [t1]; exact tw
    · rw [if_neg (by rw [t5]; decide)] at g; exact absurd rfl g
theorem sp_negatedE {G : xG} {l : Launch} {n : Nat} {h : xH} {z : Nat} {sg v w : Int} {Po2 : Int → Nat → xH → Prop} (hn : 47 < n) (t : isEx n h z sg v w) (hp : ∀ h' n' z', hK n h h' → n ≤ n' → n' ≤ n + 2 → isEx n' h' z' (-sg) v w → Po2 (z' : Int) n' h') : S_X9_negated G l z n h Po2 := by
  refine S_X9_negated_of (fun k hl C E => ?_)
  have w56 : ∀ h' n' z', hK n h h' → n ≤ n' → n' ≤ n + 2 → isEx n' h' z' (-sg) v w → X9_negated_w56 G k z' n' h' := fun h' n' z' a b c d => X9_negated_b56 (n0 := 0) C E z' n' h' (hp h' n' z' a b c d)
  refine X9_negated_b0 (n0 := 0) C E z n h ⟨t.any, rg_xI, fun g => ⟨t.any, rg_xI, fun g2 => fun h7 e7 => ?_, fun g2 => ?_⟩, fun g => ?_⟩
  · rw [xI_at] at g2
    have t' := t
    rcases t with ⟨t1, r, s, t2⟩ | ⟨t1, t2, t3, t4, t5, za, ra, sa, zb, rb, sb, t6, t7, t8, t9⟩
    · rw [if_pos t2.2.2.2.1] at g2; cases g2
    · have k7 : hK n h h7 := by rw [e7]; exact hK.nw
      have n7 : h7 n = (5, 0, xZ 5) := by rw [e7, hN_self]
      have tt7 : isEx (n + 1) h7 z sg v w := t'.fr (S := fun _ => False) k7 (by omega) (fun _ _ => id)
      refine sp_above tt7 (fun za' ra' sa' w7 _ => ⟨w7.ok, sp_negW (by omega) w7 (fun h8 n8 z8 k8 hn1 hn2 w8 hz8 => ?_)⟩)
      have tt8 : isEx n8 h8 z sg v w := tt7.fr (S := fun _ => False) k8 hn1 (fun _ _ => id)
      refine sp_below (by omega) tt8 (fun h9 n9 zb' rb' sb' k9 hn3 hn4 hn5 w9 => ?_)
      have hn9 := hn5 t1
      subst hn9
      have w89 : isWh n9 h9 z8 ra' sa' (-sg) v := w8.fr (S := fun _ => False) k9 (Nat.le_refl _) id id
      have rn7 := w7.row.1.1
      have n9' : (h9 n).1 = 5 := by rw [(k9.eq (by omega)).1, (k8.eq (by omega)).1, n7]
      have hz8n : z8 ≠ n := by
        intro y
        have := w8.2.2.2.1
        rw [y, (k8.eq (by omega)).1, n7] at this
        cases this
      have hra : ra' ≠ n := by
        intro y
        have := w7.row.1.2.1
        rw [y, n7] at this
        cases this
      have hzbn : zb' ≠ n := by
        intro y
        have := w9.2.2.2.1
        rw [y, n9'] at this
        cases this
      have hrbn : rb' ≠ n := by
        intro y
        have := w9.row.1.2.1
        rw [y, n9'] at this
        cases this
      refine sp_initR ⟨by omega, n9'⟩ (fun h10 e10 f0 f1 => w56 h10 n9 n (((k7.tr k8 (by omega)).tr k9 (by omega)).tr (hK.sc (n := n) e10 (Nat.le_refl n)) (Nat.le_refl n)) (by omega) (by omega) (Or.inr ⟨t1, t2, by omega, hn, by rw [(e10 n).1]; exact n9', z8, ra', sa', zb', rb', sb', f0, f1, w89.mv e10 hz8n hra, w9.mv e10 hzbn hrbn⟩))
  · rw [xI_at] at g2
    rcases t with ⟨t1, r, s, t2⟩ | ⟨t1, t2, t3, t4, t5, za, ra, sa, zb, rb, sb, t6, t7, t8, t9⟩
    · rw [Int.toNat_natCast]
      refine ⟨Or.inr ⟨t2.1, t2.2.2.2.1⟩, by omega, t2.ok, sp_negW hn t2 (fun h8 n8 z8 k8 hn1 hn2 w8 _ => w56 h8 n8 z8 k8 hn1 (by omega) ?_)⟩
      rw [t1]; exact isEx.ofW w8
    · rw [if_neg (by rw [t5]; decide)] at g2; exact absurd rfl g2
  · rw [xI_at] at g
    rcases t.kd.2.2 with y | y
    · rw [if_neg (by rw [y.1]; decide)] at g; exact absurd rfl g
    · rw [if_neg (by rw [y.1]; decide)] at g; exact absurd rfl g
