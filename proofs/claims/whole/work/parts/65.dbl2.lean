/-! THE NUMBER: rounding -/
/-- the number is m * 2^p, or infinite where that is too great -/
def finD (n : Nat) (h : xH) (sg m p : Int) : Prop := ((if m = 9007199254740992 then p + 1 else p) ≤ 971 ∧ isD n h 2 sg (if m = 9007199254740992 then 4503599627370496 else m) (if m = 9007199254740992 then p + 1 else p)) ∨ (971 < (if m = 9007199254740992 then p + 1 else p) ∧ ∃ un pl, isD n h 3 sg un pl)
theorem sp_rounded {G : xG} {l : Launch} {n : Nat} {h : xH} {kd mn un pl sg q qp v : Int} {Po : xH → Prop} (t : isD n h kd mn un pl) (hs : sg = 0 ∨ sg = 1) (qv : isN n h 6 v) (q0 : 0 ≤ q) (q1 : q < 36028797018963968) (p0 : -2000 ≤ qp) (p1 : qp ≤ 2000) (hp : ∀ h' m x D, hE s0 h h' → (x = 1 ∧ D = 2 ∧ q < 18014398509481984 ∨ x = 2 ∧ D = 4 ∧ 18014398509481984 ≤ q) → (m = q / D + 1 ∧ (D < 2 * (q % D) ∨ (2 * (q % D) = D ∧ (q / D % 2 = 1 ∨ v ≠ 0))) ∨ m = q / D ∧ ¬ (D < 2 * (q % D) ∨ (2 * (q % D) = D ∧ (q / D % 2 = 1 ∨ v ≠ 0)))) → finD n h' sg m (qp + x) → Po h') : S_X4_becomeRounded G l 0 sg q qp n h Po := by
  have rq : rgL q := ⟨by omega, by omega⟩
  refine S_X4_becomeRounded_of (fun k hl C E => ?_)
  have w141 : ∀ h', Po h' → X4_becomeRounded_w141 G k n h' := fun h' w => X4_becomeRounded_b141 C E n h' rfl w
  have w99 : ∀ (m p : Int), 0 ≤ m → m ≤ 9007199254740992 → -3000 ≤ p → p ≤ 3000 → (∀ h', hE s0 h h' → finD n h' sg m p → Po h') → X4_becomeRounded_w99 G k 0 sg m p n h := by
    intro m p m0 m1 pp0 pp1 hf
    have w116 : ∀ (u p' : Int), u = (if m = 9007199254740992 then 4503599627370496 else m) → p' = (if m = 9007199254740992 then p + 1 else p) → X4_becomeRounded_w116 G k 0 sg u p' n h := by
      intro u p' hu hp'
      have hp'' : -3001 ≤ p' ∧ p' ≤ 3001 := by rw [hp']; split <;> omega
      refine X4_becomeRounded_b116 C E 0 sg u p' n h rfl ⟨⟨rgS (by omega) (by omega), rgS (by decide) (by decide)⟩, fun g => ⟨t.ok, sp_finite t hs (fun h1 e1 t1 => w141 h1 (hf h1 e1 (Or.inl ⟨by rw [← hp']; exact g, by rw [← hp', ← hu]; exact t1⟩)))⟩, fun g => ⟨t.ok, sp_infinite t hs (fun h1 e1 t1 => w141 h1 (hf h1 e1 (Or.inr ⟨by rw [← hp']; omega, _, _, t1⟩)))⟩⟩
    refine X4_becomeRounded_b99 C E 0 sg m p n h rfl ⟨⟨⟨by omega, by omega⟩, ⟨by decide, by decide⟩⟩, fun g => w116 _ _ ?_ ?_, fun g => w116 _ _ ?_ ?_⟩
    · rw [if_neg (fun z => g ((lC_eq0 _ _).mpr z))]
    · rw [if_neg (fun z => g ((lC_eq0 _ _).mpr z))]
    · rw [if_pos ((lC_eq0 _ _).mp g)]
    · rw [if_pos ((lC_eq0 _ _).mp g)]
  have w60 : ∀ (x D : Int) (od : Int), (x = 1 ∧ D = 2 ∧ q < 18014398509481984 ∨ x = 2 ∧ D = 4 ∧ 18014398509481984 ≤ q) → (od = 0 ∨ od = 1) → (od ≠ 0 ↔ q / D % 2 = 1) → X4_becomeRounded_w60 G k 0 sg (q / D) (qp + x) (q % D) (D / 2) od n h := by
    intro x D od hx ho hod
    have hD : (D = 2 ∨ D = 4) ∧ (x = 1 ∨ x = 2) := by omega
    have f0 : 0 ≤ q / D := by rcases hD.1 with z | z <;> subst z <;> omega
    have f1 : q / D < 9007199254740992 := by rcases hx with z | z <;> obtain ⟨_, rfl, _⟩ := z <;> omega
    have c0 : 0 ≤ q % D ∧ q % D < D := by rcases hD.1 with z | z <;> subst z <;> omega
    have hcmp : (D / 2 < q % D ↔ D < 2 * (q % D)) ∧ (q % D = D / 2 ↔ 2 * (q % D) = D) := by rcases hD.1 with z | z <;> subst z <;> omega
    have rr : rgL (q % D) ∧ rgL (D / 2) := by rcases hD.1 with z | z <;> subst z <;> exact ⟨⟨by omega, by omega⟩, ⟨by omega, by omega⟩⟩
    have up : (D < 2 * (q % D) ∨ (2 * (q % D) = D ∧ (q / D % 2 = 1 ∨ v ≠ 0))) → X4_becomeRounded_w93 G k 0 sg (q / D) (qp + x) n h := fun z => X4_becomeRounded_b93 C E 0 sg (q / D) (qp + x) n h rfl (w99 (q / D + 1) (qp + x) (by omega) (by omega) (by omega) (by omega) (fun h' e' f' => hp h' _ x D e' hx (Or.inl ⟨rfl, z⟩) f'))
    have dn : ¬ (D < 2 * (q % D) ∨ (2 * (q % D) = D ∧ (q / D % 2 = 1 ∨ v ≠ 0))) → X4_becomeRounded_w99 G k 0 sg (q / D) (qp + x) n h := fun z => w99 (q / D) (qp + x) f0 (by omega) (by omega) (by omega) (fun h' e' f' => hp h' _ x D e' hx (Or.inr ⟨rfl, z⟩) f')
    refine X4_becomeRounded_b60 C E 0 sg (q / D) (qp + x) (q % D) (D / 2) od n h rfl ⟨rr, fun g => up (Or.inl (hcmp.1.mp ((lC_gt _ _).mp g))), fun g => ⟨rr, fun g2 => dn ?_, fun g2 => ⟨by rcases ho with z | z <;> rw [z] <;> exact rgS (by decide) (by decide), fun g3 => up (Or.inr ⟨hcmp.2.mp ((lC_eq0 _ _).mp g2), Or.inl (hod.mp g3)⟩), fun g3 => ?_⟩⟩⟩
    · rintro (z | ⟨z, _⟩)
      · exact g ((lC_gt _ _).mpr (hcmp.1.mpr z))
      · exact g2 ((lC_eq0 _ _).mpr (hcmp.2.mpr z))
    · rw [t.f7]
      refine ⟨t.ok, by decide, qv.1.ok, sp_isZero qv ?_⟩
      by_cases gv : v = 0
      · rw [if_pos gv]
        refine ⟨rgS (by decide) (by decide), fun _ => dn ?_, fun y => absurd y (by decide)⟩
        rintro (z | ⟨_, z | z⟩)
        · exact g ((lC_gt _ _).mpr (hcmp.1.mpr z))
        · exact hod.mpr z g3
        · exact z gv
      · rw [if_neg gv]
        exact ⟨rg0, fun y => absurd rfl y, fun _ => up (Or.inr ⟨hcmp.2.mp ((lC_eq0 _ _).mp g2), Or.inr gv⟩)⟩
  have w13 : ∀ (x D : Int), (x = 1 ∧ D = 2 ∧ q < 18014398509481984 ∨ x = 2 ∧ D = 4 ∧ 18014398509481984 ≤ q) → lSr q x = q / D → lA q (lSl 1 x - 1) = q % D → lSl 1 (x - 1) = D / 2 → X4_becomeRounded_w13 G k 0 sg q qp x n h := by
    intro x D hx e1 e2 e3
    refine X4_becomeRounded_b13 C E 0 sg q qp x n h rfl ?_
    have hlA : ∀ y : Int, lA y 1 = y % 2 := by
      intro y
      have := lA_mask y 1 (by decide)
      rw [show ((2 : Int) ^ 1 - 1) = 1 from rfl, show ((2 : Int) ^ 1) = 2 from rfl] at this
      exact this
    rw [e1, e2, e3, hlA]
    refine ⟨⟨⟨by omega, by omega⟩, ⟨by decide, by decide⟩⟩, fun g => w60 x D 0 hx (Or.inl rfl) ⟨fun z => absurd rfl z, fun z => absurd ((lC_eq0 _ _).mpr z) g⟩, fun g => w60 x D 1 hx (Or.inr rfl) ⟨fun _ => (lC_eq0 _ _).mp g, fun _ => by decide⟩⟩
  refine X4_becomeRounded_b0 C E 0 sg q qp n h rfl ⟨⟨rq, ⟨by decide, by decide⟩⟩, fun g => w13 1 2 (Or.inl ⟨rfl, rfl, (lC_lt _ _).mp g⟩) (lSr_d rq 1 (by decide)) ?_ (by decide), fun g => w13 2 4 (Or.inr ⟨rfl, rfl, ?_⟩) (lSr_d rq 2 (by decide)) ?_ (by decide)⟩
  · rw [show lSl 1 1 - 1 = (2 : Int) ^ 1 - 1 by decide]; exact lA_mask q 1 (by decide)
  · have : ¬ q < 18014398509481984 := fun z => g ((lC_lt _ _).mpr z)
    omega
  · rw [show lSl 1 2 - 1 = (2 : Int) ^ 2 - 1 by decide]; exact lA_mask q 2 (by decide)
theorem sp_align {G : xG} {l : Launch} {n : Nat} {h : xH} {kd mn un pl v w : Int} {Po : xH → Prop} (t : isD n h kd mn un pl) (qv : isN n h 6 v) (qw : isN n h 8 w) (hv : 0 < v) (hw : 0 < w) (hvb : v < 2 ^ 4200) (hwb : w < 2 ^ 4200) (hp : ∀ h', hE (fun i => sN 6 i ∨ sN 8 i) h h' → isN n h' 6 (v * 2 ^ (bl w - bl v).toNat) → isN n h' 8 (w * 2 ^ (bl v - bl w).toNat) → Po h') : S_X4_alignTops G l 0 n h Po := by
  refine S_X4_alignTops_of (fun k hl C E => X4_alignTops_b0 C E 0 n h rfl ?_)
  have b1 := bl_le hvb
  have b2 := bl_le hwb
  have b3 : 0 ≤ bl v := by unfold bl; split <;> omega
  have b4 : 0 ≤ bl w := by unfold bl; split <;> omega
  rw [t.f7]
  refine ⟨t.ok, by decide, qv.1.ok, sp_bitLength qv ?_⟩
  rw [t.f8]
  refine ⟨t.ok, by decide, qw.1.ok, sp_bitLength qw ?_⟩
  rw [t.f7]
  refine ⟨t.ok, by decide, qv.1.ok, sp_shl qv (rgS (by omega) (by omega)) (fun _ => by omega) (fun h1 e1 q1 => ?_)⟩
  rw [show -(bl v - bl w) = bl w - bl v by omega] at q1
  have t1 := t.mv e1 (by decide)
  have w1 : isN n h1 8 w := qw.mv e1 (by decide) (by decide)
  rw [t1.f8]
  refine ⟨t1.ok, by decide, w1.1.ok, sp_shl w1 (rgS (by omega) (by omega)) (fun _ => by omega) (fun h2 e2 q2 => ?_)⟩
  exact hp h2 ((e1.mono (fun i hi => Or.inl hi)).tr (e2.mono (fun i hi => Or.inr hi))) (q1.mv e2 (by decide) (by decide)) q2
