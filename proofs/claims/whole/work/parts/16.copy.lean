/-! ROWS FOR System.arraycopy AND int[].clone OVER THE FLAT WORLD (the proofs follow the kit's rows of the same names; the heap's size is kept track of) -/
theorem fits_int (x : Int32) : fits .int (.int x) = true := rfl
section XCP
variable {G : xG} {k : xK} {cc : ByteArray} {own : String} {nL cn sn pc n : Nat} {rm : Room} {L : List (Nat × Value)} {st : List Value} {h : xH}
/-- a row copied into another, both from their beginnings -/
def hCp (h : xH) (a0 a1 m : Nat) : xH := hN h a1 ((h a1).1, (h a1).2.1, fun j => if j < m then (h a0).2.2 j else (h a1).2.2 j)
theorem ww_copy (C : CC G k cc own nL rm) {i0 : Nat} (w1 : Cond.methodLink own i0 arraycopyName ∈ lw_all) (w2 : Cond.native arraycopyName ∈ lw_all) (w3 : Cond.static arraycopyName ∈ lw_all) (w4 : Cond.initialized "java/lang/System" ∈ lw_all) (hR : 1 ≤ rm.frames ∧ (st.map fun v => v.category).sum + (nativeFrameWords "java/lang/System" "arraycopy" 5 + 11) ≤ rm.locals) (d : decode cc pc = .ok (.invokestatic i0, 3)) {a0 a1 : Nat} {z : Int}
    (ok : a0 < n ∧ (h a0).1 = 100 ∧ a1 < n ∧ (h a1).1 = 100 ∧ 0 ≤ z ∧ z ≤ ((h a0).2.1 : Int) ∧ z ≤ ((h a1).2.1 : Int) ∧ z ≤ 2147483647) (kk : WW G k nL cn sn (pc + 3) L st n (hCp h a0 a1 z.toNat)) : WW G k nL cn sn pc L (.int (iz z) :: .int (iz 0) :: rf G a1 :: .int (iz 0) :: rf G a0 :: st) n h := by
  obtain ⟨k1, k2, k3, k4, k5, k6, k7, k8⟩ := ok
  intro H q ls y b c e
  have hts := C.2.2.2.2.1
  have hRR := C.2.2.2.2.2.2.2.1
  have hK := C.2.2.2.2.2.1
  have hz : rg z := ⟨by omega, k8⟩
  have nn : ∀ z : Int32, ¬ z < 0 → z.toInt = (z.toNatClampNeg : Int) := by
    intro z hz
    have hz0 : (0 : Int) ≤ z.toInt := by
      have := Int32.not_lt.mp hz
      simpa using Int32.le_iff_toInt_le.mp this
    show z.toInt = ((z.toInt.toNat : Nat) : Int)
    omega
  have ha0 : (xw G n h)[a0]? = some (G.1 + a0, .inl (G.2.2.1.1, ((h a0).2.1, .inl fun j => iz ((h a0).2.2 j)))) := by rw [xw_get k1, xE_ints k2]
  have ha1 : (xw G n h)[a1]? = some (G.1 + a1, .inl (G.2.2.1.1, ((h a1).2.1, .inl fun j => iz ((h a1).2.2 j)))) := by rw [xw_get k3, xE_ints k4]
  intro T hT X
  have hc0 : H[G.1 + a0]? = some (vp_cell G.2.2.1.1 ((h a0).2.1, .inl fun j => iz ((h a0).2.2 j))) := b a0 _ ha0
  have hc1 : H[G.1 + a1]? = some (vp_cell G.2.2.1.1 ((h a1).2.1, .inl fun j => iz ((h a1).2.2 j))) := b a1 _ ha1
  obtain ⟨-, k0, hk0, cm0, hkk0⟩ := (hK.2 0 _ rfl).1 (h a0).2.1 (fun j => .int (iz ((h a0).2.2 j)))
  obtain ⟨-, kx, hk1, cm1, hkk1⟩ := (hK.2 0 _ rfl).1 (h a1).2.1 (fun j => .int (iz ((h a1).2.2 j)))
  have g1 : ¬ iz 0 < 0 := by decide
  have g3 : ¬ iz z < 0 := fun q => by have := (iz_lt hz rg0).mp q; omega
  have cl0 : (iz 0).toNatClampNeg = 0 := rfl
  have clz : (iz z).toNatClampNeg = z.toNat := iz_clamp hz
  obtain ⟨vm', X', step⟩ := X.arraycopy C.1 C.2.2.2.1 (hts _ w1) (hts _ w2) (hts _ w3) (hts _ w4) (src := G.1 + a0) (dst := G.1 + a1) (cs := vp_cell G.2.2.1.1 ((h a0).2.1, .inl fun j => iz ((h a0).2.2 j))) (cd := vp_cell G.2.2.1.1 ((h a1).2.1, .inl fun j => iz ((h a1).2.2 j))) (srcPos := iz 0) (destPos := iz 0) (n := iz z) (by rw [hT]; exact hc0) (by rw [hT]; exact hc1)
    (fun _ h => by cases h) (fun _ h => by cases h) (fun h => by cases h) (fun h => by cases h) hk0 hk1 hkk0 hkk1 (by simp [refKind]) g1 g1 g3
    (by rw [nn _ g1, nn _ g3]; show ¬ _ > ((arrV G.2.2.1.1 (h a0).2.1 (fun j => .int (iz ((h a0).2.2 j)))).slots.size : Int); rw [arrV_size, cl0, clz]; omega)
    (by rw [nn _ g1, nn _ g3]; show ¬ _ > ((arrV G.2.2.1.1 (h a1).2.1 (fun j => .int (iz ((h a1).2.2 j)))).slots.size : Int); rw [arrV_size, cl0, clz]; omega)
    (fun vm₁ _ i hi => by
      have e : (vp_cell G.2.2.1.1 ((h a0).2.1, .inl fun j => iz ((h a0).2.2 j))).slots.getD ((iz 0).toNatClampNeg + i) .null = .int (iz ((h a0).2.2 ((iz 0).toNatClampNeg + i))) := by
        show (arrV G.2.2.1.1 (h a0).2.1 (fun j => .int (iz ((h a0).2.2 j)))).slots.getD _ _ = _
        rw [Array.getD_eq_getD_getElem?, arrV_read _ _ (by rw [cl0]; rw [clz] at hi; omega)]
        rfl
      refine ⟨?_, ?_⟩
      · rw [e]
        rfl
      · rw [e]
        exact trivial)
    (g := F0 (km k) pc ls (.int (iz z) :: .int (iz 0) :: rf G a1 :: .int (iz 0) :: rf G a0 :: st)) rfl (by rw [C.2.2.1]; exact e.1) (rest := st) rfl (by rw [C.2.1]; exact d) (by rw [hRR]; exact hR.1) (by rw [hRR]; have := hR.2; show 2 * 0 + _ + _ ≤ _; omega)
  have e1 : copied (vp_cell G.2.2.1.1 ((h a0).2.1, .inl fun j => iz ((h a0).2.2 j))) (vp_cell G.2.2.1.1 ((h a1).2.1, .inl fun j => iz ((h a1).2.2 j))) (iz 0) (iz 0) (iz z) = vp_cell G.2.2.1.1 ((h a1).2.1, .inl (va_cpy (fun j => iz ((h a0).2.2 j)) (fun j => iz ((h a1).2.2 j)) (iz 0).toNatClampNeg (iz 0).toNatClampNeg (iz z).toNatClampNeg)) := va_copied (fun z => .int z) G.2.2.1.1 G.2.2.1.1 (n0 := (h a0).2.1) (n1 := (h a1).2.1) (sp := (iz 0).toNatClampNeg) (dp := (iz 0).toNatClampNeg) (n := (iz z).toNatClampNeg) (fun j => iz ((h a0).2.2 j)) (fun j => iz ((h a1).2.2 j)) (by rw [cl0, clz]; omega)
  have e2 : va_cpy (fun j => iz ((h a0).2.2 j)) (fun j => iz ((h a1).2.2 j)) (iz 0).toNatClampNeg (iz 0).toNatClampNeg (iz z).toNatClampNeg = fun j => iz (if j < z.toNat then (h a0).2.2 j else (h a1).2.2 j) := by
    rw [cl0, clz]
    funext j
    unfold va_cpy
    by_cases hj : j < z.toNat
    · rw [if_pos ⟨Nat.zero_le _, by omega⟩, if_pos hj]; simp
    · rw [if_neg (by omega), if_neg hj]
  rw [e2] at e1
  rw [e1] at X' step
  have hl : G.1 + a1 < H.size := (Array.getElem?_eq_some_iff.mp hc1).1
  generalize hce : vp_cell G.2.2.1.1 ((h a1).2.1, .inl fun j => iz (if j < z.toNat then (h a0).2.2 j else (h a1).2.2 j)) = ce at X' step
  have hheap : ((T.setVm vm').setCell (G.1 + a1) ce).heap = H.setIfInBounds (G.1 + a1) ce := by rw [← hT]; rfl
  have oq : ∀ q : Nat, q ≠ G.1 + a1 → (H.setIfInBounds (G.1 + a1) ce)[q]? = H[q]? := fun q hq => by simp [Array.getElem?_setIfInBounds, Ne.symm hq]
  have b1 := b.set xw_D ha1 (e := .inl (G.2.2.1.1, ((h a1).2.1, .inl fun j => iz (if j < z.toNat then (h a0).2.2 j else (h a1).2.2 j)))) (H1 := H.setIfInBounds (G.1 + a1) ce) (show (H.setIfInBounds (G.1 + a1) ce)[G.1 + a1]? = some (vp_cell _ _) by rw [hce]; simp [Array.getElem?_setIfInBounds, hl]) oq
  rw [xw_set (h' := hCp h a0 a1 z.toNat) ((xE_ints (c := hCp h a0 a1 z.toNat a1) (by unfold hCp; rw [hN_self]; exact k4)).trans (by unfold hCp; rw [hN_self])) (fun j hj => hN_ne h _ hj)] at b1
  obtain ⟨t, a1', b1'⟩ := kk _ _ ls (by rw [Array.size_setIfInBounds]; exact y) b1 ⟨by simp; exact c.1, fun q g1 g2 => by
      rw [oq q (fun e => g2 (by rw [e]; exact Nat.le_add_right _ _))]
      exact c.2.1 q g1 g2, fun q hq => by
      rcases List.mem_append.mp hq with h | h
      · exact c.2.2 q h
      · obtain ⟨z, -, hz⟩ := List.mem_map.mp h
        rw [← hz]
        exact Nat.le_add_right _ _⟩ e _ hheap X'
  exact ⟨t, step t a1', b1'⟩
theorem ww_clone (C : CC G k cc own nL rm) {i0 : Nat} (w1 : Cond.methodLink own i0 ⟨"[I", "clone", "()Ljava/lang/Object;"⟩ ∈ lw_all) (w2 : Cond.sameMethod "[I" "java/lang/Object" "clone" "()Ljava/lang/Object;" ∈ lw_all) (w3 : Cond.native ⟨"java/lang/Object", "clone", "()Ljava/lang/Object;"⟩ ∈ lw_all) (w4 : Cond.instanceMethod ⟨"java/lang/Object", "clone", "()Ljava/lang/Object;"⟩ ∈ lw_all)
    (w5 : Cond.selects "[I" ⟨"[I", "clone", "()Ljava/lang/Object;"⟩ ⟨"java/lang/Object", "clone", "()Ljava/lang/Object;"⟩ ∈ lw_all) (hR : 1 ≤ rm.frames ∧ (st.map fun v => v.category).sum + 14 ≤ rm.locals) (d : decode cc pc = .ok (.invokevirtual i0, 3)) {a : Nat} {B : Nat} (ok : a < n ∧ (h a).1 = 100 ∧ (h a).2.1 ≤ B) (hc1 : cn + 1 ≤ rm.cells) (hs1 : sn + B ≤ rm.slots) (kk : WW G k nL (cn + 1) (sn + B) (pc + 3) L (rf G n :: st) (n + 1) (hN h n (h a))) : WW G k nL cn sn pc L (rf G a :: st) n h := by
  obtain ⟨k1, k2, k3⟩ := ok
  intro H q ls y b c e
  have hts := C.2.2.2.2.1
  have hRR := C.2.2.2.2.2.2.2.1
  have hK := C.2.2.2.2.2.1
  have ha : (xw G n h)[a]? = some (G.1 + a, .inl (G.2.2.1.1, ((h a).2.1, .inl fun j => iz ((h a).2.2 j)))) := by rw [xw_get k1, xE_ints k2]
  generalize hx : (((h a).2.1, .inl fun j => iz ((h a).2.2 j)) : vp_A) = x at ha
  have hx1 : x.1 = (h a).2.1 := by rw [← hx]
  have hsz : (vp_cell G.2.2.1.1 x).slots.size = x.1 := by
    rw [← hx]; exact arrV_size _ _ _
  have hvm0 : (vp_cell G.2.2.1.1 x).vm = .none := by rw [← hx]; rfl
  have hcl0 : (vp_cell G.2.2.1.1 x).cls = G.2.2.1.1 := by rw [← hx]; rfl
  have hcellE : ({ cls := (vp_cell G.2.2.1.1 x).cls, slots := (vp_cell G.2.2.1.1 x).slots } : Cell) = vp_cell G.2.2.1.1 x := by rw [← hx]; rfl
  have hnm : (ks k).vm.findClass "[I" = some G.2.2.1.1 := (hK.2 0 _ rfl).2
  obtain ⟨c0, t0', f1, f2, f3⟩ := Cond.castable_spec (va_Nw.use (A := ka k) rfl C.2.2.2.2.2.2.1.2.2.2.2.2.2.2.2.2)
  cases hnm.symm.trans f1
  intro T hT X
  have hcellT : T.heap[G.1 + a]? = some (vp_cell G.2.2.1.1 x) := by rw [hT]; exact b a _ ha
  obtain ⟨-, kA, hkA, comp, hkind⟩ := State.isArrayOf_alike X.warmed.alike ((hK.2 0 _ rfl).1 0 (fun _ => .null))
  obtain ⟨-, kS, hkS, compS, hkindS⟩ := (hK.2 0 _ rfl).1 0 (fun _ => .null)
  obtain ⟨vm', X', stp⟩ := X.cloneArray C.1 C.2.2.2.1 (hts _ w1) (hts _ w2) (hts _ w3) (hts _ w4) (hts _ w5) (a := G.1 + a) (cell := vp_cell G.2.2.1.1 x) hcellT (fun k h => by rw [hvm0] at h; cases h) (by rw [hvm0]; exact fun h => by cases h) (by rw [hcl0]; exact hnm) f2 (by rw [hcl0]; exact f3)
    (fun i v hv => by
      rw [hcl0]
      have hk' : T.vm.classes[G.2.2.1.1]? = some kA := hkA
      have hf : fits .int v = true := by
        rw [← hx] at hv
        have hi : i < (h a).2.1 := by
          have := (Array.getElem?_eq_some_iff.mp hv).1
          rw [show (vp_cell G.2.2.1.1 ((h a).2.1, .inl fun j => iz ((h a).2.2 j))).slots.size = (h a).2.1 from arrV_size _ _ _] at this
          exact this
        have := (arrV_read G.2.2.1.1 (fun j => .int (iz ((h a).2.2 j))) hi).symm.trans hv
        cases this
        rfl
      simpa [State.fitsSlot, State.slotType?, hk', hkind] using hf)
    (g := F0 (km k) pc ls (rf G a :: st)) rfl (by rw [C.2.2.1]; exact e.1) rfl (by rw [C.2.1]; exact d) (by rw [hRR]; exact hR.1) (by rw [hRR]; have := hR.2; show 2 * 0 + _ + 14 ≤ _; omega) (by rw [hRR]; exact hc1) (by rw [hRR, hsz, hx1]; omega) (hloader := by rw [hcl0]; exact Vm.clonesLoader_of_array hkS hkindS)
  rw [hcellE, hsz] at X'
  generalize hH1 : H.push (vp_cell G.2.2.1.1 x) = H1
  have z1 : H1.size = H.size + 1 := by rw [← hH1, Array.size_push]
  have e1 : H1[H.size]? = some (vp_cell G.2.2.1.1 x) := by rw [← hH1, Array.getElem?_push_size]
  have o1 : ∀ q : Nat, q < H.size → H1[q]? = H[q]? := fun q hq => by rw [← hH1, Array.getElem?_push, if_neg (Nat.ne_of_lt hq)]
  have b1 := xP_push (c := h a) b y o1 (by
    rw [xE_ints k2, hx]
    show H1[G.1 + n]? = _
    rw [← y]
    exact e1)
  obtain ⟨t, a1, b2⟩ := (W.widen (Nat.le_refl _) (by rw [hx1]; omega) (kk H1 q ls (by rw [z1, y]; rfl) b1 (xS_push c z1 o1) e)) ((T.setVm vm').pushCell (vp_cell G.2.2.1.1 x)) (by rw [← hH1, ← hT]; rfl) X'
  refine ⟨t, stp t ?_, b2⟩
  rw [hcellE, hT, y]
  exact a1
end XCP
