/-! THE START -/
theorem arrI_known {s : State} {args : Array Value} (h : (Cond.arrayClass .int).before args s = true) : ∃ cA, ArrOfT s cA .int ∧ va_RA s cA .int := by
  obtain ⟨cA, kA, comp, hfind, hk, hkind⟩ := Cond.arrayClass_spec h
  exact ⟨cA, fun n z => ⟨fun k h => (by cases h), kA, hk, comp, hkind⟩, hfind⟩
theorem arrB_known {s : State} {args : Array Value} (h : (Cond.arrayClass .byte).before args s = true) : ∃ cA, ArrOfT s cA .byte ∧ va_RA s cA .byte := by
  obtain ⟨cA, kA, comp, hfind, hk, hkind⟩ := Cond.arrayClass_spec h
  exact ⟨cA, fun n z => ⟨fun k h => (by cases h), kA, hk, comp, hkind⟩, hfind⟩
theorem whole_start {p : Program} {e : Env} {s : State} {m : MethodId} {below : List Frame} {meth : Method} {c : Code} (l : Launch) {b L : Nat} {xs : Nat → Int32} (hL : L ≤ 2560) (C0 : lw_At p s m meth c b L xs) : W p l e room_1 s m #[Value.ref b] below meth c s.heap [] 0 0 (lw_Z below #[Value.ref b] s) (entryFrame m ([Value.ref b] : List Value).toArray 4) := by
  obtain ⟨hx, hb, hr, hml, hown, hts, hX, hbl, hlocks, hgv⟩ := id C0
  obtain ⟨dC, dI, hKc⟩ := cls_known hts
  obtain ⟨adK, adV, hS, had⟩ := str_known hgv
  obtain ⟨t5, hZ5, hT5⟩ := pow_known hts hgv
  obtain ⟨cI, hI⟩ := arrI_known (hts (.arrayClass .int) (by decide +kernel))
  obtain ⟨cB, hB⟩ := arrB_known (hts (.arrayClass .byte) (by decide +kernel))
  refine start_of l hL C0 (s.heap.size, (dC, dI), (cI, cB), t5, adK, adV) rfl ⟨hKc, fun k q h => ?_⟩ ⟨nest_known hts, ref_known hts hgv had, hS, hZ5, hT5, com_known hts hgv, fmt_known hts hgv, neg_known hts hgv, nc_known hgv, cl_known hts⟩
  match k, h with
  | 0, h => cases h; exact hI
  | 1, h => cases h; exact hB
  | k + 2, h => simp at h
