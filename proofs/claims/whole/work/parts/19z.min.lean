/-! Math.min OF TWO DOUBLES: a native row of the machine; the library's law of it (JvmDerived/Shelf42) -/
theorem ww_dmin {G : xG} {k : xK} {cc : ByteArray} {own : String} {nL cn sn pc n : Nat} {rm : Room} {L : List (Nat × Value)} {st : List Value} {h : xH} (C : CC G k cc own nL rm) {i0 : Nat} (w1 : Cond.methodLink own i0 yJ9_min_eb370 ∈ lw_all) (w2 : Cond.static yJ9_min_eb370 ∈ lw_all) (w3 : Cond.initialized RJ9 ∈ lw_all) (w4 : Cond.code yJ9_min_eb370 cJ9_min_eb370 4 (some .double) ∈ lw_all) (d : decode cc pc = .ok (.invokestatic i0, 3)) {x y : UInt64} (hx : vf_n64 x) (hy : vf_n64 y) (h1 : 1 ≤ rm.frames) (h2 : 23 ≤ rm.locals) (h3 : (st.map fun v => v.category).sum ≤ 8) (h4 : cn ≤ rm.cells) (h5 : sn ≤ rm.slots)
    (kk : WW G k nL cn sn (pc + 3) L (.double (Native.java_lang_Math.nans.pick64 false x y) :: st) n h) : WW G k nL cn sn pc L (.double y :: .double x :: st) n h := by
  intro H q ls a b c e T hT X
  have hts := C.2.2.2.2.1
  have hRR := C.2.2.2.2.2.2.2.1
  have hb0 : Fl.Abs.minDCode = cJ9_min_eb370 := by decide +kernel
  have hcode : (Cond.code Fl.Abs.minDN Fl.Abs.minDCode 4 (some .double)).before (ka k) (ks k) = true := by rw [hb0]; exact hts _ w4
  obtain ⟨v, vm₁, B, hW1, X', ⟨hv, hB⟩, stp⟩ := callS (y := Fl.Abs.minDN) (bytes := Fl.Abs.minDCode) (maxL := 4) (ret := some .double) X C.1 C.2.2.2.1 (hts _ w1) (hts _ w2) (hts _ w3) hcode (by decide +kernel) (Fl.Abs.minD_pays (len := 3) (W := 8) x y hcode (by rw [hRR]; exact h1) (by rw [hRR]; exact h2)) (g := F0 (km k) pc ls (.double y :: .double x :: st)) rfl (by rw [C.2.2.1]; exact e.1) (argsL := [.double x, .double y]) (rest := st) (fun sig hs => by
      have h : parseMethodDescriptor "(DD)D" = some { parameters := [.double, .double], returnType := some .double } := by decide +kernel
      rw [show Fl.Abs.minDN.desc = "(DD)D" from rfl, h] at hs
      rw [← Option.some.inj hs]; rfl) rfl (lv_room h3) (by rw [C.2.1]; exact d) (fun vm₁ _ => ⟨by rw [hRR]; exact h4, by rw [hRR]; exact h5, rfl, hx, hy⟩)
  subst hv; subst hB
  obtain ⟨t, a1, b1⟩ := kk H q ls a b c e (T.setVm vm₁) hT X'
  exact ⟨t, stp t a1, b1⟩
