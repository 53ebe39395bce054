/-! Math.min OF TWO DOUBLES: the machine runs a row of its own in the place of the JDK's bytes: walked here over the machine, with the library's general laws alone -/
theorem mn_no {x : UInt64} (h : vf_n64 x) : FP.dIsNaN x = false := by
  cases hq : FP.dIsNaN x with
  | false => rfl
  | true =>
    have h1 : (x &&& 0x7fffffffffffffff).toNat ≤ (0x7ff0000000000000 : UInt64).toNat := UInt64.le_iff_toNat_le.mp h
    rw [UInt64.toNat_and, show (0x7fffffffffffffff : UInt64).toNat = 2 ^ 63 - 1 from by decide, show (0x7ff0000000000000 : UInt64).toNat = 9218868437227405312 from by decide, Nat.and_two_pow_sub_one_eq_mod] at h1
    have h2 := (FP.Core.isNaN_bits x).mp hq
    omega
def mn_row : NativeRow := (Native.java_lang_Math.nans.extremum "min" false "nat.java_lang_Math.min" "nat.java_lang_Math.min/float")[0]'(by decide)
set_option maxRecDepth 100000 in
theorem mn_found (p : Program) : NativeRow.find? p.tables.natives "java/lang/Math" "min" "(DD)D" = some mn_row := by cases p <;> rfl
theorem mn_run {x y : UInt64} (hx : vf_n64 x) (hy : vf_n64 y) (e : Env) (s : State) : ∃ w, (mn_row.sem #[.double x, .double y]).run e s = .ok (some (.double (Native.java_lang_Math.nans.pick64 false x y))) s w := by
  have h : wpRun (mn_row.sem #[.double x, .double y]) (fun v t _ => v = some (.double (Native.java_lang_Math.nans.pick64 false x y)) ∧ t = s) (fun _ _ _ => False) e s := by
    have hs : mn_row.sem #[.double x, .double y] = (do
        let r ← if FP.dIsNaN x then anyNaN64 x else if FP.dIsNaN y then anyNaN64 y else Pure.pure (Native.java_lang_Math.nans.pick64 false x y)
        mark "nat.java_lang_Math.min"
        Pure.pure (some (.double r))) := by
      unfold mn_row
      rfl
    rw [hs]
    simp [jvm, wpRun, mn_no hx, mn_no hy]
  rw [wpRun_iff_run] at h
  revert h
  cases (mn_row.sem #[.double x, .double y]).run e s with
  | ok v t w => intro h; obtain ⟨h1, h2⟩ := h; rw [h1, h2]; exact ⟨w, rfl⟩
  | ctl c t w => intro h; cases c <;> exact h.elim
theorem mn_pays {l : Launch} {R : Room} {p : Program} {e : Env} {below : List Frame} {s : State} {sargs : Array Value} (x y : UInt64) (hcode : (Cond.code yJ9_min_eb370 cJ9_min_eb370 4 (some .double)).before sargs s = true) (hfr : 1 ≤ R.frames) (hlo : 23 ≤ R.locals) :
    Back l R p e below s sargs yJ9_min_eb370 3 8 (fun A a => A.cells ≤ R.cells ∧ A.slots ≤ R.slots ∧ a = #[.double x, .double y] ∧ vf_n64 x ∧ vf_n64 y) (fun A _ v B => v = some (.double (Native.java_lang_Math.nans.pick64 false x y)) ∧ B = A) := by
  intro m meth c A g ig mk a X hg hsize hdg hW hnamed hP
  obtain ⟨-, -, rfl, hx, hy⟩ := hP
  have hcU : (Cond.code yJ9_min_eb370 cJ9_min_eb370 4 (some .double)).before sargs A.U = true := Cond.tabsOnly_warm (args' := sargs) (T := A.U) X.warmed _ rfl hcode
  obtain ⟨mt, cd, h1, h2, -, h3, -, h4, -, h5⟩ := Cond.code_spec hnamed hcU
  obtain ⟨ck, hk, hkn⟩ := className_of_methodNamed hnamed
  obtain ⟨hmn, hmd⟩ := name_of_methodNamed hnamed h1
  have hb : ck.loader = none := Vm.bootOf_findClass (findClass_of_methodNamed hnamed) hk
  have hm2 : ck.methods[mk.idx]? = some mt := by simpa [Vm.method?, hk] using h1
  obtain ⟨g0, hg0⟩ := Option.isSome_iff_exists.mp X.here.top
  obtain ⟨r, hr⟩ := State.topJava?_eq_some.mp hg0
  have hrb : r = below := by have h := X.tail; rw [hr] at h; exact h
  have hcur : A.U.cur < A.U.threads.size := State.cur_lt_of_frames hr
  have hfull := X.notFull hsize (vars := 4) hfr (by omega)
  have hpar : mt.sig.parameters.length = 2 := by
    have h : parseMethodDescriptor "(DD)D" = some { parameters := [.double, .double], returnType := some .double } := by decide +kernel
    rw [show yJ9_min_eb370.desc = "(DD)D" from rfl, h] at h5
    rw [← Option.some.inj h5]; rfl
  have hcd : ∀ F : List Frame, (A.U.setFrames F).code? g.method = some c := by
    intro F
    have h := X.here.code
    rw [hg, State.code?_eq] at *
    simpa [State.setFrames] using h
  have hcnt : ∀ F : List Frame, ∃ z, argCount (A.U.setFrames F) mk = 2 + z := by
    intro F
    have h : ((A.U.setFrames F).vm.classes[mk.cls]?.bind fun k => k.methods[mk.idx]?) = some mt := by
      show (A.U.vm.classes[mk.cls]?.bind fun k => k.methods[mk.idx]?) = some mt
      rw [hk]; exact hm2
    unfold argCount
    rw [h]
    exact ⟨_, by rw [← hpar]⟩
  refine ⟨some (.double (Native.java_lang_Math.nans.pick64 false x y)), A, X, ⟨rfl, rfl⟩, ?_⟩
  rw [(doInvoke_java (s := A.U.setTop g) (e := e) (acts := []) (args := #[.double x, .double y]) (meth := mt) (code := cd) h1 h2 h4 (by rw [h3]; exact hfull)).1, h3, State.pushFrame, State.frames_setTop _ hr, State.setTop_of_frames _ hr, State.setFrames_setFrames]
  generalize hF : ({ method := mk, pc := 0, locals := argsToLocals #[.double x, .double y] 4, stack := [], locked := none } : JFrame) = F
  have hfr1 : (A.U.setFrames (.java F :: .java g :: r)).frames = .java F :: .java g :: r := State.frames_setFrames _ hcur
  have hov : overridden p.tables e (A.U.setFrames (.java F :: .java g :: r)) F = some mn_row := by
    have hk2 : (A.U.setFrames (.java F :: .java g :: r)).vm.classes[F.method.cls]? = some ck := by rw [← hF]; exact hk
    have hm3 : ck.methods[F.method.idx]? = some mt := by rw [← hF]; exact hm2
    unfold overridden
    rw [hk2]
    simp only [hm3, hb, hkn, hmn, hmd]
    rw [← hF]
    exact mn_found p
  obtain ⟨w, hw⟩ := mn_run hx hy e (A.U.setFrames (.native { method := mk, args := #[.double x, .double y] } :: .java g :: r))
  have hho : handOver (A.U.setFrames (.native { method := mk, args := #[.double x, .double y] } :: .java g :: r)) (some (.double (Native.java_lang_Math.nans.pick64 false x y))) (.java g :: r) = some (.java { g with pc := g.pc + 3, stack := .double (Native.java_lang_Math.nans.pick64 false x y) :: g.stack } :: r) := by
    simp [handOver, hcd, hdg, Except.toOption]
  have hst : (stepThread p.tables e (A.U.setFrames (.java F :: .java g :: r))).1 = A.U.setFrames (.java { g with pc := g.pc + 3, stack := .double (Native.java_lang_Math.nans.pick64 false x y) :: g.stack } :: r) := by
    unfold stepThread
    rw [hfr1]
    simp only [hov]
    obtain ⟨z, hz⟩ := hcnt (.java F :: .java g :: r)
    have hFm : F.method = mk := by rw [← hF]
    have hFk : F.locked = none := by rw [← hF]
    have hFl : F.locals = argsToLocals #[.double x, .double y] 4 := by rw [← hF]
    rw [hFm, hFk, hFl, hz]
    have hgv : ∀ (f : Slot → Option Value) (z : Nat), f (.val (.double x)) = some (.double x) → f (.val (.double y)) = some (.double y) → f .second = none → ((List.filterMap f (argsToLocals #[Value.double x, Value.double y] 4).toList).toArray.extract 0 (2 + z)) = #[Value.double x, Value.double y] := by
      intro f z f1 f2 f3
      simp [argsToLocals, Value.category, f1, f2, f3]
      exact List.take_of_length_le (by simp)
    rw [hgv _ _ (by rfl) (by rfl) (by rfl)]
    rw [State.setFrames_setFrames, hw]
    simp only [afterNative]
    rw [doReturn_native (f := { method := mk, args := #[.double x, .double y] }) (below := .java g :: r) (State.frames_setFrames _ hcur) rfl hho, State.setFrames_setFrames]
  refine Steps.head ⟨X.here.running, by simpa using X.here.runnable, by simpa using X.here.alone⟩ ⟨[.java F, .java g], by rw [hfr1, hrb]; rfl, by simp, by simp⟩ ?_
  rw [hst, ← State.setTop_of_frames _ hr]
  exact Steps.refl _
theorem ww_dmin {G : xG} {k : xK} {cc : ByteArray} {own : String} {nL cn sn pc n : Nat} {rm : Room} {L : List (Nat × Value)} {st : List Value} {h : xH} (C : CC G k cc own nL rm) {i0 : Nat} (w1 : Cond.methodLink own i0 yJ9_min_eb370 ∈ lw_all) (w2 : Cond.static yJ9_min_eb370 ∈ lw_all) (w3 : Cond.initialized RJ9 ∈ lw_all) (w4 : Cond.code yJ9_min_eb370 cJ9_min_eb370 4 (some .double) ∈ lw_all) (d : decode cc pc = .ok (.invokestatic i0, 3)) {x y : UInt64} (hx : vf_n64 x) (hy : vf_n64 y) (h1 : 1 ≤ rm.frames) (h2 : 23 ≤ rm.locals) (h3 : (st.map fun v => v.category).sum ≤ 8) (h4 : cn ≤ rm.cells) (h5 : sn ≤ rm.slots)
    (kk : WW G k nL cn sn (pc + 3) L (.double (Native.java_lang_Math.nans.pick64 false x y) :: st) n h) : WW G k nL cn sn pc L (.double y :: .double x :: st) n h := by
  intro H q ls a b c e T hT X
  have hts := C.2.2.2.2.1
  have hRR := C.2.2.2.2.2.2.2.1
  obtain ⟨v, vm₁, B, hW1, X', ⟨hv, hB⟩, stp⟩ := callS (y := yJ9_min_eb370) (bytes := cJ9_min_eb370) (maxL := 4) (ret := some .double) X C.1 C.2.2.2.1 (hts _ w1) (hts _ w2) (hts _ w3) (hts _ w4) (by decide +kernel) (mn_pays x y (hts _ w4) (by rw [hRR]; exact h1) (by rw [hRR]; exact h2)) (g := F0 (km k) pc ls (.double y :: .double x :: st)) rfl (by rw [C.2.2.1]; exact e.1) (argsL := [.double x, .double y]) (rest := st) (fun sig hs => by
      have h : parseMethodDescriptor "(DD)D" = some { parameters := [.double, .double], returnType := some .double } := by decide +kernel
      rw [show yJ9_min_eb370.desc = "(DD)D" from rfl, h] at hs
      rw [← Option.some.inj hs]; rfl) rfl (lv_room h3) (by rw [C.2.1]; exact d) (fun vm₁ _ => ⟨by rw [hRR]; exact h4, by rw [hRR]; exact h5, rfl, hx, hy⟩)
  subst hv; subst hB
  obtain ⟨t, a1, b1⟩ := kk H q ls a b c e (T.setVm vm₁) hT X'
  exact ⟨t, stp t a1, b1⟩
