/-! CALLS OVER THE FLAT WORLD -/
theorem xWd_blind {G : xG} {av : List Value} {n : Nat} {h : xH} : FrameBlind (va_Pc av (xWd G n h)) := by
  intro a U g mk q
  obtain ⟨q0, q1, q2, q3, q4⟩ := q
  exact ⟨q0, q1, q2, va_K.moved (u := U) (U := U.calling g mk a) (Vm.Alike.refl U.vm) q3, xX.warm (U := U.calling g mk a) q4 (State.WarmedH.refl U) (fun _ _ _ => rfl)⟩
theorem xGood {y : MethodName} {bytes : ByteArray} {maxL : Nat} {ret : Option FieldType} (w : Cond.code y bytes maxL ret ∈ lw_all) {l : List Cond} (hl : ∀ c ∈ l, c ∈ lw_all) : GoodIn lw_all (l ++ (Cond.code y bytes maxL ret :: lw_all)) := by
  intro c hc
  have hm : c ∈ lw_all := by
    rcases List.mem_append.mp hc with h | h
    · exact hl c h
    · rcases List.mem_cons.mp h with h | h
      · rw [h]; exact w
      · exact h
  exact ⟨hm, lw_all_good hm⟩
/-- a method's words: its own code, and the one list -/
abbrev xws (y : MethodName) (bytes : ByteArray) (maxL : Nat) (ret : Option FieldType) : List Cond := .code y bytes maxL ret :: lw_all
section XC
variable {G : xG} {k : xK} {cc : ByteArray} {own : String} {nL cn sn pc n : Nat} {rm : Room} {L : List (Nat × Value)} {st : List Value} {h : xH}
theorem xx_call {H : Heap} {locs : List Loc} {ls : Array Slot} {st0 rest : List Value} {mc ms : Nat} {Po : Option Value → Nat → xH → Prop} {a : Array Value} (c : va_S (xA G) (ks k).heap H locs)
    (hr : va_Run (kp k) (kl k) (ke k) (kR k) (ks k) (km k) (ka k) (kb k) (kt k) (kc k) H locs cn sn mc ms (F0 (km k) pc ls st0) rest (xQ G Po a) (xA G)) (e : lv_has ls nL L)
    (kk : ∀ v n1 h1, Po v n1 h1 → WW G k nL (cn + mc) (sn + ms) (pc + 3) L (v.toList ++ rest) n1 h1) : W (kp k) (kl k) (ke k) (kR k) (ks k) (km k) (ka k) (kb k) (kt k) (kc k) H locs cn sn (kQ k) (F0 (km k) pc ls st0) := by
  intro T hT X
  obtain ⟨v, st₀, t, T', Ls, h0, X', hL, e1, e2, ⟨⟨v1, n1, h1, hv, hp, hz, hb⟩, hz2, hk⟩, stp⟩ := hr T hT X
  cases hv
  rw [h0] at hz2 hk
  obtain ⟨t2, a1, b1⟩ := kk v n1 h1 hp T'.heap (locs ++ Ls) ls (by rw [e1]; exact hz) (by rw [e1]; exact hb) ⟨Nat.le_trans c.1 (by rw [e1]; exact hz2), fun q g1 g2 => by rw [e1, hk q (Nat.lt_of_lt_of_le g1 c.1) g2]; exact c.2.1 q g1 g2, fun q hq => by
      rcases List.mem_append.mp hq with g | g
      · exact c.2.2 q g
      · exact hL q g⟩ e T' rfl X'
  exact ⟨t2, stp t2 a1, b1⟩
theorem xPre (C : CC G k cc own nL rm) {H : Heap} {locs : List Loc} {av : List Value} (y : H.size = G.1 + n) (b : va_P G.2.1 vwCl (xw G n h) H) (c : va_S (xA G) (ks k).heap H locs) : ∀ U : State, U.heap = H → (ks k).WarmedH U.vm → va_Pc av (xWd G n h) av.toArray U := by
  intro U hU hW
  refine ⟨rfl, by rw [hU]; exact y, by rw [hU]; exact b, va_K.moved hW.alike C.2.2.2.2.2.1, xX.warm C.2.2.2.2.2.2.1 hW (fun a h1 h2 => by rw [hU]; exact c.2.1 a h1 h2)⟩
theorem ww_callV (C : CC G k cc own nL rm) {y : MethodName} {bytes : ByteArray} {maxL i0 ci nA : Nat} {ret : Option FieldType} {rmy : Room} {Cn : String} {T : u_T} {N : Nat} (w1 : Cond.methodLink own i0 y ∈ lw_all) (w2 : Cond.instanceMethod y ∈ lw_all) (w3 : Cond.selects Cn y y ∈ lw_all) (w4 : Cond.initialized Cn ∈ lw_all) (w5 : Cond.code y bytes maxL ret ∈ lw_all)
    (hd : y.cls = Cn ∧ y.cls ≠ "java/lang/invoke/MethodHandle" ∧ y.cls ≠ "java/lang/invoke/VarHandle" ∧ (parseMethodDescriptor y.desc).map (fun d => d.parameters.length) = some nA) (hc : vwCl[ci]? = some (Cn, T, N)) (hci : ci < 100)
    (d : decode cc pc = .ok (.invokevirtual i0, 3)) {a : Nat} {As : List Value} (hA : As.length = nA) (hst : (st.map fun v => v.category).sum ≤ 8) (hR : rmy.frames + 1 ≤ rm.frames ∧ 8 + (maxL + 11) + rmy.locals ≤ rm.locals) (hf : cn + rmy.cells ≤ rm.cells ∧ sn + rmy.slots ≤ rm.slots) (ok : okO n h a ci)
    (kk : xS G (kl k) y (xws y bytes maxL ret) rmy (rf G a :: As) n h (fun v n1 h1 => WW G k nL (cn + rmy.cells) (sn + rmy.slots) (pc + 3) L (v.toList ++ st) n1 h1)) {st0 : List Value} (hst0 : st0 = As.reverse ++ rf G a :: st) : WW G k nL cn sn pc L st0 n h := by
  intro H q ls z b c e
  subst hst0
  have hRR := C.2.2.2.2.2.2.2.1
  refine xx_call c (va_runV (C := Cn) (n := nA) (bytes := bytes) (maxL := maxL) (ret := ret) (index := i0) (Ts := lw_all) (own := own) (As := As) (nL := nL) ⟨C.1, C.2.1, C.2.2.1, C.2.2.2.1, C.2.2.2.2.1⟩ kk (cwV (ws' := lw_all) nA C.2.2.2.2.1 (xGood w5 (l := [.methodLink own i0 y, .instanceMethod y, .selects Cn y y, .initialized Cn]) (by simp only [List.mem_cons, List.not_mem_nil, or_false]; rintro x (rfl | rfl | rfl | rfl) <;> assumption)) rfl rfl rfl hd (by rw [hRR]; exact hR)) ⟨xWd_blind, va_recv (ci := ci) C.2.2.2.2.2.1 b hc (q0 := a) (fs := xF G (xT ci) (h a).2.2) (by rw [xw_get ok.1, xE_obj ok.2 hci]), xPre C z b c⟩ rfl hA e.1 rfl (lv_room hst) d (by rw [hRR]; exact hf)) e (fun v n1 h1 hp => hp)
theorem ww_callS (C : CC G k cc own nL rm) {y : MethodName} {bytes : ByteArray} {maxL i0 nA : Nat} {ret : Option FieldType} {rmy : Room} (w1 : Cond.methodLink own i0 y ∈ lw_all) (w2 : Cond.static y ∈ lw_all) (w4 : Cond.initialized y.cls ∈ lw_all) (w5 : Cond.code y bytes maxL ret ∈ lw_all)
    (hd : y.cls ≠ "java/lang/invoke/MethodHandle" ∧ y.cls ≠ "java/lang/invoke/VarHandle" ∧ (parseMethodDescriptor y.desc).map (fun d => d.parameters.length) = some nA)
    (d : decode cc pc = .ok (.invokestatic i0, 3)) {As : List Value} (hA : As.length = nA) (hst : (st.map fun v => v.category).sum ≤ 8) (hR : rmy.frames + 1 ≤ rm.frames ∧ 8 + (maxL + 11) + rmy.locals ≤ rm.locals) (hf : cn + rmy.cells ≤ rm.cells ∧ sn + rmy.slots ≤ rm.slots)
    (kk : xS G (kl k) y (xws y bytes maxL ret) rmy As n h (fun v n1 h1 => WW G k nL (cn + rmy.cells) (sn + rmy.slots) (pc + 3) L (v.toList ++ st) n1 h1)) {st0 : List Value} (hst0 : st0 = As.reverse ++ st) : WW G k nL cn sn pc L st0 n h := by
  intro H q ls z b c e
  subst hst0
  have hRR := C.2.2.2.2.2.2.2.1
  refine xx_call c (va_runS (n := nA) (bytes := bytes) (maxL := maxL) (ret := ret) (index := i0) (Ts := lw_all) (own := own) (As := As) (nL := nL) ⟨C.1, C.2.1, C.2.2.1, C.2.2.2.1, C.2.2.2.2.1⟩ kk (va_cwS (ws' := lw_all) nA C.2.2.2.2.1 (xGood w5 (l := [.methodLink own i0 y, .static y, .initialized y.cls]) (by simp only [List.mem_cons, List.not_mem_nil, or_false]; rintro x (rfl | rfl | rfl) <;> assumption)) rfl rfl rfl hd (by rw [hRR]; exact hR)) ⟨xWd_blind, xPre C z b c⟩ rfl hA e.1 rfl (lv_room hst) d (by rw [hRR]; exact hf)) e (fun v n1 h1 hp => hp)
theorem ww_callI (C : CC G k cc own nL rm) {y : MethodName} {bytes : ByteArray} {maxL i0 nA : Nat} {rmy : Room} (w1 : Cond.methodLink own i0 y ∈ lw_all) (w2 : Cond.instanceMethod y ∈ lw_all) (w4 : Cond.initialized y.cls ∈ lw_all) (w5 : Cond.code y bytes maxL none ∈ lw_all) (hy : y.name = "<init>")
    (hd : y.cls ≠ "java/lang/invoke/MethodHandle" ∧ y.cls ≠ "java/lang/invoke/VarHandle" ∧ (parseMethodDescriptor y.desc).map (fun d => d.parameters.length) = some nA)
    (d : decode cc pc = .ok (.invokespecial i0, 3)) {a : Nat} {As : List Value} (hA : As.length = nA) (hst : (st.map fun v => v.category).sum ≤ 8) (hR : rmy.frames + 1 ≤ rm.frames ∧ 8 + (maxL + 11) + rmy.locals ≤ rm.locals) (hf : cn + rmy.cells ≤ rm.cells ∧ sn + rmy.slots ≤ rm.slots)
    (kk : xS G (kl k) y (xws y bytes maxL none) rmy (rf G a :: As) n h (fun v n1 h1 => WW G k nL (cn + rmy.cells) (sn + rmy.slots) (pc + 3) L (v.toList ++ st) n1 h1)) {st0 : List Value} (hst0 : st0 = As.reverse ++ rf G a :: st) : WW G k nL cn sn pc L st0 n h := by
  intro H q ls z b c e
  subst hst0
  have hRR := C.2.2.2.2.2.2.2.1
  have hts := C.2.2.2.2.1
  refine xx_call c (va_runI (n := nA) (bytes := bytes) (maxL := maxL) (index := i0) (Ts := lw_all) (own := own) (As := As) (nL := nL) ⟨C.1, C.2.1, C.2.2.1, C.2.2.2.1, hts⟩ kk (cwI (ws' := lw_all) nA hts (xGood w5 (l := []) (fun _ h => absurd h List.not_mem_nil)) rfl rfl rfl (hts _ w4) (hts _ w1) (hts _ w2) hy hd (by rw [hRR]; exact hR)) ⟨xWd_blind, xPre C z b c⟩ rfl hA e.1 rfl (lv_room hst) d (by rw [hRR]; exact hf)) e (fun v n1 h1 hp => hp)
theorem ww_callN (C : CC G k cc own nL rm) {y : MethodName} {bytes : ByteArray} {maxL i0 nA : Nat} {rmy : Room} {host : String} (w1 : Cond.methodLinkNest own i0 y host ∈ xNest) (w2 : Cond.instanceMethod y ∈ lw_all) (w4 : Cond.initialized y.cls ∈ lw_all) (w5 : Cond.code y bytes maxL none ∈ lw_all) (hy : y.name = "<init>")
    (hd : y.cls ≠ "java/lang/invoke/MethodHandle" ∧ y.cls ≠ "java/lang/invoke/VarHandle" ∧ (parseMethodDescriptor y.desc).map (fun d => d.parameters.length) = some nA)
    (d : decode cc pc = .ok (.invokespecial i0, 3)) {a : Nat} {As : List Value} (hA : As.length = nA) (hst : (st.map fun v => v.category).sum ≤ 8) (hR : rmy.frames + 1 ≤ rm.frames ∧ 8 + (maxL + 11) + rmy.locals ≤ rm.locals) (hf : cn + rmy.cells ≤ rm.cells ∧ sn + rmy.slots ≤ rm.slots)
    (kk : xS G (kl k) y (xws y bytes maxL none) rmy (rf G a :: As) n h (fun v n1 h1 => WW G k nL (cn + rmy.cells) (sn + rmy.slots) (pc + 3) L (v.toList ++ st) n1 h1)) {st0 : List Value} (hst0 : st0 = As.reverse ++ rf G a :: st) : WW G k nL cn sn pc L st0 n h := by
  intro H q ls z b c e
  subst hst0
  have hRR := C.2.2.2.2.2.2.2.1
  have hts := C.2.2.2.2.1
  refine xx_call c (va_runIN (n := nA) (bytes := bytes) (maxL := maxL) (index := i0) (Ts := lw_all) (own := own) (host := host) (As := As) (nL := nL) ⟨C.1, C.2.1, C.2.2.1, C.2.2.2.1, hts⟩ kk ⟨va_cnB (ws' := lw_all) nA hts (xGood w5 (l := []) (fun _ h => absurd h List.not_mem_nil)) rfl rfl rfl (C.2.2.2.2.2.2.1.1 _ w1) (hts _ w4) hd (by rw [hRR]; exact hR), hy, hts _ w2⟩ ⟨xWd_blind, xPre C z b c⟩ rfl hA e.1 rfl (lv_room hst) d (by rw [hRR]; exact hf)) e (fun v n1 h1 hp => hp)
/-- String's own methods, of a text that is a constant -/
theorem ww_callT (C : CC G k cc own nL rm) {y : MethodName} {bytes : ByteArray} {maxL i0 nA : Nat} {ret : Option FieldType} {rmy : Room} (w1 : Cond.methodLink own i0 y ∈ lw_all) (w2 : Cond.instanceMethod y ∈ lw_all) (w3 : Cond.selects "java/lang/String" y y ∈ lw_all) (w4 : Cond.initialized "java/lang/String" ∈ lw_all) (w5 : Cond.code y bytes maxL ret ∈ lw_all)
    (hd : y.cls = "java/lang/String" ∧ y.cls ≠ "java/lang/invoke/MethodHandle" ∧ y.cls ≠ "java/lang/invoke/VarHandle" ∧ (parseMethodDescriptor y.desc).map (fun d => d.parameters.length) = some nA)
    (d : decode cc pc = .ok (.invokevirtual i0, 3)) {j : Nat} {As : List Value} (hA : As.length = nA) (hst : (st.map fun v => v.category).sum ≤ 8) (hR : rmy.frames + 1 ≤ rm.frames ∧ 8 + (maxL + 11) + rmy.locals ≤ rm.locals) (hf : cn + rmy.cells ≤ rm.cells ∧ sn + rmy.slots ≤ rm.slots) (ok : j < 8)
    (kk : xS G (kl k) y (xws y bytes maxL ret) rmy (.ref (G.2.2.2.2.1 j) :: As) n h (fun v n1 h1 => WW G k nL (cn + rmy.cells) (sn + rmy.slots) (pc + 3) L (v.toList ++ st) n1 h1)) {st0 : List Value} (hst0 : st0 = As.reverse ++ .ref (G.2.2.2.2.1 j) :: st) : WW G k nL cn sn pc L st0 n h := by
  intro H q ls z b c e
  subst hst0
  have hRR := C.2.2.2.2.2.2.2.1
  refine xx_call c (va_runV (C := "java/lang/String") (n := nA) (bytes := bytes) (maxL := maxL) (ret := ret) (index := i0) (Ts := lw_all) (own := own) (As := As) (nL := nL) ⟨C.1, C.2.1, C.2.2.1, C.2.2.2.1, C.2.2.2.2.1⟩ kk (cwV (ws' := lw_all) nA C.2.2.2.2.1 (xGood w5 (l := [.methodLink own i0 y, .instanceMethod y, .selects "java/lang/String" y y, .initialized "java/lang/String"]) (by simp only [List.mem_cons, List.not_mem_nil, or_false]; rintro x (rfl | rfl | rfl | rfl) <;> assumption)) rfl rfl rfl hd (by rw [hRR]; exact hR)) ⟨xWd_blind, vk_recv C.2.2.2.2.2.2.1.2.2.1 ok c, xPre C z b c⟩ rfl hA e.1 rfl (lv_room hst) d (by rw [hRR]; exact hf)) e (fun v n1 h1 hp => hp)
theorem ww_objInit (C : CC G k cc own nL rm) {i0 : Nat} (w1 : Cond.methodLink own i0 objectInit ∈ lw_all) (w2 : Cond.instanceMethod objectInit ∈ lw_all) (w3 : Cond.code objectInit ⟨#[0xb1]⟩ 1 none ∈ lw_all) (d : decode cc pc = .ok (.invokespecial i0, 3)) {a : Nat} (h1 : 1 ≤ rm.frames) (h2 : (st.map fun v => v.category).sum + 12 ≤ rm.locals) (kk : WW G k nL cn sn (pc + 3) L st n h) : WW G k nL cn sn pc L (rf G a :: st) n h := by
  intro H q ls z b c e
  have hRR := C.2.2.2.2.2.2.2.1
  have hts := C.2.2.2.2.1
  exact W.objInit C.1 C.2.1 C.2.2.2.1 (hts _ w1) (hts _ w2) (hts _ w3) rfl (by rw [C.2.2.1]; exact e.1) rfl d (by rw [hRR]; exact h1) (by rw [hRR]; show 2 * 0 + _ + 12 ≤ _; omega) (kk H q ls z b c e)
/-- the contract out of the walk from the entry -/
theorem xS_of {l : Launch} {y : MethodName} {ret : Option FieldType} {av : List Value} {Po : Option Value → Nat → xH → Prop} {L : List (Nat × Value)} (hy : plainName y.cls = true) (hn : (lg_sl av).length ≤ nL) (hL : lv_args 0 av = L)
    (body : ∀ k : xK, kl k = l → (kt k).name = y.name → CC G k cc y.cls nL rm → CQ G k ret rm Po → WW G k nL 0 0 0 L [] n h) : xS G l y (xws y cc nL ret) rm av n h Po := by
  refine Met.ofW (cc := cc) (maxL := nL) (ret := ret) hy rfl ?_
  intro p e s m args below meth c s₁ B hml hv
  obtain ⟨rfl, hsz, hP, hK, hF⟩ := hv
  have hts := atoms_spec (ws := xws y cc nL ret) B.pre
  have hb := body (p, l, e, rm, s, m, av.toArray, below, meth, c, MQ below (xQ G Po) av.toArray s rm.cells rm.slots (xA G)) rfl (name_of_methodNamed B.named B.method).1 ⟨B.exec, B.bytes, hml, findClass_of_methodNamed B.named, fun w hw => hts w (List.mem_cons_of_mem _ hw), hK, hF, rfl, by rw [hsz]; exact Nat.le_add_right _ _⟩ ⟨B.returns, B.notSynchronized, rfl⟩
  have hl := lv_entry av (n := nL) hn
  rw [lg_entry_eq]
  rw [hL] at hl
  exact hb s.heap [] _ hsz hP va_S.rf hl
end XC
