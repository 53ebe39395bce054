/-! ROWS FOR CONSTANT TEXTS, STATICS, CASTS, SWITCHES, NATIVE METHODS -/
theorem xldcW {p : Program} {l : Launch} {e : Env} {R : Room} {s : State} {m : MethodId} {args : Array Value} {below : List Frame} {meth : Method} {c : Code} {T : State} {locs : List Loc} {cells slots : Nat}
    (X : Stand p l e R s m args below meth c T locs cells slots) (hexec : p.tables.exec = Jvm.exec) {own text : String} {index : Nat} {a : Addr} (hown : s.vm.findClass own = some m.cls)
    (hconst : (Cond.stringRef own index text).before #[] s = true) (hev : (Term.string own index).eval #[] s none [] s = some (.ref a)) {g : JFrame} (hg : g.method = m) (hdg : decode c.code g.pc = .ok (.ldc_w index, 3)) :
    ∀ target, Steps p.tables e below (T.setTop { g with pc := g.pc + 3, stack := .ref a :: g.stack }) target → Steps p.tables e below (T.setTop g) target := by
  obtain ⟨k, cf, i, a', hk, hcf, hcp, -, hr, hev'⟩ := Cond.stringRef_spec hown hconst
  cases hev.symm.trans hev'
  obtain ⟨k', hk', he⟩ := X.warmed.alike.2.2 _ _ hk
  have hr' : k'.resolved[index]? = some (some (.string a)) := by
    rcases X.warmed.entry hk hk' index with h | ⟨h, -⟩
    · rw [h]; exact hr
    · rw [hr] at h; cases h
  intro target hrest
  subst hg
  jvm_step X.here [hexec, hdg, ldc_w.wp_string (e := e) (s := T) (f := g) X.here.top hk' (by rw [he]; exact hcf) hcp hr']
  exact hrest
/-- the bytes of the constant texts, the table of fives, as whole numbers -/
def xCh (j i : Nat) : Int := ((xByt.getD j []).getD i 0).toInt
def x5 (i : Nat) : Int := (xP5.getD i 0).toInt
section XS
variable {G : xG} {k : xK} {cc : ByteArray} {own : String} {nL cn sn pc n : Nat} {rm : Room} {L : List (Nat × Value)} {st : List Value} {h : xH}
theorem ww_ldcSw (C : CC G k cc own nL rm) {i0 j : Nat} {tx : String} (hm : (own, i0, tx, j) ∈ xStr) (d : decode cc pc = .ok (.ldc_w i0, 3)) (kk : WW G k nL cn sn (pc + 3) L (.ref (G.2.2.2.2.1 j) :: st) n h) : WW G k nL cn sn pc L st n h := by
  intro H q ls a b c e T hT X
  have hZ := C.2.2.2.2.2.2.1.2.1 _ hm
  obtain ⟨t, a1, b1⟩ := kk H q ls a b c e T hT X
  exact ⟨t, xldcW X C.1 C.2.2.2.1 (text := tx) hZ.1 hZ.2 (g := F0 (km k) pc ls st) rfl (by rw [C.2.1]; exact d) t a1, b1⟩
/-- String.value, String.coder of a constant text; the length and the bytes of its row -/
theorem ww_strVal (C : CC G k cc own nL rm) {i0 j : Nat} (hj : j < 8) (w : Cond.fieldLink own i0 "java/lang/String" "value" "[B" ∈ lw_all) (d : decode cc pc = .ok (.getfield i0, 3)) (kk : WW G k nL cn sn (pc + 3) L (.ref (G.2.2.2.2.2 j) :: st) n h) : WW G k nL cn sn pc L (.ref (G.2.2.2.2.1 j) :: st) n h := fun H q ls a b c e =>
  vk_getf C.1 C.2.1 (C.2.2.2.2.2.2.1.2.2.1.1 j hj).2.2.1 c C.2.2.2.1 (C.2.2.2.2.1 _ w) (fun _ hx => hx) d (kk H q ls a b c e)
theorem ww_strCod (C : CC G k cc own nL rm) {i0 j : Nat} (hj : j < 8) (w : Cond.fieldLink own i0 "java/lang/String" "coder" "B" ∈ lw_all) (d : decode cc pc = .ok (.getfield i0, 3)) (kk : WW G k nL cn sn (pc + 3) L (.int (iz 0) :: st) n h) : WW G k nL cn sn pc L (.ref (G.2.2.2.2.1 j) :: st) n h := fun H q ls a b c e =>
  vk_getf C.1 C.2.1 (C.2.2.2.2.2.2.1.2.2.1.1 j hj).2.1 c C.2.2.2.1 (C.2.2.2.2.1 _ w) (fun _ hx => hx) d (kk H q ls a b c e)
theorem ww_strLen (C : CC G k cc own nL rm) {j : Nat} (hj : j < 8) (d : decode cc pc = .ok (.arraylength, 1)) (kk : WW G k nL cn sn (pc + 1) L (.int (iz (xLen.getD j 0 : Nat)) :: st) n h) : WW G k nL cn sn pc L (.ref (G.2.2.2.2.2 j) :: st) n h := fun H q ls a b c e =>
  va_tlen C.1 C.2.1 (C.2.2.2.2.2.2.1.2.2.1.1 j hj).2.2.2 c (iz_nat _) d (kk H q ls a b c e)
theorem ww_strAt (C : CC G k cc own nL rm) {j : Nat} (hj : j < 8) (d : decode cc pc = .ok (.baload, 1)) {i : Int} (h0 : 0 ≤ i) (h1 : i < (xLen.getD j 0 : Nat)) (h2 : i ≤ 2147483647) (kk : WW G k nL cn sn (pc + 1) L (.int (iz (xCh j i.toNat)) :: st) n h) : WW G k nL cn sn pc L (.int (iz i) :: .ref (G.2.2.2.2.2 j) :: st) n h := fun H q ls a b c e =>
  va_tb C.1 C.2.1 (C.2.2.2.2.2.2.1.2.2.1.1 j hj).2.2.2 c (iz_inA h0 h1 h2) (by show Value.int ((xByt.getD j []).getD (iz i).toNatClampNeg 0) = _; rw [iz_clamp ⟨by omega, h2⟩]; unfold xCh; rw [iz_self]) d (kk H q ls a b c e)
/-- statics -/
theorem ww_st5 (C : CC G k cc own nL rm) {i0 : Nat} (w : Cond.fieldLink own i0 "DoubleTexts$Natural" "POWERS_OF_FIVE" "[I" ∈ lw_all) (d : decode cc pc = .ok (.getstatic i0, 3)) (kk : WW G k nL cn sn (pc + 3) L (.ref G.2.2.2.1 :: st) n h) : WW G k nL cn sn pc L st n h := fun H q ls a b c e =>
  va_gets C.1 C.2.1 C.2.2.2.2.2.2.1.2.2.2.1 c C.2.2.2.1 (C.2.2.2.2.1 _ w) (fun _ hx => hx) d (kk H q ls a b c e)
theorem ww_st5len (C : CC G k cc own nL rm) (d : decode cc pc = .ok (.arraylength, 1)) (kk : WW G k nL cn sn (pc + 1) L (.int (iz 14) :: st) n h) : WW G k nL cn sn pc L (.ref G.2.2.2.1 :: st) n h := fun H q ls a b c e =>
  va_tlen C.1 C.2.1 C.2.2.2.2.2.2.1.2.2.2.2.1 c (iz_nat _) d (kk H q ls a b c e)
theorem ww_st5at (C : CC G k cc own nL rm) (d : decode cc pc = .ok (.iaload, 1)) {i : Int} (h0 : 0 ≤ i) (h1 : i < 14) (kk : WW G k nL cn sn (pc + 1) L (.int (iz (x5 i.toNat)) :: st) n h) : WW G k nL cn sn pc L (.int (iz i) :: .ref G.2.2.2.1 :: st) n h := fun H q ls a b c e =>
  va_ti C.1 C.2.1 C.2.2.2.2.2.2.1.2.2.2.2.1 c (iz_inA h0 (by omega) (by omega)) (by show Value.int (xP5.getD (iz i).toNatClampNeg 0) = _; rw [iz_clamp ⟨by omega, by omega⟩]; unfold x5; rw [iz_self]) d (kk H q ls a b c e)
theorem ww_stCompact (C : CC G k cc own nL rm) {i0 : Nat} (w : Cond.fieldLink own i0 "java/lang/String" "COMPACT_STRINGS" "Z" ∈ lw_all) (d : decode cc pc = .ok (.getstatic i0, 3)) (kk : WW G k nL cn sn (pc + 3) L (.int (iz 1) :: st) n h) : WW G k nL cn sn pc L st n h := fun H q ls a b c e =>
  va_gets C.1 C.2.1 C.2.2.2.2.2.2.1.2.2.2.2.2.1 c C.2.2.2.1 (C.2.2.2.2.1 _ w) (fun _ hx => hx) d (kk H q ls a b c e)
theorem ww_stNz (C : CC G k cc own nL rm) {i0 : Nat} (w : Cond.fieldLink own i0 "java/lang/Math" "negativeZeroDoubleBits" "J" ∈ lw_all) (d : decode cc pc = .ok (.getstatic i0, 3)) (kk : WW G k nL cn sn (pc + 3) L (.long (lz (-9223372036854775808)) :: st) n h) : WW G k nL cn sn pc L st n h := fun H q ls a b c e =>
  va_gets C.1 C.2.1 C.2.2.2.2.2.2.1.2.2.2.2.2.2.2.1 c C.2.2.2.1 (C.2.2.2.2.1 _ w) (fun _ hx => hx) d (kk H q ls a b c e)
/-- a reference to whom nobody looks: null, or some address -/
def vA (z : Option Nat) : Value := match z with
  | none => .null
  | some a => .ref a
theorem ww_stFmt (C : CC G k cc own nL rm) {i0 : Nat} (w : Cond.fieldLink own i0 "jdk/internal/util/Preconditions" "SIOOBE_FORMATTER" "Ljava/util/function/BiFunction;" ∈ lw_all) (d : decode cc pc = .ok (.getstatic i0, 3)) (kk : ∀ z, WW G k nL cn sn (pc + 3) L (vA z :: st) n h) : WW G k nL cn sn pc L st n h := by
  intro H q ls a b c e
  rcases C.2.2.2.2.2.2.1.2.2.2.2.2.2.1 with hZ | ⟨t, hZ⟩
  · exact va_gets C.1 C.2.1 hZ c C.2.2.2.1 (C.2.2.2.2.1 _ w) (fun _ hx => hx) d (kk none H q ls a b c e)
  · exact va_gets C.1 C.2.1 hZ c C.2.2.2.1 (C.2.2.2.2.1 _ w) (fun _ hx => hx) d (kk (some t) H q ls a b c e)
theorem ww_raw (C : CC G k cc own nL rm) {i0 : Nat} (w1 : Cond.methodLink own i0 ⟨"java/lang/Double", "doubleToRawLongBits", "(D)J"⟩ ∈ lw_all) (w2 : Cond.native ⟨"java/lang/Double", "doubleToRawLongBits", "(D)J"⟩ ∈ lw_all) (w3 : Cond.static ⟨"java/lang/Double", "doubleToRawLongBits", "(D)J"⟩ ∈ lw_all) (w4 : Cond.initialized "java/lang/Double" ∈ lw_all) (d : decode cc pc = .ok (.invokestatic i0, 3)) {x : UInt64} (h1 : 1 ≤ rm.frames) (h2 : (st.map fun v => v.category).sum + 15 ≤ rm.locals) (kk : WW G k nL cn sn (pc + 3) L (.long (lz x.toInt64.toInt) :: st) n h) : WW G k nL cn sn pc L (.double x :: st) n h := by
  intro H q ls a b c e
  have hRR := C.2.2.2.2.2.2.2.1
  have hts := C.2.2.2.2.1
  refine vn_d2l C.1 C.2.1 (by rw [C.2.2.1]; exact e.1.symm) C.2.2.2.1 (hts _ w1) (hts _ w2) (hts _ w3) (hts _ w4) (by rw [hRR]; exact h1) (by rw [hRR]; exact h2) d ?_
  rw [← lz_self x.toInt64]
  exact kk H q ls a b c e
/-- an object's class, asked -/
def xI (h : xH) (ci : Nat) (z : Int) : Int := if z < 0 then 0 else if (h z.toNat).1 = ci then 1 else 0
theorem xrecv (C : CC G k cc own nL rm) {H : Heap} (b : va_P G.2.1 vwCl (xw G n h) H) {ci a : Nat} {r : vw_C} (hc : vwCl[ci]? = some r) (hci : ci < 100) (ok : okO n h a ci) : ∃ cell : Cell, H[G.1 + a]? = some cell ∧ cell.vm.isStatics = false ∧ (ks k).vm.findClass r.1 = some cell.cls :=
  va_recv (ci := ci) C.2.2.2.2.2.1 b hc (q0 := a) (fs := xF G (xT ci) (h a).2.2) (by rw [xw_get ok.1, xE_obj ok.2 hci])
theorem ww_inst (C : CC G k cc own nL rm) {ci i0 : Nat} {Cn : String} {T : u_T} {N : Nat} (hc : vwCl[ci]? = some (Cn, T, N)) (hci : ci < 100) (w : Cond.classLink own i0 Cn ∈ lw_all) (hoth : ∀ cj, cj = 5 ∨ cj = 6 ∨ cj = 7 → cj ≠ ci → ∃ r, vwCl[cj]? = some r ∧ (r.1, Cn) ∈ xNc) (d : decode cc pc = .ok (.instanceof i0, 3)) {z : Int}
    (ok : z < 0 ∨ (z.toNat < n ∧ ((h z.toNat).1 = 5 ∨ (h z.toNat).1 = 6 ∨ (h z.toNat).1 = 7))) (kk : WW G k nL cn sn (pc + 3) L (.int (iz (xI h ci z)) :: st) n h) : WW G k nL cn sn pc L (vR G z :: st) n h := by
  intro H q ls a b c e
  have hk := kk H q ls a b c e
  by_cases hz : z < 0
  · rw [show vR G z = .null from if_pos hz]
    unfold xI at hk
    rw [if_pos hz] at hk
    exact lv_instN C.1 C.2.1 d hk
  · rw [show vR G z = .ref (G.1 + z.toNat) from if_neg hz]
    rcases ok with g | ⟨g1, g2⟩
    · exact absurd g hz
    · unfold xI at hk
      rw [if_neg hz] at hk
      by_cases he : (h z.toNat).1 = ci
      · rw [if_pos he] at hk
        exact va_instS C.1 C.2.1 C.2.2.2.1 (C.2.2.2.2.1 _ w) (C.2.2.2.2.2.1.1 ci _ hc).2 (xrecv C b hc hci ⟨g1, he⟩) d hk
      · rw [if_neg he] at hk
        obtain ⟨r, hr, hm⟩ := hoth _ g2 he
        exact va_instNo C.1 C.2.1 C.2.2.2.1 (C.2.2.2.2.1 _ w) (C.2.2.2.2.2.2.1.2.2.2.2.2.2.2.2.1 _ hm) (xrecv C b hr (by omega) ⟨g1, rfl⟩) d hk
theorem ww_cast (C : CC G k cc own nL rm) {ci i0 : Nat} {Cn : String} {T : u_T} {N : Nat} (hc : vwCl[ci]? = some (Cn, T, N)) (hci : ci < 100) (w : Cond.classLink own i0 Cn ∈ lw_all) (d : decode cc pc = .ok (.checkcast i0, 3)) {z : Int}
    (ok : z < 0 ∨ (z.toNat < n ∧ (h z.toNat).1 = ci)) (kk : WW G k nL cn sn (pc + 3) L (vR G z :: st) n h) : WW G k nL cn sn pc L (vR G z :: st) n h := by
  intro H q ls a b c e
  have hk := kk H q ls a b c e
  by_cases hz : z < 0
  · rw [show vR G z = .null from if_pos hz] at hk ⊢
    exact lv_castN C.1 C.2.1 d hk
  · rw [show vR G z = .ref (G.1 + z.toNat) from if_neg hz] at hk ⊢
    rcases ok with g | ⟨g1, g2⟩
    · exact absurd g hz
    · exact va_castS C.1 C.2.1 C.2.2.2.1 (C.2.2.2.2.1 _ w) (C.2.2.2.2.2.1.1 ci _ hc).2 (xrecv C b hc hci ⟨g1, g2⟩) d hk
theorem ww_castI (C : CC G k cc own nL rm) {i0 : Nat} (w : Cond.classLink own i0 "[I" ∈ lw_all) (d : decode cc pc = .ok (.checkcast i0, 3)) {a : Nat} (h1 : a < n) (h2 : (h a).1 = 100) (kk : WW G k nL cn sn (pc + 3) L (rf G a :: st) n h) : WW G k nL cn sn pc L (rf G a :: st) n h := fun H q ls y b c e =>
  va_castA C.1 C.2.1 C.2.2.2.1 (C.2.2.2.2.1 _ w) b a (by rw [xw_get h1, xE_ints h2]) (C.2.2.2.2.2.1.2 0 _ rfl).2 d (kk H q ls y b c e)
/-- the law's script -/
theorem ww_slen (C : CC G k cc own nL rm) {b0 N : Nat} {xs : Nat → Int32} (hX : va_X b0 N xs (ks k) (ks k).heap) (hbl : b0 < (ks k).heap.size) (hbA : ¬ xA G b0) (d : decode cc pc = .ok (.arraylength, 1)) (kk : WW G k nL cn sn (pc + 1) L (.int (iz (N : Int)) :: st) n h) : WW G k nL cn sn pc L (.ref b0 :: st) n h := by
  intro H q ls a b c e
  refine va_slen C.1 C.2.1 hX hbl hbA c d ?_
  rw [iz_nat]
  exact kk H q ls a b c e
theorem ww_sld (C : CC G k cc own nL rm) {b0 N : Nat} {xs : Nat → Int32} (hX : va_X b0 N xs (ks k) (ks k).heap) (hbl : b0 < (ks k).heap.size) (hbA : ¬ xA G b0) (d : decode cc pc = .ok (.iaload, 1)) {i : Int} (h0 : 0 ≤ i) (h1 : i < (N : Int)) (h2 : i ≤ 2147483647) (kk : WW G k nL cn sn (pc + 1) L (.int (iz (xs i.toNat).toInt) :: st) n h) : WW G k nL cn sn pc L (.int (iz i) :: .ref b0 :: st) n h := by
  intro H q ls a b c e
  refine va_sld C.1 C.2.1 hX hbl hbA c (iz_inA h0 h1 h2) d ?_
  rw [iz_clamp ⟨by omega, h2⟩, ← iz_self (xs i.toNat)]
  exact kk H q ls a b c e
/-- switches -/
theorem ww_tableIn (C : CC G k cc own nL rm) {df lo hi : Int} {offs : Array Int} {len tg : Nat} {x o : Int} (d : decode cc pc = .ok (.tableswitch df lo hi offs, len)) (hx : rg x) (h1 : lo ≤ x) (h2 : x ≤ hi) (ho : offs[(x - lo).toNat]? = some o) (ht : (pc : Int) + o = (tg : Int)) (kk : WW G k nL cn sn tg L st n h) : WW G k nL cn sn pc L (.int (iz x) :: st) n h := fun H q ls a b c e =>
  lv_tableIn C.1 C.2.1 d (by rw [iz_toInt hx]; omega) (by rw [iz_toInt hx]; omega) (by rw [iz_toInt hx]; exact ho) ht (kk H q ls a b c e)
theorem ww_tableOut (C : CC G k cc own nL rm) {df lo hi : Int} {offs : Array Int} {len tg : Nat} {x : Int} (d : decode cc pc = .ok (.tableswitch df lo hi offs, len)) (hx : rg x) (h1 : x < lo ∨ hi < x) (ht : (pc : Int) + df = (tg : Int)) (kk : WW G k nL cn sn tg L st n h) : WW G k nL cn sn pc L (.int (iz x) :: st) n h := fun H q ls a b c e =>
  lv_tableOut C.1 C.2.1 d (by rw [iz_toInt hx]; exact h1) ht (kk H q ls a b c e)
theorem ww_lookup (C : CC G k cc own nL rm) {df : Int} {ps : Array (Int × Int)} {len tg : Nat} {x o : Int} (d : decode cc pc = .ok (.lookupswitch df ps, len)) (hp : (ps.toList.zip (ps.toList.drop 1)).all (fun (a, next) => a.1 < next.1) = true) (hx : rg x) (ho : Op.lookupswitch.offset ps.toList df x = o) (ht : (pc : Int) + o = (tg : Int)) (kk : WW G k nL cn sn tg L st n h) : WW G k nL cn sn pc L (.int (iz x) :: st) n h := fun H q ls a b c e =>
  lv_lookup C.1 C.2.1 d hp (by rw [iz_toInt hx]; exact ho) ht (kk H q ls a b c e)
end XS
