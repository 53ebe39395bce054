/-! THE FLAT WORLD: every cell that the run makes has a number; the cell of number i lies at the address base + i.
A cell is (kind, length, contents): kind 0..8 the classes of vwCl, 100 a row of ints, 101 a row of bytes; contents are whole numbers. -/
abbrev xC : Type := Nat × Nat × (Nat → Int)
abbrev xH : Type := Nat → xC
/-- base; the classes' numbers and slots; the classes of int[] and byte[]; the address of the table of fives; the texts' addresses, their bytes' -/
abbrev xG : Type := Nat × va_G × (ClassId × ClassId) × Nat × (Nat → Nat) × (Nat → Nat)
abbrev rf (G : xG) (a : Nat) : Value := .ref (G.1 + a)
def vR (G : xG) (z : Int) : Value := if z < 0 then .null else .ref (G.1 + z.toNat)
/-- a field's value by its type: 0 an int, 1 a long, 2 a double, 3 a reference -/
def vF (G : xG) (t : Nat) (z : Int) : Value := match t with
  | 0 => .int (iz z)
  | 1 => .long (lz z)
  | 2 => .double (UInt64.ofNat z.toNat)
  | _ => vR G z
/-- the types of a class's fields, in the order of their slots -/
def xT (ci : Nat) : List Nat := match ci with
  | 0 => [3, 0]
  | 1 => [3, 0]
  | 2 => [3, 0, 0, 0, 0, 0, 0, 0]
  | 3 => [3, 0, 0, 3, 3, 3, 3, 3]
  | 4 => [3, 3, 3, 0, 0, 1, 0, 3, 3, 3, 3, 3]
  | 5 => [3, 3]
  | 6 => [2, 0]
  | 7 => [0, 3]
  | _ => [3, 3, 3, 3, 3, 3, 3, 3, 3, 3, 3, 3, 3, 3, 3, 3, 3, 3, 3, 0, 3, 0, 3, 3, 0, 3]
def xF (G : xG) (ts : List Nat) (F : Nat → Int) : List Value := (List.range ts.length).map fun k => vF G (ts.getD k 0) (F k)
def xE (G : xG) (c : xC) : va_E := if c.1 = 100 then .inl (G.2.2.1.1, (c.2.1, .inl fun j => iz (c.2.2 j))) else if c.1 = 101 then .inl (G.2.2.1.2, (c.2.1, .inl fun j => iz (c.2.2 j))) else .inr (c.1, xF G (xT c.1) c.2.2)
def xw (G : xG) (n : Nat) (h : xH) : va_W := (List.range n).map fun i => (G.1 + i, xE G (h i))
/-- what a cell holds; a cell written; a new cell -/
abbrev hG (h : xH) (a k : Nat) : Int := (h a).2.2 k
def hS (h : xH) (a k : Nat) (z : Int) : xH := fun i => if i = a then ((h a).1, (h a).2.1, fun j => if j = k then z else (h a).2.2 j) else h i
def hN (h : xH) (a : Nat) (c : xC) : xH := fun i => if i = a then c else h i
theorem hS_self (h : xH) (a k : Nat) (z : Int) : hS h a k z a = ((h a).1, (h a).2.1, fun j => if j = k then z else (h a).2.2 j) := if_pos rfl
theorem hS_ne (h : xH) {a i : Nat} (k : Nat) (z : Int) (hi : i ≠ a) : hS h a k z i = h i := if_neg hi
theorem hN_self (h : xH) (a : Nat) (c : xC) : hN h a c a = c := if_pos rfl
theorem hN_ne (h : xH) {a i : Nat} (c : xC) (hi : i ≠ a) : hN h a c i = h i := if_neg hi
theorem xw_get {G : xG} {n : Nat} {h : xH} {i : Nat} (hi : i < n) : (xw G n h)[i]? = some (G.1 + i, xE G (h i)) := by
  unfold xw
  rw [List.getElem?_map, List.getElem?_range hi]
  rfl
theorem xw_inv {G : xG} {n : Nat} {h : xH} {i : Nat} {q : Nat × va_E} (hq : (xw G n h)[i]? = some q) : i < n ∧ q = (G.1 + i, xE G (h i)) := by
  have hi : i < n := by
    rcases Nat.lt_or_ge i n with g | g
    · exact g
    · rw [List.getElem?_eq_none (by unfold xw; simpa using g)] at hq
      cases hq
  rw [xw_get hi] at hq
  exact ⟨hi, (Option.some.inj hq).symm⟩
theorem xw_len {G : xG} {n : Nat} {h : xH} : (xw G n h).length = n := by unfold xw; simp
theorem xw_set {G : xG} {n : Nat} {h h' : xH} {i : Nat} {e : va_E} (he : xE G (h' i) = e) (ho : ∀ j, j ≠ i → h' j = h j) : (xw G n h).set i (G.1 + i, e) = xw G n h' := by
  apply List.ext_getElem?
  intro j
  by_cases hj : j = i
  · subst hj
    by_cases hl : j < n
    · rw [List.getElem?_set_self (by rw [xw_len]; exact hl), xw_get hl, he]
    · rw [List.getElem?_eq_none (by simp [xw_len]; omega), List.getElem?_eq_none (by rw [xw_len]; omega)]
  · rw [List.getElem?_set_ne (Ne.symm hj)]
    by_cases hl : j < n
    · rw [xw_get hl, xw_get hl, ho j hj]
    · rw [List.getElem?_eq_none (by rw [xw_len]; omega), List.getElem?_eq_none (by rw [xw_len]; omega)]
theorem xw_push {G : xG} {n : Nat} {h : xH} {c : xC} {e : va_E} (he : xE G c = e) : xw G n h ++ [(G.1 + n, e)] = xw G (n + 1) (hN h n c) := by
  unfold xw
  rw [List.range_succ, List.map_append]
  congr 1
  · apply List.map_congr_left
    intro i hi
    have := List.mem_range.mp hi
    rw [hN_ne _ _ (by omega)]
  · simp only [List.map_cons, List.map_nil, hN_self, he]
theorem xw_D {G : xG} {n : Nat} {h : xH} : va_D (fun q => G.1 ≤ q) (xw G n h) := by
  refine ⟨fun i j p q hi hj hpq => ?_, fun k q hk => ?_⟩
  · obtain ⟨-, rfl⟩ := xw_inv hi
    obtain ⟨-, rfl⟩ := xw_inv hj
    have : G.1 + i = G.1 + j := hpq
    omega
  · obtain ⟨-, rfl⟩ := xw_inv hk
    exact Nat.le_add_right _ _
/-- the rows' classes -/
abbrev xty (G : xG) : List (ClassId × FieldType) := [(G.2.2.1.1, .int), (G.2.2.1.2, .byte)]
/-- the words that speak of private members of nest mates; the texts that are constants -/
def xNest : List Cond := [(Cond.methodLinkNest "DoubleTexts" (9 : Nat) ({ cls := "DoubleTexts$Numeral", name := "<init>", desc := "()V" }  : MethodName) "DoubleTexts"), (Cond.methodLinkNest "DoubleTexts$Numeral" (11 : Nat) ({ cls := "DoubleTexts$Line", name := "<init>", desc := "()V" }  : MethodName) "DoubleTexts"), (Cond.methodLinkNest "DoubleTexts" (26 : Nat) ({ cls := "DoubleTexts$Line", name := "<init>", desc := "()V" }  : MethodName) "DoubleTexts"), (Cond.methodLinkNest "DoubleTexts" (47 : Nat) ({ cls := "DoubleTexts$Natural", name := "<init>", desc := "()V" }  : MethodName) "DoubleTexts"), (Cond.methodLinkNest "DoubleTexts" (63 : Nat) ({ cls := "DoubleTexts$ShortestDigits", name := "<init>", desc := "()V" }  : MethodName) "DoubleTexts"), (Cond.methodLinkNest "DoubleTexts$ShortestDigits" (24 : Nat) ({ cls := "DoubleTexts$Natural", name := "<init>", desc := "()V" }  : MethodName) "DoubleTexts"), (Cond.methodLinkNest "DoubleTextsModel$Real" (1 : Nat) ({ cls := "DoubleTextsModel$Num", name := "<init>", desc := "()V" }  : MethodName) "DoubleTextsModel"), (Cond.fieldLinkNest "DoubleTextsModel" (203 : Nat) "DoubleTextsModel$Real" "x" "D" "DoubleTextsModel"), (Cond.fieldLinkNest "DoubleTextsModel" (394 : Nat) "DoubleTextsModel$Real" "none" "Z" "DoubleTextsModel"), (Cond.methodLinkNest "DoubleTextsModel$Whole" (3 : Nat) ({ cls := "DoubleTextsModel$Num", name := "<init>", desc := "()V" }  : MethodName) "DoubleTextsModel"), (Cond.fieldLinkNest "DoubleTextsModel" (109 : Nat) "DoubleTextsModel$Whole" "sign" "I" "DoubleTextsModel"), (Cond.fieldLinkNest "DoubleTextsModel" (104 : Nat) "DoubleTextsModel$Whole" "digits" "[I" "DoubleTextsModel"), (Cond.methodLinkNest "DoubleTextsModel$Ratio" (1 : Nat) ({ cls := "DoubleTextsModel$Num", name := "<init>", desc := "()V" }  : MethodName) "DoubleTextsModel"), (Cond.fieldLinkNest "DoubleTextsModel" (159 : Nat) "DoubleTextsModel$Ratio" "above" "LDoubleTextsModel$Whole;" "DoubleTextsModel"), (Cond.fieldLinkNest "DoubleTextsModel" (167 : Nat) "DoubleTextsModel$Ratio" "below" "LDoubleTextsModel$Whole;" "DoubleTextsModel")]
def xStr : List (String × Nat × String × Nat) := [("DoubleTexts$Numeral", 65, "inf.0", 0), ("DoubleTexts$Numeral", 71, "nan.0", 1), ("DoubleTexts", 280, "0.", 2), ("DoubleTexts", 159, "inf.0", 0), ("DoubleTexts", 164, "+nan.0", 3), ("DoubleTextsModel", 107, "0123456789abcdefghijklmnopqrstuvwxyz", 4), ("DoubleTextsModel", 407, "+nan.0", 3), ("DoubleTextsModel", 249, "+inf.0", 5), ("DoubleTextsModel", 251, "-inf.0", 6), ("DoubleTextsModel", 260, "0.0", 7), ("DoubleTextsModel", 304, "0.", 2)]
def xLen : List Nat := [5, 5, 2, 6, 36, 6, 6, 3]
def xByt : List (List Int32) := [[105, 110, 102, 46, 48], [110, 97, 110, 46, 48], [48, 46], [43, 110, 97, 110, 46, 48], [48, 49, 50, 51, 52, 53, 54, 55, 56, 57, 97, 98, 99, 100, 101, 102, 103, 104, 105, 106, 107, 108, 109, 110, 111, 112, 113, 114, 115, 116, 117, 118, 119, 120, 121, 122], [43, 105, 110, 102, 46, 48], [45, 105, 110, 102, 46, 48], [48, 46, 48]]
def xP5 : List Int32 := [1, 5, 25, 125, 625, 3125, 15625, 78125, 390625, 1953125, 9765625, 48828125, 244140625, 1220703125]
def xNc : List (String × String) := [("DoubleTextsModel$Whole", "DoubleTextsModel$Real"), ("DoubleTextsModel$Ratio", "DoubleTextsModel$Real"), ("DoubleTextsModel$Real", "DoubleTextsModel$Whole"), ("DoubleTextsModel$Ratio", "DoubleTextsModel$Whole"), ("DoubleTextsModel$Real", "DoubleTextsModel$Ratio"), ("DoubleTextsModel$Whole", "DoubleTextsModel$Ratio")]
abbrev xA (G : xG) : Nat → Prop := fun q => G.1 ≤ q
/-- what stays as it is through the whole run -/
def xX (G : xG) (U : State) (H : Heap) : Prop :=
  (∀ w ∈ xNest, va_Nw w U) ∧ (∀ q ∈ xStr, vk_R q.1 q.2.1 q.2.2.1 (G.2.2.2.2.1 q.2.2.2) U) ∧ vk_S 8 xLen xByt G.2.2.2.2.1 G.2.2.2.2.2 (xA G) U H ∧
  va_Z "DoubleTexts$Natural" "POWERS_OF_FIVE" "[I" (.ref G.2.2.2.1) (xA G) U H ∧ va_T .int G.2.2.2.1 14 (fun j => .int (xP5.getD j 0)) (xA G) U H ∧
  va_Z "java/lang/String" "COMPACT_STRINGS" "Z" (.int 1) (xA G) U H ∧ va_Zq "jdk/internal/util/Preconditions" "SIOOBE_FORMATTER" "Ljava/util/function/BiFunction;" (xA G) U H ∧
  va_Z "java/lang/Math" "negativeZeroDoubleBits" "J" (.long (-9223372036854775808)) (xA G) U H ∧ (∀ q ∈ xNc, va_Nc q.1 q.2 U) ∧ va_Nw (.castable "[I" "java/lang/Cloneable") U
theorem xNest_warm : ∀ w ∈ xNest, ∀ {s U : State}, s.WarmedH U.vm → va_Nw w s → va_Nw w U := by
  unfold xNest
  simp only [List.mem_cons, List.not_mem_nil, or_false, forall_eq_or_imp, forall_eq]
  refine ⟨fun hW h => va_Nw.warmM hW h, fun hW h => va_Nw.warmM hW h, fun hW h => va_Nw.warmM hW h, fun hW h => va_Nw.warmM hW h, fun hW h => va_Nw.warmM hW h, fun hW h => va_Nw.warmM hW h, fun hW h => va_Nw.warmM hW h, fun hW h => va_Nw.warmF hW h, fun hW h => va_Nw.warmF hW h, fun hW h => va_Nw.warmM hW h, fun hW h => va_Nw.warmF hW h, fun hW h => va_Nw.warmF hW h, fun hW h => va_Nw.warmM hW h, fun hW h => va_Nw.warmF hW h, fun hW h => va_Nw.warmF hW h⟩
theorem xX.warm {G : xG} {s U : State} {H0 H : Heap} (h : xX G s H0) (hW : s.WarmedH U.vm) (hq : ∀ a : Nat, a < H0.size → ¬ xA G a → H[a]? = H0[a]?) : xX G U H := by
  obtain ⟨h1, h2, h3, h4, h5, h6, h7, h8, h9, h10⟩ := h
  have hv := hW.alike
  exact ⟨fun w hw => xNest_warm w hw hW (h1 w hw), fun q hm => (h2 q hm).warm hW, (h3.moved hv).kept hq, (h4.moved hv).kept hq, (h5.moved hv).kept hq, (h6.moved hv).kept hq, (h7.moved hv).kept hq, (h8.moved hv).kept hq, fun q hm => (h9 q hm).moved hv, va_Nw.warmC hW h10⟩
def xWd (G : xG) (n : Nat) (h : xH) (U : State) : Prop := U.heap.size = G.1 + n ∧ va_P G.2.1 vwCl (xw G n h) U.heap ∧ va_K G.2.1 vwCl (xty G) U ∧ xX G U U.heap
def xQ (G : xG) (Po : Option Value → Nat → xH → Prop) : Array Value → State → Outcome → State → Prop := fun _ st o t => (∃ (v : Option Value) (n : Nat) (h : xH), o = .returned v ∧ Po v n h ∧ t.heap.size = G.1 + n ∧ va_P G.2.1 vwCl (xw G n h) t.heap) ∧ va_F (xA G) st t
/-- A CONTRACT: from the world h of n cells, with these arguments, the method returns, and Po says of its answer, and of the world behind it -/
def xS (G : xG) (l : Launch) (y : MethodName) (ws : List Cond) (rm : Room) (av : List Value) (n : Nat) (h : xH) (Po : Option Value → Nat → xH → Prop) : Prop :=
  Met l y ws rm (va_Pc av (xWd G n h)) (xQ G Po) rm.cells rm.slots (xA G)
theorem xS.mono {G : xG} {l : Launch} {y : MethodName} {ws : List Cond} {rm : Room} {av : List Value} {n : Nat} {h : xH} {Po Po' : Option Value → Nat → xH → Prop} (hs : xS G l y ws rm av n h Po) (hp : ∀ v n h, Po v n h → Po' v n h) : xS G l y ws rm av n h Po' := by
  intro p e a1 a2 a3 s m args below b1 b2 b3 b4
  obtain ⟨k, o, c1, c2, c3, ⟨⟨v, n1, h1, d1, d2, d3⟩, d4⟩, c5⟩ := hs p e a1 a2 a3 s m args below b1 b2 b3 b4
  exact ⟨k, o, c1, c2, c3, ⟨⟨v, n1, h1, d1, hp _ _ _ d2, d3⟩, d4⟩, c5⟩
/-- where a walk stands: all that stays the same through it -/
abbrev xK : Type := Program × Launch × Env × Room × State × MethodId × Array Value × List Frame × Method × Code × (State → Prop)
abbrev kp (k : xK) : Program := k.1
abbrev kl (k : xK) : Launch := k.2.1
abbrev ke (k : xK) : Env := k.2.2.1
abbrev kR (k : xK) : Room := k.2.2.2.1
abbrev ks (k : xK) : State := k.2.2.2.2.1
abbrev km (k : xK) : MethodId := k.2.2.2.2.2.1
abbrev ka (k : xK) : Array Value := k.2.2.2.2.2.2.1
abbrev kb (k : xK) : List Frame := k.2.2.2.2.2.2.2.1
abbrev kt (k : xK) : Method := k.2.2.2.2.2.2.2.2.1
abbrev kc (k : xK) : Code := k.2.2.2.2.2.2.2.2.2.1
abbrev kQ (k : xK) : State → Prop := k.2.2.2.2.2.2.2.2.2.2
/-- THE WALK AT A POINT: locals L, operand stack st, the world h of n cells; so many cells and slots are made -/
def WW (G : xG) (k : xK) (nL cn sn pc : Nat) (L : List (Nat × Value)) (st : List Value) (n : Nat) (h : xH) : Prop :=
  ∀ (H : Heap) (locs : List Loc) (ls : Array Slot), H.size = G.1 + n → va_P G.2.1 vwCl (xw G n h) H → va_S (xA G) (ks k).heap H locs → lv_has ls nL L →
    W (kp k) (kl k) (ke k) (kR k) (ks k) (km k) (ka k) (kb k) (kt k) (kc k) H locs cn sn (kQ k) (F0 (km k) pc ls st)
/-- the words that a call needs, all in one list -/
def lw_all : List Cond := lw_tbl.filter goodWord
theorem lw_all_tbl {w : Cond} (h : w ∈ lw_all) : w ∈ lw_tbl := (List.mem_filter.mp h).1
theorem lw_all_good {w : Cond} (h : w ∈ lw_all) : (w.onTables && w.keeps) = true ∨ ∃ ty, w = .arrayClass ty := good_of_word (List.mem_filter.mp h).2
def CC (G : xG) (k : xK) (cc : ByteArray) (own : String) (nL : Nat) (rm : Room) : Prop :=
  (kp k).tables.exec = Jvm.exec ∧ (kc k).code = cc ∧ (kc k).maxLocals = nL ∧ (ks k).vm.findClass own = some (km k).cls ∧ (∀ w ∈ lw_all, w.before (ka k) (ks k) = true) ∧ va_K G.2.1 vwCl (xty G) (ks k) ∧ xX G (ks k) (ks k).heap ∧ kR k = rm ∧ G.1 ≤ (ks k).heap.size
/-- how a walk ends -/
def CQ (G : xG) (k : xK) (ret : Option FieldType) (rm : Room) (Po : Option Value → Nat → xH → Prop) : Prop :=
  (kt k).sig.returnType = ret ∧ (kt k).locks = false ∧ kQ k = MQ (kb k) (xQ G Po) (ka k) (ks k) rm.cells rm.slots (xA G)
