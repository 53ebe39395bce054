/-! ROWS OVER THE FLAT WORLD: fields, rows, new cells -/
theorem xF_get {G : xG} {ts : List Nat} {F : Nat → Int} {k t : Nat} (h : ts[k]? = some t) : (xF G ts F)[k]? = some (vF G t (F k)) := by
  have hl : k < ts.length := (List.getElem?_eq_some_iff.mp h).1
  unfold xF
  rw [List.getElem?_map, List.getElem?_range hl]
  show some (vF G (ts.getD k 0) (F k)) = _
  rw [List.getD_eq_getElem?_getD, h]
  rfl
theorem xF_len {G : xG} {ts : List Nat} {F : Nat → Int} : (xF G ts F).length = ts.length := by unfold xF; simp
theorem xF_set {G : xG} {ts : List Nat} {F : Nat → Int} {k t : Nat} (h : ts[k]? = some t) (z : Int) : (xF G ts F).set k (vF G t z) = xF G ts (fun j => if j = k then z else F j) := by
  have hl : k < ts.length := (List.getElem?_eq_some_iff.mp h).1
  apply List.ext_getElem?
  intro j
  by_cases hj : j = k
  · subst hj
    rw [List.getElem?_set_self (by rw [xF_len]; exact hl), xF_get h, if_pos rfl]
  · rw [List.getElem?_set_ne (Ne.symm hj)]
    cases ht : ts[j]? with
    | none =>
      have h2 : ts.length ≤ j := List.getElem?_eq_none_iff.mp ht
      rw [List.getElem?_eq_none (by rw [xF_len]; exact h2), List.getElem?_eq_none (by rw [xF_len]; exact h2)]
    | some t' => rw [xF_get ht, xF_get ht, if_neg hj]
theorem xE_obj {G : xG} {c : xC} {ci : Nat} (h : c.1 = ci) (hc : ci < 100) : xE G c = .inr (ci, xF G (xT ci) c.2.2) := by
  unfold xE
  rw [if_neg (by omega), if_neg (by omega), h]
theorem xE_ints {G : xG} {c : xC} (h : c.1 = 100) : xE G c = .inl (G.2.2.1.1, (c.2.1, .inl fun j => iz (c.2.2 j))) := by
  unfold xE
  rw [if_pos h]
theorem xE_bytes {G : xG} {c : xC} (h : c.1 = 101) : xE G c = .inl (G.2.2.1.2, (c.2.1, .inl fun j => iz (c.2.2 j))) := by
  unfold xE
  rw [if_neg (by omega), if_pos h]
theorem iz_inA {z : Int} {N : Nat} (h0 : 0 ≤ z) (h1 : z < N) (h2 : z ≤ 2147483647) : vp_in (iz z) N := by
  have hr : rg z := ⟨by omega, h2⟩
  rw [vp_in_iff, iz_toInt hr]
  exact ⟨h0, h1⟩
/-- an index within a row of the kind kd -/
abbrev okA (n : Nat) (h : xH) (a kd : Nat) (i : Int) : Prop := a < n ∧ (h a).1 = kd ∧ 0 ≤ i ∧ i < ((h a).2.1 : Int) ∧ i ≤ 2147483647
abbrev okO (n : Nat) (h : xH) (a ci : Nat) : Prop := a < n ∧ (h a).1 = ci
section XH
variable {G : xG} {k : xK} {cc : ByteArray} {own : String} {nL cn sn pc n : Nat} {rm : Room} {L : List (Nat × Value)} {st : List Value} {h : xH}
theorem ww_get (C : CC G k cc own nL rm) {ci kf i0 t : Nat} {Cn ref : String} {T : u_T} {N : Nat} (hc : vwCl[ci]? = some (Cn, T, N)) (hin : ∀ w ∈ u_ws Cn T N, w ∈ lw_all) (hk : kf < N) (w : Cond.fieldLink own i0 ref (T kf).2.1 (T kf).2.2.1 ∈ lw_all) (hr : (T kf).1 = ref) (ht : (xT ci)[kf]? = some t) (hci : ci < 100)
    (d : decode cc pc = .ok (.getfield i0, 3)) {a : Nat} (ok : okO n h a ci) (kk : WW G k nL cn sn (pc + 3) L (vF G t (hG h a kf) :: st) n h) : WW G k nL cn sn pc L (rf G a :: st) n h := by
  intro H q ls z b c e
  refine va_get (D := G.2.1) (cl := vwCl) (tys := xty G) (fs := xF G (xT ci) (h a).2.2) C.1 C.2.1 C.2.2.2.2.1 hin C.2.2.2.1 C.2.2.2.2.2.1 b a (by rw [xw_get ok.1, xE_obj ok.2 hci]) hc kf hk (C.2.2.2.2.1 _ w) (fun x hx => by rw [← hr]; exact hx) (xF_get ht) d (kk H q ls z b c e)
theorem ww_getN (C : CC G k cc own nL rm) {ci kf i0 t : Nat} {Cn ref host : String} {T : u_T} {N : Nat} (hc : vwCl[ci]? = some (Cn, T, N)) (hin : ∀ w ∈ u_ws Cn T N, w ∈ lw_all) (hk : kf < N) (w : Cond.fieldLinkNest own i0 ref (T kf).2.1 (T kf).2.2.1 host ∈ xNest) (hr : (T kf).1 = ref) (ht : (xT ci)[kf]? = some t) (hci : ci < 100)
    (d : decode cc pc = .ok (.getfield i0, 3)) {a : Nat} (ok : okO n h a ci) (kk : WW G k nL cn sn (pc + 3) L (vF G t (hG h a kf) :: st) n h) : WW G k nL cn sn pc L (rf G a :: st) n h := by
  intro H q ls z b c e
  refine va_getN (D := G.2.1) (cl := vwCl) (tys := xty G) (fs := xF G (xT ci) (h a).2.2) C.1 C.2.1 C.2.2.2.2.1 hin C.2.2.2.1 C.2.2.2.2.2.1 b a (by rw [xw_get ok.1, xE_obj ok.2 hci]) hc kf hk ((C.2.2.2.2.2.2.1.1 _ w).use rfl) (fun x hx => by rw [← hr]; exact hx) (xF_get ht) d (kk H q ls z b c e)
theorem xw_put {a ci kf t : Nat} {z : Int} (ok : okO n h a ci) (hci : ci < 100) (ht : (xT ci)[kf]? = some t) : (xw G n h).set a (G.1 + a, .inr (ci, (xF G (xT ci) (h a).2.2).set kf (vF G t z))) = xw G n (hS h a kf z) := by
  refine xw_set ?_ (fun j hj => hS_ne h kf z hj)
  rw [xE_obj (c := hS h a kf z a) (ci := ci) (by rw [hS_self]; exact ok.2) hci, hS_self, xF_set ht]
theorem ww_put (C : CC G k cc own nL rm) {ci kf i0 t : Nat} {Cn ref : String} {T : u_T} {N : Nat} (hc : vwCl[ci]? = some (Cn, T, N)) (hin : ∀ w ∈ u_ws Cn T N, w ∈ lw_all) (ty0 : Nat → FieldType) (hty : ∀ k, k < N → parseFieldDescriptor (T k).2.2.1 = some (ty0 k)) (hnm : ∀ a, a < N → ∀ b, b < N → a ≠ b → (T a).2.1 ≠ (T b).2.1) (hk : kf < N) (w : Cond.fieldLink own i0 ref (T kf).2.1 (T kf).2.2.1 ∈ lw_all) (hr : (T kf).1 = ref) (hfin : (T kf).2.2.2 = false) {ty : FieldType} (hd : parseFieldDescriptor (T kf).2.2.1 = some ty) (ht : (xT ci)[kf]? = some t) (hci : ci < 100)
    (d : decode cc pc = .ok (.putfield i0, 3)) {a : Nat} {z : Int} (hn : narrow ty (vF G t z) = vF G t z) (hf : fits ty (vF G t z) = true) (ok : okO n h a ci) (kk : WW G k nL cn sn (pc + 3) L st n (hS h a kf z)) : WW G k nL cn sn pc L (vF G t z :: rf G a :: st) n h := by
  intro H q ls y b c e
  have hts := C.2.2.2.2.1
  have hap := va_apart (own := own) hts hin ty0 hty hnm C.2.2.2.2.2.1 hc
  have he : (xw G n h)[a]? = some (G.1 + a, .inr (ci, xF G (xT ci) (h a).2.2)) := by rw [xw_get ok.1, xE_obj ok.2 hci]
  obtain ⟨r, h1, cell, q1, q2, q3, q4⟩ := b a _ he
  have hr2 : r = (Cn, T, N) := Option.some.inj (h1.symm.trans hc)
  subst hr2
  obtain ⟨hS0, hfc, kC, hkC, hkind⟩ := C.2.2.2.2.2.1.1 ci _ hc
  obtain ⟨cf, kf0, fi, f, hi, hsl⟩ := hS0 kf hk
  have hlay := hts _ (hin _ (u_in_lay hk))
  unfold u_lay at hlay
  rw [if_neg (by rw [hfin]; decide)] at hlay
  have hst := (u_facts hfc hkC (u_lays hts hin hk) hi).1
  have h6 := u_store hfc hkC hkind hlay hi hd hn hf
  refine W.putK C.1 C.2.1 (f := f) ⟨C.2.2.2.1, hts _ w, ⟨_, _, _, by rw [← hr]; exact hi⟩, hst⟩ (by rw [q2]; exact h6) q1 q3 (by rw [hsl]; exact k2_hasslot (q4 kf hk)) rfl rfl d fun H' e1 e2 e3 => ?_
  rw [hsl] at e1 ⊢
  have hl : kf < (xF G (xT ci) (h a).2.2).length := by rw [xF_len]; exact (List.getElem?_eq_some_iff.mp ht).1
  have b1 := b.set xw_D he (e := .inr (ci, (xF G (xT ci) (h a).2.2).set kf (vF G t z))) ⟨_, hc, t_OB.to (V := updV (vp_V (xF G (xT ci) (h a).2.2)) kf (vF G t z)) ⟨_, e1, q2, q3, t_set q4 hap hk (vF G t z)⟩ (fun j _ => vp_updV_set hl (vF G t z) j)⟩ e3
  rw [xw_put ok hci ht] at b1
  exact kk H' _ ls (e2.trans y) b1 (c.put e2 e3 (Nat.le_add_right _ _)) e
theorem ww_putF (C : CC G k cc own nL rm) (hin2 : (kt k).name = "<init>") {ci kf i0 t : Nat} {Cn ref : String} {T : u_T} {N : Nat} (hc : vwCl[ci]? = some (Cn, T, N)) (hin : ∀ w ∈ u_ws Cn T N, w ∈ lw_all) (ty0 : Nat → FieldType) (hty : ∀ k, k < N → parseFieldDescriptor (T k).2.2.1 = some (ty0 k)) (hnm : ∀ a, a < N → ∀ b, b < N → a ≠ b → (T a).2.1 ≠ (T b).2.1) (hk : kf < N) (w : Cond.fieldLink own i0 ref (T kf).2.1 (T kf).2.2.1 ∈ lw_all) (hr : (T kf).1 = ref) (hfin : (T kf).2.2.2 = true) (hdecl : (T kf).1 = own) {ty : FieldType} (hd : parseFieldDescriptor (T kf).2.2.1 = some ty) (ht : (xT ci)[kf]? = some t) (hci : ci < 100)
    (d : decode cc pc = .ok (.putfield i0, 3)) {a : Nat} {z : Int} (hn : narrow ty (vF G t z) = vF G t z) (hf : fits ty (vF G t z) = true) (ok : okO n h a ci) (kk : WW G k nL cn sn (pc + 3) L st n (hS h a kf z)) : WW G k nL cn sn pc L (vF G t z :: rf G a :: st) n h := by
  intro H q ls y b c e
  have hts := C.2.2.2.2.1
  have hap := va_apart (own := own) hts hin ty0 hty hnm C.2.2.2.2.2.1 hc
  have he : (xw G n h)[a]? = some (G.1 + a, .inr (ci, xF G (xT ci) (h a).2.2)) := by rw [xw_get ok.1, xE_obj ok.2 hci]
  obtain ⟨r, h1, cell, q1, q2, q3, q4⟩ := b a _ he
  have hr2 : r = (Cn, T, N) := Option.some.inj (h1.symm.trans hc)
  subst hr2
  obtain ⟨hS0, hfc, kC, hkC, hkind⟩ := C.2.2.2.2.2.1.1 ci _ hc
  obtain ⟨cf, kf0, fi, f, hi, hsl⟩ := hS0 kf hk
  have hlay := hts _ (hin _ (u_in_lay hk))
  unfold u_lay at hlay
  rw [if_pos hfin] at hlay
  have hst := (u_facts hfc hkC (u_lays hts hin hk) hi).1
  have hcf : (km k).cls = cf := by
    obtain ⟨_, _, c', _, _, _, -, -, hf', -, -, -, hown2, -⟩ := Cond.laysFinal_spec hlay
    have e1 : c' = cf := by have := hi.symm.trans hf'; simp at this; exact this.1.symm
    rw [hdecl] at hown2
    rw [← e1]; exact Option.some.inj (C.2.2.2.1.symm.trans hown2)
  have h6 := u_fits hfc hkC hkind (Or.inr hlay) hi hd hn hf
  refine W.putFinK C.1 C.2.1 C.2.2.2.1 (hts _ w) (by rw [← hr]; exact hi) hst hcf hin2 (by rw [q2]; exact h6) q1 q3 (by rw [hsl]; exact k2_hasslot (q4 kf hk)) rfl rfl d fun H' e1 e2 e3 => ?_
  rw [hsl] at e1 ⊢
  have hl : kf < (xF G (xT ci) (h a).2.2).length := by rw [xF_len]; exact (List.getElem?_eq_some_iff.mp ht).1
  have b1 := b.set xw_D he (e := .inr (ci, (xF G (xT ci) (h a).2.2).set kf (vF G t z))) ⟨_, hc, t_OB.to (V := updV (vp_V (xF G (xT ci) (h a).2.2)) kf (vF G t z)) ⟨_, e1, q2, q3, t_set q4 hap hk (vF G t z)⟩ (fun j _ => vp_updV_set hl (vF G t z) j)⟩ e3
  rw [xw_put ok hci ht] at b1
  exact kk H' _ ls (e2.trans y) b1 (c.put e2 e3 (Nat.le_add_right _ _)) e
theorem ww_iald (C : CC G k cc own nL rm) (d : decode cc pc = .ok (.iaload, 1)) {a : Nat} {i : Int} (ok : okA n h a 100 i) (kk : WW G k nL cn sn (pc + 1) L (.int (iz (hG h a i.toNat)) :: st) n h) : WW G k nL cn sn pc L (.int (iz i) :: rf G a :: st) n h := by
  intro H q ls y b c e
  refine va_iald (D := G.2.1) (cl := vwCl) (tys := xty G) (f := fun j => iz ((h a).2.2 j)) C.1 C.2.1 C.2.2.2.2.2.1 b a 0 (by rw [xw_get ok.1, xE_ints ok.2.1]) rfl (iz_inA ok.2.2.1 ok.2.2.2.1 ok.2.2.2.2) d ?_
  rw [iz_clamp ⟨by have := ok.2.2.1; omega, ok.2.2.2.2⟩]
  exact kk H q ls y b c e
theorem ww_bald (C : CC G k cc own nL rm) (d : decode cc pc = .ok (.baload, 1)) {a : Nat} {i : Int} (ok : okA n h a 101 i) (kk : WW G k nL cn sn (pc + 1) L (.int (iz (hG h a i.toNat)) :: st) n h) : WW G k nL cn sn pc L (.int (iz i) :: rf G a :: st) n h := by
  intro H q ls y b c e
  refine va_bald (D := G.2.1) (cl := vwCl) (tys := xty G) (f := fun j => iz ((h a).2.2 j)) C.1 C.2.1 C.2.2.2.2.2.1 b a 1 (by rw [xw_get ok.1, xE_bytes ok.2.1]) rfl (iz_inA ok.2.2.1 ok.2.2.2.1 ok.2.2.2.2) d ?_
  rw [iz_clamp ⟨by have := ok.2.2.1; omega, ok.2.2.2.2⟩]
  exact kk H q ls y b c e
theorem ww_alen (C : CC G k cc own nL rm) (d : decode cc pc = .ok (.arraylength, 1)) {a : Nat} (h1 : a < n) (h2 : (h a).1 = 100 ∨ (h a).1 = 101) (kk : WW G k nL cn sn (pc + 1) L (.int (iz ((h a).2.1 : Int)) :: st) n h) : WW G k nL cn sn pc L (rf G a :: st) n h := by
  intro H q ls y b c e
  rcases h2 with h2 | h2
  · exact va_alen (D := G.2.1) (cl := vwCl) (tys := xty G) C.1 C.2.1 C.2.2.2.2.2.1 b a 0 (by rw [xw_get h1, xE_ints h2]) rfl (iz_nat _) d (kk H q ls y b c e)
  · exact va_alen (D := G.2.1) (cl := vwCl) (tys := xty G) C.1 C.2.1 C.2.2.2.2.2.1 b a 1 (by rw [xw_get h1, xE_bytes h2]) rfl (iz_nat _) d (kk H q ls y b c e)
theorem xar_store {cA : ClassId} {N : Nat} {f : Nat → Int} {i : Nat} {z : Int} : vp_cell cA (N, .inl fun j => iz (if j = i then z else f j)) = arrV cA N (updV (fun j => .int (iz (f j))) i (.int (iz z))) := by
  rw [vp_cell_i]
  congr 1
  funext q
  by_cases hq : q = i
  · subst hq; simp [updV]
  · simp [updV, hq]
theorem ww_iast (C : CC G k cc own nL rm) (d : decode cc pc = .ok (.iastore, 1)) {a : Nat} {i z : Int} (ok : okA n h a 100 i) (kk : WW G k nL cn sn (pc + 1) L st n (hS h a i.toNat z)) : WW G k nL cn sn pc L (.int (iz z) :: .int (iz i) :: rf G a :: st) n h := by
  intro H q ls y b c e
  have he : (xw G n h)[a]? = some (G.1 + a, .inl (G.2.2.1.1, ((h a).2.1, .inl fun j => iz ((h a).2.2 j)))) := by rw [xw_get ok.1, xE_ints ok.2.1]
  refine W.iast C.1 C.2.1 (b a _ he) ((C.2.2.2.2.2.1.2 0 _ rfl).1 (h a).2.1 (fun j => .int (iz ((h a).2.2 j)))) (fun q => by cases q) (by show ¬ (iz i < 0 ∨ (arrV _ _ _).slots.size ≤ _); rw [arrV_size]; exact iz_inA ok.2.2.1 ok.2.2.2.1 ok.2.2.2.2) rfl rfl d fun H1 e1 z1 oq => ?_
  have b1 := b.set xw_D he (e := .inl (G.2.2.1.1, ((h a).2.1, .inl fun j => iz (if j = i.toNat then z else (h a).2.2 j)))) (show H1[G.1 + a]? = some (vp_cell _ _) by
    refine e1.trans (congrArg some ?_)
    rw [xar_store, iz_clamp ⟨by have := ok.2.2.1; omega, ok.2.2.2.2⟩]
    exact arrV_store _ _ _ _ _) oq
  rw [xw_set (h' := hS h a i.toNat z) (by rw [xE_ints (c := hS h a i.toNat z a) (by rw [hS_self]; exact ok.2.1), hS_self]) (fun j hj => hS_ne h _ _ hj)] at b1
  exact kk H1 _ ls (z1.trans y) b1 (c.put z1 oq (Nat.le_add_right _ _)) e
theorem ww_bast (C : CC G k cc own nL rm) (d : decode cc pc = .ok (.bastore, 1)) {a : Nat} {i z : Int} (ok : okA n h a 101 i) (hz0 : -128 ≤ z) (hz1 : z ≤ 127) (kk : WW G k nL cn sn (pc + 1) L st n (hS h a i.toNat z)) : WW G k nL cn sn pc L (.int (iz z) :: .int (iz i) :: rf G a :: st) n h := by
  intro H q ls y b c e
  have he : (xw G n h)[a]? = some (G.1 + a, .inl (G.2.2.1.2, ((h a).2.1, .inl fun j => iz ((h a).2.2 j)))) := by rw [xw_get ok.1, xE_bytes ok.2.1]
  refine W.bast C.1 C.2.1 (b a _ he) ((C.2.2.2.2.2.1.2 1 _ rfl).1 (h a).2.1 (fun j => .int (iz ((h a).2.2 j)))) (fun q => by cases q) (by show ¬ (iz i < 0 ∨ (arrV _ _ _).slots.size ≤ _); rw [arrV_size]; exact iz_inA ok.2.2.1 ok.2.2.2.1 ok.2.2.2.2) rfl rfl d fun H1 e1 z1 oq => ?_
  have b1 := b.set xw_D he (e := .inl (G.2.2.1.2, ((h a).2.1, .inl fun j => iz (if j = i.toNat then z else (h a).2.2 j)))) (show H1[G.1 + a]? = some (vp_cell _ _) by
    refine e1.trans (congrArg some ?_)
    rw [nz_byte hz0 hz1]
    rw [xar_store, iz_clamp ⟨by have := ok.2.2.1; omega, ok.2.2.2.2⟩]
    exact arrV_store _ _ _ _ _) oq
  rw [xw_set (h' := hS h a i.toNat z) (by rw [xE_bytes (c := hS h a i.toNat z a) (by rw [hS_self]; exact ok.2.1), hS_self]) (fun j hj => hS_ne h _ _ hj)] at b1
  exact kk H1 _ ls (z1.trans y) b1 (c.put z1 oq (Nat.le_add_right _ _)) e
theorem xP_push {c : xC} {H H1 : Heap} (b : va_P G.2.1 vwCl (xw G n h) H) (y : H.size = G.1 + n) (o1 : ∀ q, q < H.size → H1[q]? = H[q]?) (hn : va_at G.2.1 vwCl (G.1 + n, xE G c) H1) : va_P G.2.1 vwCl (xw G (n + 1) (hN h n c)) H1 := by
  rw [← xw_push (c := c) rfl]
  refine (b.kept (fun k x hx => o1 x.1 ((b k x hx).lt))).app (fun j x hx => ?_)
  have hz : j < 1 := (List.getElem?_eq_some_iff.mp hx).1
  rw [show j = 0 by omega] at hx
  cases hx
  exact hn
theorem xS_push {H0 H H1 : Heap} {locs : List Loc} (c : va_S (xA G) H0 H locs) (z1 : H1.size = H.size + 1) (o1 : ∀ q, q < H.size → H1[q]? = H[q]?) : va_S (xA G) H0 H1 locs :=
  ⟨Nat.le_trans c.1 (by omega), fun x h1 h2 => (o1 x (Nat.lt_of_lt_of_le h1 c.1)).trans (c.2.1 x h1 h2), c.2.2⟩
theorem ww_newI (C : CC G k cc own nL rm) (w : Cond.arrayClass .int ∈ lw_all) (d : decode cc pc = .ok (.newarray .int, 2)) {z : Int} {B : Nat} (h0 : 0 ≤ z) (h1 : z ≤ B) (hB : B ≤ 100000) (hc : cn + 1 ≤ rm.cells) (hs : sn + B ≤ rm.slots) (kk : WW G k nL (cn + 1) (sn + B) (pc + 2) L (rf G n :: st) (n + 1) (hN h n (100, z.toNat, fun _ => 0))) : WW G k nL cn sn pc L (.int (iz z) :: st) n h := by
  intro H q ls y b c e
  have hr : rg z := ⟨by omega, by omega⟩
  have hRR := C.2.2.2.2.2.2.2.1
  refine va_newaK (atype := .int) C.1 C.2.1 (C.2.2.2.2.1 _ w) rfl d rfl (fun q => by have := (iz_lt hr rg0).mp q; omega) (N := z.toNat) (iz_clamp hr) (by show z.toNat * 4 ≤ 536870912; omega) (by rw [hRR]; exact hc) (by rw [hRR]; omega) rfl fun H1 cA e1 z1 o1 hAr hNm => ?_
  have hcA : cA = G.2.2.1.1 := Option.some.inj (hNm.symm.trans (C.2.2.2.2.2.1.2 0 _ rfl).2)
  subst hcA
  have b1 := xP_push (c := (100, z.toNat, fun _ => 0)) b y o1 (by
    show H1[G.1 + n]? = _
    rw [← y]
    exact e1)
  have hk := kk H1 q ls (by rw [z1, y]; rfl) b1 (xS_push c z1 o1) e
  rw [y]
  exact W.widen (Nat.le_refl _) (by omega) hk
theorem ww_newB (C : CC G k cc own nL rm) (w : Cond.arrayClass .byte ∈ lw_all) (d : decode cc pc = .ok (.newarray .byte, 2)) {z : Int} {B : Nat} (h0 : 0 ≤ z) (h1 : z ≤ B) (hB : B ≤ 100000) (hc : cn + 1 ≤ rm.cells) (hs : sn + B ≤ rm.slots) (kk : WW G k nL (cn + 1) (sn + B) (pc + 2) L (rf G n :: st) (n + 1) (hN h n (101, z.toNat, fun _ => 0))) : WW G k nL cn sn pc L (.int (iz z) :: st) n h := by
  intro H q ls y b c e
  have hr : rg z := ⟨by omega, by omega⟩
  have hRR := C.2.2.2.2.2.2.2.1
  refine va_newaK (atype := .byte) C.1 C.2.1 (C.2.2.2.2.1 _ w) rfl d rfl (fun q => by have := (iz_lt hr rg0).mp q; omega) (N := z.toNat) (iz_clamp hr) (by show z.toNat * 1 ≤ 536870912; omega) (by rw [hRR]; exact hc) (by rw [hRR]; omega) rfl fun H1 cA e1 z1 o1 hAr hNm => ?_
  have hcA : cA = G.2.2.1.2 := Option.some.inj (hNm.symm.trans (C.2.2.2.2.2.1.2 1 _ rfl).2)
  subst hcA
  have b1 := xP_push (c := (101, z.toNat, fun _ => 0)) b y o1 (by
    show H1[G.1 + n]? = _
    rw [← y]
    exact e1)
  have hk := kk H1 q ls (by rw [z1, y]; rfl) b1 (xS_push c z1 o1) e
  rw [y]
  exact W.widen (Nat.le_refl _) (by omega) hk
/-- a new object's fields: a reference is null, all else is 0 -/
def xZ (ci : Nat) : Nat → Int := fun k => if (xT ci).getD k 0 = 3 then -1 else 0
theorem ww_new (C : CC G k cc own nL rm) {ci i0 : Nat} {Cn : String} {T : u_T} {N : Nat} (hc : vwCl[ci]? = some (Cn, T, N)) (hin : ∀ w ∈ u_ws Cn T N, w ∈ lw_all) (ty0 : Nat → FieldType) (hty : ∀ k, k < N → parseFieldDescriptor (T k).2.2.1 = some (ty0 k)) (w1 : Cond.classLink own i0 Cn ∈ lw_all) (w2 : Cond.instantiable Cn N ∈ lw_all) (w3 : Cond.initialized Cn ∈ lw_all) (hci : ci < 100) (hdef : ∀ j, j < N → ∃ t, (xT ci)[j]? = some t ∧ ∀ G : xG, defaultValue (ty0 j) = vF G t (xZ ci j))
    (d : decode cc pc = .ok (.new i0, 3)) (hcl : cn + 1 ≤ rm.cells) (hs : sn + N ≤ rm.slots) (kk : WW G k nL (cn + 1) (sn + N) (pc + 3) L (rf G n :: st) (n + 1) (hN h n (ci, 0, xZ ci))) : WW G k nL cn sn pc L st n h := by
  intro H q ls y b c e
  have hts := C.2.2.2.2.1
  have hRR := C.2.2.2.2.2.2.2.1
  have hKn := C.2.2.2.2.2.1.1 ci _ hc
  refine W.newcK C.1 C.2.1 C.2.2.2.1 (hts _ w1) (hts _ w2) (hts _ w3) rfl d (by rw [hRR]; exact hcl) (by rw [hRR]; exact hs) hKn.2.1 rfl fun H1 kC hkC e1 z1 o1 => ?_
  have b1 := xP_push (c := (ci, 0, xZ ci)) b y o1 (by
    rw [xE_obj (ci := ci) rfl hci]
    refine ⟨_, hc, ?_⟩
    show t_OB (G.1 + n) _ _ _ _ _
    rw [← y]
    refine (u_born ty0 hts hin hKn hkC e1 hty).to (fun j hj => ?_)
    obtain ⟨t, ht, hd⟩ := hdef j hj
    rw [hd G]
    show _ = (xF G (xT ci) (xZ ci)).getD j .null
    rw [List.getD_eq_getElem?_getD, xF_get ht]
    rfl)
  have hk := kk H1 q ls (by rw [z1, y]; rfl) b1 (xS_push c z1 o1) e
  show W _ _ _ _ _ _ _ _ _ _ H1 q (cn + 1) (sn + N) _ (F0 _ (pc + 3) ls (.ref H.size :: st))
  rw [y]
  exact hk
end XH
