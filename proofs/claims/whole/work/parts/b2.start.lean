/-! THE START, once the world is known -/
theorem start_of {p : Program} {e : Env} {s : State} {m : MethodId} {below : List Frame} {meth : Method} {c : Code} (l : Launch) {b L : Nat} {xs : Nat → Int32} (hL : L ≤ 2560) (C0 : lw_At p s m meth c b L xs) (G : xG) (hG : G.1 = s.heap.size) (hK : va_K G.2.1 vwCl (xty G) s) (hXX : xX G s s.heap) : W p l e room_1 s m #[Value.ref b] below meth c s.heap [] 0 0 (lw_Z below #[Value.ref b] s) (entryFrame m ([Value.ref b] : List Value).toArray 4) := by
  obtain ⟨hx, hb, hr, hml, hown, hts, hX, hbl, hlocks, hgv⟩ := id C0
  have C : CC G (p, l, e, room_1, s, m, #[Value.ref b], below, meth, c, lw_Z below #[Value.ref b] s) cL_law RL 4 room_1 := ⟨hx, hb, hml, hown, fun w hw => hts w (lw_all_tbl hw), hK, hXX, rfl, Nat.le_of_eq hG⟩
  have hbA : ¬ xA G b := fun y => by have y : G.1 ≤ b := y; omega
  have go := law_go (G := G) (k := (p, l, e, room_1, s, m, #[Value.ref b], below, meth, c, lw_Z below #[Value.ref b] s)) hX hbl hbA C hL (fun cn sn n h x3 hc hs H locs ls a1 a2 a3 a4 => by
    refine W.base ?_
    refine va_forget (fun q hq => by have y : G.1 ≤ q.base := a3.2.2 q hq; show s.heap.size ≤ q.base; omega) ?_
    refine W.widen (k := 600000) (n := 7302250) hc hs ?_
    exact lw_ret (Drawn.sameBut.refl s.drawn lw_cs) hx hb hr hlocks dL_law_521) (fun _ => (0, 0, fun _ => 0))
  have hl := lv_entry ([.ref b]) (n := 4) (Nat.le_of_ble_eq_true rfl)
  rw [lg_entry_eq]
  exact go s.heap [] _ (by rw [hG]; rfl) (fun k q h => by simp [xw] at h) va_S.rf hl
