/-! WHAT IS WRITTEN: one text, of codes -/
theorem fnW_u {L : List Int} {pt : Int} {X Y : List Int} (h : fnW L pt X) (h' : fnW L pt Y) : X = Y := by
  rcases h with ⟨a1, a2, a3⟩ | ⟨a1, a2, a3⟩ | ⟨a1, E, a2, a3⟩ <;> rcases h' with ⟨b1, b2, b3⟩ | ⟨b1, b2, b3⟩ | ⟨b1, E', b2, b3⟩
  · rw [a3, b3]
  · omega
  · omega
  · omega
  · rw [a3, b3]
  · omega
  · omega
  · omega
  · rw [a3, b3, wrR_u a2 b2]
theorem outW_u {b kd mn v w pt : Int} {L X Y : List Int} (h : outW b kd mn v w L pt X) (h' : outW b kd mn v w L pt Y) : X = Y := by
  rcases h with ⟨a1, A, B, a2, a3, a4⟩ | ⟨a1, Z, a2, a3⟩ | ⟨a1, a2⟩ | ⟨a1, a2⟩ <;> rcases h' with ⟨b1, A', B', b2, b3, b4⟩ | ⟨b1, Z', b2, b3⟩ | ⟨b1, b2⟩ | ⟨b1, b2⟩
  all_goals first | omega | skip
  · rw [a4, b4, wrR_u a2 b2, wrR_u a3 b3]
  · rw [a3, b3, fnW_u a2 b2]
  · rw [a2, b2]
  · rw [a2, b2]
/-- codes of a text -/
def cdL (X : List Int) : Prop := ∀ x, x ∈ X → 0 ≤ x ∧ x ≤ 127
theorem cdL.app {X Y : List Int} (h : cdL X) (h' : cdL Y) : cdL (X ++ Y) := fun x hx => by
  rcases List.mem_append.1 hx with y | y
  · exact h x y
  · exact h' x y
theorem cdL.cons {x : Int} {X : List Int} (h0 : 0 ≤ x) (h1 : x ≤ 127) (h : cdL X) : cdL (x :: X) := fun y hy => by
  rcases List.mem_cons.1 hy with e | e
  · rw [e]; exact ⟨h0, h1⟩
  · exact h y e
theorem cdL.nil : cdL [] := fun x hx => absurd hx (by simp)
theorem cdL.str : ∀ j, j < 8 → cdL (lStr j) := by
  intro j hj
  have h : (List.range 8).all (fun j => (lStr j).all (fun x => decide (0 ≤ x) && decide (x ≤ 127))) = true := by decide +kernel
  have h2 := List.all_eq_true.1 (List.all_eq_true.1 h j (List.mem_range.2 hj))
  intro x hx
  have h3 := h2 x hx
  rw [Bool.and_eq_true, decide_eq_true_eq, decide_eq_true_eq] at h3
  exact h3
theorem cdL_dg {b : Int} (hb0 : 2 ≤ b) (hb1 : b ≤ 16) : ∀ {L : List Int} {v : Int}, isDg b L v → cdL L
  | [], _, _ => cdL.nil
  | d :: L, v, h => by
    obtain ⟨h1, h2, h3⟩ := h
    have e1 := Int.emod_nonneg v (show b ≠ 0 by omega)
    have e2 := Int.emod_lt_of_pos v (show 0 < b by omega)
    have e3 : 0 ≤ d ∧ d ≤ 127 := by
      rw [h2]
      unfold dg; split <;> omega
    exact cdL.cons e3.1 e3.2 (cdL_dg hb0 hb1 h3)
theorem cdL.wr {b v : Int} {L : List Int} (hb0 : 2 ≤ b) (hb1 : b ≤ 16) (h : wrR b v L) : cdL L := by
  rcases h with ⟨_, e⟩ | ⟨_, e⟩
  · rw [e]; exact cdL.cons (by decide) (by decide) cdL.nil
  · intro x hx
    exact cdL_dg hb0 hb1 e x (List.mem_reverse.2 hx)
theorem cdL.sg {L : List Int} (hL : ∀ i, 0 ≤ L.getD i 0 ∧ L.getD i 0 ≤ 20) (a b : Nat) : cdL (sgL L a b) := by
  intro x hx
  unfold sgL at hx
  obtain ⟨i, _, e⟩ := List.mem_map.1 hx
  have := hL i
  omega
theorem cdL.rep (k : Nat) : cdL (List.replicate k 48) := fun x hx => by
  rw [List.eq_of_mem_replicate hx]; exact ⟨by decide, by decide⟩
theorem cdL.fn {L : List Int} {pt : Int} {X : List Int} (hL : ∀ i, 0 ≤ L.getD i 0 ∧ L.getD i 0 ≤ 20) (h : fnW L pt X) : cdL X := by
  rcases h with ⟨_, _, e⟩ | ⟨_, _, e⟩ | ⟨_, E, e0, e⟩ <;> rw [e]
  · exact (cdL.sg hL _ _).app (cdL.cons (by decide) (by decide) (cdL.sg hL _ _))
  · exact (cdL.cons (by decide) (by decide) (cdL.cons (by decide) (by decide) cdL.nil)).app ((cdL.rep _).app (cdL.sg hL _ _))
  · refine (cdL.sg hL _ _).app (cdL.app ?_ (cdL.cons (by decide) (by decide) (cdL.app ?_ (cdL.wr (by decide) (by decide) e0))))
    · split
      · exact cdL.cons (by decide) (by decide) (cdL.sg hL _ _)
      · exact cdL.nil
    · split
      · exact cdL.cons (by decide) (by decide) cdL.nil
      · exact cdL.nil
theorem cdL.out {b kd mn v w pt : Int} {L X : List Int} (hn : ¬ noW b kd) (hL : kd = 2 → ∀ i, 0 ≤ L.getD i 0 ∧ L.getD i 0 ≤ 20) (h : outW b kd mn v w L pt X) : cdL X := by
  have sgn : cdL (if mn = 0 then [] else [45]) := by
    split
    · exact cdL.nil
    · exact cdL.cons (by decide) (by decide) cdL.nil
  rcases h with ⟨a1, A, B, a2, a3, a4⟩ | ⟨a1, Z, a2, a3⟩ | ⟨a1, a2⟩ | ⟨a1, a2⟩
  · have hb : 2 ≤ b ∧ b ≤ 16 := by
      rcases Classical.em (2 ≤ b ∧ b ≤ 16) with y | y
      · exact y
      · exact absurd (Or.inr (Or.inl ⟨a1, y⟩)) hn
    rw [a4]
    refine sgn.app ((cdL.wr hb.1 hb.2 a2).app ?_)
    split
    · exact cdL.nil
    · exact cdL.cons (by decide) (by decide) (cdL.wr hb.1 hb.2 a3)
  · rw [a3]; exact sgn.app (cdL.fn (hL a1) a2)
  · rw [a2]; exact cdL.cons (by split <;> decide) (by split <;> decide) (cdL.str 0 (by decide))
  · rw [a2]; exact cdL.str 3 (by decide)
/-! FRAMES: the model's number stands where only rows of bytes change -/
theorem isWh.frK {n m' : Nat} {h h' : xH} {S : Nat → Prop} {z r s : Nat} {sg v : Int} (t : isWh n h z r s sg v) (e : hF S n h h') (hn : n ≤ m') (hs : ∀ i, 47 < i → S i → (h i).1 = 101) : isWh m' h' z r s sg v :=
  t.fr e hn (fun y => by have := hs z t.2.1 y; have := t.2.2.2.1; omega) (fun y => by have := hs r t.2.2.1 y; have := t.ln.2.2; omega)
theorem isEx.frK {n m' : Nat} {h h' : xH} {S : Nat → Prop} {z : Nat} {sg v w : Int} (t : isEx n h z sg v w) (e : hF S n h h') (hn : n ≤ m') (hs : ∀ i, 47 < i → S i → (h i).1 = 101) : isEx m' h' z sg v w := by
  rcases t with ⟨t1, r, s, t2⟩ | ⟨t1, t2, t3, t4, t5, za, ra, sa, zb, rb, sb, t6, t7, t8, t9⟩
  · exact Or.inl ⟨t1, r, s, t2.frK e hn hs⟩
  · have hz : ¬ S z := fun y => by have := hs z t4 y; omega
    exact Or.inr ⟨t1, t2, by omega, t4, by rw [(e z t3).1]; exact t5, za, ra, sa, zb, rb, sb, by rw [(e z t3).2.2 hz]; exact t6, by rw [(e z t3).2.2 hz]; exact t7, t8.frK e hn hs, t9.frK e hn hs⟩
theorem isRl.frK {n m' : Nat} {h h' : xH} {S : Nat → Prop} {z : Nat} {x : UInt64} {b : Int} (t : isRl n h z x b) (e : hF S n h h') (hn : n ≤ m') (hs : ∀ i, 47 < i → S i → (h i).1 = 101) : isRl m' h' z x b :=
  t.fr e hn (fun y => by have := hs z t.2.1 y; have := t.2.2.1; omega)
theorem nuM.frK {n m' : Nat} {h h' : xH} {S : Nat → Prop} {z kd mn un pl v w : Int} (t : nuM n h z kd mn un pl v w) (e : hF S n h h') (hn : n ≤ m') (hs : ∀ i, 47 < i → S i → (h i).1 = 101) : nuM m' h' z kd mn un pl v w := by
  rcases t with t | ⟨zn, a1, a2, ⟨b1, b2, b3⟩ | ⟨b1, x, c, q, b2, b3⟩ | ⟨b1, x, b2, b3⟩ | ⟨b1, b2, x, b3⟩⟩
  · exact Or.inl t
  · exact Or.inr ⟨zn, a1, a2, Or.inl ⟨b1, b2.frK e hn hs, b3⟩⟩
  · exact Or.inr ⟨zn, a1, a2, Or.inr (Or.inl ⟨b1, x, c, q, b2.frK e hn hs, b3⟩)⟩
  · exact Or.inr ⟨zn, a1, a2, Or.inr (Or.inr (Or.inl ⟨b1, x, b2.frK e hn hs, b3⟩))⟩
  · exact Or.inr ⟨zn, a1, a2, Or.inr (Or.inr (Or.inr ⟨b1, b2, x, b3.frK e hn hs⟩))⟩
theorem isWr.frM {n m' : Nat} {h h' : xH} {S : Nat → Prop} {L : List Int} {fc tl nm tl' nm' : Int} (t : isWr n h L fc tl nm) (e : hF S n h h') (h46 : ¬ S 46) (tm : isM m' h' (L.length : Int) tl' nm') : isWr m' h' L ((h' 26).2.2 19) tl' nm' := by
  have h47 := t.1.1.1
  exact ⟨tm, t.2.1, by rw [(e 46 (by omega)).2.2 h46]; exact t.2.2.1, rfl⟩
