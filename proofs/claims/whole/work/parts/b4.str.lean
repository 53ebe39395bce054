/-! THE WORLD AT THE START: the texts -/
def sTm (i : Nat) : Term := if i = 0 then .string "DoubleTexts$Numeral" 65 else if i = 1 then .string "DoubleTexts$Numeral" 71 else if i = 2 then .string "DoubleTexts" 280 else if i = 3 then .string "DoubleTexts" 164 else if i = 4 then .string "DoubleTextsModel" 107 else if i = 5 then .string "DoubleTextsModel" 249 else if i = 6 then .string "DoubleTextsModel" 251 else .string "DoubleTextsModel" 260
theorem str_known {s : State} {args : Array Value} (hgv : (Jvm.Cond.and given_1 narrow_1).before args s = true) : ∃ adK adV : Nat → Nat, vk_S 8 xLen xByt adK adV (fun q => s.heap.size ≤ q) s s.heap ∧ ∀ i : Nat, i < 8 → (sTm i).eval args s none [] s = some (.ref (adK i)) := by
  have hs := flat_of_before _ hgv
  refine vk_Sof (args := args) (tm := sTm) (by decide) (fun i hi => hs _ ?_) (fun i hi => hs _ ?_) (fun i hi => hs _ ?_) (fun i hi => hs _ ?_) (fun i hi j hj => hs _ ?_) (fun i j hi hj hij => ?_) (fun a h y => by have y : s.heap.size ≤ a := y; omega)
  · clear hs hgv; revert hi; revert i; decide +kernel
  · clear hs hgv; revert hi; revert i; decide +kernel
  · clear hs hgv; revert hi; revert i; decide +kernel
  · clear hs hgv; revert hi; revert i; decide +kernel
  · clear hs hgv; revert hj; revert j; revert hi; revert i; decide +kernel
  · have key : ∀ i, i < 8 → ∀ j, j < 8 → i ≠ j → (Cond.not (Cond.eq (sTm i) (sTm j)) ∈ flatC (given_1.and narrow_1) ∨ Cond.not (Cond.eq (sTm j) (sTm i)) ∈ flatC (given_1.and narrow_1)) := by decide +kernel
    rcases key i hi j hj hij with y | y
    · exact Or.inl (hs _ y)
    · exact Or.inr (hs _ y)
