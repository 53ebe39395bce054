/-! THE WORLD AT THE START: where the texts lie, and the tables -/
theorem ref_known {s : State} {args : Array Value} (hts : ∀ w ∈ lw_tbl, w.before args s = true) (hgv : (Jvm.Cond.and given_1 narrow_1).before args s = true) {adK : Nat → Nat} (had : ∀ i : Nat, i < 8 → (sTm i).eval args s none [] s = some (.ref (adK i))) : ∀ q ∈ xStr, vk_R q.1 q.2.1 q.2.2.1 (adK q.2.2.2) s := by
  have hs := flat_of_before _ hgv
  have h1 : ∀ q ∈ xStr, Cond.stringRef q.1 q.2.1 q.2.2.1 ∈ lw_tbl := by decide +kernel
  have h2 : ∀ q ∈ xStr, q.2.2.2 < 8 ∧ (sTm q.2.2.2 = .string q.1 q.2.1 ∨ Cond.eq (sTm q.2.2.2) (.string q.1 q.2.1) ∈ flatC (given_1.and narrow_1)) := by decide +kernel
  intro q hq
  obtain ⟨a, b⟩ := h2 q hq
  refine vk_R.of (hts _ (h1 q hq)) ?_
  rcases b with b | b
  · rw [← b]; exact had _ a
  · exact va_eqR (hs _ b) (had _ a)
theorem neg_known {s : State} {args : Array Value} (hts : ∀ w ∈ lw_tbl, w.before args s = true) (hgv : (Jvm.Cond.and given_1 narrow_1).before args s = true) : va_Z "java/lang/Math" "negativeZeroDoubleBits" "J" (.long (-9223372036854775808)) (fun q => s.heap.size ≤ q) s s.heap := by
  have hs := flat_of_before _ hgv
  exact va_Zof (args := args) (hts _ (by decide +kernel)) (hts _ (by decide +kernel)) (va_eqtl (hs (Cond.eq (.static "java/lang/Math" "negativeZeroDoubleBits" "J") (.long (-9223372036854775808))) (by decide +kernel))) (fun a h y => by have y : s.heap.size ≤ a := y; omega)
theorem pow_known {s : State} {args : Array Value} (hts : ∀ w ∈ lw_tbl, w.before args s = true) (hgv : (Jvm.Cond.and given_1 narrow_1).before args s = true) : ∃ t : Nat, va_Z "DoubleTexts$Natural" "POWERS_OF_FIVE" "[I" (.ref t) (fun q => s.heap.size ≤ q) s s.heap ∧ va_T .int t 14 (fun j => .int (xP5.getD j 0)) (fun q => s.heap.size ≤ q) s s.heap := by
  have hs := flat_of_before _ hgv
  have hA : ∀ a : Nat, a < s.heap.size → ¬ (fun q => s.heap.size ≤ q) a := fun a h y => by have y : s.heap.size ≤ a := y; omega
  have h3 : ∀ j, j < 14 → Cond.eq (.elem (.static "DoubleTexts$Natural" "POWERS_OF_FIVE" "[I") (.int (Int32.ofNat j))) (.int (xP5.getD j 0)) ∈ flatC (given_1.and narrow_1) := by decide +kernel
  obtain ⟨t, ht, hT⟩ := va_Tof (args := args) (tm := .static "DoubleTexts$Natural" "POWERS_OF_FIVE" "[I") (ty := .int) (N := 14) (f := fun j => .int (xP5.getD j 0)) (A := fun q => s.heap.size ≤ q) (by decide) (hs _ (by decide +kernel)) (va_eqt (hs _ (by decide +kernel))) (fun j hj => va_eqt (hs _ (h3 j hj))) hA
  exact ⟨t, va_Zref (args := args) (hts _ (by decide +kernel)) (hts _ (by decide +kernel)) ht hA, hT⟩
