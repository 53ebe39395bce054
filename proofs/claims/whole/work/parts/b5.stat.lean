/-! THE WORLD AT THE START: words and statics -/
theorem nest_known {s : State} {args : Array Value} (hts : ∀ w ∈ lw_tbl, w.before args s = true) : ∀ w ∈ xNest, va_Nw w s := by
  have h : ∀ w ∈ xNest, w.onTables = true ∧ w ∈ lw_tbl := by decide +kernel
  exact fun w hw => va_Nw.of (h w hw).1 (hts w (h w hw).2)
theorem nc_known {s : State} {args : Array Value} (hgv : (Jvm.Cond.and given_1 narrow_1).before args s = true) : ∀ q ∈ xNc, va_Nc q.1 q.2 s := by
  have hs := flat_of_before _ hgv
  have h : ∀ q ∈ xNc, Cond.not (.castable q.1 q.2) ∈ flatC (given_1.and narrow_1) := by decide +kernel
  exact fun q hq => va_Nc.of (hs _ (h q hq))
theorem fmt_known {s : State} {args : Array Value} (hts : ∀ w ∈ lw_tbl, w.before args s = true) (hgv : (Jvm.Cond.and given_1 narrow_1).before args s = true) : va_Zq "jdk/internal/util/Preconditions" "SIOOBE_FORMATTER" "Ljava/util/function/BiFunction;" (fun q => s.heap.size ≤ q) s s.heap := by
  have hs := flat_of_before _ hgv
  exact va_Zqof (hts _ (by decide +kernel)) (hts _ (by decide +kernel)) (hs _ (by decide +kernel)) (fun a h y => by have y : s.heap.size ≤ a := y; omega)
theorem com_known {s : State} {args : Array Value} (hts : ∀ w ∈ lw_tbl, w.before args s = true) (hgv : (Jvm.Cond.and given_1 narrow_1).before args s = true) : va_Z "java/lang/String" "COMPACT_STRINGS" "Z" (.int 1) (fun q => s.heap.size ≤ q) s s.heap := by
  have hs := flat_of_before _ hgv
  exact va_Zof (args := args) (hts _ (by decide +kernel)) (hts _ (by decide +kernel)) (va_eqt (hs (Cond.eq (.static "java/lang/String" "COMPACT_STRINGS" "Z") (.int 1)) (by decide +kernel))) (fun a h y => by have y : s.heap.size ≤ a := y; omega)
theorem cl_known {s : State} {args : Array Value} (hts : ∀ w ∈ lw_tbl, w.before args s = true) : va_Nw (.castable "[I" "java/lang/Cloneable") s := va_Nw.of rfl (hts _ (by decide +kernel))
