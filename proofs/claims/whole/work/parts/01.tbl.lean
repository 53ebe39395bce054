-- ===== PART A: goes FIRST, ahead of the names: the tables' words, and 'selects' of the private methods out of them =====
/-- a private method of a class that the tables say can be made, by its rows of tables_1 -/
def lw_okq (q : MethodName × Nat) : Prop := (q.1.cls ≠ "java/lang/invoke/MethodHandle" ∧ q.1.cls ≠ "java/lang/invoke/VarHandle") ∧ Cond.instantiable q.1.cls q.2 ∈ tables_1 ∧ Cond.privateMethod q.1 ∈ tables_1 ∧ Cond.instanceMethod q.1 ∈ tables_1
theorem lw_p0 : lw_okq (⟨"DoubleTexts", "becomeNone", "()V"⟩, 12) := ⟨⟨by decide +kernel, by decide +kernel⟩, List.mem_of_getElem? (i := 23) (by decide +kernel), List.mem_of_getElem? (i := 190) (by decide +kernel), List.mem_of_getElem? (i := 191) (by decide +kernel)⟩
theorem lw_p1 : lw_okq (⟨"DoubleTexts$Natural", "trim", "()V"⟩, 2) := ⟨⟨by decide +kernel, by decide +kernel⟩, List.mem_of_getElem? (i := 82) (by decide +kernel), List.mem_of_getElem? (i := 202) (by decide +kernel), List.mem_of_getElem? (i := 203) (by decide +kernel)⟩
theorem lw_p2 : lw_okq (⟨"DoubleTexts$Natural", "wordAt", "(I)I"⟩, 2) := ⟨⟨by decide +kernel, by decide +kernel⟩, List.mem_of_getElem? (i := 82) (by decide +kernel), List.mem_of_getElem? (i := 206) (by decide +kernel), List.mem_of_getElem? (i := 207) (by decide +kernel)⟩
theorem lw_p3 : lw_okq (⟨"DoubleTexts$Numeral", "takePrefixes", "()Z"⟩, 8) := ⟨⟨by decide +kernel, by decide +kernel⟩, List.mem_of_getElem? (i := 31) (by decide +kernel), List.mem_of_getElem? (i := 210) (by decide +kernel), List.mem_of_getElem? (i := 211) (by decide +kernel)⟩
theorem lw_p4 : lw_okq (⟨"DoubleTexts$Numeral", "current", "()I"⟩, 8) := ⟨⟨by decide +kernel, by decide +kernel⟩, List.mem_of_getElem? (i := 31) (by decide +kernel), List.mem_of_getElem? (i := 214) (by decide +kernel), List.mem_of_getElem? (i := 215) (by decide +kernel)⟩
theorem lw_p5 : lw_okq (⟨"DoubleTexts$Numeral", "takeSign", "()V"⟩, 8) := ⟨⟨by decide +kernel, by decide +kernel⟩, List.mem_of_getElem? (i := 31) (by decide +kernel), List.mem_of_getElem? (i := 225) (by decide +kernel), List.mem_of_getElem? (i := 226) (by decide +kernel)⟩
theorem lw_p6 : lw_okq (⟨"DoubleTexts$Numeral", "takeWordOrNumber", "(LDoubleTexts$Natural;LDoubleTexts$Natural;)I"⟩, 8) := ⟨⟨by decide +kernel, by decide +kernel⟩, List.mem_of_getElem? (i := 31) (by decide +kernel), List.mem_of_getElem? (i := 229) (by decide +kernel), List.mem_of_getElem? (i := 230) (by decide +kernel)⟩
theorem lw_p7 : lw_okq (⟨"DoubleTexts$Numeral", "takeWord", "(Ljava/lang/String;)Z"⟩, 8) := ⟨⟨by decide +kernel, by decide +kernel⟩, List.mem_of_getElem? (i := 31) (by decide +kernel), List.mem_of_getElem? (i := 234) (by decide +kernel), List.mem_of_getElem? (i := 235) (by decide +kernel)⟩
theorem lw_p8 : lw_okq (⟨"DoubleTexts$Numeral", "takeNumber", "(LDoubleTexts$Natural;LDoubleTexts$Natural;)I"⟩, 8) := ⟨⟨by decide +kernel, by decide +kernel⟩, List.mem_of_getElem? (i := 31) (by decide +kernel), List.mem_of_getElem? (i := 287) (by decide +kernel), List.mem_of_getElem? (i := 288) (by decide +kernel)⟩
theorem lw_p9 : lw_okq (⟨"DoubleTexts$Numeral", "takeDigits", "(LDoubleTexts$Natural;)I"⟩, 8) := ⟨⟨by decide +kernel, by decide +kernel⟩, List.mem_of_getElem? (i := 31) (by decide +kernel), List.mem_of_getElem? (i := 291) (by decide +kernel), List.mem_of_getElem? (i := 292) (by decide +kernel)⟩
theorem lw_p10 : lw_okq (⟨"DoubleTexts$Numeral", "currentDigit", "()I"⟩, 8) := ⟨⟨by decide +kernel, by decide +kernel⟩, List.mem_of_getElem? (i := 31) (by decide +kernel), List.mem_of_getElem? (i := 295) (by decide +kernel), List.mem_of_getElem? (i := 296) (by decide +kernel)⟩
theorem lw_p11 : lw_okq (⟨"DoubleTexts$Natural", "append", "(I)V"⟩, 2) := ⟨⟨by decide +kernel, by decide +kernel⟩, List.mem_of_getElem? (i := 82) (by decide +kernel), List.mem_of_getElem? (i := 304) (by decide +kernel), List.mem_of_getElem? (i := 305) (by decide +kernel)⟩
theorem lw_p12 : lw_okq (⟨"DoubleTexts$Numeral", "takeDecimal", "(LDoubleTexts$Natural;I)I"⟩, 8) := ⟨⟨by decide +kernel, by decide +kernel⟩, List.mem_of_getElem? (i := 31) (by decide +kernel), List.mem_of_getElem? (i := 315) (by decide +kernel), List.mem_of_getElem? (i := 316) (by decide +kernel)⟩
theorem lw_p13 : lw_okq (⟨"DoubleTexts$Numeral", "takeExponent", "()Z"⟩, 8) := ⟨⟨by decide +kernel, by decide +kernel⟩, List.mem_of_getElem? (i := 31) (by decide +kernel), List.mem_of_getElem? (i := 319) (by decide +kernel), List.mem_of_getElem? (i := 320) (by decide +kernel)⟩
theorem lw_p14 : lw_okq (⟨"DoubleTexts", "becomeInfinite", "(Z)V"⟩, 12) := ⟨⟨by decide +kernel, by decide +kernel⟩, List.mem_of_getElem? (i := 23) (by decide +kernel), List.mem_of_getElem? (i := 331) (by decide +kernel), List.mem_of_getElem? (i := 332) (by decide +kernel)⟩
theorem lw_p15 : lw_okq (⟨"DoubleTexts", "becomeNotANumber", "()V"⟩, 12) := ⟨⟨by decide +kernel, by decide +kernel⟩, List.mem_of_getElem? (i := 23) (by decide +kernel), List.mem_of_getElem? (i := 335) (by decide +kernel), List.mem_of_getElem? (i := 336) (by decide +kernel)⟩
def lw_privs_1 : List (MethodName × Nat) := [(⟨"DoubleTexts", "becomeNone", "()V"⟩, 12), (⟨"DoubleTexts$Natural", "trim", "()V"⟩, 2), (⟨"DoubleTexts$Natural", "wordAt", "(I)I"⟩, 2), (⟨"DoubleTexts$Numeral", "takePrefixes", "()Z"⟩, 8), (⟨"DoubleTexts$Numeral", "current", "()I"⟩, 8), (⟨"DoubleTexts$Numeral", "takeSign", "()V"⟩, 8), (⟨"DoubleTexts$Numeral", "takeWordOrNumber", "(LDoubleTexts$Natural;LDoubleTexts$Natural;)I"⟩, 8), (⟨"DoubleTexts$Numeral", "takeWord", "(Ljava/lang/String;)Z"⟩, 8), (⟨"DoubleTexts$Numeral", "takeNumber", "(LDoubleTexts$Natural;LDoubleTexts$Natural;)I"⟩, 8), (⟨"DoubleTexts$Numeral", "takeDigits", "(LDoubleTexts$Natural;)I"⟩, 8), (⟨"DoubleTexts$Numeral", "currentDigit", "()I"⟩, 8), (⟨"DoubleTexts$Natural", "append", "(I)V"⟩, 2), (⟨"DoubleTexts$Numeral", "takeDecimal", "(LDoubleTexts$Natural;I)I"⟩, 8), (⟨"DoubleTexts$Numeral", "takeExponent", "()Z"⟩, 8), (⟨"DoubleTexts", "becomeInfinite", "(Z)V"⟩, 12), (⟨"DoubleTexts", "becomeNotANumber", "()V"⟩, 12)]
theorem lw_r1 : ∀ q ∈ lw_privs_1, lw_okq q := List.forall_mem_cons.mpr ⟨lw_p0, List.forall_mem_cons.mpr ⟨lw_p1, List.forall_mem_cons.mpr ⟨lw_p2, List.forall_mem_cons.mpr ⟨lw_p3, List.forall_mem_cons.mpr ⟨lw_p4, List.forall_mem_cons.mpr ⟨lw_p5, List.forall_mem_cons.mpr ⟨lw_p6, List.forall_mem_cons.mpr ⟨lw_p7, List.forall_mem_cons.mpr ⟨lw_p8, List.forall_mem_cons.mpr ⟨lw_p9, List.forall_mem_cons.mpr ⟨lw_p10, List.forall_mem_cons.mpr ⟨lw_p11, List.forall_mem_cons.mpr ⟨lw_p12, List.forall_mem_cons.mpr ⟨lw_p13, List.forall_mem_cons.mpr ⟨lw_p14, List.forall_mem_cons.mpr ⟨lw_p15, fun _ h => absurd h List.not_mem_nil⟩⟩⟩⟩⟩⟩⟩⟩⟩⟩⟩⟩⟩⟩⟩⟩
theorem lw_p16 : lw_okq (⟨"DoubleTexts", "becomeNearest", "(ZI)V"⟩, 12) := ⟨⟨by decide +kernel, by decide +kernel⟩, List.mem_of_getElem? (i := 23) (by decide +kernel), List.mem_of_getElem? (i := 343) (by decide +kernel), List.mem_of_getElem? (i := 344) (by decide +kernel)⟩
theorem lw_p17 : lw_okq (⟨"DoubleTexts", "becomeZero", "(Z)V"⟩, 12) := ⟨⟨by decide +kernel, by decide +kernel⟩, List.mem_of_getElem? (i := 23) (by decide +kernel), List.mem_of_getElem? (i := 348) (by decide +kernel), List.mem_of_getElem? (i := 349) (by decide +kernel)⟩
theorem lw_p18 : lw_okq (⟨"DoubleTexts", "becomeFinite", "(ZJI)V"⟩, 12) := ⟨⟨by decide +kernel, by decide +kernel⟩, List.mem_of_getElem? (i := 23) (by decide +kernel), List.mem_of_getElem? (i := 352) (by decide +kernel), List.mem_of_getElem? (i := 353) (by decide +kernel)⟩
theorem lw_p19 : lw_okq (⟨"DoubleTexts", "alignTops", "()V"⟩, 12) := ⟨⟨by decide +kernel, by decide +kernel⟩, List.mem_of_getElem? (i := 23) (by decide +kernel), List.mem_of_getElem? (i := 367) (by decide +kernel), List.mem_of_getElem? (i := 368) (by decide +kernel)⟩
theorem lw_p20 : lw_okq (⟨"DoubleTexts", "takeQuotient", "(I)J"⟩, 12) := ⟨⟨by decide +kernel, by decide +kernel⟩, List.mem_of_getElem? (i := 23) (by decide +kernel), List.mem_of_getElem? (i := 376) (by decide +kernel), List.mem_of_getElem? (i := 377) (by decide +kernel)⟩
theorem lw_p21 : lw_okq (⟨"DoubleTexts", "becomeRounded", "(ZJI)V"⟩, 12) := ⟨⟨by decide +kernel, by decide +kernel⟩, List.mem_of_getElem? (i := 23) (by decide +kernel), List.mem_of_getElem? (i := 397) (by decide +kernel), List.mem_of_getElem? (i := 398) (by decide +kernel)⟩
theorem lw_p22 : lw_okq (⟨"DoubleTexts", "bringToLowestTerms", "()V"⟩, 12) := ⟨⟨by decide +kernel, by decide +kernel⟩, List.mem_of_getElem? (i := 23) (by decide +kernel), List.mem_of_getElem? (i := 404) (by decide +kernel), List.mem_of_getElem? (i := 405) (by decide +kernel)⟩
theorem lw_p23 : lw_okq (⟨"DoubleTexts", "greatestOddDivisor", "()LDoubleTexts$Natural;"⟩, 12) := ⟨⟨by decide +kernel, by decide +kernel⟩, List.mem_of_getElem? (i := 23) (by decide +kernel), List.mem_of_getElem? (i := 428) (by decide +kernel), List.mem_of_getElem? (i := 429) (by decide +kernel)⟩
theorem lw_p24 : lw_okq (⟨"DoubleTexts$Natural", "subtractProduct", "(ILDoubleTexts$Natural;I)V"⟩, 2) := ⟨⟨by decide +kernel, by decide +kernel⟩, List.mem_of_getElem? (i := 82) (by decide +kernel), List.mem_of_getElem? (i := 443) (by decide +kernel), List.mem_of_getElem? (i := 444) (by decide +kernel)⟩
theorem lw_p25 : lw_okq (⟨"DoubleTexts", "becomeExactNumber", "(Z)V"⟩, 12) := ⟨⟨by decide +kernel, by decide +kernel⟩, List.mem_of_getElem? (i := 23) (by decide +kernel), List.mem_of_getElem? (i := 447) (by decide +kernel), List.mem_of_getElem? (i := 448) (by decide +kernel)⟩
theorem lw_p26 : lw_okq (⟨"DoubleTexts", "becomeExactDecimal", "(ZI)V"⟩, 12) := ⟨⟨by decide +kernel, by decide +kernel⟩, List.mem_of_getElem? (i := 23) (by decide +kernel), List.mem_of_getElem? (i := 456) (by decide +kernel), List.mem_of_getElem? (i := 457) (by decide +kernel)⟩
theorem lw_p27 : lw_okq (⟨"DoubleTexts", "multiplyByTens", "(I)Z"⟩, 12) := ⟨⟨by decide +kernel, by decide +kernel⟩, List.mem_of_getElem? (i := 23) (by decide +kernel), List.mem_of_getElem? (i := 460) (by decide +kernel), List.mem_of_getElem? (i := 461) (by decide +kernel)⟩
theorem lw_p28 : lw_okq (⟨"DoubleTexts", "divideByTens", "(I)Z"⟩, 12) := ⟨⟨by decide +kernel, by decide +kernel⟩, List.mem_of_getElem? (i := 23) (by decide +kernel), List.mem_of_getElem? (i := 475) (by decide +kernel), List.mem_of_getElem? (i := 476) (by decide +kernel)⟩
theorem lw_p29 : lw_okq (⟨"DoubleTexts$Natural", "takeFactor", "(II)I"⟩, 2) := ⟨⟨by decide +kernel, by decide +kernel⟩, List.mem_of_getElem? (i := 82) (by decide +kernel), List.mem_of_getElem? (i := 483) (by decide +kernel), List.mem_of_getElem? (i := 484) (by decide +kernel)⟩
theorem lw_p30 : lw_okq (⟨"DoubleTexts$Natural", "remainder", "(I)I"⟩, 2) := ⟨⟨by decide +kernel, by decide +kernel⟩, List.mem_of_getElem? (i := 82) (by decide +kernel), List.mem_of_getElem? (i := 487) (by decide +kernel), List.mem_of_getElem? (i := 488) (by decide +kernel)⟩
theorem lw_p31 : lw_okq (⟨"DoubleTexts", "becomeNearestDecimal", "(ZII)V"⟩, 12) := ⟨⟨by decide +kernel, by decide +kernel⟩, List.mem_of_getElem? (i := 23) (by decide +kernel), List.mem_of_getElem? (i := 499) (by decide +kernel), List.mem_of_getElem? (i := 500) (by decide +kernel)⟩
def lw_privs_2 : List (MethodName × Nat) := [(⟨"DoubleTexts", "becomeNearest", "(ZI)V"⟩, 12), (⟨"DoubleTexts", "becomeZero", "(Z)V"⟩, 12), (⟨"DoubleTexts", "becomeFinite", "(ZJI)V"⟩, 12), (⟨"DoubleTexts", "alignTops", "()V"⟩, 12), (⟨"DoubleTexts", "takeQuotient", "(I)J"⟩, 12), (⟨"DoubleTexts", "becomeRounded", "(ZJI)V"⟩, 12), (⟨"DoubleTexts", "bringToLowestTerms", "()V"⟩, 12), (⟨"DoubleTexts", "greatestOddDivisor", "()LDoubleTexts$Natural;"⟩, 12), (⟨"DoubleTexts$Natural", "subtractProduct", "(ILDoubleTexts$Natural;I)V"⟩, 2), (⟨"DoubleTexts", "becomeExactNumber", "(Z)V"⟩, 12), (⟨"DoubleTexts", "becomeExactDecimal", "(ZI)V"⟩, 12), (⟨"DoubleTexts", "multiplyByTens", "(I)Z"⟩, 12), (⟨"DoubleTexts", "divideByTens", "(I)Z"⟩, 12), (⟨"DoubleTexts$Natural", "takeFactor", "(II)I"⟩, 2), (⟨"DoubleTexts$Natural", "remainder", "(I)I"⟩, 2), (⟨"DoubleTexts", "becomeNearestDecimal", "(ZII)V"⟩, 12)]
theorem lw_r2 : ∀ q ∈ lw_privs_2, lw_okq q := List.forall_mem_cons.mpr ⟨lw_p16, List.forall_mem_cons.mpr ⟨lw_p17, List.forall_mem_cons.mpr ⟨lw_p18, List.forall_mem_cons.mpr ⟨lw_p19, List.forall_mem_cons.mpr ⟨lw_p20, List.forall_mem_cons.mpr ⟨lw_p21, List.forall_mem_cons.mpr ⟨lw_p22, List.forall_mem_cons.mpr ⟨lw_p23, List.forall_mem_cons.mpr ⟨lw_p24, List.forall_mem_cons.mpr ⟨lw_p25, List.forall_mem_cons.mpr ⟨lw_p26, List.forall_mem_cons.mpr ⟨lw_p27, List.forall_mem_cons.mpr ⟨lw_p28, List.forall_mem_cons.mpr ⟨lw_p29, List.forall_mem_cons.mpr ⟨lw_p30, List.forall_mem_cons.mpr ⟨lw_p31, fun _ h => absurd h List.not_mem_nil⟩⟩⟩⟩⟩⟩⟩⟩⟩⟩⟩⟩⟩⟩⟩⟩
theorem lw_p32 : lw_okq (⟨"DoubleTexts", "appendExactNumber", "(I)V"⟩, 12) := ⟨⟨by decide +kernel, by decide +kernel⟩, List.mem_of_getElem? (i := 23) (by decide +kernel), List.mem_of_getElem? (i := 548) (by decide +kernel), List.mem_of_getElem? (i := 549) (by decide +kernel)⟩
theorem lw_p33 : lw_okq (⟨"DoubleTexts", "appendNatural", "(LDoubleTexts$Natural;I)V"⟩, 12) := ⟨⟨by decide +kernel, by decide +kernel⟩, List.mem_of_getElem? (i := 23) (by decide +kernel), List.mem_of_getElem? (i := 556) (by decide +kernel), List.mem_of_getElem? (i := 557) (by decide +kernel)⟩
theorem lw_p34 : lw_okq (⟨"DoubleTexts", "appendFinite", "()V"⟩, 12) := ⟨⟨by decide +kernel, by decide +kernel⟩, List.mem_of_getElem? (i := 23) (by decide +kernel), List.mem_of_getElem? (i := 577) (by decide +kernel), List.mem_of_getElem? (i := 578) (by decide +kernel)⟩
theorem lw_p35 : lw_okq (⟨"DoubleTexts$ShortestDigits", "append", "(I)V"⟩, 8) := ⟨⟨by decide +kernel, by decide +kernel⟩, List.mem_of_getElem? (i := 96) (by decide +kernel), List.mem_of_getElem? (i := 585) (by decide +kernel), List.mem_of_getElem? (i := 586) (by decide +kernel)⟩
theorem lw_p36 : lw_okq (⟨"DoubleTexts$ShortestDigits", "setUp", "(JIZ)V"⟩, 8) := ⟨⟨by decide +kernel, by decide +kernel⟩, List.mem_of_getElem? (i := 96) (by decide +kernel), List.mem_of_getElem? (i := 598) (by decide +kernel), List.mem_of_getElem? (i := 599) (by decide +kernel)⟩
theorem lw_p37 : lw_okq (⟨"DoubleTexts$ShortestDigits", "scaleByFives", "()V"⟩, 8) := ⟨⟨by decide +kernel, by decide +kernel⟩, List.mem_of_getElem? (i := 96) (by decide +kernel), List.mem_of_getElem? (i := 605) (by decide +kernel), List.mem_of_getElem? (i := 606) (by decide +kernel)⟩
theorem lw_p38 : lw_okq (⟨"DoubleTexts$ShortestDigits", "reachesWhole", "(Z)Z"⟩, 8) := ⟨⟨by decide +kernel, by decide +kernel⟩, List.mem_of_getElem? (i := 96) (by decide +kernel), List.mem_of_getElem? (i := 610) (by decide +kernel), List.mem_of_getElem? (i := 611) (by decide +kernel)⟩
theorem lw_p39 : lw_okq (⟨"DoubleTexts$ShortestDigits", "takeDigit", "(Z)Z"⟩, 8) := ⟨⟨by decide +kernel, by decide +kernel⟩, List.mem_of_getElem? (i := 96) (by decide +kernel), List.mem_of_getElem? (i := 621) (by decide +kernel), List.mem_of_getElem? (i := 622) (by decide +kernel)⟩
theorem lw_p40 : lw_okq (⟨"DoubleTexts$ShortestDigits", "isNearerUp", "(I)Z"⟩, 8) := ⟨⟨by decide +kernel, by decide +kernel⟩, List.mem_of_getElem? (i := 96) (by decide +kernel), List.mem_of_getElem? (i := 626) (by decide +kernel), List.mem_of_getElem? (i := 627) (by decide +kernel)⟩
theorem lw_p41 : lw_okq (⟨"DoubleTexts", "appendShortest", "(II)V"⟩, 12) := ⟨⟨by decide +kernel, by decide +kernel⟩, List.mem_of_getElem? (i := 23) (by decide +kernel), List.mem_of_getElem? (i := 634) (by decide +kernel), List.mem_of_getElem? (i := 635) (by decide +kernel)⟩
theorem lw_p42 : lw_okq (⟨"DoubleTexts", "appendWithExponent", "(I)V"⟩, 12) := ⟨⟨by decide +kernel, by decide +kernel⟩, List.mem_of_getElem? (i := 23) (by decide +kernel), List.mem_of_getElem? (i := 653) (by decide +kernel), List.mem_of_getElem? (i := 654) (by decide +kernel)⟩
theorem lw_p43 : lw_okq (⟨"DoubleTextsModel", "number", "([IIII)LDoubleTextsModel$Num;"⟩, 26) := ⟨⟨by decide +kernel, by decide +kernel⟩, List.mem_of_getElem? (i := 676) (by decide +kernel), List.mem_of_getElem? (i := 773) (by decide +kernel), List.mem_of_getElem? (i := 774) (by decide +kernel)⟩
theorem lw_p44 : lw_okq (⟨"DoubleTextsModel", "unsigned", "([IIIIIZ)LDoubleTextsModel$Num;"⟩, 26) := ⟨⟨by decide +kernel, by decide +kernel⟩, List.mem_of_getElem? (i := 676) (by decide +kernel), List.mem_of_getElem? (i := 797) (by decide +kernel), List.mem_of_getElem? (i := 798) (by decide +kernel)⟩
theorem lw_p45 : lw_okq (⟨"DoubleTextsModel", "decimal", "([IIIIZ)LDoubleTextsModel$Num;"⟩, 26) := ⟨⟨by decide +kernel, by decide +kernel⟩, List.mem_of_getElem? (i := 676) (by decide +kernel), List.mem_of_getElem? (i := 807) (by decide +kernel), List.mem_of_getElem? (i := 808) (by decide +kernel)⟩
theorem lw_p46 : lw_okq (⟨"DoubleTextsModel", "digits", "([IIII)LDoubleTextsModel$Whole;"⟩, 26) := ⟨⟨by decide +kernel, by decide +kernel⟩, List.mem_of_getElem? (i := 676) (by decide +kernel), List.mem_of_getElem? (i := 835) (by decide +kernel), List.mem_of_getElem? (i := 836) (by decide +kernel)⟩
theorem lw_p47 : lw_okq (⟨"DoubleTextsModel", "kept", "([II)LDoubleTextsModel$Num;"⟩, 26) := ⟨⟨by decide +kernel, by decide +kernel⟩, List.mem_of_getElem? (i := 676) (by decide +kernel), List.mem_of_getElem? (i := 872) (by decide +kernel), List.mem_of_getElem? (i := 873) (by decide +kernel)⟩
def lw_privs_3 : List (MethodName × Nat) := [(⟨"DoubleTexts", "appendExactNumber", "(I)V"⟩, 12), (⟨"DoubleTexts", "appendNatural", "(LDoubleTexts$Natural;I)V"⟩, 12), (⟨"DoubleTexts", "appendFinite", "()V"⟩, 12), (⟨"DoubleTexts$ShortestDigits", "append", "(I)V"⟩, 8), (⟨"DoubleTexts$ShortestDigits", "setUp", "(JIZ)V"⟩, 8), (⟨"DoubleTexts$ShortestDigits", "scaleByFives", "()V"⟩, 8), (⟨"DoubleTexts$ShortestDigits", "reachesWhole", "(Z)Z"⟩, 8), (⟨"DoubleTexts$ShortestDigits", "takeDigit", "(Z)Z"⟩, 8), (⟨"DoubleTexts$ShortestDigits", "isNearerUp", "(I)Z"⟩, 8), (⟨"DoubleTexts", "appendShortest", "(II)V"⟩, 12), (⟨"DoubleTexts", "appendWithExponent", "(I)V"⟩, 12), (⟨"DoubleTextsModel", "number", "([IIII)LDoubleTextsModel$Num;"⟩, 26), (⟨"DoubleTextsModel", "unsigned", "([IIIIIZ)LDoubleTextsModel$Num;"⟩, 26), (⟨"DoubleTextsModel", "decimal", "([IIIIZ)LDoubleTextsModel$Num;"⟩, 26), (⟨"DoubleTextsModel", "digits", "([IIII)LDoubleTextsModel$Whole;"⟩, 26), (⟨"DoubleTextsModel", "kept", "([II)LDoubleTextsModel$Num;"⟩, 26)]
theorem lw_r3 : ∀ q ∈ lw_privs_3, lw_okq q := List.forall_mem_cons.mpr ⟨lw_p32, List.forall_mem_cons.mpr ⟨lw_p33, List.forall_mem_cons.mpr ⟨lw_p34, List.forall_mem_cons.mpr ⟨lw_p35, List.forall_mem_cons.mpr ⟨lw_p36, List.forall_mem_cons.mpr ⟨lw_p37, List.forall_mem_cons.mpr ⟨lw_p38, List.forall_mem_cons.mpr ⟨lw_p39, List.forall_mem_cons.mpr ⟨lw_p40, List.forall_mem_cons.mpr ⟨lw_p41, List.forall_mem_cons.mpr ⟨lw_p42, List.forall_mem_cons.mpr ⟨lw_p43, List.forall_mem_cons.mpr ⟨lw_p44, List.forall_mem_cons.mpr ⟨lw_p45, List.forall_mem_cons.mpr ⟨lw_p46, List.forall_mem_cons.mpr ⟨lw_p47, fun _ h => absurd h List.not_mem_nil⟩⟩⟩⟩⟩⟩⟩⟩⟩⟩⟩⟩⟩⟩⟩⟩
theorem lw_p48 : lw_okq (⟨"DoubleTextsModel", "bitsOf", "([II)I"⟩, 26) := ⟨⟨by decide +kernel, by decide +kernel⟩, List.mem_of_getElem? (i := 676) (by decide +kernel), List.mem_of_getElem? (i := 876) (by decide +kernel), List.mem_of_getElem? (i := 877) (by decide +kernel)⟩
theorem lw_p49 : lw_okq (⟨"DoubleTextsModel", "fraction", "([II[II)LDoubleTextsModel$Num;"⟩, 26) := ⟨⟨by decide +kernel, by decide +kernel⟩, List.mem_of_getElem? (i := 676) (by decide +kernel), List.mem_of_getElem? (i := 883) (by decide +kernel), List.mem_of_getElem? (i := 884) (by decide +kernel)⟩
theorem lw_p50 : lw_okq (⟨"DoubleTextsModel", "gcd", "([II[II)I"⟩, 26) := ⟨⟨by decide +kernel, by decide +kernel⟩, List.mem_of_getElem? (i := 676) (by decide +kernel), List.mem_of_getElem? (i := 887) (by decide +kernel), List.mem_of_getElem? (i := 888) (by decide +kernel)⟩
theorem lw_p51 : lw_okq (⟨"DoubleTextsModel", "reduced", "([III[I)I"⟩, 26) := ⟨⟨by decide +kernel, by decide +kernel⟩, List.mem_of_getElem? (i := 676) (by decide +kernel), List.mem_of_getElem? (i := 914) (by decide +kernel), List.mem_of_getElem? (i := 915) (by decide +kernel)⟩
theorem lw_p52 : lw_okq (⟨"DoubleTextsModel", "nearest", "([II[II)D"⟩, 26) := ⟨⟨by decide +kernel, by decide +kernel⟩, List.mem_of_getElem? (i := 676) (by decide +kernel), List.mem_of_getElem? (i := 952) (by decide +kernel), List.mem_of_getElem? (i := 953) (by decide +kernel)⟩
theorem lw_p53 : lw_okq (⟨"DoubleTextsModel", "ratio", "(LDoubleTextsModel$Whole;LDoubleTextsModel$Whole;)D"⟩, 26) := ⟨⟨by decide +kernel, by decide +kernel⟩, List.mem_of_getElem? (i := 676) (by decide +kernel), List.mem_of_getElem? (i := 976) (by decide +kernel), List.mem_of_getElem? (i := 977) (by decide +kernel)⟩
theorem lw_p54 : lw_okq (⟨"DoubleTextsModel", "near", "(LDoubleTextsModel$Whole;ILDoubleTextsModel$Whole;)D"⟩, 26) := ⟨⟨by decide +kernel, by decide +kernel⟩, List.mem_of_getElem? (i := 676) (by decide +kernel), List.mem_of_getElem? (i := 996) (by decide +kernel), List.mem_of_getElem? (i := 997) (by decide +kernel)⟩
theorem lw_p55 : lw_okq (⟨"DoubleTextsModel", "isDouble", "()Z"⟩, 26) := ⟨⟨by decide +kernel, by decide +kernel⟩, List.mem_of_getElem? (i := 676) (by decide +kernel), List.mem_of_getElem? (i := 1012) (by decide +kernel), List.mem_of_getElem? (i := 1013) (by decide +kernel)⟩
theorem lw_p56 : lw_okq (⟨"DoubleTextsModel", "value", "()D"⟩, 26) := ⟨⟨by decide +kernel, by decide +kernel⟩, List.mem_of_getElem? (i := 676) (by decide +kernel), List.mem_of_getElem? (i := 1016) (by decide +kernel), List.mem_of_getElem? (i := 1017) (by decide +kernel)⟩
theorem lw_p57 : lw_okq (⟨"DoubleTextsModel", "exactOf", "(D)LDoubleTextsModel$Num;"⟩, 26) := ⟨⟨by decide +kernel, by decide +kernel⟩, List.mem_of_getElem? (i := 676) (by decide +kernel), List.mem_of_getElem? (i := 1025) (by decide +kernel), List.mem_of_getElem? (i := 1026) (by decide +kernel)⟩
theorem lw_p58 : lw_okq (⟨"DoubleTextsModel", "real", "(LDoubleTextsModel$Num;)D"⟩, 26) := ⟨⟨by decide +kernel, by decide +kernel⟩, List.mem_of_getElem? (i := 676) (by decide +kernel), List.mem_of_getElem? (i := 1040) (by decide +kernel), List.mem_of_getElem? (i := 1041) (by decide +kernel)⟩
theorem lw_p59 : lw_okq (⟨"DoubleTextsModel", "doublings", "()I"⟩, 26) := ⟨⟨by decide +kernel, by decide +kernel⟩, List.mem_of_getElem? (i := 676) (by decide +kernel), List.mem_of_getElem? (i := 1057) (by decide +kernel), List.mem_of_getElem? (i := 1058) (by decide +kernel)⟩
theorem lw_p60 : lw_okq (⟨"DoubleTextsModel", "sayWhole", "(LDoubleTextsModel$Whole;I)V"⟩, 26) := ⟨⟨by decide +kernel, by decide +kernel⟩, List.mem_of_getElem? (i := 676) (by decide +kernel), List.mem_of_getElem? (i := 1073) (by decide +kernel), List.mem_of_getElem? (i := 1074) (by decide +kernel)⟩
theorem lw_p61 : lw_okq (⟨"DoubleTextsModel", "say", "(I)V"⟩, 26) := ⟨⟨by decide +kernel, by decide +kernel⟩, List.mem_of_getElem? (i := 676) (by decide +kernel), List.mem_of_getElem? (i := 1077) (by decide +kernel), List.mem_of_getElem? (i := 1078) (by decide +kernel)⟩
theorem lw_p62 : lw_okq (⟨"DoubleTextsModel", "sayWord", "(Ljava/lang/String;)V"⟩, 26) := ⟨⟨by decide +kernel, by decide +kernel⟩, List.mem_of_getElem? (i := 676) (by decide +kernel), List.mem_of_getElem? (i := 1084) (by decide +kernel), List.mem_of_getElem? (i := 1085) (by decide +kernel)⟩
theorem lw_p63 : lw_okq (⟨"DoubleTextsModel", "sayReal", "(D)V"⟩, 26) := ⟨⟨by decide +kernel, by decide +kernel⟩, List.mem_of_getElem? (i := 676) (by decide +kernel), List.mem_of_getElem? (i := 1089) (by decide +kernel), List.mem_of_getElem? (i := 1090) (by decide +kernel)⟩
def lw_privs_4 : List (MethodName × Nat) := [(⟨"DoubleTextsModel", "bitsOf", "([II)I"⟩, 26), (⟨"DoubleTextsModel", "fraction", "([II[II)LDoubleTextsModel$Num;"⟩, 26), (⟨"DoubleTextsModel", "gcd", "([II[II)I"⟩, 26), (⟨"DoubleTextsModel", "reduced", "([III[I)I"⟩, 26), (⟨"DoubleTextsModel", "nearest", "([II[II)D"⟩, 26), (⟨"DoubleTextsModel", "ratio", "(LDoubleTextsModel$Whole;LDoubleTextsModel$Whole;)D"⟩, 26), (⟨"DoubleTextsModel", "near", "(LDoubleTextsModel$Whole;ILDoubleTextsModel$Whole;)D"⟩, 26), (⟨"DoubleTextsModel", "isDouble", "()Z"⟩, 26), (⟨"DoubleTextsModel", "value", "()D"⟩, 26), (⟨"DoubleTextsModel", "exactOf", "(D)LDoubleTextsModel$Num;"⟩, 26), (⟨"DoubleTextsModel", "real", "(LDoubleTextsModel$Num;)D"⟩, 26), (⟨"DoubleTextsModel", "doublings", "()I"⟩, 26), (⟨"DoubleTextsModel", "sayWhole", "(LDoubleTextsModel$Whole;I)V"⟩, 26), (⟨"DoubleTextsModel", "say", "(I)V"⟩, 26), (⟨"DoubleTextsModel", "sayWord", "(Ljava/lang/String;)V"⟩, 26), (⟨"DoubleTextsModel", "sayReal", "(D)V"⟩, 26)]
theorem lw_r4 : ∀ q ∈ lw_privs_4, lw_okq q := List.forall_mem_cons.mpr ⟨lw_p48, List.forall_mem_cons.mpr ⟨lw_p49, List.forall_mem_cons.mpr ⟨lw_p50, List.forall_mem_cons.mpr ⟨lw_p51, List.forall_mem_cons.mpr ⟨lw_p52, List.forall_mem_cons.mpr ⟨lw_p53, List.forall_mem_cons.mpr ⟨lw_p54, List.forall_mem_cons.mpr ⟨lw_p55, List.forall_mem_cons.mpr ⟨lw_p56, List.forall_mem_cons.mpr ⟨lw_p57, List.forall_mem_cons.mpr ⟨lw_p58, List.forall_mem_cons.mpr ⟨lw_p59, List.forall_mem_cons.mpr ⟨lw_p60, List.forall_mem_cons.mpr ⟨lw_p61, List.forall_mem_cons.mpr ⟨lw_p62, List.forall_mem_cons.mpr ⟨lw_p63, fun _ h => absurd h List.not_mem_nil⟩⟩⟩⟩⟩⟩⟩⟩⟩⟩⟩⟩⟩⟩⟩⟩
theorem lw_p64 : lw_okq (⟨"DoubleTextsModel", "shortest", "(D)V"⟩, 26) := ⟨⟨by decide +kernel, by decide +kernel⟩, List.mem_of_getElem? (i := 676) (by decide +kernel), List.mem_of_getElem? (i := 1096) (by decide +kernel), List.mem_of_getElem? (i := 1097) (by decide +kernel)⟩
theorem lw_p65 : lw_okq (⟨"DoubleTextsModel", "put", "(I)I"⟩, 26) := ⟨⟨by decide +kernel, by decide +kernel⟩, List.mem_of_getElem? (i := 676) (by decide +kernel), List.mem_of_getElem? (i := 1103) (by decide +kernel), List.mem_of_getElem? (i := 1104) (by decide +kernel)⟩
theorem lw_p66 : lw_okq (⟨"DoubleTextsModel", "placed", "(I)V"⟩, 26) := ⟨⟨by decide +kernel, by decide +kernel⟩, List.mem_of_getElem? (i := 676) (by decide +kernel), List.mem_of_getElem? (i := 1107) (by decide +kernel), List.mem_of_getElem? (i := 1108) (by decide +kernel)⟩
theorem lw_p67 : lw_okq (⟨"DoubleTextsModel", "sayFound", "(II)V"⟩, 26) := ⟨⟨by decide +kernel, by decide +kernel⟩, List.mem_of_getElem? (i := 676) (by decide +kernel), List.mem_of_getElem? (i := 1111) (by decide +kernel), List.mem_of_getElem? (i := 1112) (by decide +kernel)⟩
theorem lw_p68 : lw_okq (⟨"DoubleTextsModel", "saySmall", "(I)V"⟩, 26) := ⟨⟨by decide +kernel, by decide +kernel⟩, List.mem_of_getElem? (i := 676) (by decide +kernel), List.mem_of_getElem? (i := 1116) (by decide +kernel), List.mem_of_getElem? (i := 1117) (by decide +kernel)⟩
def lw_privs_5 : List (MethodName × Nat) := [(⟨"DoubleTextsModel", "shortest", "(D)V"⟩, 26), (⟨"DoubleTextsModel", "put", "(I)I"⟩, 26), (⟨"DoubleTextsModel", "placed", "(I)V"⟩, 26), (⟨"DoubleTextsModel", "sayFound", "(II)V"⟩, 26), (⟨"DoubleTextsModel", "saySmall", "(I)V"⟩, 26)]
theorem lw_r5 : ∀ q ∈ lw_privs_5, lw_okq q := List.forall_mem_cons.mpr ⟨lw_p64, List.forall_mem_cons.mpr ⟨lw_p65, List.forall_mem_cons.mpr ⟨lw_p66, List.forall_mem_cons.mpr ⟨lw_p67, List.forall_mem_cons.mpr ⟨lw_p68, fun _ h => absurd h List.not_mem_nil⟩⟩⟩⟩⟩
def lw_privs : List (MethodName × Nat) := lw_privs_1 ++ (lw_privs_2 ++ (lw_privs_3 ++ (lw_privs_4 ++ (lw_privs_5))))
def lw_tbl : List Cond := k2_sels lw_privs ++ tables_1
theorem lw_privs_ok : ∀ q ∈ lw_privs, lw_okq q := by
  show ∀ q ∈ lw_privs_1 ++ (lw_privs_2 ++ (lw_privs_3 ++ (lw_privs_4 ++ (lw_privs_5)))), lw_okq q
  exact List.forall_mem_append.mpr ⟨lw_r1, List.forall_mem_append.mpr ⟨lw_r2, List.forall_mem_append.mpr ⟨lw_r3, List.forall_mem_append.mpr ⟨lw_r4, lw_r5⟩⟩⟩⟩
/-- the streams that the claim lets the run draw from -/
abbrev lw_cs : List Choice := [Jvm.Choice.named "NaN.bits"]
theorem lw_bits : nanBits ∈ lw_cs := by first | decide | exact List.mem_cons_self | simp [lw_cs, nanBits]
def RX0 : String := "DoubleTexts$Line"
def TX0 : u_T := fun k => match k with
  | 0 => ("DoubleTexts$Line", "codes", "[B", false)
  | _ => ("DoubleTexts$Line", "size", "I", false)
def tyX0 : Nat → FieldType := fun k => match k with
  | 0 => .array .byte
  | _ => .int
theorem nmX0 : ∀ a, a < 2 → ∀ b, b < 2 → a ≠ b → (TX0 a).2.1 ≠ (TX0 b).2.1 := by decide +kernel
theorem tyX0_ok : ∀ k, k < 2 → parseFieldDescriptor (TX0 k).2.2.1 = some (tyX0 k) := by decide +kernel
abbrev cX0_init : ByteArray := prog_2_method_1_code
def yX0_init : MethodName := ⟨RX0, "<init>", "()V"⟩
abbrev cX0_size : ByteArray := prog_2_method_2_code
def yX0_size : MethodName := ⟨RX0, "size", "()I"⟩
abbrev cX0_codeAt : ByteArray := prog_2_method_3_code
def yX0_codeAt : MethodName := ⟨RX0, "codeAt", "(I)I"⟩
abbrev cX0_empty : ByteArray := prog_2_method_4_code
def yX0_empty : MethodName := ⟨RX0, "empty", "()V"⟩
abbrev cX0_makeRoom : ByteArray := prog_2_method_5_code
def yX0_makeRoom : MethodName := ⟨RX0, "makeRoom", "(I)V"⟩
abbrev cX0_append : ByteArray := prog_2_method_6_code
def yX0_append : MethodName := ⟨RX0, "append", "(I)V"⟩
abbrev cX0_append_ : ByteArray := prog_2_method_7_code
def yX0_append_ : MethodName := ⟨RX0, "append", "(Ljava/lang/String;)V"⟩
abbrev cX0_copy : ByteArray := prog_2_method_8_code
def yX0_copy : MethodName := ⟨RX0, "copy", "(LDoubleTexts$Line;)V"⟩
abbrev cX0_appendLastDigits : ByteArray := prog_2_method_9_code
def yX0_appendLastDigits : MethodName := ⟨RX0, "appendLastDigits", "(III)V"⟩
abbrev cX0_dropZerosAtEnd : ByteArray := prog_2_method_10_code
def yX0_dropZerosAtEnd : MethodName := ⟨RX0, "dropZerosAtEnd", "(I)V"⟩
abbrev cX0_reverseFrom : ByteArray := prog_2_method_11_code
def yX0_reverseFrom : MethodName := ⟨RX0, "reverseFrom", "(I)V"⟩
def RX1 : String := "DoubleTexts$Natural"
def TX1 : u_T := fun k => match k with
  | 0 => ("DoubleTexts$Natural", "words", "[I", true)
  | _ => ("DoubleTexts$Natural", "size", "I", false)
def tyX1 : Nat → FieldType := fun k => match k with
  | 0 => .array .int
  | _ => .int
theorem nmX1 : ∀ a, a < 2 → ∀ b, b < 2 → a ≠ b → (TX1 a).2.1 ≠ (TX1 b).2.1 := by decide +kernel
theorem tyX1_ok : ∀ k, k < 2 → parseFieldDescriptor (TX1 k).2.2.1 = some (tyX1 k) := by decide +kernel
abbrev cX1_init : ByteArray := prog_3_method_1_code
def yX1_init : MethodName := ⟨RX1, "<init>", "()V"⟩
abbrev cX1_set : ByteArray := prog_3_method_2_code
def yX1_set : MethodName := ⟨RX1, "set", "(J)V"⟩
abbrev cX1_copy : ByteArray := prog_3_method_3_code
def yX1_copy : MethodName := ⟨RX1, "copy", "(LDoubleTexts$Natural;)V"⟩
abbrev cX1_isZero : ByteArray := prog_3_method_4_code
def yX1_isZero : MethodName := ⟨RX1, "isZero", "()Z"⟩
abbrev cX1_isOne : ByteArray := prog_3_method_5_code
def yX1_isOne : MethodName := ⟨RX1, "isOne", "()Z"⟩
abbrev cX1_bitLength : ByteArray := prog_3_method_6_code
def yX1_bitLength : MethodName := ⟨RX1, "bitLength", "()I"⟩
abbrev cX1_trailingZeros : ByteArray := prog_3_method_7_code
def yX1_trailingZeros : MethodName := ⟨RX1, "trailingZeros", "()I"⟩
abbrev cX1_compare : ByteArray := prog_3_method_8_code
def yX1_compare : MethodName := ⟨RX1, "compare", "(LDoubleTexts$Natural;)I"⟩
abbrev cX1_add : ByteArray := prog_3_method_9_code
def yX1_add : MethodName := ⟨RX1, "add", "(LDoubleTexts$Natural;)V"⟩
abbrev cX1_subtract : ByteArray := prog_3_method_10_code
def yX1_subtract : MethodName := ⟨RX1, "subtract", "(LDoubleTexts$Natural;)V"⟩
abbrev cX1_multiplyAdd : ByteArray := prog_3_method_11_code
def yX1_multiplyAdd : MethodName := ⟨RX1, "multiplyAdd", "(II)V"⟩
abbrev cX1_multiplyByFives : ByteArray := prog_3_method_12_code
def yX1_multiplyByFives : MethodName := ⟨RX1, "multiplyByFives", "(I)V"⟩
abbrev cX1_takeFives : ByteArray := prog_3_method_13_code
def yX1_takeFives : MethodName := ⟨RX1, "takeFives", "(I)I"⟩
abbrev cX1_takeFactor : ByteArray := prog_3_method_14_code
def yX1_takeFactor : MethodName := ⟨RX1, "takeFactor", "(II)I"⟩
abbrev cX1_powerOfFive : ByteArray := prog_3_method_15_code
def yX1_powerOfFive : MethodName := ⟨RX1, "powerOfFive", "(I)I"⟩
abbrev cX1_remainder : ByteArray := prog_3_method_16_code
def yX1_remainder : MethodName := ⟨RX1, "remainder", "(I)I"⟩
abbrev cX1_divideBySmall : ByteArray := prog_3_method_17_code
def yX1_divideBySmall : MethodName := ⟨RX1, "divideBySmall", "(I)I"⟩
abbrev cX1_divideByOddFactor : ByteArray := prog_3_method_18_code
def yX1_divideByOddFactor : MethodName := ⟨RX1, "divideByOddFactor", "(LDoubleTexts$Natural;)V"⟩
abbrev cX1_subtractProduct : ByteArray := prog_3_method_19_code
def yX1_subtractProduct : MethodName := ⟨RX1, "subtractProduct", "(ILDoubleTexts$Natural;I)V"⟩
abbrev cX1_inverse : ByteArray := prog_3_method_20_code
def yX1_inverse : MethodName := ⟨RX1, "inverse", "(I)I"⟩
abbrev cX1_shiftLeft : ByteArray := prog_3_method_21_code
def yX1_shiftLeft : MethodName := ⟨RX1, "shiftLeft", "(I)V"⟩
abbrev cX1_shiftRight : ByteArray := prog_3_method_22_code
def yX1_shiftRight : MethodName := ⟨RX1, "shiftRight", "(I)V"⟩
abbrev cX1_wordAt : ByteArray := prog_3_method_23_code
def yX1_wordAt : MethodName := ⟨RX1, "wordAt", "(I)I"⟩
abbrev cX1_append : ByteArray := prog_3_method_24_code
def yX1_append : MethodName := ⟨RX1, "append", "(I)V"⟩
abbrev cX1_trim : ByteArray := prog_3_method_25_code
def yX1_trim : MethodName := ⟨RX1, "trim", "()V"⟩
def RX2 : String := "DoubleTexts$Numeral"
def TX2 : u_T := fun k => match k with
  | 0 => ("DoubleTexts$Numeral", "text", "LDoubleTexts$Line;", true)
  | 1 => ("DoubleTexts$Numeral", "at", "I", false)
  | 2 => ("DoubleTexts$Numeral", "base", "I", false)
  | 3 => ("DoubleTexts$Numeral", "exactness", "I", false)
  | 4 => ("DoubleTexts$Numeral", "signed", "Z", false)
  | 5 => ("DoubleTexts$Numeral", "minus", "Z", false)
  | 6 => ("DoubleTexts$Numeral", "tens", "I", false)
  | _ => ("DoubleTexts$Numeral", "significant", "I", false)
def tyX2 : Nat → FieldType := fun k => match k with
  | 0 => .object "DoubleTexts$Line"
  | 1 => .int
  | 2 => .int
  | 3 => .int
  | 4 => .boolean
  | 5 => .boolean
  | 6 => .int
  | _ => .int
theorem nmX2 : ∀ a, a < 8 → ∀ b, b < 8 → a ≠ b → (TX2 a).2.1 ≠ (TX2 b).2.1 := by decide +kernel
theorem tyX2_ok : ∀ k, k < 8 → parseFieldDescriptor (TX2 k).2.2.1 = some (tyX2 k) := by decide +kernel
abbrev cX2_init : ByteArray := prog_4_method_1_code
def yX2_init : MethodName := ⟨RX2, "<init>", "()V"⟩
abbrev cX2_line : ByteArray := prog_4_method_2_code
def yX2_line : MethodName := ⟨RX2, "line", "()LDoubleTexts$Line;"⟩
abbrev cX2_exactIsAsked : ByteArray := prog_4_method_3_code
def yX2_exactIsAsked : MethodName := ⟨RX2, "exactIsAsked", "()Z"⟩
abbrev cX2_inexactIsAsked : ByteArray := prog_4_method_4_code
def yX2_inexactIsAsked : MethodName := ⟨RX2, "inexactIsAsked", "()Z"⟩
abbrev cX2_hasMinus : ByteArray := prog_4_method_5_code
def yX2_hasMinus : MethodName := ⟨RX2, "hasMinus", "()Z"⟩
abbrev cX2_tens : ByteArray := prog_4_method_6_code
def yX2_tens : MethodName := ⟨RX2, "tens", "()I"⟩
abbrev cX2_significantDigits : ByteArray := prog_4_method_7_code
def yX2_significantDigits : MethodName := ⟨RX2, "significantDigits", "()I"⟩
abbrev cX2_parse : ByteArray := prog_4_method_8_code
def yX2_parse : MethodName := ⟨RX2, "parse", "(LDoubleTexts$Natural;LDoubleTexts$Natural;)I"⟩
abbrev cX2_takeWordOrNumber : ByteArray := prog_4_method_9_code
def yX2_takeWordOrNumber : MethodName := ⟨RX2, "takeWordOrNumber", "(LDoubleTexts$Natural;LDoubleTexts$Natural;)I"⟩
abbrev cX2_takeNumber : ByteArray := prog_4_method_10_code
def yX2_takeNumber : MethodName := ⟨RX2, "takeNumber", "(LDoubleTexts$Natural;LDoubleTexts$Natural;)I"⟩
abbrev cX2_takeDecimal : ByteArray := prog_4_method_11_code
def yX2_takeDecimal : MethodName := ⟨RX2, "takeDecimal", "(LDoubleTexts$Natural;I)I"⟩
abbrev cX2_takeExponent : ByteArray := prog_4_method_12_code
def yX2_takeExponent : MethodName := ⟨RX2, "takeExponent", "()Z"⟩
abbrev cX2_takePrefixes : ByteArray := prog_4_method_13_code
def yX2_takePrefixes : MethodName := ⟨RX2, "takePrefixes", "()Z"⟩
abbrev cX2_baseOf : ByteArray := prog_4_method_14_code
def yX2_baseOf : MethodName := ⟨RX2, "baseOf", "(I)I"⟩
abbrev cX2_takeSign : ByteArray := prog_4_method_15_code
def yX2_takeSign : MethodName := ⟨RX2, "takeSign", "()V"⟩
abbrev cX2_takeWord : ByteArray := prog_4_method_16_code
def yX2_takeWord : MethodName := ⟨RX2, "takeWord", "(Ljava/lang/String;)Z"⟩
abbrev cX2_takeDigits : ByteArray := prog_4_method_17_code
def yX2_takeDigits : MethodName := ⟨RX2, "takeDigits", "(LDoubleTexts$Natural;)I"⟩
abbrev cX2_current : ByteArray := prog_4_method_18_code
def yX2_current : MethodName := ⟨RX2, "current", "()I"⟩
abbrev cX2_currentDigit : ByteArray := prog_4_method_19_code
def yX2_currentDigit : MethodName := ⟨RX2, "currentDigit", "()I"⟩
abbrev cX2_isExponentMark : ByteArray := prog_4_method_20_code
def yX2_isExponentMark : MethodName := ⟨RX2, "isExponentMark", "(I)Z"⟩
def RX3 : String := "DoubleTexts$ShortestDigits"
def TX3 : u_T := fun k => match k with
  | 0 => ("DoubleTexts$ShortestDigits", "digits", "[I", true)
  | 1 => ("DoubleTexts$ShortestDigits", "count", "I", false)
  | 2 => ("DoubleTexts$ShortestDigits", "point", "I", false)
  | 3 => ("DoubleTexts$ShortestDigits", "rest", "LDoubleTexts$Natural;", true)
  | 4 => ("DoubleTexts$ShortestDigits", "whole", "LDoubleTexts$Natural;", true)
  | 5 => ("DoubleTexts$ShortestDigits", "above", "LDoubleTexts$Natural;", true)
  | 6 => ("DoubleTexts$ShortestDigits", "below", "LDoubleTexts$Natural;", true)
  | _ => ("DoubleTexts$ShortestDigits", "sum", "LDoubleTexts$Natural;", true)
def tyX3 : Nat → FieldType := fun k => match k with
  | 0 => .array .int
  | 1 => .int
  | 2 => .int
  | 3 => .object "DoubleTexts$Natural"
  | 4 => .object "DoubleTexts$Natural"
  | 5 => .object "DoubleTexts$Natural"
  | 6 => .object "DoubleTexts$Natural"
  | _ => .object "DoubleTexts$Natural"
theorem nmX3 : ∀ a, a < 8 → ∀ b, b < 8 → a ≠ b → (TX3 a).2.1 ≠ (TX3 b).2.1 := by decide +kernel
theorem tyX3_ok : ∀ k, k < 8 → parseFieldDescriptor (TX3 k).2.2.1 = some (tyX3 k) := by decide +kernel
abbrev cX3_init : ByteArray := prog_5_method_1_code
def yX3_init : MethodName := ⟨RX3, "<init>", "()V"⟩
abbrev cX3_count : ByteArray := prog_5_method_2_code
def yX3_count : MethodName := ⟨RX3, "count", "()I"⟩
abbrev cX3_point : ByteArray := prog_5_method_3_code
def yX3_point : MethodName := ⟨RX3, "point", "()I"⟩
abbrev cX3_digitAt : ByteArray := prog_5_method_4_code
def yX3_digitAt : MethodName := ⟨RX3, "digitAt", "(I)I"⟩
abbrev cX3_find : ByteArray := prog_5_method_5_code
def yX3_find : MethodName := ⟨RX3, "find", "(JI)V"⟩
abbrev cX3_append : ByteArray := prog_5_method_6_code
def yX3_append : MethodName := ⟨RX3, "append", "(I)V"⟩
abbrev cX3_setUp : ByteArray := prog_5_method_7_code
def yX3_setUp : MethodName := ⟨RX3, "setUp", "(JIZ)V"⟩
abbrev cX3_scaleByFives : ByteArray := prog_5_method_8_code
def yX3_scaleByFives : MethodName := ⟨RX3, "scaleByFives", "()V"⟩
abbrev cX3_reachesWhole : ByteArray := prog_5_method_9_code
def yX3_reachesWhole : MethodName := ⟨RX3, "reachesWhole", "(Z)Z"⟩
abbrev cX3_takeDigit : ByteArray := prog_5_method_10_code
def yX3_takeDigit : MethodName := ⟨RX3, "takeDigit", "(Z)Z"⟩
abbrev cX3_isNearerUp : ByteArray := prog_5_method_11_code
def yX3_isNearerUp : MethodName := ⟨RX3, "isNearerUp", "(I)Z"⟩
def RX4 : String := "DoubleTexts"
def TX4 : u_T := fun k => match k with
  | 0 => ("DoubleTexts", "numeral", "LDoubleTexts$Numeral;", true)
  | 1 => ("DoubleTexts", "text", "LDoubleTexts$Line;", true)
  | 2 => ("DoubleTexts", "output", "LDoubleTexts$Line;", true)
  | 3 => ("DoubleTexts", "numberKind", "I", false)
  | 4 => ("DoubleTexts", "minus", "Z", false)
  | 5 => ("DoubleTexts", "doubleUnits", "J", false)
  | 6 => ("DoubleTexts", "doublePlace", "I", false)
  | 7 => ("DoubleTexts", "numerator", "LDoubleTexts$Natural;", true)
  | 8 => ("DoubleTexts", "denominator", "LDoubleTexts$Natural;", true)
  | 9 => ("DoubleTexts", "spare", "LDoubleTexts$Natural;", true)
  | 10 => ("DoubleTexts", "otherSpare", "LDoubleTexts$Natural;", true)
  | _ => ("DoubleTexts", "shortest", "LDoubleTexts$ShortestDigits;", true)
def tyX4 : Nat → FieldType := fun k => match k with
  | 0 => .object "DoubleTexts$Numeral"
  | 1 => .object "DoubleTexts$Line"
  | 2 => .object "DoubleTexts$Line"
  | 3 => .int
  | 4 => .boolean
  | 5 => .long
  | 6 => .int
  | 7 => .object "DoubleTexts$Natural"
  | 8 => .object "DoubleTexts$Natural"
  | 9 => .object "DoubleTexts$Natural"
  | 10 => .object "DoubleTexts$Natural"
  | _ => .object "DoubleTexts$ShortestDigits"
theorem nmX4 : ∀ a, a < 12 → ∀ b, b < 12 → a ≠ b → (TX4 a).2.1 ≠ (TX4 b).2.1 := by decide +kernel
theorem tyX4_ok : ∀ k, k < 12 → parseFieldDescriptor (TX4 k).2.2.1 = some (tyX4 k) := by decide +kernel
abbrev cX4_init : ByteArray := prog_1_method_1_code
def yX4_init : MethodName := ⟨RX4, "<init>", "()V"⟩
abbrev cX4_type : ByteArray := prog_1_method_2_code
def yX4_type : MethodName := ⟨RX4, "type", "(I)I"⟩
abbrev cX4_clear : ByteArray := prog_1_method_3_code
def yX4_clear : MethodName := ⟨RX4, "clear", "()V"⟩
abbrev cX4_read : ByteArray := prog_1_method_4_code
def yX4_read : MethodName := ⟨RX4, "read", "()I"⟩
abbrev cX4_make : ByteArray := prog_1_method_5_code
def yX4_make : MethodName := ⟨RX4, "make", "(ZJI)Z"⟩
abbrev cX4_divide : ByteArray := prog_1_method_6_code
def yX4_divide : MethodName := ⟨RX4, "divide", "(JJ)Z"⟩
abbrev cX4_exact : ByteArray := prog_1_method_7_code
def yX4_exact : MethodName := ⟨RX4, "exact", "()Z"⟩
abbrev cX4_inexact : ByteArray := prog_1_method_8_code
def yX4_inexact : MethodName := ⟨RX4, "inexact", "()Z"⟩
abbrev cX4_kind : ByteArray := prog_1_method_9_code
def yX4_kind : MethodName := ⟨RX4, "kind", "()I"⟩
abbrev cX4_negative : ByteArray := prog_1_method_10_code
def yX4_negative : MethodName := ⟨RX4, "negative", "()Z"⟩
abbrev cX4_units : ByteArray := prog_1_method_11_code
def yX4_units : MethodName := ⟨RX4, "units", "()J"⟩
abbrev cX4_place : ByteArray := prog_1_method_12_code
def yX4_place : MethodName := ⟨RX4, "place", "()I"⟩
abbrev cX4_bits : ByteArray := prog_1_method_13_code
def yX4_bits : MethodName := ⟨RX4, "bits", "(Z)I"⟩
abbrev cX4_write : ByteArray := prog_1_method_14_code
def yX4_write : MethodName := ⟨RX4, "write", "(I)I"⟩
abbrev cX4_out : ByteArray := prog_1_method_15_code
def yX4_out : MethodName := ⟨RX4, "out", "(I)I"⟩
abbrev cX4_back : ByteArray := prog_1_method_16_code
def yX4_back : MethodName := ⟨RX4, "back", "()Z"⟩
abbrev cX4_becomeNone : ByteArray := prog_1_method_17_code
def yX4_becomeNone : MethodName := ⟨RX4, "becomeNone", "()V"⟩
abbrev cX4_becomeInfinite : ByteArray := prog_1_method_18_code
def yX4_becomeInfinite : MethodName := ⟨RX4, "becomeInfinite", "(Z)V"⟩
abbrev cX4_becomeNotANumber : ByteArray := prog_1_method_19_code
def yX4_becomeNotANumber : MethodName := ⟨RX4, "becomeNotANumber", "()V"⟩
abbrev cX4_becomeFinite : ByteArray := prog_1_method_20_code
def yX4_becomeFinite : MethodName := ⟨RX4, "becomeFinite", "(ZJI)V"⟩
abbrev cX4_becomeZero : ByteArray := prog_1_method_21_code
def yX4_becomeZero : MethodName := ⟨RX4, "becomeZero", "(Z)V"⟩
abbrev cX4_becomeExactNumber : ByteArray := prog_1_method_22_code
def yX4_becomeExactNumber : MethodName := ⟨RX4, "becomeExactNumber", "(Z)V"⟩
abbrev cX4_becomeNearest : ByteArray := prog_1_method_23_code
def yX4_becomeNearest : MethodName := ⟨RX4, "becomeNearest", "(ZI)V"⟩
abbrev cX4_alignTops : ByteArray := prog_1_method_24_code
def yX4_alignTops : MethodName := ⟨RX4, "alignTops", "()V"⟩
abbrev cX4_takeQuotient : ByteArray := prog_1_method_25_code
def yX4_takeQuotient : MethodName := ⟨RX4, "takeQuotient", "(I)J"⟩
abbrev cX4_becomeRounded : ByteArray := prog_1_method_26_code
def yX4_becomeRounded : MethodName := ⟨RX4, "becomeRounded", "(ZJI)V"⟩
abbrev cX4_becomeNearestDecimal : ByteArray := prog_1_method_27_code
def yX4_becomeNearestDecimal : MethodName := ⟨RX4, "becomeNearestDecimal", "(ZII)V"⟩
abbrev cX4_becomeExactDecimal : ByteArray := prog_1_method_28_code
def yX4_becomeExactDecimal : MethodName := ⟨RX4, "becomeExactDecimal", "(ZI)V"⟩
abbrev cX4_multiplyByTens : ByteArray := prog_1_method_29_code
def yX4_multiplyByTens : MethodName := ⟨RX4, "multiplyByTens", "(I)Z"⟩
abbrev cX4_divideByTens : ByteArray := prog_1_method_30_code
def yX4_divideByTens : MethodName := ⟨RX4, "divideByTens", "(I)Z"⟩
abbrev cX4_bringToLowestTerms : ByteArray := prog_1_method_31_code
def yX4_bringToLowestTerms : MethodName := ⟨RX4, "bringToLowestTerms", "()V"⟩
abbrev cX4_greatestOddDivisor : ByteArray := prog_1_method_32_code
def yX4_greatestOddDivisor : MethodName := ⟨RX4, "greatestOddDivisor", "()LDoubleTexts$Natural;"⟩
abbrev cX4_appendExactNumber : ByteArray := prog_1_method_33_code
def yX4_appendExactNumber : MethodName := ⟨RX4, "appendExactNumber", "(I)V"⟩
abbrev cX4_appendNatural : ByteArray := prog_1_method_34_code
def yX4_appendNatural : MethodName := ⟨RX4, "appendNatural", "(LDoubleTexts$Natural;I)V"⟩
abbrev cX4_appendFinite : ByteArray := prog_1_method_35_code
def yX4_appendFinite : MethodName := ⟨RX4, "appendFinite", "()V"⟩
abbrev cX4_appendWithExponent : ByteArray := prog_1_method_36_code
def yX4_appendWithExponent : MethodName := ⟨RX4, "appendWithExponent", "(I)V"⟩
abbrev cX4_appendShortest : ByteArray := prog_1_method_37_code
def yX4_appendShortest : MethodName := ⟨RX4, "appendShortest", "(II)V"⟩
def RX5 : String := "DoubleTextsModel$Num"
def TX5 : u_T := fun k => match k with
  | _ => ("", "", "", false)
def tyX5 : Nat → FieldType := fun k => match k with
  | _ => .int
theorem nmX5 : ∀ a, a < 0 → ∀ b, b < 0 → a ≠ b → (TX5 a).2.1 ≠ (TX5 b).2.1 := by decide +kernel
theorem tyX5_ok : ∀ k, k < 0 → parseFieldDescriptor (TX5 k).2.2.1 = some (tyX5 k) := by decide +kernel
abbrev cX5_init : ByteArray := prog_8_method_1_code
def yX5_init : MethodName := ⟨RX5, "<init>", "()V"⟩
def RX6 : String := "DoubleTextsModel$Ratio"
def TX6 : u_T := fun k => match k with
  | 0 => ("DoubleTextsModel$Ratio", "above", "LDoubleTextsModel$Whole;", true)
  | _ => ("DoubleTextsModel$Ratio", "below", "LDoubleTextsModel$Whole;", true)
def tyX6 : Nat → FieldType := fun k => match k with
  | 0 => .object "DoubleTextsModel$Whole"
  | _ => .object "DoubleTextsModel$Whole"
theorem nmX6 : ∀ a, a < 2 → ∀ b, b < 2 → a ≠ b → (TX6 a).2.1 ≠ (TX6 b).2.1 := by decide +kernel
theorem tyX6_ok : ∀ k, k < 2 → parseFieldDescriptor (TX6 k).2.2.1 = some (tyX6 k) := by decide +kernel
abbrev cX6_init : ByteArray := prog_9_method_1_code
def yX6_init : MethodName := ⟨RX6, "<init>", "(LDoubleTextsModel$Whole;LDoubleTextsModel$Whole;)V"⟩
def RX7 : String := "DoubleTextsModel$Real"
def TX7 : u_T := fun k => match k with
  | 0 => ("DoubleTextsModel$Real", "x", "D", true)
  | _ => ("DoubleTextsModel$Real", "none", "Z", true)
def tyX7 : Nat → FieldType := fun k => match k with
  | 0 => .double
  | _ => .boolean
theorem nmX7 : ∀ a, a < 2 → ∀ b, b < 2 → a ≠ b → (TX7 a).2.1 ≠ (TX7 b).2.1 := by decide +kernel
theorem tyX7_ok : ∀ k, k < 2 → parseFieldDescriptor (TX7 k).2.2.1 = some (tyX7 k) := by decide +kernel
abbrev cX7_init : ByteArray := prog_10_method_1_code
def yX7_init : MethodName := ⟨RX7, "<init>", "(DZ)V"⟩
abbrev cX7_of : ByteArray := prog_10_method_2_code
def yX7_of : MethodName := ⟨RX7, "of", "(D)LDoubleTextsModel$Real;"⟩
def RX8 : String := "DoubleTextsModel$Whole"
def TX8 : u_T := fun k => match k with
  | 0 => ("DoubleTextsModel$Whole", "sign", "I", true)
  | _ => ("DoubleTextsModel$Whole", "digits", "[I", true)
def tyX8 : Nat → FieldType := fun k => match k with
  | 0 => .int
  | _ => .array .int
theorem nmX8 : ∀ a, a < 2 → ∀ b, b < 2 → a ≠ b → (TX8 a).2.1 ≠ (TX8 b).2.1 := by decide +kernel
theorem tyX8_ok : ∀ k, k < 2 → parseFieldDescriptor (TX8 k).2.2.1 = some (tyX8 k) := by decide +kernel
abbrev cX8_init : ByteArray := prog_11_method_1_code
def yX8_init : MethodName := ⟨RX8, "<init>", "(I[I)V"⟩
abbrev cX8_isZero : ByteArray := prog_11_method_2_code
def yX8_isZero : MethodName := ⟨RX8, "isZero", "()Z"⟩
abbrev cX8_isOne : ByteArray := prog_11_method_3_code
def yX8_isOne : MethodName := ⟨RX8, "isOne", "()Z"⟩
abbrev cX8_negative : ByteArray := prog_11_method_4_code
def yX8_negative : MethodName := ⟨RX8, "negative", "()LDoubleTextsModel$Whole;"⟩
abbrev cX8_asLong : ByteArray := prog_11_method_6_code
def yX8_asLong : MethodName := ⟨RX8, "asLong", "()J"⟩
def RX9 : String := "DoubleTextsModel"
def TX9 : u_T := fun k => match k with
  | 0 => ("DoubleTextsModel", "one", "[I", true)
  | 1 => ("DoubleTextsModel", "cut", "[I", true)
  | 2 => ("DoubleTextsModel", "tens", "[I", true)
  | 3 => ("DoubleTextsModel", "gcdLeft", "[I", true)
  | 4 => ("DoubleTextsModel", "gcdRight", "[I", true)
  | 5 => ("DoubleTextsModel", "partAbove", "[I", true)
  | 6 => ("DoubleTextsModel", "partBelow", "[I", true)
  | 7 => ("DoubleTextsModel", "parsed", "[I", true)
  | 8 => ("DoubleTextsModel", "upper", "[I", true)
  | 9 => ("DoubleTextsModel", "lower", "[I", true)
  | 10 => ("DoubleTextsModel", "quotients", "[I", true)
  | 11 => ("DoubleTextsModel", "nearAbove", "[I", true)
  | 12 => ("DoubleTextsModel", "nearBelow", "[I", true)
  | 13 => ("DoubleTextsModel", "way", "[I", true)
  | 14 => ("DoubleTextsModel", "unit", "[I", true)
  | 15 => ("DoubleTextsModel", "low", "[I", true)
  | 16 => ("DoubleTextsModel", "high", "[I", true)
  | 17 => ("DoubleTextsModel", "ten", "[I", true)
  | 18 => ("DoubleTextsModel", "found", "[I", true)
  | 19 => ("DoubleTextsModel", "foundCount", "I", false)
  | 20 => ("DoubleTextsModel", "written", "[I", true)
  | 21 => ("DoubleTextsModel", "writtenLength", "I", false)
  | 22 => ("DoubleTextsModel", "common", "[I", false)
  | 23 => ("DoubleTextsModel", "text", "[I", true)
  | 24 => ("DoubleTextsModel", "length", "I", false)
  | _ => ("DoubleTextsModel", "number", "LDoubleTextsModel$Num;", false)
def tyX9 : Nat → FieldType := fun k => match k with
  | 0 => .array .int
  | 1 => .array .int
  | 2 => .array .int
  | 3 => .array .int
  | 4 => .array .int
  | 5 => .array .int
  | 6 => .array .int
  | 7 => .array .int
  | 8 => .array .int
  | 9 => .array .int
  | 10 => .array .int
  | 11 => .array .int
  | 12 => .array .int
  | 13 => .array .int
  | 14 => .array .int
  | 15 => .array .int
  | 16 => .array .int
  | 17 => .array .int
  | 18 => .array .int
  | 19 => .int
  | 20 => .array .int
  | 21 => .int
  | 22 => .array .int
  | 23 => .array .int
  | 24 => .int
  | _ => .object "DoubleTextsModel$Num"
theorem nmX9 : ∀ a, a < 26 → ∀ b, b < 26 → a ≠ b → (TX9 a).2.1 ≠ (TX9 b).2.1 := by decide +kernel
theorem tyX9_ok : ∀ k, k < 26 → parseFieldDescriptor (TX9 k).2.2.1 = some (tyX9 k) := by decide +kernel
abbrev cX9_zero : ByteArray := prog_7_method_1_code
def yX9_zero : MethodName := ⟨RX9, "zero", "()LDoubleTextsModel$Whole;"⟩
abbrev cX9_whole : ByteArray := prog_7_method_2_code
def yX9_whole : MethodName := ⟨RX9, "whole", "(J)LDoubleTextsModel$Whole;"⟩
abbrev cX9_used : ByteArray := prog_7_method_3_code
def yX9_used : MethodName := ⟨RX9, "used", "([II)I"⟩
abbrev cX9_wholeOf : ByteArray := prog_7_method_4_code
def yX9_wholeOf : MethodName := ⟨RX9, "wholeOf", "(I[II)LDoubleTextsModel$Whole;"⟩
abbrev cX9_compareRows : ByteArray := prog_7_method_5_code
def yX9_compareRows : MethodName := ⟨RX9, "compareRows", "([II[II)I"⟩
abbrev cX9_decimals : ByteArray := prog_7_method_6_code
def yX9_decimals : MethodName := ⟨RX9, "decimals", "([II)I"⟩
abbrev cX9_scale : ByteArray := prog_7_method_7_code
def yX9_scale : MethodName := ⟨RX9, "scale", "([IIII)I"⟩
abbrev cX9_doubled : ByteArray := prog_7_method_8_code
def yX9_doubled : MethodName := ⟨RX9, "doubled", "([III)I"⟩
abbrev cX9_tenfold : ByteArray := prog_7_method_9_code
def yX9_tenfold : MethodName := ⟨RX9, "tenfold", "([III)I"⟩
abbrev cX9_cutBy : ByteArray := prog_7_method_10_code
def yX9_cutBy : MethodName := ⟨RX9, "cutBy", "([III)I"⟩
abbrev cX9_takeAway : ByteArray := prog_7_method_11_code
def yX9_takeAway : MethodName := ⟨RX9, "takeAway", "([II[III)Z"⟩
abbrev cX9_putBack : ByteArray := prog_7_method_12_code
def yX9_putBack : MethodName := ⟨RX9, "putBack", "([II[II)V"⟩
abbrev cX9_divideRows : ByteArray := prog_7_method_13_code
def yX9_divideRows : MethodName := ⟨RX9, "divideRows", "([II[II[I)I"⟩
abbrev cX9_isAtLeast : ByteArray := prog_7_method_14_code
def yX9_isAtLeast : MethodName := ⟨RX9, "isAtLeast", "([II[II)Z"⟩
abbrev cX9_copyRow : ByteArray := prog_7_method_15_code
def yX9_copyRow : MethodName := ⟨RX9, "copyRow", "([I[II)V"⟩
abbrev cX9_gcd : ByteArray := prog_7_method_16_code
def yX9_gcd : MethodName := ⟨RX9, "gcd", "([II[II)I"⟩
abbrev cX9_reduced : ByteArray := prog_7_method_17_code
def yX9_reduced : MethodName := ⟨RX9, "reduced", "([III[I)I"⟩
abbrev cX9_bitsOf : ByteArray := prog_7_method_18_code
def yX9_bitsOf : MethodName := ⟨RX9, "bitsOf", "([II)I"⟩
abbrev cX9_say : ByteArray := prog_7_method_19_code
def yX9_say : MethodName := ⟨RX9, "say", "(I)V"⟩
abbrev cX9_sayWord : ByteArray := prog_7_method_20_code
def yX9_sayWord : MethodName := ⟨RX9, "sayWord", "(Ljava/lang/String;)V"⟩
abbrev cX9_saySmall : ByteArray := prog_7_method_21_code
def yX9_saySmall : MethodName := ⟨RX9, "saySmall", "(I)V"⟩
abbrev cX9_sayWhole : ByteArray := prog_7_method_22_code
def yX9_sayWhole : MethodName := ⟨RX9, "sayWhole", "(LDoubleTextsModel$Whole;I)V"⟩
abbrev cX9_nearest : ByteArray := prog_7_method_23_code
def yX9_nearest : MethodName := ⟨RX9, "nearest", "([II[II)D"⟩
abbrev cX9_scaled : ByteArray := prog_7_method_24_code
def yX9_scaled : MethodName := ⟨RX9, "scaled", "(JI)D"⟩
abbrev cX9_significand : ByteArray := prog_7_method_25_code
def yX9_significand : MethodName := ⟨RX9, "significand", "(D)J"⟩
abbrev cX9_exponent : ByteArray := prog_7_method_26_code
def yX9_exponent : MethodName := ⟨RX9, "exponent", "(D)I"⟩
abbrev cX9_isExact : ByteArray := prog_7_method_27_code
def yX9_isExact : MethodName := ⟨RX9, "isExact", "(Ljava/lang/Object;)Z"⟩
abbrev cX9_above : ByteArray := prog_7_method_28_code
def yX9_above : MethodName := ⟨RX9, "above", "(LDoubleTextsModel$Num;)LDoubleTextsModel$Whole;"⟩
abbrev cX9_below : ByteArray := prog_7_method_29_code
def yX9_below : MethodName := ⟨RX9, "below", "(LDoubleTextsModel$Num;)LDoubleTextsModel$Whole;"⟩
abbrev cX9_kept : ByteArray := prog_7_method_30_code
def yX9_kept : MethodName := ⟨RX9, "kept", "([II)LDoubleTextsModel$Num;"⟩
abbrev cX9_fraction : ByteArray := prog_7_method_31_code
def yX9_fraction : MethodName := ⟨RX9, "fraction", "([II[II)LDoubleTextsModel$Num;"⟩
abbrev cX9_isFinite : ByteArray := prog_7_method_32_code
def yX9_isFinite : MethodName := ⟨RX9, "isFinite", "(D)Z"⟩
abbrev cX9_real : ByteArray := prog_7_method_33_code
def yX9_real : MethodName := ⟨RX9, "real", "(LDoubleTextsModel$Num;)D"⟩
abbrev cX9_ratio : ByteArray := prog_7_method_34_code
def yX9_ratio : MethodName := ⟨RX9, "ratio", "(LDoubleTextsModel$Whole;LDoubleTextsModel$Whole;)D"⟩
abbrev cX9_exactOf : ByteArray := prog_7_method_35_code
def yX9_exactOf : MethodName := ⟨RX9, "exactOf", "(D)LDoubleTextsModel$Num;"⟩
abbrev cX9_negated : ByteArray := prog_7_method_36_code
def yX9_negated : MethodName := ⟨RX9, "negated", "(LDoubleTextsModel$Num;)LDoubleTextsModel$Num;"⟩
abbrev cX9_isNegativeZero : ByteArray := prog_7_method_37_code
def yX9_isNegativeZero : MethodName := ⟨RX9, "isNegativeZero", "(D)Z"⟩
abbrev cX9_sayReal : ByteArray := prog_7_method_38_code
def yX9_sayReal : MethodName := ⟨RX9, "sayReal", "(D)V"⟩
abbrev cX9_shortest : ByteArray := prog_7_method_39_code
def yX9_shortest : MethodName := ⟨RX9, "shortest", "(D)V"⟩
abbrev cX9_lessen : ByteArray := prog_7_method_40_code
def yX9_lessen : MethodName := ⟨RX9, "lessen", "([II[II)V"⟩
abbrev cX9_put : ByteArray := prog_7_method_41_code
def yX9_put : MethodName := ⟨RX9, "put", "(I)I"⟩
abbrev cX9_sayFound : ByteArray := prog_7_method_42_code
def yX9_sayFound : MethodName := ⟨RX9, "sayFound", "(II)V"⟩
abbrev cX9_placed : ByteArray := prog_7_method_43_code
def yX9_placed : MethodName := ⟨RX9, "placed", "(I)V"⟩
abbrev cX9_digitOf : ByteArray := prog_7_method_44_code
def yX9_digitOf : MethodName := ⟨RX9, "digitOf", "(II)I"⟩
abbrev cX9_areDigits : ByteArray := prog_7_method_45_code
def yX9_areDigits : MethodName := ⟨RX9, "areDigits", "([IIII)Z"⟩
abbrev cX9_digits : ByteArray := prog_7_method_46_code
def yX9_digits : MethodName := ⟨RX9, "digits", "([IIII)LDoubleTextsModel$Whole;"⟩
abbrev cX9_number : ByteArray := prog_7_method_47_code
def yX9_number : MethodName := ⟨RX9, "number", "([IIII)LDoubleTextsModel$Num;"⟩
abbrev cX9_unsigned : ByteArray := prog_7_method_48_code
def yX9_unsigned : MethodName := ⟨RX9, "unsigned", "([IIIIIZ)LDoubleTextsModel$Num;"⟩
abbrev cX9_decimal : ByteArray := prog_7_method_49_code
def yX9_decimal : MethodName := ⟨RX9, "decimal", "([IIIIZ)LDoubleTextsModel$Num;"⟩
abbrev cX9_init : ByteArray := prog_7_method_50_code
def yX9_init : MethodName := ⟨RX9, "<init>", "()V"⟩
abbrev cX9_type : ByteArray := prog_7_method_51_code
def yX9_type : MethodName := ⟨RX9, "type", "(I)I"⟩
abbrev cX9_clear : ByteArray := prog_7_method_52_code
def yX9_clear : MethodName := ⟨RX9, "clear", "()V"⟩
abbrev cX9_read : ByteArray := prog_7_method_53_code
def yX9_read : MethodName := ⟨RX9, "read", "()I"⟩
abbrev cX9_near : ByteArray := prog_7_method_54_code
def yX9_near : MethodName := ⟨RX9, "near", "(LDoubleTextsModel$Whole;ILDoubleTextsModel$Whole;)D"⟩
abbrev cX9_make : ByteArray := prog_7_method_55_code
def yX9_make : MethodName := ⟨RX9, "make", "(ZJI)Z"⟩
abbrev cX9_divide : ByteArray := prog_7_method_56_code
def yX9_divide : MethodName := ⟨RX9, "divide", "(JJ)Z"⟩
abbrev cX9_isDouble : ByteArray := prog_7_method_57_code
def yX9_isDouble : MethodName := ⟨RX9, "isDouble", "()Z"⟩
abbrev cX9_value : ByteArray := prog_7_method_58_code
def yX9_value : MethodName := ⟨RX9, "value", "()D"⟩
abbrev cX9_exact : ByteArray := prog_7_method_59_code
def yX9_exact : MethodName := ⟨RX9, "exact", "()Z"⟩
abbrev cX9_inexact : ByteArray := prog_7_method_60_code
def yX9_inexact : MethodName := ⟨RX9, "inexact", "()Z"⟩
abbrev cX9_kind : ByteArray := prog_7_method_61_code
def yX9_kind : MethodName := ⟨RX9, "kind", "()I"⟩
abbrev cX9_negative : ByteArray := prog_7_method_62_code
def yX9_negative : MethodName := ⟨RX9, "negative", "()Z"⟩
abbrev cX9_doublings : ByteArray := prog_7_method_63_code
def yX9_doublings : MethodName := ⟨RX9, "doublings", "()I"⟩
abbrev cX9_units : ByteArray := prog_7_method_64_code
def yX9_units : MethodName := ⟨RX9, "units", "()J"⟩
abbrev cX9_place : ByteArray := prog_7_method_65_code
def yX9_place : MethodName := ⟨RX9, "place", "()I"⟩
abbrev cX9_bits : ByteArray := prog_7_method_66_code
def yX9_bits : MethodName := ⟨RX9, "bits", "(Z)I"⟩
abbrev cX9_write : ByteArray := prog_7_method_67_code
def yX9_write : MethodName := ⟨RX9, "write", "(I)I"⟩
abbrev cX9_out : ByteArray := prog_7_method_68_code
def yX9_out : MethodName := ⟨RX9, "out", "(I)I"⟩
abbrev cX9_back : ByteArray := prog_7_method_69_code
def yX9_back : MethodName := ⟨RX9, "back", "()Z"⟩
def RJ6 : String := "java/lang/Integer"
abbrev cJ6_compare_7cf53 : ByteArray := prog_14_method_40_code
def yJ6_compare_7cf53 : MethodName := ⟨RJ6, "compare", "(II)I"⟩
abbrev cJ6_compareUnsigned_7cf53 : ByteArray := prog_14_method_41_code
def yJ6_compareUnsigned_7cf53 : MethodName := ⟨RJ6, "compareUnsigned", "(II)I"⟩
abbrev cJ6_numberOfLeadingZeros_0f7a4 : ByteArray := prog_14_method_47_code
def yJ6_numberOfLeadingZeros_0f7a4 : MethodName := ⟨RJ6, "numberOfLeadingZeros", "(I)I"⟩
abbrev cJ6_numberOfTrailingZeros_0f7a4 : ByteArray := prog_14_method_48_code
def yJ6_numberOfTrailingZeros_0f7a4 : MethodName := ⟨RJ6, "numberOfTrailingZeros", "(I)I"⟩
def RJ13 : String := "java/lang/Long"
abbrev cJ13_numberOfLeadingZeros_95d88 : ByteArray := prog_15_method_48_code
def yJ13_numberOfLeadingZeros_95d88 : MethodName := ⟨RJ13, "numberOfLeadingZeros", "(J)I"⟩
abbrev cJ13_numberOfTrailingZeros_95d88 : ByteArray := prog_15_method_49_code
def yJ13_numberOfTrailingZeros_95d88 : MethodName := ⟨RJ13, "numberOfTrailingZeros", "(J)I"⟩
def RJ9 : String := "java/lang/Math"
abbrev cJ9_floorDiv_7cf53 : ByteArray := prog_16_method_47_code
def yJ9_floorDiv_7cf53 : MethodName := ⟨RJ9, "floorDiv", "(II)I"⟩
abbrev cJ9_abs_0f7a4 : ByteArray := prog_16_method_59_code
def yJ9_abs_0f7a4 : MethodName := ⟨RJ9, "abs", "(I)I"⟩
abbrev cJ9_max_7cf53 : ByteArray := prog_16_method_65_code
def yJ9_max_7cf53 : MethodName := ⟨RJ9, "max", "(II)I"⟩
abbrev cJ9_min_7cf53 : ByteArray := prog_16_method_69_code
def yJ9_min_7cf53 : MethodName := ⟨RJ9, "min", "(II)I"⟩
abbrev cJ9_min_eb370 : ByteArray := prog_16_method_72_code
def yJ9_min_eb370 : MethodName := ⟨RJ9, "min", "(DD)D"⟩
def RJ0 : String := "java/lang/String"
abbrev cJ0_length_8abf5 : ByteArray := prog_18_method_54_code
def yJ0_length_8abf5 : MethodName := ⟨RJ0, "length", "()I"⟩
abbrev cJ0_charAt_5068e : ByteArray := prog_18_method_56_code
def yJ0_charAt_5068e : MethodName := ⟨RJ0, "charAt", "(I)C"⟩
abbrev cJ0_coder_7d493 : ByteArray := prog_18_method_152_code
def yJ0_coder_7d493 : MethodName := ⟨RJ0, "coder", "()B"⟩
abbrev cJ0_isLatin1_aae02 : ByteArray := prog_18_method_154_code
def yJ0_isLatin1_aae02 : MethodName := ⟨RJ0, "isLatin1", "()Z"⟩
abbrev cJ0_checkIndex_df160 : ByteArray := prog_18_method_155_code
def yJ0_checkIndex_df160 : MethodName := ⟨RJ0, "checkIndex", "(II)V"⟩
def RJ1 : String := "java/lang/StringLatin1"
abbrev cJ1_charAt_3b067 : ByteArray := prog_19_method_2_code
def yJ1_charAt_3b067 : MethodName := ⟨RJ1, "charAt", "([BI)C"⟩
def RJ2 : String := "java/lang/StringUTF16"
abbrev cJ2_getChar_3b067 : ByteArray := prog_20_method_5_code
def yJ2_getChar_3b067 : MethodName := ⟨RJ2, "getChar", "([BI)C"⟩
abbrev cJ2_length_9d52b : ByteArray := prog_20_method_6_code
def yJ2_length_9d52b : MethodName := ⟨RJ2, "length", "([B)I"⟩
abbrev cJ2_charAt_3b067 : ByteArray := prog_20_method_83_code
def yJ2_charAt_3b067 : MethodName := ⟨RJ2, "charAt", "([BI)C"⟩
abbrev cJ2_checkIndex_2214a : ByteArray := prog_20_method_91_code
def yJ2_checkIndex_2214a : MethodName := ⟨RJ2, "checkIndex", "(I[B)V"⟩
def RJ10 : String := "java/lang/System"
def RJ7 : String := "java/util/Arrays"
abbrev cJ7_copyOf_59c91 : ByteArray := prog_22_method_123_code
def yJ7_copyOf_59c91 : MethodName := ⟨RJ7, "copyOf", "([II)[I"⟩
def RJ3 : String := "jdk/internal/util/Preconditions"
abbrev cJ3_checkIndex_8e157 : ByteArray := prog_23_method_11_code
def yJ3_checkIndex_8e157 : MethodName := ⟨RJ3, "checkIndex", "(IILjava/util/function/BiFunction;)I"⟩
def RL : String := "DoubleTextsLaw"
abbrev cL_law : ByteArray := code
def yL_law : MethodName := ⟨RL, "law", "([I)Z"⟩
abbrev vwCl : List vw_C := [(RX0, TX0, 2), (RX1, TX1, 2), (RX2, TX2, 8), (RX3, TX3, 8), (RX4, TX4, 12), (RX6, TX6, 2), (RX7, TX7, 2), (RX8, TX8, 2), (RX9, TX9, 26)]
