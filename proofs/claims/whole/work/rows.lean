section
-- ===== PART A: goes FIRST, ahead of the names: the tables' words, and 'selects' of the private methods out of them =====
/-- a private method of a class that the tables say can be made, by its rows of tables_1 -/
def lw_okq (q : MethodName × Nat) : Prop := (q.1.cls ≠ "java/lang/invoke/MethodHandle" ∧ q.1.cls ≠ "java/lang/invoke/VarHandle") ∧ Cond.instantiable q.1.cls q.2 ∈ tables_1 ∧ Cond.privateMethod q.1 ∈ tables_1 ∧ Cond.instanceMethod q.1 ∈ tables_1
theorem lw_p0 : lw_okq (⟨"DoubleTexts", "becomeNone", "()V"⟩, 12) := ⟨⟨by decide +kernel, by decide +kernel⟩, List.mem_of_getElem? (i := 23) (by decide +kernel), List.mem_of_getElem? (i := 190) (by decide +kernel), List.mem_of_getElem? (i := 191) (by decide +kernel)⟩
theorem lw_p1 : lw_okq (⟨"DoubleTexts$Natural", "trim", "()V"⟩, 2) := ⟨⟨by decide +kernel, by decide +kernel⟩, List.mem_of_getElem? (i := 82) (by decide +kernel), List.mem_of_getElem? (i := 202) (by decide +kernel), List.mem_of_getElem? (i := 203) (by decide +kernel)⟩
theorem lw_p2 : lw_okq (⟨"DoubleTexts$Natural", "wordAt", "(I)I"⟩, 2) := ⟨⟨by decide +kernel, by decide +kernel⟩, List.mem_of_getElem? (i := 82) (by decide +kernel), List.mem_of_getElem? (i := 206) (by decide +kernel), List.mem_of_getElem? (i := 207) (by decide +kernel)⟩
theorem lw_p3 : lw_okq (⟨"DoubleTexts$Numeral", "takePrefixes", "()Z"⟩, 8) := ⟨⟨by decide +kernel, by decide +kernel⟩, List.mem_of_getElem? (i := 31) (by decide +kernel), List.mem_of_getElem? (i := 210) (by decide +kernel), List.mem_of_getElem? (i := 211) (by decide +kernel)⟩
theorem lw_p4 : lw_okq (⟨"DoubleTexts$Numeral", "current", "()I"⟩, 8) := ⟨⟨by decide +kernel, by decide +kernel⟩, List.mem_of_getElem? (i := 31) (by decide +kernel), List.mem_of_getElem? (i := 214) (by decide +kernel), List.mem_of_getElem? (i := 215) (by decide +kernel)⟩
theorem lw_p5 : lw_okq (⟨"DoubleTexts$Numeral", "takeSign", "()V"⟩, 8) := ⟨⟨by decide +kernel, by decide +kernel⟩, List.mem_of_getElem? (i := 31) (by decide +kernel), List.mem_of_getElem? (i := 225) (by decide +kernel), List.mem_of_getElem? (i := 226) (by decide +kernel)⟩
theorem lw_p6 : lw_okq (⟨"DoubleTexts$Numeral", "takeWordOrNumber", "(LDoubleTexts$Natural;LDoubleTexts$Natural;)I"⟩, 8) := ⟨⟨by decide +kernel, by decide +kernel⟩, List.mem_of_getElem? (i := 31) (by decide +kernel), List.mem_of_getElem? (i := 229) (by decide +kernel), List.mem_of_getElem? (i := 230) (by decide +kernel)⟩
theorem lw_p7 : lw_okq (⟨"DoubleTexts$Numeral", "takeWord", "(Ljava/lang/String;)Z"⟩, 8) := ⟨⟨by decide +kernel, by decide +kernel⟩, List.mem_of_getElem? (i := 31) (by decide +kernel), List.mem_of_getElem? (i := 234) (by decide +kernel), List.mem_of_getElem? (i := 235) (by decide +kernel)⟩
theorem lw_p8 : lw_okq (⟨"DoubleTexts$Numeral", "takeNumber", "(LDoubleTexts$Natural;LDoubleTexts$Natural;)I"⟩, 8) := ⟨⟨by decide +kernel, by decide +kernel⟩, List.mem_of_getElem? (i := 31) (by decide +kernel), List.mem_of_getElem? (i := 287) (by decide +kernel), List.mem_of_getElem? (i := 288) (by decide +kernel)⟩
theorem lw_p9 : lw_okq (⟨"DoubleTexts$Numeral", "takeDigits", "(LDoubleTexts$Natural;)I"⟩, 8) := ⟨⟨by decide +kernel, by decide +kernel⟩, List.mem_of_getElem? (i := 31) (by decide +kernel), List.mem_of_getElem? (i := 291) (by decide +kernel), List.mem_of_getElem? (i := 292) (by decide +kernel)⟩
theorem lw_p10 : lw_okq (⟨"DoubleTexts$Numeral", "currentDigit", "()I"⟩, 8) := ⟨⟨by decide +kernel, by decide +kernel⟩, List.mem_of_getElem? (i := 31) (by decide +kernel), List.mem_of_getElem? (i := 295) (by decide +kernel), List.mem_of_getElem? (i := 296) (by decide +kernel)⟩
theorem lw_p11 : lw_okq (⟨"DoubleTexts$Natural", "append", "(I)V"⟩, 2) := ⟨⟨by decide +kernel, by decide +kernel⟩, List.mem_of_getElem? (i := 82) (by decide +kernel), List.mem_of_getElem? (i := 304) (by decide +kernel), List.mem_of_getElem? (i := 305) (by decide +kernel)⟩
theorem lw_p12 : lw_okq (⟨"DoubleTexts$Numeral", "takeDecimal", "(LDoubleTexts$Natural;I)I"⟩, 8) := ⟨⟨by decide +kernel, by decide +kernel⟩, List.mem_of_getElem? (i := 31) (by decide +kernel), List.mem_of_getElem? (i := 315) (by decide +kernel), List.mem_of_getElem? (i := 316) (by decide +kernel)⟩
theorem lw_p13 : lw_okq (⟨"DoubleTexts$Numeral", "takeExponent", "()Z"⟩, 8) := ⟨⟨by decide +kernel, by decide +kernel⟩, List.mem_of_getElem? (i := 31) (by decide +kernel), List.mem_of_getElem? (i := 319) (by decide +kernel), List.mem_of_getElem? (i := 320) (by decide +kernel)⟩
theorem lw_p14 : lw_okq (⟨"DoubleTexts", "becomeInfinite", "(Z)V"⟩, 12) := ⟨⟨by decide +kernel, by decide +kernel⟩, List.mem_of_getElem? (i := 23) (by decide +kernel), List.mem_of_getElem? (i := 331) (by decide +kernel), List.mem_of_getElem? (i := 332) (by decide +kernel)⟩
theorem lw_p15 : lw_okq (⟨"DoubleTexts", "becomeNotANumber", "()V"⟩, 12) := ⟨⟨by decide +kernel, by decide +kernel⟩, List.mem_of_getElem? (i := 23) (by decide +kernel), List.mem_of_getElem? (i := 335) (by decide +kernel), List.mem_of_getElem? (i := 336) (by decide +kernel)⟩
def lw_privs_1 : List (MethodName × Nat) := [(⟨"DoubleTexts", "becomeNone", "()V"⟩, 12), (⟨"DoubleTexts$Natural", "trim", "()V"⟩, 2), (⟨"DoubleTexts$Natural", "wordAt", "(I)I"⟩, 2), (⟨"DoubleTexts$Numeral", "takePrefixes", "()Z"⟩, 8), (⟨"DoubleTexts$Numeral", "current", "()I"⟩, 8), (⟨"DoubleTexts$Numeral", "takeSign", "()V"⟩, 8), (⟨"DoubleTexts$Numeral", "takeWordOrNumber", "(LDoubleTexts$Natural;LDoubleTexts$Natural;)I"⟩, 8), (⟨"DoubleTexts$Numeral", "takeWord", "(Ljava/lang/String;)Z"⟩, 8), (⟨"DoubleTexts$Numeral", "takeNumber", "(LDoubleTexts$Natural;LDoubleTexts$Natural;)I"⟩, 8), (⟨"DoubleTexts$Numeral", "takeDigits", "(LDoubleTexts$Natural;)I"⟩, 8), (⟨"DoubleTexts$Numeral", "currentDigit", "()I"⟩, 8), (⟨"DoubleTexts$Natural", "append", "(I)V"⟩, 2), (⟨"DoubleTexts$Numeral", "takeDecimal", "(LDoubleTexts$Natural;I)I"⟩, 8), (⟨"DoubleTexts$Numeral", "takeExponent", "()Z"⟩, 8), (⟨"DoubleTexts", "becomeInfinite", "(Z)V"⟩, 12), (⟨"DoubleTexts", "becomeNotANumber", "()V"⟩, 12)]
theorem lw_r1 : ∀ q ∈ lw_privs_1, lw_okq q := List.forall_mem_cons.mpr ⟨lw_p0, List.forall_mem_cons.mpr ⟨lw_p1, List.forall_mem_cons.mpr ⟨lw_p2, List.forall_mem_cons.mpr ⟨lw_p3, List.forall_mem_cons.mpr ⟨lw_p4, List.forall_mem_cons.mpr ⟨lw_p5, List.forall_mem_cons.mpr ⟨lw_p6, List.forall_mem_cons.mpr ⟨lw_p7, List.forall_mem_cons.mpr ⟨lw_p8, List.forall_mem_cons.mpr ⟨lw_p9, List.forall_mem_cons.mpr ⟨lw_p10, List.forall_mem_cons.mpr ⟨lw_p11, List.forall_mem_cons.mpr ⟨lw_p12, List.forall_mem_cons.mpr ⟨lw_p13, List.forall_mem_cons.mpr ⟨lw_p14, List.forall_mem_cons.mpr ⟨lw_p15, fun _ h => absurd h List.not_mem_nil⟩⟩⟩⟩⟩⟩⟩⟩⟩⟩⟩⟩⟩⟩⟩⟩
theorem lw_p16 : lw_okq (⟨"DoubleTexts", "becomeNearest", "(ZI)V"⟩, 12) := ⟨⟨by decide +kernel, by decide +kernel⟩, List.mem_of_getElem? (i := 23) (by decide +kernel), List.mem_of_getElem? (i := 343) (by decide +kernel), List.mem_of_getElem? (i := 344) (by decide +kernel)⟩
theorem lw_p17 : lw_okq (⟨"DoubleTexts", "becomeZero", "(Z)V"⟩, 12) := ⟨⟨by decide +kernel, by decide +kernel⟩, List.mem_of_getElem? (i := 23) (by decide +kernel), List.mem_of_getElem? (i := 348) (by decide +kernel), List.mem_of_getElem? (i := 349) (by decide +kernel)⟩
theorem lw_p18 : lw_okq (⟨"DoubleTexts", "becomeFinite", "(ZJI)V"⟩, 12) := ⟨⟨by decide +kernel, by decide +kernel⟩, List.mem_of_getElem? (i := 23) (by decide +kernel), List.mem_of_getElem? (i := 352) (by decide +kernel), List.mem_of_getElem? (i := 353) (by decide +kernel)⟩
theorem lw_p19 : lw_okq (⟨"DoubleTexts", "alignTops", "()V"⟩, 12) := ⟨⟨by decide +kernel, by decide +kernel⟩, List.mem_of_getElem? (i := 23) (by decide +kernel), List.mem_of_getElem? (i := 367) (by decide +kernel), List.mem_of_getElem? (i := 368) (by decide +kernel)⟩
theorem lw_p20 : lw_okq (⟨"DoubleTexts", "takeQuotient", "(I)J"⟩, 12) := ⟨⟨by decide +kernel, by decide +kernel⟩, List.mem_of_getElem? (i := 23) (by decide +kernel), List.mem_of_getElem? (i := 376) (by decide +kernel), List.mem_of_getElem? (i := 377) (by decide +kernel)⟩
theorem lw_p21 : lw_okq (⟨"DoubleTexts", "becomeRounded", "(ZJI)V"⟩, 12) := ⟨⟨by decide +kernel, by decide +kernel⟩, List.mem_of_getElem? (i := 23) (by decide +kernel), List.mem_of_getElem? (i := 397) (by decide +kernel), List.mem_of_getElem? (i := 398) (by decide +kernel)⟩
theorem lw_p22 : lw_okq (⟨"DoubleTexts", "bringToLowestTerms", "()V"⟩, 12) := ⟨⟨by decide +kernel, by decide +kernel⟩, List.mem_of_getElem? (i := 23) (by decide +kernel), List.mem_of_getElem? (i := 404) (by decide +kernel), List.mem_of_getElem? (i := 405) (by decide +kernel)⟩
theorem lw_p23 : lw_okq (⟨"DoubleTexts", "greatestOddDivisor", "()LDoubleTexts$Natural;"⟩, 12) := ⟨⟨by decide +kernel, by decide +kernel⟩, List.mem_of_getElem? (i := 23) (by decide +kernel), List.mem_of_getElem? (i := 428) (by decide +kernel), List.mem_of_getElem? (i := 429) (by decide +kernel)⟩
theorem lw_p24 : lw_okq (⟨"DoubleTexts$Natural", "subtractProduct", "(ILDoubleTexts$Natural;I)V"⟩, 2) := ⟨⟨by decide +kernel, by decide +kernel⟩, List.mem_of_getElem? (i := 82) (by decide +kernel), List.mem_of_getElem? (i := 443) (by decide +kernel), List.mem_of_getElem? (i := 444) (by decide +kernel)⟩
theorem lw_p25 : lw_okq (⟨"DoubleTexts", "becomeExactNumber", "(Z)V"⟩, 12) := ⟨⟨by decide +kernel, by decide +kernel⟩, List.mem_of_getElem? (i := 23) (by decide +kernel), List.mem_of_getElem? (i := 447) (by decide +kernel), List.mem_of_getElem? (i := 448) (by decide +kernel)⟩
theorem lw_p26 : lw_okq (⟨"DoubleTexts", "becomeExactDecimal", "(ZI)V"⟩, 12) := ⟨⟨by decide +kernel, by decide +kernel⟩, List.mem_of_getElem? (i := 23) (by decide +kernel), List.mem_of_getElem? (i := 456) (by decide +kernel), List.mem_of_getElem? (i := 457) (by decide +kernel)⟩
theorem lw_p27 : lw_okq (⟨"DoubleTexts", "multiplyByTens", "(I)Z"⟩, 12) := ⟨⟨by decide +kernel, by decide +kernel⟩, List.mem_of_getElem? (i := 23) (by decide +kernel), List.mem_of_getElem? (i := 460) (by decide +kernel), List.mem_of_getElem? (i := 461) (by decide +kernel)⟩
theorem lw_p28 : lw_okq (⟨"DoubleTexts", "divideByTens", "(I)Z"⟩, 12) := ⟨⟨by decide +kernel, by decide +kernel⟩, List.mem_of_getElem? (i := 23) (by decide +kernel), List.mem_of_getElem? (i := 475) (by decide +kernel), List.mem_of_getElem? (i := 476) (by decide +kernel)⟩
theorem lw_p29 : lw_okq (⟨"DoubleTexts$Natural", "takeFactor", "(II)I"⟩, 2) := ⟨⟨by decide +kernel, by decide +kernel⟩, List.mem_of_getElem? (i := 82) (by decide +kernel), List.mem_of_getElem? (i := 483) (by decide +kernel), List.mem_of_getElem? (i := 484) (by decide +kernel)⟩
theorem lw_p30 : lw_okq (⟨"DoubleTexts$Natural", "remainder", "(I)I"⟩, 2) := ⟨⟨by decide +kernel, by decide +kernel⟩, List.mem_of_getElem? (i := 82) (by decide +kernel), List.mem_of_getElem? (i := 487) (by decide +kernel), List.mem_of_getElem? (i := 488) (by decide +kernel)⟩
theorem lw_p31 : lw_okq (⟨"DoubleTexts", "becomeNearestDecimal", "(ZII)V"⟩, 12) := ⟨⟨by decide +kernel, by decide +kernel⟩, List.mem_of_getElem? (i := 23) (by decide +kernel), List.mem_of_getElem? (i := 499) (by decide +kernel), List.mem_of_getElem? (i := 500) (by decide +kernel)⟩
def lw_privs_2 : List (MethodName × Nat) := [(⟨"DoubleTexts", "becomeNearest", "(ZI)V"⟩, 12), (⟨"DoubleTexts", "becomeZero", "(Z)V"⟩, 12), (⟨"DoubleTexts", "becomeFinite", "(ZJI)V"⟩, 12), (⟨"DoubleTexts", "alignTops", "()V"⟩, 12), (⟨"DoubleTexts", "takeQuotient", "(I)J"⟩, 12), (⟨"DoubleTexts", "becomeRounded", "(ZJI)V"⟩, 12), (⟨"DoubleTexts", "bringToLowestTerms", "()V"⟩, 12), (⟨"DoubleTexts", "greatestOddDivisor", "()LDoubleTexts$Natural;"⟩, 12), (⟨"DoubleTexts$Natural", "subtractProduct", "(ILDoubleTexts$Natural;I)V"⟩, 2), (⟨"DoubleTexts", "becomeExactNumber", "(Z)V"⟩, 12), (⟨"DoubleTexts", "becomeExactDecimal", "(ZI)V"⟩, 12), (⟨"DoubleTexts", "multiplyByTens", "(I)Z"⟩, 12), (⟨"DoubleTexts", "divideByTens", "(I)Z"⟩, 12), (⟨"DoubleTexts$Natural", "takeFactor", "(II)I"⟩, 2), (⟨"DoubleTexts$Natural", "remainder", "(I)I"⟩, 2), (⟨"DoubleTexts", "becomeNearestDecimal", "(ZII)V"⟩, 12)]
theorem lw_r2 : ∀ q ∈ lw_privs_2, lw_okq q := List.forall_mem_cons.mpr ⟨lw_p16, List.forall_mem_cons.mpr ⟨lw_p17, List.forall_mem_cons.mpr ⟨lw_p18, List.forall_mem_cons.mpr ⟨lw_p19, List.forall_mem_cons.mpr ⟨lw_p20, List.forall_mem_cons.mpr ⟨lw_p21, List.forall_mem_cons.mpr ⟨lw_p22, List.forall_mem_cons.mpr ⟨lw_p23, List.forall_mem_cons.mpr ⟨lw_p24, List.forall_mem_cons.mpr ⟨lw_p25, List.forall_mem_cons.mpr ⟨lw_p26, List.forall_mem_cons.mpr ⟨lw_p27, List.forall_mem_cons.mpr ⟨lw_p28, List.forall_mem_cons.mpr ⟨lw_p29, List.forall_mem_cons.mpr ⟨lw_p30, List.forall_mem_cons.mpr ⟨lw_p31, fun _ h => absurd h List.not_mem_nil⟩⟩⟩⟩⟩⟩⟩⟩⟩⟩⟩⟩⟩⟩⟩⟩
theorem lw_p32 : lw_okq (⟨"DoubleTexts", "appendExactNumber", "(I)V"⟩, 12) := ⟨⟨by decide +kernel, by decide +kernel⟩, List.mem_of_getElem? (i := 23) (by decide +kernel), List.mem_of_getElem? (i := 548) (by decide +kernel), List.mem_of_getElem? (i := 549) (by decide +kernel)⟩
theorem lw_p33 : lw_okq (⟨"DoubleTexts", "appendNatural", "(LDoubleTexts$Natural;I)V"⟩, 12) := ⟨⟨by decide +kernel, by decide +kernel⟩, List.mem_of_getElem? (i := 23) (by decide +kernel), List.mem_of_getElem? (i := 556) (by decide +kernel), List.mem_of_getElem? (i := 557) (by decide +kernel)⟩
theorem lw_p34 : lw_okq (⟨"DoubleTexts", "appendFinite", "()V"⟩, 12) := ⟨⟨by decide +kernel, by decide +kernel⟩, List.mem_of_getElem? (i := 23) (by decide +kernel), List.mem_of_getElem? (i := 577) (by decide +kernel), List.mem_of_getElem? (i := 578) (by decide +kernel)⟩
theorem lw_p35 : lw_okq (⟨"DoubleTexts$ShortestDigits", "append", "(I)V"⟩, 8) := ⟨⟨by decide +kernel, by decide +kernel⟩, List.mem_of_getElem? (i := 96) (by decide +kernel), List.mem_of_getElem? (i := 585) (by decide +kernel), List.mem_of_getElem? (i := 586) (by decide +kernel)⟩
theorem lw_p36 : lw_okq (⟨"DoubleTexts$ShortestDigits", "setUp", "(JIZ)V"⟩, 8) := ⟨⟨by decide +kernel, by decide +kernel⟩, List.mem_of_getElem? (i := 96) (by decide +kernel), List.mem_of_getElem? (i := 598) (by decide +kernel), List.mem_of_getElem? (i := 599) (by decide +kernel)⟩
theorem lw_p37 : lw_okq (⟨"DoubleTexts$ShortestDigits", "scaleByFives", "()V"⟩, 8) := ⟨⟨by decide +kernel, by decide +kernel⟩, List.mem_of_getElem? (i := 96) (by decide +kernel), List.mem_of_getElem? (i := 605) (by decide +kernel), List.mem_of_getElem? (i := 606) (by decide +kernel)⟩
theorem lw_p38 : lw_okq (⟨"DoubleTexts$ShortestDigits", "reachesWhole", "(Z)Z"⟩, 8) := ⟨⟨by decide +kernel, by decide +kernel⟩, List.mem_of_getElem? (i := 96) (by decide +kernel), List.mem_of_getElem? (i := 610) (by decide +kernel), List.mem_of_getElem? (i := 611) (by decide +kernel)⟩
theorem lw_p39 : lw_okq (⟨"DoubleTexts$ShortestDigits", "takeDigit", "(Z)Z"⟩, 8) := ⟨⟨by decide +kernel, by decide +kernel⟩, List.mem_of_getElem? (i := 96) (by decide +kernel), List.mem_of_getElem? (i := 621) (by decide +kernel), List.mem_of_getElem? (i := 622) (by decide +kernel)⟩
theorem lw_p40 : lw_okq (⟨"DoubleTexts$ShortestDigits", "isNearerUp", "(I)Z"⟩, 8) := ⟨⟨by decide +kernel, by decide +kernel⟩, List.mem_of_getElem? (i := 96) (by decide +kernel), List.mem_of_getElem? (i := 626) (by decide +kernel), List.mem_of_getElem? (i := 627) (by decide +kernel)⟩
theorem lw_p41 : lw_okq (⟨"DoubleTexts", "appendShortest", "(II)V"⟩, 12) := ⟨⟨by decide +kernel, by decide +kernel⟩, List.mem_of_getElem? (i := 23) (by decide +kernel), List.mem_of_getElem? (i := 634) (by decide +kernel), List.mem_of_getElem? (i := 635) (by decide +kernel)⟩
theorem lw_p42 : lw_okq (⟨"DoubleTexts", "appendWithExponent", "(I)V"⟩, 12) := ⟨⟨by decide +kernel, by decide +kernel⟩, List.mem_of_getElem? (i := 23) (by decide +kernel), List.mem_of_getElem? (i := 653) (by decide +kernel), List.mem_of_getElem? (i := 654) (by decide +kernel)⟩
theorem lw_p43 : lw_okq (⟨"DoubleTextsModel", "number", "([IIII)LDoubleTextsModel$Num;"⟩, 26) := ⟨⟨by decide +kernel, by decide +kernel⟩, List.mem_of_getElem? (i := 676) (by decide +kernel), List.mem_of_getElem? (i := 773) (by decide +kernel), List.mem_of_getElem? (i := 774) (by decide +kernel)⟩
theorem lw_p44 : lw_okq (⟨"DoubleTextsModel", "unsigned", "([IIIIIZ)LDoubleTextsModel$Num;"⟩, 26) := ⟨⟨by decide +kernel, by decide +kernel⟩, List.mem_of_getElem? (i := 676) (by decide +kernel), List.mem_of_getElem? (i := 797) (by decide +kernel), List.mem_of_getElem? (i := 798) (by decide +kernel)⟩
theorem lw_p45 : lw_okq (⟨"DoubleTextsModel", "decimal", "([IIIIZ)LDoubleTextsModel$Num;"⟩, 26) := ⟨⟨by decide +kernel, by decide +kernel⟩, List.mem_of_getElem? (i := 676) (by decide +kernel), List.mem_of_getElem? (i := 807) (by decide +kernel), List.mem_of_getElem? (i := 808) (by decide +kernel)⟩
theorem lw_p46 : lw_okq (⟨"DoubleTextsModel", "digits", "([IIII)LDoubleTextsModel$Whole;"⟩, 26) := ⟨⟨by decide +kernel, by decide +kernel⟩, List.mem_of_getElem? (i := 676) (by decide +kernel), List.mem_of_getElem? (i := 835) (by decide +kernel), List.mem_of_getElem? (i := 836) (by decide +kernel)⟩
theorem lw_p47 : lw_okq (⟨"DoubleTextsModel", "kept", "([II)LDoubleTextsModel$Num;"⟩, 26) := ⟨⟨by decide +kernel, by decide +kernel⟩, List.mem_of_getElem? (i := 676) (by decide +kernel), List.mem_of_getElem? (i := 872) (by decide +kernel), List.mem_of_getElem? (i := 873) (by decide +kernel)⟩
def lw_privs_3 : List (MethodName × Nat) := [(⟨"DoubleTexts", "appendExactNumber", "(I)V"⟩, 12), (⟨"DoubleTexts", "appendNatural", "(LDoubleTexts$Natural;I)V"⟩, 12), (⟨"DoubleTexts", "appendFinite", "()V"⟩, 12), (⟨"DoubleTexts$ShortestDigits", "append", "(I)V"⟩, 8), (⟨"DoubleTexts$ShortestDigits", "setUp", "(JIZ)V"⟩, 8), (⟨"DoubleTexts$ShortestDigits", "scaleByFives", "()V"⟩, 8), (⟨"DoubleTexts$ShortestDigits", "reachesWhole", "(Z)Z"⟩, 8), (⟨"DoubleTexts$ShortestDigits", "takeDigit", "(Z)Z"⟩, 8), (⟨"DoubleTexts$ShortestDigits", "isNearerUp", "(I)Z"⟩, 8), (⟨"DoubleTexts", "appendShortest", "(II)V"⟩, 12), (⟨"DoubleTexts", "appendWithExponent", "(I)V"⟩, 12), (⟨"DoubleTextsModel", "number", "([IIII)LDoubleTextsModel$Num;"⟩, 26), (⟨"DoubleTextsModel", "unsigned", "([IIIIIZ)LDoubleTextsModel$Num;"⟩, 26), (⟨"DoubleTextsModel", "decimal", "([IIIIZ)LDoubleTextsModel$Num;"⟩, 26), (⟨"DoubleTextsModel", "digits", "([IIII)LDoubleTextsModel$Whole;"⟩, 26), (⟨"DoubleTextsModel", "kept", "([II)LDoubleTextsModel$Num;"⟩, 26)]
theorem lw_r3 : ∀ q ∈ lw_privs_3, lw_okq q := List.forall_mem_cons.mpr ⟨lw_p32, List.forall_mem_cons.mpr ⟨lw_p33, List.forall_mem_cons.mpr ⟨lw_p34, List.forall_mem_cons.mpr ⟨lw_p35, List.forall_mem_cons.mpr ⟨lw_p36, List.forall_mem_cons.mpr ⟨lw_p37, List.forall_mem_cons.mpr ⟨lw_p38, List.forall_mem_cons.mpr ⟨lw_p39, List.forall_mem_cons.mpr ⟨lw_p40, List.forall_mem_cons.mpr ⟨lw_p41, List.forall_mem_cons.mpr ⟨lw_p42, List.forall_mem_cons.mpr ⟨lw_p43, List.forall_mem_cons.mpr ⟨lw_p44, List.forall_mem_cons.mpr ⟨lw_p45, List.forall_mem_cons.mpr ⟨lw_p46, List.forall_mem_cons.mpr ⟨lw_p47, fun _ h => absurd h List.not_mem_nil⟩⟩⟩⟩⟩⟩⟩⟩⟩⟩⟩⟩⟩⟩⟩⟩
theorem lw_p48 : lw_okq (⟨"DoubleTextsModel", "bitsOf", "([II)I"⟩, 26) := ⟨⟨by decide +kernel, by decide +kernel⟩, List.mem_of_getElem? (i := 676) (by decide +kernel), List.mem_of_getElem? (i := 876) (by decide +kernel), List.mem_of_getElem? (i := 877) (by decide +kernel)⟩
theorem lw_p49 : lw_okq (⟨"DoubleTextsModel", "fraction", "([II[II)LDoubleTextsModel$Num;"⟩, 26) := ⟨⟨by decide +kernel, by decide +kernel⟩, List.mem_of_getElem? (i := 676) (by decide +kernel), List.mem_of_getElem? (i := 883) (by decide +kernel), List.mem_of_getElem? (i := 884) (by decide +kernel)⟩
theorem lw_p50 : lw_okq (⟨"DoubleTextsModel", "gcd", "([II[II)I"⟩, 26) := ⟨⟨by decide +kernel, by decide +kernel⟩, List.mem_of_getElem? (i := 676) (by decide +kernel), List.mem_of_getElem? (i := 887) (by decide +kernel), List.mem_of_getElem? (i := 888) (by decide +kernel)⟩
theorem lw_p51 : lw_okq (⟨"DoubleTextsModel", "reduced", "([III[I)I"⟩, 26) := ⟨⟨by decide +kernel, by decide +kernel⟩, List.mem_of_getElem? (i := 676) (by decide +kernel), List.mem_of_getElem? (i := 914) (by decide +kernel), List.mem_of_getElem? (i := 915) (by decide +kernel)⟩
theorem lw_p52 : lw_okq (⟨"DoubleTextsModel", "nearest", "([II[II)D"⟩, 26) := ⟨⟨by decide +kernel, by decide +kernel⟩, List.mem_of_getElem? (i := 676) (by decide +kernel), List.mem_of_getElem? (i := 952) (by decide +kernel), List.mem_of_getElem? (i := 953) (by decide +kernel)⟩
theorem lw_p53 : lw_okq (⟨"DoubleTextsModel", "ratio", "(LDoubleTextsModel$Whole;LDoubleTextsModel$Whole;)D"⟩, 26) := ⟨⟨by decide +kernel, by decide +kernel⟩, List.mem_of_getElem? (i := 676) (by decide +kernel), List.mem_of_getElem? (i := 976) (by decide +kernel), List.mem_of_getElem? (i := 977) (by decide +kernel)⟩
theorem lw_p54 : lw_okq (⟨"DoubleTextsModel", "near", "(LDoubleTextsModel$Whole;ILDoubleTextsModel$Whole;)D"⟩, 26) := ⟨⟨by decide +kernel, by decide +kernel⟩, List.mem_of_getElem? (i := 676) (by decide +kernel), List.mem_of_getElem? (i := 996) (by decide +kernel), List.mem_of_getElem? (i := 997) (by decide +kernel)⟩
theorem lw_p55 : lw_okq (⟨"DoubleTextsModel", "isDouble", "()Z"⟩, 26) := ⟨⟨by decide +kernel, by decide +kernel⟩, List.mem_of_getElem? (i := 676) (by decide +kernel), List.mem_of_getElem? (i := 1012) (by decide +kernel), List.mem_of_getElem? (i := 1013) (by decide +kernel)⟩
theorem lw_p56 : lw_okq (⟨"DoubleTextsModel", "value", "()D"⟩, 26) := ⟨⟨by decide +kernel, by decide +kernel⟩, List.mem_of_getElem? (i := 676) (by decide +kernel), List.mem_of_getElem? (i := 1016) (by decide +kernel), List.mem_of_getElem? (i := 1017) (by decide +kernel)⟩
theorem lw_p57 : lw_okq (⟨"DoubleTextsModel", "exactOf", "(D)LDoubleTextsModel$Num;"⟩, 26) := ⟨⟨by decide +kernel, by decide +kernel⟩, List.mem_of_getElem? (i := 676) (by decide +kernel), List.mem_of_getElem? (i := 1025) (by decide +kernel), List.mem_of_getElem? (i := 1026) (by decide +kernel)⟩
theorem lw_p58 : lw_okq (⟨"DoubleTextsModel", "real", "(LDoubleTextsModel$Num;)D"⟩, 26) := ⟨⟨by decide +kernel, by decide +kernel⟩, List.mem_of_getElem? (i := 676) (by decide +kernel), List.mem_of_getElem? (i := 1040) (by decide +kernel), List.mem_of_getElem? (i := 1041) (by decide +kernel)⟩
theorem lw_p59 : lw_okq (⟨"DoubleTextsModel", "doublings", "()I"⟩, 26) := ⟨⟨by decide +kernel, by decide +kernel⟩, List.mem_of_getElem? (i := 676) (by decide +kernel), List.mem_of_getElem? (i := 1057) (by decide +kernel), List.mem_of_getElem? (i := 1058) (by decide +kernel)⟩
theorem lw_p60 : lw_okq (⟨"DoubleTextsModel", "sayWhole", "(LDoubleTextsModel$Whole;I)V"⟩, 26) := ⟨⟨by decide +kernel, by decide +kernel⟩, List.mem_of_getElem? (i := 676) (by decide +kernel), List.mem_of_getElem? (i := 1073) (by decide +kernel), List.mem_of_getElem? (i := 1074) (by decide +kernel)⟩
theorem lw_p61 : lw_okq (⟨"DoubleTextsModel", "say", "(I)V"⟩, 26) := ⟨⟨by decide +kernel, by decide +kernel⟩, List.mem_of_getElem? (i := 676) (by decide +kernel), List.mem_of_getElem? (i := 1077) (by decide +kernel), List.mem_of_getElem? (i := 1078) (by decide +kernel)⟩
theorem lw_p62 : lw_okq (⟨"DoubleTextsModel", "sayWord", "(Ljava/lang/String;)V"⟩, 26) := ⟨⟨by decide +kernel, by decide +kernel⟩, List.mem_of_getElem? (i := 676) (by decide +kernel), List.mem_of_getElem? (i := 1084) (by decide +kernel), List.mem_of_getElem? (i := 1085) (by decide +kernel)⟩
theorem lw_p63 : lw_okq (⟨"DoubleTextsModel", "sayReal", "(D)V"⟩, 26) := ⟨⟨by decide +kernel, by decide +kernel⟩, List.mem_of_getElem? (i := 676) (by decide +kernel), List.mem_of_getElem? (i := 1089) (by decide +kernel), List.mem_of_getElem? (i := 1090) (by decide +kernel)⟩
def lw_privs_4 : List (MethodName × Nat) := [(⟨"DoubleTextsModel", "bitsOf", "([II)I"⟩, 26), (⟨"DoubleTextsModel", "fraction", "([II[II)LDoubleTextsModel$Num;"⟩, 26), (⟨"DoubleTextsModel", "gcd", "([II[II)I"⟩, 26), (⟨"DoubleTextsModel", "reduced", "([III[I)I"⟩, 26), (⟨"DoubleTextsModel", "nearest", "([II[II)D"⟩, 26), (⟨"DoubleTextsModel", "ratio", "(LDoubleTextsModel$Whole;LDoubleTextsModel$Whole;)D"⟩, 26), (⟨"DoubleTextsModel", "near", "(LDoubleTextsModel$Whole;ILDoubleTextsModel$Whole;)D"⟩, 26), (⟨"DoubleTextsModel", "isDouble", "()Z"⟩, 26), (⟨"DoubleTextsModel", "value", "()D"⟩, 26), (⟨"DoubleTextsModel", "exactOf", "(D)LDoubleTextsModel$Num;"⟩, 26), (⟨"DoubleTextsModel", "real", "(LDoubleTextsModel$Num;)D"⟩, 26), (⟨"DoubleTextsModel", "doublings", "()I"⟩, 26), (⟨"DoubleTextsModel", "sayWhole", "(LDoubleTextsModel$Whole;I)V"⟩, 26), (⟨"DoubleTextsModel", "say", "(I)V"⟩, 26), (⟨"DoubleTextsModel", "sayWord", "(Ljava/lang/String;)V"⟩, 26), (⟨"DoubleTextsModel", "sayReal", "(D)V"⟩, 26)]
theorem lw_r4 : ∀ q ∈ lw_privs_4, lw_okq q := List.forall_mem_cons.mpr ⟨lw_p48, List.forall_mem_cons.mpr ⟨lw_p49, List.forall_mem_cons.mpr ⟨lw_p50, List.forall_mem_cons.mpr ⟨lw_p51, List.forall_mem_cons.mpr ⟨lw_p52, List.forall_mem_cons.mpr ⟨lw_p53, List.forall_mem_cons.mpr ⟨lw_p54, List.forall_mem_cons.mpr ⟨lw_p55, List.forall_mem_cons.mpr ⟨lw_p56, List.forall_mem_cons.mpr ⟨lw_p57, List.forall_mem_cons.mpr ⟨lw_p58, List.forall_mem_cons.mpr ⟨lw_p59, List.forall_mem_cons.mpr ⟨lw_p60, List.forall_mem_cons.mpr ⟨lw_p61, List.forall_mem_cons.mpr ⟨lw_p62, List.forall_mem_cons.mpr ⟨lw_p63, fun _ h => absurd h List.not_mem_nil⟩⟩⟩⟩⟩⟩⟩⟩⟩⟩⟩⟩⟩⟩⟩⟩
theorem lw_p64 : lw_okq (⟨"DoubleTextsModel", "shortest", "(D)V"⟩, 26) := ⟨⟨by decide +kernel, by decide +kernel⟩, List.mem_of_getElem? (i := 676) (by decide +kernel), List.mem_of_getElem? (i := 1096) (by decide +kernel), List.mem_of_getElem? (i := 1097) (by decide +kernel)⟩
theorem lw_p65 : lw_okq (⟨"DoubleTextsModel", "put", "(I)I"⟩, 26) := ⟨⟨by decide +kernel, by decide +kernel⟩, List.mem_of_getElem? (i := 676) (by decide +kernel), List.mem_of_getElem? (i := 1103) (by decide +kernel), List.mem_of_getElem? (i := 1104) (by decide +kernel)⟩
theorem lw_p66 : lw_okq (⟨"DoubleTextsModel", "placed", "(I)V"⟩, 26) := ⟨⟨by decide +kernel, by decide +kernel⟩, List.mem_of_getElem? (i := 676) (by decide +kernel), List.mem_of_getElem? (i := 1107) (by decide +kernel), List.mem_of_getElem? (i := 1108) (by decide +kernel)⟩
theorem lw_p67 : lw_okq (⟨"DoubleTextsModel", "sayFound", "(II)V"⟩, 26) := ⟨⟨by decide +kernel, by decide +kernel⟩, List.mem_of_getElem? (i := 676) (by decide +kernel), List.mem_of_getElem? (i := 1111) (by decide +kernel), List.mem_of_getElem? (i := 1112) (by decide +kernel)⟩
theorem lw_p68 : lw_okq (⟨"DoubleTextsModel", "saySmall", "(I)V"⟩, 26) := ⟨⟨by decide +kernel, by decide +kernel⟩, List.mem_of_getElem? (i := 676) (by decide +kernel), List.mem_of_getElem? (i := 1116) (by decide +kernel), List.mem_of_getElem? (i := 1117) (by decide +kernel)⟩
def lw_privs_5 : List (MethodName × Nat) := [(⟨"DoubleTextsModel", "shortest", "(D)V"⟩, 26), (⟨"DoubleTextsModel", "put", "(I)I"⟩, 26), (⟨"DoubleTextsModel", "placed", "(I)V"⟩, 26), (⟨"DoubleTextsModel", "sayFound", "(II)V"⟩, 26), (⟨"DoubleTextsModel", "saySmall", "(I)V"⟩, 26)]
theorem lw_r5 : ∀ q ∈ lw_privs_5, lw_okq q := List.forall_mem_cons.mpr ⟨lw_p64, List.forall_mem_cons.mpr ⟨lw_p65, List.forall_mem_cons.mpr ⟨lw_p66, List.forall_mem_cons.mpr ⟨lw_p67, List.forall_mem_cons.mpr ⟨lw_p68, fun _ h => absurd h List.not_mem_nil⟩⟩⟩⟩⟩
def lw_privs : List (MethodName × Nat) := lw_privs_1 ++ (lw_privs_2 ++ (lw_privs_3 ++ (lw_privs_4 ++ (lw_privs_5))))
def lw_tbl : List Cond := k2_sels lw_privs ++ tables_1
theorem lw_privs_ok : ∀ q ∈ lw_privs, lw_okq q := by
  show ∀ q ∈ lw_privs_1 ++ (lw_privs_2 ++ (lw_privs_3 ++ (lw_privs_4 ++ (lw_privs_5)))), lw_okq q
  exact List.forall_mem_append.mpr ⟨lw_r1, List.forall_mem_append.mpr ⟨lw_r2, List.forall_mem_append.mpr ⟨lw_r3, List.forall_mem_append.mpr ⟨lw_r4, lw_r5⟩⟩⟩⟩
/-- the streams that the claim lets the run draw from -/
abbrev lw_cs : List Choice := [Jvm.Choice.named "NaN.bits"]
theorem lw_bits : nanBits ∈ lw_cs := by first | decide | exact List.mem_cons_self | simp [lw_cs, nanBits]
def RX0 : String := "DoubleTexts$Line"
def TX0 : u_T := fun k => match k with
  | 0 => ("DoubleTexts$Line", "codes", "[B", false)
  | _ => ("DoubleTexts$Line", "size", "I", false)
def tyX0 : Nat → FieldType := fun k => match k with
  | 0 => .array .byte
  | _ => .int
theorem nmX0 : ∀ a, a < 2 → ∀ b, b < 2 → a ≠ b → (TX0 a).2.1 ≠ (TX0 b).2.1 := by decide +kernel
theorem tyX0_ok : ∀ k, k < 2 → parseFieldDescriptor (TX0 k).2.2.1 = some (tyX0 k) := by decide +kernel
abbrev cX0_init : ByteArray := prog_2_method_1_code
def yX0_init : MethodName := ⟨RX0, "<init>", "()V"⟩
abbrev cX0_size : ByteArray := prog_2_method_2_code
def yX0_size : MethodName := ⟨RX0, "size", "()I"⟩
abbrev cX0_codeAt : ByteArray := prog_2_method_3_code
def yX0_codeAt : MethodName := ⟨RX0, "codeAt", "(I)I"⟩
abbrev cX0_empty : ByteArray := prog_2_method_4_code
def yX0_empty : MethodName := ⟨RX0, "empty", "()V"⟩
abbrev cX0_makeRoom : ByteArray := prog_2_method_5_code
def yX0_makeRoom : MethodName := ⟨RX0, "makeRoom", "(I)V"⟩
abbrev cX0_append : ByteArray := prog_2_method_6_code
def yX0_append : MethodName := ⟨RX0, "append", "(I)V"⟩
abbrev cX0_append_ : ByteArray := prog_2_method_7_code
def yX0_append_ : MethodName := ⟨RX0, "append", "(Ljava/lang/String;)V"⟩
abbrev cX0_copy : ByteArray := prog_2_method_8_code
def yX0_copy : MethodName := ⟨RX0, "copy", "(LDoubleTexts$Line;)V"⟩
abbrev cX0_appendLastDigits : ByteArray := prog_2_method_9_code
def yX0_appendLastDigits : MethodName := ⟨RX0, "appendLastDigits", "(III)V"⟩
abbrev cX0_dropZerosAtEnd : ByteArray := prog_2_method_10_code
def yX0_dropZerosAtEnd : MethodName := ⟨RX0, "dropZerosAtEnd", "(I)V"⟩
abbrev cX0_reverseFrom : ByteArray := prog_2_method_11_code
def yX0_reverseFrom : MethodName := ⟨RX0, "reverseFrom", "(I)V"⟩
def RX1 : String := "DoubleTexts$Natural"
def TX1 : u_T := fun k => match k with
  | 0 => ("DoubleTexts$Natural", "words", "[I", true)
  | _ => ("DoubleTexts$Natural", "size", "I", false)
def tyX1 : Nat → FieldType := fun k => match k with
  | 0 => .array .int
  | _ => .int
theorem nmX1 : ∀ a, a < 2 → ∀ b, b < 2 → a ≠ b → (TX1 a).2.1 ≠ (TX1 b).2.1 := by decide +kernel
theorem tyX1_ok : ∀ k, k < 2 → parseFieldDescriptor (TX1 k).2.2.1 = some (tyX1 k) := by decide +kernel
abbrev cX1_init : ByteArray := prog_3_method_1_code
def yX1_init : MethodName := ⟨RX1, "<init>", "()V"⟩
abbrev cX1_set : ByteArray := prog_3_method_2_code
def yX1_set : MethodName := ⟨RX1, "set", "(J)V"⟩
abbrev cX1_copy : ByteArray := prog_3_method_3_code
def yX1_copy : MethodName := ⟨RX1, "copy", "(LDoubleTexts$Natural;)V"⟩
abbrev cX1_isZero : ByteArray := prog_3_method_4_code
def yX1_isZero : MethodName := ⟨RX1, "isZero", "()Z"⟩
abbrev cX1_isOne : ByteArray := prog_3_method_5_code
def yX1_isOne : MethodName := ⟨RX1, "isOne", "()Z"⟩
abbrev cX1_bitLength : ByteArray := prog_3_method_6_code
def yX1_bitLength : MethodName := ⟨RX1, "bitLength", "()I"⟩
abbrev cX1_trailingZeros : ByteArray := prog_3_method_7_code
def yX1_trailingZeros : MethodName := ⟨RX1, "trailingZeros", "()I"⟩
abbrev cX1_compare : ByteArray := prog_3_method_8_code
def yX1_compare : MethodName := ⟨RX1, "compare", "(LDoubleTexts$Natural;)I"⟩
abbrev cX1_add : ByteArray := prog_3_method_9_code
def yX1_add : MethodName := ⟨RX1, "add", "(LDoubleTexts$Natural;)V"⟩
abbrev cX1_subtract : ByteArray := prog_3_method_10_code
def yX1_subtract : MethodName := ⟨RX1, "subtract", "(LDoubleTexts$Natural;)V"⟩
abbrev cX1_multiplyAdd : ByteArray := prog_3_method_11_code
def yX1_multiplyAdd : MethodName := ⟨RX1, "multiplyAdd", "(II)V"⟩
abbrev cX1_multiplyByFives : ByteArray := prog_3_method_12_code
def yX1_multiplyByFives : MethodName := ⟨RX1, "multiplyByFives", "(I)V"⟩
abbrev cX1_takeFives : ByteArray := prog_3_method_13_code
def yX1_takeFives : MethodName := ⟨RX1, "takeFives", "(I)I"⟩
abbrev cX1_takeFactor : ByteArray := prog_3_method_14_code
def yX1_takeFactor : MethodName := ⟨RX1, "takeFactor", "(II)I"⟩
abbrev cX1_powerOfFive : ByteArray := prog_3_method_15_code
def yX1_powerOfFive : MethodName := ⟨RX1, "powerOfFive", "(I)I"⟩
abbrev cX1_remainder : ByteArray := prog_3_method_16_code
def yX1_remainder : MethodName := ⟨RX1, "remainder", "(I)I"⟩
abbrev cX1_divideBySmall : ByteArray := prog_3_method_17_code
def yX1_divideBySmall : MethodName := ⟨RX1, "divideBySmall", "(I)I"⟩
abbrev cX1_divideByOddFactor : ByteArray := prog_3_method_18_code
def yX1_divideByOddFactor : MethodName := ⟨RX1, "divideByOddFactor", "(LDoubleTexts$Natural;)V"⟩
abbrev cX1_subtractProduct : ByteArray := prog_3_method_19_code
def yX1_subtractProduct : MethodName := ⟨RX1, "subtractProduct", "(ILDoubleTexts$Natural;I)V"⟩
abbrev cX1_inverse : ByteArray := prog_3_method_20_code
def yX1_inverse : MethodName := ⟨RX1, "inverse", "(I)I"⟩
abbrev cX1_shiftLeft : ByteArray := prog_3_method_21_code
def yX1_shiftLeft : MethodName := ⟨RX1, "shiftLeft", "(I)V"⟩
abbrev cX1_shiftRight : ByteArray := prog_3_method_22_code
def yX1_shiftRight : MethodName := ⟨RX1, "shiftRight", "(I)V"⟩
abbrev cX1_wordAt : ByteArray := prog_3_method_23_code
def yX1_wordAt : MethodName := ⟨RX1, "wordAt", "(I)I"⟩
abbrev cX1_append : ByteArray := prog_3_method_24_code
def yX1_append : MethodName := ⟨RX1, "append", "(I)V"⟩
abbrev cX1_trim : ByteArray := prog_3_method_25_code
def yX1_trim : MethodName := ⟨RX1, "trim", "()V"⟩
def RX2 : String := "DoubleTexts$Numeral"
def TX2 : u_T := fun k => match k with
  | 0 => ("DoubleTexts$Numeral", "text", "LDoubleTexts$Line;", true)
  | 1 => ("DoubleTexts$Numeral", "at", "I", false)
  | 2 => ("DoubleTexts$Numeral", "base", "I", false)
  | 3 => ("DoubleTexts$Numeral", "exactness", "I", false)
  | 4 => ("DoubleTexts$Numeral", "signed", "Z", false)
  | 5 => ("DoubleTexts$Numeral", "minus", "Z", false)
  | 6 => ("DoubleTexts$Numeral", "tens", "I", false)
  | _ => ("DoubleTexts$Numeral", "significant", "I", false)
def tyX2 : Nat → FieldType := fun k => match k with
  | 0 => .object "DoubleTexts$Line"
  | 1 => .int
  | 2 => .int
  | 3 => .int
  | 4 => .boolean
  | 5 => .boolean
  | 6 => .int
  | _ => .int
theorem nmX2 : ∀ a, a < 8 → ∀ b, b < 8 → a ≠ b → (TX2 a).2.1 ≠ (TX2 b).2.1 := by decide +kernel
theorem tyX2_ok : ∀ k, k < 8 → parseFieldDescriptor (TX2 k).2.2.1 = some (tyX2 k) := by decide +kernel
abbrev cX2_init : ByteArray := prog_4_method_1_code
def yX2_init : MethodName := ⟨RX2, "<init>", "()V"⟩
abbrev cX2_line : ByteArray := prog_4_method_2_code
def yX2_line : MethodName := ⟨RX2, "line", "()LDoubleTexts$Line;"⟩
abbrev cX2_exactIsAsked : ByteArray := prog_4_method_3_code
def yX2_exactIsAsked : MethodName := ⟨RX2, "exactIsAsked", "()Z"⟩
abbrev cX2_inexactIsAsked : ByteArray := prog_4_method_4_code
def yX2_inexactIsAsked : MethodName := ⟨RX2, "inexactIsAsked", "()Z"⟩
abbrev cX2_hasMinus : ByteArray := prog_4_method_5_code
def yX2_hasMinus : MethodName := ⟨RX2, "hasMinus", "()Z"⟩
abbrev cX2_tens : ByteArray := prog_4_method_6_code
def yX2_tens : MethodName := ⟨RX2, "tens", "()I"⟩
abbrev cX2_significantDigits : ByteArray := prog_4_method_7_code
def yX2_significantDigits : MethodName := ⟨RX2, "significantDigits", "()I"⟩
abbrev cX2_parse : ByteArray := prog_4_method_8_code
def yX2_parse : MethodName := ⟨RX2, "parse", "(LDoubleTexts$Natural;LDoubleTexts$Natural;)I"⟩
abbrev cX2_takeWordOrNumber : ByteArray := prog_4_method_9_code
def yX2_takeWordOrNumber : MethodName := ⟨RX2, "takeWordOrNumber", "(LDoubleTexts$Natural;LDoubleTexts$Natural;)I"⟩
abbrev cX2_takeNumber : ByteArray := prog_4_method_10_code
def yX2_takeNumber : MethodName := ⟨RX2, "takeNumber", "(LDoubleTexts$Natural;LDoubleTexts$Natural;)I"⟩
abbrev cX2_takeDecimal : ByteArray := prog_4_method_11_code
def yX2_takeDecimal : MethodName := ⟨RX2, "takeDecimal", "(LDoubleTexts$Natural;I)I"⟩
abbrev cX2_takeExponent : ByteArray := prog_4_method_12_code
def yX2_takeExponent : MethodName := ⟨RX2, "takeExponent", "()Z"⟩
abbrev cX2_takePrefixes : ByteArray := prog_4_method_13_code
def yX2_takePrefixes : MethodName := ⟨RX2, "takePrefixes", "()Z"⟩
abbrev cX2_baseOf : ByteArray := prog_4_method_14_code
def yX2_baseOf : MethodName := ⟨RX2, "baseOf", "(I)I"⟩
abbrev cX2_takeSign : ByteArray := prog_4_method_15_code
def yX2_takeSign : MethodName := ⟨RX2, "takeSign", "()V"⟩
abbrev cX2_takeWord : ByteArray := prog_4_method_16_code
def yX2_takeWord : MethodName := ⟨RX2, "takeWord", "(Ljava/lang/String;)Z"⟩
abbrev cX2_takeDigits : ByteArray := prog_4_method_17_code
def yX2_takeDigits : MethodName := ⟨RX2, "takeDigits", "(LDoubleTexts$Natural;)I"⟩
abbrev cX2_current : ByteArray := prog_4_method_18_code
def yX2_current : MethodName := ⟨RX2, "current", "()I"⟩
abbrev cX2_currentDigit : ByteArray := prog_4_method_19_code
def yX2_currentDigit : MethodName := ⟨RX2, "currentDigit", "()I"⟩
abbrev cX2_isExponentMark : ByteArray := prog_4_method_20_code
def yX2_isExponentMark : MethodName := ⟨RX2, "isExponentMark", "(I)Z"⟩
def RX3 : String := "DoubleTexts$ShortestDigits"
def TX3 : u_T := fun k => match k with
  | 0 => ("DoubleTexts$ShortestDigits", "digits", "[I", true)
  | 1 => ("DoubleTexts$ShortestDigits", "count", "I", false)
  | 2 => ("DoubleTexts$ShortestDigits", "point", "I", false)
  | 3 => ("DoubleTexts$ShortestDigits", "rest", "LDoubleTexts$Natural;", true)
  | 4 => ("DoubleTexts$ShortestDigits", "whole", "LDoubleTexts$Natural;", true)
  | 5 => ("DoubleTexts$ShortestDigits", "above", "LDoubleTexts$Natural;", true)
  | 6 => ("DoubleTexts$ShortestDigits", "below", "LDoubleTexts$Natural;", true)
  | _ => ("DoubleTexts$ShortestDigits", "sum", "LDoubleTexts$Natural;", true)
def tyX3 : Nat → FieldType := fun k => match k with
  | 0 => .array .int
  | 1 => .int
  | 2 => .int
  | 3 => .object "DoubleTexts$Natural"
  | 4 => .object "DoubleTexts$Natural"
  | 5 => .object "DoubleTexts$Natural"
  | 6 => .object "DoubleTexts$Natural"
  | _ => .object "DoubleTexts$Natural"
theorem nmX3 : ∀ a, a < 8 → ∀ b, b < 8 → a ≠ b → (TX3 a).2.1 ≠ (TX3 b).2.1 := by decide +kernel
theorem tyX3_ok : ∀ k, k < 8 → parseFieldDescriptor (TX3 k).2.2.1 = some (tyX3 k) := by decide +kernel
abbrev cX3_init : ByteArray := prog_5_method_1_code
def yX3_init : MethodName := ⟨RX3, "<init>", "()V"⟩
abbrev cX3_count : ByteArray := prog_5_method_2_code
def yX3_count : MethodName := ⟨RX3, "count", "()I"⟩
abbrev cX3_point : ByteArray := prog_5_method_3_code
def yX3_point : MethodName := ⟨RX3, "point", "()I"⟩
abbrev cX3_digitAt : ByteArray := prog_5_method_4_code
def yX3_digitAt : MethodName := ⟨RX3, "digitAt", "(I)I"⟩
abbrev cX3_find : ByteArray := prog_5_method_5_code
def yX3_find : MethodName := ⟨RX3, "find", "(JI)V"⟩
abbrev cX3_append : ByteArray := prog_5_method_6_code
def yX3_append : MethodName := ⟨RX3, "append", "(I)V"⟩
abbrev cX3_setUp : ByteArray := prog_5_method_7_code
def yX3_setUp : MethodName := ⟨RX3, "setUp", "(JIZ)V"⟩
abbrev cX3_scaleByFives : ByteArray := prog_5_method_8_code
def yX3_scaleByFives : MethodName := ⟨RX3, "scaleByFives", "()V"⟩
abbrev cX3_reachesWhole : ByteArray := prog_5_method_9_code
def yX3_reachesWhole : MethodName := ⟨RX3, "reachesWhole", "(Z)Z"⟩
abbrev cX3_takeDigit : ByteArray := prog_5_method_10_code
def yX3_takeDigit : MethodName := ⟨RX3, "takeDigit", "(Z)Z"⟩
abbrev cX3_isNearerUp : ByteArray := prog_5_method_11_code
def yX3_isNearerUp : MethodName := ⟨RX3, "isNearerUp", "(I)Z"⟩
def RX4 : String := "DoubleTexts"
def TX4 : u_T := fun k => match k with
  | 0 => ("DoubleTexts", "numeral", "LDoubleTexts$Numeral;", true)
  | 1 => ("DoubleTexts", "text", "LDoubleTexts$Line;", true)
  | 2 => ("DoubleTexts", "output", "LDoubleTexts$Line;", true)
  | 3 => ("DoubleTexts", "numberKind", "I", false)
  | 4 => ("DoubleTexts", "minus", "Z", false)
  | 5 => ("DoubleTexts", "doubleUnits", "J", false)
  | 6 => ("DoubleTexts", "doublePlace", "I", false)
  | 7 => ("DoubleTexts", "numerator", "LDoubleTexts$Natural;", true)
  | 8 => ("DoubleTexts", "denominator", "LDoubleTexts$Natural;", true)
  | 9 => ("DoubleTexts", "spare", "LDoubleTexts$Natural;", true)
  | 10 => ("DoubleTexts", "otherSpare", "LDoubleTexts$Natural;", true)
  | _ => ("DoubleTexts", "shortest", "LDoubleTexts$ShortestDigits;", true)
def tyX4 : Nat → FieldType := fun k => match k with
  | 0 => .object "DoubleTexts$Numeral"
  | 1 => .object "DoubleTexts$Line"
  | 2 => .object "DoubleTexts$Line"
  | 3 => .int
  | 4 => .boolean
  | 5 => .long
  | 6 => .int
  | 7 => .object "DoubleTexts$Natural"
  | 8 => .object "DoubleTexts$Natural"
  | 9 => .object "DoubleTexts$Natural"
  | 10 => .object "DoubleTexts$Natural"
  | _ => .object "DoubleTexts$ShortestDigits"
theorem nmX4 : ∀ a, a < 12 → ∀ b, b < 12 → a ≠ b → (TX4 a).2.1 ≠ (TX4 b).2.1 := by decide +kernel
theorem tyX4_ok : ∀ k, k < 12 → parseFieldDescriptor (TX4 k).2.2.1 = some (tyX4 k) := by decide +kernel
abbrev cX4_init : ByteArray := prog_1_method_1_code
def yX4_init : MethodName := ⟨RX4, "<init>", "()V"⟩
abbrev cX4_type : ByteArray := prog_1_method_2_code
def yX4_type : MethodName := ⟨RX4, "type", "(I)I"⟩
abbrev cX4_clear : ByteArray := prog_1_method_3_code
def yX4_clear : MethodName := ⟨RX4, "clear", "()V"⟩
abbrev cX4_read : ByteArray := prog_1_method_4_code
def yX4_read : MethodName := ⟨RX4, "read", "()I"⟩
abbrev cX4_make : ByteArray := prog_1_method_5_code
def yX4_make : MethodName := ⟨RX4, "make", "(ZJI)Z"⟩
abbrev cX4_divide : ByteArray := prog_1_method_6_code
def yX4_divide : MethodName := ⟨RX4, "divide", "(JJ)Z"⟩
abbrev cX4_exact : ByteArray := prog_1_method_7_code
def yX4_exact : MethodName := ⟨RX4, "exact", "()Z"⟩
abbrev cX4_inexact : ByteArray := prog_1_method_8_code
def yX4_inexact : MethodName := ⟨RX4, "inexact", "()Z"⟩
abbrev cX4_kind : ByteArray := prog_1_method_9_code
def yX4_kind : MethodName := ⟨RX4, "kind", "()I"⟩
abbrev cX4_negative : ByteArray := prog_1_method_10_code
def yX4_negative : MethodName := ⟨RX4, "negative", "()Z"⟩
abbrev cX4_units : ByteArray := prog_1_method_11_code
def yX4_units : MethodName := ⟨RX4, "units", "()J"⟩
abbrev cX4_place : ByteArray := prog_1_method_12_code
def yX4_place : MethodName := ⟨RX4, "place", "()I"⟩
abbrev cX4_bits : ByteArray := prog_1_method_13_code
def yX4_bits : MethodName := ⟨RX4, "bits", "(Z)I"⟩
abbrev cX4_write : ByteArray := prog_1_method_14_code
def yX4_write : MethodName := ⟨RX4, "write", "(I)I"⟩
abbrev cX4_out : ByteArray := prog_1_method_15_code
def yX4_out : MethodName := ⟨RX4, "out", "(I)I"⟩
abbrev cX4_back : ByteArray := prog_1_method_16_code
def yX4_back : MethodName := ⟨RX4, "back", "()Z"⟩
abbrev cX4_becomeNone : ByteArray := prog_1_method_17_code
def yX4_becomeNone : MethodName := ⟨RX4, "becomeNone", "()V"⟩
abbrev cX4_becomeInfinite : ByteArray := prog_1_method_18_code
def yX4_becomeInfinite : MethodName := ⟨RX4, "becomeInfinite", "(Z)V"⟩
abbrev cX4_becomeNotANumber : ByteArray := prog_1_method_19_code
def yX4_becomeNotANumber : MethodName := ⟨RX4, "becomeNotANumber", "()V"⟩
abbrev cX4_becomeFinite : ByteArray := prog_1_method_20_code
def yX4_becomeFinite : MethodName := ⟨RX4, "becomeFinite", "(ZJI)V"⟩
abbrev cX4_becomeZero : ByteArray := prog_1_method_21_code
def yX4_becomeZero : MethodName := ⟨RX4, "becomeZero", "(Z)V"⟩
abbrev cX4_becomeExactNumber : ByteArray := prog_1_method_22_code
def yX4_becomeExactNumber : MethodName := ⟨RX4, "becomeExactNumber", "(Z)V"⟩
abbrev cX4_becomeNearest : ByteArray := prog_1_method_23_code
def yX4_becomeNearest : MethodName := ⟨RX4, "becomeNearest", "(ZI)V"⟩
abbrev cX4_alignTops : ByteArray := prog_1_method_24_code
def yX4_alignTops : MethodName := ⟨RX4, "alignTops", "()V"⟩
abbrev cX4_takeQuotient : ByteArray := prog_1_method_25_code
def yX4_takeQuotient : MethodName := ⟨RX4, "takeQuotient", "(I)J"⟩
abbrev cX4_becomeRounded : ByteArray := prog_1_method_26_code
def yX4_becomeRounded : MethodName := ⟨RX4, "becomeRounded", "(ZJI)V"⟩
abbrev cX4_becomeNearestDecimal : ByteArray := prog_1_method_27_code
def yX4_becomeNearestDecimal : MethodName := ⟨RX4, "becomeNearestDecimal", "(ZII)V"⟩
abbrev cX4_becomeExactDecimal : ByteArray := prog_1_method_28_code
def yX4_becomeExactDecimal : MethodName := ⟨RX4, "becomeExactDecimal", "(ZI)V"⟩
abbrev cX4_multiplyByTens : ByteArray := prog_1_method_29_code
def yX4_multiplyByTens : MethodName := ⟨RX4, "multiplyByTens", "(I)Z"⟩
abbrev cX4_divideByTens : ByteArray := prog_1_method_30_code
def yX4_divideByTens : MethodName := ⟨RX4, "divideByTens", "(I)Z"⟩
abbrev cX4_bringToLowestTerms : ByteArray := prog_1_method_31_code
def yX4_bringToLowestTerms : MethodName := ⟨RX4, "bringToLowestTerms", "()V"⟩
abbrev cX4_greatestOddDivisor : ByteArray := prog_1_method_32_code
def yX4_greatestOddDivisor : MethodName := ⟨RX4, "greatestOddDivisor", "()LDoubleTexts$Natural;"⟩
abbrev cX4_appendExactNumber : ByteArray := prog_1_method_33_code
def yX4_appendExactNumber : MethodName := ⟨RX4, "appendExactNumber", "(I)V"⟩
abbrev cX4_appendNatural : ByteArray := prog_1_method_34_code
def yX4_appendNatural : MethodName := ⟨RX4, "appendNatural", "(LDoubleTexts$Natural;I)V"⟩
abbrev cX4_appendFinite : ByteArray := prog_1_method_35_code
def yX4_appendFinite : MethodName := ⟨RX4, "appendFinite", "()V"⟩
abbrev cX4_appendWithExponent : ByteArray := prog_1_method_36_code
def yX4_appendWithExponent : MethodName := ⟨RX4, "appendWithExponent", "(I)V"⟩
abbrev cX4_appendShortest : ByteArray := prog_1_method_37_code
def yX4_appendShortest : MethodName := ⟨RX4, "appendShortest", "(II)V"⟩
def RX5 : String := "DoubleTextsModel$Num"
def TX5 : u_T := fun k => match k with
  | _ => ("", "", "", false)
def tyX5 : Nat → FieldType := fun k => match k with
  | _ => .int
theorem nmX5 : ∀ a, a < 0 → ∀ b, b < 0 → a ≠ b → (TX5 a).2.1 ≠ (TX5 b).2.1 := by decide +kernel
theorem tyX5_ok : ∀ k, k < 0 → parseFieldDescriptor (TX5 k).2.2.1 = some (tyX5 k) := by decide +kernel
abbrev cX5_init : ByteArray := prog_8_method_1_code
def yX5_init : MethodName := ⟨RX5, "<init>", "()V"⟩
def RX6 : String := "DoubleTextsModel$Ratio"
def TX6 : u_T := fun k => match k with
  | 0 => ("DoubleTextsModel$Ratio", "above", "LDoubleTextsModel$Whole;", true)
  | _ => ("DoubleTextsModel$Ratio", "below", "LDoubleTextsModel$Whole;", true)
def tyX6 : Nat → FieldType := fun k => match k with
  | 0 => .object "DoubleTextsModel$Whole"
  | _ => .object "DoubleTextsModel$Whole"
theorem nmX6 : ∀ a, a < 2 → ∀ b, b < 2 → a ≠ b → (TX6 a).2.1 ≠ (TX6 b).2.1 := by decide +kernel
theorem tyX6_ok : ∀ k, k < 2 → parseFieldDescriptor (TX6 k).2.2.1 = some (tyX6 k) := by decide +kernel
abbrev cX6_init : ByteArray := prog_9_method_1_code
def yX6_init : MethodName := ⟨RX6, "<init>", "(LDoubleTextsModel$Whole;LDoubleTextsModel$Whole;)V"⟩
def RX7 : String := "DoubleTextsModel$Real"
def TX7 : u_T := fun k => match k with
  | 0 => ("DoubleTextsModel$Real", "x", "D", true)
  | _ => ("DoubleTextsModel$Real", "none", "Z", true)
def tyX7 : Nat → FieldType := fun k => match k with
  | 0 => .double
  | _ => .boolean
theorem nmX7 : ∀ a, a < 2 → ∀ b, b < 2 → a ≠ b → (TX7 a).2.1 ≠ (TX7 b).2.1 := by decide +kernel
theorem tyX7_ok : ∀ k, k < 2 → parseFieldDescriptor (TX7 k).2.2.1 = some (tyX7 k) := by decide +kernel
abbrev cX7_init : ByteArray := prog_10_method_1_code
def yX7_init : MethodName := ⟨RX7, "<init>", "(DZ)V"⟩
abbrev cX7_of : ByteArray := prog_10_method_2_code
def yX7_of : MethodName := ⟨RX7, "of", "(D)LDoubleTextsModel$Real;"⟩
def RX8 : String := "DoubleTextsModel$Whole"
def TX8 : u_T := fun k => match k with
  | 0 => ("DoubleTextsModel$Whole", "sign", "I", true)
  | _ => ("DoubleTextsModel$Whole", "digits", "[I", true)
def tyX8 : Nat → FieldType := fun k => match k with
  | 0 => .int
  | _ => .array .int
theorem nmX8 : ∀ a, a < 2 → ∀ b, b < 2 → a ≠ b → (TX8 a).2.1 ≠ (TX8 b).2.1 := by decide +kernel
theorem tyX8_ok : ∀ k, k < 2 → parseFieldDescriptor (TX8 k).2.2.1 = some (tyX8 k) := by decide +kernel
abbrev cX8_init : ByteArray := prog_11_method_1_code
def yX8_init : MethodName := ⟨RX8, "<init>", "(I[I)V"⟩
abbrev cX8_isZero : ByteArray := prog_11_method_2_code
def yX8_isZero : MethodName := ⟨RX8, "isZero", "()Z"⟩
abbrev cX8_isOne : ByteArray := prog_11_method_3_code
def yX8_isOne : MethodName := ⟨RX8, "isOne", "()Z"⟩
abbrev cX8_negative : ByteArray := prog_11_method_4_code
def yX8_negative : MethodName := ⟨RX8, "negative", "()LDoubleTextsModel$Whole;"⟩
abbrev cX8_asLong : ByteArray := prog_11_method_6_code
def yX8_asLong : MethodName := ⟨RX8, "asLong", "()J"⟩
def RX9 : String := "DoubleTextsModel"
def TX9 : u_T := fun k => match k with
  | 0 => ("DoubleTextsModel", "one", "[I", true)
  | 1 => ("DoubleTextsModel", "cut", "[I", true)
  | 2 => ("DoubleTextsModel", "tens", "[I", true)
  | 3 => ("DoubleTextsModel", "gcdLeft", "[I", true)
  | 4 => ("DoubleTextsModel", "gcdRight", "[I", true)
  | 5 => ("DoubleTextsModel", "partAbove", "[I", true)
  | 6 => ("DoubleTextsModel", "partBelow", "[I", true)
  | 7 => ("DoubleTextsModel", "parsed", "[I", true)
  | 8 => ("DoubleTextsModel", "upper", "[I", true)
  | 9 => ("DoubleTextsModel", "lower", "[I", true)
  | 10 => ("DoubleTextsModel", "quotients", "[I", true)
  | 11 => ("DoubleTextsModel", "nearAbove", "[I", true)
  | 12 => ("DoubleTextsModel", "nearBelow", "[I", true)
  | 13 => ("DoubleTextsModel", "way", "[I", true)
  | 14 => ("DoubleTextsModel", "unit", "[I", true)
  | 15 => ("DoubleTextsModel", "low", "[I", true)
  | 16 => ("DoubleTextsModel", "high", "[I", true)
  | 17 => ("DoubleTextsModel", "ten", "[I", true)
  | 18 => ("DoubleTextsModel", "found", "[I", true)
  | 19 => ("DoubleTextsModel", "foundCount", "I", false)
  | 20 => ("DoubleTextsModel", "written", "[I", true)
  | 21 => ("DoubleTextsModel", "writtenLength", "I", false)
  | 22 => ("DoubleTextsModel", "common", "[I", false)
  | 23 => ("DoubleTextsModel", "text", "[I", true)
  | 24 => ("DoubleTextsModel", "length", "I", false)
  | _ => ("DoubleTextsModel", "number", "LDoubleTextsModel$Num;", false)
def tyX9 : Nat → FieldType := fun k => match k with
  | 0 => .array .int
  | 1 => .array .int
  | 2 => .array .int
  | 3 => .array .int
  | 4 => .array .int
  | 5 => .array .int
  | 6 => .array .int
  | 7 => .array .int
  | 8 => .array .int
  | 9 => .array .int
  | 10 => .array .int
  | 11 => .array .int
  | 12 => .array .int
  | 13 => .array .int
  | 14 => .array .int
  | 15 => .array .int
  | 16 => .array .int
  | 17 => .array .int
  | 18 => .array .int
  | 19 => .int
  | 20 => .array .int
  | 21 => .int
  | 22 => .array .int
  | 23 => .array .int
  | 24 => .int
  | _ => .object "DoubleTextsModel$Num"
theorem nmX9 : ∀ a, a < 26 → ∀ b, b < 26 → a ≠ b → (TX9 a).2.1 ≠ (TX9 b).2.1 := by decide +kernel
theorem tyX9_ok : ∀ k, k < 26 → parseFieldDescriptor (TX9 k).2.2.1 = some (tyX9 k) := by decide +kernel
abbrev cX9_zero : ByteArray := prog_7_method_1_code
def yX9_zero : MethodName := ⟨RX9, "zero", "()LDoubleTextsModel$Whole;"⟩
abbrev cX9_whole : ByteArray := prog_7_method_2_code
def yX9_whole : MethodName := ⟨RX9, "whole", "(J)LDoubleTextsModel$Whole;"⟩
abbrev cX9_used : ByteArray := prog_7_method_3_code
def yX9_used : MethodName := ⟨RX9, "used", "([II)I"⟩
abbrev cX9_wholeOf : ByteArray := prog_7_method_4_code
def yX9_wholeOf : MethodName := ⟨RX9, "wholeOf", "(I[II)LDoubleTextsModel$Whole;"⟩
abbrev cX9_compareRows : ByteArray := prog_7_method_5_code
def yX9_compareRows : MethodName := ⟨RX9, "compareRows", "([II[II)I"⟩
abbrev cX9_decimals : ByteArray := prog_7_method_6_code
def yX9_decimals : MethodName := ⟨RX9, "decimals", "([II)I"⟩
abbrev cX9_scale : ByteArray := prog_7_method_7_code
def yX9_scale : MethodName := ⟨RX9, "scale", "([IIII)I"⟩
abbrev cX9_doubled : ByteArray := prog_7_method_8_code
def yX9_doubled : MethodName := ⟨RX9, "doubled", "([III)I"⟩
abbrev cX9_tenfold : ByteArray := prog_7_method_9_code
def yX9_tenfold : MethodName := ⟨RX9, "tenfold", "([III)I"⟩
abbrev cX9_cutBy : ByteArray := prog_7_method_10_code
def yX9_cutBy : MethodName := ⟨RX9, "cutBy", "([III)I"⟩
abbrev cX9_takeAway : ByteArray := prog_7_method_11_code
def yX9_takeAway : MethodName := ⟨RX9, "takeAway", "([II[III)Z"⟩
abbrev cX9_putBack : ByteArray := prog_7_method_12_code
def yX9_putBack : MethodName := ⟨RX9, "putBack", "([II[II)V"⟩
abbrev cX9_divideRows : ByteArray := prog_7_method_13_code
def yX9_divideRows : MethodName := ⟨RX9, "divideRows", "([II[II[I)I"⟩
abbrev cX9_isAtLeast : ByteArray := prog_7_method_14_code
def yX9_isAtLeast : MethodName := ⟨RX9, "isAtLeast", "([II[II)Z"⟩
abbrev cX9_copyRow : ByteArray := prog_7_method_15_code
def yX9_copyRow : MethodName := ⟨RX9, "copyRow", "([I[II)V"⟩
abbrev cX9_gcd : ByteArray := prog_7_method_16_code
def yX9_gcd : MethodName := ⟨RX9, "gcd", "([II[II)I"⟩
abbrev cX9_reduced : ByteArray := prog_7_method_17_code
def yX9_reduced : MethodName := ⟨RX9, "reduced", "([III[I)I"⟩
abbrev cX9_bitsOf : ByteArray := prog_7_method_18_code
def yX9_bitsOf : MethodName := ⟨RX9, "bitsOf", "([II)I"⟩
abbrev cX9_say : ByteArray := prog_7_method_19_code
def yX9_say : MethodName := ⟨RX9, "say", "(I)V"⟩
abbrev cX9_sayWord : ByteArray := prog_7_method_20_code
def yX9_sayWord : MethodName := ⟨RX9, "sayWord", "(Ljava/lang/String;)V"⟩
abbrev cX9_saySmall : ByteArray := prog_7_method_21_code
def yX9_saySmall : MethodName := ⟨RX9, "saySmall", "(I)V"⟩
abbrev cX9_sayWhole : ByteArray := prog_7_method_22_code
def yX9_sayWhole : MethodName := ⟨RX9, "sayWhole", "(LDoubleTextsModel$Whole;I)V"⟩
abbrev cX9_nearest : ByteArray := prog_7_method_23_code
def yX9_nearest : MethodName := ⟨RX9, "nearest", "([II[II)D"⟩
abbrev cX9_scaled : ByteArray := prog_7_method_24_code
def yX9_scaled : MethodName := ⟨RX9, "scaled", "(JI)D"⟩
abbrev cX9_significand : ByteArray := prog_7_method_25_code
def yX9_significand : MethodName := ⟨RX9, "significand", "(D)J"⟩
abbrev cX9_exponent : ByteArray := prog_7_method_26_code
def yX9_exponent : MethodName := ⟨RX9, "exponent", "(D)I"⟩
abbrev cX9_isExact : ByteArray := prog_7_method_27_code
def yX9_isExact : MethodName := ⟨RX9, "isExact", "(Ljava/lang/Object;)Z"⟩
abbrev cX9_above : ByteArray := prog_7_method_28_code
def yX9_above : MethodName := ⟨RX9, "above", "(LDoubleTextsModel$Num;)LDoubleTextsModel$Whole;"⟩
abbrev cX9_below : ByteArray := prog_7_method_29_code
def yX9_below : MethodName := ⟨RX9, "below", "(LDoubleTextsModel$Num;)LDoubleTextsModel$Whole;"⟩
abbrev cX9_kept : ByteArray := prog_7_method_30_code
def yX9_kept : MethodName := ⟨RX9, "kept", "([II)LDoubleTextsModel$Num;"⟩
abbrev cX9_fraction : ByteArray := prog_7_method_31_code
def yX9_fraction : MethodName := ⟨RX9, "fraction", "([II[II)LDoubleTextsModel$Num;"⟩
abbrev cX9_isFinite : ByteArray := prog_7_method_32_code
def yX9_isFinite : MethodName := ⟨RX9, "isFinite", "(D)Z"⟩
abbrev cX9_real : ByteArray := prog_7_method_33_code
def yX9_real : MethodName := ⟨RX9, "real", "(LDoubleTextsModel$Num;)D"⟩
abbrev cX9_ratio : ByteArray := prog_7_method_34_code
def yX9_ratio : MethodName := ⟨RX9, "ratio", "(LDoubleTextsModel$Whole;LDoubleTextsModel$Whole;)D"⟩
abbrev cX9_exactOf : ByteArray := prog_7_method_35_code
def yX9_exactOf : MethodName := ⟨RX9, "exactOf", "(D)LDoubleTextsModel$Num;"⟩
abbrev cX9_negated : ByteArray := prog_7_method_36_code
def yX9_negated : MethodName := ⟨RX9, "negated", "(LDoubleTextsModel$Num;)LDoubleTextsModel$Num;"⟩
abbrev cX9_isNegativeZero : ByteArray := prog_7_method_37_code
def yX9_isNegativeZero : MethodName := ⟨RX9, "isNegativeZero", "(D)Z"⟩
abbrev cX9_sayReal : ByteArray := prog_7_method_38_code
def yX9_sayReal : MethodName := ⟨RX9, "sayReal", "(D)V"⟩
abbrev cX9_shortest : ByteArray := prog_7_method_39_code
def yX9_shortest : MethodName := ⟨RX9, "shortest", "(D)V"⟩
abbrev cX9_lessen : ByteArray := prog_7_method_40_code
def yX9_lessen : MethodName := ⟨RX9, "lessen", "([II[II)V"⟩
abbrev cX9_put : ByteArray := prog_7_method_41_code
def yX9_put : MethodName := ⟨RX9, "put", "(I)I"⟩
abbrev cX9_sayFound : ByteArray := prog_7_method_42_code
def yX9_sayFound : MethodName := ⟨RX9, "sayFound", "(II)V"⟩
abbrev cX9_placed : ByteArray := prog_7_method_43_code
def yX9_placed : MethodName := ⟨RX9, "placed", "(I)V"⟩
abbrev cX9_digitOf : ByteArray := prog_7_method_44_code
def yX9_digitOf : MethodName := ⟨RX9, "digitOf", "(II)I"⟩
abbrev cX9_areDigits : ByteArray := prog_7_method_45_code
def yX9_areDigits : MethodName := ⟨RX9, "areDigits", "([IIII)Z"⟩
abbrev cX9_digits : ByteArray := prog_7_method_46_code
def yX9_digits : MethodName := ⟨RX9, "digits", "([IIII)LDoubleTextsModel$Whole;"⟩
abbrev cX9_number : ByteArray := prog_7_method_47_code
def yX9_number : MethodName := ⟨RX9, "number", "([IIII)LDoubleTextsModel$Num;"⟩
abbrev cX9_unsigned : ByteArray := prog_7_method_48_code
def yX9_unsigned : MethodName := ⟨RX9, "unsigned", "([IIIIIZ)LDoubleTextsModel$Num;"⟩
abbrev cX9_decimal : ByteArray := prog_7_method_49_code
def yX9_decimal : MethodName := ⟨RX9, "decimal", "([IIIIZ)LDoubleTextsModel$Num;"⟩
abbrev cX9_init : ByteArray := prog_7_method_50_code
def yX9_init : MethodName := ⟨RX9, "<init>", "()V"⟩
abbrev cX9_type : ByteArray := prog_7_method_51_code
def yX9_type : MethodName := ⟨RX9, "type", "(I)I"⟩
abbrev cX9_clear : ByteArray := prog_7_method_52_code
def yX9_clear : MethodName := ⟨RX9, "clear", "()V"⟩
abbrev cX9_read : ByteArray := prog_7_method_53_code
def yX9_read : MethodName := ⟨RX9, "read", "()I"⟩
abbrev cX9_near : ByteArray := prog_7_method_54_code
def yX9_near : MethodName := ⟨RX9, "near", "(LDoubleTextsModel$Whole;ILDoubleTextsModel$Whole;)D"⟩
abbrev cX9_make : ByteArray := prog_7_method_55_code
def yX9_make : MethodName := ⟨RX9, "make", "(ZJI)Z"⟩
abbrev cX9_divide : ByteArray := prog_7_method_56_code
def yX9_divide : MethodName := ⟨RX9, "divide", "(JJ)Z"⟩
abbrev cX9_isDouble : ByteArray := prog_7_method_57_code
def yX9_isDouble : MethodName := ⟨RX9, "isDouble", "()Z"⟩
abbrev cX9_value : ByteArray := prog_7_method_58_code
def yX9_value : MethodName := ⟨RX9, "value", "()D"⟩
abbrev cX9_exact : ByteArray := prog_7_method_59_code
def yX9_exact : MethodName := ⟨RX9, "exact", "()Z"⟩
abbrev cX9_inexact : ByteArray := prog_7_method_60_code
def yX9_inexact : MethodName := ⟨RX9, "inexact", "()Z"⟩
abbrev cX9_kind : ByteArray := prog_7_method_61_code
def yX9_kind : MethodName := ⟨RX9, "kind", "()I"⟩
abbrev cX9_negative : ByteArray := prog_7_method_62_code
def yX9_negative : MethodName := ⟨RX9, "negative", "()Z"⟩
abbrev cX9_doublings : ByteArray := prog_7_method_63_code
def yX9_doublings : MethodName := ⟨RX9, "doublings", "()I"⟩
abbrev cX9_units : ByteArray := prog_7_method_64_code
def yX9_units : MethodName := ⟨RX9, "units", "()J"⟩
abbrev cX9_place : ByteArray := prog_7_method_65_code
def yX9_place : MethodName := ⟨RX9, "place", "()I"⟩
abbrev cX9_bits : ByteArray := prog_7_method_66_code
def yX9_bits : MethodName := ⟨RX9, "bits", "(Z)I"⟩
abbrev cX9_write : ByteArray := prog_7_method_67_code
def yX9_write : MethodName := ⟨RX9, "write", "(I)I"⟩
abbrev cX9_out : ByteArray := prog_7_method_68_code
def yX9_out : MethodName := ⟨RX9, "out", "(I)I"⟩
abbrev cX9_back : ByteArray := prog_7_method_69_code
def yX9_back : MethodName := ⟨RX9, "back", "()Z"⟩
def RJ6 : String := "java/lang/Integer"
abbrev cJ6_compare_7cf53 : ByteArray := prog_14_method_40_code
def yJ6_compare_7cf53 : MethodName := ⟨RJ6, "compare", "(II)I"⟩
abbrev cJ6_compareUnsigned_7cf53 : ByteArray := prog_14_method_41_code
def yJ6_compareUnsigned_7cf53 : MethodName := ⟨RJ6, "compareUnsigned", "(II)I"⟩
abbrev cJ6_numberOfLeadingZeros_0f7a4 : ByteArray := prog_14_method_47_code
def yJ6_numberOfLeadingZeros_0f7a4 : MethodName := ⟨RJ6, "numberOfLeadingZeros", "(I)I"⟩
abbrev cJ6_numberOfTrailingZeros_0f7a4 : ByteArray := prog_14_method_48_code
def yJ6_numberOfTrailingZeros_0f7a4 : MethodName := ⟨RJ6, "numberOfTrailingZeros", "(I)I"⟩
def RJ13 : String := "java/lang/Long"
abbrev cJ13_numberOfLeadingZeros_95d88 : ByteArray := prog_15_method_48_code
def yJ13_numberOfLeadingZeros_95d88 : MethodName := ⟨RJ13, "numberOfLeadingZeros", "(J)I"⟩
abbrev cJ13_numberOfTrailingZeros_95d88 : ByteArray := prog_15_method_49_code
def yJ13_numberOfTrailingZeros_95d88 : MethodName := ⟨RJ13, "numberOfTrailingZeros", "(J)I"⟩
def RJ9 : String := "java/lang/Math"
abbrev cJ9_floorDiv_7cf53 : ByteArray := prog_16_method_47_code
def yJ9_floorDiv_7cf53 : MethodName := ⟨RJ9, "floorDiv", "(II)I"⟩
abbrev cJ9_abs_0f7a4 : ByteArray := prog_16_method_59_code
def yJ9_abs_0f7a4 : MethodName := ⟨RJ9, "abs", "(I)I"⟩
abbrev cJ9_max_7cf53 : ByteArray := prog_16_method_65_code
def yJ9_max_7cf53 : MethodName := ⟨RJ9, "max", "(II)I"⟩
abbrev cJ9_min_7cf53 : ByteArray := prog_16_method_69_code
def yJ9_min_7cf53 : MethodName := ⟨RJ9, "min", "(II)I"⟩
abbrev cJ9_min_eb370 : ByteArray := prog_16_method_72_code
def yJ9_min_eb370 : MethodName := ⟨RJ9, "min", "(DD)D"⟩
def RJ0 : String := "java/lang/String"
abbrev cJ0_length_8abf5 : ByteArray := prog_18_method_54_code
def yJ0_length_8abf5 : MethodName := ⟨RJ0, "length", "()I"⟩
abbrev cJ0_charAt_5068e : ByteArray := prog_18_method_56_code
def yJ0_charAt_5068e : MethodName := ⟨RJ0, "charAt", "(I)C"⟩
abbrev cJ0_coder_7d493 : ByteArray := prog_18_method_152_code
def yJ0_coder_7d493 : MethodName := ⟨RJ0, "coder", "()B"⟩
abbrev cJ0_isLatin1_aae02 : ByteArray := prog_18_method_154_code
def yJ0_isLatin1_aae02 : MethodName := ⟨RJ0, "isLatin1", "()Z"⟩
abbrev cJ0_checkIndex_df160 : ByteArray := prog_18_method_155_code
def yJ0_checkIndex_df160 : MethodName := ⟨RJ0, "checkIndex", "(II)V"⟩
def RJ1 : String := "java/lang/StringLatin1"
abbrev cJ1_charAt_3b067 : ByteArray := prog_19_method_2_code
def yJ1_charAt_3b067 : MethodName := ⟨RJ1, "charAt", "([BI)C"⟩
def RJ2 : String := "java/lang/StringUTF16"
abbrev cJ2_getChar_3b067 : ByteArray := prog_20_method_5_code
def yJ2_getChar_3b067 : MethodName := ⟨RJ2, "getChar", "([BI)C"⟩
abbrev cJ2_length_9d52b : ByteArray := prog_20_method_6_code
def yJ2_length_9d52b : MethodName := ⟨RJ2, "length", "([B)I"⟩
abbrev cJ2_charAt_3b067 : ByteArray := prog_20_method_83_code
def yJ2_charAt_3b067 : MethodName := ⟨RJ2, "charAt", "([BI)C"⟩
abbrev cJ2_checkIndex_2214a : ByteArray := prog_20_method_91_code
def yJ2_checkIndex_2214a : MethodName := ⟨RJ2, "checkIndex", "(I[B)V"⟩
def RJ10 : String := "java/lang/System"
def RJ7 : String := "java/util/Arrays"
abbrev cJ7_copyOf_59c91 : ByteArray := prog_22_method_123_code
def yJ7_copyOf_59c91 : MethodName := ⟨RJ7, "copyOf", "([II)[I"⟩
def RJ3 : String := "jdk/internal/util/Preconditions"
abbrev cJ3_checkIndex_8e157 : ByteArray := prog_23_method_11_code
def yJ3_checkIndex_8e157 : MethodName := ⟨RJ3, "checkIndex", "(IILjava/util/function/BiFunction;)I"⟩
def RL : String := "DoubleTextsLaw"
abbrev cL_law : ByteArray := code
def yL_law : MethodName := ⟨RL, "law", "([I)Z"⟩
abbrev vwCl : List vw_C := [(RX0, TX0, 2), (RX1, TX1, 2), (RX2, TX2, 8), (RX3, TX3, 8), (RX4, TX4, 12), (RX6, TX6, 2), (RX7, TX7, 2), (RX8, TX8, 2), (RX9, TX9, 26)]
end
section
theorem dX0_init_0 : decode cX0_init 0 = .ok (.aload_n 0, 1) := by decide +kernel
theorem dX0_init_1 : decode cX0_init 1 = .ok (.invokespecial 3, 3) := by decide +kernel
theorem dX0_init_4 : decode cX0_init 4 = .ok (.aload_n 0, 1) := by decide +kernel
theorem dX0_init_5 : decode cX0_init 5 = .ok (.sipush 400, 3) := by decide +kernel
theorem dX0_init_8 : decode cX0_init 8 = .ok (.newarray .byte, 2) := by decide +kernel
theorem dX0_init_10 : decode cX0_init 10 = .ok (.putfield 11, 3) := by decide +kernel
theorem dX0_init_13 : decode cX0_init 13 = .ok (.aload_n 0, 1) := by decide +kernel
theorem dX0_init_14 : decode cX0_init 14 = .ok (.iconst 0, 1) := by decide +kernel
theorem dX0_init_15 : decode cX0_init 15 = .ok (.putfield 15, 3) := by decide +kernel
theorem dX0_init_18 : decode cX0_init 18 = .ok (.return_, 1) := by decide +kernel
theorem dX0_size_0 : decode cX0_size 0 = .ok (.aload_n 0, 1) := by decide +kernel
theorem dX0_size_1 : decode cX0_size 1 = .ok (.getfield 15, 3) := by decide +kernel
theorem dX0_size_4 : decode cX0_size 4 = .ok (.ireturn, 1) := by decide +kernel
theorem dX0_codeAt_0 : decode cX0_codeAt 0 = .ok (.iload_n 1, 1) := by decide +kernel
theorem dX0_codeAt_1 : decode cX0_codeAt 1 = .ok (.ifCond .lt 20, 3) := by decide +kernel
theorem dX0_codeAt_4 : decode cX0_codeAt 4 = .ok (.iload_n 1, 1) := by decide +kernel
theorem dX0_codeAt_5 : decode cX0_codeAt 5 = .ok (.aload_n 0, 1) := by decide +kernel
theorem dX0_codeAt_6 : decode cX0_codeAt 6 = .ok (.getfield 15, 3) := by decide +kernel
theorem dX0_codeAt_9 : decode cX0_codeAt 9 = .ok (.if_icmp .ge 12, 3) := by decide +kernel
theorem dX0_codeAt_12 : decode cX0_codeAt 12 = .ok (.aload_n 0, 1) := by decide +kernel
theorem dX0_codeAt_13 : decode cX0_codeAt 13 = .ok (.getfield 11, 3) := by decide +kernel
theorem dX0_codeAt_16 : decode cX0_codeAt 16 = .ok (.iload_n 1, 1) := by decide +kernel
theorem dX0_codeAt_17 : decode cX0_codeAt 17 = .ok (.baload, 1) := by decide +kernel
theorem dX0_codeAt_18 : decode cX0_codeAt 18 = .ok (.goto 4, 3) := by decide +kernel
theorem dX0_codeAt_21 : decode cX0_codeAt 21 = .ok (.iconst (-1), 1) := by decide +kernel
theorem dX0_codeAt_22 : decode cX0_codeAt 22 = .ok (.ireturn, 1) := by decide +kernel
theorem dX0_empty_0 : decode cX0_empty 0 = .ok (.aload_n 0, 1) := by decide +kernel
theorem dX0_empty_1 : decode cX0_empty 1 = .ok (.iconst 0, 1) := by decide +kernel
theorem dX0_empty_2 : decode cX0_empty 2 = .ok (.putfield 15, 3) := by decide +kernel
theorem dX0_empty_5 : decode cX0_empty 5 = .ok (.return_, 1) := by decide +kernel
theorem dX0_makeRoom_0 : decode cX0_makeRoom 0 = .ok (.iload_n 1, 1) := by decide +kernel
theorem dX0_makeRoom_1 : decode cX0_makeRoom 1 = .ok (.bipush 34, 2) := by decide +kernel
theorem dX0_makeRoom_3 : decode cX0_makeRoom 3 = .ok (.iadd, 1) := by decide +kernel
theorem dX0_makeRoom_4 : decode cX0_makeRoom 4 = .ok (.aload_n 0, 1) := by decide +kernel
theorem dX0_makeRoom_5 : decode cX0_makeRoom 5 = .ok (.getfield 11, 3) := by decide +kernel
theorem dX0_makeRoom_8 : decode cX0_makeRoom 8 = .ok (.arraylength, 1) := by decide +kernel
theorem dX0_makeRoom_9 : decode cX0_makeRoom 9 = .ok (.if_icmp .le 12, 3) := by decide +kernel
theorem dX0_makeRoom_12 : decode cX0_makeRoom 12 = .ok (.aload_n 0, 1) := by decide +kernel
theorem dX0_makeRoom_13 : decode cX0_makeRoom 13 = .ok (.sipush 8226, 3) := by decide +kernel
theorem dX0_makeRoom_16 : decode cX0_makeRoom 16 = .ok (.newarray .byte, 2) := by decide +kernel
theorem dX0_makeRoom_18 : decode cX0_makeRoom 18 = .ok (.putfield 11, 3) := by decide +kernel
theorem dX0_makeRoom_21 : decode cX0_makeRoom 21 = .ok (.return_, 1) := by decide +kernel
theorem dX0_append_0 : decode cX0_append 0 = .ok (.aload_n 0, 1) := by decide +kernel
theorem dX0_append_1 : decode cX0_append 1 = .ok (.getfield 15, 3) := by decide +kernel
theorem dX0_append_4 : decode cX0_append 4 = .ok (.aload_n 0, 1) := by decide +kernel
theorem dX0_append_5 : decode cX0_append 5 = .ok (.getfield 11, 3) := by decide +kernel
theorem dX0_append_8 : decode cX0_append 8 = .ok (.arraylength, 1) := by decide +kernel
theorem dX0_append_9 : decode cX0_append 9 = .ok (.if_icmp .ge 24, 3) := by decide +kernel
theorem dX0_append_12 : decode cX0_append 12 = .ok (.aload_n 0, 1) := by decide +kernel
theorem dX0_append_13 : decode cX0_append 13 = .ok (.getfield 11, 3) := by decide +kernel
theorem dX0_append_16 : decode cX0_append 16 = .ok (.aload_n 0, 1) := by decide +kernel
theorem dX0_append_17 : decode cX0_append 17 = .ok (.getfield 15, 3) := by decide +kernel
theorem dX0_append_20 : decode cX0_append 20 = .ok (.iload_n 1, 1) := by decide +kernel
theorem dX0_append_21 : decode cX0_append 21 = .ok (.i2b, 1) := by decide +kernel
theorem dX0_append_22 : decode cX0_append 22 = .ok (.bastore, 1) := by decide +kernel
theorem dX0_append_23 : decode cX0_append 23 = .ok (.aload_n 0, 1) := by decide +kernel
theorem dX0_append_24 : decode cX0_append 24 = .ok (.dup, 1) := by decide +kernel
theorem dX0_append_25 : decode cX0_append 25 = .ok (.getfield 15, 3) := by decide +kernel
theorem dX0_append_28 : decode cX0_append 28 = .ok (.iconst 1, 1) := by decide +kernel
theorem dX0_append_29 : decode cX0_append 29 = .ok (.iadd, 1) := by decide +kernel
theorem dX0_append_30 : decode cX0_append 30 = .ok (.putfield 15, 3) := by decide +kernel
theorem dX0_append_33 : decode cX0_append 33 = .ok (.return_, 1) := by decide +kernel
theorem dX0_append__0 : decode cX0_append_ 0 = .ok (.iconst 0, 1) := by decide +kernel
theorem dX0_append__1 : decode cX0_append_ 1 = .ok (.istore_n 2, 1) := by decide +kernel
theorem dX0_append__2 : decode cX0_append_ 2 = .ok (.iload_n 2, 1) := by decide +kernel
theorem dX0_append__3 : decode cX0_append_ 3 = .ok (.aload_n 1, 1) := by decide +kernel
theorem dX0_append__4 : decode cX0_append_ 4 = .ok (.invokevirtual 19, 3) := by decide +kernel
theorem dX0_append__7 : decode cX0_append_ 7 = .ok (.if_icmp .ge 18, 3) := by decide +kernel
theorem dX0_append__10 : decode cX0_append_ 10 = .ok (.aload_n 0, 1) := by decide +kernel
theorem dX0_append__11 : decode cX0_append_ 11 = .ok (.aload_n 1, 1) := by decide +kernel
theorem dX0_append__12 : decode cX0_append_ 12 = .ok (.iload_n 2, 1) := by decide +kernel
theorem dX0_append__13 : decode cX0_append_ 13 = .ok (.invokevirtual 25, 3) := by decide +kernel
theorem dX0_append__16 : decode cX0_append_ 16 = .ok (.invokevirtual 29, 3) := by decide +kernel
theorem dX0_append__19 : decode cX0_append_ 19 = .ok (.iinc 2 1, 3) := by decide +kernel
theorem dX0_append__22 : decode cX0_append_ 22 = .ok (.goto (-20), 3) := by decide +kernel
theorem dX0_append__25 : decode cX0_append_ 25 = .ok (.return_, 1) := by decide +kernel
theorem dX0_copy_0 : decode cX0_copy 0 = .ok (.aload_n 0, 1) := by decide +kernel
theorem dX0_copy_1 : decode cX0_copy 1 = .ok (.invokevirtual 33, 3) := by decide +kernel
theorem dX0_copy_4 : decode cX0_copy 4 = .ok (.iconst 0, 1) := by decide +kernel
theorem dX0_copy_5 : decode cX0_copy 5 = .ok (.istore_n 2, 1) := by decide +kernel
theorem dX0_copy_6 : decode cX0_copy 6 = .ok (.iload_n 2, 1) := by decide +kernel
theorem dX0_copy_7 : decode cX0_copy 7 = .ok (.aload_n 1, 1) := by decide +kernel
theorem dX0_copy_8 : decode cX0_copy 8 = .ok (.getfield 15, 3) := by decide +kernel
theorem dX0_copy_11 : decode cX0_copy 11 = .ok (.if_icmp .ge 18, 3) := by decide +kernel
theorem dX0_copy_14 : decode cX0_copy 14 = .ok (.aload_n 0, 1) := by decide +kernel
theorem dX0_copy_15 : decode cX0_copy 15 = .ok (.aload_n 1, 1) := by decide +kernel
theorem dX0_copy_16 : decode cX0_copy 16 = .ok (.iload_n 2, 1) := by decide +kernel
theorem dX0_copy_17 : decode cX0_copy 17 = .ok (.invokevirtual 36, 3) := by decide +kernel
theorem dX0_copy_20 : decode cX0_copy 20 = .ok (.invokevirtual 29, 3) := by decide +kernel
theorem dX0_copy_23 : decode cX0_copy 23 = .ok (.iinc 2 1, 3) := by decide +kernel
theorem dX0_copy_26 : decode cX0_copy 26 = .ok (.goto (-20), 3) := by decide +kernel
theorem dX0_copy_29 : decode cX0_copy 29 = .ok (.return_, 1) := by decide +kernel
theorem dX0_appendLastDigits_0 : decode cX0_appendLastDigits 0 = .ok (.iload_n 2, 1) := by decide +kernel
theorem dX0_appendLastDigits_1 : decode cX0_appendLastDigits 1 = .ok (.iconst 2, 1) := by decide +kernel
theorem dX0_appendLastDigits_2 : decode cX0_appendLastDigits 2 = .ok (.if_icmp .ge 4, 3) := by decide +kernel
theorem dX0_appendLastDigits_5 : decode cX0_appendLastDigits 5 = .ok (.return_, 1) := by decide +kernel
theorem dX0_appendLastDigits_6 : decode cX0_appendLastDigits 6 = .ok (.iload_n 1, 1) := by decide +kernel
theorem dX0_appendLastDigits_7 : decode cX0_appendLastDigits 7 = .ok (.istore 4, 2) := by decide +kernel
theorem dX0_appendLastDigits_9 : decode cX0_appendLastDigits 9 = .ok (.iconst 0, 1) := by decide +kernel
theorem dX0_appendLastDigits_10 : decode cX0_appendLastDigits 10 = .ok (.istore 5, 2) := by decide +kernel
theorem dX0_appendLastDigits_12 : decode cX0_appendLastDigits 12 = .ok (.iload 5, 2) := by decide +kernel
theorem dX0_appendLastDigits_14 : decode cX0_appendLastDigits 14 = .ok (.iload_n 3, 1) := by decide +kernel
theorem dX0_appendLastDigits_15 : decode cX0_appendLastDigits 15 = .ok (.if_icmp .ge 48, 3) := by decide +kernel
theorem dX0_appendLastDigits_18 : decode cX0_appendLastDigits 18 = .ok (.iload 4, 2) := by decide +kernel
theorem dX0_appendLastDigits_20 : decode cX0_appendLastDigits 20 = .ok (.iload_n 2, 1) := by decide +kernel
theorem dX0_appendLastDigits_21 : decode cX0_appendLastDigits 21 = .ok (.irem, 1) := by decide +kernel
theorem dX0_appendLastDigits_22 : decode cX0_appendLastDigits 22 = .ok (.istore 6, 2) := by decide +kernel
theorem dX0_appendLastDigits_24 : decode cX0_appendLastDigits 24 = .ok (.aload_n 0, 1) := by decide +kernel
theorem dX0_appendLastDigits_25 : decode cX0_appendLastDigits 25 = .ok (.iload 6, 2) := by decide +kernel
theorem dX0_appendLastDigits_27 : decode cX0_appendLastDigits 27 = .ok (.bipush 10, 2) := by decide +kernel
theorem dX0_appendLastDigits_29 : decode cX0_appendLastDigits 29 = .ok (.if_icmp .ge 11, 3) := by decide +kernel
theorem dX0_appendLastDigits_32 : decode cX0_appendLastDigits 32 = .ok (.bipush 48, 2) := by decide +kernel
theorem dX0_appendLastDigits_34 : decode cX0_appendLastDigits 34 = .ok (.iload 6, 2) := by decide +kernel
theorem dX0_appendLastDigits_36 : decode cX0_appendLastDigits 36 = .ok (.iadd, 1) := by decide +kernel
theorem dX0_appendLastDigits_37 : decode cX0_appendLastDigits 37 = .ok (.goto 11, 3) := by decide +kernel
theorem dX0_appendLastDigits_40 : decode cX0_appendLastDigits 40 = .ok (.bipush 97, 2) := by decide +kernel
theorem dX0_appendLastDigits_42 : decode cX0_appendLastDigits 42 = .ok (.iload 6, 2) := by decide +kernel
theorem dX0_appendLastDigits_44 : decode cX0_appendLastDigits 44 = .ok (.iadd, 1) := by decide +kernel
theorem dX0_appendLastDigits_45 : decode cX0_appendLastDigits 45 = .ok (.bipush 10, 2) := by decide +kernel
theorem dX0_appendLastDigits_47 : decode cX0_appendLastDigits 47 = .ok (.isub, 1) := by decide +kernel
theorem dX0_appendLastDigits_48 : decode cX0_appendLastDigits 48 = .ok (.invokevirtual 29, 3) := by decide +kernel
theorem dX0_appendLastDigits_51 : decode cX0_appendLastDigits 51 = .ok (.iload 4, 2) := by decide +kernel
theorem dX0_appendLastDigits_53 : decode cX0_appendLastDigits 53 = .ok (.iload_n 2, 1) := by decide +kernel
theorem dX0_appendLastDigits_54 : decode cX0_appendLastDigits 54 = .ok (.idiv, 1) := by decide +kernel
theorem dX0_appendLastDigits_55 : decode cX0_appendLastDigits 55 = .ok (.istore 4, 2) := by decide +kernel
theorem dX0_appendLastDigits_57 : decode cX0_appendLastDigits 57 = .ok (.iinc 5 1, 3) := by decide +kernel
theorem dX0_appendLastDigits_60 : decode cX0_appendLastDigits 60 = .ok (.goto (-48), 3) := by decide +kernel
theorem dX0_appendLastDigits_63 : decode cX0_appendLastDigits 63 = .ok (.return_, 1) := by decide +kernel
theorem dX0_dropZerosAtEnd_0 : decode cX0_dropZerosAtEnd 0 = .ok (.aload_n 0, 1) := by decide +kernel
theorem dX0_dropZerosAtEnd_1 : decode cX0_dropZerosAtEnd 1 = .ok (.getfield 15, 3) := by decide +kernel
theorem dX0_dropZerosAtEnd_4 : decode cX0_dropZerosAtEnd 4 = .ok (.iload_n 1, 1) := by decide +kernel
theorem dX0_dropZerosAtEnd_5 : decode cX0_dropZerosAtEnd 5 = .ok (.if_icmp .le 31, 3) := by decide +kernel
theorem dX0_dropZerosAtEnd_8 : decode cX0_dropZerosAtEnd 8 = .ok (.aload_n 0, 1) := by decide +kernel
theorem dX0_dropZerosAtEnd_9 : decode cX0_dropZerosAtEnd 9 = .ok (.aload_n 0, 1) := by decide +kernel
theorem dX0_dropZerosAtEnd_10 : decode cX0_dropZerosAtEnd 10 = .ok (.getfield 15, 3) := by decide +kernel
theorem dX0_dropZerosAtEnd_13 : decode cX0_dropZerosAtEnd 13 = .ok (.iconst 1, 1) := by decide +kernel
theorem dX0_dropZerosAtEnd_14 : decode cX0_dropZerosAtEnd 14 = .ok (.isub, 1) := by decide +kernel
theorem dX0_dropZerosAtEnd_15 : decode cX0_dropZerosAtEnd 15 = .ok (.invokevirtual 36, 3) := by decide +kernel
theorem dX0_dropZerosAtEnd_18 : decode cX0_dropZerosAtEnd 18 = .ok (.bipush 48, 2) := by decide +kernel
theorem dX0_dropZerosAtEnd_20 : decode cX0_dropZerosAtEnd 20 = .ok (.if_icmp .ne 16, 3) := by decide +kernel
theorem dX0_dropZerosAtEnd_23 : decode cX0_dropZerosAtEnd 23 = .ok (.aload_n 0, 1) := by decide +kernel
theorem dX0_dropZerosAtEnd_24 : decode cX0_dropZerosAtEnd 24 = .ok (.dup, 1) := by decide +kernel
theorem dX0_dropZerosAtEnd_25 : decode cX0_dropZerosAtEnd 25 = .ok (.getfield 15, 3) := by decide +kernel
theorem dX0_dropZerosAtEnd_28 : decode cX0_dropZerosAtEnd 28 = .ok (.iconst 1, 1) := by decide +kernel
theorem dX0_dropZerosAtEnd_29 : decode cX0_dropZerosAtEnd 29 = .ok (.isub, 1) := by decide +kernel
theorem dX0_dropZerosAtEnd_30 : decode cX0_dropZerosAtEnd 30 = .ok (.putfield 15, 3) := by decide +kernel
theorem dX0_dropZerosAtEnd_33 : decode cX0_dropZerosAtEnd 33 = .ok (.goto (-33), 3) := by decide +kernel
theorem dX0_dropZerosAtEnd_36 : decode cX0_dropZerosAtEnd 36 = .ok (.return_, 1) := by decide +kernel
theorem dX0_reverseFrom_0 : decode cX0_reverseFrom 0 = .ok (.iload_n 1, 1) := by decide +kernel
theorem dX0_reverseFrom_1 : decode cX0_reverseFrom 1 = .ok (.iconst 0, 1) := by decide +kernel
theorem dX0_reverseFrom_2 : decode cX0_reverseFrom 2 = .ok (.invokestatic 40, 3) := by decide +kernel
theorem dX0_reverseFrom_5 : decode cX0_reverseFrom 5 = .ok (.istore_n 2, 1) := by decide +kernel
theorem dX0_reverseFrom_6 : decode cX0_reverseFrom 6 = .ok (.aload_n 0, 1) := by decide +kernel
theorem dX0_reverseFrom_7 : decode cX0_reverseFrom 7 = .ok (.getfield 15, 3) := by decide +kernel
theorem dX0_reverseFrom_10 : decode cX0_reverseFrom 10 = .ok (.iconst 1, 1) := by decide +kernel
theorem dX0_reverseFrom_11 : decode cX0_reverseFrom 11 = .ok (.isub, 1) := by decide +kernel
theorem dX0_reverseFrom_12 : decode cX0_reverseFrom 12 = .ok (.istore_n 3, 1) := by decide +kernel
theorem dX0_reverseFrom_13 : decode cX0_reverseFrom 13 = .ok (.iload_n 2, 1) := by decide +kernel
theorem dX0_reverseFrom_14 : decode cX0_reverseFrom 14 = .ok (.iload_n 3, 1) := by decide +kernel
theorem dX0_reverseFrom_15 : decode cX0_reverseFrom 15 = .ok (.if_icmp .ge 40, 3) := by decide +kernel
theorem dX0_reverseFrom_18 : decode cX0_reverseFrom 18 = .ok (.aload_n 0, 1) := by decide +kernel
theorem dX0_reverseFrom_19 : decode cX0_reverseFrom 19 = .ok (.getfield 11, 3) := by decide +kernel
theorem dX0_reverseFrom_22 : decode cX0_reverseFrom 22 = .ok (.iload_n 2, 1) := by decide +kernel
theorem dX0_reverseFrom_23 : decode cX0_reverseFrom 23 = .ok (.baload, 1) := by decide +kernel
theorem dX0_reverseFrom_24 : decode cX0_reverseFrom 24 = .ok (.istore 4, 2) := by decide +kernel
theorem dX0_reverseFrom_26 : decode cX0_reverseFrom 26 = .ok (.aload_n 0, 1) := by decide +kernel
theorem dX0_reverseFrom_27 : decode cX0_reverseFrom 27 = .ok (.getfield 11, 3) := by decide +kernel
theorem dX0_reverseFrom_30 : decode cX0_reverseFrom 30 = .ok (.iload_n 2, 1) := by decide +kernel
theorem dX0_reverseFrom_31 : decode cX0_reverseFrom 31 = .ok (.aload_n 0, 1) := by decide +kernel
theorem dX0_reverseFrom_32 : decode cX0_reverseFrom 32 = .ok (.getfield 11, 3) := by decide +kernel
theorem dX0_reverseFrom_35 : decode cX0_reverseFrom 35 = .ok (.iload_n 3, 1) := by decide +kernel
theorem dX0_reverseFrom_36 : decode cX0_reverseFrom 36 = .ok (.baload, 1) := by decide +kernel
theorem dX0_reverseFrom_37 : decode cX0_reverseFrom 37 = .ok (.bastore, 1) := by decide +kernel
theorem dX0_reverseFrom_38 : decode cX0_reverseFrom 38 = .ok (.aload_n 0, 1) := by decide +kernel
theorem dX0_reverseFrom_39 : decode cX0_reverseFrom 39 = .ok (.getfield 11, 3) := by decide +kernel
theorem dX0_reverseFrom_42 : decode cX0_reverseFrom 42 = .ok (.iload_n 3, 1) := by decide +kernel
theorem dX0_reverseFrom_43 : decode cX0_reverseFrom 43 = .ok (.iload 4, 2) := by decide +kernel
theorem dX0_reverseFrom_45 : decode cX0_reverseFrom 45 = .ok (.bastore, 1) := by decide +kernel
theorem dX0_reverseFrom_46 : decode cX0_reverseFrom 46 = .ok (.iinc 2 1, 3) := by decide +kernel
theorem dX0_reverseFrom_49 : decode cX0_reverseFrom 49 = .ok (.iinc 3 (-1), 3) := by decide +kernel
theorem dX0_reverseFrom_52 : decode cX0_reverseFrom 52 = .ok (.goto (-39), 3) := by decide +kernel
theorem dX0_reverseFrom_55 : decode cX0_reverseFrom 55 = .ok (.return_, 1) := by decide +kernel
theorem dX1_init_0 : decode cX1_init 0 = .ok (.aload_n 0, 1) := by decide +kernel
theorem dX1_init_1 : decode cX1_init 1 = .ok (.invokespecial 3, 3) := by decide +kernel
theorem dX1_init_4 : decode cX1_init 4 = .ok (.aload_n 0, 1) := by decide +kernel
theorem dX1_init_5 : decode cX1_init 5 = .ok (.sipush 132, 3) := by decide +kernel
theorem dX1_init_8 : decode cX1_init 8 = .ok (.newarray .int, 2) := by decide +kernel
theorem dX1_init_10 : decode cX1_init 10 = .ok (.putfield 9, 3) := by decide +kernel
theorem dX1_init_13 : decode cX1_init 13 = .ok (.aload_n 0, 1) := by decide +kernel
theorem dX1_init_14 : decode cX1_init 14 = .ok (.iconst 0, 1) := by decide +kernel
theorem dX1_init_15 : decode cX1_init 15 = .ok (.putfield 13, 3) := by decide +kernel
theorem dX1_init_18 : decode cX1_init 18 = .ok (.return_, 1) := by decide +kernel
theorem dX1_set_0 : decode cX1_set 0 = .ok (.aload_n 0, 1) := by decide +kernel
theorem dX1_set_1 : decode cX1_set 1 = .ok (.getfield 9, 3) := by decide +kernel
theorem dX1_set_4 : decode cX1_set 4 = .ok (.iconst 0, 1) := by decide +kernel
theorem dX1_set_5 : decode cX1_set 5 = .ok (.lload_n 1, 1) := by decide +kernel
theorem dX1_set_6 : decode cX1_set 6 = .ok (.l2i, 1) := by decide +kernel
theorem dX1_set_7 : decode cX1_set 7 = .ok (.iastore, 1) := by decide +kernel
theorem dX1_set_8 : decode cX1_set 8 = .ok (.aload_n 0, 1) := by decide +kernel
theorem dX1_set_9 : decode cX1_set 9 = .ok (.getfield 9, 3) := by decide +kernel
theorem dX1_set_12 : decode cX1_set 12 = .ok (.iconst 1, 1) := by decide +kernel
theorem dX1_set_13 : decode cX1_set 13 = .ok (.lload_n 1, 1) := by decide +kernel
theorem dX1_set_14 : decode cX1_set 14 = .ok (.bipush 32, 2) := by decide +kernel
theorem dX1_set_16 : decode cX1_set 16 = .ok (.lushr, 1) := by decide +kernel
theorem dX1_set_17 : decode cX1_set 17 = .ok (.l2i, 1) := by decide +kernel
theorem dX1_set_18 : decode cX1_set 18 = .ok (.iastore, 1) := by decide +kernel
theorem dX1_set_19 : decode cX1_set 19 = .ok (.aload_n 0, 1) := by decide +kernel
theorem dX1_set_20 : decode cX1_set 20 = .ok (.iconst 2, 1) := by decide +kernel
theorem dX1_set_21 : decode cX1_set 21 = .ok (.putfield 13, 3) := by decide +kernel
theorem dX1_set_24 : decode cX1_set 24 = .ok (.aload_n 0, 1) := by decide +kernel
theorem dX1_set_25 : decode cX1_set 25 = .ok (.invokevirtual 17, 3) := by decide +kernel
theorem dX1_set_28 : decode cX1_set 28 = .ok (.return_, 1) := by decide +kernel
theorem dX1_copy_0 : decode cX1_copy 0 = .ok (.iconst 0, 1) := by decide +kernel
theorem dX1_copy_1 : decode cX1_copy 1 = .ok (.istore_n 2, 1) := by decide +kernel
theorem dX1_copy_2 : decode cX1_copy 2 = .ok (.iload_n 2, 1) := by decide +kernel
theorem dX1_copy_3 : decode cX1_copy 3 = .ok (.aload_n 1, 1) := by decide +kernel
theorem dX1_copy_4 : decode cX1_copy 4 = .ok (.getfield 13, 3) := by decide +kernel
theorem dX1_copy_7 : decode cX1_copy 7 = .ok (.if_icmp .ge 28, 3) := by decide +kernel
theorem dX1_copy_10 : decode cX1_copy 10 = .ok (.iload_n 2, 1) := by decide +kernel
theorem dX1_copy_11 : decode cX1_copy 11 = .ok (.sipush 132, 3) := by decide +kernel
theorem dX1_copy_14 : decode cX1_copy 14 = .ok (.if_icmp .ge 21, 3) := by decide +kernel
theorem dX1_copy_17 : decode cX1_copy 17 = .ok (.aload_n 0, 1) := by decide +kernel
theorem dX1_copy_18 : decode cX1_copy 18 = .ok (.getfield 9, 3) := by decide +kernel
theorem dX1_copy_21 : decode cX1_copy 21 = .ok (.iload_n 2, 1) := by decide +kernel
theorem dX1_copy_22 : decode cX1_copy 22 = .ok (.aload_n 1, 1) := by decide +kernel
theorem dX1_copy_23 : decode cX1_copy 23 = .ok (.getfield 9, 3) := by decide +kernel
theorem dX1_copy_26 : decode cX1_copy 26 = .ok (.iload_n 2, 1) := by decide +kernel
theorem dX1_copy_27 : decode cX1_copy 27 = .ok (.iaload, 1) := by decide +kernel
theorem dX1_copy_28 : decode cX1_copy 28 = .ok (.iastore, 1) := by decide +kernel
theorem dX1_copy_29 : decode cX1_copy 29 = .ok (.iinc 2 1, 3) := by decide +kernel
theorem dX1_copy_32 : decode cX1_copy 32 = .ok (.goto (-30), 3) := by decide +kernel
theorem dX1_copy_35 : decode cX1_copy 35 = .ok (.aload_n 0, 1) := by decide +kernel
theorem dX1_copy_36 : decode cX1_copy 36 = .ok (.aload_n 1, 1) := by decide +kernel
theorem dX1_copy_37 : decode cX1_copy 37 = .ok (.getfield 13, 3) := by decide +kernel
theorem dX1_copy_40 : decode cX1_copy 40 = .ok (.putfield 13, 3) := by decide +kernel
theorem dX1_copy_43 : decode cX1_copy 43 = .ok (.return_, 1) := by decide +kernel
theorem dX1_isZero_0 : decode cX1_isZero 0 = .ok (.aload_n 0, 1) := by decide +kernel
theorem dX1_isZero_1 : decode cX1_isZero 1 = .ok (.getfield 13, 3) := by decide +kernel
theorem dX1_isZero_4 : decode cX1_isZero 4 = .ok (.ifCond .ne 7, 3) := by decide +kernel
theorem dX1_isZero_7 : decode cX1_isZero 7 = .ok (.iconst 1, 1) := by decide +kernel
theorem dX1_isZero_8 : decode cX1_isZero 8 = .ok (.goto 4, 3) := by decide +kernel
theorem dX1_isZero_11 : decode cX1_isZero 11 = .ok (.iconst 0, 1) := by decide +kernel
theorem dX1_isZero_12 : decode cX1_isZero 12 = .ok (.ireturn, 1) := by decide +kernel
theorem dX1_isOne_0 : decode cX1_isOne 0 = .ok (.aload_n 0, 1) := by decide +kernel
theorem dX1_isOne_1 : decode cX1_isOne 1 = .ok (.getfield 13, 3) := by decide +kernel
theorem dX1_isOne_4 : decode cX1_isOne 4 = .ok (.iconst 1, 1) := by decide +kernel
theorem dX1_isOne_5 : decode cX1_isOne 5 = .ok (.if_icmp .ne 17, 3) := by decide +kernel
theorem dX1_isOne_8 : decode cX1_isOne 8 = .ok (.aload_n 0, 1) := by decide +kernel
theorem dX1_isOne_9 : decode cX1_isOne 9 = .ok (.getfield 9, 3) := by decide +kernel
theorem dX1_isOne_12 : decode cX1_isOne 12 = .ok (.iconst 0, 1) := by decide +kernel
theorem dX1_isOne_13 : decode cX1_isOne 13 = .ok (.iaload, 1) := by decide +kernel
theorem dX1_isOne_14 : decode cX1_isOne 14 = .ok (.iconst 1, 1) := by decide +kernel
theorem dX1_isOne_15 : decode cX1_isOne 15 = .ok (.if_icmp .ne 7, 3) := by decide +kernel
theorem dX1_isOne_18 : decode cX1_isOne 18 = .ok (.iconst 1, 1) := by decide +kernel
theorem dX1_isOne_19 : decode cX1_isOne 19 = .ok (.goto 4, 3) := by decide +kernel
theorem dX1_isOne_22 : decode cX1_isOne 22 = .ok (.iconst 0, 1) := by decide +kernel
theorem dX1_isOne_23 : decode cX1_isOne 23 = .ok (.ireturn, 1) := by decide +kernel
theorem dX1_bitLength_0 : decode cX1_bitLength 0 = .ok (.aload_n 0, 1) := by decide +kernel
theorem dX1_bitLength_1 : decode cX1_bitLength 1 = .ok (.getfield 13, 3) := by decide +kernel
theorem dX1_bitLength_4 : decode cX1_bitLength 4 = .ok (.ifCond .ne 7, 3) := by decide +kernel
theorem dX1_bitLength_7 : decode cX1_bitLength 7 = .ok (.iconst 0, 1) := by decide +kernel
theorem dX1_bitLength_8 : decode cX1_bitLength 8 = .ok (.goto 24, 3) := by decide +kernel
theorem dX1_bitLength_11 : decode cX1_bitLength 11 = .ok (.bipush 32, 2) := by decide +kernel
theorem dX1_bitLength_13 : decode cX1_bitLength 13 = .ok (.aload_n 0, 1) := by decide +kernel
theorem dX1_bitLength_14 : decode cX1_bitLength 14 = .ok (.getfield 13, 3) := by decide +kernel
theorem dX1_bitLength_17 : decode cX1_bitLength 17 = .ok (.imul, 1) := by decide +kernel
theorem dX1_bitLength_18 : decode cX1_bitLength 18 = .ok (.aload_n 0, 1) := by decide +kernel
theorem dX1_bitLength_19 : decode cX1_bitLength 19 = .ok (.aload_n 0, 1) := by decide +kernel
theorem dX1_bitLength_20 : decode cX1_bitLength 20 = .ok (.getfield 13, 3) := by decide +kernel
theorem dX1_bitLength_23 : decode cX1_bitLength 23 = .ok (.iconst 1, 1) := by decide +kernel
theorem dX1_bitLength_24 : decode cX1_bitLength 24 = .ok (.isub, 1) := by decide +kernel
theorem dX1_bitLength_25 : decode cX1_bitLength 25 = .ok (.invokevirtual 20, 3) := by decide +kernel
theorem dX1_bitLength_28 : decode cX1_bitLength 28 = .ok (.invokestatic 24, 3) := by decide +kernel
theorem dX1_bitLength_31 : decode cX1_bitLength 31 = .ok (.isub, 1) := by decide +kernel
theorem dX1_bitLength_32 : decode cX1_bitLength 32 = .ok (.ireturn, 1) := by decide +kernel
theorem dX1_trailingZeros_0 : decode cX1_trailingZeros 0 = .ok (.iconst 0, 1) := by decide +kernel
theorem dX1_trailingZeros_1 : decode cX1_trailingZeros 1 = .ok (.istore_n 1, 1) := by decide +kernel
theorem dX1_trailingZeros_2 : decode cX1_trailingZeros 2 = .ok (.iload_n 1, 1) := by decide +kernel
theorem dX1_trailingZeros_3 : decode cX1_trailingZeros 3 = .ok (.aload_n 0, 1) := by decide +kernel
theorem dX1_trailingZeros_4 : decode cX1_trailingZeros 4 = .ok (.getfield 13, 3) := by decide +kernel
theorem dX1_trailingZeros_7 : decode cX1_trailingZeros 7 = .ok (.if_icmp .ge 31, 3) := by decide +kernel
theorem dX1_trailingZeros_10 : decode cX1_trailingZeros 10 = .ok (.aload_n 0, 1) := by decide +kernel
theorem dX1_trailingZeros_11 : decode cX1_trailingZeros 11 = .ok (.iload_n 1, 1) := by decide +kernel
theorem dX1_trailingZeros_12 : decode cX1_trailingZeros 12 = .ok (.invokevirtual 20, 3) := by decide +kernel
theorem dX1_trailingZeros_15 : decode cX1_trailingZeros 15 = .ok (.ifCond .eq 17, 3) := by decide +kernel
theorem dX1_trailingZeros_18 : decode cX1_trailingZeros 18 = .ok (.bipush 32, 2) := by decide +kernel
theorem dX1_trailingZeros_20 : decode cX1_trailingZeros 20 = .ok (.iload_n 1, 1) := by decide +kernel
theorem dX1_trailingZeros_21 : decode cX1_trailingZeros 21 = .ok (.imul, 1) := by decide +kernel
theorem dX1_trailingZeros_22 : decode cX1_trailingZeros 22 = .ok (.aload_n 0, 1) := by decide +kernel
theorem dX1_trailingZeros_23 : decode cX1_trailingZeros 23 = .ok (.iload_n 1, 1) := by decide +kernel
theorem dX1_trailingZeros_24 : decode cX1_trailingZeros 24 = .ok (.invokevirtual 20, 3) := by decide +kernel
theorem dX1_trailingZeros_27 : decode cX1_trailingZeros 27 = .ok (.invokestatic 29, 3) := by decide +kernel
theorem dX1_trailingZeros_30 : decode cX1_trailingZeros 30 = .ok (.iadd, 1) := by decide +kernel
theorem dX1_trailingZeros_31 : decode cX1_trailingZeros 31 = .ok (.ireturn, 1) := by decide +kernel
theorem dX1_trailingZeros_32 : decode cX1_trailingZeros 32 = .ok (.iinc 1 1, 3) := by decide +kernel
theorem dX1_trailingZeros_35 : decode cX1_trailingZeros 35 = .ok (.goto (-33), 3) := by decide +kernel
theorem dX1_trailingZeros_38 : decode cX1_trailingZeros 38 = .ok (.iconst 0, 1) := by decide +kernel
theorem dX1_trailingZeros_39 : decode cX1_trailingZeros 39 = .ok (.ireturn, 1) := by decide +kernel
theorem dX1_compare_0 : decode cX1_compare 0 = .ok (.aload_n 0, 1) := by decide +kernel
theorem dX1_compare_1 : decode cX1_compare 1 = .ok (.getfield 13, 3) := by decide +kernel
theorem dX1_compare_4 : decode cX1_compare 4 = .ok (.aload_n 1, 1) := by decide +kernel
theorem dX1_compare_5 : decode cX1_compare 5 = .ok (.getfield 13, 3) := by decide +kernel
theorem dX1_compare_8 : decode cX1_compare 8 = .ok (.if_icmp .eq 15, 3) := by decide +kernel
theorem dX1_compare_11 : decode cX1_compare 11 = .ok (.aload_n 0, 1) := by decide +kernel
theorem dX1_compare_12 : decode cX1_compare 12 = .ok (.getfield 13, 3) := by decide +kernel
theorem dX1_compare_15 : decode cX1_compare 15 = .ok (.aload_n 1, 1) := by decide +kernel
theorem dX1_compare_16 : decode cX1_compare 16 = .ok (.getfield 13, 3) := by decide +kernel
theorem dX1_compare_19 : decode cX1_compare 19 = .ok (.invokestatic 32, 3) := by decide +kernel
theorem dX1_compare_22 : decode cX1_compare 22 = .ok (.ireturn, 1) := by decide +kernel
theorem dX1_compare_23 : decode cX1_compare 23 = .ok (.aload_n 0, 1) := by decide +kernel
theorem dX1_compare_24 : decode cX1_compare 24 = .ok (.getfield 13, 3) := by decide +kernel
theorem dX1_compare_27 : decode cX1_compare 27 = .ok (.iconst 1, 1) := by decide +kernel
theorem dX1_compare_28 : decode cX1_compare 28 = .ok (.isub, 1) := by decide +kernel
theorem dX1_compare_29 : decode cX1_compare 29 = .ok (.istore_n 2, 1) := by decide +kernel
theorem dX1_compare_30 : decode cX1_compare 30 = .ok (.iload_n 2, 1) := by decide +kernel
theorem dX1_compare_31 : decode cX1_compare 31 = .ok (.ifCond .lt 29, 3) := by decide +kernel
theorem dX1_compare_34 : decode cX1_compare 34 = .ok (.aload_n 0, 1) := by decide +kernel
theorem dX1_compare_35 : decode cX1_compare 35 = .ok (.iload_n 2, 1) := by decide +kernel
theorem dX1_compare_36 : decode cX1_compare 36 = .ok (.invokevirtual 20, 3) := by decide +kernel
theorem dX1_compare_39 : decode cX1_compare 39 = .ok (.aload_n 1, 1) := by decide +kernel
theorem dX1_compare_40 : decode cX1_compare 40 = .ok (.iload_n 2, 1) := by decide +kernel
theorem dX1_compare_41 : decode cX1_compare 41 = .ok (.invokevirtual 20, 3) := by decide +kernel
theorem dX1_compare_44 : decode cX1_compare 44 = .ok (.invokestatic 36, 3) := by decide +kernel
theorem dX1_compare_47 : decode cX1_compare 47 = .ok (.istore_n 3, 1) := by decide +kernel
theorem dX1_compare_48 : decode cX1_compare 48 = .ok (.iload_n 3, 1) := by decide +kernel
theorem dX1_compare_49 : decode cX1_compare 49 = .ok (.ifCond .eq 5, 3) := by decide +kernel
theorem dX1_compare_52 : decode cX1_compare 52 = .ok (.iload_n 3, 1) := by decide +kernel
theorem dX1_compare_53 : decode cX1_compare 53 = .ok (.ireturn, 1) := by decide +kernel
theorem dX1_compare_54 : decode cX1_compare 54 = .ok (.iinc 2 (-1), 3) := by decide +kernel
theorem dX1_compare_57 : decode cX1_compare 57 = .ok (.goto (-27), 3) := by decide +kernel
theorem dX1_compare_60 : decode cX1_compare 60 = .ok (.iconst 0, 1) := by decide +kernel
theorem dX1_compare_61 : decode cX1_compare 61 = .ok (.ireturn, 1) := by decide +kernel
theorem dX1_add_0 : decode cX1_add 0 = .ok (.aload_n 0, 1) := by decide +kernel
theorem dX1_add_1 : decode cX1_add 1 = .ok (.getfield 13, 3) := by decide +kernel
theorem dX1_add_4 : decode cX1_add 4 = .ok (.aload_n 1, 1) := by decide +kernel
theorem dX1_add_5 : decode cX1_add 5 = .ok (.getfield 13, 3) := by decide +kernel
theorem dX1_add_8 : decode cX1_add 8 = .ok (.invokestatic 39, 3) := by decide +kernel
theorem dX1_add_11 : decode cX1_add 11 = .ok (.istore_n 2, 1) := by decide +kernel
theorem dX1_add_12 : decode cX1_add 12 = .ok (.lconst 0, 1) := by decide +kernel
theorem dX1_add_13 : decode cX1_add 13 = .ok (.lstore_n 3, 1) := by decide +kernel
theorem dX1_add_14 : decode cX1_add 14 = .ok (.iconst 0, 1) := by decide +kernel
theorem dX1_add_15 : decode cX1_add 15 = .ok (.istore 5, 2) := by decide +kernel
theorem dX1_add_17 : decode cX1_add 17 = .ok (.iload 5, 2) := by decide +kernel
theorem dX1_add_19 : decode cX1_add 19 = .ok (.iload_n 2, 1) := by decide +kernel
theorem dX1_add_20 : decode cX1_add 20 = .ok (.if_icmp .ge 57, 3) := by decide +kernel
theorem dX1_add_23 : decode cX1_add 23 = .ok (.iload 5, 2) := by decide +kernel
theorem dX1_add_25 : decode cX1_add 25 = .ok (.sipush 132, 3) := by decide +kernel
theorem dX1_add_28 : decode cX1_add 28 = .ok (.if_icmp .ge 49, 3) := by decide +kernel
theorem dX1_add_31 : decode cX1_add 31 = .ok (.lload_n 3, 1) := by decide +kernel
theorem dX1_add_32 : decode cX1_add 32 = .ok (.aload_n 0, 1) := by decide +kernel
theorem dX1_add_33 : decode cX1_add 33 = .ok (.iload 5, 2) := by decide +kernel
theorem dX1_add_35 : decode cX1_add 35 = .ok (.invokevirtual 20, 3) := by decide +kernel
theorem dX1_add_38 : decode cX1_add 38 = .ok (.i2l, 1) := by decide +kernel
theorem dX1_add_39 : decode cX1_add 39 = .ok (.ldc2_w 44, 3) := by decide +kernel
theorem dX1_add_42 : decode cX1_add 42 = .ok (.land, 1) := by decide +kernel
theorem dX1_add_43 : decode cX1_add 43 = .ok (.aload_n 1, 1) := by decide +kernel
theorem dX1_add_44 : decode cX1_add 44 = .ok (.iload 5, 2) := by decide +kernel
theorem dX1_add_46 : decode cX1_add 46 = .ok (.invokevirtual 20, 3) := by decide +kernel
theorem dX1_add_49 : decode cX1_add 49 = .ok (.i2l, 1) := by decide +kernel
theorem dX1_add_50 : decode cX1_add 50 = .ok (.ldc2_w 44, 3) := by decide +kernel
theorem dX1_add_53 : decode cX1_add 53 = .ok (.land, 1) := by decide +kernel
theorem dX1_add_54 : decode cX1_add 54 = .ok (.ladd, 1) := by decide +kernel
theorem dX1_add_55 : decode cX1_add 55 = .ok (.ladd, 1) := by decide +kernel
theorem dX1_add_56 : decode cX1_add 56 = .ok (.lstore_n 3, 1) := by decide +kernel
theorem dX1_add_57 : decode cX1_add 57 = .ok (.aload_n 0, 1) := by decide +kernel
theorem dX1_add_58 : decode cX1_add 58 = .ok (.getfield 9, 3) := by decide +kernel
theorem dX1_add_61 : decode cX1_add 61 = .ok (.iload 5, 2) := by decide +kernel
theorem dX1_add_63 : decode cX1_add 63 = .ok (.lload_n 3, 1) := by decide +kernel
theorem dX1_add_64 : decode cX1_add 64 = .ok (.l2i, 1) := by decide +kernel
theorem dX1_add_65 : decode cX1_add 65 = .ok (.iastore, 1) := by decide +kernel
theorem dX1_add_66 : decode cX1_add 66 = .ok (.lload_n 3, 1) := by decide +kernel
theorem dX1_add_67 : decode cX1_add 67 = .ok (.bipush 32, 2) := by decide +kernel
theorem dX1_add_69 : decode cX1_add 69 = .ok (.lushr, 1) := by decide +kernel
theorem dX1_add_70 : decode cX1_add 70 = .ok (.lstore_n 3, 1) := by decide +kernel
theorem dX1_add_71 : decode cX1_add 71 = .ok (.iinc 5 1, 3) := by decide +kernel
theorem dX1_add_74 : decode cX1_add 74 = .ok (.goto (-57), 3) := by decide +kernel
theorem dX1_add_77 : decode cX1_add 77 = .ok (.aload_n 0, 1) := by decide +kernel
theorem dX1_add_78 : decode cX1_add 78 = .ok (.iload_n 2, 1) := by decide +kernel
theorem dX1_add_79 : decode cX1_add 79 = .ok (.putfield 13, 3) := by decide +kernel
theorem dX1_add_82 : decode cX1_add 82 = .ok (.aload_n 0, 1) := by decide +kernel
theorem dX1_add_83 : decode cX1_add 83 = .ok (.lload_n 3, 1) := by decide +kernel
theorem dX1_add_84 : decode cX1_add 84 = .ok (.l2i, 1) := by decide +kernel
theorem dX1_add_85 : decode cX1_add 85 = .ok (.invokevirtual 46, 3) := by decide +kernel
theorem dX1_add_88 : decode cX1_add 88 = .ok (.return_, 1) := by decide +kernel
theorem dX1_subtract_0 : decode cX1_subtract 0 = .ok (.lconst 0, 1) := by decide +kernel
theorem dX1_subtract_1 : decode cX1_subtract 1 = .ok (.lstore_n 2, 1) := by decide +kernel
theorem dX1_subtract_2 : decode cX1_subtract 2 = .ok (.iconst 0, 1) := by decide +kernel
theorem dX1_subtract_3 : decode cX1_subtract 3 = .ok (.istore 4, 2) := by decide +kernel
theorem dX1_subtract_5 : decode cX1_subtract 5 = .ok (.iload 4, 2) := by decide +kernel
theorem dX1_subtract_7 : decode cX1_subtract 7 = .ok (.aload_n 0, 1) := by decide +kernel
theorem dX1_subtract_8 : decode cX1_subtract 8 = .ok (.getfield 13, 3) := by decide +kernel
theorem dX1_subtract_11 : decode cX1_subtract 11 = .ok (.if_icmp .ge 58, 3) := by decide +kernel
theorem dX1_subtract_14 : decode cX1_subtract 14 = .ok (.iload 4, 2) := by decide +kernel
theorem dX1_subtract_16 : decode cX1_subtract 16 = .ok (.sipush 132, 3) := by decide +kernel
theorem dX1_subtract_19 : decode cX1_subtract 19 = .ok (.if_icmp .ge 50, 3) := by decide +kernel
theorem dX1_subtract_22 : decode cX1_subtract 22 = .ok (.lload_n 2, 1) := by decide +kernel
theorem dX1_subtract_23 : decode cX1_subtract 23 = .ok (.aload_n 0, 1) := by decide +kernel
theorem dX1_subtract_24 : decode cX1_subtract 24 = .ok (.getfield 9, 3) := by decide +kernel
theorem dX1_subtract_27 : decode cX1_subtract 27 = .ok (.iload 4, 2) := by decide +kernel
theorem dX1_subtract_29 : decode cX1_subtract 29 = .ok (.iaload, 1) := by decide +kernel
theorem dX1_subtract_30 : decode cX1_subtract 30 = .ok (.i2l, 1) := by decide +kernel
theorem dX1_subtract_31 : decode cX1_subtract 31 = .ok (.ldc2_w 44, 3) := by decide +kernel
theorem dX1_subtract_34 : decode cX1_subtract 34 = .ok (.land, 1) := by decide +kernel
theorem dX1_subtract_35 : decode cX1_subtract 35 = .ok (.aload_n 1, 1) := by decide +kernel
theorem dX1_subtract_36 : decode cX1_subtract 36 = .ok (.iload 4, 2) := by decide +kernel
theorem dX1_subtract_38 : decode cX1_subtract 38 = .ok (.invokevirtual 20, 3) := by decide +kernel
theorem dX1_subtract_41 : decode cX1_subtract 41 = .ok (.i2l, 1) := by decide +kernel
theorem dX1_subtract_42 : decode cX1_subtract 42 = .ok (.ldc2_w 44, 3) := by decide +kernel
theorem dX1_subtract_45 : decode cX1_subtract 45 = .ok (.land, 1) := by decide +kernel
theorem dX1_subtract_46 : decode cX1_subtract 46 = .ok (.lsub, 1) := by decide +kernel
theorem dX1_subtract_47 : decode cX1_subtract 47 = .ok (.ladd, 1) := by decide +kernel
theorem dX1_subtract_48 : decode cX1_subtract 48 = .ok (.lstore_n 2, 1) := by decide +kernel
theorem dX1_subtract_49 : decode cX1_subtract 49 = .ok (.aload_n 0, 1) := by decide +kernel
theorem dX1_subtract_50 : decode cX1_subtract 50 = .ok (.getfield 9, 3) := by decide +kernel
theorem dX1_subtract_53 : decode cX1_subtract 53 = .ok (.iload 4, 2) := by decide +kernel
theorem dX1_subtract_55 : decode cX1_subtract 55 = .ok (.lload_n 2, 1) := by decide +kernel
theorem dX1_subtract_56 : decode cX1_subtract 56 = .ok (.l2i, 1) := by decide +kernel
theorem dX1_subtract_57 : decode cX1_subtract 57 = .ok (.iastore, 1) := by decide +kernel
theorem dX1_subtract_58 : decode cX1_subtract 58 = .ok (.lload_n 2, 1) := by decide +kernel
theorem dX1_subtract_59 : decode cX1_subtract 59 = .ok (.bipush 32, 2) := by decide +kernel
theorem dX1_subtract_61 : decode cX1_subtract 61 = .ok (.lshr, 1) := by decide +kernel
theorem dX1_subtract_62 : decode cX1_subtract 62 = .ok (.lstore_n 2, 1) := by decide +kernel
theorem dX1_subtract_63 : decode cX1_subtract 63 = .ok (.iinc 4 1, 3) := by decide +kernel
theorem dX1_subtract_66 : decode cX1_subtract 66 = .ok (.goto (-61), 3) := by decide +kernel
theorem dX1_subtract_69 : decode cX1_subtract 69 = .ok (.aload_n 0, 1) := by decide +kernel
theorem dX1_subtract_70 : decode cX1_subtract 70 = .ok (.invokevirtual 17, 3) := by decide +kernel
theorem dX1_subtract_73 : decode cX1_subtract 73 = .ok (.return_, 1) := by decide +kernel
theorem dX1_multiplyAdd_0 : decode cX1_multiplyAdd 0 = .ok (.iload_n 2, 1) := by decide +kernel
theorem dX1_multiplyAdd_1 : decode cX1_multiplyAdd 1 = .ok (.i2l, 1) := by decide +kernel
theorem dX1_multiplyAdd_2 : decode cX1_multiplyAdd 2 = .ok (.lstore_n 3, 1) := by decide +kernel
theorem dX1_multiplyAdd_3 : decode cX1_multiplyAdd 3 = .ok (.iconst 0, 1) := by decide +kernel
theorem dX1_multiplyAdd_4 : decode cX1_multiplyAdd 4 = .ok (.istore 5, 2) := by decide +kernel
theorem dX1_multiplyAdd_6 : decode cX1_multiplyAdd 6 = .ok (.iload 5, 2) := by decide +kernel
theorem dX1_multiplyAdd_8 : decode cX1_multiplyAdd 8 = .ok (.aload_n 0, 1) := by decide +kernel
theorem dX1_multiplyAdd_9 : decode cX1_multiplyAdd 9 = .ok (.getfield 13, 3) := by decide +kernel
theorem dX1_multiplyAdd_12 : decode cX1_multiplyAdd 12 = .ok (.if_icmp .ge 49, 3) := by decide +kernel
theorem dX1_multiplyAdd_15 : decode cX1_multiplyAdd 15 = .ok (.iload 5, 2) := by decide +kernel
theorem dX1_multiplyAdd_17 : decode cX1_multiplyAdd 17 = .ok (.sipush 132, 3) := by decide +kernel
theorem dX1_multiplyAdd_20 : decode cX1_multiplyAdd 20 = .ok (.if_icmp .ge 41, 3) := by decide +kernel
theorem dX1_multiplyAdd_23 : decode cX1_multiplyAdd 23 = .ok (.lload_n 3, 1) := by decide +kernel
theorem dX1_multiplyAdd_24 : decode cX1_multiplyAdd 24 = .ok (.aload_n 0, 1) := by decide +kernel
theorem dX1_multiplyAdd_25 : decode cX1_multiplyAdd 25 = .ok (.getfield 9, 3) := by decide +kernel
theorem dX1_multiplyAdd_28 : decode cX1_multiplyAdd 28 = .ok (.iload 5, 2) := by decide +kernel
theorem dX1_multiplyAdd_30 : decode cX1_multiplyAdd 30 = .ok (.iaload, 1) := by decide +kernel
theorem dX1_multiplyAdd_31 : decode cX1_multiplyAdd 31 = .ok (.i2l, 1) := by decide +kernel
theorem dX1_multiplyAdd_32 : decode cX1_multiplyAdd 32 = .ok (.ldc2_w 44, 3) := by decide +kernel
theorem dX1_multiplyAdd_35 : decode cX1_multiplyAdd 35 = .ok (.land, 1) := by decide +kernel
theorem dX1_multiplyAdd_36 : decode cX1_multiplyAdd 36 = .ok (.iload_n 1, 1) := by decide +kernel
theorem dX1_multiplyAdd_37 : decode cX1_multiplyAdd 37 = .ok (.i2l, 1) := by decide +kernel
theorem dX1_multiplyAdd_38 : decode cX1_multiplyAdd 38 = .ok (.lmul, 1) := by decide +kernel
theorem dX1_multiplyAdd_39 : decode cX1_multiplyAdd 39 = .ok (.ladd, 1) := by decide +kernel
theorem dX1_multiplyAdd_40 : decode cX1_multiplyAdd 40 = .ok (.lstore_n 3, 1) := by decide +kernel
theorem dX1_multiplyAdd_41 : decode cX1_multiplyAdd 41 = .ok (.aload_n 0, 1) := by decide +kernel
theorem dX1_multiplyAdd_42 : decode cX1_multiplyAdd 42 = .ok (.getfield 9, 3) := by decide +kernel
theorem dX1_multiplyAdd_45 : decode cX1_multiplyAdd 45 = .ok (.iload 5, 2) := by decide +kernel
theorem dX1_multiplyAdd_47 : decode cX1_multiplyAdd 47 = .ok (.lload_n 3, 1) := by decide +kernel
theorem dX1_multiplyAdd_48 : decode cX1_multiplyAdd 48 = .ok (.l2i, 1) := by decide +kernel
theorem dX1_multiplyAdd_49 : decode cX1_multiplyAdd 49 = .ok (.iastore, 1) := by decide +kernel
theorem dX1_multiplyAdd_50 : decode cX1_multiplyAdd 50 = .ok (.lload_n 3, 1) := by decide +kernel
theorem dX1_multiplyAdd_51 : decode cX1_multiplyAdd 51 = .ok (.bipush 32, 2) := by decide +kernel
theorem dX1_multiplyAdd_53 : decode cX1_multiplyAdd 53 = .ok (.lushr, 1) := by decide +kernel
theorem dX1_multiplyAdd_54 : decode cX1_multiplyAdd 54 = .ok (.lstore_n 3, 1) := by decide +kernel
theorem dX1_multiplyAdd_55 : decode cX1_multiplyAdd 55 = .ok (.iinc 5 1, 3) := by decide +kernel
theorem dX1_multiplyAdd_58 : decode cX1_multiplyAdd 58 = .ok (.goto (-52), 3) := by decide +kernel
theorem dX1_multiplyAdd_61 : decode cX1_multiplyAdd 61 = .ok (.aload_n 0, 1) := by decide +kernel
theorem dX1_multiplyAdd_62 : decode cX1_multiplyAdd 62 = .ok (.lload_n 3, 1) := by decide +kernel
theorem dX1_multiplyAdd_63 : decode cX1_multiplyAdd 63 = .ok (.l2i, 1) := by decide +kernel
theorem dX1_multiplyAdd_64 : decode cX1_multiplyAdd 64 = .ok (.invokevirtual 46, 3) := by decide +kernel
theorem dX1_multiplyAdd_67 : decode cX1_multiplyAdd 67 = .ok (.return_, 1) := by decide +kernel
theorem dX1_multiplyByFives_0 : decode cX1_multiplyByFives 0 = .ok (.iload_n 1, 1) := by decide +kernel
theorem dX1_multiplyByFives_1 : decode cX1_multiplyByFives 1 = .ok (.istore_n 2, 1) := by decide +kernel
theorem dX1_multiplyByFives_2 : decode cX1_multiplyByFives 2 = .ok (.iload_n 2, 1) := by decide +kernel
theorem dX1_multiplyByFives_3 : decode cX1_multiplyByFives 3 = .ok (.ifCond .le 18, 3) := by decide +kernel
theorem dX1_multiplyByFives_6 : decode cX1_multiplyByFives 6 = .ok (.aload_n 0, 1) := by decide +kernel
theorem dX1_multiplyByFives_7 : decode cX1_multiplyByFives 7 = .ok (.iload_n 2, 1) := by decide +kernel
theorem dX1_multiplyByFives_8 : decode cX1_multiplyByFives 8 = .ok (.invokestatic 50, 3) := by decide +kernel
theorem dX1_multiplyByFives_11 : decode cX1_multiplyByFives 11 = .ok (.iconst 0, 1) := by decide +kernel
theorem dX1_multiplyByFives_12 : decode cX1_multiplyByFives 12 = .ok (.invokevirtual 53, 3) := by decide +kernel
theorem dX1_multiplyByFives_15 : decode cX1_multiplyByFives 15 = .ok (.iinc 2 (-13), 3) := by decide +kernel
theorem dX1_multiplyByFives_18 : decode cX1_multiplyByFives 18 = .ok (.goto (-16), 3) := by decide +kernel
theorem dX1_multiplyByFives_21 : decode cX1_multiplyByFives 21 = .ok (.return_, 1) := by decide +kernel
theorem dX1_takeFives_0 : decode cX1_takeFives 0 = .ok (.bipush 13, 2) := by decide +kernel
theorem dX1_takeFives_2 : decode cX1_takeFives 2 = .ok (.aload_n 0, 1) := by decide +kernel
theorem dX1_takeFives_3 : decode cX1_takeFives 3 = .ok (.bipush 13, 2) := by decide +kernel
theorem dX1_takeFives_5 : decode cX1_takeFives 5 = .ok (.invokestatic 50, 3) := by decide +kernel
theorem dX1_takeFives_8 : decode cX1_takeFives 8 = .ok (.iload_n 1, 1) := by decide +kernel
theorem dX1_takeFives_9 : decode cX1_takeFives 9 = .ok (.bipush 13, 2) := by decide +kernel
theorem dX1_takeFives_11 : decode cX1_takeFives 11 = .ok (.idiv, 1) := by decide +kernel
theorem dX1_takeFives_12 : decode cX1_takeFives 12 = .ok (.invokevirtual 57, 3) := by decide +kernel
theorem dX1_takeFives_15 : decode cX1_takeFives 15 = .ok (.imul, 1) := by decide +kernel
theorem dX1_takeFives_16 : decode cX1_takeFives 16 = .ok (.istore_n 2, 1) := by decide +kernel
theorem dX1_takeFives_17 : decode cX1_takeFives 17 = .ok (.iload_n 2, 1) := by decide +kernel
theorem dX1_takeFives_18 : decode cX1_takeFives 18 = .ok (.aload_n 0, 1) := by decide +kernel
theorem dX1_takeFives_19 : decode cX1_takeFives 19 = .ok (.iconst 5, 1) := by decide +kernel
theorem dX1_takeFives_20 : decode cX1_takeFives 20 = .ok (.iload_n 1, 1) := by decide +kernel
theorem dX1_takeFives_21 : decode cX1_takeFives 21 = .ok (.iload_n 2, 1) := by decide +kernel
theorem dX1_takeFives_22 : decode cX1_takeFives 22 = .ok (.isub, 1) := by decide +kernel
theorem dX1_takeFives_23 : decode cX1_takeFives 23 = .ok (.invokevirtual 57, 3) := by decide +kernel
theorem dX1_takeFives_26 : decode cX1_takeFives 26 = .ok (.iadd, 1) := by decide +kernel
theorem dX1_takeFives_27 : decode cX1_takeFives 27 = .ok (.ireturn, 1) := by decide +kernel
theorem dX1_takeFactor_0 : decode cX1_takeFactor 0 = .ok (.iconst 0, 1) := by decide +kernel
theorem dX1_takeFactor_1 : decode cX1_takeFactor 1 = .ok (.istore_n 3, 1) := by decide +kernel
theorem dX1_takeFactor_2 : decode cX1_takeFactor 2 = .ok (.iload_n 3, 1) := by decide +kernel
theorem dX1_takeFactor_3 : decode cX1_takeFactor 3 = .ok (.iload_n 2, 1) := by decide +kernel
theorem dX1_takeFactor_4 : decode cX1_takeFactor 4 = .ok (.if_icmp .ge 30, 3) := by decide +kernel
theorem dX1_takeFactor_7 : decode cX1_takeFactor 7 = .ok (.aload_n 0, 1) := by decide +kernel
theorem dX1_takeFactor_8 : decode cX1_takeFactor 8 = .ok (.getfield 13, 3) := by decide +kernel
theorem dX1_takeFactor_11 : decode cX1_takeFactor 11 = .ok (.ifCond .le 23, 3) := by decide +kernel
theorem dX1_takeFactor_14 : decode cX1_takeFactor 14 = .ok (.aload_n 0, 1) := by decide +kernel
theorem dX1_takeFactor_15 : decode cX1_takeFactor 15 = .ok (.iload_n 1, 1) := by decide +kernel
theorem dX1_takeFactor_16 : decode cX1_takeFactor 16 = .ok (.invokevirtual 60, 3) := by decide +kernel
theorem dX1_takeFactor_19 : decode cX1_takeFactor 19 = .ok (.ifCond .ne 15, 3) := by decide +kernel
theorem dX1_takeFactor_22 : decode cX1_takeFactor 22 = .ok (.aload_n 0, 1) := by decide +kernel
theorem dX1_takeFactor_23 : decode cX1_takeFactor 23 = .ok (.iload_n 1, 1) := by decide +kernel
theorem dX1_takeFactor_24 : decode cX1_takeFactor 24 = .ok (.invokevirtual 63, 3) := by decide +kernel
theorem dX1_takeFactor_27 : decode cX1_takeFactor 27 = .ok (.pop, 1) := by decide +kernel
theorem dX1_takeFactor_28 : decode cX1_takeFactor 28 = .ok (.iinc 3 1, 3) := by decide +kernel
theorem dX1_takeFactor_31 : decode cX1_takeFactor 31 = .ok (.goto (-29), 3) := by decide +kernel
theorem dX1_takeFactor_34 : decode cX1_takeFactor 34 = .ok (.iload_n 3, 1) := by decide +kernel
theorem dX1_takeFactor_35 : decode cX1_takeFactor 35 = .ok (.ireturn, 1) := by decide +kernel
theorem dX1_powerOfFive_0 : decode cX1_powerOfFive 0 = .ok (.iload_n 0, 1) := by decide +kernel
theorem dX1_powerOfFive_1 : decode cX1_powerOfFive 1 = .ok (.bipush 13, 2) := by decide +kernel
theorem dX1_powerOfFive_3 : decode cX1_powerOfFive 3 = .ok (.invokestatic 66, 3) := by decide +kernel
theorem dX1_powerOfFive_6 : decode cX1_powerOfFive 6 = .ok (.istore_n 1, 1) := by decide +kernel
theorem dX1_powerOfFive_7 : decode cX1_powerOfFive 7 = .ok (.iload_n 1, 1) := by decide +kernel
theorem dX1_powerOfFive_8 : decode cX1_powerOfFive 8 = .ok (.ifCond .lt 19, 3) := by decide +kernel
theorem dX1_powerOfFive_11 : decode cX1_powerOfFive 11 = .ok (.iload_n 1, 1) := by decide +kernel
theorem dX1_powerOfFive_12 : decode cX1_powerOfFive 12 = .ok (.getstatic 69, 3) := by decide +kernel
theorem dX1_powerOfFive_15 : decode cX1_powerOfFive 15 = .ok (.arraylength, 1) := by decide +kernel
theorem dX1_powerOfFive_16 : decode cX1_powerOfFive 16 = .ok (.if_icmp .ge 11, 3) := by decide +kernel
theorem dX1_powerOfFive_19 : decode cX1_powerOfFive 19 = .ok (.getstatic 69, 3) := by decide +kernel
theorem dX1_powerOfFive_22 : decode cX1_powerOfFive 22 = .ok (.iload_n 1, 1) := by decide +kernel
theorem dX1_powerOfFive_23 : decode cX1_powerOfFive 23 = .ok (.iaload, 1) := by decide +kernel
theorem dX1_powerOfFive_24 : decode cX1_powerOfFive 24 = .ok (.goto 4, 3) := by decide +kernel
theorem dX1_powerOfFive_27 : decode cX1_powerOfFive 27 = .ok (.iconst 1, 1) := by decide +kernel
theorem dX1_powerOfFive_28 : decode cX1_powerOfFive 28 = .ok (.ireturn, 1) := by decide +kernel
theorem dX1_remainder_0 : decode cX1_remainder 0 = .ok (.iload_n 1, 1) := by decide +kernel
theorem dX1_remainder_1 : decode cX1_remainder 1 = .ok (.ifCond .gt 5, 3) := by decide +kernel
theorem dX1_remainder_4 : decode cX1_remainder 4 = .ok (.iconst 0, 1) := by decide +kernel
theorem dX1_remainder_5 : decode cX1_remainder 5 = .ok (.ireturn, 1) := by decide +kernel
theorem dX1_remainder_6 : decode cX1_remainder 6 = .ok (.lconst 0, 1) := by decide +kernel
theorem dX1_remainder_7 : decode cX1_remainder 7 = .ok (.lstore_n 2, 1) := by decide +kernel
theorem dX1_remainder_8 : decode cX1_remainder 8 = .ok (.aload_n 0, 1) := by decide +kernel
theorem dX1_remainder_9 : decode cX1_remainder 9 = .ok (.getfield 13, 3) := by decide +kernel
theorem dX1_remainder_12 : decode cX1_remainder 12 = .ok (.iconst 1, 1) := by decide +kernel
theorem dX1_remainder_13 : decode cX1_remainder 13 = .ok (.isub, 1) := by decide +kernel
theorem dX1_remainder_14 : decode cX1_remainder 14 = .ok (.istore 4, 2) := by decide +kernel
theorem dX1_remainder_16 : decode cX1_remainder 16 = .ok (.iload 4, 2) := by decide +kernel
theorem dX1_remainder_18 : decode cX1_remainder 18 = .ok (.ifCond .lt 29, 3) := by decide +kernel
theorem dX1_remainder_21 : decode cX1_remainder 21 = .ok (.lload_n 2, 1) := by decide +kernel
theorem dX1_remainder_22 : decode cX1_remainder 22 = .ok (.bipush 32, 2) := by decide +kernel
theorem dX1_remainder_24 : decode cX1_remainder 24 = .ok (.lshl, 1) := by decide +kernel
theorem dX1_remainder_25 : decode cX1_remainder 25 = .ok (.aload_n 0, 1) := by decide +kernel
theorem dX1_remainder_26 : decode cX1_remainder 26 = .ok (.iload 4, 2) := by decide +kernel
theorem dX1_remainder_28 : decode cX1_remainder 28 = .ok (.invokevirtual 20, 3) := by decide +kernel
theorem dX1_remainder_31 : decode cX1_remainder 31 = .ok (.i2l, 1) := by decide +kernel
theorem dX1_remainder_32 : decode cX1_remainder 32 = .ok (.ldc2_w 44, 3) := by decide +kernel
theorem dX1_remainder_35 : decode cX1_remainder 35 = .ok (.land, 1) := by decide +kernel
theorem dX1_remainder_36 : decode cX1_remainder 36 = .ok (.lor, 1) := by decide +kernel
theorem dX1_remainder_37 : decode cX1_remainder 37 = .ok (.iload_n 1, 1) := by decide +kernel
theorem dX1_remainder_38 : decode cX1_remainder 38 = .ok (.i2l, 1) := by decide +kernel
theorem dX1_remainder_39 : decode cX1_remainder 39 = .ok (.lrem, 1) := by decide +kernel
theorem dX1_remainder_40 : decode cX1_remainder 40 = .ok (.lstore_n 2, 1) := by decide +kernel
theorem dX1_remainder_41 : decode cX1_remainder 41 = .ok (.iinc 4 (-1), 3) := by decide +kernel
theorem dX1_remainder_44 : decode cX1_remainder 44 = .ok (.goto (-28), 3) := by decide +kernel
theorem dX1_remainder_47 : decode cX1_remainder 47 = .ok (.lload_n 2, 1) := by decide +kernel
theorem dX1_remainder_48 : decode cX1_remainder 48 = .ok (.l2i, 1) := by decide +kernel
theorem dX1_remainder_49 : decode cX1_remainder 49 = .ok (.ireturn, 1) := by decide +kernel
theorem dX1_divideBySmall_0 : decode cX1_divideBySmall 0 = .ok (.iload_n 1, 1) := by decide +kernel
theorem dX1_divideBySmall_1 : decode cX1_divideBySmall 1 = .ok (.ifCond .gt 5, 3) := by decide +kernel
theorem dX1_divideBySmall_4 : decode cX1_divideBySmall 4 = .ok (.iconst 0, 1) := by decide +kernel
theorem dX1_divideBySmall_5 : decode cX1_divideBySmall 5 = .ok (.ireturn, 1) := by decide +kernel
theorem dX1_divideBySmall_6 : decode cX1_divideBySmall 6 = .ok (.lconst 0, 1) := by decide +kernel
theorem dX1_divideBySmall_7 : decode cX1_divideBySmall 7 = .ok (.lstore_n 2, 1) := by decide +kernel
theorem dX1_divideBySmall_8 : decode cX1_divideBySmall 8 = .ok (.aload_n 0, 1) := by decide +kernel
theorem dX1_divideBySmall_9 : decode cX1_divideBySmall 9 = .ok (.getfield 13, 3) := by decide +kernel
theorem dX1_divideBySmall_12 : decode cX1_divideBySmall 12 = .ok (.sipush 132, 3) := by decide +kernel
theorem dX1_divideBySmall_15 : decode cX1_divideBySmall 15 = .ok (.invokestatic 66, 3) := by decide +kernel
theorem dX1_divideBySmall_18 : decode cX1_divideBySmall 18 = .ok (.iconst 1, 1) := by decide +kernel
theorem dX1_divideBySmall_19 : decode cX1_divideBySmall 19 = .ok (.isub, 1) := by decide +kernel
theorem dX1_divideBySmall_20 : decode cX1_divideBySmall 20 = .ok (.istore 4, 2) := by decide +kernel
theorem dX1_divideBySmall_22 : decode cX1_divideBySmall 22 = .ok (.iload 4, 2) := by decide +kernel
theorem dX1_divideBySmall_24 : decode cX1_divideBySmall 24 = .ok (.ifCond .lt 47, 3) := by decide +kernel
theorem dX1_divideBySmall_27 : decode cX1_divideBySmall 27 = .ok (.lload_n 2, 1) := by decide +kernel
theorem dX1_divideBySmall_28 : decode cX1_divideBySmall 28 = .ok (.bipush 32, 2) := by decide +kernel
theorem dX1_divideBySmall_30 : decode cX1_divideBySmall 30 = .ok (.lshl, 1) := by decide +kernel
theorem dX1_divideBySmall_31 : decode cX1_divideBySmall 31 = .ok (.aload_n 0, 1) := by decide +kernel
theorem dX1_divideBySmall_32 : decode cX1_divideBySmall 32 = .ok (.getfield 9, 3) := by decide +kernel
theorem dX1_divideBySmall_35 : decode cX1_divideBySmall 35 = .ok (.iload 4, 2) := by decide +kernel
theorem dX1_divideBySmall_37 : decode cX1_divideBySmall 37 = .ok (.iaload, 1) := by decide +kernel
theorem dX1_divideBySmall_38 : decode cX1_divideBySmall 38 = .ok (.i2l, 1) := by decide +kernel
theorem dX1_divideBySmall_39 : decode cX1_divideBySmall 39 = .ok (.ldc2_w 44, 3) := by decide +kernel
theorem dX1_divideBySmall_42 : decode cX1_divideBySmall 42 = .ok (.land, 1) := by decide +kernel
theorem dX1_divideBySmall_43 : decode cX1_divideBySmall 43 = .ok (.lor, 1) := by decide +kernel
theorem dX1_divideBySmall_44 : decode cX1_divideBySmall 44 = .ok (.lstore 5, 2) := by decide +kernel
theorem dX1_divideBySmall_46 : decode cX1_divideBySmall 46 = .ok (.aload_n 0, 1) := by decide +kernel
theorem dX1_divideBySmall_47 : decode cX1_divideBySmall 47 = .ok (.getfield 9, 3) := by decide +kernel
theorem dX1_divideBySmall_50 : decode cX1_divideBySmall 50 = .ok (.iload 4, 2) := by decide +kernel
theorem dX1_divideBySmall_52 : decode cX1_divideBySmall 52 = .ok (.lload 5, 2) := by decide +kernel
theorem dX1_divideBySmall_54 : decode cX1_divideBySmall 54 = .ok (.iload_n 1, 1) := by decide +kernel
theorem dX1_divideBySmall_55 : decode cX1_divideBySmall 55 = .ok (.i2l, 1) := by decide +kernel
theorem dX1_divideBySmall_56 : decode cX1_divideBySmall 56 = .ok (.ldiv, 1) := by decide +kernel
theorem dX1_divideBySmall_57 : decode cX1_divideBySmall 57 = .ok (.l2i, 1) := by decide +kernel
theorem dX1_divideBySmall_58 : decode cX1_divideBySmall 58 = .ok (.iastore, 1) := by decide +kernel
theorem dX1_divideBySmall_59 : decode cX1_divideBySmall 59 = .ok (.lload 5, 2) := by decide +kernel
theorem dX1_divideBySmall_61 : decode cX1_divideBySmall 61 = .ok (.iload_n 1, 1) := by decide +kernel
theorem dX1_divideBySmall_62 : decode cX1_divideBySmall 62 = .ok (.i2l, 1) := by decide +kernel
theorem dX1_divideBySmall_63 : decode cX1_divideBySmall 63 = .ok (.lrem, 1) := by decide +kernel
theorem dX1_divideBySmall_64 : decode cX1_divideBySmall 64 = .ok (.lstore_n 2, 1) := by decide +kernel
theorem dX1_divideBySmall_65 : decode cX1_divideBySmall 65 = .ok (.iinc 4 (-1), 3) := by decide +kernel
theorem dX1_divideBySmall_68 : decode cX1_divideBySmall 68 = .ok (.goto (-46), 3) := by decide +kernel
theorem dX1_divideBySmall_71 : decode cX1_divideBySmall 71 = .ok (.aload_n 0, 1) := by decide +kernel
theorem dX1_divideBySmall_72 : decode cX1_divideBySmall 72 = .ok (.invokevirtual 17, 3) := by decide +kernel
theorem dX1_divideBySmall_75 : decode cX1_divideBySmall 75 = .ok (.lload_n 2, 1) := by decide +kernel
theorem dX1_divideBySmall_76 : decode cX1_divideBySmall 76 = .ok (.l2i, 1) := by decide +kernel
theorem dX1_divideBySmall_77 : decode cX1_divideBySmall 77 = .ok (.ireturn, 1) := by decide +kernel
theorem dX1_divideByOddFactor_0 : decode cX1_divideByOddFactor 0 = .ok (.aload_n 1, 1) := by decide +kernel
theorem dX1_divideByOddFactor_1 : decode cX1_divideByOddFactor 1 = .ok (.iconst 0, 1) := by decide +kernel
theorem dX1_divideByOddFactor_2 : decode cX1_divideByOddFactor 2 = .ok (.invokevirtual 20, 3) := by decide +kernel
theorem dX1_divideByOddFactor_5 : decode cX1_divideByOddFactor 5 = .ok (.invokestatic 72, 3) := by decide +kernel
theorem dX1_divideByOddFactor_8 : decode cX1_divideByOddFactor 8 = .ok (.istore_n 2, 1) := by decide +kernel
theorem dX1_divideByOddFactor_9 : decode cX1_divideByOddFactor 9 = .ok (.iconst 0, 1) := by decide +kernel
theorem dX1_divideByOddFactor_10 : decode cX1_divideByOddFactor 10 = .ok (.istore_n 3, 1) := by decide +kernel
theorem dX1_divideByOddFactor_11 : decode cX1_divideByOddFactor 11 = .ok (.iload_n 3, 1) := by decide +kernel
theorem dX1_divideByOddFactor_12 : decode cX1_divideByOddFactor 12 = .ok (.aload_n 0, 1) := by decide +kernel
theorem dX1_divideByOddFactor_13 : decode cX1_divideByOddFactor 13 = .ok (.getfield 13, 3) := by decide +kernel
theorem dX1_divideByOddFactor_16 : decode cX1_divideByOddFactor 16 = .ok (.if_icmp .ge 47, 3) := by decide +kernel
theorem dX1_divideByOddFactor_19 : decode cX1_divideByOddFactor 19 = .ok (.iload_n 3, 1) := by decide +kernel
theorem dX1_divideByOddFactor_20 : decode cX1_divideByOddFactor 20 = .ok (.sipush 132, 3) := by decide +kernel
theorem dX1_divideByOddFactor_23 : decode cX1_divideByOddFactor 23 = .ok (.if_icmp .ge 40, 3) := by decide +kernel
theorem dX1_divideByOddFactor_26 : decode cX1_divideByOddFactor 26 = .ok (.aload_n 0, 1) := by decide +kernel
theorem dX1_divideByOddFactor_27 : decode cX1_divideByOddFactor 27 = .ok (.getfield 9, 3) := by decide +kernel
theorem dX1_divideByOddFactor_30 : decode cX1_divideByOddFactor 30 = .ok (.iload_n 3, 1) := by decide +kernel
theorem dX1_divideByOddFactor_31 : decode cX1_divideByOddFactor 31 = .ok (.iaload, 1) := by decide +kernel
theorem dX1_divideByOddFactor_32 : decode cX1_divideByOddFactor 32 = .ok (.iload_n 2, 1) := by decide +kernel
theorem dX1_divideByOddFactor_33 : decode cX1_divideByOddFactor 33 = .ok (.imul, 1) := by decide +kernel
theorem dX1_divideByOddFactor_34 : decode cX1_divideByOddFactor 34 = .ok (.istore 4, 2) := by decide +kernel
theorem dX1_divideByOddFactor_36 : decode cX1_divideByOddFactor 36 = .ok (.iload 4, 2) := by decide +kernel
theorem dX1_divideByOddFactor_38 : decode cX1_divideByOddFactor 38 = .ok (.ifCond .eq 11, 3) := by decide +kernel
theorem dX1_divideByOddFactor_41 : decode cX1_divideByOddFactor 41 = .ok (.aload_n 0, 1) := by decide +kernel
theorem dX1_divideByOddFactor_42 : decode cX1_divideByOddFactor 42 = .ok (.iload 4, 2) := by decide +kernel
theorem dX1_divideByOddFactor_44 : decode cX1_divideByOddFactor 44 = .ok (.aload_n 1, 1) := by decide +kernel
theorem dX1_divideByOddFactor_45 : decode cX1_divideByOddFactor 45 = .ok (.iload_n 3, 1) := by decide +kernel
theorem dX1_divideByOddFactor_46 : decode cX1_divideByOddFactor 46 = .ok (.invokevirtual 75, 3) := by decide +kernel
theorem dX1_divideByOddFactor_49 : decode cX1_divideByOddFactor 49 = .ok (.aload_n 0, 1) := by decide +kernel
theorem dX1_divideByOddFactor_50 : decode cX1_divideByOddFactor 50 = .ok (.getfield 9, 3) := by decide +kernel
theorem dX1_divideByOddFactor_53 : decode cX1_divideByOddFactor 53 = .ok (.iload_n 3, 1) := by decide +kernel
theorem dX1_divideByOddFactor_54 : decode cX1_divideByOddFactor 54 = .ok (.iload 4, 2) := by decide +kernel
theorem dX1_divideByOddFactor_56 : decode cX1_divideByOddFactor 56 = .ok (.iastore, 1) := by decide +kernel
theorem dX1_divideByOddFactor_57 : decode cX1_divideByOddFactor 57 = .ok (.iinc 3 1, 3) := by decide +kernel
theorem dX1_divideByOddFactor_60 : decode cX1_divideByOddFactor 60 = .ok (.goto (-49), 3) := by decide +kernel
theorem dX1_divideByOddFactor_63 : decode cX1_divideByOddFactor 63 = .ok (.aload_n 0, 1) := by decide +kernel
theorem dX1_divideByOddFactor_64 : decode cX1_divideByOddFactor 64 = .ok (.invokevirtual 17, 3) := by decide +kernel
theorem dX1_divideByOddFactor_67 : decode cX1_divideByOddFactor 67 = .ok (.return_, 1) := by decide +kernel
theorem dX1_subtractProduct_0 : decode cX1_subtractProduct 0 = .ok (.lconst 0, 1) := by decide +kernel
theorem dX1_subtractProduct_1 : decode cX1_subtractProduct 1 = .ok (.lstore 4, 2) := by decide +kernel
theorem dX1_subtractProduct_3 : decode cX1_subtractProduct 3 = .ok (.iload_n 3, 1) := by decide +kernel
theorem dX1_subtractProduct_4 : decode cX1_subtractProduct 4 = .ok (.iconst 0, 1) := by decide +kernel
theorem dX1_subtractProduct_5 : decode cX1_subtractProduct 5 = .ok (.invokestatic 39, 3) := by decide +kernel
theorem dX1_subtractProduct_8 : decode cX1_subtractProduct 8 = .ok (.istore 6, 2) := by decide +kernel
theorem dX1_subtractProduct_10 : decode cX1_subtractProduct 10 = .ok (.iload 6, 2) := by decide +kernel
theorem dX1_subtractProduct_12 : decode cX1_subtractProduct 12 = .ok (.aload_n 0, 1) := by decide +kernel
theorem dX1_subtractProduct_13 : decode cX1_subtractProduct 13 = .ok (.getfield 13, 3) := by decide +kernel
theorem dX1_subtractProduct_16 : decode cX1_subtractProduct 16 = .ok (.if_icmp .ge 87, 3) := by decide +kernel
theorem dX1_subtractProduct_19 : decode cX1_subtractProduct 19 = .ok (.iload 6, 2) := by decide +kernel
theorem dX1_subtractProduct_21 : decode cX1_subtractProduct 21 = .ok (.sipush 132, 3) := by decide +kernel
theorem dX1_subtractProduct_24 : decode cX1_subtractProduct 24 = .ok (.if_icmp .ge 79, 3) := by decide +kernel
theorem dX1_subtractProduct_27 : decode cX1_subtractProduct 27 = .ok (.lload 4, 2) := by decide +kernel
theorem dX1_subtractProduct_29 : decode cX1_subtractProduct 29 = .ok (.iload_n 1, 1) := by decide +kernel
theorem dX1_subtractProduct_30 : decode cX1_subtractProduct 30 = .ok (.i2l, 1) := by decide +kernel
theorem dX1_subtractProduct_31 : decode cX1_subtractProduct 31 = .ok (.ldc2_w 44, 3) := by decide +kernel
theorem dX1_subtractProduct_34 : decode cX1_subtractProduct 34 = .ok (.land, 1) := by decide +kernel
theorem dX1_subtractProduct_35 : decode cX1_subtractProduct 35 = .ok (.aload_n 2, 1) := by decide +kernel
theorem dX1_subtractProduct_36 : decode cX1_subtractProduct 36 = .ok (.iload 6, 2) := by decide +kernel
theorem dX1_subtractProduct_38 : decode cX1_subtractProduct 38 = .ok (.iload_n 3, 1) := by decide +kernel
theorem dX1_subtractProduct_39 : decode cX1_subtractProduct 39 = .ok (.isub, 1) := by decide +kernel
theorem dX1_subtractProduct_40 : decode cX1_subtractProduct 40 = .ok (.invokevirtual 20, 3) := by decide +kernel
theorem dX1_subtractProduct_43 : decode cX1_subtractProduct 43 = .ok (.i2l, 1) := by decide +kernel
theorem dX1_subtractProduct_44 : decode cX1_subtractProduct 44 = .ok (.ldc2_w 44, 3) := by decide +kernel
theorem dX1_subtractProduct_47 : decode cX1_subtractProduct 47 = .ok (.land, 1) := by decide +kernel
theorem dX1_subtractProduct_48 : decode cX1_subtractProduct 48 = .ok (.lmul, 1) := by decide +kernel
theorem dX1_subtractProduct_49 : decode cX1_subtractProduct 49 = .ok (.ladd, 1) := by decide +kernel
theorem dX1_subtractProduct_50 : decode cX1_subtractProduct 50 = .ok (.lstore 4, 2) := by decide +kernel
theorem dX1_subtractProduct_52 : decode cX1_subtractProduct 52 = .ok (.lload 4, 2) := by decide +kernel
theorem dX1_subtractProduct_54 : decode cX1_subtractProduct 54 = .ok (.l2i, 1) := by decide +kernel
theorem dX1_subtractProduct_55 : decode cX1_subtractProduct 55 = .ok (.istore 7, 2) := by decide +kernel
theorem dX1_subtractProduct_57 : decode cX1_subtractProduct 57 = .ok (.lload 4, 2) := by decide +kernel
theorem dX1_subtractProduct_59 : decode cX1_subtractProduct 59 = .ok (.bipush 32, 2) := by decide +kernel
theorem dX1_subtractProduct_61 : decode cX1_subtractProduct 61 = .ok (.lushr, 1) := by decide +kernel
theorem dX1_subtractProduct_62 : decode cX1_subtractProduct 62 = .ok (.lstore 4, 2) := by decide +kernel
theorem dX1_subtractProduct_64 : decode cX1_subtractProduct 64 = .ok (.aload_n 0, 1) := by decide +kernel
theorem dX1_subtractProduct_65 : decode cX1_subtractProduct 65 = .ok (.getfield 9, 3) := by decide +kernel
theorem dX1_subtractProduct_68 : decode cX1_subtractProduct 68 = .ok (.iload 6, 2) := by decide +kernel
theorem dX1_subtractProduct_70 : decode cX1_subtractProduct 70 = .ok (.iaload, 1) := by decide +kernel
theorem dX1_subtractProduct_71 : decode cX1_subtractProduct 71 = .ok (.iload 7, 2) := by decide +kernel
theorem dX1_subtractProduct_73 : decode cX1_subtractProduct 73 = .ok (.invokestatic 36, 3) := by decide +kernel
theorem dX1_subtractProduct_76 : decode cX1_subtractProduct 76 = .ok (.ifCond .ge 9, 3) := by decide +kernel
theorem dX1_subtractProduct_79 : decode cX1_subtractProduct 79 = .ok (.lload 4, 2) := by decide +kernel
theorem dX1_subtractProduct_81 : decode cX1_subtractProduct 81 = .ok (.lconst 1, 1) := by decide +kernel
theorem dX1_subtractProduct_82 : decode cX1_subtractProduct 82 = .ok (.ladd, 1) := by decide +kernel
theorem dX1_subtractProduct_83 : decode cX1_subtractProduct 83 = .ok (.lstore 4, 2) := by decide +kernel
theorem dX1_subtractProduct_85 : decode cX1_subtractProduct 85 = .ok (.aload_n 0, 1) := by decide +kernel
theorem dX1_subtractProduct_86 : decode cX1_subtractProduct 86 = .ok (.getfield 9, 3) := by decide +kernel
theorem dX1_subtractProduct_89 : decode cX1_subtractProduct 89 = .ok (.iload 6, 2) := by decide +kernel
theorem dX1_subtractProduct_91 : decode cX1_subtractProduct 91 = .ok (.dup2, 1) := by decide +kernel
theorem dX1_subtractProduct_92 : decode cX1_subtractProduct 92 = .ok (.iaload, 1) := by decide +kernel
theorem dX1_subtractProduct_93 : decode cX1_subtractProduct 93 = .ok (.iload 7, 2) := by decide +kernel
theorem dX1_subtractProduct_95 : decode cX1_subtractProduct 95 = .ok (.isub, 1) := by decide +kernel
theorem dX1_subtractProduct_96 : decode cX1_subtractProduct 96 = .ok (.iastore, 1) := by decide +kernel
theorem dX1_subtractProduct_97 : decode cX1_subtractProduct 97 = .ok (.iinc 6 1, 3) := by decide +kernel
theorem dX1_subtractProduct_100 : decode cX1_subtractProduct 100 = .ok (.goto (-90), 3) := by decide +kernel
theorem dX1_subtractProduct_103 : decode cX1_subtractProduct 103 = .ok (.return_, 1) := by decide +kernel
theorem dX1_inverse_0 : decode cX1_inverse 0 = .ok (.iload_n 0, 1) := by decide +kernel
theorem dX1_inverse_1 : decode cX1_inverse 1 = .ok (.istore_n 1, 1) := by decide +kernel
theorem dX1_inverse_2 : decode cX1_inverse 2 = .ok (.iconst 3, 1) := by decide +kernel
theorem dX1_inverse_3 : decode cX1_inverse 3 = .ok (.istore_n 2, 1) := by decide +kernel
theorem dX1_inverse_4 : decode cX1_inverse 4 = .ok (.iload_n 2, 1) := by decide +kernel
theorem dX1_inverse_5 : decode cX1_inverse 5 = .ok (.bipush 32, 2) := by decide +kernel
theorem dX1_inverse_7 : decode cX1_inverse 7 = .ok (.if_icmp .ge 18, 3) := by decide +kernel
theorem dX1_inverse_10 : decode cX1_inverse 10 = .ok (.iload_n 1, 1) := by decide +kernel
theorem dX1_inverse_11 : decode cX1_inverse 11 = .ok (.iconst 2, 1) := by decide +kernel
theorem dX1_inverse_12 : decode cX1_inverse 12 = .ok (.iload_n 0, 1) := by decide +kernel
theorem dX1_inverse_13 : decode cX1_inverse 13 = .ok (.iload_n 1, 1) := by decide +kernel
theorem dX1_inverse_14 : decode cX1_inverse 14 = .ok (.imul, 1) := by decide +kernel
theorem dX1_inverse_15 : decode cX1_inverse 15 = .ok (.isub, 1) := by decide +kernel
theorem dX1_inverse_16 : decode cX1_inverse 16 = .ok (.imul, 1) := by decide +kernel
theorem dX1_inverse_17 : decode cX1_inverse 17 = .ok (.istore_n 1, 1) := by decide +kernel
theorem dX1_inverse_18 : decode cX1_inverse 18 = .ok (.iload_n 2, 1) := by decide +kernel
theorem dX1_inverse_19 : decode cX1_inverse 19 = .ok (.iconst 2, 1) := by decide +kernel
theorem dX1_inverse_20 : decode cX1_inverse 20 = .ok (.imul, 1) := by decide +kernel
theorem dX1_inverse_21 : decode cX1_inverse 21 = .ok (.istore_n 2, 1) := by decide +kernel
theorem dX1_inverse_22 : decode cX1_inverse 22 = .ok (.goto (-18), 3) := by decide +kernel
theorem dX1_inverse_25 : decode cX1_inverse 25 = .ok (.iload_n 1, 1) := by decide +kernel
theorem dX1_inverse_26 : decode cX1_inverse 26 = .ok (.ireturn, 1) := by decide +kernel
theorem dX1_shiftLeft_0 : decode cX1_shiftLeft 0 = .ok (.aload_n 0, 1) := by decide +kernel
theorem dX1_shiftLeft_1 : decode cX1_shiftLeft 1 = .ok (.invokevirtual 79, 3) := by decide +kernel
theorem dX1_shiftLeft_4 : decode cX1_shiftLeft 4 = .ok (.istore_n 2, 1) := by decide +kernel
theorem dX1_shiftLeft_5 : decode cX1_shiftLeft 5 = .ok (.aload_n 0, 1) := by decide +kernel
theorem dX1_shiftLeft_6 : decode cX1_shiftLeft 6 = .ok (.getfield 13, 3) := by decide +kernel
theorem dX1_shiftLeft_9 : decode cX1_shiftLeft 9 = .ok (.ifCond .eq 16, 3) := by decide +kernel
theorem dX1_shiftLeft_12 : decode cX1_shiftLeft 12 = .ok (.iload_n 1, 1) := by decide +kernel
theorem dX1_shiftLeft_13 : decode cX1_shiftLeft 13 = .ok (.ifCond .le 12, 3) := by decide +kernel
theorem dX1_shiftLeft_16 : decode cX1_shiftLeft 16 = .ok (.iload_n 1, 1) := by decide +kernel
theorem dX1_shiftLeft_17 : decode cX1_shiftLeft 17 = .ok (.sipush 4224, 3) := by decide +kernel
theorem dX1_shiftLeft_20 : decode cX1_shiftLeft 20 = .ok (.iload_n 2, 1) := by decide +kernel
theorem dX1_shiftLeft_21 : decode cX1_shiftLeft 21 = .ok (.isub, 1) := by decide +kernel
theorem dX1_shiftLeft_22 : decode cX1_shiftLeft 22 = .ok (.if_icmp .le 4, 3) := by decide +kernel
theorem dX1_shiftLeft_25 : decode cX1_shiftLeft 25 = .ok (.return_, 1) := by decide +kernel
theorem dX1_shiftLeft_26 : decode cX1_shiftLeft 26 = .ok (.iload_n 1, 1) := by decide +kernel
theorem dX1_shiftLeft_27 : decode cX1_shiftLeft 27 = .ok (.iconst 5, 1) := by decide +kernel
theorem dX1_shiftLeft_28 : decode cX1_shiftLeft 28 = .ok (.ishr, 1) := by decide +kernel
theorem dX1_shiftLeft_29 : decode cX1_shiftLeft 29 = .ok (.istore_n 3, 1) := by decide +kernel
theorem dX1_shiftLeft_30 : decode cX1_shiftLeft 30 = .ok (.iload_n 1, 1) := by decide +kernel
theorem dX1_shiftLeft_31 : decode cX1_shiftLeft 31 = .ok (.bipush 31, 2) := by decide +kernel
theorem dX1_shiftLeft_33 : decode cX1_shiftLeft 33 = .ok (.iand, 1) := by decide +kernel
theorem dX1_shiftLeft_34 : decode cX1_shiftLeft 34 = .ok (.istore 4, 2) := by decide +kernel
theorem dX1_shiftLeft_36 : decode cX1_shiftLeft 36 = .ok (.iload_n 2, 1) := by decide +kernel
theorem dX1_shiftLeft_37 : decode cX1_shiftLeft 37 = .ok (.iload_n 1, 1) := by decide +kernel
theorem dX1_shiftLeft_38 : decode cX1_shiftLeft 38 = .ok (.iadd, 1) := by decide +kernel
theorem dX1_shiftLeft_39 : decode cX1_shiftLeft 39 = .ok (.bipush 31, 2) := by decide +kernel
theorem dX1_shiftLeft_41 : decode cX1_shiftLeft 41 = .ok (.iadd, 1) := by decide +kernel
theorem dX1_shiftLeft_42 : decode cX1_shiftLeft 42 = .ok (.iconst 5, 1) := by decide +kernel
theorem dX1_shiftLeft_43 : decode cX1_shiftLeft 43 = .ok (.ishr, 1) := by decide +kernel
theorem dX1_shiftLeft_44 : decode cX1_shiftLeft 44 = .ok (.istore 5, 2) := by decide +kernel
theorem dX1_shiftLeft_46 : decode cX1_shiftLeft 46 = .ok (.iload 5, 2) := by decide +kernel
theorem dX1_shiftLeft_48 : decode cX1_shiftLeft 48 = .ok (.iconst 1, 1) := by decide +kernel
theorem dX1_shiftLeft_49 : decode cX1_shiftLeft 49 = .ok (.isub, 1) := by decide +kernel
theorem dX1_shiftLeft_50 : decode cX1_shiftLeft 50 = .ok (.istore 6, 2) := by decide +kernel
theorem dX1_shiftLeft_52 : decode cX1_shiftLeft 52 = .ok (.iload 6, 2) := by decide +kernel
theorem dX1_shiftLeft_54 : decode cX1_shiftLeft 54 = .ok (.ifCond .lt 50, 3) := by decide +kernel
theorem dX1_shiftLeft_57 : decode cX1_shiftLeft 57 = .ok (.aload_n 0, 1) := by decide +kernel
theorem dX1_shiftLeft_58 : decode cX1_shiftLeft 58 = .ok (.iload 6, 2) := by decide +kernel
theorem dX1_shiftLeft_60 : decode cX1_shiftLeft 60 = .ok (.iload_n 3, 1) := by decide +kernel
theorem dX1_shiftLeft_61 : decode cX1_shiftLeft 61 = .ok (.isub, 1) := by decide +kernel
theorem dX1_shiftLeft_62 : decode cX1_shiftLeft 62 = .ok (.iconst 1, 1) := by decide +kernel
theorem dX1_shiftLeft_63 : decode cX1_shiftLeft 63 = .ok (.isub, 1) := by decide +kernel
theorem dX1_shiftLeft_64 : decode cX1_shiftLeft 64 = .ok (.invokevirtual 20, 3) := by decide +kernel
theorem dX1_shiftLeft_67 : decode cX1_shiftLeft 67 = .ok (.iconst 1, 1) := by decide +kernel
theorem dX1_shiftLeft_68 : decode cX1_shiftLeft 68 = .ok (.iushr, 1) := by decide +kernel
theorem dX1_shiftLeft_69 : decode cX1_shiftLeft 69 = .ok (.bipush 31, 2) := by decide +kernel
theorem dX1_shiftLeft_71 : decode cX1_shiftLeft 71 = .ok (.iload 4, 2) := by decide +kernel
theorem dX1_shiftLeft_73 : decode cX1_shiftLeft 73 = .ok (.isub, 1) := by decide +kernel
theorem dX1_shiftLeft_74 : decode cX1_shiftLeft 74 = .ok (.iushr, 1) := by decide +kernel
theorem dX1_shiftLeft_75 : decode cX1_shiftLeft 75 = .ok (.istore 7, 2) := by decide +kernel
theorem dX1_shiftLeft_77 : decode cX1_shiftLeft 77 = .ok (.aload_n 0, 1) := by decide +kernel
theorem dX1_shiftLeft_78 : decode cX1_shiftLeft 78 = .ok (.getfield 9, 3) := by decide +kernel
theorem dX1_shiftLeft_81 : decode cX1_shiftLeft 81 = .ok (.iload 6, 2) := by decide +kernel
theorem dX1_shiftLeft_83 : decode cX1_shiftLeft 83 = .ok (.aload_n 0, 1) := by decide +kernel
theorem dX1_shiftLeft_84 : decode cX1_shiftLeft 84 = .ok (.iload 6, 2) := by decide +kernel
theorem dX1_shiftLeft_86 : decode cX1_shiftLeft 86 = .ok (.iload_n 3, 1) := by decide +kernel
theorem dX1_shiftLeft_87 : decode cX1_shiftLeft 87 = .ok (.isub, 1) := by decide +kernel
theorem dX1_shiftLeft_88 : decode cX1_shiftLeft 88 = .ok (.invokevirtual 20, 3) := by decide +kernel
theorem dX1_shiftLeft_91 : decode cX1_shiftLeft 91 = .ok (.iload 4, 2) := by decide +kernel
theorem dX1_shiftLeft_93 : decode cX1_shiftLeft 93 = .ok (.ishl, 1) := by decide +kernel
theorem dX1_shiftLeft_94 : decode cX1_shiftLeft 94 = .ok (.iload 7, 2) := by decide +kernel
theorem dX1_shiftLeft_96 : decode cX1_shiftLeft 96 = .ok (.ior, 1) := by decide +kernel
theorem dX1_shiftLeft_97 : decode cX1_shiftLeft 97 = .ok (.iastore, 1) := by decide +kernel
theorem dX1_shiftLeft_98 : decode cX1_shiftLeft 98 = .ok (.iinc 6 (-1), 3) := by decide +kernel
theorem dX1_shiftLeft_101 : decode cX1_shiftLeft 101 = .ok (.goto (-49), 3) := by decide +kernel
theorem dX1_shiftLeft_104 : decode cX1_shiftLeft 104 = .ok (.aload_n 0, 1) := by decide +kernel
theorem dX1_shiftLeft_105 : decode cX1_shiftLeft 105 = .ok (.iload 5, 2) := by decide +kernel
theorem dX1_shiftLeft_107 : decode cX1_shiftLeft 107 = .ok (.putfield 13, 3) := by decide +kernel
theorem dX1_shiftLeft_110 : decode cX1_shiftLeft 110 = .ok (.return_, 1) := by decide +kernel
theorem dX1_shiftRight_0 : decode cX1_shiftRight 0 = .ok (.iload_n 1, 1) := by decide +kernel
theorem dX1_shiftRight_1 : decode cX1_shiftRight 1 = .ok (.ifCond .gt 4, 3) := by decide +kernel
theorem dX1_shiftRight_4 : decode cX1_shiftRight 4 = .ok (.return_, 1) := by decide +kernel
theorem dX1_shiftRight_5 : decode cX1_shiftRight 5 = .ok (.iload_n 1, 1) := by decide +kernel
theorem dX1_shiftRight_6 : decode cX1_shiftRight 6 = .ok (.iconst 5, 1) := by decide +kernel
theorem dX1_shiftRight_7 : decode cX1_shiftRight 7 = .ok (.ishr, 1) := by decide +kernel
theorem dX1_shiftRight_8 : decode cX1_shiftRight 8 = .ok (.istore_n 2, 1) := by decide +kernel
theorem dX1_shiftRight_9 : decode cX1_shiftRight 9 = .ok (.iload_n 1, 1) := by decide +kernel
theorem dX1_shiftRight_10 : decode cX1_shiftRight 10 = .ok (.bipush 31, 2) := by decide +kernel
theorem dX1_shiftRight_12 : decode cX1_shiftRight 12 = .ok (.iand, 1) := by decide +kernel
theorem dX1_shiftRight_13 : decode cX1_shiftRight 13 = .ok (.istore_n 3, 1) := by decide +kernel
theorem dX1_shiftRight_14 : decode cX1_shiftRight 14 = .ok (.aload_n 0, 1) := by decide +kernel
theorem dX1_shiftRight_15 : decode cX1_shiftRight 15 = .ok (.getfield 13, 3) := by decide +kernel
theorem dX1_shiftRight_18 : decode cX1_shiftRight 18 = .ok (.iload_n 2, 1) := by decide +kernel
theorem dX1_shiftRight_19 : decode cX1_shiftRight 19 = .ok (.isub, 1) := by decide +kernel
theorem dX1_shiftRight_20 : decode cX1_shiftRight 20 = .ok (.iconst 0, 1) := by decide +kernel
theorem dX1_shiftRight_21 : decode cX1_shiftRight 21 = .ok (.invokestatic 39, 3) := by decide +kernel
theorem dX1_shiftRight_24 : decode cX1_shiftRight 24 = .ok (.istore 4, 2) := by decide +kernel
theorem dX1_shiftRight_26 : decode cX1_shiftRight 26 = .ok (.iconst 0, 1) := by decide +kernel
theorem dX1_shiftRight_27 : decode cX1_shiftRight 27 = .ok (.istore 5, 2) := by decide +kernel
theorem dX1_shiftRight_29 : decode cX1_shiftRight 29 = .ok (.iload 5, 2) := by decide +kernel
theorem dX1_shiftRight_31 : decode cX1_shiftRight 31 = .ok (.iload 4, 2) := by decide +kernel
theorem dX1_shiftRight_33 : decode cX1_shiftRight 33 = .ok (.if_icmp .ge 56, 3) := by decide +kernel
theorem dX1_shiftRight_36 : decode cX1_shiftRight 36 = .ok (.iload 5, 2) := by decide +kernel
theorem dX1_shiftRight_38 : decode cX1_shiftRight 38 = .ok (.sipush 132, 3) := by decide +kernel
theorem dX1_shiftRight_41 : decode cX1_shiftRight 41 = .ok (.if_icmp .ge 48, 3) := by decide +kernel
theorem dX1_shiftRight_44 : decode cX1_shiftRight 44 = .ok (.aload_n 0, 1) := by decide +kernel
theorem dX1_shiftRight_45 : decode cX1_shiftRight 45 = .ok (.iload 5, 2) := by decide +kernel
theorem dX1_shiftRight_47 : decode cX1_shiftRight 47 = .ok (.iload_n 2, 1) := by decide +kernel
theorem dX1_shiftRight_48 : decode cX1_shiftRight 48 = .ok (.iadd, 1) := by decide +kernel
theorem dX1_shiftRight_49 : decode cX1_shiftRight 49 = .ok (.iconst 1, 1) := by decide +kernel
theorem dX1_shiftRight_50 : decode cX1_shiftRight 50 = .ok (.iadd, 1) := by decide +kernel
theorem dX1_shiftRight_51 : decode cX1_shiftRight 51 = .ok (.invokevirtual 20, 3) := by decide +kernel
theorem dX1_shiftRight_54 : decode cX1_shiftRight 54 = .ok (.iconst 1, 1) := by decide +kernel
theorem dX1_shiftRight_55 : decode cX1_shiftRight 55 = .ok (.ishl, 1) := by decide +kernel
theorem dX1_shiftRight_56 : decode cX1_shiftRight 56 = .ok (.bipush 31, 2) := by decide +kernel
theorem dX1_shiftRight_58 : decode cX1_shiftRight 58 = .ok (.iload_n 3, 1) := by decide +kernel
theorem dX1_shiftRight_59 : decode cX1_shiftRight 59 = .ok (.isub, 1) := by decide +kernel
theorem dX1_shiftRight_60 : decode cX1_shiftRight 60 = .ok (.ishl, 1) := by decide +kernel
theorem dX1_shiftRight_61 : decode cX1_shiftRight 61 = .ok (.istore 6, 2) := by decide +kernel
theorem dX1_shiftRight_63 : decode cX1_shiftRight 63 = .ok (.aload_n 0, 1) := by decide +kernel
theorem dX1_shiftRight_64 : decode cX1_shiftRight 64 = .ok (.getfield 9, 3) := by decide +kernel
theorem dX1_shiftRight_67 : decode cX1_shiftRight 67 = .ok (.iload 5, 2) := by decide +kernel
theorem dX1_shiftRight_69 : decode cX1_shiftRight 69 = .ok (.aload_n 0, 1) := by decide +kernel
theorem dX1_shiftRight_70 : decode cX1_shiftRight 70 = .ok (.iload 5, 2) := by decide +kernel
theorem dX1_shiftRight_72 : decode cX1_shiftRight 72 = .ok (.iload_n 2, 1) := by decide +kernel
theorem dX1_shiftRight_73 : decode cX1_shiftRight 73 = .ok (.iadd, 1) := by decide +kernel
theorem dX1_shiftRight_74 : decode cX1_shiftRight 74 = .ok (.invokevirtual 20, 3) := by decide +kernel
theorem dX1_shiftRight_77 : decode cX1_shiftRight 77 = .ok (.iload_n 3, 1) := by decide +kernel
theorem dX1_shiftRight_78 : decode cX1_shiftRight 78 = .ok (.iushr, 1) := by decide +kernel
theorem dX1_shiftRight_79 : decode cX1_shiftRight 79 = .ok (.iload 6, 2) := by decide +kernel
theorem dX1_shiftRight_81 : decode cX1_shiftRight 81 = .ok (.ior, 1) := by decide +kernel
theorem dX1_shiftRight_82 : decode cX1_shiftRight 82 = .ok (.iastore, 1) := by decide +kernel
theorem dX1_shiftRight_83 : decode cX1_shiftRight 83 = .ok (.iinc 5 1, 3) := by decide +kernel
theorem dX1_shiftRight_86 : decode cX1_shiftRight 86 = .ok (.goto (-57), 3) := by decide +kernel
theorem dX1_shiftRight_89 : decode cX1_shiftRight 89 = .ok (.aload_n 0, 1) := by decide +kernel
theorem dX1_shiftRight_90 : decode cX1_shiftRight 90 = .ok (.iload 4, 2) := by decide +kernel
theorem dX1_shiftRight_92 : decode cX1_shiftRight 92 = .ok (.putfield 13, 3) := by decide +kernel
theorem dX1_shiftRight_95 : decode cX1_shiftRight 95 = .ok (.aload_n 0, 1) := by decide +kernel
theorem dX1_shiftRight_96 : decode cX1_shiftRight 96 = .ok (.invokevirtual 17, 3) := by decide +kernel
theorem dX1_shiftRight_99 : decode cX1_shiftRight 99 = .ok (.return_, 1) := by decide +kernel
theorem dX1_wordAt_0 : decode cX1_wordAt 0 = .ok (.iload_n 1, 1) := by decide +kernel
theorem dX1_wordAt_1 : decode cX1_wordAt 1 = .ok (.ifCond .lt 27, 3) := by decide +kernel
theorem dX1_wordAt_4 : decode cX1_wordAt 4 = .ok (.iload_n 1, 1) := by decide +kernel
theorem dX1_wordAt_5 : decode cX1_wordAt 5 = .ok (.aload_n 0, 1) := by decide +kernel
theorem dX1_wordAt_6 : decode cX1_wordAt 6 = .ok (.getfield 13, 3) := by decide +kernel
theorem dX1_wordAt_9 : decode cX1_wordAt 9 = .ok (.if_icmp .ge 19, 3) := by decide +kernel
theorem dX1_wordAt_12 : decode cX1_wordAt 12 = .ok (.iload_n 1, 1) := by decide +kernel
theorem dX1_wordAt_13 : decode cX1_wordAt 13 = .ok (.sipush 132, 3) := by decide +kernel
theorem dX1_wordAt_16 : decode cX1_wordAt 16 = .ok (.if_icmp .ge 12, 3) := by decide +kernel
theorem dX1_wordAt_19 : decode cX1_wordAt 19 = .ok (.aload_n 0, 1) := by decide +kernel
theorem dX1_wordAt_20 : decode cX1_wordAt 20 = .ok (.getfield 9, 3) := by decide +kernel
theorem dX1_wordAt_23 : decode cX1_wordAt 23 = .ok (.iload_n 1, 1) := by decide +kernel
theorem dX1_wordAt_24 : decode cX1_wordAt 24 = .ok (.iaload, 1) := by decide +kernel
theorem dX1_wordAt_25 : decode cX1_wordAt 25 = .ok (.goto 4, 3) := by decide +kernel
theorem dX1_wordAt_28 : decode cX1_wordAt 28 = .ok (.iconst 0, 1) := by decide +kernel
theorem dX1_wordAt_29 : decode cX1_wordAt 29 = .ok (.ireturn, 1) := by decide +kernel
theorem dX1_append_0 : decode cX1_append 0 = .ok (.iload_n 1, 1) := by decide +kernel
theorem dX1_append_1 : decode cX1_append 1 = .ok (.ifCond .eq 40, 3) := by decide +kernel
theorem dX1_append_4 : decode cX1_append 4 = .ok (.aload_n 0, 1) := by decide +kernel
theorem dX1_append_5 : decode cX1_append 5 = .ok (.getfield 13, 3) := by decide +kernel
theorem dX1_append_8 : decode cX1_append 8 = .ok (.ifCond .lt 33, 3) := by decide +kernel
theorem dX1_append_11 : decode cX1_append 11 = .ok (.aload_n 0, 1) := by decide +kernel
theorem dX1_append_12 : decode cX1_append 12 = .ok (.getfield 13, 3) := by decide +kernel
theorem dX1_append_15 : decode cX1_append 15 = .ok (.sipush 132, 3) := by decide +kernel
theorem dX1_append_18 : decode cX1_append 18 = .ok (.if_icmp .ge 23, 3) := by decide +kernel
theorem dX1_append_21 : decode cX1_append 21 = .ok (.aload_n 0, 1) := by decide +kernel
theorem dX1_append_22 : decode cX1_append 22 = .ok (.getfield 9, 3) := by decide +kernel
theorem dX1_append_25 : decode cX1_append 25 = .ok (.aload_n 0, 1) := by decide +kernel
theorem dX1_append_26 : decode cX1_append 26 = .ok (.getfield 13, 3) := by decide +kernel
theorem dX1_append_29 : decode cX1_append 29 = .ok (.iload_n 1, 1) := by decide +kernel
theorem dX1_append_30 : decode cX1_append 30 = .ok (.iastore, 1) := by decide +kernel
theorem dX1_append_31 : decode cX1_append 31 = .ok (.aload_n 0, 1) := by decide +kernel
theorem dX1_append_32 : decode cX1_append 32 = .ok (.dup, 1) := by decide +kernel
theorem dX1_append_33 : decode cX1_append 33 = .ok (.getfield 13, 3) := by decide +kernel
theorem dX1_append_36 : decode cX1_append 36 = .ok (.iconst 1, 1) := by decide +kernel
theorem dX1_append_37 : decode cX1_append 37 = .ok (.iadd, 1) := by decide +kernel
theorem dX1_append_38 : decode cX1_append 38 = .ok (.putfield 13, 3) := by decide +kernel
theorem dX1_append_41 : decode cX1_append 41 = .ok (.return_, 1) := by decide +kernel
theorem dX1_trim_0 : decode cX1_trim 0 = .ok (.aload_n 0, 1) := by decide +kernel
theorem dX1_trim_1 : decode cX1_trim 1 = .ok (.getfield 13, 3) := by decide +kernel
theorem dX1_trim_4 : decode cX1_trim 4 = .ok (.ifCond .le 29, 3) := by decide +kernel
theorem dX1_trim_7 : decode cX1_trim 7 = .ok (.aload_n 0, 1) := by decide +kernel
theorem dX1_trim_8 : decode cX1_trim 8 = .ok (.aload_n 0, 1) := by decide +kernel
theorem dX1_trim_9 : decode cX1_trim 9 = .ok (.getfield 13, 3) := by decide +kernel
theorem dX1_trim_12 : decode cX1_trim 12 = .ok (.iconst 1, 1) := by decide +kernel
theorem dX1_trim_13 : decode cX1_trim 13 = .ok (.isub, 1) := by decide +kernel
theorem dX1_trim_14 : decode cX1_trim 14 = .ok (.invokevirtual 20, 3) := by decide +kernel
theorem dX1_trim_17 : decode cX1_trim 17 = .ok (.ifCond .ne 16, 3) := by decide +kernel
theorem dX1_trim_20 : decode cX1_trim 20 = .ok (.aload_n 0, 1) := by decide +kernel
theorem dX1_trim_21 : decode cX1_trim 21 = .ok (.dup, 1) := by decide +kernel
theorem dX1_trim_22 : decode cX1_trim 22 = .ok (.getfield 13, 3) := by decide +kernel
theorem dX1_trim_25 : decode cX1_trim 25 = .ok (.iconst 1, 1) := by decide +kernel
theorem dX1_trim_26 : decode cX1_trim 26 = .ok (.isub, 1) := by decide +kernel
theorem dX1_trim_27 : decode cX1_trim 27 = .ok (.putfield 13, 3) := by decide +kernel
theorem dX1_trim_30 : decode cX1_trim 30 = .ok (.goto (-30), 3) := by decide +kernel
theorem dX1_trim_33 : decode cX1_trim 33 = .ok (.return_, 1) := by decide +kernel
theorem dX2_init_0 : decode cX2_init 0 = .ok (.aload_n 0, 1) := by decide +kernel
theorem dX2_init_1 : decode cX2_init 1 = .ok (.invokespecial 3, 3) := by decide +kernel
theorem dX2_init_4 : decode cX2_init 4 = .ok (.aload_n 0, 1) := by decide +kernel
theorem dX2_init_5 : decode cX2_init 5 = .ok (.new 9, 3) := by decide +kernel
theorem dX2_init_8 : decode cX2_init 8 = .ok (.dup, 1) := by decide +kernel
theorem dX2_init_9 : decode cX2_init 9 = .ok (.invokespecial 11, 3) := by decide +kernel
theorem dX2_init_12 : decode cX2_init 12 = .ok (.putfield 12, 3) := by decide +kernel
theorem dX2_init_15 : decode cX2_init 15 = .ok (.aload_n 0, 1) := by decide +kernel
theorem dX2_init_16 : decode cX2_init 16 = .ok (.iconst 0, 1) := by decide +kernel
theorem dX2_init_17 : decode cX2_init 17 = .ok (.putfield 18, 3) := by decide +kernel
theorem dX2_init_20 : decode cX2_init 20 = .ok (.aload_n 0, 1) := by decide +kernel
theorem dX2_init_21 : decode cX2_init 21 = .ok (.iconst 0, 1) := by decide +kernel
theorem dX2_init_22 : decode cX2_init 22 = .ok (.putfield 22, 3) := by decide +kernel
theorem dX2_init_25 : decode cX2_init 25 = .ok (.aload_n 0, 1) := by decide +kernel
theorem dX2_init_26 : decode cX2_init 26 = .ok (.iconst 0, 1) := by decide +kernel
theorem dX2_init_27 : decode cX2_init 27 = .ok (.putfield 25, 3) := by decide +kernel
theorem dX2_init_30 : decode cX2_init 30 = .ok (.aload_n 0, 1) := by decide +kernel
theorem dX2_init_31 : decode cX2_init 31 = .ok (.iconst 0, 1) := by decide +kernel
theorem dX2_init_32 : decode cX2_init 32 = .ok (.putfield 28, 3) := by decide +kernel
theorem dX2_init_35 : decode cX2_init 35 = .ok (.aload_n 0, 1) := by decide +kernel
theorem dX2_init_36 : decode cX2_init 36 = .ok (.iconst 0, 1) := by decide +kernel
theorem dX2_init_37 : decode cX2_init 37 = .ok (.putfield 32, 3) := by decide +kernel
theorem dX2_init_40 : decode cX2_init 40 = .ok (.aload_n 0, 1) := by decide +kernel
theorem dX2_init_41 : decode cX2_init 41 = .ok (.iconst 0, 1) := by decide +kernel
theorem dX2_init_42 : decode cX2_init 42 = .ok (.putfield 35, 3) := by decide +kernel
theorem dX2_init_45 : decode cX2_init 45 = .ok (.aload_n 0, 1) := by decide +kernel
theorem dX2_init_46 : decode cX2_init 46 = .ok (.iconst 0, 1) := by decide +kernel
theorem dX2_init_47 : decode cX2_init 47 = .ok (.putfield 38, 3) := by decide +kernel
theorem dX2_init_50 : decode cX2_init 50 = .ok (.return_, 1) := by decide +kernel
theorem dX2_line_0 : decode cX2_line 0 = .ok (.aload_n 0, 1) := by decide +kernel
theorem dX2_line_1 : decode cX2_line 1 = .ok (.getfield 12, 3) := by decide +kernel
theorem dX2_line_4 : decode cX2_line 4 = .ok (.areturn, 1) := by decide +kernel
theorem dX2_exactIsAsked_0 : decode cX2_exactIsAsked 0 = .ok (.aload_n 0, 1) := by decide +kernel
theorem dX2_exactIsAsked_1 : decode cX2_exactIsAsked 1 = .ok (.getfield 25, 3) := by decide +kernel
theorem dX2_exactIsAsked_4 : decode cX2_exactIsAsked 4 = .ok (.bipush 101, 2) := by decide +kernel
theorem dX2_exactIsAsked_6 : decode cX2_exactIsAsked 6 = .ok (.if_icmp .ne 7, 3) := by decide +kernel
theorem dX2_exactIsAsked_9 : decode cX2_exactIsAsked 9 = .ok (.iconst 1, 1) := by decide +kernel
theorem dX2_exactIsAsked_10 : decode cX2_exactIsAsked 10 = .ok (.goto 4, 3) := by decide +kernel
theorem dX2_exactIsAsked_13 : decode cX2_exactIsAsked 13 = .ok (.iconst 0, 1) := by decide +kernel
theorem dX2_exactIsAsked_14 : decode cX2_exactIsAsked 14 = .ok (.ireturn, 1) := by decide +kernel
theorem dX2_inexactIsAsked_0 : decode cX2_inexactIsAsked 0 = .ok (.aload_n 0, 1) := by decide +kernel
theorem dX2_inexactIsAsked_1 : decode cX2_inexactIsAsked 1 = .ok (.getfield 25, 3) := by decide +kernel
theorem dX2_inexactIsAsked_4 : decode cX2_inexactIsAsked 4 = .ok (.bipush 105, 2) := by decide +kernel
theorem dX2_inexactIsAsked_6 : decode cX2_inexactIsAsked 6 = .ok (.if_icmp .ne 7, 3) := by decide +kernel
theorem dX2_inexactIsAsked_9 : decode cX2_inexactIsAsked 9 = .ok (.iconst 1, 1) := by decide +kernel
theorem dX2_inexactIsAsked_10 : decode cX2_inexactIsAsked 10 = .ok (.goto 4, 3) := by decide +kernel
theorem dX2_inexactIsAsked_13 : decode cX2_inexactIsAsked 13 = .ok (.iconst 0, 1) := by decide +kernel
theorem dX2_inexactIsAsked_14 : decode cX2_inexactIsAsked 14 = .ok (.ireturn, 1) := by decide +kernel
theorem dX2_hasMinus_0 : decode cX2_hasMinus 0 = .ok (.aload_n 0, 1) := by decide +kernel
theorem dX2_hasMinus_1 : decode cX2_hasMinus 1 = .ok (.getfield 32, 3) := by decide +kernel
theorem dX2_hasMinus_4 : decode cX2_hasMinus 4 = .ok (.ireturn, 1) := by decide +kernel
theorem dX2_tens_0 : decode cX2_tens 0 = .ok (.aload_n 0, 1) := by decide +kernel
theorem dX2_tens_1 : decode cX2_tens 1 = .ok (.getfield 35, 3) := by decide +kernel
theorem dX2_tens_4 : decode cX2_tens 4 = .ok (.ireturn, 1) := by decide +kernel
theorem dX2_significantDigits_0 : decode cX2_significantDigits 0 = .ok (.aload_n 0, 1) := by decide +kernel
theorem dX2_significantDigits_1 : decode cX2_significantDigits 1 = .ok (.getfield 38, 3) := by decide +kernel
theorem dX2_significantDigits_4 : decode cX2_significantDigits 4 = .ok (.ireturn, 1) := by decide +kernel
theorem dX2_parse_0 : decode cX2_parse 0 = .ok (.aload_n 0, 1) := by decide +kernel
theorem dX2_parse_1 : decode cX2_parse 1 = .ok (.iconst 0, 1) := by decide +kernel
theorem dX2_parse_2 : decode cX2_parse 2 = .ok (.putfield 18, 3) := by decide +kernel
theorem dX2_parse_5 : decode cX2_parse 5 = .ok (.aload_n 0, 1) := by decide +kernel
theorem dX2_parse_6 : decode cX2_parse 6 = .ok (.iconst 0, 1) := by decide +kernel
theorem dX2_parse_7 : decode cX2_parse 7 = .ok (.putfield 22, 3) := by decide +kernel
theorem dX2_parse_10 : decode cX2_parse 10 = .ok (.aload_n 0, 1) := by decide +kernel
theorem dX2_parse_11 : decode cX2_parse 11 = .ok (.iconst 0, 1) := by decide +kernel
theorem dX2_parse_12 : decode cX2_parse 12 = .ok (.putfield 25, 3) := by decide +kernel
theorem dX2_parse_15 : decode cX2_parse 15 = .ok (.aload_n 0, 1) := by decide +kernel
theorem dX2_parse_16 : decode cX2_parse 16 = .ok (.iconst 0, 1) := by decide +kernel
theorem dX2_parse_17 : decode cX2_parse 17 = .ok (.putfield 35, 3) := by decide +kernel
theorem dX2_parse_20 : decode cX2_parse 20 = .ok (.aload_n 0, 1) := by decide +kernel
theorem dX2_parse_21 : decode cX2_parse 21 = .ok (.iconst 0, 1) := by decide +kernel
theorem dX2_parse_22 : decode cX2_parse 22 = .ok (.putfield 38, 3) := by decide +kernel
theorem dX2_parse_25 : decode cX2_parse 25 = .ok (.aload_n 1, 1) := by decide +kernel
theorem dX2_parse_26 : decode cX2_parse 26 = .ok (.lconst 0, 1) := by decide +kernel
theorem dX2_parse_27 : decode cX2_parse 27 = .ok (.invokevirtual 41, 3) := by decide +kernel
theorem dX2_parse_30 : decode cX2_parse 30 = .ok (.aload_n 2, 1) := by decide +kernel
theorem dX2_parse_31 : decode cX2_parse 31 = .ok (.lconst 1, 1) := by decide +kernel
theorem dX2_parse_32 : decode cX2_parse 32 = .ok (.invokevirtual 41, 3) := by decide +kernel
theorem dX2_parse_35 : decode cX2_parse 35 = .ok (.aload_n 0, 1) := by decide +kernel
theorem dX2_parse_36 : decode cX2_parse 36 = .ok (.invokevirtual 47, 3) := by decide +kernel
theorem dX2_parse_39 : decode cX2_parse 39 = .ok (.istore_n 3, 1) := by decide +kernel
theorem dX2_parse_40 : decode cX2_parse 40 = .ok (.aload_n 0, 1) := by decide +kernel
theorem dX2_parse_41 : decode cX2_parse 41 = .ok (.getfield 22, 3) := by decide +kernel
theorem dX2_parse_44 : decode cX2_parse 44 = .ok (.ifCond .ne 9, 3) := by decide +kernel
theorem dX2_parse_47 : decode cX2_parse 47 = .ok (.aload_n 0, 1) := by decide +kernel
theorem dX2_parse_48 : decode cX2_parse 48 = .ok (.bipush 10, 2) := by decide +kernel
theorem dX2_parse_50 : decode cX2_parse 50 = .ok (.putfield 22, 3) := by decide +kernel
theorem dX2_parse_53 : decode cX2_parse 53 = .ok (.aload_n 0, 1) := by decide +kernel
theorem dX2_parse_54 : decode cX2_parse 54 = .ok (.invokevirtual 51, 3) := by decide +kernel
theorem dX2_parse_57 : decode cX2_parse 57 = .ok (.iload_n 3, 1) := by decide +kernel
theorem dX2_parse_58 : decode cX2_parse 58 = .ok (.ifCond .ne 7, 3) := by decide +kernel
theorem dX2_parse_61 : decode cX2_parse 61 = .ok (.iconst 0, 1) := by decide +kernel
theorem dX2_parse_62 : decode cX2_parse 62 = .ok (.goto 25, 3) := by decide +kernel
theorem dX2_parse_65 : decode cX2_parse 65 = .ok (.aload_n 0, 1) := by decide +kernel
theorem dX2_parse_66 : decode cX2_parse 66 = .ok (.getfield 28, 3) := by decide +kernel
theorem dX2_parse_69 : decode cX2_parse 69 = .ok (.ifCond .eq 12, 3) := by decide +kernel
theorem dX2_parse_72 : decode cX2_parse 72 = .ok (.aload_n 0, 1) := by decide +kernel
theorem dX2_parse_73 : decode cX2_parse 73 = .ok (.aload_n 1, 1) := by decide +kernel
theorem dX2_parse_74 : decode cX2_parse 74 = .ok (.aload_n 2, 1) := by decide +kernel
theorem dX2_parse_75 : decode cX2_parse 75 = .ok (.invokevirtual 54, 3) := by decide +kernel
theorem dX2_parse_78 : decode cX2_parse 78 = .ok (.goto 9, 3) := by decide +kernel
theorem dX2_parse_81 : decode cX2_parse 81 = .ok (.aload_n 0, 1) := by decide +kernel
theorem dX2_parse_82 : decode cX2_parse 82 = .ok (.aload_n 1, 1) := by decide +kernel
theorem dX2_parse_83 : decode cX2_parse 83 = .ok (.aload_n 2, 1) := by decide +kernel
theorem dX2_parse_84 : decode cX2_parse 84 = .ok (.invokevirtual 58, 3) := by decide +kernel
theorem dX2_parse_87 : decode cX2_parse 87 = .ok (.istore 4, 2) := by decide +kernel
theorem dX2_parse_89 : decode cX2_parse 89 = .ok (.aload_n 0, 1) := by decide +kernel
theorem dX2_parse_90 : decode cX2_parse 90 = .ok (.invokevirtual 61, 3) := by decide +kernel
theorem dX2_parse_93 : decode cX2_parse 93 = .ok (.ifCond .ge 8, 3) := by decide +kernel
theorem dX2_parse_96 : decode cX2_parse 96 = .ok (.iload 4, 2) := by decide +kernel
theorem dX2_parse_98 : decode cX2_parse 98 = .ok (.goto 4, 3) := by decide +kernel
theorem dX2_parse_101 : decode cX2_parse 101 = .ok (.iconst 0, 1) := by decide +kernel
theorem dX2_parse_102 : decode cX2_parse 102 = .ok (.ireturn, 1) := by decide +kernel
theorem dX2_takeWordOrNumber_0 : decode cX2_takeWordOrNumber 0 = .ok (.aload_n 0, 1) := by decide +kernel
theorem dX2_takeWordOrNumber_1 : decode cX2_takeWordOrNumber 1 = .ok (.ldc 65, 2) := by decide +kernel
theorem dX2_takeWordOrNumber_3 : decode cX2_takeWordOrNumber 3 = .ok (.invokevirtual 67, 3) := by decide +kernel
theorem dX2_takeWordOrNumber_6 : decode cX2_takeWordOrNumber 6 = .ok (.ifCond .eq 7, 3) := by decide +kernel
theorem dX2_takeWordOrNumber_9 : decode cX2_takeWordOrNumber 9 = .ok (.iconst 3, 1) := by decide +kernel
theorem dX2_takeWordOrNumber_10 : decode cX2_takeWordOrNumber 10 = .ok (.goto 17, 3) := by decide +kernel
theorem dX2_takeWordOrNumber_13 : decode cX2_takeWordOrNumber 13 = .ok (.aload_n 0, 1) := by decide +kernel
theorem dX2_takeWordOrNumber_14 : decode cX2_takeWordOrNumber 14 = .ok (.ldc 71, 2) := by decide +kernel
theorem dX2_takeWordOrNumber_16 : decode cX2_takeWordOrNumber 16 = .ok (.invokevirtual 67, 3) := by decide +kernel
theorem dX2_takeWordOrNumber_19 : decode cX2_takeWordOrNumber 19 = .ok (.ifCond .eq 7, 3) := by decide +kernel
theorem dX2_takeWordOrNumber_22 : decode cX2_takeWordOrNumber 22 = .ok (.iconst 4, 1) := by decide +kernel
theorem dX2_takeWordOrNumber_23 : decode cX2_takeWordOrNumber 23 = .ok (.goto 4, 3) := by decide +kernel
theorem dX2_takeWordOrNumber_26 : decode cX2_takeWordOrNumber 26 = .ok (.iconst 0, 1) := by decide +kernel
theorem dX2_takeWordOrNumber_27 : decode cX2_takeWordOrNumber 27 = .ok (.istore_n 3, 1) := by decide +kernel
theorem dX2_takeWordOrNumber_28 : decode cX2_takeWordOrNumber 28 = .ok (.iload_n 3, 1) := by decide +kernel
theorem dX2_takeWordOrNumber_29 : decode cX2_takeWordOrNumber 29 = .ok (.ifCond .ne 10, 3) := by decide +kernel
theorem dX2_takeWordOrNumber_32 : decode cX2_takeWordOrNumber 32 = .ok (.aload_n 0, 1) := by decide +kernel
theorem dX2_takeWordOrNumber_33 : decode cX2_takeWordOrNumber 33 = .ok (.aload_n 1, 1) := by decide +kernel
theorem dX2_takeWordOrNumber_34 : decode cX2_takeWordOrNumber 34 = .ok (.aload_n 2, 1) := by decide +kernel
theorem dX2_takeWordOrNumber_35 : decode cX2_takeWordOrNumber 35 = .ok (.invokevirtual 58, 3) := by decide +kernel
theorem dX2_takeWordOrNumber_38 : decode cX2_takeWordOrNumber 38 = .ok (.ireturn, 1) := by decide +kernel
theorem dX2_takeWordOrNumber_39 : decode cX2_takeWordOrNumber 39 = .ok (.aload_n 0, 1) := by decide +kernel
theorem dX2_takeWordOrNumber_40 : decode cX2_takeWordOrNumber 40 = .ok (.invokevirtual 73, 3) := by decide +kernel
theorem dX2_takeWordOrNumber_43 : decode cX2_takeWordOrNumber 43 = .ok (.ifCond .eq 7, 3) := by decide +kernel
theorem dX2_takeWordOrNumber_46 : decode cX2_takeWordOrNumber 46 = .ok (.iconst 0, 1) := by decide +kernel
theorem dX2_takeWordOrNumber_47 : decode cX2_takeWordOrNumber 47 = .ok (.goto 4, 3) := by decide +kernel
theorem dX2_takeWordOrNumber_50 : decode cX2_takeWordOrNumber 50 = .ok (.iload_n 3, 1) := by decide +kernel
theorem dX2_takeWordOrNumber_51 : decode cX2_takeWordOrNumber 51 = .ok (.ireturn, 1) := by decide +kernel
theorem dX2_takeNumber_0 : decode cX2_takeNumber 0 = .ok (.aload_n 0, 1) := by decide +kernel
theorem dX2_takeNumber_1 : decode cX2_takeNumber 1 = .ok (.aload_n 1, 1) := by decide +kernel
theorem dX2_takeNumber_2 : decode cX2_takeNumber 2 = .ok (.invokevirtual 76, 3) := by decide +kernel
theorem dX2_takeNumber_5 : decode cX2_takeNumber 5 = .ok (.istore_n 3, 1) := by decide +kernel
theorem dX2_takeNumber_6 : decode cX2_takeNumber 6 = .ok (.iload_n 3, 1) := by decide +kernel
theorem dX2_takeNumber_7 : decode cX2_takeNumber 7 = .ok (.ifCond .le 46, 3) := by decide +kernel
theorem dX2_takeNumber_10 : decode cX2_takeNumber 10 = .ok (.aload_n 0, 1) := by decide +kernel
theorem dX2_takeNumber_11 : decode cX2_takeNumber 11 = .ok (.invokevirtual 61, 3) := by decide +kernel
theorem dX2_takeNumber_14 : decode cX2_takeNumber 14 = .ok (.bipush 47, 2) := by decide +kernel
theorem dX2_takeNumber_16 : decode cX2_takeNumber 16 = .ok (.if_icmp .ne 37, 3) := by decide +kernel
theorem dX2_takeNumber_19 : decode cX2_takeNumber 19 = .ok (.aload_n 0, 1) := by decide +kernel
theorem dX2_takeNumber_20 : decode cX2_takeNumber 20 = .ok (.dup, 1) := by decide +kernel
theorem dX2_takeNumber_21 : decode cX2_takeNumber 21 = .ok (.getfield 18, 3) := by decide +kernel
theorem dX2_takeNumber_24 : decode cX2_takeNumber 24 = .ok (.iconst 1, 1) := by decide +kernel
theorem dX2_takeNumber_25 : decode cX2_takeNumber 25 = .ok (.iadd, 1) := by decide +kernel
theorem dX2_takeNumber_26 : decode cX2_takeNumber 26 = .ok (.putfield 18, 3) := by decide +kernel
theorem dX2_takeNumber_29 : decode cX2_takeNumber 29 = .ok (.aload_n 2, 1) := by decide +kernel
theorem dX2_takeNumber_30 : decode cX2_takeNumber 30 = .ok (.lconst 0, 1) := by decide +kernel
theorem dX2_takeNumber_31 : decode cX2_takeNumber 31 = .ok (.invokevirtual 41, 3) := by decide +kernel
theorem dX2_takeNumber_34 : decode cX2_takeNumber 34 = .ok (.aload_n 0, 1) := by decide +kernel
theorem dX2_takeNumber_35 : decode cX2_takeNumber 35 = .ok (.aload_n 2, 1) := by decide +kernel
theorem dX2_takeNumber_36 : decode cX2_takeNumber 36 = .ok (.invokevirtual 76, 3) := by decide +kernel
theorem dX2_takeNumber_39 : decode cX2_takeNumber 39 = .ok (.pop, 1) := by decide +kernel
theorem dX2_takeNumber_40 : decode cX2_takeNumber 40 = .ok (.aload_n 2, 1) := by decide +kernel
theorem dX2_takeNumber_41 : decode cX2_takeNumber 41 = .ok (.invokevirtual 80, 3) := by decide +kernel
theorem dX2_takeNumber_44 : decode cX2_takeNumber 44 = .ok (.ifCond .eq 7, 3) := by decide +kernel
theorem dX2_takeNumber_47 : decode cX2_takeNumber 47 = .ok (.iconst 0, 1) := by decide +kernel
theorem dX2_takeNumber_48 : decode cX2_takeNumber 48 = .ok (.goto 4, 3) := by decide +kernel
theorem dX2_takeNumber_51 : decode cX2_takeNumber 51 = .ok (.iconst 1, 1) := by decide +kernel
theorem dX2_takeNumber_52 : decode cX2_takeNumber 52 = .ok (.ireturn, 1) := by decide +kernel
theorem dX2_takeNumber_53 : decode cX2_takeNumber 53 = .ok (.aload_n 0, 1) := by decide +kernel
theorem dX2_takeNumber_54 : decode cX2_takeNumber 54 = .ok (.getfield 22, 3) := by decide +kernel
theorem dX2_takeNumber_57 : decode cX2_takeNumber 57 = .ok (.bipush 10, 2) := by decide +kernel
theorem dX2_takeNumber_59 : decode cX2_takeNumber 59 = .ok (.if_icmp .ne 29, 3) := by decide +kernel
theorem dX2_takeNumber_62 : decode cX2_takeNumber 62 = .ok (.aload_n 0, 1) := by decide +kernel
theorem dX2_takeNumber_63 : decode cX2_takeNumber 63 = .ok (.invokevirtual 61, 3) := by decide +kernel
theorem dX2_takeNumber_66 : decode cX2_takeNumber 66 = .ok (.bipush 46, 2) := by decide +kernel
theorem dX2_takeNumber_68 : decode cX2_takeNumber 68 = .ok (.if_icmp .eq 13, 3) := by decide +kernel
theorem dX2_takeNumber_71 : decode cX2_takeNumber 71 = .ok (.aload_n 0, 1) := by decide +kernel
theorem dX2_takeNumber_72 : decode cX2_takeNumber 72 = .ok (.invokevirtual 61, 3) := by decide +kernel
theorem dX2_takeNumber_75 : decode cX2_takeNumber 75 = .ok (.invokestatic 83, 3) := by decide +kernel
theorem dX2_takeNumber_78 : decode cX2_takeNumber 78 = .ok (.ifCond .eq 10, 3) := by decide +kernel
theorem dX2_takeNumber_81 : decode cX2_takeNumber 81 = .ok (.aload_n 0, 1) := by decide +kernel
theorem dX2_takeNumber_82 : decode cX2_takeNumber 82 = .ok (.aload_n 1, 1) := by decide +kernel
theorem dX2_takeNumber_83 : decode cX2_takeNumber 83 = .ok (.iload_n 3, 1) := by decide +kernel
theorem dX2_takeNumber_84 : decode cX2_takeNumber 84 = .ok (.invokevirtual 87, 3) := by decide +kernel
theorem dX2_takeNumber_87 : decode cX2_takeNumber 87 = .ok (.ireturn, 1) := by decide +kernel
theorem dX2_takeNumber_88 : decode cX2_takeNumber 88 = .ok (.iload_n 3, 1) := by decide +kernel
theorem dX2_takeNumber_89 : decode cX2_takeNumber 89 = .ok (.ifCond .le 7, 3) := by decide +kernel
theorem dX2_takeNumber_92 : decode cX2_takeNumber 92 = .ok (.iconst 1, 1) := by decide +kernel
theorem dX2_takeNumber_93 : decode cX2_takeNumber 93 = .ok (.goto 4, 3) := by decide +kernel
theorem dX2_takeNumber_96 : decode cX2_takeNumber 96 = .ok (.iconst 0, 1) := by decide +kernel
theorem dX2_takeNumber_97 : decode cX2_takeNumber 97 = .ok (.ireturn, 1) := by decide +kernel
theorem dX2_takeDecimal_0 : decode cX2_takeDecimal 0 = .ok (.iconst 0, 1) := by decide +kernel
theorem dX2_takeDecimal_1 : decode cX2_takeDecimal 1 = .ok (.istore_n 3, 1) := by decide +kernel
theorem dX2_takeDecimal_2 : decode cX2_takeDecimal 2 = .ok (.aload_n 0, 1) := by decide +kernel
theorem dX2_takeDecimal_3 : decode cX2_takeDecimal 3 = .ok (.invokevirtual 61, 3) := by decide +kernel
theorem dX2_takeDecimal_6 : decode cX2_takeDecimal 6 = .ok (.bipush 46, 2) := by decide +kernel
theorem dX2_takeDecimal_8 : decode cX2_takeDecimal 8 = .ok (.if_icmp .ne 19, 3) := by decide +kernel
theorem dX2_takeDecimal_11 : decode cX2_takeDecimal 11 = .ok (.aload_n 0, 1) := by decide +kernel
theorem dX2_takeDecimal_12 : decode cX2_takeDecimal 12 = .ok (.dup, 1) := by decide +kernel
theorem dX2_takeDecimal_13 : decode cX2_takeDecimal 13 = .ok (.getfield 18, 3) := by decide +kernel
theorem dX2_takeDecimal_16 : decode cX2_takeDecimal 16 = .ok (.iconst 1, 1) := by decide +kernel
theorem dX2_takeDecimal_17 : decode cX2_takeDecimal 17 = .ok (.iadd, 1) := by decide +kernel
theorem dX2_takeDecimal_18 : decode cX2_takeDecimal 18 = .ok (.putfield 18, 3) := by decide +kernel
theorem dX2_takeDecimal_21 : decode cX2_takeDecimal 21 = .ok (.aload_n 0, 1) := by decide +kernel
theorem dX2_takeDecimal_22 : decode cX2_takeDecimal 22 = .ok (.aload_n 1, 1) := by decide +kernel
theorem dX2_takeDecimal_23 : decode cX2_takeDecimal 23 = .ok (.invokevirtual 76, 3) := by decide +kernel
theorem dX2_takeDecimal_26 : decode cX2_takeDecimal 26 = .ok (.istore_n 3, 1) := by decide +kernel
theorem dX2_takeDecimal_27 : decode cX2_takeDecimal 27 = .ok (.iload_n 2, 1) := by decide +kernel
theorem dX2_takeDecimal_28 : decode cX2_takeDecimal 28 = .ok (.iload_n 3, 1) := by decide +kernel
theorem dX2_takeDecimal_29 : decode cX2_takeDecimal 29 = .ok (.iadd, 1) := by decide +kernel
theorem dX2_takeDecimal_30 : decode cX2_takeDecimal 30 = .ok (.ifCond .ne 5, 3) := by decide +kernel
theorem dX2_takeDecimal_33 : decode cX2_takeDecimal 33 = .ok (.iconst 0, 1) := by decide +kernel
theorem dX2_takeDecimal_34 : decode cX2_takeDecimal 34 = .ok (.ireturn, 1) := by decide +kernel
theorem dX2_takeDecimal_35 : decode cX2_takeDecimal 35 = .ok (.aload_n 0, 1) := by decide +kernel
theorem dX2_takeDecimal_36 : decode cX2_takeDecimal 36 = .ok (.iload_n 3, 1) := by decide +kernel
theorem dX2_takeDecimal_37 : decode cX2_takeDecimal 37 = .ok (.ineg, 1) := by decide +kernel
theorem dX2_takeDecimal_38 : decode cX2_takeDecimal 38 = .ok (.putfield 35, 3) := by decide +kernel
theorem dX2_takeDecimal_41 : decode cX2_takeDecimal 41 = .ok (.aload_n 0, 1) := by decide +kernel
theorem dX2_takeDecimal_42 : decode cX2_takeDecimal 42 = .ok (.invokevirtual 61, 3) := by decide +kernel
theorem dX2_takeDecimal_45 : decode cX2_takeDecimal 45 = .ok (.invokestatic 83, 3) := by decide +kernel
theorem dX2_takeDecimal_48 : decode cX2_takeDecimal 48 = .ok (.ifCond .eq 10, 3) := by decide +kernel
theorem dX2_takeDecimal_51 : decode cX2_takeDecimal 51 = .ok (.aload_n 0, 1) := by decide +kernel
theorem dX2_takeDecimal_52 : decode cX2_takeDecimal 52 = .ok (.invokevirtual 91, 3) := by decide +kernel
theorem dX2_takeDecimal_55 : decode cX2_takeDecimal 55 = .ok (.ifCond .eq 7, 3) := by decide +kernel
theorem dX2_takeDecimal_58 : decode cX2_takeDecimal 58 = .ok (.iconst 2, 1) := by decide +kernel
theorem dX2_takeDecimal_59 : decode cX2_takeDecimal 59 = .ok (.goto 4, 3) := by decide +kernel
theorem dX2_takeDecimal_62 : decode cX2_takeDecimal 62 = .ok (.iconst 0, 1) := by decide +kernel
theorem dX2_takeDecimal_63 : decode cX2_takeDecimal 63 = .ok (.ireturn, 1) := by decide +kernel
theorem dX2_takeExponent_0 : decode cX2_takeExponent 0 = .ok (.aload_n 0, 1) := by decide +kernel
theorem dX2_takeExponent_1 : decode cX2_takeExponent 1 = .ok (.dup, 1) := by decide +kernel
theorem dX2_takeExponent_2 : decode cX2_takeExponent 2 = .ok (.getfield 18, 3) := by decide +kernel
theorem dX2_takeExponent_5 : decode cX2_takeExponent 5 = .ok (.iconst 1, 1) := by decide +kernel
theorem dX2_takeExponent_6 : decode cX2_takeExponent 6 = .ok (.iadd, 1) := by decide +kernel
theorem dX2_takeExponent_7 : decode cX2_takeExponent 7 = .ok (.putfield 18, 3) := by decide +kernel
theorem dX2_takeExponent_10 : decode cX2_takeExponent 10 = .ok (.aload_n 0, 1) := by decide +kernel
theorem dX2_takeExponent_11 : decode cX2_takeExponent 11 = .ok (.invokevirtual 61, 3) := by decide +kernel
theorem dX2_takeExponent_14 : decode cX2_takeExponent 14 = .ok (.bipush 45, 2) := by decide +kernel
theorem dX2_takeExponent_16 : decode cX2_takeExponent 16 = .ok (.if_icmp .ne 7, 3) := by decide +kernel
theorem dX2_takeExponent_19 : decode cX2_takeExponent 19 = .ok (.iconst 1, 1) := by decide +kernel
theorem dX2_takeExponent_20 : decode cX2_takeExponent 20 = .ok (.goto 4, 3) := by decide +kernel
theorem dX2_takeExponent_23 : decode cX2_takeExponent 23 = .ok (.iconst 0, 1) := by decide +kernel
theorem dX2_takeExponent_24 : decode cX2_takeExponent 24 = .ok (.istore_n 1, 1) := by decide +kernel
theorem dX2_takeExponent_25 : decode cX2_takeExponent 25 = .ok (.iload_n 1, 1) := by decide +kernel
theorem dX2_takeExponent_26 : decode cX2_takeExponent 26 = .ok (.ifCond .ne 12, 3) := by decide +kernel
theorem dX2_takeExponent_29 : decode cX2_takeExponent 29 = .ok (.aload_n 0, 1) := by decide +kernel
theorem dX2_takeExponent_30 : decode cX2_takeExponent 30 = .ok (.invokevirtual 61, 3) := by decide +kernel
theorem dX2_takeExponent_33 : decode cX2_takeExponent 33 = .ok (.bipush 43, 2) := by decide +kernel
theorem dX2_takeExponent_35 : decode cX2_takeExponent 35 = .ok (.if_icmp .ne 13, 3) := by decide +kernel
theorem dX2_takeExponent_38 : decode cX2_takeExponent 38 = .ok (.aload_n 0, 1) := by decide +kernel
theorem dX2_takeExponent_39 : decode cX2_takeExponent 39 = .ok (.dup, 1) := by decide +kernel
theorem dX2_takeExponent_40 : decode cX2_takeExponent 40 = .ok (.getfield 18, 3) := by decide +kernel
theorem dX2_takeExponent_43 : decode cX2_takeExponent 43 = .ok (.iconst 1, 1) := by decide +kernel
theorem dX2_takeExponent_44 : decode cX2_takeExponent 44 = .ok (.iadd, 1) := by decide +kernel
theorem dX2_takeExponent_45 : decode cX2_takeExponent 45 = .ok (.putfield 18, 3) := by decide +kernel
theorem dX2_takeExponent_48 : decode cX2_takeExponent 48 = .ok (.iconst 0, 1) := by decide +kernel
theorem dX2_takeExponent_49 : decode cX2_takeExponent 49 = .ok (.istore_n 2, 1) := by decide +kernel
theorem dX2_takeExponent_50 : decode cX2_takeExponent 50 = .ok (.iconst 0, 1) := by decide +kernel
theorem dX2_takeExponent_51 : decode cX2_takeExponent 51 = .ok (.istore_n 3, 1) := by decide +kernel
theorem dX2_takeExponent_52 : decode cX2_takeExponent 52 = .ok (.iload_n 3, 1) := by decide +kernel
theorem dX2_takeExponent_53 : decode cX2_takeExponent 53 = .ok (.iconst 4, 1) := by decide +kernel
theorem dX2_takeExponent_54 : decode cX2_takeExponent 54 = .ok (.if_icmp .ge 36, 3) := by decide +kernel
theorem dX2_takeExponent_57 : decode cX2_takeExponent 57 = .ok (.aload_n 0, 1) := by decide +kernel
theorem dX2_takeExponent_58 : decode cX2_takeExponent 58 = .ok (.invokevirtual 94, 3) := by decide +kernel
theorem dX2_takeExponent_61 : decode cX2_takeExponent 61 = .ok (.ifCond .lt 29, 3) := by decide +kernel
theorem dX2_takeExponent_64 : decode cX2_takeExponent 64 = .ok (.bipush 10, 2) := by decide +kernel
theorem dX2_takeExponent_66 : decode cX2_takeExponent 66 = .ok (.iload_n 2, 1) := by decide +kernel
theorem dX2_takeExponent_67 : decode cX2_takeExponent 67 = .ok (.imul, 1) := by decide +kernel
theorem dX2_takeExponent_68 : decode cX2_takeExponent 68 = .ok (.aload_n 0, 1) := by decide +kernel
theorem dX2_takeExponent_69 : decode cX2_takeExponent 69 = .ok (.invokevirtual 94, 3) := by decide +kernel
theorem dX2_takeExponent_72 : decode cX2_takeExponent 72 = .ok (.iadd, 1) := by decide +kernel
theorem dX2_takeExponent_73 : decode cX2_takeExponent 73 = .ok (.istore_n 2, 1) := by decide +kernel
theorem dX2_takeExponent_74 : decode cX2_takeExponent 74 = .ok (.aload_n 0, 1) := by decide +kernel
theorem dX2_takeExponent_75 : decode cX2_takeExponent 75 = .ok (.dup, 1) := by decide +kernel
theorem dX2_takeExponent_76 : decode cX2_takeExponent 76 = .ok (.getfield 18, 3) := by decide +kernel
theorem dX2_takeExponent_79 : decode cX2_takeExponent 79 = .ok (.iconst 1, 1) := by decide +kernel
theorem dX2_takeExponent_80 : decode cX2_takeExponent 80 = .ok (.iadd, 1) := by decide +kernel
theorem dX2_takeExponent_81 : decode cX2_takeExponent 81 = .ok (.putfield 18, 3) := by decide +kernel
theorem dX2_takeExponent_84 : decode cX2_takeExponent 84 = .ok (.iinc 3 1, 3) := by decide +kernel
theorem dX2_takeExponent_87 : decode cX2_takeExponent 87 = .ok (.goto (-35), 3) := by decide +kernel
theorem dX2_takeExponent_90 : decode cX2_takeExponent 90 = .ok (.aload_n 0, 1) := by decide +kernel
theorem dX2_takeExponent_91 : decode cX2_takeExponent 91 = .ok (.dup, 1) := by decide +kernel
theorem dX2_takeExponent_92 : decode cX2_takeExponent 92 = .ok (.getfield 35, 3) := by decide +kernel
theorem dX2_takeExponent_95 : decode cX2_takeExponent 95 = .ok (.iload_n 1, 1) := by decide +kernel
theorem dX2_takeExponent_96 : decode cX2_takeExponent 96 = .ok (.ifCond .eq 8, 3) := by decide +kernel
theorem dX2_takeExponent_99 : decode cX2_takeExponent 99 = .ok (.iload_n 2, 1) := by decide +kernel
theorem dX2_takeExponent_100 : decode cX2_takeExponent 100 = .ok (.ineg, 1) := by decide +kernel
theorem dX2_takeExponent_101 : decode cX2_takeExponent 101 = .ok (.goto 4, 3) := by decide +kernel
theorem dX2_takeExponent_104 : decode cX2_takeExponent 104 = .ok (.iload_n 2, 1) := by decide +kernel
theorem dX2_takeExponent_105 : decode cX2_takeExponent 105 = .ok (.iadd, 1) := by decide +kernel
theorem dX2_takeExponent_106 : decode cX2_takeExponent 106 = .ok (.putfield 35, 3) := by decide +kernel
theorem dX2_takeExponent_109 : decode cX2_takeExponent 109 = .ok (.iload_n 3, 1) := by decide +kernel
theorem dX2_takeExponent_110 : decode cX2_takeExponent 110 = .ok (.ifCond .le 7, 3) := by decide +kernel
theorem dX2_takeExponent_113 : decode cX2_takeExponent 113 = .ok (.iconst 1, 1) := by decide +kernel
theorem dX2_takeExponent_114 : decode cX2_takeExponent 114 = .ok (.goto 4, 3) := by decide +kernel
theorem dX2_takeExponent_117 : decode cX2_takeExponent 117 = .ok (.iconst 0, 1) := by decide +kernel
theorem dX2_takeExponent_118 : decode cX2_takeExponent 118 = .ok (.ireturn, 1) := by decide +kernel
theorem dX2_takePrefixes_0 : decode cX2_takePrefixes 0 = .ok (.iconst 0, 1) := by decide +kernel
theorem dX2_takePrefixes_1 : decode cX2_takePrefixes 1 = .ok (.istore_n 1, 1) := by decide +kernel
theorem dX2_takePrefixes_2 : decode cX2_takePrefixes 2 = .ok (.iload_n 1, 1) := by decide +kernel
theorem dX2_takePrefixes_3 : decode cX2_takePrefixes 3 = .ok (.iconst 2, 1) := by decide +kernel
theorem dX2_takePrefixes_4 : decode cX2_takePrefixes 4 = .ok (.if_icmp .ge 108, 3) := by decide +kernel
theorem dX2_takePrefixes_7 : decode cX2_takePrefixes 7 = .ok (.aload_n 0, 1) := by decide +kernel
theorem dX2_takePrefixes_8 : decode cX2_takePrefixes 8 = .ok (.invokevirtual 61, 3) := by decide +kernel
theorem dX2_takePrefixes_11 : decode cX2_takePrefixes 11 = .ok (.bipush 35, 2) := by decide +kernel
theorem dX2_takePrefixes_13 : decode cX2_takePrefixes 13 = .ok (.if_icmp .ne 99, 3) := by decide +kernel
theorem dX2_takePrefixes_16 : decode cX2_takePrefixes 16 = .ok (.aload_n 0, 1) := by decide +kernel
theorem dX2_takePrefixes_17 : decode cX2_takePrefixes 17 = .ok (.dup, 1) := by decide +kernel
theorem dX2_takePrefixes_18 : decode cX2_takePrefixes 18 = .ok (.getfield 18, 3) := by decide +kernel
theorem dX2_takePrefixes_21 : decode cX2_takePrefixes 21 = .ok (.iconst 1, 1) := by decide +kernel
theorem dX2_takePrefixes_22 : decode cX2_takePrefixes 22 = .ok (.iadd, 1) := by decide +kernel
theorem dX2_takePrefixes_23 : decode cX2_takePrefixes 23 = .ok (.putfield 18, 3) := by decide +kernel
theorem dX2_takePrefixes_26 : decode cX2_takePrefixes 26 = .ok (.aload_n 0, 1) := by decide +kernel
theorem dX2_takePrefixes_27 : decode cX2_takePrefixes 27 = .ok (.invokevirtual 61, 3) := by decide +kernel
theorem dX2_takePrefixes_30 : decode cX2_takePrefixes 30 = .ok (.istore_n 2, 1) := by decide +kernel
theorem dX2_takePrefixes_31 : decode cX2_takePrefixes 31 = .ok (.aload_n 0, 1) := by decide +kernel
theorem dX2_takePrefixes_32 : decode cX2_takePrefixes 32 = .ok (.dup, 1) := by decide +kernel
theorem dX2_takePrefixes_33 : decode cX2_takePrefixes 33 = .ok (.getfield 18, 3) := by decide +kernel
theorem dX2_takePrefixes_36 : decode cX2_takePrefixes 36 = .ok (.iconst 1, 1) := by decide +kernel
theorem dX2_takePrefixes_37 : decode cX2_takePrefixes 37 = .ok (.iadd, 1) := by decide +kernel
theorem dX2_takePrefixes_38 : decode cX2_takePrefixes 38 = .ok (.putfield 18, 3) := by decide +kernel
theorem dX2_takePrefixes_41 : decode cX2_takePrefixes 41 = .ok (.iload_n 2, 1) := by decide +kernel
theorem dX2_takePrefixes_42 : decode cX2_takePrefixes 42 = .ok (.invokestatic 97, 3) := by decide +kernel
theorem dX2_takePrefixes_45 : decode cX2_takePrefixes 45 = .ok (.istore_n 3, 1) := by decide +kernel
theorem dX2_takePrefixes_46 : decode cX2_takePrefixes 46 = .ok (.iload_n 2, 1) := by decide +kernel
theorem dX2_takePrefixes_47 : decode cX2_takePrefixes 47 = .ok (.bipush 101, 2) := by decide +kernel
theorem dX2_takePrefixes_49 : decode cX2_takePrefixes 49 = .ok (.if_icmp .eq 9, 3) := by decide +kernel
theorem dX2_takePrefixes_52 : decode cX2_takePrefixes 52 = .ok (.iload_n 2, 1) := by decide +kernel
theorem dX2_takePrefixes_53 : decode cX2_takePrefixes 53 = .ok (.bipush 105, 2) := by decide +kernel
theorem dX2_takePrefixes_55 : decode cX2_takePrefixes 55 = .ok (.if_icmp .ne 7, 3) := by decide +kernel
theorem dX2_takePrefixes_58 : decode cX2_takePrefixes 58 = .ok (.iconst 1, 1) := by decide +kernel
theorem dX2_takePrefixes_59 : decode cX2_takePrefixes 59 = .ok (.goto 4, 3) := by decide +kernel
theorem dX2_takePrefixes_62 : decode cX2_takePrefixes 62 = .ok (.iconst 0, 1) := by decide +kernel
theorem dX2_takePrefixes_63 : decode cX2_takePrefixes 63 = .ok (.istore 4, 2) := by decide +kernel
theorem dX2_takePrefixes_65 : decode cX2_takePrefixes 65 = .ok (.iload_n 3, 1) := by decide +kernel
theorem dX2_takePrefixes_66 : decode cX2_takePrefixes 66 = .ok (.ifCond .eq 18, 3) := by decide +kernel
theorem dX2_takePrefixes_69 : decode cX2_takePrefixes 69 = .ok (.aload_n 0, 1) := by decide +kernel
theorem dX2_takePrefixes_70 : decode cX2_takePrefixes 70 = .ok (.getfield 22, 3) := by decide +kernel
theorem dX2_takePrefixes_73 : decode cX2_takePrefixes 73 = .ok (.ifCond .ne 11, 3) := by decide +kernel
theorem dX2_takePrefixes_76 : decode cX2_takePrefixes 76 = .ok (.aload_n 0, 1) := by decide +kernel
theorem dX2_takePrefixes_77 : decode cX2_takePrefixes 77 = .ok (.iload_n 3, 1) := by decide +kernel
theorem dX2_takePrefixes_78 : decode cX2_takePrefixes 78 = .ok (.putfield 22, 3) := by decide +kernel
theorem dX2_takePrefixes_81 : decode cX2_takePrefixes 81 = .ok (.goto 25, 3) := by decide +kernel
theorem dX2_takePrefixes_84 : decode cX2_takePrefixes 84 = .ok (.iload 4, 2) := by decide +kernel
theorem dX2_takePrefixes_86 : decode cX2_takePrefixes 86 = .ok (.ifCond .eq 18, 3) := by decide +kernel
theorem dX2_takePrefixes_89 : decode cX2_takePrefixes 89 = .ok (.aload_n 0, 1) := by decide +kernel
theorem dX2_takePrefixes_90 : decode cX2_takePrefixes 90 = .ok (.getfield 25, 3) := by decide +kernel
theorem dX2_takePrefixes_93 : decode cX2_takePrefixes 93 = .ok (.ifCond .ne 11, 3) := by decide +kernel
theorem dX2_takePrefixes_96 : decode cX2_takePrefixes 96 = .ok (.aload_n 0, 1) := by decide +kernel
theorem dX2_takePrefixes_97 : decode cX2_takePrefixes 97 = .ok (.iload_n 2, 1) := by decide +kernel
theorem dX2_takePrefixes_98 : decode cX2_takePrefixes 98 = .ok (.putfield 25, 3) := by decide +kernel
theorem dX2_takePrefixes_101 : decode cX2_takePrefixes 101 = .ok (.goto 5, 3) := by decide +kernel
theorem dX2_takePrefixes_104 : decode cX2_takePrefixes 104 = .ok (.iconst 0, 1) := by decide +kernel
theorem dX2_takePrefixes_105 : decode cX2_takePrefixes 105 = .ok (.ireturn, 1) := by decide +kernel
theorem dX2_takePrefixes_106 : decode cX2_takePrefixes 106 = .ok (.iinc 1 1, 3) := by decide +kernel
theorem dX2_takePrefixes_109 : decode cX2_takePrefixes 109 = .ok (.goto (-107), 3) := by decide +kernel
theorem dX2_takePrefixes_112 : decode cX2_takePrefixes 112 = .ok (.iconst 1, 1) := by decide +kernel
theorem dX2_takePrefixes_113 : decode cX2_takePrefixes 113 = .ok (.ireturn, 1) := by decide +kernel
theorem dX2_baseOf_0 : decode cX2_baseOf 0 = .ok (.iload_n 0, 1) := by decide +kernel
theorem dX2_baseOf_1 : decode cX2_baseOf 1 = .ok (.lookupswitch 54 #[(98, 46), (100, 51), (111, 48), (120, 43)], 43) := by decide +kernel
theorem dX2_baseOf_44 : decode cX2_baseOf 44 = .ok (.bipush 16, 2) := by decide +kernel
theorem dX2_baseOf_46 : decode cX2_baseOf 46 = .ok (.ireturn, 1) := by decide +kernel
theorem dX2_baseOf_47 : decode cX2_baseOf 47 = .ok (.iconst 2, 1) := by decide +kernel
theorem dX2_baseOf_48 : decode cX2_baseOf 48 = .ok (.ireturn, 1) := by decide +kernel
theorem dX2_baseOf_49 : decode cX2_baseOf 49 = .ok (.bipush 8, 2) := by decide +kernel
theorem dX2_baseOf_51 : decode cX2_baseOf 51 = .ok (.ireturn, 1) := by decide +kernel
theorem dX2_baseOf_52 : decode cX2_baseOf 52 = .ok (.bipush 10, 2) := by decide +kernel
theorem dX2_baseOf_54 : decode cX2_baseOf 54 = .ok (.ireturn, 1) := by decide +kernel
theorem dX2_baseOf_55 : decode cX2_baseOf 55 = .ok (.iconst 0, 1) := by decide +kernel
theorem dX2_baseOf_56 : decode cX2_baseOf 56 = .ok (.ireturn, 1) := by decide +kernel
theorem dX2_takeSign_0 : decode cX2_takeSign 0 = .ok (.aload_n 0, 1) := by decide +kernel
theorem dX2_takeSign_1 : decode cX2_takeSign 1 = .ok (.aload_n 0, 1) := by decide +kernel
theorem dX2_takeSign_2 : decode cX2_takeSign 2 = .ok (.invokevirtual 61, 3) := by decide +kernel
theorem dX2_takeSign_5 : decode cX2_takeSign 5 = .ok (.bipush 45, 2) := by decide +kernel
theorem dX2_takeSign_7 : decode cX2_takeSign 7 = .ok (.if_icmp .ne 7, 3) := by decide +kernel
theorem dX2_takeSign_10 : decode cX2_takeSign 10 = .ok (.iconst 1, 1) := by decide +kernel
theorem dX2_takeSign_11 : decode cX2_takeSign 11 = .ok (.goto 4, 3) := by decide +kernel
theorem dX2_takeSign_14 : decode cX2_takeSign 14 = .ok (.iconst 0, 1) := by decide +kernel
theorem dX2_takeSign_15 : decode cX2_takeSign 15 = .ok (.putfield 32, 3) := by decide +kernel
theorem dX2_takeSign_18 : decode cX2_takeSign 18 = .ok (.aload_n 0, 1) := by decide +kernel
theorem dX2_takeSign_19 : decode cX2_takeSign 19 = .ok (.aload_n 0, 1) := by decide +kernel
theorem dX2_takeSign_20 : decode cX2_takeSign 20 = .ok (.getfield 32, 3) := by decide +kernel
theorem dX2_takeSign_23 : decode cX2_takeSign 23 = .ok (.ifCond .ne 12, 3) := by decide +kernel
theorem dX2_takeSign_26 : decode cX2_takeSign 26 = .ok (.aload_n 0, 1) := by decide +kernel
theorem dX2_takeSign_27 : decode cX2_takeSign 27 = .ok (.invokevirtual 61, 3) := by decide +kernel
theorem dX2_takeSign_30 : decode cX2_takeSign 30 = .ok (.bipush 43, 2) := by decide +kernel
theorem dX2_takeSign_32 : decode cX2_takeSign 32 = .ok (.if_icmp .ne 7, 3) := by decide +kernel
theorem dX2_takeSign_35 : decode cX2_takeSign 35 = .ok (.iconst 1, 1) := by decide +kernel
theorem dX2_takeSign_36 : decode cX2_takeSign 36 = .ok (.goto 4, 3) := by decide +kernel
theorem dX2_takeSign_39 : decode cX2_takeSign 39 = .ok (.iconst 0, 1) := by decide +kernel
theorem dX2_takeSign_40 : decode cX2_takeSign 40 = .ok (.putfield 28, 3) := by decide +kernel
theorem dX2_takeSign_43 : decode cX2_takeSign 43 = .ok (.aload_n 0, 1) := by decide +kernel
theorem dX2_takeSign_44 : decode cX2_takeSign 44 = .ok (.getfield 28, 3) := by decide +kernel
theorem dX2_takeSign_47 : decode cX2_takeSign 47 = .ok (.ifCond .eq 13, 3) := by decide +kernel
theorem dX2_takeSign_50 : decode cX2_takeSign 50 = .ok (.aload_n 0, 1) := by decide +kernel
theorem dX2_takeSign_51 : decode cX2_takeSign 51 = .ok (.dup, 1) := by decide +kernel
theorem dX2_takeSign_52 : decode cX2_takeSign 52 = .ok (.getfield 18, 3) := by decide +kernel
theorem dX2_takeSign_55 : decode cX2_takeSign 55 = .ok (.iconst 1, 1) := by decide +kernel
theorem dX2_takeSign_56 : decode cX2_takeSign 56 = .ok (.iadd, 1) := by decide +kernel
theorem dX2_takeSign_57 : decode cX2_takeSign 57 = .ok (.putfield 18, 3) := by decide +kernel
theorem dX2_takeSign_60 : decode cX2_takeSign 60 = .ok (.return_, 1) := by decide +kernel
theorem dX2_takeWord_0 : decode cX2_takeWord 0 = .ok (.iconst 0, 1) := by decide +kernel
theorem dX2_takeWord_1 : decode cX2_takeWord 1 = .ok (.istore_n 2, 1) := by decide +kernel
theorem dX2_takeWord_2 : decode cX2_takeWord 2 = .ok (.iload_n 2, 1) := by decide +kernel
theorem dX2_takeWord_3 : decode cX2_takeWord 3 = .ok (.aload_n 1, 1) := by decide +kernel
theorem dX2_takeWord_4 : decode cX2_takeWord 4 = .ok (.invokevirtual 101, 3) := by decide +kernel
theorem dX2_takeWord_7 : decode cX2_takeWord 7 = .ok (.if_icmp .ge 32, 3) := by decide +kernel
theorem dX2_takeWord_10 : decode cX2_takeWord 10 = .ok (.aload_n 0, 1) := by decide +kernel
theorem dX2_takeWord_11 : decode cX2_takeWord 11 = .ok (.getfield 12, 3) := by decide +kernel
theorem dX2_takeWord_14 : decode cX2_takeWord 14 = .ok (.aload_n 0, 1) := by decide +kernel
theorem dX2_takeWord_15 : decode cX2_takeWord 15 = .ok (.getfield 18, 3) := by decide +kernel
theorem dX2_takeWord_18 : decode cX2_takeWord 18 = .ok (.iload_n 2, 1) := by decide +kernel
theorem dX2_takeWord_19 : decode cX2_takeWord 19 = .ok (.iadd, 1) := by decide +kernel
theorem dX2_takeWord_20 : decode cX2_takeWord 20 = .ok (.invokevirtual 106, 3) := by decide +kernel
theorem dX2_takeWord_23 : decode cX2_takeWord 23 = .ok (.aload_n 1, 1) := by decide +kernel
theorem dX2_takeWord_24 : decode cX2_takeWord 24 = .ok (.iload_n 2, 1) := by decide +kernel
theorem dX2_takeWord_25 : decode cX2_takeWord 25 = .ok (.invokevirtual 109, 3) := by decide +kernel
theorem dX2_takeWord_28 : decode cX2_takeWord 28 = .ok (.if_icmp .eq 5, 3) := by decide +kernel
theorem dX2_takeWord_31 : decode cX2_takeWord 31 = .ok (.iconst 0, 1) := by decide +kernel
theorem dX2_takeWord_32 : decode cX2_takeWord 32 = .ok (.ireturn, 1) := by decide +kernel
theorem dX2_takeWord_33 : decode cX2_takeWord 33 = .ok (.iinc 2 1, 3) := by decide +kernel
theorem dX2_takeWord_36 : decode cX2_takeWord 36 = .ok (.goto (-34), 3) := by decide +kernel
theorem dX2_takeWord_39 : decode cX2_takeWord 39 = .ok (.aload_n 0, 1) := by decide +kernel
theorem dX2_takeWord_40 : decode cX2_takeWord 40 = .ok (.dup, 1) := by decide +kernel
theorem dX2_takeWord_41 : decode cX2_takeWord 41 = .ok (.getfield 18, 3) := by decide +kernel
theorem dX2_takeWord_44 : decode cX2_takeWord 44 = .ok (.aload_n 1, 1) := by decide +kernel
theorem dX2_takeWord_45 : decode cX2_takeWord 45 = .ok (.invokevirtual 101, 3) := by decide +kernel
theorem dX2_takeWord_48 : decode cX2_takeWord 48 = .ok (.iadd, 1) := by decide +kernel
theorem dX2_takeWord_49 : decode cX2_takeWord 49 = .ok (.putfield 18, 3) := by decide +kernel
theorem dX2_takeWord_52 : decode cX2_takeWord 52 = .ok (.iconst 1, 1) := by decide +kernel
theorem dX2_takeWord_53 : decode cX2_takeWord 53 = .ok (.ireturn, 1) := by decide +kernel
theorem dX2_takeDigits_0 : decode cX2_takeDigits 0 = .ok (.iconst 0, 1) := by decide +kernel
theorem dX2_takeDigits_1 : decode cX2_takeDigits 1 = .ok (.istore_n 2, 1) := by decide +kernel
theorem dX2_takeDigits_2 : decode cX2_takeDigits 2 = .ok (.iload_n 2, 1) := by decide +kernel
theorem dX2_takeDigits_3 : decode cX2_takeDigits 3 = .ok (.sipush 400, 3) := by decide +kernel
theorem dX2_takeDigits_6 : decode cX2_takeDigits 6 = .ok (.if_icmp .ge 55, 3) := by decide +kernel
theorem dX2_takeDigits_9 : decode cX2_takeDigits 9 = .ok (.aload_n 0, 1) := by decide +kernel
theorem dX2_takeDigits_10 : decode cX2_takeDigits 10 = .ok (.invokevirtual 94, 3) := by decide +kernel
theorem dX2_takeDigits_13 : decode cX2_takeDigits 13 = .ok (.ifCond .lt 48, 3) := by decide +kernel
theorem dX2_takeDigits_16 : decode cX2_takeDigits 16 = .ok (.aload_n 1, 1) := by decide +kernel
theorem dX2_takeDigits_17 : decode cX2_takeDigits 17 = .ok (.aload_n 0, 1) := by decide +kernel
theorem dX2_takeDigits_18 : decode cX2_takeDigits 18 = .ok (.getfield 22, 3) := by decide +kernel
theorem dX2_takeDigits_21 : decode cX2_takeDigits 21 = .ok (.aload_n 0, 1) := by decide +kernel
theorem dX2_takeDigits_22 : decode cX2_takeDigits 22 = .ok (.invokevirtual 94, 3) := by decide +kernel
theorem dX2_takeDigits_25 : decode cX2_takeDigits 25 = .ok (.invokevirtual 113, 3) := by decide +kernel
theorem dX2_takeDigits_28 : decode cX2_takeDigits 28 = .ok (.aload_n 1, 1) := by decide +kernel
theorem dX2_takeDigits_29 : decode cX2_takeDigits 29 = .ok (.invokevirtual 80, 3) := by decide +kernel
theorem dX2_takeDigits_32 : decode cX2_takeDigits 32 = .ok (.ifCond .ne 13, 3) := by decide +kernel
theorem dX2_takeDigits_35 : decode cX2_takeDigits 35 = .ok (.aload_n 0, 1) := by decide +kernel
theorem dX2_takeDigits_36 : decode cX2_takeDigits 36 = .ok (.dup, 1) := by decide +kernel
theorem dX2_takeDigits_37 : decode cX2_takeDigits 37 = .ok (.getfield 38, 3) := by decide +kernel
theorem dX2_takeDigits_40 : decode cX2_takeDigits 40 = .ok (.iconst 1, 1) := by decide +kernel
theorem dX2_takeDigits_41 : decode cX2_takeDigits 41 = .ok (.iadd, 1) := by decide +kernel
theorem dX2_takeDigits_42 : decode cX2_takeDigits 42 = .ok (.putfield 38, 3) := by decide +kernel
theorem dX2_takeDigits_45 : decode cX2_takeDigits 45 = .ok (.aload_n 0, 1) := by decide +kernel
theorem dX2_takeDigits_46 : decode cX2_takeDigits 46 = .ok (.dup, 1) := by decide +kernel
theorem dX2_takeDigits_47 : decode cX2_takeDigits 47 = .ok (.getfield 18, 3) := by decide +kernel
theorem dX2_takeDigits_50 : decode cX2_takeDigits 50 = .ok (.iconst 1, 1) := by decide +kernel
theorem dX2_takeDigits_51 : decode cX2_takeDigits 51 = .ok (.iadd, 1) := by decide +kernel
theorem dX2_takeDigits_52 : decode cX2_takeDigits 52 = .ok (.putfield 18, 3) := by decide +kernel
theorem dX2_takeDigits_55 : decode cX2_takeDigits 55 = .ok (.iinc 2 1, 3) := by decide +kernel
theorem dX2_takeDigits_58 : decode cX2_takeDigits 58 = .ok (.goto (-56), 3) := by decide +kernel
theorem dX2_takeDigits_61 : decode cX2_takeDigits 61 = .ok (.iload_n 2, 1) := by decide +kernel
theorem dX2_takeDigits_62 : decode cX2_takeDigits 62 = .ok (.ireturn, 1) := by decide +kernel
theorem dX2_current_0 : decode cX2_current 0 = .ok (.aload_n 0, 1) := by decide +kernel
theorem dX2_current_1 : decode cX2_current 1 = .ok (.getfield 12, 3) := by decide +kernel
theorem dX2_current_4 : decode cX2_current 4 = .ok (.aload_n 0, 1) := by decide +kernel
theorem dX2_current_5 : decode cX2_current 5 = .ok (.getfield 18, 3) := by decide +kernel
theorem dX2_current_8 : decode cX2_current 8 = .ok (.invokevirtual 106, 3) := by decide +kernel
theorem dX2_current_11 : decode cX2_current 11 = .ok (.ireturn, 1) := by decide +kernel
theorem dX2_currentDigit_0 : decode cX2_currentDigit 0 = .ok (.aload_n 0, 1) := by decide +kernel
theorem dX2_currentDigit_1 : decode cX2_currentDigit 1 = .ok (.getfield 12, 3) := by decide +kernel
theorem dX2_currentDigit_4 : decode cX2_currentDigit 4 = .ok (.aload_n 0, 1) := by decide +kernel
theorem dX2_currentDigit_5 : decode cX2_currentDigit 5 = .ok (.getfield 18, 3) := by decide +kernel
theorem dX2_currentDigit_8 : decode cX2_currentDigit 8 = .ok (.invokevirtual 106, 3) := by decide +kernel
theorem dX2_currentDigit_11 : decode cX2_currentDigit 11 = .ok (.istore_n 1, 1) := by decide +kernel
theorem dX2_currentDigit_12 : decode cX2_currentDigit 12 = .ok (.iconst (-1), 1) := by decide +kernel
theorem dX2_currentDigit_13 : decode cX2_currentDigit 13 = .ok (.istore_n 2, 1) := by decide +kernel
theorem dX2_currentDigit_14 : decode cX2_currentDigit 14 = .ok (.iload_n 1, 1) := by decide +kernel
theorem dX2_currentDigit_15 : decode cX2_currentDigit 15 = .ok (.bipush 48, 2) := by decide +kernel
theorem dX2_currentDigit_17 : decode cX2_currentDigit 17 = .ok (.if_icmp .lt 17, 3) := by decide +kernel
theorem dX2_currentDigit_20 : decode cX2_currentDigit 20 = .ok (.iload_n 1, 1) := by decide +kernel
theorem dX2_currentDigit_21 : decode cX2_currentDigit 21 = .ok (.bipush 57, 2) := by decide +kernel
theorem dX2_currentDigit_23 : decode cX2_currentDigit 23 = .ok (.if_icmp .gt 11, 3) := by decide +kernel
theorem dX2_currentDigit_26 : decode cX2_currentDigit 26 = .ok (.iload_n 1, 1) := by decide +kernel
theorem dX2_currentDigit_27 : decode cX2_currentDigit 27 = .ok (.bipush 48, 2) := by decide +kernel
theorem dX2_currentDigit_29 : decode cX2_currentDigit 29 = .ok (.isub, 1) := by decide +kernel
theorem dX2_currentDigit_30 : decode cX2_currentDigit 30 = .ok (.istore_n 2, 1) := by decide +kernel
theorem dX2_currentDigit_31 : decode cX2_currentDigit 31 = .ok (.goto 46, 3) := by decide +kernel
theorem dX2_currentDigit_34 : decode cX2_currentDigit 34 = .ok (.iload_n 1, 1) := by decide +kernel
theorem dX2_currentDigit_35 : decode cX2_currentDigit 35 = .ok (.bipush 97, 2) := by decide +kernel
theorem dX2_currentDigit_37 : decode cX2_currentDigit 37 = .ok (.if_icmp .lt 20, 3) := by decide +kernel
theorem dX2_currentDigit_40 : decode cX2_currentDigit 40 = .ok (.iload_n 1, 1) := by decide +kernel
theorem dX2_currentDigit_41 : decode cX2_currentDigit 41 = .ok (.bipush 102, 2) := by decide +kernel
theorem dX2_currentDigit_43 : decode cX2_currentDigit 43 = .ok (.if_icmp .gt 14, 3) := by decide +kernel
theorem dX2_currentDigit_46 : decode cX2_currentDigit 46 = .ok (.iload_n 1, 1) := by decide +kernel
theorem dX2_currentDigit_47 : decode cX2_currentDigit 47 = .ok (.bipush 97, 2) := by decide +kernel
theorem dX2_currentDigit_49 : decode cX2_currentDigit 49 = .ok (.isub, 1) := by decide +kernel
theorem dX2_currentDigit_50 : decode cX2_currentDigit 50 = .ok (.bipush 10, 2) := by decide +kernel
theorem dX2_currentDigit_52 : decode cX2_currentDigit 52 = .ok (.iadd, 1) := by decide +kernel
theorem dX2_currentDigit_53 : decode cX2_currentDigit 53 = .ok (.istore_n 2, 1) := by decide +kernel
theorem dX2_currentDigit_54 : decode cX2_currentDigit 54 = .ok (.goto 23, 3) := by decide +kernel
theorem dX2_currentDigit_57 : decode cX2_currentDigit 57 = .ok (.iload_n 1, 1) := by decide +kernel
theorem dX2_currentDigit_58 : decode cX2_currentDigit 58 = .ok (.bipush 65, 2) := by decide +kernel
theorem dX2_currentDigit_60 : decode cX2_currentDigit 60 = .ok (.if_icmp .lt 17, 3) := by decide +kernel
theorem dX2_currentDigit_63 : decode cX2_currentDigit 63 = .ok (.iload_n 1, 1) := by decide +kernel
theorem dX2_currentDigit_64 : decode cX2_currentDigit 64 = .ok (.bipush 70, 2) := by decide +kernel
theorem dX2_currentDigit_66 : decode cX2_currentDigit 66 = .ok (.if_icmp .gt 11, 3) := by decide +kernel
theorem dX2_currentDigit_69 : decode cX2_currentDigit 69 = .ok (.iload_n 1, 1) := by decide +kernel
theorem dX2_currentDigit_70 : decode cX2_currentDigit 70 = .ok (.bipush 65, 2) := by decide +kernel
theorem dX2_currentDigit_72 : decode cX2_currentDigit 72 = .ok (.isub, 1) := by decide +kernel
theorem dX2_currentDigit_73 : decode cX2_currentDigit 73 = .ok (.bipush 10, 2) := by decide +kernel
theorem dX2_currentDigit_75 : decode cX2_currentDigit 75 = .ok (.iadd, 1) := by decide +kernel
theorem dX2_currentDigit_76 : decode cX2_currentDigit 76 = .ok (.istore_n 2, 1) := by decide +kernel
theorem dX2_currentDigit_77 : decode cX2_currentDigit 77 = .ok (.iload_n 2, 1) := by decide +kernel
theorem dX2_currentDigit_78 : decode cX2_currentDigit 78 = .ok (.aload_n 0, 1) := by decide +kernel
theorem dX2_currentDigit_79 : decode cX2_currentDigit 79 = .ok (.getfield 22, 3) := by decide +kernel
theorem dX2_currentDigit_82 : decode cX2_currentDigit 82 = .ok (.if_icmp .ge 7, 3) := by decide +kernel
theorem dX2_currentDigit_85 : decode cX2_currentDigit 85 = .ok (.iload_n 2, 1) := by decide +kernel
theorem dX2_currentDigit_86 : decode cX2_currentDigit 86 = .ok (.goto 4, 3) := by decide +kernel
theorem dX2_currentDigit_89 : decode cX2_currentDigit 89 = .ok (.iconst (-1), 1) := by decide +kernel
theorem dX2_currentDigit_90 : decode cX2_currentDigit 90 = .ok (.ireturn, 1) := by decide +kernel
theorem dX2_isExponentMark_0 : decode cX2_isExponentMark 0 = .ok (.iload_n 0, 1) := by decide +kernel
theorem dX2_isExponentMark_1 : decode cX2_isExponentMark 1 = .ok (.bipush 101, 2) := by decide +kernel
theorem dX2_isExponentMark_3 : decode cX2_isExponentMark 3 = .ok (.if_icmp .eq 9, 3) := by decide +kernel
theorem dX2_isExponentMark_6 : decode cX2_isExponentMark 6 = .ok (.iload_n 0, 1) := by decide +kernel
theorem dX2_isExponentMark_7 : decode cX2_isExponentMark 7 = .ok (.bipush 69, 2) := by decide +kernel
theorem dX2_isExponentMark_9 : decode cX2_isExponentMark 9 = .ok (.if_icmp .ne 7, 3) := by decide +kernel
theorem dX2_isExponentMark_12 : decode cX2_isExponentMark 12 = .ok (.iconst 1, 1) := by decide +kernel
theorem dX2_isExponentMark_13 : decode cX2_isExponentMark 13 = .ok (.goto 4, 3) := by decide +kernel
theorem dX2_isExponentMark_16 : decode cX2_isExponentMark 16 = .ok (.iconst 0, 1) := by decide +kernel
theorem dX2_isExponentMark_17 : decode cX2_isExponentMark 17 = .ok (.ireturn, 1) := by decide +kernel
theorem dJ6_compare_7cf53_0 : decode cJ6_compare_7cf53 0 = .ok (.iload_n 0, 1) := by decide +kernel
theorem dJ6_compare_7cf53_1 : decode cJ6_compare_7cf53 1 = .ok (.iload_n 1, 1) := by decide +kernel
theorem dJ6_compare_7cf53_2 : decode cJ6_compare_7cf53 2 = .ok (.if_icmp .ge 7, 3) := by decide +kernel
theorem dJ6_compare_7cf53_5 : decode cJ6_compare_7cf53 5 = .ok (.iconst (-1), 1) := by decide +kernel
theorem dJ6_compare_7cf53_6 : decode cJ6_compare_7cf53 6 = .ok (.goto 13, 3) := by decide +kernel
theorem dJ6_compare_7cf53_9 : decode cJ6_compare_7cf53 9 = .ok (.iload_n 0, 1) := by decide +kernel
theorem dJ6_compare_7cf53_10 : decode cJ6_compare_7cf53 10 = .ok (.iload_n 1, 1) := by decide +kernel
theorem dJ6_compare_7cf53_11 : decode cJ6_compare_7cf53 11 = .ok (.if_icmp .ne 7, 3) := by decide +kernel
theorem dJ6_compare_7cf53_14 : decode cJ6_compare_7cf53 14 = .ok (.iconst 0, 1) := by decide +kernel
theorem dJ6_compare_7cf53_15 : decode cJ6_compare_7cf53 15 = .ok (.goto 4, 3) := by decide +kernel
theorem dJ6_compare_7cf53_18 : decode cJ6_compare_7cf53 18 = .ok (.iconst 1, 1) := by decide +kernel
theorem dJ6_compare_7cf53_19 : decode cJ6_compare_7cf53 19 = .ok (.ireturn, 1) := by decide +kernel
theorem dJ6_compareUnsigned_7cf53_0 : decode cJ6_compareUnsigned_7cf53 0 = .ok (.iload_n 0, 1) := by decide +kernel
theorem dJ6_compareUnsigned_7cf53_1 : decode cJ6_compareUnsigned_7cf53 1 = .ok (.ldc 127, 2) := by decide +kernel
theorem dJ6_compareUnsigned_7cf53_3 : decode cJ6_compareUnsigned_7cf53 3 = .ok (.iadd, 1) := by decide +kernel
theorem dJ6_compareUnsigned_7cf53_4 : decode cJ6_compareUnsigned_7cf53 4 = .ok (.iload_n 1, 1) := by decide +kernel
theorem dJ6_compareUnsigned_7cf53_5 : decode cJ6_compareUnsigned_7cf53 5 = .ok (.ldc 127, 2) := by decide +kernel
theorem dJ6_compareUnsigned_7cf53_7 : decode cJ6_compareUnsigned_7cf53 7 = .ok (.iadd, 1) := by decide +kernel
theorem dJ6_compareUnsigned_7cf53_8 : decode cJ6_compareUnsigned_7cf53 8 = .ok (.invokestatic 259, 3) := by decide +kernel
theorem dJ6_compareUnsigned_7cf53_11 : decode cJ6_compareUnsigned_7cf53 11 = .ok (.ireturn, 1) := by decide +kernel
theorem dJ6_numberOfLeadingZeros_0f7a4_0 : decode cJ6_numberOfLeadingZeros_0f7a4 0 = .ok (.iload_n 0, 1) := by decide +kernel
theorem dJ6_numberOfLeadingZeros_0f7a4_1 : decode cJ6_numberOfLeadingZeros_0f7a4 1 = .ok (.ifCond .gt 14, 3) := by decide +kernel
theorem dJ6_numberOfLeadingZeros_0f7a4_4 : decode cJ6_numberOfLeadingZeros_0f7a4 4 = .ok (.iload_n 0, 1) := by decide +kernel
theorem dJ6_numberOfLeadingZeros_0f7a4_5 : decode cJ6_numberOfLeadingZeros_0f7a4 5 = .ok (.ifCond .ne 8, 3) := by decide +kernel
theorem dJ6_numberOfLeadingZeros_0f7a4_8 : decode cJ6_numberOfLeadingZeros_0f7a4 8 = .ok (.bipush 32, 2) := by decide +kernel
theorem dJ6_numberOfLeadingZeros_0f7a4_10 : decode cJ6_numberOfLeadingZeros_0f7a4 10 = .ok (.goto 4, 3) := by decide +kernel
theorem dJ6_numberOfLeadingZeros_0f7a4_13 : decode cJ6_numberOfLeadingZeros_0f7a4 13 = .ok (.iconst 0, 1) := by decide +kernel
theorem dJ6_numberOfLeadingZeros_0f7a4_14 : decode cJ6_numberOfLeadingZeros_0f7a4 14 = .ok (.ireturn, 1) := by decide +kernel
theorem dJ6_numberOfLeadingZeros_0f7a4_15 : decode cJ6_numberOfLeadingZeros_0f7a4 15 = .ok (.bipush 31, 2) := by decide +kernel
theorem dJ6_numberOfLeadingZeros_0f7a4_17 : decode cJ6_numberOfLeadingZeros_0f7a4 17 = .ok (.istore_n 1, 1) := by decide +kernel
theorem dJ6_numberOfLeadingZeros_0f7a4_18 : decode cJ6_numberOfLeadingZeros_0f7a4 18 = .ok (.iload_n 0, 1) := by decide +kernel
theorem dJ6_numberOfLeadingZeros_0f7a4_19 : decode cJ6_numberOfLeadingZeros_0f7a4 19 = .ok (.ldc_w 264, 3) := by decide +kernel
theorem dJ6_numberOfLeadingZeros_0f7a4_22 : decode cJ6_numberOfLeadingZeros_0f7a4 22 = .ok (.if_icmp .lt 11, 3) := by decide +kernel
theorem dJ6_numberOfLeadingZeros_0f7a4_25 : decode cJ6_numberOfLeadingZeros_0f7a4 25 = .ok (.iinc 1 (-16), 3) := by decide +kernel
theorem dJ6_numberOfLeadingZeros_0f7a4_28 : decode cJ6_numberOfLeadingZeros_0f7a4 28 = .ok (.iload_n 0, 1) := by decide +kernel
theorem dJ6_numberOfLeadingZeros_0f7a4_29 : decode cJ6_numberOfLeadingZeros_0f7a4 29 = .ok (.bipush 16, 2) := by decide +kernel
theorem dJ6_numberOfLeadingZeros_0f7a4_31 : decode cJ6_numberOfLeadingZeros_0f7a4 31 = .ok (.iushr, 1) := by decide +kernel
theorem dJ6_numberOfLeadingZeros_0f7a4_32 : decode cJ6_numberOfLeadingZeros_0f7a4 32 = .ok (.istore_n 0, 1) := by decide +kernel
theorem dJ6_numberOfLeadingZeros_0f7a4_33 : decode cJ6_numberOfLeadingZeros_0f7a4 33 = .ok (.iload_n 0, 1) := by decide +kernel
theorem dJ6_numberOfLeadingZeros_0f7a4_34 : decode cJ6_numberOfLeadingZeros_0f7a4 34 = .ok (.sipush 256, 3) := by decide +kernel
theorem dJ6_numberOfLeadingZeros_0f7a4_37 : decode cJ6_numberOfLeadingZeros_0f7a4 37 = .ok (.if_icmp .lt 11, 3) := by decide +kernel
theorem dJ6_numberOfLeadingZeros_0f7a4_40 : decode cJ6_numberOfLeadingZeros_0f7a4 40 = .ok (.iinc 1 (-8), 3) := by decide +kernel
theorem dJ6_numberOfLeadingZeros_0f7a4_43 : decode cJ6_numberOfLeadingZeros_0f7a4 43 = .ok (.iload_n 0, 1) := by decide +kernel
theorem dJ6_numberOfLeadingZeros_0f7a4_44 : decode cJ6_numberOfLeadingZeros_0f7a4 44 = .ok (.bipush 8, 2) := by decide +kernel
theorem dJ6_numberOfLeadingZeros_0f7a4_46 : decode cJ6_numberOfLeadingZeros_0f7a4 46 = .ok (.iushr, 1) := by decide +kernel
theorem dJ6_numberOfLeadingZeros_0f7a4_47 : decode cJ6_numberOfLeadingZeros_0f7a4 47 = .ok (.istore_n 0, 1) := by decide +kernel
theorem dJ6_numberOfLeadingZeros_0f7a4_48 : decode cJ6_numberOfLeadingZeros_0f7a4 48 = .ok (.iload_n 0, 1) := by decide +kernel
theorem dJ6_numberOfLeadingZeros_0f7a4_49 : decode cJ6_numberOfLeadingZeros_0f7a4 49 = .ok (.bipush 16, 2) := by decide +kernel
theorem dJ6_numberOfLeadingZeros_0f7a4_51 : decode cJ6_numberOfLeadingZeros_0f7a4 51 = .ok (.if_icmp .lt 10, 3) := by decide +kernel
theorem dJ6_numberOfLeadingZeros_0f7a4_54 : decode cJ6_numberOfLeadingZeros_0f7a4 54 = .ok (.iinc 1 (-4), 3) := by decide +kernel
theorem dJ6_numberOfLeadingZeros_0f7a4_57 : decode cJ6_numberOfLeadingZeros_0f7a4 57 = .ok (.iload_n 0, 1) := by decide +kernel
theorem dJ6_numberOfLeadingZeros_0f7a4_58 : decode cJ6_numberOfLeadingZeros_0f7a4 58 = .ok (.iconst 4, 1) := by decide +kernel
theorem dJ6_numberOfLeadingZeros_0f7a4_59 : decode cJ6_numberOfLeadingZeros_0f7a4 59 = .ok (.iushr, 1) := by decide +kernel
theorem dJ6_numberOfLeadingZeros_0f7a4_60 : decode cJ6_numberOfLeadingZeros_0f7a4 60 = .ok (.istore_n 0, 1) := by decide +kernel
theorem dJ6_numberOfLeadingZeros_0f7a4_61 : decode cJ6_numberOfLeadingZeros_0f7a4 61 = .ok (.iload_n 0, 1) := by decide +kernel
theorem dJ6_numberOfLeadingZeros_0f7a4_62 : decode cJ6_numberOfLeadingZeros_0f7a4 62 = .ok (.iconst 4, 1) := by decide +kernel
theorem dJ6_numberOfLeadingZeros_0f7a4_63 : decode cJ6_numberOfLeadingZeros_0f7a4 63 = .ok (.if_icmp .lt 10, 3) := by decide +kernel
theorem dJ6_numberOfLeadingZeros_0f7a4_66 : decode cJ6_numberOfLeadingZeros_0f7a4 66 = .ok (.iinc 1 (-2), 3) := by decide +kernel
theorem dJ6_numberOfLeadingZeros_0f7a4_69 : decode cJ6_numberOfLeadingZeros_0f7a4 69 = .ok (.iload_n 0, 1) := by decide +kernel
theorem dJ6_numberOfLeadingZeros_0f7a4_70 : decode cJ6_numberOfLeadingZeros_0f7a4 70 = .ok (.iconst 2, 1) := by decide +kernel
theorem dJ6_numberOfLeadingZeros_0f7a4_71 : decode cJ6_numberOfLeadingZeros_0f7a4 71 = .ok (.iushr, 1) := by decide +kernel
theorem dJ6_numberOfLeadingZeros_0f7a4_72 : decode cJ6_numberOfLeadingZeros_0f7a4 72 = .ok (.istore_n 0, 1) := by decide +kernel
theorem dJ6_numberOfLeadingZeros_0f7a4_73 : decode cJ6_numberOfLeadingZeros_0f7a4 73 = .ok (.iload_n 1, 1) := by decide +kernel
theorem dJ6_numberOfLeadingZeros_0f7a4_74 : decode cJ6_numberOfLeadingZeros_0f7a4 74 = .ok (.iload_n 0, 1) := by decide +kernel
theorem dJ6_numberOfLeadingZeros_0f7a4_75 : decode cJ6_numberOfLeadingZeros_0f7a4 75 = .ok (.iconst 1, 1) := by decide +kernel
theorem dJ6_numberOfLeadingZeros_0f7a4_76 : decode cJ6_numberOfLeadingZeros_0f7a4 76 = .ok (.iushr, 1) := by decide +kernel
theorem dJ6_numberOfLeadingZeros_0f7a4_77 : decode cJ6_numberOfLeadingZeros_0f7a4 77 = .ok (.isub, 1) := by decide +kernel
theorem dJ6_numberOfLeadingZeros_0f7a4_78 : decode cJ6_numberOfLeadingZeros_0f7a4 78 = .ok (.ireturn, 1) := by decide +kernel
theorem dJ6_numberOfTrailingZeros_0f7a4_0 : decode cJ6_numberOfTrailingZeros_0f7a4 0 = .ok (.iload_n 0, 1) := by decide +kernel
theorem dJ6_numberOfTrailingZeros_0f7a4_1 : decode cJ6_numberOfTrailingZeros_0f7a4 1 = .ok (.iconst (-1), 1) := by decide +kernel
theorem dJ6_numberOfTrailingZeros_0f7a4_2 : decode cJ6_numberOfTrailingZeros_0f7a4 2 = .ok (.ixor, 1) := by decide +kernel
theorem dJ6_numberOfTrailingZeros_0f7a4_3 : decode cJ6_numberOfTrailingZeros_0f7a4 3 = .ok (.iload_n 0, 1) := by decide +kernel
theorem dJ6_numberOfTrailingZeros_0f7a4_4 : decode cJ6_numberOfTrailingZeros_0f7a4 4 = .ok (.iconst 1, 1) := by decide +kernel
theorem dJ6_numberOfTrailingZeros_0f7a4_5 : decode cJ6_numberOfTrailingZeros_0f7a4 5 = .ok (.isub, 1) := by decide +kernel
theorem dJ6_numberOfTrailingZeros_0f7a4_6 : decode cJ6_numberOfTrailingZeros_0f7a4 6 = .ok (.iand, 1) := by decide +kernel
theorem dJ6_numberOfTrailingZeros_0f7a4_7 : decode cJ6_numberOfTrailingZeros_0f7a4 7 = .ok (.istore_n 0, 1) := by decide +kernel
theorem dJ6_numberOfTrailingZeros_0f7a4_8 : decode cJ6_numberOfTrailingZeros_0f7a4 8 = .ok (.iload_n 0, 1) := by decide +kernel
theorem dJ6_numberOfTrailingZeros_0f7a4_9 : decode cJ6_numberOfTrailingZeros_0f7a4 9 = .ok (.ifCond .gt 8, 3) := by decide +kernel
theorem dJ6_numberOfTrailingZeros_0f7a4_12 : decode cJ6_numberOfTrailingZeros_0f7a4 12 = .ok (.iload_n 0, 1) := by decide +kernel
theorem dJ6_numberOfTrailingZeros_0f7a4_13 : decode cJ6_numberOfTrailingZeros_0f7a4 13 = .ok (.bipush 32, 2) := by decide +kernel
theorem dJ6_numberOfTrailingZeros_0f7a4_15 : decode cJ6_numberOfTrailingZeros_0f7a4 15 = .ok (.iand, 1) := by decide +kernel
theorem dJ6_numberOfTrailingZeros_0f7a4_16 : decode cJ6_numberOfTrailingZeros_0f7a4 16 = .ok (.ireturn, 1) := by decide +kernel
theorem dJ6_numberOfTrailingZeros_0f7a4_17 : decode cJ6_numberOfTrailingZeros_0f7a4 17 = .ok (.iconst 1, 1) := by decide +kernel
theorem dJ6_numberOfTrailingZeros_0f7a4_18 : decode cJ6_numberOfTrailingZeros_0f7a4 18 = .ok (.istore_n 1, 1) := by decide +kernel
theorem dJ6_numberOfTrailingZeros_0f7a4_19 : decode cJ6_numberOfTrailingZeros_0f7a4 19 = .ok (.iload_n 0, 1) := by decide +kernel
theorem dJ6_numberOfTrailingZeros_0f7a4_20 : decode cJ6_numberOfTrailingZeros_0f7a4 20 = .ok (.ldc_w 264, 3) := by decide +kernel
theorem dJ6_numberOfTrailingZeros_0f7a4_23 : decode cJ6_numberOfTrailingZeros_0f7a4 23 = .ok (.if_icmp .le 11, 3) := by decide +kernel
theorem dJ6_numberOfTrailingZeros_0f7a4_26 : decode cJ6_numberOfTrailingZeros_0f7a4 26 = .ok (.iinc 1 16, 3) := by decide +kernel
theorem dJ6_numberOfTrailingZeros_0f7a4_29 : decode cJ6_numberOfTrailingZeros_0f7a4 29 = .ok (.iload_n 0, 1) := by decide +kernel
theorem dJ6_numberOfTrailingZeros_0f7a4_30 : decode cJ6_numberOfTrailingZeros_0f7a4 30 = .ok (.bipush 16, 2) := by decide +kernel
theorem dJ6_numberOfTrailingZeros_0f7a4_32 : decode cJ6_numberOfTrailingZeros_0f7a4 32 = .ok (.iushr, 1) := by decide +kernel
theorem dJ6_numberOfTrailingZeros_0f7a4_33 : decode cJ6_numberOfTrailingZeros_0f7a4 33 = .ok (.istore_n 0, 1) := by decide +kernel
theorem dJ6_numberOfTrailingZeros_0f7a4_34 : decode cJ6_numberOfTrailingZeros_0f7a4 34 = .ok (.iload_n 0, 1) := by decide +kernel
theorem dJ6_numberOfTrailingZeros_0f7a4_35 : decode cJ6_numberOfTrailingZeros_0f7a4 35 = .ok (.sipush 256, 3) := by decide +kernel
theorem dJ6_numberOfTrailingZeros_0f7a4_38 : decode cJ6_numberOfTrailingZeros_0f7a4 38 = .ok (.if_icmp .le 11, 3) := by decide +kernel
theorem dJ6_numberOfTrailingZeros_0f7a4_41 : decode cJ6_numberOfTrailingZeros_0f7a4 41 = .ok (.iinc 1 8, 3) := by decide +kernel
theorem dJ6_numberOfTrailingZeros_0f7a4_44 : decode cJ6_numberOfTrailingZeros_0f7a4 44 = .ok (.iload_n 0, 1) := by decide +kernel
theorem dJ6_numberOfTrailingZeros_0f7a4_45 : decode cJ6_numberOfTrailingZeros_0f7a4 45 = .ok (.bipush 8, 2) := by decide +kernel
theorem dJ6_numberOfTrailingZeros_0f7a4_47 : decode cJ6_numberOfTrailingZeros_0f7a4 47 = .ok (.iushr, 1) := by decide +kernel
theorem dJ6_numberOfTrailingZeros_0f7a4_48 : decode cJ6_numberOfTrailingZeros_0f7a4 48 = .ok (.istore_n 0, 1) := by decide +kernel
theorem dJ6_numberOfTrailingZeros_0f7a4_49 : decode cJ6_numberOfTrailingZeros_0f7a4 49 = .ok (.iload_n 0, 1) := by decide +kernel
theorem dJ6_numberOfTrailingZeros_0f7a4_50 : decode cJ6_numberOfTrailingZeros_0f7a4 50 = .ok (.bipush 16, 2) := by decide +kernel
theorem dJ6_numberOfTrailingZeros_0f7a4_52 : decode cJ6_numberOfTrailingZeros_0f7a4 52 = .ok (.if_icmp .le 10, 3) := by decide +kernel
theorem dJ6_numberOfTrailingZeros_0f7a4_55 : decode cJ6_numberOfTrailingZeros_0f7a4 55 = .ok (.iinc 1 4, 3) := by decide +kernel
theorem dJ6_numberOfTrailingZeros_0f7a4_58 : decode cJ6_numberOfTrailingZeros_0f7a4 58 = .ok (.iload_n 0, 1) := by decide +kernel
theorem dJ6_numberOfTrailingZeros_0f7a4_59 : decode cJ6_numberOfTrailingZeros_0f7a4 59 = .ok (.iconst 4, 1) := by decide +kernel
theorem dJ6_numberOfTrailingZeros_0f7a4_60 : decode cJ6_numberOfTrailingZeros_0f7a4 60 = .ok (.iushr, 1) := by decide +kernel
theorem dJ6_numberOfTrailingZeros_0f7a4_61 : decode cJ6_numberOfTrailingZeros_0f7a4 61 = .ok (.istore_n 0, 1) := by decide +kernel
theorem dJ6_numberOfTrailingZeros_0f7a4_62 : decode cJ6_numberOfTrailingZeros_0f7a4 62 = .ok (.iload_n 0, 1) := by decide +kernel
theorem dJ6_numberOfTrailingZeros_0f7a4_63 : decode cJ6_numberOfTrailingZeros_0f7a4 63 = .ok (.iconst 4, 1) := by decide +kernel
theorem dJ6_numberOfTrailingZeros_0f7a4_64 : decode cJ6_numberOfTrailingZeros_0f7a4 64 = .ok (.if_icmp .le 10, 3) := by decide +kernel
theorem dJ6_numberOfTrailingZeros_0f7a4_67 : decode cJ6_numberOfTrailingZeros_0f7a4 67 = .ok (.iinc 1 2, 3) := by decide +kernel
theorem dJ6_numberOfTrailingZeros_0f7a4_70 : decode cJ6_numberOfTrailingZeros_0f7a4 70 = .ok (.iload_n 0, 1) := by decide +kernel
theorem dJ6_numberOfTrailingZeros_0f7a4_71 : decode cJ6_numberOfTrailingZeros_0f7a4 71 = .ok (.iconst 2, 1) := by decide +kernel
theorem dJ6_numberOfTrailingZeros_0f7a4_72 : decode cJ6_numberOfTrailingZeros_0f7a4 72 = .ok (.iushr, 1) := by decide +kernel
theorem dJ6_numberOfTrailingZeros_0f7a4_73 : decode cJ6_numberOfTrailingZeros_0f7a4 73 = .ok (.istore_n 0, 1) := by decide +kernel
theorem dJ6_numberOfTrailingZeros_0f7a4_74 : decode cJ6_numberOfTrailingZeros_0f7a4 74 = .ok (.iload_n 1, 1) := by decide +kernel
theorem dJ6_numberOfTrailingZeros_0f7a4_75 : decode cJ6_numberOfTrailingZeros_0f7a4 75 = .ok (.iload_n 0, 1) := by decide +kernel
theorem dJ6_numberOfTrailingZeros_0f7a4_76 : decode cJ6_numberOfTrailingZeros_0f7a4 76 = .ok (.iconst 1, 1) := by decide +kernel
theorem dJ6_numberOfTrailingZeros_0f7a4_77 : decode cJ6_numberOfTrailingZeros_0f7a4 77 = .ok (.iushr, 1) := by decide +kernel
theorem dJ6_numberOfTrailingZeros_0f7a4_78 : decode cJ6_numberOfTrailingZeros_0f7a4 78 = .ok (.iadd, 1) := by decide +kernel
theorem dJ6_numberOfTrailingZeros_0f7a4_79 : decode cJ6_numberOfTrailingZeros_0f7a4 79 = .ok (.ireturn, 1) := by decide +kernel
theorem dJ13_numberOfLeadingZeros_95d88_0 : decode cJ13_numberOfLeadingZeros_95d88 0 = .ok (.lload_n 0, 1) := by decide +kernel
theorem dJ13_numberOfLeadingZeros_95d88_1 : decode cJ13_numberOfLeadingZeros_95d88 1 = .ok (.bipush 32, 2) := by decide +kernel
theorem dJ13_numberOfLeadingZeros_95d88_3 : decode cJ13_numberOfLeadingZeros_95d88 3 = .ok (.lushr, 1) := by decide +kernel
theorem dJ13_numberOfLeadingZeros_95d88_4 : decode cJ13_numberOfLeadingZeros_95d88 4 = .ok (.l2i, 1) := by decide +kernel
theorem dJ13_numberOfLeadingZeros_95d88_5 : decode cJ13_numberOfLeadingZeros_95d88 5 = .ok (.istore_n 2, 1) := by decide +kernel
theorem dJ13_numberOfLeadingZeros_95d88_6 : decode cJ13_numberOfLeadingZeros_95d88 6 = .ok (.iload_n 2, 1) := by decide +kernel
theorem dJ13_numberOfLeadingZeros_95d88_7 : decode cJ13_numberOfLeadingZeros_95d88 7 = .ok (.ifCond .ne 14, 3) := by decide +kernel
theorem dJ13_numberOfLeadingZeros_95d88_10 : decode cJ13_numberOfLeadingZeros_95d88 10 = .ok (.bipush 32, 2) := by decide +kernel
theorem dJ13_numberOfLeadingZeros_95d88_12 : decode cJ13_numberOfLeadingZeros_95d88 12 = .ok (.lload_n 0, 1) := by decide +kernel
theorem dJ13_numberOfLeadingZeros_95d88_13 : decode cJ13_numberOfLeadingZeros_95d88 13 = .ok (.l2i, 1) := by decide +kernel
theorem dJ13_numberOfLeadingZeros_95d88_14 : decode cJ13_numberOfLeadingZeros_95d88 14 = .ok (.invokestatic 308, 3) := by decide +kernel
theorem dJ13_numberOfLeadingZeros_95d88_17 : decode cJ13_numberOfLeadingZeros_95d88 17 = .ok (.iadd, 1) := by decide +kernel
theorem dJ13_numberOfLeadingZeros_95d88_18 : decode cJ13_numberOfLeadingZeros_95d88 18 = .ok (.goto 7, 3) := by decide +kernel
theorem dJ13_numberOfLeadingZeros_95d88_21 : decode cJ13_numberOfLeadingZeros_95d88 21 = .ok (.iload_n 2, 1) := by decide +kernel
theorem dJ13_numberOfLeadingZeros_95d88_22 : decode cJ13_numberOfLeadingZeros_95d88 22 = .ok (.invokestatic 308, 3) := by decide +kernel
theorem dJ13_numberOfLeadingZeros_95d88_25 : decode cJ13_numberOfLeadingZeros_95d88 25 = .ok (.ireturn, 1) := by decide +kernel
theorem dJ13_numberOfTrailingZeros_95d88_0 : decode cJ13_numberOfTrailingZeros_95d88 0 = .ok (.lload_n 0, 1) := by decide +kernel
theorem dJ13_numberOfTrailingZeros_95d88_1 : decode cJ13_numberOfTrailingZeros_95d88 1 = .ok (.l2i, 1) := by decide +kernel
theorem dJ13_numberOfTrailingZeros_95d88_2 : decode cJ13_numberOfTrailingZeros_95d88 2 = .ok (.istore_n 2, 1) := by decide +kernel
theorem dJ13_numberOfTrailingZeros_95d88_3 : decode cJ13_numberOfTrailingZeros_95d88 3 = .ok (.iload_n 2, 1) := by decide +kernel
theorem dJ13_numberOfTrailingZeros_95d88_4 : decode cJ13_numberOfTrailingZeros_95d88 4 = .ok (.ifCond .ne 17, 3) := by decide +kernel
theorem dJ13_numberOfTrailingZeros_95d88_7 : decode cJ13_numberOfTrailingZeros_95d88 7 = .ok (.bipush 32, 2) := by decide +kernel
theorem dJ13_numberOfTrailingZeros_95d88_9 : decode cJ13_numberOfTrailingZeros_95d88 9 = .ok (.lload_n 0, 1) := by decide +kernel
theorem dJ13_numberOfTrailingZeros_95d88_10 : decode cJ13_numberOfTrailingZeros_95d88 10 = .ok (.bipush 32, 2) := by decide +kernel
theorem dJ13_numberOfTrailingZeros_95d88_12 : decode cJ13_numberOfTrailingZeros_95d88 12 = .ok (.lushr, 1) := by decide +kernel
theorem dJ13_numberOfTrailingZeros_95d88_13 : decode cJ13_numberOfTrailingZeros_95d88 13 = .ok (.l2i, 1) := by decide +kernel
theorem dJ13_numberOfTrailingZeros_95d88_14 : decode cJ13_numberOfTrailingZeros_95d88 14 = .ok (.invokestatic 311, 3) := by decide +kernel
theorem dJ13_numberOfTrailingZeros_95d88_17 : decode cJ13_numberOfTrailingZeros_95d88 17 = .ok (.iadd, 1) := by decide +kernel
theorem dJ13_numberOfTrailingZeros_95d88_18 : decode cJ13_numberOfTrailingZeros_95d88 18 = .ok (.goto 7, 3) := by decide +kernel
theorem dJ13_numberOfTrailingZeros_95d88_21 : decode cJ13_numberOfTrailingZeros_95d88 21 = .ok (.iload_n 2, 1) := by decide +kernel
theorem dJ13_numberOfTrailingZeros_95d88_22 : decode cJ13_numberOfTrailingZeros_95d88 22 = .ok (.invokestatic 311, 3) := by decide +kernel
theorem dJ13_numberOfTrailingZeros_95d88_25 : decode cJ13_numberOfTrailingZeros_95d88 25 = .ok (.ireturn, 1) := by decide +kernel
theorem dJ9_floorDiv_7cf53_0 : decode cJ9_floorDiv_7cf53 0 = .ok (.iload_n 0, 1) := by decide +kernel
theorem dJ9_floorDiv_7cf53_1 : decode cJ9_floorDiv_7cf53 1 = .ok (.iload_n 1, 1) := by decide +kernel
theorem dJ9_floorDiv_7cf53_2 : decode cJ9_floorDiv_7cf53 2 = .ok (.idiv, 1) := by decide +kernel
theorem dJ9_floorDiv_7cf53_3 : decode cJ9_floorDiv_7cf53 3 = .ok (.istore_n 2, 1) := by decide +kernel
theorem dJ9_floorDiv_7cf53_4 : decode cJ9_floorDiv_7cf53 4 = .ok (.iload_n 0, 1) := by decide +kernel
theorem dJ9_floorDiv_7cf53_5 : decode cJ9_floorDiv_7cf53 5 = .ok (.iload_n 1, 1) := by decide +kernel
theorem dJ9_floorDiv_7cf53_6 : decode cJ9_floorDiv_7cf53 6 = .ok (.ixor, 1) := by decide +kernel
theorem dJ9_floorDiv_7cf53_7 : decode cJ9_floorDiv_7cf53 7 = .ok (.ifCond .ge 14, 3) := by decide +kernel
theorem dJ9_floorDiv_7cf53_10 : decode cJ9_floorDiv_7cf53 10 = .ok (.iload_n 2, 1) := by decide +kernel
theorem dJ9_floorDiv_7cf53_11 : decode cJ9_floorDiv_7cf53 11 = .ok (.iload_n 1, 1) := by decide +kernel
theorem dJ9_floorDiv_7cf53_12 : decode cJ9_floorDiv_7cf53 12 = .ok (.imul, 1) := by decide +kernel
theorem dJ9_floorDiv_7cf53_13 : decode cJ9_floorDiv_7cf53 13 = .ok (.iload_n 0, 1) := by decide +kernel
theorem dJ9_floorDiv_7cf53_14 : decode cJ9_floorDiv_7cf53 14 = .ok (.if_icmp .eq 7, 3) := by decide +kernel
theorem dJ9_floorDiv_7cf53_17 : decode cJ9_floorDiv_7cf53 17 = .ok (.iload_n 2, 1) := by decide +kernel
theorem dJ9_floorDiv_7cf53_18 : decode cJ9_floorDiv_7cf53 18 = .ok (.iconst 1, 1) := by decide +kernel
theorem dJ9_floorDiv_7cf53_19 : decode cJ9_floorDiv_7cf53 19 = .ok (.isub, 1) := by decide +kernel
theorem dJ9_floorDiv_7cf53_20 : decode cJ9_floorDiv_7cf53 20 = .ok (.ireturn, 1) := by decide +kernel
theorem dJ9_floorDiv_7cf53_21 : decode cJ9_floorDiv_7cf53 21 = .ok (.iload_n 2, 1) := by decide +kernel
theorem dJ9_floorDiv_7cf53_22 : decode cJ9_floorDiv_7cf53 22 = .ok (.ireturn, 1) := by decide +kernel
theorem dJ9_abs_0f7a4_0 : decode cJ9_abs_0f7a4 0 = .ok (.iload_n 0, 1) := by decide +kernel
theorem dJ9_abs_0f7a4_1 : decode cJ9_abs_0f7a4 1 = .ok (.ifCond .ge 8, 3) := by decide +kernel
theorem dJ9_abs_0f7a4_4 : decode cJ9_abs_0f7a4 4 = .ok (.iload_n 0, 1) := by decide +kernel
theorem dJ9_abs_0f7a4_5 : decode cJ9_abs_0f7a4 5 = .ok (.ineg, 1) := by decide +kernel
theorem dJ9_abs_0f7a4_6 : decode cJ9_abs_0f7a4 6 = .ok (.goto 4, 3) := by decide +kernel
theorem dJ9_abs_0f7a4_9 : decode cJ9_abs_0f7a4 9 = .ok (.iload_n 0, 1) := by decide +kernel
theorem dJ9_abs_0f7a4_10 : decode cJ9_abs_0f7a4 10 = .ok (.ireturn, 1) := by decide +kernel
theorem dJ9_max_7cf53_0 : decode cJ9_max_7cf53 0 = .ok (.iload_n 0, 1) := by decide +kernel
theorem dJ9_max_7cf53_1 : decode cJ9_max_7cf53 1 = .ok (.iload_n 1, 1) := by decide +kernel
theorem dJ9_max_7cf53_2 : decode cJ9_max_7cf53 2 = .ok (.if_icmp .lt 7, 3) := by decide +kernel
theorem dJ9_max_7cf53_5 : decode cJ9_max_7cf53 5 = .ok (.iload_n 0, 1) := by decide +kernel
theorem dJ9_max_7cf53_6 : decode cJ9_max_7cf53 6 = .ok (.goto 4, 3) := by decide +kernel
theorem dJ9_max_7cf53_9 : decode cJ9_max_7cf53 9 = .ok (.iload_n 1, 1) := by decide +kernel
theorem dJ9_max_7cf53_10 : decode cJ9_max_7cf53 10 = .ok (.ireturn, 1) := by decide +kernel
theorem dJ9_min_7cf53_0 : decode cJ9_min_7cf53 0 = .ok (.iload_n 0, 1) := by decide +kernel
theorem dJ9_min_7cf53_1 : decode cJ9_min_7cf53 1 = .ok (.iload_n 1, 1) := by decide +kernel
theorem dJ9_min_7cf53_2 : decode cJ9_min_7cf53 2 = .ok (.if_icmp .gt 7, 3) := by decide +kernel
theorem dJ9_min_7cf53_5 : decode cJ9_min_7cf53 5 = .ok (.iload_n 0, 1) := by decide +kernel
theorem dJ9_min_7cf53_6 : decode cJ9_min_7cf53 6 = .ok (.goto 4, 3) := by decide +kernel
theorem dJ9_min_7cf53_9 : decode cJ9_min_7cf53 9 = .ok (.iload_n 1, 1) := by decide +kernel
theorem dJ9_min_7cf53_10 : decode cJ9_min_7cf53 10 = .ok (.ireturn, 1) := by decide +kernel
theorem dJ9_min_eb370_0 : decode cJ9_min_eb370 0 = .ok (.dload_n 0, 1) := by decide +kernel
theorem dJ9_min_eb370_1 : decode cJ9_min_eb370 1 = .ok (.dload_n 0, 1) := by decide +kernel
theorem dJ9_min_eb370_2 : decode cJ9_min_eb370 2 = .ok (.dcmp .l, 1) := by decide +kernel
theorem dJ9_min_eb370_3 : decode cJ9_min_eb370 3 = .ok (.ifCond .eq 5, 3) := by decide +kernel
theorem dJ9_min_eb370_6 : decode cJ9_min_eb370 6 = .ok (.dload_n 0, 1) := by decide +kernel
theorem dJ9_min_eb370_7 : decode cJ9_min_eb370 7 = .ok (.dreturn, 1) := by decide +kernel
theorem dJ9_min_eb370_8 : decode cJ9_min_eb370 8 = .ok (.dload_n 0, 1) := by decide +kernel
theorem dJ9_min_eb370_9 : decode cJ9_min_eb370 9 = .ok (.dconst 0, 1) := by decide +kernel
theorem dJ9_min_eb370_10 : decode cJ9_min_eb370 10 = .ok (.dcmp .l, 1) := by decide +kernel
theorem dJ9_min_eb370_11 : decode cJ9_min_eb370 11 = .ok (.ifCond .ne 22, 3) := by decide +kernel
theorem dJ9_min_eb370_14 : decode cJ9_min_eb370 14 = .ok (.dload_n 2, 1) := by decide +kernel
theorem dJ9_min_eb370_15 : decode cJ9_min_eb370 15 = .ok (.dconst 0, 1) := by decide +kernel
theorem dJ9_min_eb370_16 : decode cJ9_min_eb370 16 = .ok (.dcmp .l, 1) := by decide +kernel
theorem dJ9_min_eb370_17 : decode cJ9_min_eb370 17 = .ok (.ifCond .ne 16, 3) := by decide +kernel
theorem dJ9_min_eb370_20 : decode cJ9_min_eb370 20 = .ok (.dload_n 2, 1) := by decide +kernel
theorem dJ9_min_eb370_21 : decode cJ9_min_eb370 21 = .ok (.invokestatic 79, 3) := by decide +kernel
theorem dJ9_min_eb370_24 : decode cJ9_min_eb370 24 = .ok (.getstatic 174, 3) := by decide +kernel
theorem dJ9_min_eb370_27 : decode cJ9_min_eb370 27 = .ok (.lcmp, 1) := by decide +kernel
theorem dJ9_min_eb370_28 : decode cJ9_min_eb370 28 = .ok (.ifCond .ne 5, 3) := by decide +kernel
theorem dJ9_min_eb370_31 : decode cJ9_min_eb370 31 = .ok (.dload_n 2, 1) := by decide +kernel
theorem dJ9_min_eb370_32 : decode cJ9_min_eb370 32 = .ok (.dreturn, 1) := by decide +kernel
theorem dJ9_min_eb370_33 : decode cJ9_min_eb370 33 = .ok (.dload_n 0, 1) := by decide +kernel
theorem dJ9_min_eb370_34 : decode cJ9_min_eb370 34 = .ok (.dload_n 2, 1) := by decide +kernel
theorem dJ9_min_eb370_35 : decode cJ9_min_eb370 35 = .ok (.dcmp .g, 1) := by decide +kernel
theorem dJ9_min_eb370_36 : decode cJ9_min_eb370 36 = .ok (.ifCond .gt 7, 3) := by decide +kernel
theorem dJ9_min_eb370_39 : decode cJ9_min_eb370 39 = .ok (.dload_n 0, 1) := by decide +kernel
theorem dJ9_min_eb370_40 : decode cJ9_min_eb370 40 = .ok (.goto 4, 3) := by decide +kernel
theorem dJ9_min_eb370_43 : decode cJ9_min_eb370 43 = .ok (.dload_n 2, 1) := by decide +kernel
theorem dJ9_min_eb370_44 : decode cJ9_min_eb370 44 = .ok (.dreturn, 1) := by decide +kernel
theorem dJ0_length_8abf5_0 : decode cJ0_length_8abf5 0 = .ok (.aload_n 0, 1) := by decide +kernel
theorem dJ0_length_8abf5_1 : decode cJ0_length_8abf5 1 = .ok (.getfield 9, 3) := by decide +kernel
theorem dJ0_length_8abf5_4 : decode cJ0_length_8abf5 4 = .ok (.arraylength, 1) := by decide +kernel
theorem dJ0_length_8abf5_5 : decode cJ0_length_8abf5 5 = .ok (.aload_n 0, 1) := by decide +kernel
theorem dJ0_length_8abf5_6 : decode cJ0_length_8abf5 6 = .ok (.invokevirtual 335, 3) := by decide +kernel
theorem dJ0_length_8abf5_9 : decode cJ0_length_8abf5 9 = .ok (.ishr, 1) := by decide +kernel
theorem dJ0_length_8abf5_10 : decode cJ0_length_8abf5 10 = .ok (.ireturn, 1) := by decide +kernel
theorem dJ0_charAt_5068e_0 : decode cJ0_charAt_5068e 0 = .ok (.aload_n 0, 1) := by decide +kernel
theorem dJ0_charAt_5068e_1 : decode cJ0_charAt_5068e 1 = .ok (.invokevirtual 492, 3) := by decide +kernel
theorem dJ0_charAt_5068e_4 : decode cJ0_charAt_5068e 4 = .ok (.ifCond .eq 12, 3) := by decide +kernel
theorem dJ0_charAt_5068e_7 : decode cJ0_charAt_5068e 7 = .ok (.aload_n 0, 1) := by decide +kernel
theorem dJ0_charAt_5068e_8 : decode cJ0_charAt_5068e 8 = .ok (.getfield 9, 3) := by decide +kernel
theorem dJ0_charAt_5068e_11 : decode cJ0_charAt_5068e 11 = .ok (.iload_n 1, 1) := by decide +kernel
theorem dJ0_charAt_5068e_12 : decode cJ0_charAt_5068e 12 = .ok (.invokestatic 495, 3) := by decide +kernel
theorem dJ0_charAt_5068e_15 : decode cJ0_charAt_5068e 15 = .ok (.ireturn, 1) := by decide +kernel
theorem dJ0_charAt_5068e_16 : decode cJ0_charAt_5068e 16 = .ok (.aload_n 0, 1) := by decide +kernel
theorem dJ0_charAt_5068e_17 : decode cJ0_charAt_5068e 17 = .ok (.getfield 9, 3) := by decide +kernel
theorem dJ0_charAt_5068e_20 : decode cJ0_charAt_5068e 20 = .ok (.iload_n 1, 1) := by decide +kernel
theorem dJ0_charAt_5068e_21 : decode cJ0_charAt_5068e 21 = .ok (.invokestatic 498, 3) := by decide +kernel
theorem dJ0_charAt_5068e_24 : decode cJ0_charAt_5068e 24 = .ok (.ireturn, 1) := by decide +kernel
theorem dJ0_coder_7d493_0 : decode cJ0_coder_7d493 0 = .ok (.getstatic 38, 3) := by decide +kernel
theorem dJ0_coder_7d493_3 : decode cJ0_coder_7d493 3 = .ok (.ifCond .eq 10, 3) := by decide +kernel
theorem dJ0_coder_7d493_6 : decode cJ0_coder_7d493 6 = .ok (.aload_n 0, 1) := by decide +kernel
theorem dJ0_coder_7d493_7 : decode cJ0_coder_7d493 7 = .ok (.getfield 15, 3) := by decide +kernel
theorem dJ0_coder_7d493_10 : decode cJ0_coder_7d493 10 = .ok (.goto 4, 3) := by decide +kernel
theorem dJ0_coder_7d493_13 : decode cJ0_coder_7d493 13 = .ok (.iconst 1, 1) := by decide +kernel
theorem dJ0_coder_7d493_14 : decode cJ0_coder_7d493 14 = .ok (.ireturn, 1) := by decide +kernel
theorem dJ0_isLatin1_aae02_0 : decode cJ0_isLatin1_aae02 0 = .ok (.getstatic 38, 3) := by decide +kernel
theorem dJ0_isLatin1_aae02_3 : decode cJ0_isLatin1_aae02 3 = .ok (.ifCond .eq 14, 3) := by decide +kernel
theorem dJ0_isLatin1_aae02_6 : decode cJ0_isLatin1_aae02 6 = .ok (.aload_n 0, 1) := by decide +kernel
theorem dJ0_isLatin1_aae02_7 : decode cJ0_isLatin1_aae02 7 = .ok (.getfield 15, 3) := by decide +kernel
theorem dJ0_isLatin1_aae02_10 : decode cJ0_isLatin1_aae02 10 = .ok (.ifCond .ne 7, 3) := by decide +kernel
theorem dJ0_isLatin1_aae02_13 : decode cJ0_isLatin1_aae02 13 = .ok (.iconst 1, 1) := by decide +kernel
theorem dJ0_isLatin1_aae02_14 : decode cJ0_isLatin1_aae02 14 = .ok (.goto 4, 3) := by decide +kernel
theorem dJ0_isLatin1_aae02_17 : decode cJ0_isLatin1_aae02 17 = .ok (.iconst 0, 1) := by decide +kernel
theorem dJ0_isLatin1_aae02_18 : decode cJ0_isLatin1_aae02 18 = .ok (.ireturn, 1) := by decide +kernel
theorem dJ0_checkIndex_df160_0 : decode cJ0_checkIndex_df160 0 = .ok (.iload_n 0, 1) := by decide +kernel
theorem dJ0_checkIndex_df160_1 : decode cJ0_checkIndex_df160 1 = .ok (.iload_n 1, 1) := by decide +kernel
theorem dJ0_checkIndex_df160_2 : decode cJ0_checkIndex_df160 2 = .ok (.getstatic 1053, 3) := by decide +kernel
theorem dJ0_checkIndex_df160_5 : decode cJ0_checkIndex_df160 5 = .ok (.invokestatic 1059, 3) := by decide +kernel
theorem dJ0_checkIndex_df160_8 : decode cJ0_checkIndex_df160 8 = .ok (.pop, 1) := by decide +kernel
theorem dJ0_checkIndex_df160_9 : decode cJ0_checkIndex_df160 9 = .ok (.return_, 1) := by decide +kernel
theorem dJ1_charAt_3b067_0 : decode cJ1_charAt_3b067 0 = .ok (.iload_n 1, 1) := by decide +kernel
theorem dJ1_charAt_3b067_1 : decode cJ1_charAt_3b067 1 = .ok (.aload_n 0, 1) := by decide +kernel
theorem dJ1_charAt_3b067_2 : decode cJ1_charAt_3b067 2 = .ok (.arraylength, 1) := by decide +kernel
theorem dJ1_charAt_3b067_3 : decode cJ1_charAt_3b067 3 = .ok (.invokestatic 9, 3) := by decide +kernel
theorem dJ1_charAt_3b067_6 : decode cJ1_charAt_3b067 6 = .ok (.aload_n 0, 1) := by decide +kernel
theorem dJ1_charAt_3b067_7 : decode cJ1_charAt_3b067 7 = .ok (.iload_n 1, 1) := by decide +kernel
theorem dJ1_charAt_3b067_8 : decode cJ1_charAt_3b067 8 = .ok (.baload, 1) := by decide +kernel
theorem dJ1_charAt_3b067_9 : decode cJ1_charAt_3b067 9 = .ok (.sipush 255, 3) := by decide +kernel
theorem dJ1_charAt_3b067_12 : decode cJ1_charAt_3b067 12 = .ok (.iand, 1) := by decide +kernel
theorem dJ1_charAt_3b067_13 : decode cJ1_charAt_3b067 13 = .ok (.i2c, 1) := by decide +kernel
theorem dJ1_charAt_3b067_14 : decode cJ1_charAt_3b067 14 = .ok (.ireturn, 1) := by decide +kernel
theorem dJ2_getChar_3b067_0 : decode cJ2_getChar_3b067 0 = .ok (.getstatic 44, 3) := by decide +kernel
theorem dJ2_getChar_3b067_3 : decode cJ2_getChar_3b067 3 = .ok (.ifCond .ne 25, 3) := by decide +kernel
theorem dJ2_getChar_3b067_6 : decode cJ2_getChar_3b067 6 = .ok (.iload_n 1, 1) := by decide +kernel
theorem dJ2_getChar_3b067_7 : decode cJ2_getChar_3b067 7 = .ok (.ifCond .lt 11, 3) := by decide +kernel
theorem dJ2_getChar_3b067_10 : decode cJ2_getChar_3b067 10 = .ok (.iload_n 1, 1) := by decide +kernel
theorem dJ2_getChar_3b067_11 : decode cJ2_getChar_3b067 11 = .ok (.aload_n 0, 1) := by decide +kernel
theorem dJ2_getChar_3b067_12 : decode cJ2_getChar_3b067 12 = .ok (.invokestatic 48, 3) := by decide +kernel
theorem dJ2_getChar_3b067_15 : decode cJ2_getChar_3b067 15 = .ok (.if_icmp .lt 13, 3) := by decide +kernel
theorem dJ2_getChar_3b067_18 : decode cJ2_getChar_3b067 18 = .ok (.new 52, 3) := by decide +kernel
theorem dJ2_getChar_3b067_21 : decode cJ2_getChar_3b067 21 = .ok (.dup, 1) := by decide +kernel
theorem dJ2_getChar_3b067_22 : decode cJ2_getChar_3b067 22 = .ok (.ldc 54, 2) := by decide +kernel
theorem dJ2_getChar_3b067_24 : decode cJ2_getChar_3b067 24 = .ok (.invokespecial 56, 3) := by decide +kernel
theorem dJ2_getChar_3b067_27 : decode cJ2_getChar_3b067 27 = .ok (.athrow, 1) := by decide +kernel
theorem dJ2_getChar_3b067_28 : decode cJ2_getChar_3b067 28 = .ok (.iload_n 1, 1) := by decide +kernel
theorem dJ2_getChar_3b067_29 : decode cJ2_getChar_3b067 29 = .ok (.iconst 1, 1) := by decide +kernel
theorem dJ2_getChar_3b067_30 : decode cJ2_getChar_3b067 30 = .ok (.ishl, 1) := by decide +kernel
theorem dJ2_getChar_3b067_31 : decode cJ2_getChar_3b067 31 = .ok (.istore_n 1, 1) := by decide +kernel
theorem dJ2_getChar_3b067_32 : decode cJ2_getChar_3b067 32 = .ok (.aload_n 0, 1) := by decide +kernel
theorem dJ2_getChar_3b067_33 : decode cJ2_getChar_3b067 33 = .ok (.iload_n 1, 1) := by decide +kernel
theorem dJ2_getChar_3b067_34 : decode cJ2_getChar_3b067 34 = .ok (.iinc 1 1, 3) := by decide +kernel
theorem dJ2_getChar_3b067_37 : decode cJ2_getChar_3b067 37 = .ok (.baload, 1) := by decide +kernel
theorem dJ2_getChar_3b067_38 : decode cJ2_getChar_3b067 38 = .ok (.sipush 255, 3) := by decide +kernel
theorem dJ2_getChar_3b067_41 : decode cJ2_getChar_3b067 41 = .ok (.iand, 1) := by decide +kernel
theorem dJ2_getChar_3b067_42 : decode cJ2_getChar_3b067 42 = .ok (.getstatic 59, 3) := by decide +kernel
theorem dJ2_getChar_3b067_45 : decode cJ2_getChar_3b067 45 = .ok (.ishl, 1) := by decide +kernel
theorem dJ2_getChar_3b067_46 : decode cJ2_getChar_3b067 46 = .ok (.aload_n 0, 1) := by decide +kernel
theorem dJ2_getChar_3b067_47 : decode cJ2_getChar_3b067 47 = .ok (.iload_n 1, 1) := by decide +kernel
theorem dJ2_getChar_3b067_48 : decode cJ2_getChar_3b067 48 = .ok (.baload, 1) := by decide +kernel
theorem dJ2_getChar_3b067_49 : decode cJ2_getChar_3b067 49 = .ok (.sipush 255, 3) := by decide +kernel
theorem dJ2_getChar_3b067_52 : decode cJ2_getChar_3b067 52 = .ok (.iand, 1) := by decide +kernel
theorem dJ2_getChar_3b067_53 : decode cJ2_getChar_3b067 53 = .ok (.getstatic 63, 3) := by decide +kernel
theorem dJ2_getChar_3b067_56 : decode cJ2_getChar_3b067 56 = .ok (.ishl, 1) := by decide +kernel
theorem dJ2_getChar_3b067_57 : decode cJ2_getChar_3b067 57 = .ok (.ior, 1) := by decide +kernel
theorem dJ2_getChar_3b067_58 : decode cJ2_getChar_3b067 58 = .ok (.i2c, 1) := by decide +kernel
theorem dJ2_getChar_3b067_59 : decode cJ2_getChar_3b067 59 = .ok (.ireturn, 1) := by decide +kernel
theorem dJ2_length_9d52b_0 : decode cJ2_length_9d52b 0 = .ok (.aload_n 0, 1) := by decide +kernel
theorem dJ2_length_9d52b_1 : decode cJ2_length_9d52b 1 = .ok (.arraylength, 1) := by decide +kernel
theorem dJ2_length_9d52b_2 : decode cJ2_length_9d52b 2 = .ok (.iconst 1, 1) := by decide +kernel
theorem dJ2_length_9d52b_3 : decode cJ2_length_9d52b 3 = .ok (.ishr, 1) := by decide +kernel
theorem dJ2_length_9d52b_4 : decode cJ2_length_9d52b 4 = .ok (.ireturn, 1) := by decide +kernel
theorem dJ2_charAt_3b067_0 : decode cJ2_charAt_3b067 0 = .ok (.iload_n 1, 1) := by decide +kernel
theorem dJ2_charAt_3b067_1 : decode cJ2_charAt_3b067 1 = .ok (.aload_n 0, 1) := by decide +kernel
theorem dJ2_charAt_3b067_2 : decode cJ2_charAt_3b067 2 = .ok (.invokestatic 67, 3) := by decide +kernel
theorem dJ2_charAt_3b067_5 : decode cJ2_charAt_3b067 5 = .ok (.aload_n 0, 1) := by decide +kernel
theorem dJ2_charAt_3b067_6 : decode cJ2_charAt_3b067 6 = .ok (.iload_n 1, 1) := by decide +kernel
theorem dJ2_charAt_3b067_7 : decode cJ2_charAt_3b067 7 = .ok (.invokestatic 71, 3) := by decide +kernel
theorem dJ2_charAt_3b067_10 : decode cJ2_charAt_3b067 10 = .ok (.ireturn, 1) := by decide +kernel
theorem dJ2_checkIndex_2214a_0 : decode cJ2_checkIndex_2214a 0 = .ok (.iload_n 0, 1) := by decide +kernel
theorem dJ2_checkIndex_2214a_1 : decode cJ2_checkIndex_2214a 1 = .ok (.aload_n 1, 1) := by decide +kernel
theorem dJ2_checkIndex_2214a_2 : decode cJ2_checkIndex_2214a 2 = .ok (.invokestatic 48, 3) := by decide +kernel
theorem dJ2_checkIndex_2214a_5 : decode cJ2_checkIndex_2214a 5 = .ok (.invokestatic 414, 3) := by decide +kernel
theorem dJ2_checkIndex_2214a_8 : decode cJ2_checkIndex_2214a 8 = .ok (.return_, 1) := by decide +kernel
theorem dJ7_copyOf_59c91_0 : decode cJ7_copyOf_59c91 0 = .ok (.iload_n 1, 1) := by decide +kernel
theorem dJ7_copyOf_59c91_1 : decode cJ7_copyOf_59c91 1 = .ok (.aload_n 0, 1) := by decide +kernel
theorem dJ7_copyOf_59c91_2 : decode cJ7_copyOf_59c91 2 = .ok (.arraylength, 1) := by decide +kernel
theorem dJ7_copyOf_59c91_3 : decode cJ7_copyOf_59c91 3 = .ok (.if_icmp .ne 11, 3) := by decide +kernel
theorem dJ7_copyOf_59c91_6 : decode cJ7_copyOf_59c91 6 = .ok (.aload_n 0, 1) := by decide +kernel
theorem dJ7_copyOf_59c91_7 : decode cJ7_copyOf_59c91 7 = .ok (.invokevirtual 316, 3) := by decide +kernel
theorem dJ7_copyOf_59c91_10 : decode cJ7_copyOf_59c91 10 = .ok (.checkcast 317, 3) := by decide +kernel
theorem dJ7_copyOf_59c91_13 : decode cJ7_copyOf_59c91 13 = .ok (.areturn, 1) := by decide +kernel
theorem dJ7_copyOf_59c91_14 : decode cJ7_copyOf_59c91 14 = .ok (.iload_n 1, 1) := by decide +kernel
theorem dJ7_copyOf_59c91_15 : decode cJ7_copyOf_59c91 15 = .ok (.newarray .int, 2) := by decide +kernel
theorem dJ7_copyOf_59c91_17 : decode cJ7_copyOf_59c91 17 = .ok (.astore_n 2, 1) := by decide +kernel
theorem dJ7_copyOf_59c91_18 : decode cJ7_copyOf_59c91 18 = .ok (.aload_n 0, 1) := by decide +kernel
theorem dJ7_copyOf_59c91_19 : decode cJ7_copyOf_59c91 19 = .ok (.iconst 0, 1) := by decide +kernel
theorem dJ7_copyOf_59c91_20 : decode cJ7_copyOf_59c91 20 = .ok (.aload_n 2, 1) := by decide +kernel
theorem dJ7_copyOf_59c91_21 : decode cJ7_copyOf_59c91 21 = .ok (.iconst 0, 1) := by decide +kernel
theorem dJ7_copyOf_59c91_22 : decode cJ7_copyOf_59c91 22 = .ok (.aload_n 0, 1) := by decide +kernel
theorem dJ7_copyOf_59c91_23 : decode cJ7_copyOf_59c91 23 = .ok (.arraylength, 1) := by decide +kernel
theorem dJ7_copyOf_59c91_24 : decode cJ7_copyOf_59c91 24 = .ok (.iload_n 1, 1) := by decide +kernel
theorem dJ7_copyOf_59c91_25 : decode cJ7_copyOf_59c91 25 = .ok (.invokestatic 304, 3) := by decide +kernel
theorem dJ7_copyOf_59c91_28 : decode cJ7_copyOf_59c91 28 = .ok (.invokestatic 150, 3) := by decide +kernel
theorem dJ7_copyOf_59c91_31 : decode cJ7_copyOf_59c91 31 = .ok (.aload_n 2, 1) := by decide +kernel
theorem dJ7_copyOf_59c91_32 : decode cJ7_copyOf_59c91 32 = .ok (.areturn, 1) := by decide +kernel
theorem dJ3_checkIndex_8e157_0 : decode cJ3_checkIndex_8e157 0 = .ok (.iload_n 0, 1) := by decide +kernel
theorem dJ3_checkIndex_8e157_1 : decode cJ3_checkIndex_8e157 1 = .ok (.ifCond .lt 8, 3) := by decide +kernel
theorem dJ3_checkIndex_8e157_4 : decode cJ3_checkIndex_8e157 4 = .ok (.iload_n 0, 1) := by decide +kernel
theorem dJ3_checkIndex_8e157_5 : decode cJ3_checkIndex_8e157 5 = .ok (.iload_n 1, 1) := by decide +kernel
theorem dJ3_checkIndex_8e157_6 : decode cJ3_checkIndex_8e157 6 = .ok (.if_icmp .lt 10, 3) := by decide +kernel
theorem dJ3_checkIndex_8e157_9 : decode cJ3_checkIndex_8e157 9 = .ok (.aload_n 2, 1) := by decide +kernel
theorem dJ3_checkIndex_8e157_10 : decode cJ3_checkIndex_8e157 10 = .ok (.iload_n 0, 1) := by decide +kernel
theorem dJ3_checkIndex_8e157_11 : decode cJ3_checkIndex_8e157 11 = .ok (.iload_n 1, 1) := by decide +kernel
theorem dJ3_checkIndex_8e157_12 : decode cJ3_checkIndex_8e157 12 = .ok (.invokestatic 95, 3) := by decide +kernel
theorem dJ3_checkIndex_8e157_15 : decode cJ3_checkIndex_8e157 15 = .ok (.athrow, 1) := by decide +kernel
theorem dJ3_checkIndex_8e157_16 : decode cJ3_checkIndex_8e157 16 = .ok (.iload_n 0, 1) := by decide +kernel
theorem dJ3_checkIndex_8e157_17 : decode cJ3_checkIndex_8e157 17 = .ok (.ireturn, 1) := by decide +kernel
end
section
theorem dX3_init_0 : decode cX3_init 0 = .ok (.aload_n 0, 1) := by decide +kernel
theorem dX3_init_1 : decode cX3_init 1 = .ok (.invokespecial 3, 3) := by decide +kernel
theorem dX3_init_4 : decode cX3_init 4 = .ok (.aload_n 0, 1) := by decide +kernel
theorem dX3_init_5 : decode cX3_init 5 = .ok (.bipush 20, 2) := by decide +kernel
theorem dX3_init_7 : decode cX3_init 7 = .ok (.newarray .int, 2) := by decide +kernel
theorem dX3_init_9 : decode cX3_init 9 = .ok (.putfield 11, 3) := by decide +kernel
theorem dX3_init_12 : decode cX3_init 12 = .ok (.aload_n 0, 1) := by decide +kernel
theorem dX3_init_13 : decode cX3_init 13 = .ok (.iconst 0, 1) := by decide +kernel
theorem dX3_init_14 : decode cX3_init 14 = .ok (.putfield 15, 3) := by decide +kernel
theorem dX3_init_17 : decode cX3_init 17 = .ok (.aload_n 0, 1) := by decide +kernel
theorem dX3_init_18 : decode cX3_init 18 = .ok (.iconst 0, 1) := by decide +kernel
theorem dX3_init_19 : decode cX3_init 19 = .ok (.putfield 19, 3) := by decide +kernel
theorem dX3_init_22 : decode cX3_init 22 = .ok (.aload_n 0, 1) := by decide +kernel
theorem dX3_init_23 : decode cX3_init 23 = .ok (.new 22, 3) := by decide +kernel
theorem dX3_init_26 : decode cX3_init 26 = .ok (.dup, 1) := by decide +kernel
theorem dX3_init_27 : decode cX3_init 27 = .ok (.invokespecial 24, 3) := by decide +kernel
theorem dX3_init_30 : decode cX3_init 30 = .ok (.putfield 25, 3) := by decide +kernel
theorem dX3_init_33 : decode cX3_init 33 = .ok (.aload_n 0, 1) := by decide +kernel
theorem dX3_init_34 : decode cX3_init 34 = .ok (.new 22, 3) := by decide +kernel
theorem dX3_init_37 : decode cX3_init 37 = .ok (.dup, 1) := by decide +kernel
theorem dX3_init_38 : decode cX3_init 38 = .ok (.invokespecial 24, 3) := by decide +kernel
theorem dX3_init_41 : decode cX3_init 41 = .ok (.putfield 29, 3) := by decide +kernel
theorem dX3_init_44 : decode cX3_init 44 = .ok (.aload_n 0, 1) := by decide +kernel
theorem dX3_init_45 : decode cX3_init 45 = .ok (.new 22, 3) := by decide +kernel
theorem dX3_init_48 : decode cX3_init 48 = .ok (.dup, 1) := by decide +kernel
theorem dX3_init_49 : decode cX3_init 49 = .ok (.invokespecial 24, 3) := by decide +kernel
theorem dX3_init_52 : decode cX3_init 52 = .ok (.putfield 32, 3) := by decide +kernel
theorem dX3_init_55 : decode cX3_init 55 = .ok (.aload_n 0, 1) := by decide +kernel
theorem dX3_init_56 : decode cX3_init 56 = .ok (.new 22, 3) := by decide +kernel
theorem dX3_init_59 : decode cX3_init 59 = .ok (.dup, 1) := by decide +kernel
theorem dX3_init_60 : decode cX3_init 60 = .ok (.invokespecial 24, 3) := by decide +kernel
theorem dX3_init_63 : decode cX3_init 63 = .ok (.putfield 35, 3) := by decide +kernel
theorem dX3_init_66 : decode cX3_init 66 = .ok (.aload_n 0, 1) := by decide +kernel
theorem dX3_init_67 : decode cX3_init 67 = .ok (.new 22, 3) := by decide +kernel
theorem dX3_init_70 : decode cX3_init 70 = .ok (.dup, 1) := by decide +kernel
theorem dX3_init_71 : decode cX3_init 71 = .ok (.invokespecial 24, 3) := by decide +kernel
theorem dX3_init_74 : decode cX3_init 74 = .ok (.putfield 38, 3) := by decide +kernel
theorem dX3_init_77 : decode cX3_init 77 = .ok (.return_, 1) := by decide +kernel
theorem dX3_count_0 : decode cX3_count 0 = .ok (.aload_n 0, 1) := by decide +kernel
theorem dX3_count_1 : decode cX3_count 1 = .ok (.getfield 15, 3) := by decide +kernel
theorem dX3_count_4 : decode cX3_count 4 = .ok (.ireturn, 1) := by decide +kernel
theorem dX3_point_0 : decode cX3_point 0 = .ok (.aload_n 0, 1) := by decide +kernel
theorem dX3_point_1 : decode cX3_point 1 = .ok (.getfield 19, 3) := by decide +kernel
theorem dX3_point_4 : decode cX3_point 4 = .ok (.ireturn, 1) := by decide +kernel
theorem dX3_digitAt_0 : decode cX3_digitAt 0 = .ok (.iload_n 1, 1) := by decide +kernel
theorem dX3_digitAt_1 : decode cX3_digitAt 1 = .ok (.ifCond .lt 26, 3) := by decide +kernel
theorem dX3_digitAt_4 : decode cX3_digitAt 4 = .ok (.iload_n 1, 1) := by decide +kernel
theorem dX3_digitAt_5 : decode cX3_digitAt 5 = .ok (.aload_n 0, 1) := by decide +kernel
theorem dX3_digitAt_6 : decode cX3_digitAt 6 = .ok (.getfield 15, 3) := by decide +kernel
theorem dX3_digitAt_9 : decode cX3_digitAt 9 = .ok (.if_icmp .ge 18, 3) := by decide +kernel
theorem dX3_digitAt_12 : decode cX3_digitAt 12 = .ok (.iload_n 1, 1) := by decide +kernel
theorem dX3_digitAt_13 : decode cX3_digitAt 13 = .ok (.bipush 20, 2) := by decide +kernel
theorem dX3_digitAt_15 : decode cX3_digitAt 15 = .ok (.if_icmp .ge 12, 3) := by decide +kernel
theorem dX3_digitAt_18 : decode cX3_digitAt 18 = .ok (.aload_n 0, 1) := by decide +kernel
theorem dX3_digitAt_19 : decode cX3_digitAt 19 = .ok (.getfield 11, 3) := by decide +kernel
theorem dX3_digitAt_22 : decode cX3_digitAt 22 = .ok (.iload_n 1, 1) := by decide +kernel
theorem dX3_digitAt_23 : decode cX3_digitAt 23 = .ok (.iaload, 1) := by decide +kernel
theorem dX3_digitAt_24 : decode cX3_digitAt 24 = .ok (.goto 4, 3) := by decide +kernel
theorem dX3_digitAt_27 : decode cX3_digitAt 27 = .ok (.iconst 0, 1) := by decide +kernel
theorem dX3_digitAt_28 : decode cX3_digitAt 28 = .ok (.ireturn, 1) := by decide +kernel
theorem dX3_find_0 : decode cX3_find 0 = .ok (.aload_n 0, 1) := by decide +kernel
theorem dX3_find_1 : decode cX3_find 1 = .ok (.iconst 0, 1) := by decide +kernel
theorem dX3_find_2 : decode cX3_find 2 = .ok (.putfield 15, 3) := by decide +kernel
theorem dX3_find_5 : decode cX3_find 5 = .ok (.lload_n 1, 1) := by decide +kernel
theorem dX3_find_6 : decode cX3_find 6 = .ok (.lconst 0, 1) := by decide +kernel
theorem dX3_find_7 : decode cX3_find 7 = .ok (.lcmp, 1) := by decide +kernel
theorem dX3_find_8 : decode cX3_find 8 = .ok (.ifCond .gt 14, 3) := by decide +kernel
theorem dX3_find_11 : decode cX3_find 11 = .ok (.aload_n 0, 1) := by decide +kernel
theorem dX3_find_12 : decode cX3_find 12 = .ok (.iconst 0, 1) := by decide +kernel
theorem dX3_find_13 : decode cX3_find 13 = .ok (.invokevirtual 41, 3) := by decide +kernel
theorem dX3_find_16 : decode cX3_find 16 = .ok (.aload_n 0, 1) := by decide +kernel
theorem dX3_find_17 : decode cX3_find 17 = .ok (.iconst 1, 1) := by decide +kernel
theorem dX3_find_18 : decode cX3_find 18 = .ok (.putfield 19, 3) := by decide +kernel
theorem dX3_find_21 : decode cX3_find 21 = .ok (.return_, 1) := by decide +kernel
theorem dX3_find_22 : decode cX3_find 22 = .ok (.lload_n 1, 1) := by decide +kernel
theorem dX3_find_23 : decode cX3_find 23 = .ok (.lconst 1, 1) := by decide +kernel
theorem dX3_find_24 : decode cX3_find 24 = .ok (.land, 1) := by decide +kernel
theorem dX3_find_25 : decode cX3_find 25 = .ok (.lconst 0, 1) := by decide +kernel
theorem dX3_find_26 : decode cX3_find 26 = .ok (.lcmp, 1) := by decide +kernel
theorem dX3_find_27 : decode cX3_find 27 = .ok (.ifCond .ne 7, 3) := by decide +kernel
theorem dX3_find_30 : decode cX3_find 30 = .ok (.iconst 1, 1) := by decide +kernel
theorem dX3_find_31 : decode cX3_find 31 = .ok (.goto 4, 3) := by decide +kernel
theorem dX3_find_34 : decode cX3_find 34 = .ok (.iconst 0, 1) := by decide +kernel
theorem dX3_find_35 : decode cX3_find 35 = .ok (.istore 4, 2) := by decide +kernel
theorem dX3_find_37 : decode cX3_find 37 = .ok (.lload_n 1, 1) := by decide +kernel
theorem dX3_find_38 : decode cX3_find 38 = .ok (.ldc2_w 45, 3) := by decide +kernel
theorem dX3_find_41 : decode cX3_find 41 = .ok (.lcmp, 1) := by decide +kernel
theorem dX3_find_42 : decode cX3_find 42 = .ok (.ifCond .ne 14, 3) := by decide +kernel
theorem dX3_find_45 : decode cX3_find 45 = .ok (.iload_n 3, 1) := by decide +kernel
theorem dX3_find_46 : decode cX3_find 46 = .ok (.sipush (-1074), 3) := by decide +kernel
theorem dX3_find_49 : decode cX3_find 49 = .ok (.if_icmp .le 7, 3) := by decide +kernel
theorem dX3_find_52 : decode cX3_find 52 = .ok (.iconst 1, 1) := by decide +kernel
theorem dX3_find_53 : decode cX3_find 53 = .ok (.goto 4, 3) := by decide +kernel
theorem dX3_find_56 : decode cX3_find 56 = .ok (.iconst 0, 1) := by decide +kernel
theorem dX3_find_57 : decode cX3_find 57 = .ok (.istore 5, 2) := by decide +kernel
theorem dX3_find_59 : decode cX3_find 59 = .ok (.bipush 64, 2) := by decide +kernel
theorem dX3_find_61 : decode cX3_find 61 = .ok (.lload_n 1, 1) := by decide +kernel
theorem dX3_find_62 : decode cX3_find 62 = .ok (.invokestatic 47, 3) := by decide +kernel
theorem dX3_find_65 : decode cX3_find 65 = .ok (.isub, 1) := by decide +kernel
theorem dX3_find_66 : decode cX3_find 66 = .ok (.iload_n 3, 1) := by decide +kernel
theorem dX3_find_67 : decode cX3_find 67 = .ok (.iadd, 1) := by decide +kernel
theorem dX3_find_68 : decode cX3_find 68 = .ok (.istore 6, 2) := by decide +kernel
theorem dX3_find_70 : decode cX3_find 70 = .ok (.aload_n 0, 1) := by decide +kernel
theorem dX3_find_71 : decode cX3_find 71 = .ok (.iload 6, 2) := by decide +kernel
theorem dX3_find_73 : decode cX3_find 73 = .ok (.iconst 1, 1) := by decide +kernel
theorem dX3_find_74 : decode cX3_find 74 = .ok (.isub, 1) := by decide +kernel
theorem dX3_find_75 : decode cX3_find 75 = .ok (.sipush 30103, 3) := by decide +kernel
theorem dX3_find_78 : decode cX3_find 78 = .ok (.imul, 1) := by decide +kernel
theorem dX3_find_79 : decode cX3_find 79 = .ok (.ldc 53, 2) := by decide +kernel
theorem dX3_find_81 : decode cX3_find 81 = .ok (.invokestatic 54, 3) := by decide +kernel
theorem dX3_find_84 : decode cX3_find 84 = .ok (.iconst 1, 1) := by decide +kernel
theorem dX3_find_85 : decode cX3_find 85 = .ok (.iadd, 1) := by decide +kernel
theorem dX3_find_86 : decode cX3_find 86 = .ok (.putfield 19, 3) := by decide +kernel
theorem dX3_find_89 : decode cX3_find 89 = .ok (.aload_n 0, 1) := by decide +kernel
theorem dX3_find_90 : decode cX3_find 90 = .ok (.lload_n 1, 1) := by decide +kernel
theorem dX3_find_91 : decode cX3_find 91 = .ok (.iload_n 3, 1) := by decide +kernel
theorem dX3_find_92 : decode cX3_find 92 = .ok (.aload_n 0, 1) := by decide +kernel
theorem dX3_find_93 : decode cX3_find 93 = .ok (.getfield 19, 3) := by decide +kernel
theorem dX3_find_96 : decode cX3_find 96 = .ok (.isub, 1) := by decide +kernel
theorem dX3_find_97 : decode cX3_find 97 = .ok (.iload 5, 2) := by decide +kernel
theorem dX3_find_99 : decode cX3_find 99 = .ok (.invokevirtual 60, 3) := by decide +kernel
theorem dX3_find_102 : decode cX3_find 102 = .ok (.aload_n 0, 1) := by decide +kernel
theorem dX3_find_103 : decode cX3_find 103 = .ok (.invokevirtual 64, 3) := by decide +kernel
theorem dX3_find_106 : decode cX3_find 106 = .ok (.iconst 0, 1) := by decide +kernel
theorem dX3_find_107 : decode cX3_find 107 = .ok (.istore 7, 2) := by decide +kernel
theorem dX3_find_109 : decode cX3_find 109 = .ok (.iload 7, 2) := by decide +kernel
theorem dX3_find_111 : decode cX3_find 111 = .ok (.iconst 3, 1) := by decide +kernel
theorem dX3_find_112 : decode cX3_find 112 = .ok (.if_icmp .ge 38, 3) := by decide +kernel
theorem dX3_find_115 : decode cX3_find 115 = .ok (.aload_n 0, 1) := by decide +kernel
theorem dX3_find_116 : decode cX3_find 116 = .ok (.iload 4, 2) := by decide +kernel
theorem dX3_find_118 : decode cX3_find 118 = .ok (.invokevirtual 67, 3) := by decide +kernel
theorem dX3_find_121 : decode cX3_find 121 = .ok (.ifCond .eq 29, 3) := by decide +kernel
theorem dX3_find_124 : decode cX3_find 124 = .ok (.aload_n 0, 1) := by decide +kernel
theorem dX3_find_125 : decode cX3_find 125 = .ok (.getfield 29, 3) := by decide +kernel
theorem dX3_find_128 : decode cX3_find 128 = .ok (.bipush 10, 2) := by decide +kernel
theorem dX3_find_130 : decode cX3_find 130 = .ok (.iconst 0, 1) := by decide +kernel
theorem dX3_find_131 : decode cX3_find 131 = .ok (.invokevirtual 71, 3) := by decide +kernel
theorem dX3_find_134 : decode cX3_find 134 = .ok (.aload_n 0, 1) := by decide +kernel
theorem dX3_find_135 : decode cX3_find 135 = .ok (.dup, 1) := by decide +kernel
theorem dX3_find_136 : decode cX3_find 136 = .ok (.getfield 19, 3) := by decide +kernel
theorem dX3_find_139 : decode cX3_find 139 = .ok (.iconst 1, 1) := by decide +kernel
theorem dX3_find_140 : decode cX3_find 140 = .ok (.iadd, 1) := by decide +kernel
theorem dX3_find_141 : decode cX3_find 141 = .ok (.putfield 19, 3) := by decide +kernel
theorem dX3_find_144 : decode cX3_find 144 = .ok (.iinc 7 1, 3) := by decide +kernel
theorem dX3_find_147 : decode cX3_find 147 = .ok (.goto (-38), 3) := by decide +kernel
theorem dX3_find_150 : decode cX3_find 150 = .ok (.iconst 0, 1) := by decide +kernel
theorem dX3_find_151 : decode cX3_find 151 = .ok (.istore 7, 2) := by decide +kernel
theorem dX3_find_153 : decode cX3_find 153 = .ok (.iconst 0, 1) := by decide +kernel
theorem dX3_find_154 : decode cX3_find 154 = .ok (.istore 8, 2) := by decide +kernel
theorem dX3_find_156 : decode cX3_find 156 = .ok (.iload 8, 2) := by decide +kernel
theorem dX3_find_158 : decode cX3_find 158 = .ok (.bipush 20, 2) := by decide +kernel
theorem dX3_find_160 : decode cX3_find 160 = .ok (.if_icmp .ge 22, 3) := by decide +kernel
theorem dX3_find_163 : decode cX3_find 163 = .ok (.iload 7, 2) := by decide +kernel
theorem dX3_find_165 : decode cX3_find 165 = .ok (.ifCond .ne 17, 3) := by decide +kernel
theorem dX3_find_168 : decode cX3_find 168 = .ok (.aload_n 0, 1) := by decide +kernel
theorem dX3_find_169 : decode cX3_find 169 = .ok (.iload 4, 2) := by decide +kernel
theorem dX3_find_171 : decode cX3_find 171 = .ok (.invokevirtual 75, 3) := by decide +kernel
theorem dX3_find_174 : decode cX3_find 174 = .ok (.istore 7, 2) := by decide +kernel
theorem dX3_find_176 : decode cX3_find 176 = .ok (.iinc 8 1, 3) := by decide +kernel
theorem dX3_find_179 : decode cX3_find 179 = .ok (.goto (-23), 3) := by decide +kernel
theorem dX3_find_182 : decode cX3_find 182 = .ok (.return_, 1) := by decide +kernel
theorem dX3_append_0 : decode cX3_append 0 = .ok (.aload_n 0, 1) := by decide +kernel
theorem dX3_append_1 : decode cX3_append 1 = .ok (.getfield 15, 3) := by decide +kernel
theorem dX3_append_4 : decode cX3_append 4 = .ok (.bipush 20, 2) := by decide +kernel
theorem dX3_append_6 : decode cX3_append 6 = .ok (.if_icmp .ge 23, 3) := by decide +kernel
theorem dX3_append_9 : decode cX3_append 9 = .ok (.aload_n 0, 1) := by decide +kernel
theorem dX3_append_10 : decode cX3_append 10 = .ok (.getfield 11, 3) := by decide +kernel
theorem dX3_append_13 : decode cX3_append 13 = .ok (.aload_n 0, 1) := by decide +kernel
theorem dX3_append_14 : decode cX3_append 14 = .ok (.getfield 15, 3) := by decide +kernel
theorem dX3_append_17 : decode cX3_append 17 = .ok (.iload_n 1, 1) := by decide +kernel
theorem dX3_append_18 : decode cX3_append 18 = .ok (.iastore, 1) := by decide +kernel
theorem dX3_append_19 : decode cX3_append 19 = .ok (.aload_n 0, 1) := by decide +kernel
theorem dX3_append_20 : decode cX3_append 20 = .ok (.dup, 1) := by decide +kernel
theorem dX3_append_21 : decode cX3_append 21 = .ok (.getfield 15, 3) := by decide +kernel
theorem dX3_append_24 : decode cX3_append 24 = .ok (.iconst 1, 1) := by decide +kernel
theorem dX3_append_25 : decode cX3_append 25 = .ok (.iadd, 1) := by decide +kernel
theorem dX3_append_26 : decode cX3_append 26 = .ok (.putfield 15, 3) := by decide +kernel
theorem dX3_append_29 : decode cX3_append 29 = .ok (.return_, 1) := by decide +kernel
theorem dX3_setUp_0 : decode cX3_setUp 0 = .ok (.iload_n 3, 1) := by decide +kernel
theorem dX3_setUp_1 : decode cX3_setUp 1 = .ok (.iconst 0, 1) := by decide +kernel
theorem dX3_setUp_2 : decode cX3_setUp 2 = .ok (.invokestatic 78, 3) := by decide +kernel
theorem dX3_setUp_5 : decode cX3_setUp 5 = .ok (.istore 5, 2) := by decide +kernel
theorem dX3_setUp_7 : decode cX3_setUp 7 = .ok (.aload_n 0, 1) := by decide +kernel
theorem dX3_setUp_8 : decode cX3_setUp 8 = .ok (.getfield 25, 3) := by decide +kernel
theorem dX3_setUp_11 : decode cX3_setUp 11 = .ok (.lload_n 1, 1) := by decide +kernel
theorem dX3_setUp_12 : decode cX3_setUp 12 = .ok (.invokevirtual 81, 3) := by decide +kernel
theorem dX3_setUp_15 : decode cX3_setUp 15 = .ok (.aload_n 0, 1) := by decide +kernel
theorem dX3_setUp_16 : decode cX3_setUp 16 = .ok (.getfield 25, 3) := by decide +kernel
theorem dX3_setUp_19 : decode cX3_setUp 19 = .ok (.iload 5, 2) := by decide +kernel
theorem dX3_setUp_21 : decode cX3_setUp 21 = .ok (.iconst 2, 1) := by decide +kernel
theorem dX3_setUp_22 : decode cX3_setUp 22 = .ok (.iadd, 1) := by decide +kernel
theorem dX3_setUp_23 : decode cX3_setUp 23 = .ok (.invokevirtual 85, 3) := by decide +kernel
theorem dX3_setUp_26 : decode cX3_setUp 26 = .ok (.aload_n 0, 1) := by decide +kernel
theorem dX3_setUp_27 : decode cX3_setUp 27 = .ok (.getfield 29, 3) := by decide +kernel
theorem dX3_setUp_30 : decode cX3_setUp 30 = .ok (.lconst 1, 1) := by decide +kernel
theorem dX3_setUp_31 : decode cX3_setUp 31 = .ok (.invokevirtual 81, 3) := by decide +kernel
theorem dX3_setUp_34 : decode cX3_setUp 34 = .ok (.aload_n 0, 1) := by decide +kernel
theorem dX3_setUp_35 : decode cX3_setUp 35 = .ok (.getfield 29, 3) := by decide +kernel
theorem dX3_setUp_38 : decode cX3_setUp 38 = .ok (.iload_n 3, 1) := by decide +kernel
theorem dX3_setUp_39 : decode cX3_setUp 39 = .ok (.ineg, 1) := by decide +kernel
theorem dX3_setUp_40 : decode cX3_setUp 40 = .ok (.iconst 0, 1) := by decide +kernel
theorem dX3_setUp_41 : decode cX3_setUp 41 = .ok (.invokestatic 78, 3) := by decide +kernel
theorem dX3_setUp_44 : decode cX3_setUp 44 = .ok (.iconst 2, 1) := by decide +kernel
theorem dX3_setUp_45 : decode cX3_setUp 45 = .ok (.iadd, 1) := by decide +kernel
theorem dX3_setUp_46 : decode cX3_setUp 46 = .ok (.invokevirtual 85, 3) := by decide +kernel
theorem dX3_setUp_49 : decode cX3_setUp 49 = .ok (.aload_n 0, 1) := by decide +kernel
theorem dX3_setUp_50 : decode cX3_setUp 50 = .ok (.getfield 32, 3) := by decide +kernel
theorem dX3_setUp_53 : decode cX3_setUp 53 = .ok (.lconst 1, 1) := by decide +kernel
theorem dX3_setUp_54 : decode cX3_setUp 54 = .ok (.invokevirtual 81, 3) := by decide +kernel
theorem dX3_setUp_57 : decode cX3_setUp 57 = .ok (.aload_n 0, 1) := by decide +kernel
theorem dX3_setUp_58 : decode cX3_setUp 58 = .ok (.getfield 32, 3) := by decide +kernel
theorem dX3_setUp_61 : decode cX3_setUp 61 = .ok (.iload 5, 2) := by decide +kernel
theorem dX3_setUp_63 : decode cX3_setUp 63 = .ok (.iconst 1, 1) := by decide +kernel
theorem dX3_setUp_64 : decode cX3_setUp 64 = .ok (.iadd, 1) := by decide +kernel
theorem dX3_setUp_65 : decode cX3_setUp 65 = .ok (.invokevirtual 85, 3) := by decide +kernel
theorem dX3_setUp_68 : decode cX3_setUp 68 = .ok (.aload_n 0, 1) := by decide +kernel
theorem dX3_setUp_69 : decode cX3_setUp 69 = .ok (.getfield 35, 3) := by decide +kernel
theorem dX3_setUp_72 : decode cX3_setUp 72 = .ok (.lconst 1, 1) := by decide +kernel
theorem dX3_setUp_73 : decode cX3_setUp 73 = .ok (.invokevirtual 81, 3) := by decide +kernel
theorem dX3_setUp_76 : decode cX3_setUp 76 = .ok (.aload_n 0, 1) := by decide +kernel
theorem dX3_setUp_77 : decode cX3_setUp 77 = .ok (.getfield 35, 3) := by decide +kernel
theorem dX3_setUp_80 : decode cX3_setUp 80 = .ok (.iload 4, 2) := by decide +kernel
theorem dX3_setUp_82 : decode cX3_setUp 82 = .ok (.ifCond .eq 8, 3) := by decide +kernel
theorem dX3_setUp_85 : decode cX3_setUp 85 = .ok (.iload 5, 2) := by decide +kernel
theorem dX3_setUp_87 : decode cX3_setUp 87 = .ok (.goto 7, 3) := by decide +kernel
theorem dX3_setUp_90 : decode cX3_setUp 90 = .ok (.iload 5, 2) := by decide +kernel
theorem dX3_setUp_92 : decode cX3_setUp 92 = .ok (.iconst 1, 1) := by decide +kernel
theorem dX3_setUp_93 : decode cX3_setUp 93 = .ok (.iadd, 1) := by decide +kernel
theorem dX3_setUp_94 : decode cX3_setUp 94 = .ok (.invokevirtual 85, 3) := by decide +kernel
theorem dX3_setUp_97 : decode cX3_setUp 97 = .ok (.return_, 1) := by decide +kernel
theorem dX3_scaleByFives_0 : decode cX3_scaleByFives 0 = .ok (.aload_n 0, 1) := by decide +kernel
theorem dX3_scaleByFives_1 : decode cX3_scaleByFives 1 = .ok (.getfield 19, 3) := by decide +kernel
theorem dX3_scaleByFives_4 : decode cX3_scaleByFives 4 = .ok (.ifCond .lt 17, 3) := by decide +kernel
theorem dX3_scaleByFives_7 : decode cX3_scaleByFives 7 = .ok (.aload_n 0, 1) := by decide +kernel
theorem dX3_scaleByFives_8 : decode cX3_scaleByFives 8 = .ok (.getfield 29, 3) := by decide +kernel
theorem dX3_scaleByFives_11 : decode cX3_scaleByFives 11 = .ok (.aload_n 0, 1) := by decide +kernel
theorem dX3_scaleByFives_12 : decode cX3_scaleByFives 12 = .ok (.getfield 19, 3) := by decide +kernel
theorem dX3_scaleByFives_15 : decode cX3_scaleByFives 15 = .ok (.invokevirtual 88, 3) := by decide +kernel
theorem dX3_scaleByFives_18 : decode cX3_scaleByFives 18 = .ok (.goto 39, 3) := by decide +kernel
theorem dX3_scaleByFives_21 : decode cX3_scaleByFives 21 = .ok (.aload_n 0, 1) := by decide +kernel
theorem dX3_scaleByFives_22 : decode cX3_scaleByFives 22 = .ok (.getfield 25, 3) := by decide +kernel
theorem dX3_scaleByFives_25 : decode cX3_scaleByFives 25 = .ok (.aload_n 0, 1) := by decide +kernel
theorem dX3_scaleByFives_26 : decode cX3_scaleByFives 26 = .ok (.getfield 19, 3) := by decide +kernel
theorem dX3_scaleByFives_29 : decode cX3_scaleByFives 29 = .ok (.ineg, 1) := by decide +kernel
theorem dX3_scaleByFives_30 : decode cX3_scaleByFives 30 = .ok (.invokevirtual 88, 3) := by decide +kernel
theorem dX3_scaleByFives_33 : decode cX3_scaleByFives 33 = .ok (.aload_n 0, 1) := by decide +kernel
theorem dX3_scaleByFives_34 : decode cX3_scaleByFives 34 = .ok (.getfield 32, 3) := by decide +kernel
theorem dX3_scaleByFives_37 : decode cX3_scaleByFives 37 = .ok (.aload_n 0, 1) := by decide +kernel
theorem dX3_scaleByFives_38 : decode cX3_scaleByFives 38 = .ok (.getfield 19, 3) := by decide +kernel
theorem dX3_scaleByFives_41 : decode cX3_scaleByFives 41 = .ok (.ineg, 1) := by decide +kernel
theorem dX3_scaleByFives_42 : decode cX3_scaleByFives 42 = .ok (.invokevirtual 88, 3) := by decide +kernel
theorem dX3_scaleByFives_45 : decode cX3_scaleByFives 45 = .ok (.aload_n 0, 1) := by decide +kernel
theorem dX3_scaleByFives_46 : decode cX3_scaleByFives 46 = .ok (.getfield 35, 3) := by decide +kernel
theorem dX3_scaleByFives_49 : decode cX3_scaleByFives 49 = .ok (.aload_n 0, 1) := by decide +kernel
theorem dX3_scaleByFives_50 : decode cX3_scaleByFives 50 = .ok (.getfield 19, 3) := by decide +kernel
theorem dX3_scaleByFives_53 : decode cX3_scaleByFives 53 = .ok (.ineg, 1) := by decide +kernel
theorem dX3_scaleByFives_54 : decode cX3_scaleByFives 54 = .ok (.invokevirtual 88, 3) := by decide +kernel
theorem dX3_scaleByFives_57 : decode cX3_scaleByFives 57 = .ok (.return_, 1) := by decide +kernel
theorem dX3_reachesWhole_0 : decode cX3_reachesWhole 0 = .ok (.aload_n 0, 1) := by decide +kernel
theorem dX3_reachesWhole_1 : decode cX3_reachesWhole 1 = .ok (.getfield 38, 3) := by decide +kernel
theorem dX3_reachesWhole_4 : decode cX3_reachesWhole 4 = .ok (.aload_n 0, 1) := by decide +kernel
theorem dX3_reachesWhole_5 : decode cX3_reachesWhole 5 = .ok (.getfield 25, 3) := by decide +kernel
theorem dX3_reachesWhole_8 : decode cX3_reachesWhole 8 = .ok (.invokevirtual 91, 3) := by decide +kernel
theorem dX3_reachesWhole_11 : decode cX3_reachesWhole 11 = .ok (.aload_n 0, 1) := by decide +kernel
theorem dX3_reachesWhole_12 : decode cX3_reachesWhole 12 = .ok (.getfield 38, 3) := by decide +kernel
theorem dX3_reachesWhole_15 : decode cX3_reachesWhole 15 = .ok (.aload_n 0, 1) := by decide +kernel
theorem dX3_reachesWhole_16 : decode cX3_reachesWhole 16 = .ok (.getfield 32, 3) := by decide +kernel
theorem dX3_reachesWhole_19 : decode cX3_reachesWhole 19 = .ok (.invokevirtual 95, 3) := by decide +kernel
theorem dX3_reachesWhole_22 : decode cX3_reachesWhole 22 = .ok (.aload_n 0, 1) := by decide +kernel
theorem dX3_reachesWhole_23 : decode cX3_reachesWhole 23 = .ok (.getfield 38, 3) := by decide +kernel
theorem dX3_reachesWhole_26 : decode cX3_reachesWhole 26 = .ok (.aload_n 0, 1) := by decide +kernel
theorem dX3_reachesWhole_27 : decode cX3_reachesWhole 27 = .ok (.getfield 29, 3) := by decide +kernel
theorem dX3_reachesWhole_30 : decode cX3_reachesWhole 30 = .ok (.invokevirtual 98, 3) := by decide +kernel
theorem dX3_reachesWhole_33 : decode cX3_reachesWhole 33 = .ok (.istore_n 2, 1) := by decide +kernel
theorem dX3_reachesWhole_34 : decode cX3_reachesWhole 34 = .ok (.iload_n 1, 1) := by decide +kernel
theorem dX3_reachesWhole_35 : decode cX3_reachesWhole 35 = .ok (.ifCond .eq 15, 3) := by decide +kernel
theorem dX3_reachesWhole_38 : decode cX3_reachesWhole 38 = .ok (.iload_n 2, 1) := by decide +kernel
theorem dX3_reachesWhole_39 : decode cX3_reachesWhole 39 = .ok (.ifCond .lt 7, 3) := by decide +kernel
theorem dX3_reachesWhole_42 : decode cX3_reachesWhole 42 = .ok (.iconst 1, 1) := by decide +kernel
theorem dX3_reachesWhole_43 : decode cX3_reachesWhole 43 = .ok (.goto 16, 3) := by decide +kernel
theorem dX3_reachesWhole_46 : decode cX3_reachesWhole 46 = .ok (.iconst 0, 1) := by decide +kernel
theorem dX3_reachesWhole_47 : decode cX3_reachesWhole 47 = .ok (.goto 12, 3) := by decide +kernel
theorem dX3_reachesWhole_50 : decode cX3_reachesWhole 50 = .ok (.iload_n 2, 1) := by decide +kernel
theorem dX3_reachesWhole_51 : decode cX3_reachesWhole 51 = .ok (.ifCond .le 7, 3) := by decide +kernel
theorem dX3_reachesWhole_54 : decode cX3_reachesWhole 54 = .ok (.iconst 1, 1) := by decide +kernel
theorem dX3_reachesWhole_55 : decode cX3_reachesWhole 55 = .ok (.goto 4, 3) := by decide +kernel
theorem dX3_reachesWhole_58 : decode cX3_reachesWhole 58 = .ok (.iconst 0, 1) := by decide +kernel
theorem dX3_reachesWhole_59 : decode cX3_reachesWhole 59 = .ok (.ireturn, 1) := by decide +kernel
theorem dX3_takeDigit_0 : decode cX3_takeDigit 0 = .ok (.aload_n 0, 1) := by decide +kernel
theorem dX3_takeDigit_1 : decode cX3_takeDigit 1 = .ok (.getfield 25, 3) := by decide +kernel
theorem dX3_takeDigit_4 : decode cX3_takeDigit 4 = .ok (.bipush 10, 2) := by decide +kernel
theorem dX3_takeDigit_6 : decode cX3_takeDigit 6 = .ok (.iconst 0, 1) := by decide +kernel
theorem dX3_takeDigit_7 : decode cX3_takeDigit 7 = .ok (.invokevirtual 71, 3) := by decide +kernel
theorem dX3_takeDigit_10 : decode cX3_takeDigit 10 = .ok (.aload_n 0, 1) := by decide +kernel
theorem dX3_takeDigit_11 : decode cX3_takeDigit 11 = .ok (.getfield 32, 3) := by decide +kernel
theorem dX3_takeDigit_14 : decode cX3_takeDigit 14 = .ok (.bipush 10, 2) := by decide +kernel
theorem dX3_takeDigit_16 : decode cX3_takeDigit 16 = .ok (.iconst 0, 1) := by decide +kernel
theorem dX3_takeDigit_17 : decode cX3_takeDigit 17 = .ok (.invokevirtual 71, 3) := by decide +kernel
theorem dX3_takeDigit_20 : decode cX3_takeDigit 20 = .ok (.aload_n 0, 1) := by decide +kernel
theorem dX3_takeDigit_21 : decode cX3_takeDigit 21 = .ok (.getfield 35, 3) := by decide +kernel
theorem dX3_takeDigit_24 : decode cX3_takeDigit 24 = .ok (.bipush 10, 2) := by decide +kernel
theorem dX3_takeDigit_26 : decode cX3_takeDigit 26 = .ok (.iconst 0, 1) := by decide +kernel
theorem dX3_takeDigit_27 : decode cX3_takeDigit 27 = .ok (.invokevirtual 71, 3) := by decide +kernel
theorem dX3_takeDigit_30 : decode cX3_takeDigit 30 = .ok (.iconst 0, 1) := by decide +kernel
theorem dX3_takeDigit_31 : decode cX3_takeDigit 31 = .ok (.istore_n 2, 1) := by decide +kernel
theorem dX3_takeDigit_32 : decode cX3_takeDigit 32 = .ok (.iload_n 2, 1) := by decide +kernel
theorem dX3_takeDigit_33 : decode cX3_takeDigit 33 = .ok (.bipush 9, 2) := by decide +kernel
theorem dX3_takeDigit_35 : decode cX3_takeDigit 35 = .ok (.if_icmp .ge 34, 3) := by decide +kernel
theorem dX3_takeDigit_38 : decode cX3_takeDigit 38 = .ok (.aload_n 0, 1) := by decide +kernel
theorem dX3_takeDigit_39 : decode cX3_takeDigit 39 = .ok (.getfield 25, 3) := by decide +kernel
theorem dX3_takeDigit_42 : decode cX3_takeDigit 42 = .ok (.aload_n 0, 1) := by decide +kernel
theorem dX3_takeDigit_43 : decode cX3_takeDigit 43 = .ok (.getfield 29, 3) := by decide +kernel
theorem dX3_takeDigit_46 : decode cX3_takeDigit 46 = .ok (.invokevirtual 98, 3) := by decide +kernel
theorem dX3_takeDigit_49 : decode cX3_takeDigit 49 = .ok (.ifCond .lt 20, 3) := by decide +kernel
theorem dX3_takeDigit_52 : decode cX3_takeDigit 52 = .ok (.aload_n 0, 1) := by decide +kernel
theorem dX3_takeDigit_53 : decode cX3_takeDigit 53 = .ok (.getfield 25, 3) := by decide +kernel
theorem dX3_takeDigit_56 : decode cX3_takeDigit 56 = .ok (.aload_n 0, 1) := by decide +kernel
theorem dX3_takeDigit_57 : decode cX3_takeDigit 57 = .ok (.getfield 29, 3) := by decide +kernel
theorem dX3_takeDigit_60 : decode cX3_takeDigit 60 = .ok (.invokevirtual 102, 3) := by decide +kernel
theorem dX3_takeDigit_63 : decode cX3_takeDigit 63 = .ok (.iinc 2 1, 3) := by decide +kernel
theorem dX3_takeDigit_66 : decode cX3_takeDigit 66 = .ok (.goto (-34), 3) := by decide +kernel
theorem dX3_takeDigit_69 : decode cX3_takeDigit 69 = .ok (.aload_n 0, 1) := by decide +kernel
theorem dX3_takeDigit_70 : decode cX3_takeDigit 70 = .ok (.getfield 25, 3) := by decide +kernel
theorem dX3_takeDigit_73 : decode cX3_takeDigit 73 = .ok (.aload_n 0, 1) := by decide +kernel
theorem dX3_takeDigit_74 : decode cX3_takeDigit 74 = .ok (.getfield 35, 3) := by decide +kernel
theorem dX3_takeDigit_77 : decode cX3_takeDigit 77 = .ok (.invokevirtual 98, 3) := by decide +kernel
theorem dX3_takeDigit_80 : decode cX3_takeDigit 80 = .ok (.istore_n 3, 1) := by decide +kernel
theorem dX3_takeDigit_81 : decode cX3_takeDigit 81 = .ok (.iload_n 1, 1) := by decide +kernel
theorem dX3_takeDigit_82 : decode cX3_takeDigit 82 = .ok (.ifCond .eq 15, 3) := by decide +kernel
theorem dX3_takeDigit_85 : decode cX3_takeDigit 85 = .ok (.iload_n 3, 1) := by decide +kernel
theorem dX3_takeDigit_86 : decode cX3_takeDigit 86 = .ok (.ifCond .gt 7, 3) := by decide +kernel
theorem dX3_takeDigit_89 : decode cX3_takeDigit 89 = .ok (.iconst 1, 1) := by decide +kernel
theorem dX3_takeDigit_90 : decode cX3_takeDigit 90 = .ok (.goto 16, 3) := by decide +kernel
theorem dX3_takeDigit_93 : decode cX3_takeDigit 93 = .ok (.iconst 0, 1) := by decide +kernel
theorem dX3_takeDigit_94 : decode cX3_takeDigit 94 = .ok (.goto 12, 3) := by decide +kernel
theorem dX3_takeDigit_97 : decode cX3_takeDigit 97 = .ok (.iload_n 3, 1) := by decide +kernel
theorem dX3_takeDigit_98 : decode cX3_takeDigit 98 = .ok (.ifCond .ge 7, 3) := by decide +kernel
theorem dX3_takeDigit_101 : decode cX3_takeDigit 101 = .ok (.iconst 1, 1) := by decide +kernel
theorem dX3_takeDigit_102 : decode cX3_takeDigit 102 = .ok (.goto 4, 3) := by decide +kernel
theorem dX3_takeDigit_105 : decode cX3_takeDigit 105 = .ok (.iconst 0, 1) := by decide +kernel
theorem dX3_takeDigit_106 : decode cX3_takeDigit 106 = .ok (.istore 4, 2) := by decide +kernel
theorem dX3_takeDigit_108 : decode cX3_takeDigit 108 = .ok (.aload_n 0, 1) := by decide +kernel
theorem dX3_takeDigit_109 : decode cX3_takeDigit 109 = .ok (.iload_n 1, 1) := by decide +kernel
theorem dX3_takeDigit_110 : decode cX3_takeDigit 110 = .ok (.invokevirtual 67, 3) := by decide +kernel
theorem dX3_takeDigit_113 : decode cX3_takeDigit 113 = .ok (.istore 5, 2) := by decide +kernel
theorem dX3_takeDigit_115 : decode cX3_takeDigit 115 = .ok (.iload 5, 2) := by decide +kernel
theorem dX3_takeDigit_117 : decode cX3_takeDigit 117 = .ok (.ifCond .eq 20, 3) := by decide +kernel
theorem dX3_takeDigit_120 : decode cX3_takeDigit 120 = .ok (.iload 4, 2) := by decide +kernel
theorem dX3_takeDigit_122 : decode cX3_takeDigit 122 = .ok (.ifCond .eq 11, 3) := by decide +kernel
theorem dX3_takeDigit_125 : decode cX3_takeDigit 125 = .ok (.aload_n 0, 1) := by decide +kernel
theorem dX3_takeDigit_126 : decode cX3_takeDigit 126 = .ok (.iload_n 2, 1) := by decide +kernel
theorem dX3_takeDigit_127 : decode cX3_takeDigit 127 = .ok (.invokevirtual 105, 3) := by decide +kernel
theorem dX3_takeDigit_130 : decode cX3_takeDigit 130 = .ok (.ifCond .eq 7, 3) := by decide +kernel
theorem dX3_takeDigit_133 : decode cX3_takeDigit 133 = .ok (.iconst 1, 1) := by decide +kernel
theorem dX3_takeDigit_134 : decode cX3_takeDigit 134 = .ok (.goto 4, 3) := by decide +kernel
theorem dX3_takeDigit_137 : decode cX3_takeDigit 137 = .ok (.iconst 0, 1) := by decide +kernel
theorem dX3_takeDigit_138 : decode cX3_takeDigit 138 = .ok (.istore 6, 2) := by decide +kernel
theorem dX3_takeDigit_140 : decode cX3_takeDigit 140 = .ok (.aload_n 0, 1) := by decide +kernel
theorem dX3_takeDigit_141 : decode cX3_takeDigit 141 = .ok (.iload 6, 2) := by decide +kernel
theorem dX3_takeDigit_143 : decode cX3_takeDigit 143 = .ok (.ifCond .eq 9, 3) := by decide +kernel
theorem dX3_takeDigit_146 : decode cX3_takeDigit 146 = .ok (.iload_n 2, 1) := by decide +kernel
theorem dX3_takeDigit_147 : decode cX3_takeDigit 147 = .ok (.iconst 1, 1) := by decide +kernel
theorem dX3_takeDigit_148 : decode cX3_takeDigit 148 = .ok (.iadd, 1) := by decide +kernel
theorem dX3_takeDigit_149 : decode cX3_takeDigit 149 = .ok (.goto 4, 3) := by decide +kernel
theorem dX3_takeDigit_152 : decode cX3_takeDigit 152 = .ok (.iload_n 2, 1) := by decide +kernel
theorem dX3_takeDigit_153 : decode cX3_takeDigit 153 = .ok (.invokevirtual 41, 3) := by decide +kernel
theorem dX3_takeDigit_156 : decode cX3_takeDigit 156 = .ok (.iload 4, 2) := by decide +kernel
theorem dX3_takeDigit_158 : decode cX3_takeDigit 158 = .ok (.ifCond .ne 8, 3) := by decide +kernel
theorem dX3_takeDigit_161 : decode cX3_takeDigit 161 = .ok (.iload 5, 2) := by decide +kernel
theorem dX3_takeDigit_163 : decode cX3_takeDigit 163 = .ok (.ifCond .eq 7, 3) := by decide +kernel
theorem dX3_takeDigit_166 : decode cX3_takeDigit 166 = .ok (.iconst 1, 1) := by decide +kernel
theorem dX3_takeDigit_167 : decode cX3_takeDigit 167 = .ok (.goto 4, 3) := by decide +kernel
theorem dX3_takeDigit_170 : decode cX3_takeDigit 170 = .ok (.iconst 0, 1) := by decide +kernel
theorem dX3_takeDigit_171 : decode cX3_takeDigit 171 = .ok (.ireturn, 1) := by decide +kernel
theorem dX3_isNearerUp_0 : decode cX3_isNearerUp 0 = .ok (.aload_n 0, 1) := by decide +kernel
theorem dX3_isNearerUp_1 : decode cX3_isNearerUp 1 = .ok (.getfield 38, 3) := by decide +kernel
theorem dX3_isNearerUp_4 : decode cX3_isNearerUp 4 = .ok (.aload_n 0, 1) := by decide +kernel
theorem dX3_isNearerUp_5 : decode cX3_isNearerUp 5 = .ok (.getfield 25, 3) := by decide +kernel
theorem dX3_isNearerUp_8 : decode cX3_isNearerUp 8 = .ok (.invokevirtual 91, 3) := by decide +kernel
theorem dX3_isNearerUp_11 : decode cX3_isNearerUp 11 = .ok (.aload_n 0, 1) := by decide +kernel
theorem dX3_isNearerUp_12 : decode cX3_isNearerUp 12 = .ok (.getfield 38, 3) := by decide +kernel
theorem dX3_isNearerUp_15 : decode cX3_isNearerUp 15 = .ok (.iconst 1, 1) := by decide +kernel
theorem dX3_isNearerUp_16 : decode cX3_isNearerUp 16 = .ok (.invokevirtual 85, 3) := by decide +kernel
theorem dX3_isNearerUp_19 : decode cX3_isNearerUp 19 = .ok (.aload_n 0, 1) := by decide +kernel
theorem dX3_isNearerUp_20 : decode cX3_isNearerUp 20 = .ok (.getfield 38, 3) := by decide +kernel
theorem dX3_isNearerUp_23 : decode cX3_isNearerUp 23 = .ok (.aload_n 0, 1) := by decide +kernel
theorem dX3_isNearerUp_24 : decode cX3_isNearerUp 24 = .ok (.getfield 29, 3) := by decide +kernel
theorem dX3_isNearerUp_27 : decode cX3_isNearerUp 27 = .ok (.invokevirtual 98, 3) := by decide +kernel
theorem dX3_isNearerUp_30 : decode cX3_isNearerUp 30 = .ok (.istore_n 2, 1) := by decide +kernel
theorem dX3_isNearerUp_31 : decode cX3_isNearerUp 31 = .ok (.iload_n 2, 1) := by decide +kernel
theorem dX3_isNearerUp_32 : decode cX3_isNearerUp 32 = .ok (.ifCond .gt 14, 3) := by decide +kernel
theorem dX3_isNearerUp_35 : decode cX3_isNearerUp 35 = .ok (.iload_n 2, 1) := by decide +kernel
theorem dX3_isNearerUp_36 : decode cX3_isNearerUp 36 = .ok (.ifCond .ne 14, 3) := by decide +kernel
theorem dX3_isNearerUp_39 : decode cX3_isNearerUp 39 = .ok (.iload_n 1, 1) := by decide +kernel
theorem dX3_isNearerUp_40 : decode cX3_isNearerUp 40 = .ok (.iconst 1, 1) := by decide +kernel
theorem dX3_isNearerUp_41 : decode cX3_isNearerUp 41 = .ok (.iand, 1) := by decide +kernel
theorem dX3_isNearerUp_42 : decode cX3_isNearerUp 42 = .ok (.iconst 1, 1) := by decide +kernel
theorem dX3_isNearerUp_43 : decode cX3_isNearerUp 43 = .ok (.if_icmp .ne 7, 3) := by decide +kernel
theorem dX3_isNearerUp_46 : decode cX3_isNearerUp 46 = .ok (.iconst 1, 1) := by decide +kernel
theorem dX3_isNearerUp_47 : decode cX3_isNearerUp 47 = .ok (.goto 4, 3) := by decide +kernel
theorem dX3_isNearerUp_50 : decode cX3_isNearerUp 50 = .ok (.iconst 0, 1) := by decide +kernel
theorem dX3_isNearerUp_51 : decode cX3_isNearerUp 51 = .ok (.ireturn, 1) := by decide +kernel
theorem dX4_init_0 : decode cX4_init 0 = .ok (.aload_n 0, 1) := by decide +kernel
theorem dX4_init_1 : decode cX4_init 1 = .ok (.invokespecial 1, 3) := by decide +kernel
theorem dX4_init_4 : decode cX4_init 4 = .ok (.aload_n 0, 1) := by decide +kernel
theorem dX4_init_5 : decode cX4_init 5 = .ok (.new 7, 3) := by decide +kernel
theorem dX4_init_8 : decode cX4_init 8 = .ok (.dup, 1) := by decide +kernel
theorem dX4_init_9 : decode cX4_init 9 = .ok (.invokespecial 9, 3) := by decide +kernel
theorem dX4_init_12 : decode cX4_init 12 = .ok (.putfield 10, 3) := by decide +kernel
theorem dX4_init_15 : decode cX4_init 15 = .ok (.aload_n 0, 1) := by decide +kernel
theorem dX4_init_16 : decode cX4_init 16 = .ok (.aload_n 0, 1) := by decide +kernel
theorem dX4_init_17 : decode cX4_init 17 = .ok (.getfield 10, 3) := by decide +kernel
theorem dX4_init_20 : decode cX4_init 20 = .ok (.invokevirtual 16, 3) := by decide +kernel
theorem dX4_init_23 : decode cX4_init 23 = .ok (.putfield 20, 3) := by decide +kernel
theorem dX4_init_26 : decode cX4_init 26 = .ok (.aload_n 0, 1) := by decide +kernel
theorem dX4_init_27 : decode cX4_init 27 = .ok (.new 24, 3) := by decide +kernel
theorem dX4_init_30 : decode cX4_init 30 = .ok (.dup, 1) := by decide +kernel
theorem dX4_init_31 : decode cX4_init 31 = .ok (.invokespecial 26, 3) := by decide +kernel
theorem dX4_init_34 : decode cX4_init 34 = .ok (.putfield 27, 3) := by decide +kernel
theorem dX4_init_37 : decode cX4_init 37 = .ok (.aload_n 0, 1) := by decide +kernel
theorem dX4_init_38 : decode cX4_init 38 = .ok (.iconst 0, 1) := by decide +kernel
theorem dX4_init_39 : decode cX4_init 39 = .ok (.putfield 30, 3) := by decide +kernel
theorem dX4_init_42 : decode cX4_init 42 = .ok (.aload_n 0, 1) := by decide +kernel
theorem dX4_init_43 : decode cX4_init 43 = .ok (.iconst 0, 1) := by decide +kernel
theorem dX4_init_44 : decode cX4_init 44 = .ok (.putfield 34, 3) := by decide +kernel
theorem dX4_init_47 : decode cX4_init 47 = .ok (.aload_n 0, 1) := by decide +kernel
theorem dX4_init_48 : decode cX4_init 48 = .ok (.lconst 0, 1) := by decide +kernel
theorem dX4_init_49 : decode cX4_init 49 = .ok (.putfield 38, 3) := by decide +kernel
theorem dX4_init_52 : decode cX4_init 52 = .ok (.aload_n 0, 1) := by decide +kernel
theorem dX4_init_53 : decode cX4_init 53 = .ok (.iconst 0, 1) := by decide +kernel
theorem dX4_init_54 : decode cX4_init 54 = .ok (.putfield 42, 3) := by decide +kernel
theorem dX4_init_57 : decode cX4_init 57 = .ok (.aload_n 0, 1) := by decide +kernel
theorem dX4_init_58 : decode cX4_init 58 = .ok (.new 45, 3) := by decide +kernel
theorem dX4_init_61 : decode cX4_init 61 = .ok (.dup, 1) := by decide +kernel
theorem dX4_init_62 : decode cX4_init 62 = .ok (.invokespecial 47, 3) := by decide +kernel
theorem dX4_init_65 : decode cX4_init 65 = .ok (.putfield 48, 3) := by decide +kernel
theorem dX4_init_68 : decode cX4_init 68 = .ok (.aload_n 0, 1) := by decide +kernel
theorem dX4_init_69 : decode cX4_init 69 = .ok (.new 45, 3) := by decide +kernel
theorem dX4_init_72 : decode cX4_init 72 = .ok (.dup, 1) := by decide +kernel
theorem dX4_init_73 : decode cX4_init 73 = .ok (.invokespecial 47, 3) := by decide +kernel
theorem dX4_init_76 : decode cX4_init 76 = .ok (.putfield 52, 3) := by decide +kernel
theorem dX4_init_79 : decode cX4_init 79 = .ok (.aload_n 0, 1) := by decide +kernel
theorem dX4_init_80 : decode cX4_init 80 = .ok (.new 45, 3) := by decide +kernel
theorem dX4_init_83 : decode cX4_init 83 = .ok (.dup, 1) := by decide +kernel
theorem dX4_init_84 : decode cX4_init 84 = .ok (.invokespecial 47, 3) := by decide +kernel
theorem dX4_init_87 : decode cX4_init 87 = .ok (.putfield 55, 3) := by decide +kernel
theorem dX4_init_90 : decode cX4_init 90 = .ok (.aload_n 0, 1) := by decide +kernel
theorem dX4_init_91 : decode cX4_init 91 = .ok (.new 45, 3) := by decide +kernel
theorem dX4_init_94 : decode cX4_init 94 = .ok (.dup, 1) := by decide +kernel
theorem dX4_init_95 : decode cX4_init 95 = .ok (.invokespecial 47, 3) := by decide +kernel
theorem dX4_init_98 : decode cX4_init 98 = .ok (.putfield 58, 3) := by decide +kernel
theorem dX4_init_101 : decode cX4_init 101 = .ok (.aload_n 0, 1) := by decide +kernel
theorem dX4_init_102 : decode cX4_init 102 = .ok (.new 61, 3) := by decide +kernel
theorem dX4_init_105 : decode cX4_init 105 = .ok (.dup, 1) := by decide +kernel
theorem dX4_init_106 : decode cX4_init 106 = .ok (.invokespecial 63, 3) := by decide +kernel
theorem dX4_init_109 : decode cX4_init 109 = .ok (.putfield 64, 3) := by decide +kernel
theorem dX4_init_112 : decode cX4_init 112 = .ok (.return_, 1) := by decide +kernel
theorem dX4_type_0 : decode cX4_type 0 = .ok (.iload_n 1, 1) := by decide +kernel
theorem dX4_type_1 : decode cX4_type 1 = .ok (.ifCond .lt 22, 3) := by decide +kernel
theorem dX4_type_4 : decode cX4_type 4 = .ok (.iload_n 1, 1) := by decide +kernel
theorem dX4_type_5 : decode cX4_type 5 = .ok (.bipush 127, 2) := by decide +kernel
theorem dX4_type_7 : decode cX4_type 7 = .ok (.if_icmp .gt 16, 3) := by decide +kernel
theorem dX4_type_10 : decode cX4_type 10 = .ok (.aload_n 0, 1) := by decide +kernel
theorem dX4_type_11 : decode cX4_type 11 = .ok (.getfield 20, 3) := by decide +kernel
theorem dX4_type_14 : decode cX4_type 14 = .ok (.invokevirtual 68, 3) := by decide +kernel
theorem dX4_type_17 : decode cX4_type 17 = .ok (.sipush 400, 3) := by decide +kernel
theorem dX4_type_20 : decode cX4_type 20 = .ok (.if_icmp .lt 5, 3) := by decide +kernel
theorem dX4_type_23 : decode cX4_type 23 = .ok (.iconst (-1), 1) := by decide +kernel
theorem dX4_type_24 : decode cX4_type 24 = .ok (.ireturn, 1) := by decide +kernel
theorem dX4_type_25 : decode cX4_type 25 = .ok (.aload_n 0, 1) := by decide +kernel
theorem dX4_type_26 : decode cX4_type 26 = .ok (.getfield 20, 3) := by decide +kernel
theorem dX4_type_29 : decode cX4_type 29 = .ok (.iload_n 1, 1) := by decide +kernel
theorem dX4_type_30 : decode cX4_type 30 = .ok (.invokevirtual 72, 3) := by decide +kernel
theorem dX4_type_33 : decode cX4_type 33 = .ok (.aload_n 0, 1) := by decide +kernel
theorem dX4_type_34 : decode cX4_type 34 = .ok (.getfield 20, 3) := by decide +kernel
theorem dX4_type_37 : decode cX4_type 37 = .ok (.invokevirtual 68, 3) := by decide +kernel
theorem dX4_type_40 : decode cX4_type 40 = .ok (.ireturn, 1) := by decide +kernel
theorem dX4_clear_0 : decode cX4_clear 0 = .ok (.aload_n 0, 1) := by decide +kernel
theorem dX4_clear_1 : decode cX4_clear 1 = .ok (.getfield 20, 3) := by decide +kernel
theorem dX4_clear_4 : decode cX4_clear 4 = .ok (.invokevirtual 76, 3) := by decide +kernel
theorem dX4_clear_7 : decode cX4_clear 7 = .ok (.return_, 1) := by decide +kernel
theorem dX4_read_0 : decode cX4_read 0 = .ok (.aload_n 0, 1) := by decide +kernel
theorem dX4_read_1 : decode cX4_read 1 = .ok (.invokevirtual 79, 3) := by decide +kernel
theorem dX4_read_4 : decode cX4_read 4 = .ok (.aload_n 0, 1) := by decide +kernel
theorem dX4_read_5 : decode cX4_read 5 = .ok (.getfield 10, 3) := by decide +kernel
theorem dX4_read_8 : decode cX4_read 8 = .ok (.aload_n 0, 1) := by decide +kernel
theorem dX4_read_9 : decode cX4_read 9 = .ok (.getfield 48, 3) := by decide +kernel
theorem dX4_read_12 : decode cX4_read 12 = .ok (.aload_n 0, 1) := by decide +kernel
theorem dX4_read_13 : decode cX4_read 13 = .ok (.getfield 52, 3) := by decide +kernel
theorem dX4_read_16 : decode cX4_read 16 = .ok (.invokevirtual 82, 3) := by decide +kernel
theorem dX4_read_19 : decode cX4_read 19 = .ok (.istore_n 1, 1) := by decide +kernel
theorem dX4_read_20 : decode cX4_read 20 = .ok (.aload_n 0, 1) := by decide +kernel
theorem dX4_read_21 : decode cX4_read 21 = .ok (.getfield 10, 3) := by decide +kernel
theorem dX4_read_24 : decode cX4_read 24 = .ok (.invokevirtual 86, 3) := by decide +kernel
theorem dX4_read_27 : decode cX4_read 27 = .ok (.istore_n 2, 1) := by decide +kernel
theorem dX4_read_28 : decode cX4_read 28 = .ok (.iload_n 1, 1) := by decide +kernel
theorem dX4_read_29 : decode cX4_read 29 = .ok (.iconst 3, 1) := by decide +kernel
theorem dX4_read_30 : decode cX4_read 30 = .ok (.if_icmp .ne 11, 3) := by decide +kernel
theorem dX4_read_33 : decode cX4_read 33 = .ok (.aload_n 0, 1) := by decide +kernel
theorem dX4_read_34 : decode cX4_read 34 = .ok (.iload_n 2, 1) := by decide +kernel
theorem dX4_read_35 : decode cX4_read 35 = .ok (.invokevirtual 90, 3) := by decide +kernel
theorem dX4_read_38 : decode cX4_read 38 = .ok (.goto 110, 3) := by decide +kernel
theorem dX4_read_41 : decode cX4_read 41 = .ok (.iload_n 1, 1) := by decide +kernel
theorem dX4_read_42 : decode cX4_read 42 = .ok (.iconst 4, 1) := by decide +kernel
theorem dX4_read_43 : decode cX4_read 43 = .ok (.if_icmp .ne 10, 3) := by decide +kernel
theorem dX4_read_46 : decode cX4_read 46 = .ok (.aload_n 0, 1) := by decide +kernel
theorem dX4_read_47 : decode cX4_read 47 = .ok (.invokevirtual 94, 3) := by decide +kernel
theorem dX4_read_50 : decode cX4_read 50 = .ok (.goto 98, 3) := by decide +kernel
theorem dX4_read_53 : decode cX4_read 53 = .ok (.iload_n 1, 1) := by decide +kernel
theorem dX4_read_54 : decode cX4_read 54 = .ok (.iconst 1, 1) := by decide +kernel
theorem dX4_read_55 : decode cX4_read 55 = .ok (.if_icmp .ne 22, 3) := by decide +kernel
theorem dX4_read_58 : decode cX4_read 58 = .ok (.aload_n 0, 1) := by decide +kernel
theorem dX4_read_59 : decode cX4_read 59 = .ok (.getfield 10, 3) := by decide +kernel
theorem dX4_read_62 : decode cX4_read 62 = .ok (.invokevirtual 97, 3) := by decide +kernel
theorem dX4_read_65 : decode cX4_read 65 = .ok (.ifCond .eq 12, 3) := by decide +kernel
theorem dX4_read_68 : decode cX4_read 68 = .ok (.aload_n 0, 1) := by decide +kernel
theorem dX4_read_69 : decode cX4_read 69 = .ok (.iload_n 2, 1) := by decide +kernel
theorem dX4_read_70 : decode cX4_read 70 = .ok (.iconst 0, 1) := by decide +kernel
theorem dX4_read_71 : decode cX4_read 71 = .ok (.invokevirtual 100, 3) := by decide +kernel
theorem dX4_read_74 : decode cX4_read 74 = .ok (.goto 74, 3) := by decide +kernel
theorem dX4_read_77 : decode cX4_read 77 = .ok (.iload_n 1, 1) := by decide +kernel
theorem dX4_read_78 : decode cX4_read 78 = .ok (.iconst 1, 1) := by decide +kernel
theorem dX4_read_79 : decode cX4_read 79 = .ok (.if_icmp .ne 15, 3) := by decide +kernel
theorem dX4_read_82 : decode cX4_read 82 = .ok (.aload_n 0, 1) := by decide +kernel
theorem dX4_read_83 : decode cX4_read 83 = .ok (.invokevirtual 104, 3) := by decide +kernel
theorem dX4_read_86 : decode cX4_read 86 = .ok (.aload_n 0, 1) := by decide +kernel
theorem dX4_read_87 : decode cX4_read 87 = .ok (.iload_n 2, 1) := by decide +kernel
theorem dX4_read_88 : decode cX4_read 88 = .ok (.invokevirtual 107, 3) := by decide +kernel
theorem dX4_read_91 : decode cX4_read 91 = .ok (.goto 57, 3) := by decide +kernel
theorem dX4_read_94 : decode cX4_read 94 = .ok (.iload_n 1, 1) := by decide +kernel
theorem dX4_read_95 : decode cX4_read 95 = .ok (.iconst 2, 1) := by decide +kernel
theorem dX4_read_96 : decode cX4_read 96 = .ok (.if_icmp .ne 28, 3) := by decide +kernel
theorem dX4_read_99 : decode cX4_read 99 = .ok (.aload_n 0, 1) := by decide +kernel
theorem dX4_read_100 : decode cX4_read 100 = .ok (.getfield 10, 3) := by decide +kernel
theorem dX4_read_103 : decode cX4_read 103 = .ok (.invokevirtual 110, 3) := by decide +kernel
theorem dX4_read_106 : decode cX4_read 106 = .ok (.ifCond .eq 18, 3) := by decide +kernel
theorem dX4_read_109 : decode cX4_read 109 = .ok (.aload_n 0, 1) := by decide +kernel
theorem dX4_read_110 : decode cX4_read 110 = .ok (.iload_n 2, 1) := by decide +kernel
theorem dX4_read_111 : decode cX4_read 111 = .ok (.aload_n 0, 1) := by decide +kernel
theorem dX4_read_112 : decode cX4_read 112 = .ok (.getfield 10, 3) := by decide +kernel
theorem dX4_read_115 : decode cX4_read 115 = .ok (.invokevirtual 113, 3) := by decide +kernel
theorem dX4_read_118 : decode cX4_read 118 = .ok (.invokevirtual 116, 3) := by decide +kernel
theorem dX4_read_121 : decode cX4_read 121 = .ok (.goto 27, 3) := by decide +kernel
theorem dX4_read_124 : decode cX4_read 124 = .ok (.iload_n 1, 1) := by decide +kernel
theorem dX4_read_125 : decode cX4_read 125 = .ok (.iconst 2, 1) := by decide +kernel
theorem dX4_read_126 : decode cX4_read 126 = .ok (.if_icmp .ne 22, 3) := by decide +kernel
theorem dX4_read_129 : decode cX4_read 129 = .ok (.aload_n 0, 1) := by decide +kernel
theorem dX4_read_130 : decode cX4_read 130 = .ok (.iload_n 2, 1) := by decide +kernel
theorem dX4_read_131 : decode cX4_read 131 = .ok (.aload_n 0, 1) := by decide +kernel
theorem dX4_read_132 : decode cX4_read 132 = .ok (.getfield 10, 3) := by decide +kernel
theorem dX4_read_135 : decode cX4_read 135 = .ok (.invokevirtual 113, 3) := by decide +kernel
theorem dX4_read_138 : decode cX4_read 138 = .ok (.aload_n 0, 1) := by decide +kernel
theorem dX4_read_139 : decode cX4_read 139 = .ok (.getfield 10, 3) := by decide +kernel
theorem dX4_read_142 : decode cX4_read 142 = .ok (.invokevirtual 119, 3) := by decide +kernel
theorem dX4_read_145 : decode cX4_read 145 = .ok (.invokevirtual 122, 3) := by decide +kernel
theorem dX4_read_148 : decode cX4_read 148 = .ok (.aload_n 0, 1) := by decide +kernel
theorem dX4_read_149 : decode cX4_read 149 = .ok (.getfield 30, 3) := by decide +kernel
theorem dX4_read_152 : decode cX4_read 152 = .ok (.ifCond .ne 7, 3) := by decide +kernel
theorem dX4_read_155 : decode cX4_read 155 = .ok (.iconst 0, 1) := by decide +kernel
theorem dX4_read_156 : decode cX4_read 156 = .ok (.goto 16, 3) := by decide +kernel
theorem dX4_read_159 : decode cX4_read 159 = .ok (.aload_n 0, 1) := by decide +kernel
theorem dX4_read_160 : decode cX4_read 160 = .ok (.getfield 30, 3) := by decide +kernel
theorem dX4_read_163 : decode cX4_read 163 = .ok (.iconst 1, 1) := by decide +kernel
theorem dX4_read_164 : decode cX4_read 164 = .ok (.if_icmp .ne 7, 3) := by decide +kernel
theorem dX4_read_167 : decode cX4_read 167 = .ok (.iconst 1, 1) := by decide +kernel
theorem dX4_read_168 : decode cX4_read 168 = .ok (.goto 4, 3) := by decide +kernel
theorem dX4_read_171 : decode cX4_read 171 = .ok (.iconst 2, 1) := by decide +kernel
theorem dX4_read_172 : decode cX4_read 172 = .ok (.ireturn, 1) := by decide +kernel
theorem dX4_make_0 : decode cX4_make 0 = .ok (.lload_n 2, 1) := by decide +kernel
theorem dX4_make_1 : decode cX4_make 1 = .ok (.lconst 0, 1) := by decide +kernel
theorem dX4_make_2 : decode cX4_make 2 = .ok (.lcmp, 1) := by decide +kernel
theorem dX4_make_3 : decode cX4_make 3 = .ok (.ifCond .lt 19, 3) := by decide +kernel
theorem dX4_make_6 : decode cX4_make 6 = .ok (.iload 4, 2) := by decide +kernel
theorem dX4_make_8 : decode cX4_make 8 = .ok (.sipush (-2000), 3) := by decide +kernel
theorem dX4_make_11 : decode cX4_make 11 = .ok (.if_icmp .lt 11, 3) := by decide +kernel
theorem dX4_make_14 : decode cX4_make 14 = .ok (.iload 4, 2) := by decide +kernel
theorem dX4_make_16 : decode cX4_make 16 = .ok (.sipush 2000, 3) := by decide +kernel
theorem dX4_make_19 : decode cX4_make 19 = .ok (.if_icmp .le 5, 3) := by decide +kernel
theorem dX4_make_22 : decode cX4_make 22 = .ok (.iconst 0, 1) := by decide +kernel
theorem dX4_make_23 : decode cX4_make 23 = .ok (.ireturn, 1) := by decide +kernel
theorem dX4_make_24 : decode cX4_make 24 = .ok (.aload_n 0, 1) := by decide +kernel
theorem dX4_make_25 : decode cX4_make 25 = .ok (.getfield 48, 3) := by decide +kernel
theorem dX4_make_28 : decode cX4_make 28 = .ok (.lload_n 2, 1) := by decide +kernel
theorem dX4_make_29 : decode cX4_make 29 = .ok (.invokevirtual 126, 3) := by decide +kernel
theorem dX4_make_32 : decode cX4_make 32 = .ok (.aload_n 0, 1) := by decide +kernel
theorem dX4_make_33 : decode cX4_make 33 = .ok (.getfield 52, 3) := by decide +kernel
theorem dX4_make_36 : decode cX4_make 36 = .ok (.lconst 1, 1) := by decide +kernel
theorem dX4_make_37 : decode cX4_make 37 = .ok (.invokevirtual 126, 3) := by decide +kernel
theorem dX4_make_40 : decode cX4_make 40 = .ok (.aload_n 0, 1) := by decide +kernel
theorem dX4_make_41 : decode cX4_make 41 = .ok (.iload_n 1, 1) := by decide +kernel
theorem dX4_make_42 : decode cX4_make 42 = .ok (.iload 4, 2) := by decide +kernel
theorem dX4_make_44 : decode cX4_make 44 = .ok (.invokevirtual 100, 3) := by decide +kernel
theorem dX4_make_47 : decode cX4_make 47 = .ok (.iconst 1, 1) := by decide +kernel
theorem dX4_make_48 : decode cX4_make 48 = .ok (.ireturn, 1) := by decide +kernel
theorem dX4_divide_0 : decode cX4_divide 0 = .ok (.lload_n 3, 1) := by decide +kernel
theorem dX4_divide_1 : decode cX4_divide 1 = .ok (.lconst 0, 1) := by decide +kernel
theorem dX4_divide_2 : decode cX4_divide 2 = .ok (.lcmp, 1) := by decide +kernel
theorem dX4_divide_3 : decode cX4_divide 3 = .ok (.ifCond .gt 5, 3) := by decide +kernel
theorem dX4_divide_6 : decode cX4_divide 6 = .ok (.iconst 0, 1) := by decide +kernel
theorem dX4_divide_7 : decode cX4_divide 7 = .ok (.ireturn, 1) := by decide +kernel
theorem dX4_divide_8 : decode cX4_divide 8 = .ok (.aload_n 0, 1) := by decide +kernel
theorem dX4_divide_9 : decode cX4_divide 9 = .ok (.getfield 48, 3) := by decide +kernel
theorem dX4_divide_12 : decode cX4_divide 12 = .ok (.lload_n 1, 1) := by decide +kernel
theorem dX4_divide_13 : decode cX4_divide 13 = .ok (.lconst 0, 1) := by decide +kernel
theorem dX4_divide_14 : decode cX4_divide 14 = .ok (.lcmp, 1) := by decide +kernel
theorem dX4_divide_15 : decode cX4_divide 15 = .ok (.ifCond .ge 8, 3) := by decide +kernel
theorem dX4_divide_18 : decode cX4_divide 18 = .ok (.lload_n 1, 1) := by decide +kernel
theorem dX4_divide_19 : decode cX4_divide 19 = .ok (.lneg, 1) := by decide +kernel
theorem dX4_divide_20 : decode cX4_divide 20 = .ok (.goto 4, 3) := by decide +kernel
theorem dX4_divide_23 : decode cX4_divide 23 = .ok (.lload_n 1, 1) := by decide +kernel
theorem dX4_divide_24 : decode cX4_divide 24 = .ok (.invokevirtual 126, 3) := by decide +kernel
theorem dX4_divide_27 : decode cX4_divide 27 = .ok (.aload_n 0, 1) := by decide +kernel
theorem dX4_divide_28 : decode cX4_divide 28 = .ok (.getfield 52, 3) := by decide +kernel
theorem dX4_divide_31 : decode cX4_divide 31 = .ok (.lload_n 3, 1) := by decide +kernel
theorem dX4_divide_32 : decode cX4_divide 32 = .ok (.invokevirtual 126, 3) := by decide +kernel
theorem dX4_divide_35 : decode cX4_divide 35 = .ok (.aload_n 0, 1) := by decide +kernel
theorem dX4_divide_36 : decode cX4_divide 36 = .ok (.lload_n 1, 1) := by decide +kernel
theorem dX4_divide_37 : decode cX4_divide 37 = .ok (.lconst 0, 1) := by decide +kernel
theorem dX4_divide_38 : decode cX4_divide 38 = .ok (.lcmp, 1) := by decide +kernel
theorem dX4_divide_39 : decode cX4_divide 39 = .ok (.ifCond .ge 7, 3) := by decide +kernel
theorem dX4_divide_42 : decode cX4_divide 42 = .ok (.iconst 1, 1) := by decide +kernel
theorem dX4_divide_43 : decode cX4_divide 43 = .ok (.goto 4, 3) := by decide +kernel
theorem dX4_divide_46 : decode cX4_divide 46 = .ok (.iconst 0, 1) := by decide +kernel
theorem dX4_divide_47 : decode cX4_divide 47 = .ok (.iconst 0, 1) := by decide +kernel
theorem dX4_divide_48 : decode cX4_divide 48 = .ok (.invokevirtual 100, 3) := by decide +kernel
theorem dX4_divide_51 : decode cX4_divide 51 = .ok (.iconst 1, 1) := by decide +kernel
theorem dX4_divide_52 : decode cX4_divide 52 = .ok (.ireturn, 1) := by decide +kernel
theorem dX4_exact_0 : decode cX4_exact 0 = .ok (.aload_n 0, 1) := by decide +kernel
theorem dX4_exact_1 : decode cX4_exact 1 = .ok (.getfield 30, 3) := by decide +kernel
theorem dX4_exact_4 : decode cX4_exact 4 = .ok (.iconst 2, 1) := by decide +kernel
theorem dX4_exact_5 : decode cX4_exact 5 = .ok (.if_icmp .eq 5, 3) := by decide +kernel
theorem dX4_exact_8 : decode cX4_exact 8 = .ok (.iconst 0, 1) := by decide +kernel
theorem dX4_exact_9 : decode cX4_exact 9 = .ok (.ireturn, 1) := by decide +kernel
theorem dX4_exact_10 : decode cX4_exact 10 = .ok (.aload_n 0, 1) := by decide +kernel
theorem dX4_exact_11 : decode cX4_exact 11 = .ok (.getfield 48, 3) := by decide +kernel
theorem dX4_exact_14 : decode cX4_exact 14 = .ok (.aload_n 0, 1) := by decide +kernel
theorem dX4_exact_15 : decode cX4_exact 15 = .ok (.getfield 38, 3) := by decide +kernel
theorem dX4_exact_18 : decode cX4_exact 18 = .ok (.invokevirtual 126, 3) := by decide +kernel
theorem dX4_exact_21 : decode cX4_exact 21 = .ok (.aload_n 0, 1) := by decide +kernel
theorem dX4_exact_22 : decode cX4_exact 22 = .ok (.getfield 52, 3) := by decide +kernel
theorem dX4_exact_25 : decode cX4_exact 25 = .ok (.lconst 1, 1) := by decide +kernel
theorem dX4_exact_26 : decode cX4_exact 26 = .ok (.invokevirtual 126, 3) := by decide +kernel
theorem dX4_exact_29 : decode cX4_exact 29 = .ok (.aload_n 0, 1) := by decide +kernel
theorem dX4_exact_30 : decode cX4_exact 30 = .ok (.getfield 42, 3) := by decide +kernel
theorem dX4_exact_33 : decode cX4_exact 33 = .ok (.ifCond .lt 17, 3) := by decide +kernel
theorem dX4_exact_36 : decode cX4_exact 36 = .ok (.aload_n 0, 1) := by decide +kernel
theorem dX4_exact_37 : decode cX4_exact 37 = .ok (.getfield 48, 3) := by decide +kernel
theorem dX4_exact_40 : decode cX4_exact 40 = .ok (.aload_n 0, 1) := by decide +kernel
theorem dX4_exact_41 : decode cX4_exact 41 = .ok (.getfield 42, 3) := by decide +kernel
theorem dX4_exact_44 : decode cX4_exact 44 = .ok (.invokevirtual 130, 3) := by decide +kernel
theorem dX4_exact_47 : decode cX4_exact 47 = .ok (.goto 50, 3) := by decide +kernel
theorem dX4_exact_50 : decode cX4_exact 50 = .ok (.aload_n 0, 1) := by decide +kernel
theorem dX4_exact_51 : decode cX4_exact 51 = .ok (.getfield 38, 3) := by decide +kernel
theorem dX4_exact_54 : decode cX4_exact 54 = .ok (.lconst 0, 1) := by decide +kernel
theorem dX4_exact_55 : decode cX4_exact 55 = .ok (.lcmp, 1) := by decide +kernel
theorem dX4_exact_56 : decode cX4_exact 56 = .ok (.ifCond .eq 41, 3) := by decide +kernel
theorem dX4_exact_59 : decode cX4_exact 59 = .ok (.aload_n 0, 1) := by decide +kernel
theorem dX4_exact_60 : decode cX4_exact 60 = .ok (.getfield 38, 3) := by decide +kernel
theorem dX4_exact_63 : decode cX4_exact 63 = .ok (.invokestatic 133, 3) := by decide +kernel
theorem dX4_exact_66 : decode cX4_exact 66 = .ok (.aload_n 0, 1) := by decide +kernel
theorem dX4_exact_67 : decode cX4_exact 67 = .ok (.getfield 42, 3) := by decide +kernel
theorem dX4_exact_70 : decode cX4_exact 70 = .ok (.ineg, 1) := by decide +kernel
theorem dX4_exact_71 : decode cX4_exact 71 = .ok (.invokestatic 139, 3) := by decide +kernel
theorem dX4_exact_74 : decode cX4_exact 74 = .ok (.istore_n 1, 1) := by decide +kernel
theorem dX4_exact_75 : decode cX4_exact 75 = .ok (.aload_n 0, 1) := by decide +kernel
theorem dX4_exact_76 : decode cX4_exact 76 = .ok (.getfield 48, 3) := by decide +kernel
theorem dX4_exact_79 : decode cX4_exact 79 = .ok (.iload_n 1, 1) := by decide +kernel
theorem dX4_exact_80 : decode cX4_exact 80 = .ok (.invokevirtual 145, 3) := by decide +kernel
theorem dX4_exact_83 : decode cX4_exact 83 = .ok (.aload_n 0, 1) := by decide +kernel
theorem dX4_exact_84 : decode cX4_exact 84 = .ok (.getfield 52, 3) := by decide +kernel
theorem dX4_exact_87 : decode cX4_exact 87 = .ok (.aload_n 0, 1) := by decide +kernel
theorem dX4_exact_88 : decode cX4_exact 88 = .ok (.getfield 42, 3) := by decide +kernel
theorem dX4_exact_91 : decode cX4_exact 91 = .ok (.ineg, 1) := by decide +kernel
theorem dX4_exact_92 : decode cX4_exact 92 = .ok (.iload_n 1, 1) := by decide +kernel
theorem dX4_exact_93 : decode cX4_exact 93 = .ok (.isub, 1) := by decide +kernel
theorem dX4_exact_94 : decode cX4_exact 94 = .ok (.invokevirtual 130, 3) := by decide +kernel
theorem dX4_exact_97 : decode cX4_exact 97 = .ok (.aload_n 0, 1) := by decide +kernel
theorem dX4_exact_98 : decode cX4_exact 98 = .ok (.aload_n 0, 1) := by decide +kernel
theorem dX4_exact_99 : decode cX4_exact 99 = .ok (.getfield 34, 3) := by decide +kernel
theorem dX4_exact_102 : decode cX4_exact 102 = .ok (.invokevirtual 107, 3) := by decide +kernel
theorem dX4_exact_105 : decode cX4_exact 105 = .ok (.iconst 1, 1) := by decide +kernel
theorem dX4_exact_106 : decode cX4_exact 106 = .ok (.ireturn, 1) := by decide +kernel
theorem dX4_inexact_0 : decode cX4_inexact 0 = .ok (.aload_n 0, 1) := by decide +kernel
theorem dX4_inexact_1 : decode cX4_inexact 1 = .ok (.getfield 30, 3) := by decide +kernel
theorem dX4_inexact_4 : decode cX4_inexact 4 = .ok (.iconst 1, 1) := by decide +kernel
theorem dX4_inexact_5 : decode cX4_inexact 5 = .ok (.if_icmp .eq 5, 3) := by decide +kernel
theorem dX4_inexact_8 : decode cX4_inexact 8 = .ok (.iconst 0, 1) := by decide +kernel
theorem dX4_inexact_9 : decode cX4_inexact 9 = .ok (.ireturn, 1) := by decide +kernel
theorem dX4_inexact_10 : decode cX4_inexact 10 = .ok (.aload_n 0, 1) := by decide +kernel
theorem dX4_inexact_11 : decode cX4_inexact 11 = .ok (.aload_n 0, 1) := by decide +kernel
theorem dX4_inexact_12 : decode cX4_inexact 12 = .ok (.getfield 34, 3) := by decide +kernel
theorem dX4_inexact_15 : decode cX4_inexact 15 = .ok (.iconst 0, 1) := by decide +kernel
theorem dX4_inexact_16 : decode cX4_inexact 16 = .ok (.invokevirtual 100, 3) := by decide +kernel
theorem dX4_inexact_19 : decode cX4_inexact 19 = .ok (.iconst 1, 1) := by decide +kernel
theorem dX4_inexact_20 : decode cX4_inexact 20 = .ok (.ireturn, 1) := by decide +kernel
theorem dX4_kind_0 : decode cX4_kind 0 = .ok (.aload_n 0, 1) := by decide +kernel
theorem dX4_kind_1 : decode cX4_kind 1 = .ok (.getfield 30, 3) := by decide +kernel
theorem dX4_kind_4 : decode cX4_kind 4 = .ok (.ireturn, 1) := by decide +kernel
theorem dX4_negative_0 : decode cX4_negative 0 = .ok (.aload_n 0, 1) := by decide +kernel
theorem dX4_negative_1 : decode cX4_negative 1 = .ok (.getfield 34, 3) := by decide +kernel
theorem dX4_negative_4 : decode cX4_negative 4 = .ok (.ireturn, 1) := by decide +kernel
theorem dX4_units_0 : decode cX4_units 0 = .ok (.aload_n 0, 1) := by decide +kernel
theorem dX4_units_1 : decode cX4_units 1 = .ok (.getfield 30, 3) := by decide +kernel
theorem dX4_units_4 : decode cX4_units 4 = .ok (.iconst 2, 1) := by decide +kernel
theorem dX4_units_5 : decode cX4_units 5 = .ok (.if_icmp .ne 10, 3) := by decide +kernel
theorem dX4_units_8 : decode cX4_units 8 = .ok (.aload_n 0, 1) := by decide +kernel
theorem dX4_units_9 : decode cX4_units 9 = .ok (.getfield 38, 3) := by decide +kernel
theorem dX4_units_12 : decode cX4_units 12 = .ok (.goto 6, 3) := by decide +kernel
theorem dX4_units_15 : decode cX4_units 15 = .ok (.ldc2_w 148, 3) := by decide +kernel
theorem dX4_units_18 : decode cX4_units 18 = .ok (.lreturn, 1) := by decide +kernel
theorem dX4_place_0 : decode cX4_place 0 = .ok (.aload_n 0, 1) := by decide +kernel
theorem dX4_place_1 : decode cX4_place 1 = .ok (.getfield 30, 3) := by decide +kernel
theorem dX4_place_4 : decode cX4_place 4 = .ok (.iconst 2, 1) := by decide +kernel
theorem dX4_place_5 : decode cX4_place 5 = .ok (.if_icmp .ne 10, 3) := by decide +kernel
theorem dX4_place_8 : decode cX4_place 8 = .ok (.aload_n 0, 1) := by decide +kernel
theorem dX4_place_9 : decode cX4_place 9 = .ok (.getfield 42, 3) := by decide +kernel
theorem dX4_place_12 : decode cX4_place 12 = .ok (.goto 4, 3) := by decide +kernel
theorem dX4_place_15 : decode cX4_place 15 = .ok (.iconst 0, 1) := by decide +kernel
theorem dX4_place_16 : decode cX4_place 16 = .ok (.ireturn, 1) := by decide +kernel
theorem dX4_bits_0 : decode cX4_bits 0 = .ok (.aload_n 0, 1) := by decide +kernel
theorem dX4_bits_1 : decode cX4_bits 1 = .ok (.getfield 30, 3) := by decide +kernel
theorem dX4_bits_4 : decode cX4_bits 4 = .ok (.iconst 1, 1) := by decide +kernel
theorem dX4_bits_5 : decode cX4_bits 5 = .ok (.if_icmp .eq 5, 3) := by decide +kernel
theorem dX4_bits_8 : decode cX4_bits 8 = .ok (.iconst (-1), 1) := by decide +kernel
theorem dX4_bits_9 : decode cX4_bits 9 = .ok (.ireturn, 1) := by decide +kernel
theorem dX4_bits_10 : decode cX4_bits 10 = .ok (.iload_n 1, 1) := by decide +kernel
theorem dX4_bits_11 : decode cX4_bits 11 = .ok (.ifCond .eq 13, 3) := by decide +kernel
theorem dX4_bits_14 : decode cX4_bits 14 = .ok (.aload_n 0, 1) := by decide +kernel
theorem dX4_bits_15 : decode cX4_bits 15 = .ok (.getfield 52, 3) := by decide +kernel
theorem dX4_bits_18 : decode cX4_bits 18 = .ok (.invokevirtual 150, 3) := by decide +kernel
theorem dX4_bits_21 : decode cX4_bits 21 = .ok (.goto 10, 3) := by decide +kernel
theorem dX4_bits_24 : decode cX4_bits 24 = .ok (.aload_n 0, 1) := by decide +kernel
theorem dX4_bits_25 : decode cX4_bits 25 = .ok (.getfield 48, 3) := by decide +kernel
theorem dX4_bits_28 : decode cX4_bits 28 = .ok (.invokevirtual 150, 3) := by decide +kernel
theorem dX4_bits_31 : decode cX4_bits 31 = .ok (.ireturn, 1) := by decide +kernel
theorem dX4_write_0 : decode cX4_write 0 = .ok (.aload_n 0, 1) := by decide +kernel
theorem dX4_write_1 : decode cX4_write 1 = .ok (.getfield 30, 3) := by decide +kernel
theorem dX4_write_4 : decode cX4_write 4 = .ok (.iconst 1, 1) := by decide +kernel
theorem dX4_write_5 : decode cX4_write 5 = .ok (.if_icmp .ne 7, 3) := by decide +kernel
theorem dX4_write_8 : decode cX4_write 8 = .ok (.iconst 1, 1) := by decide +kernel
theorem dX4_write_9 : decode cX4_write 9 = .ok (.goto 4, 3) := by decide +kernel
theorem dX4_write_12 : decode cX4_write 12 = .ok (.iconst 0, 1) := by decide +kernel
theorem dX4_write_13 : decode cX4_write 13 = .ok (.istore_n 2, 1) := by decide +kernel
theorem dX4_write_14 : decode cX4_write 14 = .ok (.aload_n 0, 1) := by decide +kernel
theorem dX4_write_15 : decode cX4_write 15 = .ok (.getfield 30, 3) := by decide +kernel
theorem dX4_write_18 : decode cX4_write 18 = .ok (.ifCond .eq 27, 3) := by decide +kernel
theorem dX4_write_21 : decode cX4_write 21 = .ok (.iload_n 2, 1) := by decide +kernel
theorem dX4_write_22 : decode cX4_write 22 = .ok (.ifCond .eq 17, 3) := by decide +kernel
theorem dX4_write_25 : decode cX4_write 25 = .ok (.iload_n 1, 1) := by decide +kernel
theorem dX4_write_26 : decode cX4_write 26 = .ok (.iconst 2, 1) := by decide +kernel
theorem dX4_write_27 : decode cX4_write 27 = .ok (.if_icmp .lt 18, 3) := by decide +kernel
theorem dX4_write_30 : decode cX4_write 30 = .ok (.iload_n 1, 1) := by decide +kernel
theorem dX4_write_31 : decode cX4_write 31 = .ok (.bipush 16, 2) := by decide +kernel
theorem dX4_write_33 : decode cX4_write 33 = .ok (.if_icmp .le 14, 3) := by decide +kernel
theorem dX4_write_36 : decode cX4_write 36 = .ok (.goto 9, 3) := by decide +kernel
theorem dX4_write_39 : decode cX4_write 39 = .ok (.iload_n 1, 1) := by decide +kernel
theorem dX4_write_40 : decode cX4_write 40 = .ok (.bipush 10, 2) := by decide +kernel
theorem dX4_write_42 : decode cX4_write 42 = .ok (.if_icmp .eq 5, 3) := by decide +kernel
theorem dX4_write_45 : decode cX4_write 45 = .ok (.iconst (-1), 1) := by decide +kernel
theorem dX4_write_46 : decode cX4_write 46 = .ok (.ireturn, 1) := by decide +kernel
theorem dX4_write_47 : decode cX4_write 47 = .ok (.aload_n 0, 1) := by decide +kernel
theorem dX4_write_48 : decode cX4_write 48 = .ok (.getfield 27, 3) := by decide +kernel
theorem dX4_write_51 : decode cX4_write 51 = .ok (.invokevirtual 76, 3) := by decide +kernel
theorem dX4_write_54 : decode cX4_write 54 = .ok (.iload_n 2, 1) := by decide +kernel
theorem dX4_write_55 : decode cX4_write 55 = .ok (.ifCond .eq 11, 3) := by decide +kernel
theorem dX4_write_58 : decode cX4_write 58 = .ok (.aload_n 0, 1) := by decide +kernel
theorem dX4_write_59 : decode cX4_write 59 = .ok (.iload_n 1, 1) := by decide +kernel
theorem dX4_write_60 : decode cX4_write 60 = .ok (.invokevirtual 153, 3) := by decide +kernel
theorem dX4_write_63 : decode cX4_write 63 = .ok (.goto 68, 3) := by decide +kernel
theorem dX4_write_66 : decode cX4_write 66 = .ok (.aload_n 0, 1) := by decide +kernel
theorem dX4_write_67 : decode cX4_write 67 = .ok (.getfield 30, 3) := by decide +kernel
theorem dX4_write_70 : decode cX4_write 70 = .ok (.iconst 2, 1) := by decide +kernel
theorem dX4_write_71 : decode cX4_write 71 = .ok (.if_icmp .ne 10, 3) := by decide +kernel
theorem dX4_write_74 : decode cX4_write 74 = .ok (.aload_n 0, 1) := by decide +kernel
theorem dX4_write_75 : decode cX4_write 75 = .ok (.invokevirtual 156, 3) := by decide +kernel
theorem dX4_write_78 : decode cX4_write 78 = .ok (.goto 53, 3) := by decide +kernel
theorem dX4_write_81 : decode cX4_write 81 = .ok (.aload_n 0, 1) := by decide +kernel
theorem dX4_write_82 : decode cX4_write 82 = .ok (.getfield 30, 3) := by decide +kernel
theorem dX4_write_85 : decode cX4_write 85 = .ok (.iconst 3, 1) := by decide +kernel
theorem dX4_write_86 : decode cX4_write 86 = .ok (.if_icmp .ne 36, 3) := by decide +kernel
theorem dX4_write_89 : decode cX4_write 89 = .ok (.aload_n 0, 1) := by decide +kernel
theorem dX4_write_90 : decode cX4_write 90 = .ok (.getfield 27, 3) := by decide +kernel
theorem dX4_write_93 : decode cX4_write 93 = .ok (.aload_n 0, 1) := by decide +kernel
theorem dX4_write_94 : decode cX4_write 94 = .ok (.getfield 34, 3) := by decide +kernel
theorem dX4_write_97 : decode cX4_write 97 = .ok (.ifCond .eq 8, 3) := by decide +kernel
theorem dX4_write_100 : decode cX4_write 100 = .ok (.bipush 45, 2) := by decide +kernel
theorem dX4_write_102 : decode cX4_write 102 = .ok (.goto 5, 3) := by decide +kernel
theorem dX4_write_105 : decode cX4_write 105 = .ok (.bipush 43, 2) := by decide +kernel
theorem dX4_write_107 : decode cX4_write 107 = .ok (.invokevirtual 72, 3) := by decide +kernel
theorem dX4_write_110 : decode cX4_write 110 = .ok (.aload_n 0, 1) := by decide +kernel
theorem dX4_write_111 : decode cX4_write 111 = .ok (.getfield 27, 3) := by decide +kernel
theorem dX4_write_114 : decode cX4_write 114 = .ok (.ldc 159, 2) := by decide +kernel
theorem dX4_write_116 : decode cX4_write 116 = .ok (.invokevirtual 161, 3) := by decide +kernel
theorem dX4_write_119 : decode cX4_write 119 = .ok (.goto 12, 3) := by decide +kernel
theorem dX4_write_122 : decode cX4_write 122 = .ok (.aload_n 0, 1) := by decide +kernel
theorem dX4_write_123 : decode cX4_write 123 = .ok (.getfield 27, 3) := by decide +kernel
theorem dX4_write_126 : decode cX4_write 126 = .ok (.ldc 164, 2) := by decide +kernel
theorem dX4_write_128 : decode cX4_write 128 = .ok (.invokevirtual 161, 3) := by decide +kernel
theorem dX4_write_131 : decode cX4_write 131 = .ok (.aload_n 0, 1) := by decide +kernel
theorem dX4_write_132 : decode cX4_write 132 = .ok (.getfield 27, 3) := by decide +kernel
theorem dX4_write_135 : decode cX4_write 135 = .ok (.invokevirtual 68, 3) := by decide +kernel
theorem dX4_write_138 : decode cX4_write 138 = .ok (.ireturn, 1) := by decide +kernel
theorem dX4_out_0 : decode cX4_out 0 = .ok (.aload_n 0, 1) := by decide +kernel
theorem dX4_out_1 : decode cX4_out 1 = .ok (.getfield 27, 3) := by decide +kernel
theorem dX4_out_4 : decode cX4_out 4 = .ok (.iload_n 1, 1) := by decide +kernel
theorem dX4_out_5 : decode cX4_out 5 = .ok (.invokevirtual 166, 3) := by decide +kernel
theorem dX4_out_8 : decode cX4_out 8 = .ok (.ireturn, 1) := by decide +kernel
theorem dX4_back_0 : decode cX4_back 0 = .ok (.aload_n 0, 1) := by decide +kernel
theorem dX4_back_1 : decode cX4_back 1 = .ok (.getfield 27, 3) := by decide +kernel
theorem dX4_back_4 : decode cX4_back 4 = .ok (.invokevirtual 68, 3) := by decide +kernel
theorem dX4_back_7 : decode cX4_back 7 = .ok (.sipush 400, 3) := by decide +kernel
theorem dX4_back_10 : decode cX4_back 10 = .ok (.if_icmp .le 5, 3) := by decide +kernel
theorem dX4_back_13 : decode cX4_back 13 = .ok (.iconst 0, 1) := by decide +kernel
theorem dX4_back_14 : decode cX4_back 14 = .ok (.ireturn, 1) := by decide +kernel
theorem dX4_back_15 : decode cX4_back 15 = .ok (.aload_n 0, 1) := by decide +kernel
theorem dX4_back_16 : decode cX4_back 16 = .ok (.getfield 20, 3) := by decide +kernel
theorem dX4_back_19 : decode cX4_back 19 = .ok (.aload_n 0, 1) := by decide +kernel
theorem dX4_back_20 : decode cX4_back 20 = .ok (.getfield 27, 3) := by decide +kernel
theorem dX4_back_23 : decode cX4_back 23 = .ok (.invokevirtual 170, 3) := by decide +kernel
theorem dX4_back_26 : decode cX4_back 26 = .ok (.iconst 1, 1) := by decide +kernel
theorem dX4_back_27 : decode cX4_back 27 = .ok (.ireturn, 1) := by decide +kernel
theorem dX4_becomeNone_0 : decode cX4_becomeNone 0 = .ok (.aload_n 0, 1) := by decide +kernel
theorem dX4_becomeNone_1 : decode cX4_becomeNone 1 = .ok (.iconst 0, 1) := by decide +kernel
theorem dX4_becomeNone_2 : decode cX4_becomeNone 2 = .ok (.putfield 30, 3) := by decide +kernel
theorem dX4_becomeNone_5 : decode cX4_becomeNone 5 = .ok (.aload_n 0, 1) := by decide +kernel
theorem dX4_becomeNone_6 : decode cX4_becomeNone 6 = .ok (.iconst 0, 1) := by decide +kernel
theorem dX4_becomeNone_7 : decode cX4_becomeNone 7 = .ok (.putfield 34, 3) := by decide +kernel
theorem dX4_becomeNone_10 : decode cX4_becomeNone 10 = .ok (.return_, 1) := by decide +kernel
theorem dX4_becomeInfinite_0 : decode cX4_becomeInfinite 0 = .ok (.aload_n 0, 1) := by decide +kernel
theorem dX4_becomeInfinite_1 : decode cX4_becomeInfinite 1 = .ok (.iconst 3, 1) := by decide +kernel
theorem dX4_becomeInfinite_2 : decode cX4_becomeInfinite 2 = .ok (.putfield 30, 3) := by decide +kernel
theorem dX4_becomeInfinite_5 : decode cX4_becomeInfinite 5 = .ok (.aload_n 0, 1) := by decide +kernel
theorem dX4_becomeInfinite_6 : decode cX4_becomeInfinite 6 = .ok (.iload_n 1, 1) := by decide +kernel
theorem dX4_becomeInfinite_7 : decode cX4_becomeInfinite 7 = .ok (.putfield 34, 3) := by decide +kernel
theorem dX4_becomeInfinite_10 : decode cX4_becomeInfinite 10 = .ok (.return_, 1) := by decide +kernel
theorem dX4_becomeNotANumber_0 : decode cX4_becomeNotANumber 0 = .ok (.aload_n 0, 1) := by decide +kernel
theorem dX4_becomeNotANumber_1 : decode cX4_becomeNotANumber 1 = .ok (.iconst 4, 1) := by decide +kernel
theorem dX4_becomeNotANumber_2 : decode cX4_becomeNotANumber 2 = .ok (.putfield 30, 3) := by decide +kernel
theorem dX4_becomeNotANumber_5 : decode cX4_becomeNotANumber 5 = .ok (.aload_n 0, 1) := by decide +kernel
theorem dX4_becomeNotANumber_6 : decode cX4_becomeNotANumber 6 = .ok (.iconst 0, 1) := by decide +kernel
theorem dX4_becomeNotANumber_7 : decode cX4_becomeNotANumber 7 = .ok (.putfield 34, 3) := by decide +kernel
theorem dX4_becomeNotANumber_10 : decode cX4_becomeNotANumber 10 = .ok (.return_, 1) := by decide +kernel
theorem dX4_becomeFinite_0 : decode cX4_becomeFinite 0 = .ok (.aload_n 0, 1) := by decide +kernel
theorem dX4_becomeFinite_1 : decode cX4_becomeFinite 1 = .ok (.iconst 2, 1) := by decide +kernel
theorem dX4_becomeFinite_2 : decode cX4_becomeFinite 2 = .ok (.putfield 30, 3) := by decide +kernel
theorem dX4_becomeFinite_5 : decode cX4_becomeFinite 5 = .ok (.aload_n 0, 1) := by decide +kernel
theorem dX4_becomeFinite_6 : decode cX4_becomeFinite 6 = .ok (.iload_n 1, 1) := by decide +kernel
theorem dX4_becomeFinite_7 : decode cX4_becomeFinite 7 = .ok (.putfield 34, 3) := by decide +kernel
theorem dX4_becomeFinite_10 : decode cX4_becomeFinite 10 = .ok (.aload_n 0, 1) := by decide +kernel
theorem dX4_becomeFinite_11 : decode cX4_becomeFinite 11 = .ok (.lload_n 2, 1) := by decide +kernel
theorem dX4_becomeFinite_12 : decode cX4_becomeFinite 12 = .ok (.putfield 38, 3) := by decide +kernel
theorem dX4_becomeFinite_15 : decode cX4_becomeFinite 15 = .ok (.aload_n 0, 1) := by decide +kernel
theorem dX4_becomeFinite_16 : decode cX4_becomeFinite 16 = .ok (.iload 4, 2) := by decide +kernel
theorem dX4_becomeFinite_18 : decode cX4_becomeFinite 18 = .ok (.putfield 42, 3) := by decide +kernel
theorem dX4_becomeFinite_21 : decode cX4_becomeFinite 21 = .ok (.return_, 1) := by decide +kernel
theorem dX4_becomeZero_0 : decode cX4_becomeZero 0 = .ok (.aload_n 0, 1) := by decide +kernel
theorem dX4_becomeZero_1 : decode cX4_becomeZero 1 = .ok (.iload_n 1, 1) := by decide +kernel
theorem dX4_becomeZero_2 : decode cX4_becomeZero 2 = .ok (.lconst 0, 1) := by decide +kernel
theorem dX4_becomeZero_3 : decode cX4_becomeZero 3 = .ok (.sipush (-1074), 3) := by decide +kernel
theorem dX4_becomeZero_6 : decode cX4_becomeZero 6 = .ok (.invokevirtual 174, 3) := by decide +kernel
theorem dX4_becomeZero_9 : decode cX4_becomeZero 9 = .ok (.return_, 1) := by decide +kernel
theorem dX4_becomeExactNumber_0 : decode cX4_becomeExactNumber 0 = .ok (.aload_n 0, 1) := by decide +kernel
theorem dX4_becomeExactNumber_1 : decode cX4_becomeExactNumber 1 = .ok (.iconst 1, 1) := by decide +kernel
theorem dX4_becomeExactNumber_2 : decode cX4_becomeExactNumber 2 = .ok (.putfield 30, 3) := by decide +kernel
theorem dX4_becomeExactNumber_5 : decode cX4_becomeExactNumber 5 = .ok (.aload_n 0, 1) := by decide +kernel
theorem dX4_becomeExactNumber_6 : decode cX4_becomeExactNumber 6 = .ok (.iload_n 1, 1) := by decide +kernel
theorem dX4_becomeExactNumber_7 : decode cX4_becomeExactNumber 7 = .ok (.ifCond .eq 17, 3) := by decide +kernel
theorem dX4_becomeExactNumber_10 : decode cX4_becomeExactNumber 10 = .ok (.aload_n 0, 1) := by decide +kernel
theorem dX4_becomeExactNumber_11 : decode cX4_becomeExactNumber 11 = .ok (.getfield 48, 3) := by decide +kernel
theorem dX4_becomeExactNumber_14 : decode cX4_becomeExactNumber 14 = .ok (.invokevirtual 178, 3) := by decide +kernel
theorem dX4_becomeExactNumber_17 : decode cX4_becomeExactNumber 17 = .ok (.ifCond .ne 7, 3) := by decide +kernel
theorem dX4_becomeExactNumber_20 : decode cX4_becomeExactNumber 20 = .ok (.iconst 1, 1) := by decide +kernel
theorem dX4_becomeExactNumber_21 : decode cX4_becomeExactNumber 21 = .ok (.goto 4, 3) := by decide +kernel
theorem dX4_becomeExactNumber_24 : decode cX4_becomeExactNumber 24 = .ok (.iconst 0, 1) := by decide +kernel
theorem dX4_becomeExactNumber_25 : decode cX4_becomeExactNumber 25 = .ok (.putfield 34, 3) := by decide +kernel
theorem dX4_becomeExactNumber_28 : decode cX4_becomeExactNumber 28 = .ok (.return_, 1) := by decide +kernel
theorem dX4_becomeNearest_0 : decode cX4_becomeNearest 0 = .ok (.aload_n 0, 1) := by decide +kernel
theorem dX4_becomeNearest_1 : decode cX4_becomeNearest 1 = .ok (.getfield 48, 3) := by decide +kernel
theorem dX4_becomeNearest_4 : decode cX4_becomeNearest 4 = .ok (.invokevirtual 178, 3) := by decide +kernel
theorem dX4_becomeNearest_7 : decode cX4_becomeNearest 7 = .ok (.ifCond .ne 13, 3) := by decide +kernel
theorem dX4_becomeNearest_10 : decode cX4_becomeNearest 10 = .ok (.aload_n 0, 1) := by decide +kernel
theorem dX4_becomeNearest_11 : decode cX4_becomeNearest 11 = .ok (.getfield 52, 3) := by decide +kernel
theorem dX4_becomeNearest_14 : decode cX4_becomeNearest 14 = .ok (.invokevirtual 178, 3) := by decide +kernel
theorem dX4_becomeNearest_17 : decode cX4_becomeNearest 17 = .ok (.ifCond .eq 9, 3) := by decide +kernel
theorem dX4_becomeNearest_20 : decode cX4_becomeNearest 20 = .ok (.aload_n 0, 1) := by decide +kernel
theorem dX4_becomeNearest_21 : decode cX4_becomeNearest 21 = .ok (.iload_n 1, 1) := by decide +kernel
theorem dX4_becomeNearest_22 : decode cX4_becomeNearest 22 = .ok (.invokevirtual 181, 3) := by decide +kernel
theorem dX4_becomeNearest_25 : decode cX4_becomeNearest 25 = .ok (.return_, 1) := by decide +kernel
theorem dX4_becomeNearest_26 : decode cX4_becomeNearest 26 = .ok (.aload_n 0, 1) := by decide +kernel
theorem dX4_becomeNearest_27 : decode cX4_becomeNearest 27 = .ok (.getfield 48, 3) := by decide +kernel
theorem dX4_becomeNearest_30 : decode cX4_becomeNearest 30 = .ok (.invokevirtual 150, 3) := by decide +kernel
theorem dX4_becomeNearest_33 : decode cX4_becomeNearest 33 = .ok (.aload_n 0, 1) := by decide +kernel
theorem dX4_becomeNearest_34 : decode cX4_becomeNearest 34 = .ok (.getfield 52, 3) := by decide +kernel
theorem dX4_becomeNearest_37 : decode cX4_becomeNearest 37 = .ok (.invokevirtual 150, 3) := by decide +kernel
theorem dX4_becomeNearest_40 : decode cX4_becomeNearest 40 = .ok (.isub, 1) := by decide +kernel
theorem dX4_becomeNearest_41 : decode cX4_becomeNearest 41 = .ok (.iload_n 2, 1) := by decide +kernel
theorem dX4_becomeNearest_42 : decode cX4_becomeNearest 42 = .ok (.iadd, 1) := by decide +kernel
theorem dX4_becomeNearest_43 : decode cX4_becomeNearest 43 = .ok (.istore_n 3, 1) := by decide +kernel
theorem dX4_becomeNearest_44 : decode cX4_becomeNearest 44 = .ok (.iload_n 3, 1) := by decide +kernel
theorem dX4_becomeNearest_45 : decode cX4_becomeNearest 45 = .ok (.sipush (-1075), 3) := by decide +kernel
theorem dX4_becomeNearest_48 : decode cX4_becomeNearest 48 = .ok (.if_icmp .ge 11, 3) := by decide +kernel
theorem dX4_becomeNearest_51 : decode cX4_becomeNearest 51 = .ok (.aload_n 0, 1) := by decide +kernel
theorem dX4_becomeNearest_52 : decode cX4_becomeNearest 52 = .ok (.iload_n 1, 1) := by decide +kernel
theorem dX4_becomeNearest_53 : decode cX4_becomeNearest 53 = .ok (.invokevirtual 181, 3) := by decide +kernel
theorem dX4_becomeNearest_56 : decode cX4_becomeNearest 56 = .ok (.goto 57, 3) := by decide +kernel
theorem dX4_becomeNearest_59 : decode cX4_becomeNearest 59 = .ok (.iload_n 3, 1) := by decide +kernel
theorem dX4_becomeNearest_60 : decode cX4_becomeNearest 60 = .ok (.sipush 1024, 3) := by decide +kernel
theorem dX4_becomeNearest_63 : decode cX4_becomeNearest 63 = .ok (.if_icmp .le 11, 3) := by decide +kernel
theorem dX4_becomeNearest_66 : decode cX4_becomeNearest 66 = .ok (.aload_n 0, 1) := by decide +kernel
theorem dX4_becomeNearest_67 : decode cX4_becomeNearest 67 = .ok (.iload_n 1, 1) := by decide +kernel
theorem dX4_becomeNearest_68 : decode cX4_becomeNearest 68 = .ok (.invokevirtual 90, 3) := by decide +kernel
theorem dX4_becomeNearest_71 : decode cX4_becomeNearest 71 = .ok (.goto 42, 3) := by decide +kernel
theorem dX4_becomeNearest_74 : decode cX4_becomeNearest 74 = .ok (.iload_n 3, 1) := by decide +kernel
theorem dX4_becomeNearest_75 : decode cX4_becomeNearest 75 = .ok (.bipush 53, 2) := by decide +kernel
theorem dX4_becomeNearest_77 : decode cX4_becomeNearest 77 = .ok (.isub, 1) := by decide +kernel
theorem dX4_becomeNearest_78 : decode cX4_becomeNearest 78 = .ok (.sipush (-1074), 3) := by decide +kernel
theorem dX4_becomeNearest_81 : decode cX4_becomeNearest 81 = .ok (.invokestatic 184, 3) := by decide +kernel
theorem dX4_becomeNearest_84 : decode cX4_becomeNearest 84 = .ok (.istore 4, 2) := by decide +kernel
theorem dX4_becomeNearest_86 : decode cX4_becomeNearest 86 = .ok (.aload_n 0, 1) := by decide +kernel
theorem dX4_becomeNearest_87 : decode cX4_becomeNearest 87 = .ok (.invokevirtual 187, 3) := by decide +kernel
theorem dX4_becomeNearest_90 : decode cX4_becomeNearest 90 = .ok (.aload_n 0, 1) := by decide +kernel
theorem dX4_becomeNearest_91 : decode cX4_becomeNearest 91 = .ok (.iload_n 3, 1) := by decide +kernel
theorem dX4_becomeNearest_92 : decode cX4_becomeNearest 92 = .ok (.iload 4, 2) := by decide +kernel
theorem dX4_becomeNearest_94 : decode cX4_becomeNearest 94 = .ok (.isub, 1) := by decide +kernel
theorem dX4_becomeNearest_95 : decode cX4_becomeNearest 95 = .ok (.iconst 2, 1) := by decide +kernel
theorem dX4_becomeNearest_96 : decode cX4_becomeNearest 96 = .ok (.iadd, 1) := by decide +kernel
theorem dX4_becomeNearest_97 : decode cX4_becomeNearest 97 = .ok (.invokevirtual 190, 3) := by decide +kernel
theorem dX4_becomeNearest_100 : decode cX4_becomeNearest 100 = .ok (.lstore 5, 2) := by decide +kernel
theorem dX4_becomeNearest_102 : decode cX4_becomeNearest 102 = .ok (.aload_n 0, 1) := by decide +kernel
theorem dX4_becomeNearest_103 : decode cX4_becomeNearest 103 = .ok (.iload_n 1, 1) := by decide +kernel
theorem dX4_becomeNearest_104 : decode cX4_becomeNearest 104 = .ok (.lload 5, 2) := by decide +kernel
theorem dX4_becomeNearest_106 : decode cX4_becomeNearest 106 = .ok (.iload 4, 2) := by decide +kernel
theorem dX4_becomeNearest_108 : decode cX4_becomeNearest 108 = .ok (.iconst 1, 1) := by decide +kernel
theorem dX4_becomeNearest_109 : decode cX4_becomeNearest 109 = .ok (.isub, 1) := by decide +kernel
theorem dX4_becomeNearest_110 : decode cX4_becomeNearest 110 = .ok (.invokevirtual 194, 3) := by decide +kernel
theorem dX4_becomeNearest_113 : decode cX4_becomeNearest 113 = .ok (.return_, 1) := by decide +kernel
theorem dX4_alignTops_0 : decode cX4_alignTops 0 = .ok (.aload_n 0, 1) := by decide +kernel
theorem dX4_alignTops_1 : decode cX4_alignTops 1 = .ok (.getfield 48, 3) := by decide +kernel
theorem dX4_alignTops_4 : decode cX4_alignTops 4 = .ok (.invokevirtual 150, 3) := by decide +kernel
theorem dX4_alignTops_7 : decode cX4_alignTops 7 = .ok (.aload_n 0, 1) := by decide +kernel
theorem dX4_alignTops_8 : decode cX4_alignTops 8 = .ok (.getfield 52, 3) := by decide +kernel
theorem dX4_alignTops_11 : decode cX4_alignTops 11 = .ok (.invokevirtual 150, 3) := by decide +kernel
theorem dX4_alignTops_14 : decode cX4_alignTops 14 = .ok (.isub, 1) := by decide +kernel
theorem dX4_alignTops_15 : decode cX4_alignTops 15 = .ok (.istore_n 1, 1) := by decide +kernel
theorem dX4_alignTops_16 : decode cX4_alignTops 16 = .ok (.aload_n 0, 1) := by decide +kernel
theorem dX4_alignTops_17 : decode cX4_alignTops 17 = .ok (.getfield 48, 3) := by decide +kernel
theorem dX4_alignTops_20 : decode cX4_alignTops 20 = .ok (.iload_n 1, 1) := by decide +kernel
theorem dX4_alignTops_21 : decode cX4_alignTops 21 = .ok (.ineg, 1) := by decide +kernel
theorem dX4_alignTops_22 : decode cX4_alignTops 22 = .ok (.invokevirtual 130, 3) := by decide +kernel
theorem dX4_alignTops_25 : decode cX4_alignTops 25 = .ok (.aload_n 0, 1) := by decide +kernel
theorem dX4_alignTops_26 : decode cX4_alignTops 26 = .ok (.getfield 52, 3) := by decide +kernel
theorem dX4_alignTops_29 : decode cX4_alignTops 29 = .ok (.iload_n 1, 1) := by decide +kernel
theorem dX4_alignTops_30 : decode cX4_alignTops 30 = .ok (.invokevirtual 130, 3) := by decide +kernel
theorem dX4_alignTops_33 : decode cX4_alignTops 33 = .ok (.return_, 1) := by decide +kernel
theorem dX4_takeQuotient_0 : decode cX4_takeQuotient 0 = .ok (.lconst 0, 1) := by decide +kernel
theorem dX4_takeQuotient_1 : decode cX4_takeQuotient 1 = .ok (.lstore_n 2, 1) := by decide +kernel
theorem dX4_takeQuotient_2 : decode cX4_takeQuotient 2 = .ok (.iconst 0, 1) := by decide +kernel
theorem dX4_takeQuotient_3 : decode cX4_takeQuotient 3 = .ok (.istore 4, 2) := by decide +kernel
theorem dX4_takeQuotient_5 : decode cX4_takeQuotient 5 = .ok (.iload 4, 2) := by decide +kernel
theorem dX4_takeQuotient_7 : decode cX4_takeQuotient 7 = .ok (.iload_n 1, 1) := by decide +kernel
theorem dX4_takeQuotient_8 : decode cX4_takeQuotient 8 = .ok (.if_icmp .ge 51, 3) := by decide +kernel
theorem dX4_takeQuotient_11 : decode cX4_takeQuotient 11 = .ok (.lload_n 2, 1) := by decide +kernel
theorem dX4_takeQuotient_12 : decode cX4_takeQuotient 12 = .ok (.iconst 1, 1) := by decide +kernel
theorem dX4_takeQuotient_13 : decode cX4_takeQuotient 13 = .ok (.lshl, 1) := by decide +kernel
theorem dX4_takeQuotient_14 : decode cX4_takeQuotient 14 = .ok (.lstore_n 2, 1) := by decide +kernel
theorem dX4_takeQuotient_15 : decode cX4_takeQuotient 15 = .ok (.aload_n 0, 1) := by decide +kernel
theorem dX4_takeQuotient_16 : decode cX4_takeQuotient 16 = .ok (.getfield 48, 3) := by decide +kernel
theorem dX4_takeQuotient_19 : decode cX4_takeQuotient 19 = .ok (.aload_n 0, 1) := by decide +kernel
theorem dX4_takeQuotient_20 : decode cX4_takeQuotient 20 = .ok (.getfield 52, 3) := by decide +kernel
theorem dX4_takeQuotient_23 : decode cX4_takeQuotient 23 = .ok (.invokevirtual 197, 3) := by decide +kernel
theorem dX4_takeQuotient_26 : decode cX4_takeQuotient 26 = .ok (.ifCond .lt 18, 3) := by decide +kernel
theorem dX4_takeQuotient_29 : decode cX4_takeQuotient 29 = .ok (.aload_n 0, 1) := by decide +kernel
theorem dX4_takeQuotient_30 : decode cX4_takeQuotient 30 = .ok (.getfield 48, 3) := by decide +kernel
theorem dX4_takeQuotient_33 : decode cX4_takeQuotient 33 = .ok (.aload_n 0, 1) := by decide +kernel
theorem dX4_takeQuotient_34 : decode cX4_takeQuotient 34 = .ok (.getfield 52, 3) := by decide +kernel
theorem dX4_takeQuotient_37 : decode cX4_takeQuotient 37 = .ok (.invokevirtual 201, 3) := by decide +kernel
theorem dX4_takeQuotient_40 : decode cX4_takeQuotient 40 = .ok (.lload_n 2, 1) := by decide +kernel
theorem dX4_takeQuotient_41 : decode cX4_takeQuotient 41 = .ok (.lconst 1, 1) := by decide +kernel
theorem dX4_takeQuotient_42 : decode cX4_takeQuotient 42 = .ok (.lor, 1) := by decide +kernel
theorem dX4_takeQuotient_43 : decode cX4_takeQuotient 43 = .ok (.lstore_n 2, 1) := by decide +kernel
theorem dX4_takeQuotient_44 : decode cX4_takeQuotient 44 = .ok (.aload_n 0, 1) := by decide +kernel
theorem dX4_takeQuotient_45 : decode cX4_takeQuotient 45 = .ok (.getfield 48, 3) := by decide +kernel
theorem dX4_takeQuotient_48 : decode cX4_takeQuotient 48 = .ok (.iconst 2, 1) := by decide +kernel
theorem dX4_takeQuotient_49 : decode cX4_takeQuotient 49 = .ok (.iconst 0, 1) := by decide +kernel
theorem dX4_takeQuotient_50 : decode cX4_takeQuotient 50 = .ok (.invokevirtual 205, 3) := by decide +kernel
theorem dX4_takeQuotient_53 : decode cX4_takeQuotient 53 = .ok (.iinc 4 1, 3) := by decide +kernel
theorem dX4_takeQuotient_56 : decode cX4_takeQuotient 56 = .ok (.goto (-51), 3) := by decide +kernel
theorem dX4_takeQuotient_59 : decode cX4_takeQuotient 59 = .ok (.lload_n 2, 1) := by decide +kernel
theorem dX4_takeQuotient_60 : decode cX4_takeQuotient 60 = .ok (.lreturn, 1) := by decide +kernel
theorem dX4_becomeRounded_0 : decode cX4_becomeRounded 0 = .ok (.lload_n 2, 1) := by decide +kernel
theorem dX4_becomeRounded_1 : decode cX4_becomeRounded 1 = .ok (.ldc2_w 209, 3) := by decide +kernel
theorem dX4_becomeRounded_4 : decode cX4_becomeRounded 4 = .ok (.lcmp, 1) := by decide +kernel
theorem dX4_becomeRounded_5 : decode cX4_becomeRounded 5 = .ok (.ifCond .lt 7, 3) := by decide +kernel
theorem dX4_becomeRounded_8 : decode cX4_becomeRounded 8 = .ok (.iconst 2, 1) := by decide +kernel
theorem dX4_becomeRounded_9 : decode cX4_becomeRounded 9 = .ok (.goto 4, 3) := by decide +kernel
theorem dX4_becomeRounded_12 : decode cX4_becomeRounded 12 = .ok (.iconst 1, 1) := by decide +kernel
theorem dX4_becomeRounded_13 : decode cX4_becomeRounded 13 = .ok (.istore 5, 2) := by decide +kernel
theorem dX4_becomeRounded_15 : decode cX4_becomeRounded 15 = .ok (.lload_n 2, 1) := by decide +kernel
theorem dX4_becomeRounded_16 : decode cX4_becomeRounded 16 = .ok (.iload 5, 2) := by decide +kernel
theorem dX4_becomeRounded_18 : decode cX4_becomeRounded 18 = .ok (.lshr, 1) := by decide +kernel
theorem dX4_becomeRounded_19 : decode cX4_becomeRounded 19 = .ok (.lstore 6, 2) := by decide +kernel
theorem dX4_becomeRounded_21 : decode cX4_becomeRounded 21 = .ok (.iload 4, 2) := by decide +kernel
theorem dX4_becomeRounded_23 : decode cX4_becomeRounded 23 = .ok (.iload 5, 2) := by decide +kernel
theorem dX4_becomeRounded_25 : decode cX4_becomeRounded 25 = .ok (.iadd, 1) := by decide +kernel
theorem dX4_becomeRounded_26 : decode cX4_becomeRounded 26 = .ok (.istore 8, 2) := by decide +kernel
theorem dX4_becomeRounded_28 : decode cX4_becomeRounded 28 = .ok (.lload_n 2, 1) := by decide +kernel
theorem dX4_becomeRounded_29 : decode cX4_becomeRounded 29 = .ok (.lconst 1, 1) := by decide +kernel
theorem dX4_becomeRounded_30 : decode cX4_becomeRounded 30 = .ok (.iload 5, 2) := by decide +kernel
theorem dX4_becomeRounded_32 : decode cX4_becomeRounded 32 = .ok (.lshl, 1) := by decide +kernel
theorem dX4_becomeRounded_33 : decode cX4_becomeRounded 33 = .ok (.lconst 1, 1) := by decide +kernel
theorem dX4_becomeRounded_34 : decode cX4_becomeRounded 34 = .ok (.lsub, 1) := by decide +kernel
theorem dX4_becomeRounded_35 : decode cX4_becomeRounded 35 = .ok (.land, 1) := by decide +kernel
theorem dX4_becomeRounded_36 : decode cX4_becomeRounded 36 = .ok (.lstore 9, 2) := by decide +kernel
theorem dX4_becomeRounded_38 : decode cX4_becomeRounded 38 = .ok (.lconst 1, 1) := by decide +kernel
theorem dX4_becomeRounded_39 : decode cX4_becomeRounded 39 = .ok (.iload 5, 2) := by decide +kernel
theorem dX4_becomeRounded_41 : decode cX4_becomeRounded 41 = .ok (.iconst 1, 1) := by decide +kernel
theorem dX4_becomeRounded_42 : decode cX4_becomeRounded 42 = .ok (.isub, 1) := by decide +kernel
theorem dX4_becomeRounded_43 : decode cX4_becomeRounded 43 = .ok (.lshl, 1) := by decide +kernel
theorem dX4_becomeRounded_44 : decode cX4_becomeRounded 44 = .ok (.lstore 11, 2) := by decide +kernel
theorem dX4_becomeRounded_46 : decode cX4_becomeRounded 46 = .ok (.lload 6, 2) := by decide +kernel
theorem dX4_becomeRounded_48 : decode cX4_becomeRounded 48 = .ok (.lconst 1, 1) := by decide +kernel
theorem dX4_becomeRounded_49 : decode cX4_becomeRounded 49 = .ok (.land, 1) := by decide +kernel
theorem dX4_becomeRounded_50 : decode cX4_becomeRounded 50 = .ok (.lconst 1, 1) := by decide +kernel
theorem dX4_becomeRounded_51 : decode cX4_becomeRounded 51 = .ok (.lcmp, 1) := by decide +kernel
theorem dX4_becomeRounded_52 : decode cX4_becomeRounded 52 = .ok (.ifCond .ne 7, 3) := by decide +kernel
theorem dX4_becomeRounded_55 : decode cX4_becomeRounded 55 = .ok (.iconst 1, 1) := by decide +kernel
theorem dX4_becomeRounded_56 : decode cX4_becomeRounded 56 = .ok (.goto 4, 3) := by decide +kernel
theorem dX4_becomeRounded_59 : decode cX4_becomeRounded 59 = .ok (.iconst 0, 1) := by decide +kernel
theorem dX4_becomeRounded_60 : decode cX4_becomeRounded 60 = .ok (.istore 13, 2) := by decide +kernel
theorem dX4_becomeRounded_62 : decode cX4_becomeRounded 62 = .ok (.lload 9, 2) := by decide +kernel
theorem dX4_becomeRounded_64 : decode cX4_becomeRounded 64 = .ok (.lload 11, 2) := by decide +kernel
theorem dX4_becomeRounded_66 : decode cX4_becomeRounded 66 = .ok (.lcmp, 1) := by decide +kernel
theorem dX4_becomeRounded_67 : decode cX4_becomeRounded 67 = .ok (.ifCond .gt 26, 3) := by decide +kernel
theorem dX4_becomeRounded_70 : decode cX4_becomeRounded 70 = .ok (.lload 9, 2) := by decide +kernel
theorem dX4_becomeRounded_72 : decode cX4_becomeRounded 72 = .ok (.lload 11, 2) := by decide +kernel
theorem dX4_becomeRounded_74 : decode cX4_becomeRounded 74 = .ok (.lcmp, 1) := by decide +kernel
theorem dX4_becomeRounded_75 : decode cX4_becomeRounded 75 = .ok (.ifCond .ne 24, 3) := by decide +kernel
theorem dX4_becomeRounded_78 : decode cX4_becomeRounded 78 = .ok (.iload 13, 2) := by decide +kernel
theorem dX4_becomeRounded_80 : decode cX4_becomeRounded 80 = .ok (.ifCond .ne 13, 3) := by decide +kernel
theorem dX4_becomeRounded_83 : decode cX4_becomeRounded 83 = .ok (.aload_n 0, 1) := by decide +kernel
theorem dX4_becomeRounded_84 : decode cX4_becomeRounded 84 = .ok (.getfield 48, 3) := by decide +kernel
theorem dX4_becomeRounded_87 : decode cX4_becomeRounded 87 = .ok (.invokevirtual 178, 3) := by decide +kernel
theorem dX4_becomeRounded_90 : decode cX4_becomeRounded 90 = .ok (.ifCond .ne 9, 3) := by decide +kernel
theorem dX4_becomeRounded_93 : decode cX4_becomeRounded 93 = .ok (.lload 6, 2) := by decide +kernel
theorem dX4_becomeRounded_95 : decode cX4_becomeRounded 95 = .ok (.lconst 1, 1) := by decide +kernel
theorem dX4_becomeRounded_96 : decode cX4_becomeRounded 96 = .ok (.ladd, 1) := by decide +kernel
theorem dX4_becomeRounded_97 : decode cX4_becomeRounded 97 = .ok (.lstore 6, 2) := by decide +kernel
theorem dX4_becomeRounded_99 : decode cX4_becomeRounded 99 = .ok (.lload 6, 2) := by decide +kernel
theorem dX4_becomeRounded_101 : decode cX4_becomeRounded 101 = .ok (.ldc2_w 211, 3) := by decide +kernel
theorem dX4_becomeRounded_104 : decode cX4_becomeRounded 104 = .ok (.lcmp, 1) := by decide +kernel
theorem dX4_becomeRounded_105 : decode cX4_becomeRounded 105 = .ok (.ifCond .ne 11, 3) := by decide +kernel
theorem dX4_becomeRounded_108 : decode cX4_becomeRounded 108 = .ok (.ldc2_w 213, 3) := by decide +kernel
theorem dX4_becomeRounded_111 : decode cX4_becomeRounded 111 = .ok (.lstore 6, 2) := by decide +kernel
theorem dX4_becomeRounded_113 : decode cX4_becomeRounded 113 = .ok (.iinc 8 1, 3) := by decide +kernel
theorem dX4_becomeRounded_116 : decode cX4_becomeRounded 116 = .ok (.iload 8, 2) := by decide +kernel
theorem dX4_becomeRounded_118 : decode cX4_becomeRounded 118 = .ok (.sipush 971, 3) := by decide +kernel
theorem dX4_becomeRounded_121 : decode cX4_becomeRounded 121 = .ok (.if_icmp .le 11, 3) := by decide +kernel
theorem dX4_becomeRounded_124 : decode cX4_becomeRounded 124 = .ok (.aload_n 0, 1) := by decide +kernel
theorem dX4_becomeRounded_125 : decode cX4_becomeRounded 125 = .ok (.iload_n 1, 1) := by decide +kernel
theorem dX4_becomeRounded_126 : decode cX4_becomeRounded 126 = .ok (.invokevirtual 90, 3) := by decide +kernel
theorem dX4_becomeRounded_129 : decode cX4_becomeRounded 129 = .ok (.goto 12, 3) := by decide +kernel
theorem dX4_becomeRounded_132 : decode cX4_becomeRounded 132 = .ok (.aload_n 0, 1) := by decide +kernel
theorem dX4_becomeRounded_133 : decode cX4_becomeRounded 133 = .ok (.iload_n 1, 1) := by decide +kernel
theorem dX4_becomeRounded_134 : decode cX4_becomeRounded 134 = .ok (.lload 6, 2) := by decide +kernel
theorem dX4_becomeRounded_136 : decode cX4_becomeRounded 136 = .ok (.iload 8, 2) := by decide +kernel
theorem dX4_becomeRounded_138 : decode cX4_becomeRounded 138 = .ok (.invokevirtual 174, 3) := by decide +kernel
theorem dX4_becomeRounded_141 : decode cX4_becomeRounded 141 = .ok (.return_, 1) := by decide +kernel
theorem dX4_becomeNearestDecimal_0 : decode cX4_becomeNearestDecimal 0 = .ok (.iload_n 3, 1) := by decide +kernel
theorem dX4_becomeNearestDecimal_1 : decode cX4_becomeNearestDecimal 1 = .ok (.iload_n 2, 1) := by decide +kernel
theorem dX4_becomeNearestDecimal_2 : decode cX4_becomeNearestDecimal 2 = .ok (.iadd, 1) := by decide +kernel
theorem dX4_becomeNearestDecimal_3 : decode cX4_becomeNearestDecimal 3 = .ok (.istore 4, 2) := by decide +kernel
theorem dX4_becomeNearestDecimal_5 : decode cX4_becomeNearestDecimal 5 = .ok (.aload_n 0, 1) := by decide +kernel
theorem dX4_becomeNearestDecimal_6 : decode cX4_becomeNearestDecimal 6 = .ok (.getfield 48, 3) := by decide +kernel
theorem dX4_becomeNearestDecimal_9 : decode cX4_becomeNearestDecimal 9 = .ok (.invokevirtual 178, 3) := by decide +kernel
theorem dX4_becomeNearestDecimal_12 : decode cX4_becomeNearestDecimal 12 = .ok (.ifCond .ne 11, 3) := by decide +kernel
theorem dX4_becomeNearestDecimal_15 : decode cX4_becomeNearestDecimal 15 = .ok (.iload 4, 2) := by decide +kernel
theorem dX4_becomeNearestDecimal_17 : decode cX4_becomeNearestDecimal 17 = .ok (.sipush (-324), 3) := by decide +kernel
theorem dX4_becomeNearestDecimal_20 : decode cX4_becomeNearestDecimal 20 = .ok (.if_icmp .ge 11, 3) := by decide +kernel
theorem dX4_becomeNearestDecimal_23 : decode cX4_becomeNearestDecimal 23 = .ok (.aload_n 0, 1) := by decide +kernel
theorem dX4_becomeNearestDecimal_24 : decode cX4_becomeNearestDecimal 24 = .ok (.iload_n 1, 1) := by decide +kernel
theorem dX4_becomeNearestDecimal_25 : decode cX4_becomeNearestDecimal 25 = .ok (.invokevirtual 181, 3) := by decide +kernel
theorem dX4_becomeNearestDecimal_28 : decode cX4_becomeNearestDecimal 28 = .ok (.goto 57, 3) := by decide +kernel
theorem dX4_becomeNearestDecimal_31 : decode cX4_becomeNearestDecimal 31 = .ok (.iload 4, 2) := by decide +kernel
theorem dX4_becomeNearestDecimal_33 : decode cX4_becomeNearestDecimal 33 = .ok (.sipush 310, 3) := by decide +kernel
theorem dX4_becomeNearestDecimal_36 : decode cX4_becomeNearestDecimal 36 = .ok (.if_icmp .le 11, 3) := by decide +kernel
theorem dX4_becomeNearestDecimal_39 : decode cX4_becomeNearestDecimal 39 = .ok (.aload_n 0, 1) := by decide +kernel
theorem dX4_becomeNearestDecimal_40 : decode cX4_becomeNearestDecimal 40 = .ok (.iload_n 1, 1) := by decide +kernel
theorem dX4_becomeNearestDecimal_41 : decode cX4_becomeNearestDecimal 41 = .ok (.invokevirtual 90, 3) := by decide +kernel
theorem dX4_becomeNearestDecimal_44 : decode cX4_becomeNearestDecimal 44 = .ok (.goto 41, 3) := by decide +kernel
theorem dX4_becomeNearestDecimal_47 : decode cX4_becomeNearestDecimal 47 = .ok (.aload_n 0, 1) := by decide +kernel
theorem dX4_becomeNearestDecimal_48 : decode cX4_becomeNearestDecimal 48 = .ok (.getfield 52, 3) := by decide +kernel
theorem dX4_becomeNearestDecimal_51 : decode cX4_becomeNearestDecimal 51 = .ok (.lconst 1, 1) := by decide +kernel
theorem dX4_becomeNearestDecimal_52 : decode cX4_becomeNearestDecimal 52 = .ok (.invokevirtual 126, 3) := by decide +kernel
theorem dX4_becomeNearestDecimal_55 : decode cX4_becomeNearestDecimal 55 = .ok (.iload_n 2, 1) := by decide +kernel
theorem dX4_becomeNearestDecimal_56 : decode cX4_becomeNearestDecimal 56 = .ok (.ifCond .lt 14, 3) := by decide +kernel
theorem dX4_becomeNearestDecimal_59 : decode cX4_becomeNearestDecimal 59 = .ok (.aload_n 0, 1) := by decide +kernel
theorem dX4_becomeNearestDecimal_60 : decode cX4_becomeNearestDecimal 60 = .ok (.getfield 48, 3) := by decide +kernel
theorem dX4_becomeNearestDecimal_63 : decode cX4_becomeNearestDecimal 63 = .ok (.iload_n 2, 1) := by decide +kernel
theorem dX4_becomeNearestDecimal_64 : decode cX4_becomeNearestDecimal 64 = .ok (.invokevirtual 215, 3) := by decide +kernel
theorem dX4_becomeNearestDecimal_67 : decode cX4_becomeNearestDecimal 67 = .ok (.goto 12, 3) := by decide +kernel
theorem dX4_becomeNearestDecimal_70 : decode cX4_becomeNearestDecimal 70 = .ok (.aload_n 0, 1) := by decide +kernel
theorem dX4_becomeNearestDecimal_71 : decode cX4_becomeNearestDecimal 71 = .ok (.getfield 52, 3) := by decide +kernel
theorem dX4_becomeNearestDecimal_74 : decode cX4_becomeNearestDecimal 74 = .ok (.iload_n 2, 1) := by decide +kernel
theorem dX4_becomeNearestDecimal_75 : decode cX4_becomeNearestDecimal 75 = .ok (.ineg, 1) := by decide +kernel
theorem dX4_becomeNearestDecimal_76 : decode cX4_becomeNearestDecimal 76 = .ok (.invokevirtual 215, 3) := by decide +kernel
theorem dX4_becomeNearestDecimal_79 : decode cX4_becomeNearestDecimal 79 = .ok (.aload_n 0, 1) := by decide +kernel
theorem dX4_becomeNearestDecimal_80 : decode cX4_becomeNearestDecimal 80 = .ok (.iload_n 1, 1) := by decide +kernel
theorem dX4_becomeNearestDecimal_81 : decode cX4_becomeNearestDecimal 81 = .ok (.iload_n 2, 1) := by decide +kernel
theorem dX4_becomeNearestDecimal_82 : decode cX4_becomeNearestDecimal 82 = .ok (.invokevirtual 100, 3) := by decide +kernel
theorem dX4_becomeNearestDecimal_85 : decode cX4_becomeNearestDecimal 85 = .ok (.return_, 1) := by decide +kernel
theorem dX4_becomeExactDecimal_0 : decode cX4_becomeExactDecimal 0 = .ok (.aload_n 0, 1) := by decide +kernel
theorem dX4_becomeExactDecimal_1 : decode cX4_becomeExactDecimal 1 = .ok (.getfield 52, 3) := by decide +kernel
theorem dX4_becomeExactDecimal_4 : decode cX4_becomeExactDecimal 4 = .ok (.lconst 1, 1) := by decide +kernel
theorem dX4_becomeExactDecimal_5 : decode cX4_becomeExactDecimal 5 = .ok (.invokevirtual 126, 3) := by decide +kernel
theorem dX4_becomeExactDecimal_8 : decode cX4_becomeExactDecimal 8 = .ok (.aload_n 0, 1) := by decide +kernel
theorem dX4_becomeExactDecimal_9 : decode cX4_becomeExactDecimal 9 = .ok (.getfield 48, 3) := by decide +kernel
theorem dX4_becomeExactDecimal_12 : decode cX4_becomeExactDecimal 12 = .ok (.invokevirtual 178, 3) := by decide +kernel
theorem dX4_becomeExactDecimal_15 : decode cX4_becomeExactDecimal 15 = .ok (.ifCond .ne 27, 3) := by decide +kernel
theorem dX4_becomeExactDecimal_18 : decode cX4_becomeExactDecimal 18 = .ok (.iload_n 2, 1) := by decide +kernel
theorem dX4_becomeExactDecimal_19 : decode cX4_becomeExactDecimal 19 = .ok (.ifCond .lt 14, 3) := by decide +kernel
theorem dX4_becomeExactDecimal_22 : decode cX4_becomeExactDecimal 22 = .ok (.aload_n 0, 1) := by decide +kernel
theorem dX4_becomeExactDecimal_23 : decode cX4_becomeExactDecimal 23 = .ok (.iload_n 2, 1) := by decide +kernel
theorem dX4_becomeExactDecimal_24 : decode cX4_becomeExactDecimal 24 = .ok (.invokevirtual 218, 3) := by decide +kernel
theorem dX4_becomeExactDecimal_27 : decode cX4_becomeExactDecimal 27 = .ok (.ifCond .eq 20, 3) := by decide +kernel
theorem dX4_becomeExactDecimal_30 : decode cX4_becomeExactDecimal 30 = .ok (.goto 12, 3) := by decide +kernel
theorem dX4_becomeExactDecimal_33 : decode cX4_becomeExactDecimal 33 = .ok (.aload_n 0, 1) := by decide +kernel
theorem dX4_becomeExactDecimal_34 : decode cX4_becomeExactDecimal 34 = .ok (.iload_n 2, 1) := by decide +kernel
theorem dX4_becomeExactDecimal_35 : decode cX4_becomeExactDecimal 35 = .ok (.ineg, 1) := by decide +kernel
theorem dX4_becomeExactDecimal_36 : decode cX4_becomeExactDecimal 36 = .ok (.invokevirtual 222, 3) := by decide +kernel
theorem dX4_becomeExactDecimal_39 : decode cX4_becomeExactDecimal 39 = .ok (.ifCond .eq 8, 3) := by decide +kernel
theorem dX4_becomeExactDecimal_42 : decode cX4_becomeExactDecimal 42 = .ok (.aload_n 0, 1) := by decide +kernel
theorem dX4_becomeExactDecimal_43 : decode cX4_becomeExactDecimal 43 = .ok (.iload_n 1, 1) := by decide +kernel
theorem dX4_becomeExactDecimal_44 : decode cX4_becomeExactDecimal 44 = .ok (.invokevirtual 107, 3) := by decide +kernel
theorem dX4_becomeExactDecimal_47 : decode cX4_becomeExactDecimal 47 = .ok (.return_, 1) := by decide +kernel
theorem dX4_multiplyByTens_0 : decode cX4_multiplyByTens 0 = .ok (.aload_n 0, 1) := by decide +kernel
theorem dX4_multiplyByTens_1 : decode cX4_multiplyByTens 1 = .ok (.getfield 48, 3) := by decide +kernel
theorem dX4_multiplyByTens_4 : decode cX4_multiplyByTens 4 = .ok (.invokevirtual 150, 3) := by decide +kernel
theorem dX4_multiplyByTens_7 : decode cX4_multiplyByTens 7 = .ok (.iconst 1, 1) := by decide +kernel
theorem dX4_multiplyByTens_8 : decode cX4_multiplyByTens 8 = .ok (.isub, 1) := by decide +kernel
theorem dX4_multiplyByTens_9 : decode cX4_multiplyByTens 9 = .ok (.iload_n 1, 1) := by decide +kernel
theorem dX4_multiplyByTens_10 : decode cX4_multiplyByTens 10 = .ok (.sipush 3321, 3) := by decide +kernel
theorem dX4_multiplyByTens_13 : decode cX4_multiplyByTens 13 = .ok (.imul, 1) := by decide +kernel
theorem dX4_multiplyByTens_14 : decode cX4_multiplyByTens 14 = .ok (.sipush 1000, 3) := by decide +kernel
theorem dX4_multiplyByTens_17 : decode cX4_multiplyByTens 17 = .ok (.idiv, 1) := by decide +kernel
theorem dX4_multiplyByTens_18 : decode cX4_multiplyByTens 18 = .ok (.iadd, 1) := by decide +kernel
theorem dX4_multiplyByTens_19 : decode cX4_multiplyByTens 19 = .ok (.sipush 4096, 3) := by decide +kernel
theorem dX4_multiplyByTens_22 : decode cX4_multiplyByTens 22 = .ok (.if_icmp .lt 5, 3) := by decide +kernel
theorem dX4_multiplyByTens_25 : decode cX4_multiplyByTens 25 = .ok (.iconst 0, 1) := by decide +kernel
theorem dX4_multiplyByTens_26 : decode cX4_multiplyByTens 26 = .ok (.ireturn, 1) := by decide +kernel
theorem dX4_multiplyByTens_27 : decode cX4_multiplyByTens 27 = .ok (.aload_n 0, 1) := by decide +kernel
theorem dX4_multiplyByTens_28 : decode cX4_multiplyByTens 28 = .ok (.getfield 48, 3) := by decide +kernel
theorem dX4_multiplyByTens_31 : decode cX4_multiplyByTens 31 = .ok (.iload_n 1, 1) := by decide +kernel
theorem dX4_multiplyByTens_32 : decode cX4_multiplyByTens 32 = .ok (.invokevirtual 215, 3) := by decide +kernel
theorem dX4_multiplyByTens_35 : decode cX4_multiplyByTens 35 = .ok (.aload_n 0, 1) := by decide +kernel
theorem dX4_multiplyByTens_36 : decode cX4_multiplyByTens 36 = .ok (.getfield 48, 3) := by decide +kernel
theorem dX4_multiplyByTens_39 : decode cX4_multiplyByTens 39 = .ok (.iload_n 1, 1) := by decide +kernel
theorem dX4_multiplyByTens_40 : decode cX4_multiplyByTens 40 = .ok (.invokevirtual 130, 3) := by decide +kernel
theorem dX4_multiplyByTens_43 : decode cX4_multiplyByTens 43 = .ok (.aload_n 0, 1) := by decide +kernel
theorem dX4_multiplyByTens_44 : decode cX4_multiplyByTens 44 = .ok (.getfield 48, 3) := by decide +kernel
theorem dX4_multiplyByTens_47 : decode cX4_multiplyByTens 47 = .ok (.invokevirtual 150, 3) := by decide +kernel
theorem dX4_multiplyByTens_50 : decode cX4_multiplyByTens 50 = .ok (.sipush 4096, 3) := by decide +kernel
theorem dX4_multiplyByTens_53 : decode cX4_multiplyByTens 53 = .ok (.if_icmp .gt 7, 3) := by decide +kernel
theorem dX4_multiplyByTens_56 : decode cX4_multiplyByTens 56 = .ok (.iconst 1, 1) := by decide +kernel
theorem dX4_multiplyByTens_57 : decode cX4_multiplyByTens 57 = .ok (.goto 4, 3) := by decide +kernel
theorem dX4_multiplyByTens_60 : decode cX4_multiplyByTens 60 = .ok (.iconst 0, 1) := by decide +kernel
theorem dX4_multiplyByTens_61 : decode cX4_multiplyByTens 61 = .ok (.ireturn, 1) := by decide +kernel
theorem dX4_divideByTens_0 : decode cX4_divideByTens 0 = .ok (.iload_n 1, 1) := by decide +kernel
theorem dX4_divideByTens_1 : decode cX4_divideByTens 1 = .ok (.aload_n 0, 1) := by decide +kernel
theorem dX4_divideByTens_2 : decode cX4_divideByTens 2 = .ok (.getfield 48, 3) := by decide +kernel
theorem dX4_divideByTens_5 : decode cX4_divideByTens 5 = .ok (.invokevirtual 225, 3) := by decide +kernel
theorem dX4_divideByTens_8 : decode cX4_divideByTens 8 = .ok (.iload_n 1, 1) := by decide +kernel
theorem dX4_divideByTens_9 : decode cX4_divideByTens 9 = .ok (.invokestatic 139, 3) := by decide +kernel
theorem dX4_divideByTens_12 : decode cX4_divideByTens 12 = .ok (.isub, 1) := by decide +kernel
theorem dX4_divideByTens_13 : decode cX4_divideByTens 13 = .ok (.istore_n 2, 1) := by decide +kernel
theorem dX4_divideByTens_14 : decode cX4_divideByTens 14 = .ok (.aload_n 0, 1) := by decide +kernel
theorem dX4_divideByTens_15 : decode cX4_divideByTens 15 = .ok (.getfield 48, 3) := by decide +kernel
theorem dX4_divideByTens_18 : decode cX4_divideByTens 18 = .ok (.iload_n 1, 1) := by decide +kernel
theorem dX4_divideByTens_19 : decode cX4_divideByTens 19 = .ok (.iload_n 2, 1) := by decide +kernel
theorem dX4_divideByTens_20 : decode cX4_divideByTens 20 = .ok (.isub, 1) := by decide +kernel
theorem dX4_divideByTens_21 : decode cX4_divideByTens 21 = .ok (.invokevirtual 145, 3) := by decide +kernel
theorem dX4_divideByTens_24 : decode cX4_divideByTens 24 = .ok (.iload_n 1, 1) := by decide +kernel
theorem dX4_divideByTens_25 : decode cX4_divideByTens 25 = .ok (.aload_n 0, 1) := by decide +kernel
theorem dX4_divideByTens_26 : decode cX4_divideByTens 26 = .ok (.getfield 48, 3) := by decide +kernel
theorem dX4_divideByTens_29 : decode cX4_divideByTens 29 = .ok (.iload_n 1, 1) := by decide +kernel
theorem dX4_divideByTens_30 : decode cX4_divideByTens 30 = .ok (.invokevirtual 228, 3) := by decide +kernel
theorem dX4_divideByTens_33 : decode cX4_divideByTens 33 = .ok (.isub, 1) := by decide +kernel
theorem dX4_divideByTens_34 : decode cX4_divideByTens 34 = .ok (.istore_n 3, 1) := by decide +kernel
theorem dX4_divideByTens_35 : decode cX4_divideByTens 35 = .ok (.iload_n 3, 1) := by decide +kernel
theorem dX4_divideByTens_36 : decode cX4_divideByTens 36 = .ok (.sipush 1764, 3) := by decide +kernel
theorem dX4_divideByTens_39 : decode cX4_divideByTens 39 = .ok (.if_icmp .le 5, 3) := by decide +kernel
theorem dX4_divideByTens_42 : decode cX4_divideByTens 42 = .ok (.iconst 0, 1) := by decide +kernel
theorem dX4_divideByTens_43 : decode cX4_divideByTens 43 = .ok (.ireturn, 1) := by decide +kernel
theorem dX4_divideByTens_44 : decode cX4_divideByTens 44 = .ok (.aload_n 0, 1) := by decide +kernel
theorem dX4_divideByTens_45 : decode cX4_divideByTens 45 = .ok (.getfield 52, 3) := by decide +kernel
theorem dX4_divideByTens_48 : decode cX4_divideByTens 48 = .ok (.iload_n 3, 1) := by decide +kernel
theorem dX4_divideByTens_49 : decode cX4_divideByTens 49 = .ok (.invokevirtual 215, 3) := by decide +kernel
theorem dX4_divideByTens_52 : decode cX4_divideByTens 52 = .ok (.aload_n 0, 1) := by decide +kernel
theorem dX4_divideByTens_53 : decode cX4_divideByTens 53 = .ok (.getfield 52, 3) := by decide +kernel
theorem dX4_divideByTens_56 : decode cX4_divideByTens 56 = .ok (.invokevirtual 150, 3) := by decide +kernel
theorem dX4_divideByTens_59 : decode cX4_divideByTens 59 = .ok (.iload_n 2, 1) := by decide +kernel
theorem dX4_divideByTens_60 : decode cX4_divideByTens 60 = .ok (.iadd, 1) := by decide +kernel
theorem dX4_divideByTens_61 : decode cX4_divideByTens 61 = .ok (.sipush 4096, 3) := by decide +kernel
theorem dX4_divideByTens_64 : decode cX4_divideByTens 64 = .ok (.if_icmp .le 5, 3) := by decide +kernel
theorem dX4_divideByTens_67 : decode cX4_divideByTens 67 = .ok (.iconst 0, 1) := by decide +kernel
theorem dX4_divideByTens_68 : decode cX4_divideByTens 68 = .ok (.ireturn, 1) := by decide +kernel
theorem dX4_divideByTens_69 : decode cX4_divideByTens 69 = .ok (.aload_n 0, 1) := by decide +kernel
theorem dX4_divideByTens_70 : decode cX4_divideByTens 70 = .ok (.getfield 52, 3) := by decide +kernel
theorem dX4_divideByTens_73 : decode cX4_divideByTens 73 = .ok (.iload_n 2, 1) := by decide +kernel
theorem dX4_divideByTens_74 : decode cX4_divideByTens 74 = .ok (.invokevirtual 130, 3) := by decide +kernel
theorem dX4_divideByTens_77 : decode cX4_divideByTens 77 = .ok (.iconst 1, 1) := by decide +kernel
theorem dX4_divideByTens_78 : decode cX4_divideByTens 78 = .ok (.ireturn, 1) := by decide +kernel
theorem dX4_bringToLowestTerms_0 : decode cX4_bringToLowestTerms 0 = .ok (.aload_n 0, 1) := by decide +kernel
theorem dX4_bringToLowestTerms_1 : decode cX4_bringToLowestTerms 1 = .ok (.getfield 48, 3) := by decide +kernel
theorem dX4_bringToLowestTerms_4 : decode cX4_bringToLowestTerms 4 = .ok (.invokevirtual 178, 3) := by decide +kernel
theorem dX4_bringToLowestTerms_7 : decode cX4_bringToLowestTerms 7 = .ok (.ifCond .ne 13, 3) := by decide +kernel
theorem dX4_bringToLowestTerms_10 : decode cX4_bringToLowestTerms 10 = .ok (.aload_n 0, 1) := by decide +kernel
theorem dX4_bringToLowestTerms_11 : decode cX4_bringToLowestTerms 11 = .ok (.getfield 52, 3) := by decide +kernel
theorem dX4_bringToLowestTerms_14 : decode cX4_bringToLowestTerms 14 = .ok (.invokevirtual 231, 3) := by decide +kernel
theorem dX4_bringToLowestTerms_17 : decode cX4_bringToLowestTerms 17 = .ok (.ifCond .eq 12, 3) := by decide +kernel
theorem dX4_bringToLowestTerms_20 : decode cX4_bringToLowestTerms 20 = .ok (.aload_n 0, 1) := by decide +kernel
theorem dX4_bringToLowestTerms_21 : decode cX4_bringToLowestTerms 21 = .ok (.getfield 52, 3) := by decide +kernel
theorem dX4_bringToLowestTerms_24 : decode cX4_bringToLowestTerms 24 = .ok (.lconst 1, 1) := by decide +kernel
theorem dX4_bringToLowestTerms_25 : decode cX4_bringToLowestTerms 25 = .ok (.invokevirtual 126, 3) := by decide +kernel
theorem dX4_bringToLowestTerms_28 : decode cX4_bringToLowestTerms 28 = .ok (.return_, 1) := by decide +kernel
theorem dX4_bringToLowestTerms_29 : decode cX4_bringToLowestTerms 29 = .ok (.aload_n 0, 1) := by decide +kernel
theorem dX4_bringToLowestTerms_30 : decode cX4_bringToLowestTerms 30 = .ok (.getfield 48, 3) := by decide +kernel
theorem dX4_bringToLowestTerms_33 : decode cX4_bringToLowestTerms 33 = .ok (.invokevirtual 225, 3) := by decide +kernel
theorem dX4_bringToLowestTerms_36 : decode cX4_bringToLowestTerms 36 = .ok (.aload_n 0, 1) := by decide +kernel
theorem dX4_bringToLowestTerms_37 : decode cX4_bringToLowestTerms 37 = .ok (.getfield 52, 3) := by decide +kernel
theorem dX4_bringToLowestTerms_40 : decode cX4_bringToLowestTerms 40 = .ok (.invokevirtual 225, 3) := by decide +kernel
theorem dX4_bringToLowestTerms_43 : decode cX4_bringToLowestTerms 43 = .ok (.invokestatic 139, 3) := by decide +kernel
theorem dX4_bringToLowestTerms_46 : decode cX4_bringToLowestTerms 46 = .ok (.istore_n 1, 1) := by decide +kernel
theorem dX4_bringToLowestTerms_47 : decode cX4_bringToLowestTerms 47 = .ok (.aload_n 0, 1) := by decide +kernel
theorem dX4_bringToLowestTerms_48 : decode cX4_bringToLowestTerms 48 = .ok (.getfield 48, 3) := by decide +kernel
theorem dX4_bringToLowestTerms_51 : decode cX4_bringToLowestTerms 51 = .ok (.iload_n 1, 1) := by decide +kernel
theorem dX4_bringToLowestTerms_52 : decode cX4_bringToLowestTerms 52 = .ok (.invokevirtual 145, 3) := by decide +kernel
theorem dX4_bringToLowestTerms_55 : decode cX4_bringToLowestTerms 55 = .ok (.aload_n 0, 1) := by decide +kernel
theorem dX4_bringToLowestTerms_56 : decode cX4_bringToLowestTerms 56 = .ok (.getfield 52, 3) := by decide +kernel
theorem dX4_bringToLowestTerms_59 : decode cX4_bringToLowestTerms 59 = .ok (.iload_n 1, 1) := by decide +kernel
theorem dX4_bringToLowestTerms_60 : decode cX4_bringToLowestTerms 60 = .ok (.invokevirtual 145, 3) := by decide +kernel
theorem dX4_bringToLowestTerms_63 : decode cX4_bringToLowestTerms 63 = .ok (.aload_n 0, 1) := by decide +kernel
theorem dX4_bringToLowestTerms_64 : decode cX4_bringToLowestTerms 64 = .ok (.invokevirtual 234, 3) := by decide +kernel
theorem dX4_bringToLowestTerms_67 : decode cX4_bringToLowestTerms 67 = .ok (.astore_n 2, 1) := by decide +kernel
theorem dX4_bringToLowestTerms_68 : decode cX4_bringToLowestTerms 68 = .ok (.aload_n 2, 1) := by decide +kernel
theorem dX4_bringToLowestTerms_69 : decode cX4_bringToLowestTerms 69 = .ok (.invokevirtual 231, 3) := by decide +kernel
theorem dX4_bringToLowestTerms_72 : decode cX4_bringToLowestTerms 72 = .ok (.ifCond .ne 19, 3) := by decide +kernel
theorem dX4_bringToLowestTerms_75 : decode cX4_bringToLowestTerms 75 = .ok (.aload_n 0, 1) := by decide +kernel
theorem dX4_bringToLowestTerms_76 : decode cX4_bringToLowestTerms 76 = .ok (.getfield 48, 3) := by decide +kernel
theorem dX4_bringToLowestTerms_79 : decode cX4_bringToLowestTerms 79 = .ok (.aload_n 2, 1) := by decide +kernel
theorem dX4_bringToLowestTerms_80 : decode cX4_bringToLowestTerms 80 = .ok (.invokevirtual 238, 3) := by decide +kernel
theorem dX4_bringToLowestTerms_83 : decode cX4_bringToLowestTerms 83 = .ok (.aload_n 0, 1) := by decide +kernel
theorem dX4_bringToLowestTerms_84 : decode cX4_bringToLowestTerms 84 = .ok (.getfield 52, 3) := by decide +kernel
theorem dX4_bringToLowestTerms_87 : decode cX4_bringToLowestTerms 87 = .ok (.aload_n 2, 1) := by decide +kernel
theorem dX4_bringToLowestTerms_88 : decode cX4_bringToLowestTerms 88 = .ok (.invokevirtual 238, 3) := by decide +kernel
theorem dX4_bringToLowestTerms_91 : decode cX4_bringToLowestTerms 91 = .ok (.return_, 1) := by decide +kernel
theorem dX4_greatestOddDivisor_0 : decode cX4_greatestOddDivisor 0 = .ok (.aload_n 0, 1) := by decide +kernel
theorem dX4_greatestOddDivisor_1 : decode cX4_greatestOddDivisor 1 = .ok (.getfield 55, 3) := by decide +kernel
theorem dX4_greatestOddDivisor_4 : decode cX4_greatestOddDivisor 4 = .ok (.astore_n 1, 1) := by decide +kernel
theorem dX4_greatestOddDivisor_5 : decode cX4_greatestOddDivisor 5 = .ok (.aload_n 0, 1) := by decide +kernel
theorem dX4_greatestOddDivisor_6 : decode cX4_greatestOddDivisor 6 = .ok (.getfield 58, 3) := by decide +kernel
theorem dX4_greatestOddDivisor_9 : decode cX4_greatestOddDivisor 9 = .ok (.astore_n 2, 1) := by decide +kernel
theorem dX4_greatestOddDivisor_10 : decode cX4_greatestOddDivisor 10 = .ok (.aload_n 1, 1) := by decide +kernel
theorem dX4_greatestOddDivisor_11 : decode cX4_greatestOddDivisor 11 = .ok (.aload_n 0, 1) := by decide +kernel
theorem dX4_greatestOddDivisor_12 : decode cX4_greatestOddDivisor 12 = .ok (.getfield 48, 3) := by decide +kernel
theorem dX4_greatestOddDivisor_15 : decode cX4_greatestOddDivisor 15 = .ok (.invokevirtual 241, 3) := by decide +kernel
theorem dX4_greatestOddDivisor_18 : decode cX4_greatestOddDivisor 18 = .ok (.aload_n 2, 1) := by decide +kernel
theorem dX4_greatestOddDivisor_19 : decode cX4_greatestOddDivisor 19 = .ok (.aload_n 0, 1) := by decide +kernel
theorem dX4_greatestOddDivisor_20 : decode cX4_greatestOddDivisor 20 = .ok (.getfield 52, 3) := by decide +kernel
theorem dX4_greatestOddDivisor_23 : decode cX4_greatestOddDivisor 23 = .ok (.invokevirtual 241, 3) := by decide +kernel
theorem dX4_greatestOddDivisor_26 : decode cX4_greatestOddDivisor 26 = .ok (.aload_n 1, 1) := by decide +kernel
theorem dX4_greatestOddDivisor_27 : decode cX4_greatestOddDivisor 27 = .ok (.aload_n 1, 1) := by decide +kernel
theorem dX4_greatestOddDivisor_28 : decode cX4_greatestOddDivisor 28 = .ok (.invokevirtual 225, 3) := by decide +kernel
theorem dX4_greatestOddDivisor_31 : decode cX4_greatestOddDivisor 31 = .ok (.invokevirtual 145, 3) := by decide +kernel
theorem dX4_greatestOddDivisor_34 : decode cX4_greatestOddDivisor 34 = .ok (.aload_n 2, 1) := by decide +kernel
theorem dX4_greatestOddDivisor_35 : decode cX4_greatestOddDivisor 35 = .ok (.aload_n 2, 1) := by decide +kernel
theorem dX4_greatestOddDivisor_36 : decode cX4_greatestOddDivisor 36 = .ok (.invokevirtual 225, 3) := by decide +kernel
theorem dX4_greatestOddDivisor_39 : decode cX4_greatestOddDivisor 39 = .ok (.invokevirtual 145, 3) := by decide +kernel
theorem dX4_greatestOddDivisor_42 : decode cX4_greatestOddDivisor 42 = .ok (.iconst 0, 1) := by decide +kernel
theorem dX4_greatestOddDivisor_43 : decode cX4_greatestOddDivisor 43 = .ok (.istore_n 3, 1) := by decide +kernel
theorem dX4_greatestOddDivisor_44 : decode cX4_greatestOddDivisor 44 = .ok (.iload_n 3, 1) := by decide +kernel
theorem dX4_greatestOddDivisor_45 : decode cX4_greatestOddDivisor 45 = .ok (.sipush 8448, 3) := by decide +kernel
theorem dX4_greatestOddDivisor_48 : decode cX4_greatestOddDivisor 48 = .ok (.if_icmp .ge 50, 3) := by decide +kernel
theorem dX4_greatestOddDivisor_51 : decode cX4_greatestOddDivisor 51 = .ok (.aload_n 1, 1) := by decide +kernel
theorem dX4_greatestOddDivisor_52 : decode cX4_greatestOddDivisor 52 = .ok (.aload_n 2, 1) := by decide +kernel
theorem dX4_greatestOddDivisor_53 : decode cX4_greatestOddDivisor 53 = .ok (.invokevirtual 197, 3) := by decide +kernel
theorem dX4_greatestOddDivisor_56 : decode cX4_greatestOddDivisor 56 = .ok (.istore 4, 2) := by decide +kernel
theorem dX4_greatestOddDivisor_58 : decode cX4_greatestOddDivisor 58 = .ok (.iload 4, 2) := by decide +kernel
theorem dX4_greatestOddDivisor_60 : decode cX4_greatestOddDivisor 60 = .ok (.ifCond .ne 6, 3) := by decide +kernel
theorem dX4_greatestOddDivisor_63 : decode cX4_greatestOddDivisor 63 = .ok (.goto 35, 3) := by decide +kernel
theorem dX4_greatestOddDivisor_66 : decode cX4_greatestOddDivisor 66 = .ok (.iload 4, 2) := by decide +kernel
theorem dX4_greatestOddDivisor_68 : decode cX4_greatestOddDivisor 68 = .ok (.ifCond .ge 11, 3) := by decide +kernel
theorem dX4_greatestOddDivisor_71 : decode cX4_greatestOddDivisor 71 = .ok (.aload_n 1, 1) := by decide +kernel
theorem dX4_greatestOddDivisor_72 : decode cX4_greatestOddDivisor 72 = .ok (.astore 5, 2) := by decide +kernel
theorem dX4_greatestOddDivisor_74 : decode cX4_greatestOddDivisor 74 = .ok (.aload_n 2, 1) := by decide +kernel
theorem dX4_greatestOddDivisor_75 : decode cX4_greatestOddDivisor 75 = .ok (.astore_n 1, 1) := by decide +kernel
theorem dX4_greatestOddDivisor_76 : decode cX4_greatestOddDivisor 76 = .ok (.aload 5, 2) := by decide +kernel
theorem dX4_greatestOddDivisor_78 : decode cX4_greatestOddDivisor 78 = .ok (.astore_n 2, 1) := by decide +kernel
theorem dX4_greatestOddDivisor_79 : decode cX4_greatestOddDivisor 79 = .ok (.aload_n 1, 1) := by decide +kernel
theorem dX4_greatestOddDivisor_80 : decode cX4_greatestOddDivisor 80 = .ok (.aload_n 2, 1) := by decide +kernel
theorem dX4_greatestOddDivisor_81 : decode cX4_greatestOddDivisor 81 = .ok (.invokevirtual 201, 3) := by decide +kernel
theorem dX4_greatestOddDivisor_84 : decode cX4_greatestOddDivisor 84 = .ok (.aload_n 1, 1) := by decide +kernel
theorem dX4_greatestOddDivisor_85 : decode cX4_greatestOddDivisor 85 = .ok (.aload_n 1, 1) := by decide +kernel
theorem dX4_greatestOddDivisor_86 : decode cX4_greatestOddDivisor 86 = .ok (.invokevirtual 225, 3) := by decide +kernel
theorem dX4_greatestOddDivisor_89 : decode cX4_greatestOddDivisor 89 = .ok (.invokevirtual 145, 3) := by decide +kernel
theorem dX4_greatestOddDivisor_92 : decode cX4_greatestOddDivisor 92 = .ok (.iinc 3 1, 3) := by decide +kernel
theorem dX4_greatestOddDivisor_95 : decode cX4_greatestOddDivisor 95 = .ok (.goto (-51), 3) := by decide +kernel
theorem dX4_greatestOddDivisor_98 : decode cX4_greatestOddDivisor 98 = .ok (.aload_n 2, 1) := by decide +kernel
theorem dX4_greatestOddDivisor_99 : decode cX4_greatestOddDivisor 99 = .ok (.areturn, 1) := by decide +kernel
theorem dX4_appendExactNumber_0 : decode cX4_appendExactNumber 0 = .ok (.aload_n 0, 1) := by decide +kernel
theorem dX4_appendExactNumber_1 : decode cX4_appendExactNumber 1 = .ok (.getfield 27, 3) := by decide +kernel
theorem dX4_appendExactNumber_4 : decode cX4_appendExactNumber 4 = .ok (.aload_n 0, 1) := by decide +kernel
theorem dX4_appendExactNumber_5 : decode cX4_appendExactNumber 5 = .ok (.getfield 48, 3) := by decide +kernel
theorem dX4_appendExactNumber_8 : decode cX4_appendExactNumber 8 = .ok (.invokevirtual 150, 3) := by decide +kernel
theorem dX4_appendExactNumber_11 : decode cX4_appendExactNumber 11 = .ok (.aload_n 0, 1) := by decide +kernel
theorem dX4_appendExactNumber_12 : decode cX4_appendExactNumber 12 = .ok (.getfield 52, 3) := by decide +kernel
theorem dX4_appendExactNumber_15 : decode cX4_appendExactNumber 15 = .ok (.invokevirtual 150, 3) := by decide +kernel
theorem dX4_appendExactNumber_18 : decode cX4_appendExactNumber 18 = .ok (.iadd, 1) := by decide +kernel
theorem dX4_appendExactNumber_19 : decode cX4_appendExactNumber 19 = .ok (.invokevirtual 243, 3) := by decide +kernel
theorem dX4_appendExactNumber_22 : decode cX4_appendExactNumber 22 = .ok (.aload_n 0, 1) := by decide +kernel
theorem dX4_appendExactNumber_23 : decode cX4_appendExactNumber 23 = .ok (.getfield 34, 3) := by decide +kernel
theorem dX4_appendExactNumber_26 : decode cX4_appendExactNumber 26 = .ok (.ifCond .eq 12, 3) := by decide +kernel
theorem dX4_appendExactNumber_29 : decode cX4_appendExactNumber 29 = .ok (.aload_n 0, 1) := by decide +kernel
theorem dX4_appendExactNumber_30 : decode cX4_appendExactNumber 30 = .ok (.getfield 27, 3) := by decide +kernel
theorem dX4_appendExactNumber_33 : decode cX4_appendExactNumber 33 = .ok (.bipush 45, 2) := by decide +kernel
theorem dX4_appendExactNumber_35 : decode cX4_appendExactNumber 35 = .ok (.invokevirtual 72, 3) := by decide +kernel
theorem dX4_appendExactNumber_38 : decode cX4_appendExactNumber 38 = .ok (.aload_n 0, 1) := by decide +kernel
theorem dX4_appendExactNumber_39 : decode cX4_appendExactNumber 39 = .ok (.aload_n 0, 1) := by decide +kernel
theorem dX4_appendExactNumber_40 : decode cX4_appendExactNumber 40 = .ok (.getfield 48, 3) := by decide +kernel
theorem dX4_appendExactNumber_43 : decode cX4_appendExactNumber 43 = .ok (.iload_n 1, 1) := by decide +kernel
theorem dX4_appendExactNumber_44 : decode cX4_appendExactNumber 44 = .ok (.invokevirtual 246, 3) := by decide +kernel
theorem dX4_appendExactNumber_47 : decode cX4_appendExactNumber 47 = .ok (.aload_n 0, 1) := by decide +kernel
theorem dX4_appendExactNumber_48 : decode cX4_appendExactNumber 48 = .ok (.getfield 52, 3) := by decide +kernel
theorem dX4_appendExactNumber_51 : decode cX4_appendExactNumber 51 = .ok (.invokevirtual 231, 3) := by decide +kernel
theorem dX4_appendExactNumber_54 : decode cX4_appendExactNumber 54 = .ok (.ifCond .ne 21, 3) := by decide +kernel
theorem dX4_appendExactNumber_57 : decode cX4_appendExactNumber 57 = .ok (.aload_n 0, 1) := by decide +kernel
theorem dX4_appendExactNumber_58 : decode cX4_appendExactNumber 58 = .ok (.getfield 27, 3) := by decide +kernel
theorem dX4_appendExactNumber_61 : decode cX4_appendExactNumber 61 = .ok (.bipush 47, 2) := by decide +kernel
theorem dX4_appendExactNumber_63 : decode cX4_appendExactNumber 63 = .ok (.invokevirtual 72, 3) := by decide +kernel
theorem dX4_appendExactNumber_66 : decode cX4_appendExactNumber 66 = .ok (.aload_n 0, 1) := by decide +kernel
theorem dX4_appendExactNumber_67 : decode cX4_appendExactNumber 67 = .ok (.aload_n 0, 1) := by decide +kernel
theorem dX4_appendExactNumber_68 : decode cX4_appendExactNumber 68 = .ok (.getfield 52, 3) := by decide +kernel
theorem dX4_appendExactNumber_71 : decode cX4_appendExactNumber 71 = .ok (.iload_n 1, 1) := by decide +kernel
theorem dX4_appendExactNumber_72 : decode cX4_appendExactNumber 72 = .ok (.invokevirtual 246, 3) := by decide +kernel
theorem dX4_appendExactNumber_75 : decode cX4_appendExactNumber 75 = .ok (.return_, 1) := by decide +kernel
theorem dX4_appendNatural_0 : decode cX4_appendNatural 0 = .ok (.iload_n 2, 1) := by decide +kernel
theorem dX4_appendNatural_1 : decode cX4_appendNatural 1 = .ok (.iconst 2, 1) := by decide +kernel
theorem dX4_appendNatural_2 : decode cX4_appendNatural 2 = .ok (.if_icmp .lt 9, 3) := by decide +kernel
theorem dX4_appendNatural_5 : decode cX4_appendNatural 5 = .ok (.iload_n 2, 1) := by decide +kernel
theorem dX4_appendNatural_6 : decode cX4_appendNatural 6 = .ok (.bipush 16, 2) := by decide +kernel
theorem dX4_appendNatural_8 : decode cX4_appendNatural 8 = .ok (.if_icmp .le 4, 3) := by decide +kernel
theorem dX4_appendNatural_11 : decode cX4_appendNatural 11 = .ok (.return_, 1) := by decide +kernel
theorem dX4_appendNatural_12 : decode cX4_appendNatural 12 = .ok (.iload_n 2, 1) := by decide +kernel
theorem dX4_appendNatural_13 : decode cX4_appendNatural 13 = .ok (.istore_n 3, 1) := by decide +kernel
theorem dX4_appendNatural_14 : decode cX4_appendNatural 14 = .ok (.iconst 1, 1) := by decide +kernel
theorem dX4_appendNatural_15 : decode cX4_appendNatural 15 = .ok (.istore 4, 2) := by decide +kernel
theorem dX4_appendNatural_17 : decode cX4_appendNatural 17 = .ok (.iload 4, 2) := by decide +kernel
theorem dX4_appendNatural_19 : decode cX4_appendNatural 19 = .ok (.bipush 31, 2) := by decide +kernel
theorem dX4_appendNatural_21 : decode cX4_appendNatural 21 = .ok (.if_icmp .ge 25, 3) := by decide +kernel
theorem dX4_appendNatural_24 : decode cX4_appendNatural 24 = .ok (.iload_n 3, 1) := by decide +kernel
theorem dX4_appendNatural_25 : decode cX4_appendNatural 25 = .ok (.i2l, 1) := by decide +kernel
theorem dX4_appendNatural_26 : decode cX4_appendNatural 26 = .ok (.iload_n 2, 1) := by decide +kernel
theorem dX4_appendNatural_27 : decode cX4_appendNatural 27 = .ok (.i2l, 1) := by decide +kernel
theorem dX4_appendNatural_28 : decode cX4_appendNatural 28 = .ok (.lmul, 1) := by decide +kernel
theorem dX4_appendNatural_29 : decode cX4_appendNatural 29 = .ok (.ldc2_w 252, 3) := by decide +kernel
theorem dX4_appendNatural_32 : decode cX4_appendNatural 32 = .ok (.lcmp, 1) := by decide +kernel
theorem dX4_appendNatural_33 : decode cX4_appendNatural 33 = .ok (.ifCond .gt 13, 3) := by decide +kernel
theorem dX4_appendNatural_36 : decode cX4_appendNatural 36 = .ok (.iload_n 3, 1) := by decide +kernel
theorem dX4_appendNatural_37 : decode cX4_appendNatural 37 = .ok (.iload_n 2, 1) := by decide +kernel
theorem dX4_appendNatural_38 : decode cX4_appendNatural 38 = .ok (.imul, 1) := by decide +kernel
theorem dX4_appendNatural_39 : decode cX4_appendNatural 39 = .ok (.istore_n 3, 1) := by decide +kernel
theorem dX4_appendNatural_40 : decode cX4_appendNatural 40 = .ok (.iinc 4 1, 3) := by decide +kernel
theorem dX4_appendNatural_43 : decode cX4_appendNatural 43 = .ok (.goto (-26), 3) := by decide +kernel
theorem dX4_appendNatural_46 : decode cX4_appendNatural 46 = .ok (.aload_n 0, 1) := by decide +kernel
theorem dX4_appendNatural_47 : decode cX4_appendNatural 47 = .ok (.getfield 27, 3) := by decide +kernel
theorem dX4_appendNatural_50 : decode cX4_appendNatural 50 = .ok (.invokevirtual 68, 3) := by decide +kernel
theorem dX4_appendNatural_53 : decode cX4_appendNatural 53 = .ok (.istore 5, 2) := by decide +kernel
theorem dX4_appendNatural_55 : decode cX4_appendNatural 55 = .ok (.aload_n 0, 1) := by decide +kernel
theorem dX4_appendNatural_56 : decode cX4_appendNatural 56 = .ok (.getfield 55, 3) := by decide +kernel
theorem dX4_appendNatural_59 : decode cX4_appendNatural 59 = .ok (.aload_n 1, 1) := by decide +kernel
theorem dX4_appendNatural_60 : decode cX4_appendNatural 60 = .ok (.invokevirtual 241, 3) := by decide +kernel
theorem dX4_appendNatural_63 : decode cX4_appendNatural 63 = .ok (.iconst 0, 1) := by decide +kernel
theorem dX4_appendNatural_64 : decode cX4_appendNatural 64 = .ok (.istore 6, 2) := by decide +kernel
theorem dX4_appendNatural_66 : decode cX4_appendNatural 66 = .ok (.iload 6, 2) := by decide +kernel
theorem dX4_appendNatural_68 : decode cX4_appendNatural 68 = .ok (.sipush 4224, 3) := by decide +kernel
theorem dX4_appendNatural_71 : decode cX4_appendNatural 71 = .ok (.if_icmp .ge 37, 3) := by decide +kernel
theorem dX4_appendNatural_74 : decode cX4_appendNatural 74 = .ok (.aload_n 0, 1) := by decide +kernel
theorem dX4_appendNatural_75 : decode cX4_appendNatural 75 = .ok (.getfield 55, 3) := by decide +kernel
theorem dX4_appendNatural_78 : decode cX4_appendNatural 78 = .ok (.invokevirtual 178, 3) := by decide +kernel
theorem dX4_appendNatural_81 : decode cX4_appendNatural 81 = .ok (.ifCond .ne 27, 3) := by decide +kernel
theorem dX4_appendNatural_84 : decode cX4_appendNatural 84 = .ok (.aload_n 0, 1) := by decide +kernel
theorem dX4_appendNatural_85 : decode cX4_appendNatural 85 = .ok (.getfield 27, 3) := by decide +kernel
theorem dX4_appendNatural_88 : decode cX4_appendNatural 88 = .ok (.aload_n 0, 1) := by decide +kernel
theorem dX4_appendNatural_89 : decode cX4_appendNatural 89 = .ok (.getfield 55, 3) := by decide +kernel
theorem dX4_appendNatural_92 : decode cX4_appendNatural 92 = .ok (.iload_n 3, 1) := by decide +kernel
theorem dX4_appendNatural_93 : decode cX4_appendNatural 93 = .ok (.invokevirtual 254, 3) := by decide +kernel
theorem dX4_appendNatural_96 : decode cX4_appendNatural 96 = .ok (.iload_n 2, 1) := by decide +kernel
theorem dX4_appendNatural_97 : decode cX4_appendNatural 97 = .ok (.iload 4, 2) := by decide +kernel
theorem dX4_appendNatural_99 : decode cX4_appendNatural 99 = .ok (.invokevirtual 257, 3) := by decide +kernel
theorem dX4_appendNatural_102 : decode cX4_appendNatural 102 = .ok (.iinc 6 1, 3) := by decide +kernel
theorem dX4_appendNatural_105 : decode cX4_appendNatural 105 = .ok (.goto (-39), 3) := by decide +kernel
theorem dX4_appendNatural_108 : decode cX4_appendNatural 108 = .ok (.aload_n 0, 1) := by decide +kernel
theorem dX4_appendNatural_109 : decode cX4_appendNatural 109 = .ok (.getfield 27, 3) := by decide +kernel
theorem dX4_appendNatural_112 : decode cX4_appendNatural 112 = .ok (.iload 5, 2) := by decide +kernel
theorem dX4_appendNatural_114 : decode cX4_appendNatural 114 = .ok (.invokevirtual 261, 3) := by decide +kernel
theorem dX4_appendNatural_117 : decode cX4_appendNatural 117 = .ok (.aload_n 0, 1) := by decide +kernel
theorem dX4_appendNatural_118 : decode cX4_appendNatural 118 = .ok (.getfield 27, 3) := by decide +kernel
theorem dX4_appendNatural_121 : decode cX4_appendNatural 121 = .ok (.invokevirtual 68, 3) := by decide +kernel
theorem dX4_appendNatural_124 : decode cX4_appendNatural 124 = .ok (.iload 5, 2) := by decide +kernel
theorem dX4_appendNatural_126 : decode cX4_appendNatural 126 = .ok (.if_icmp .ne 12, 3) := by decide +kernel
theorem dX4_appendNatural_129 : decode cX4_appendNatural 129 = .ok (.aload_n 0, 1) := by decide +kernel
theorem dX4_appendNatural_130 : decode cX4_appendNatural 130 = .ok (.getfield 27, 3) := by decide +kernel
theorem dX4_appendNatural_133 : decode cX4_appendNatural 133 = .ok (.bipush 48, 2) := by decide +kernel
theorem dX4_appendNatural_135 : decode cX4_appendNatural 135 = .ok (.invokevirtual 72, 3) := by decide +kernel
theorem dX4_appendNatural_138 : decode cX4_appendNatural 138 = .ok (.aload_n 0, 1) := by decide +kernel
theorem dX4_appendNatural_139 : decode cX4_appendNatural 139 = .ok (.getfield 27, 3) := by decide +kernel
theorem dX4_appendNatural_142 : decode cX4_appendNatural 142 = .ok (.iload 5, 2) := by decide +kernel
theorem dX4_appendNatural_144 : decode cX4_appendNatural 144 = .ok (.invokevirtual 264, 3) := by decide +kernel
theorem dX4_appendNatural_147 : decode cX4_appendNatural 147 = .ok (.return_, 1) := by decide +kernel
theorem dX4_appendFinite_0 : decode cX4_appendFinite 0 = .ok (.aload_n 0, 1) := by decide +kernel
theorem dX4_appendFinite_1 : decode cX4_appendFinite 1 = .ok (.getfield 34, 3) := by decide +kernel
theorem dX4_appendFinite_4 : decode cX4_appendFinite 4 = .ok (.ifCond .eq 12, 3) := by decide +kernel
theorem dX4_appendFinite_7 : decode cX4_appendFinite 7 = .ok (.aload_n 0, 1) := by decide +kernel
theorem dX4_appendFinite_8 : decode cX4_appendFinite 8 = .ok (.getfield 27, 3) := by decide +kernel
theorem dX4_appendFinite_11 : decode cX4_appendFinite 11 = .ok (.bipush 45, 2) := by decide +kernel
theorem dX4_appendFinite_13 : decode cX4_appendFinite 13 = .ok (.invokevirtual 72, 3) := by decide +kernel
theorem dX4_appendFinite_16 : decode cX4_appendFinite 16 = .ok (.aload_n 0, 1) := by decide +kernel
theorem dX4_appendFinite_17 : decode cX4_appendFinite 17 = .ok (.getfield 64, 3) := by decide +kernel
theorem dX4_appendFinite_20 : decode cX4_appendFinite 20 = .ok (.aload_n 0, 1) := by decide +kernel
theorem dX4_appendFinite_21 : decode cX4_appendFinite 21 = .ok (.getfield 38, 3) := by decide +kernel
theorem dX4_appendFinite_24 : decode cX4_appendFinite 24 = .ok (.aload_n 0, 1) := by decide +kernel
theorem dX4_appendFinite_25 : decode cX4_appendFinite 25 = .ok (.getfield 42, 3) := by decide +kernel
theorem dX4_appendFinite_28 : decode cX4_appendFinite 28 = .ok (.invokevirtual 267, 3) := by decide +kernel
theorem dX4_appendFinite_31 : decode cX4_appendFinite 31 = .ok (.aload_n 0, 1) := by decide +kernel
theorem dX4_appendFinite_32 : decode cX4_appendFinite 32 = .ok (.getfield 64, 3) := by decide +kernel
theorem dX4_appendFinite_35 : decode cX4_appendFinite 35 = .ok (.invokevirtual 271, 3) := by decide +kernel
theorem dX4_appendFinite_38 : decode cX4_appendFinite 38 = .ok (.istore_n 1, 1) := by decide +kernel
theorem dX4_appendFinite_39 : decode cX4_appendFinite 39 = .ok (.iload_n 1, 1) := by decide +kernel
theorem dX4_appendFinite_40 : decode cX4_appendFinite 40 = .ok (.ifCond .le 45, 3) := by decide +kernel
theorem dX4_appendFinite_43 : decode cX4_appendFinite 43 = .ok (.iload_n 1, 1) := by decide +kernel
theorem dX4_appendFinite_44 : decode cX4_appendFinite 44 = .ok (.bipush 21, 2) := by decide +kernel
theorem dX4_appendFinite_46 : decode cX4_appendFinite 46 = .ok (.if_icmp .gt 39, 3) := by decide +kernel
theorem dX4_appendFinite_49 : decode cX4_appendFinite 49 = .ok (.aload_n 0, 1) := by decide +kernel
theorem dX4_appendFinite_50 : decode cX4_appendFinite 50 = .ok (.iconst 0, 1) := by decide +kernel
theorem dX4_appendFinite_51 : decode cX4_appendFinite 51 = .ok (.iload_n 1, 1) := by decide +kernel
theorem dX4_appendFinite_52 : decode cX4_appendFinite 52 = .ok (.invokevirtual 274, 3) := by decide +kernel
theorem dX4_appendFinite_55 : decode cX4_appendFinite 55 = .ok (.aload_n 0, 1) := by decide +kernel
theorem dX4_appendFinite_56 : decode cX4_appendFinite 56 = .ok (.getfield 27, 3) := by decide +kernel
theorem dX4_appendFinite_59 : decode cX4_appendFinite 59 = .ok (.bipush 46, 2) := by decide +kernel
theorem dX4_appendFinite_61 : decode cX4_appendFinite 61 = .ok (.invokevirtual 72, 3) := by decide +kernel
theorem dX4_appendFinite_64 : decode cX4_appendFinite 64 = .ok (.aload_n 0, 1) := by decide +kernel
theorem dX4_appendFinite_65 : decode cX4_appendFinite 65 = .ok (.iload_n 1, 1) := by decide +kernel
theorem dX4_appendFinite_66 : decode cX4_appendFinite 66 = .ok (.aload_n 0, 1) := by decide +kernel
theorem dX4_appendFinite_67 : decode cX4_appendFinite 67 = .ok (.getfield 64, 3) := by decide +kernel
theorem dX4_appendFinite_70 : decode cX4_appendFinite 70 = .ok (.invokevirtual 277, 3) := by decide +kernel
theorem dX4_appendFinite_73 : decode cX4_appendFinite 73 = .ok (.iload_n 1, 1) := by decide +kernel
theorem dX4_appendFinite_74 : decode cX4_appendFinite 74 = .ok (.iconst 1, 1) := by decide +kernel
theorem dX4_appendFinite_75 : decode cX4_appendFinite 75 = .ok (.iadd, 1) := by decide +kernel
theorem dX4_appendFinite_76 : decode cX4_appendFinite 76 = .ok (.invokestatic 184, 3) := by decide +kernel
theorem dX4_appendFinite_79 : decode cX4_appendFinite 79 = .ok (.invokevirtual 274, 3) := by decide +kernel
theorem dX4_appendFinite_82 : decode cX4_appendFinite 82 = .ok (.goto 66, 3) := by decide +kernel
theorem dX4_appendFinite_85 : decode cX4_appendFinite 85 = .ok (.iload_n 1, 1) := by decide +kernel
theorem dX4_appendFinite_86 : decode cX4_appendFinite 86 = .ok (.bipush (-7), 2) := by decide +kernel
theorem dX4_appendFinite_88 : decode cX4_appendFinite 88 = .ok (.if_icmp .le 53, 3) := by decide +kernel
theorem dX4_appendFinite_91 : decode cX4_appendFinite 91 = .ok (.iload_n 1, 1) := by decide +kernel
theorem dX4_appendFinite_92 : decode cX4_appendFinite 92 = .ok (.ifCond .gt 49, 3) := by decide +kernel
theorem dX4_appendFinite_95 : decode cX4_appendFinite 95 = .ok (.aload_n 0, 1) := by decide +kernel
theorem dX4_appendFinite_96 : decode cX4_appendFinite 96 = .ok (.getfield 27, 3) := by decide +kernel
theorem dX4_appendFinite_99 : decode cX4_appendFinite 99 = .ok (.ldc_w 280, 3) := by decide +kernel
theorem dX4_appendFinite_102 : decode cX4_appendFinite 102 = .ok (.invokevirtual 161, 3) := by decide +kernel
theorem dX4_appendFinite_105 : decode cX4_appendFinite 105 = .ok (.iload_n 1, 1) := by decide +kernel
theorem dX4_appendFinite_106 : decode cX4_appendFinite 106 = .ok (.istore_n 2, 1) := by decide +kernel
theorem dX4_appendFinite_107 : decode cX4_appendFinite 107 = .ok (.iload_n 2, 1) := by decide +kernel
theorem dX4_appendFinite_108 : decode cX4_appendFinite 108 = .ok (.ifCond .ge 18, 3) := by decide +kernel
theorem dX4_appendFinite_111 : decode cX4_appendFinite 111 = .ok (.aload_n 0, 1) := by decide +kernel
theorem dX4_appendFinite_112 : decode cX4_appendFinite 112 = .ok (.getfield 27, 3) := by decide +kernel
theorem dX4_appendFinite_115 : decode cX4_appendFinite 115 = .ok (.bipush 48, 2) := by decide +kernel
theorem dX4_appendFinite_117 : decode cX4_appendFinite 117 = .ok (.invokevirtual 72, 3) := by decide +kernel
theorem dX4_appendFinite_120 : decode cX4_appendFinite 120 = .ok (.iinc 2 1, 3) := by decide +kernel
theorem dX4_appendFinite_123 : decode cX4_appendFinite 123 = .ok (.goto (-16), 3) := by decide +kernel
theorem dX4_appendFinite_126 : decode cX4_appendFinite 126 = .ok (.aload_n 0, 1) := by decide +kernel
theorem dX4_appendFinite_127 : decode cX4_appendFinite 127 = .ok (.iconst 0, 1) := by decide +kernel
theorem dX4_appendFinite_128 : decode cX4_appendFinite 128 = .ok (.aload_n 0, 1) := by decide +kernel
theorem dX4_appendFinite_129 : decode cX4_appendFinite 129 = .ok (.getfield 64, 3) := by decide +kernel
theorem dX4_appendFinite_132 : decode cX4_appendFinite 132 = .ok (.invokevirtual 277, 3) := by decide +kernel
theorem dX4_appendFinite_135 : decode cX4_appendFinite 135 = .ok (.invokevirtual 274, 3) := by decide +kernel
theorem dX4_appendFinite_138 : decode cX4_appendFinite 138 = .ok (.goto 10, 3) := by decide +kernel
theorem dX4_appendFinite_141 : decode cX4_appendFinite 141 = .ok (.aload_n 0, 1) := by decide +kernel
theorem dX4_appendFinite_142 : decode cX4_appendFinite 142 = .ok (.iload_n 1, 1) := by decide +kernel
theorem dX4_appendFinite_143 : decode cX4_appendFinite 143 = .ok (.iconst 1, 1) := by decide +kernel
theorem dX4_appendFinite_144 : decode cX4_appendFinite 144 = .ok (.isub, 1) := by decide +kernel
theorem dX4_appendFinite_145 : decode cX4_appendFinite 145 = .ok (.invokevirtual 282, 3) := by decide +kernel
theorem dX4_appendFinite_148 : decode cX4_appendFinite 148 = .ok (.return_, 1) := by decide +kernel
theorem dX4_appendWithExponent_0 : decode cX4_appendWithExponent 0 = .ok (.aload_n 0, 1) := by decide +kernel
theorem dX4_appendWithExponent_1 : decode cX4_appendWithExponent 1 = .ok (.iconst 0, 1) := by decide +kernel
theorem dX4_appendWithExponent_2 : decode cX4_appendWithExponent 2 = .ok (.iconst 1, 1) := by decide +kernel
theorem dX4_appendWithExponent_3 : decode cX4_appendWithExponent 3 = .ok (.invokevirtual 274, 3) := by decide +kernel
theorem dX4_appendWithExponent_6 : decode cX4_appendWithExponent 6 = .ok (.aload_n 0, 1) := by decide +kernel
theorem dX4_appendWithExponent_7 : decode cX4_appendWithExponent 7 = .ok (.getfield 64, 3) := by decide +kernel
theorem dX4_appendWithExponent_10 : decode cX4_appendWithExponent 10 = .ok (.invokevirtual 277, 3) := by decide +kernel
theorem dX4_appendWithExponent_13 : decode cX4_appendWithExponent 13 = .ok (.iconst 1, 1) := by decide +kernel
theorem dX4_appendWithExponent_14 : decode cX4_appendWithExponent 14 = .ok (.if_icmp .le 24, 3) := by decide +kernel
theorem dX4_appendWithExponent_17 : decode cX4_appendWithExponent 17 = .ok (.aload_n 0, 1) := by decide +kernel
theorem dX4_appendWithExponent_18 : decode cX4_appendWithExponent 18 = .ok (.getfield 27, 3) := by decide +kernel
theorem dX4_appendWithExponent_21 : decode cX4_appendWithExponent 21 = .ok (.bipush 46, 2) := by decide +kernel
theorem dX4_appendWithExponent_23 : decode cX4_appendWithExponent 23 = .ok (.invokevirtual 72, 3) := by decide +kernel
theorem dX4_appendWithExponent_26 : decode cX4_appendWithExponent 26 = .ok (.aload_n 0, 1) := by decide +kernel
theorem dX4_appendWithExponent_27 : decode cX4_appendWithExponent 27 = .ok (.iconst 1, 1) := by decide +kernel
theorem dX4_appendWithExponent_28 : decode cX4_appendWithExponent 28 = .ok (.aload_n 0, 1) := by decide +kernel
theorem dX4_appendWithExponent_29 : decode cX4_appendWithExponent 29 = .ok (.getfield 64, 3) := by decide +kernel
theorem dX4_appendWithExponent_32 : decode cX4_appendWithExponent 32 = .ok (.invokevirtual 277, 3) := by decide +kernel
theorem dX4_appendWithExponent_35 : decode cX4_appendWithExponent 35 = .ok (.invokevirtual 274, 3) := by decide +kernel
theorem dX4_appendWithExponent_38 : decode cX4_appendWithExponent 38 = .ok (.aload_n 0, 1) := by decide +kernel
theorem dX4_appendWithExponent_39 : decode cX4_appendWithExponent 39 = .ok (.getfield 27, 3) := by decide +kernel
theorem dX4_appendWithExponent_42 : decode cX4_appendWithExponent 42 = .ok (.bipush 101, 2) := by decide +kernel
theorem dX4_appendWithExponent_44 : decode cX4_appendWithExponent 44 = .ok (.invokevirtual 72, 3) := by decide +kernel
theorem dX4_appendWithExponent_47 : decode cX4_appendWithExponent 47 = .ok (.iload_n 1, 1) := by decide +kernel
theorem dX4_appendWithExponent_48 : decode cX4_appendWithExponent 48 = .ok (.ifCond .ge 12, 3) := by decide +kernel
theorem dX4_appendWithExponent_51 : decode cX4_appendWithExponent 51 = .ok (.aload_n 0, 1) := by decide +kernel
theorem dX4_appendWithExponent_52 : decode cX4_appendWithExponent 52 = .ok (.getfield 27, 3) := by decide +kernel
theorem dX4_appendWithExponent_55 : decode cX4_appendWithExponent 55 = .ok (.bipush 45, 2) := by decide +kernel
theorem dX4_appendWithExponent_57 : decode cX4_appendWithExponent 57 = .ok (.invokevirtual 72, 3) := by decide +kernel
theorem dX4_appendWithExponent_60 : decode cX4_appendWithExponent 60 = .ok (.aload_n 0, 1) := by decide +kernel
theorem dX4_appendWithExponent_61 : decode cX4_appendWithExponent 61 = .ok (.getfield 58, 3) := by decide +kernel
theorem dX4_appendWithExponent_64 : decode cX4_appendWithExponent 64 = .ok (.iload_n 1, 1) := by decide +kernel
theorem dX4_appendWithExponent_65 : decode cX4_appendWithExponent 65 = .ok (.invokestatic 285, 3) := by decide +kernel
theorem dX4_appendWithExponent_68 : decode cX4_appendWithExponent 68 = .ok (.i2l, 1) := by decide +kernel
theorem dX4_appendWithExponent_69 : decode cX4_appendWithExponent 69 = .ok (.invokevirtual 126, 3) := by decide +kernel
theorem dX4_appendWithExponent_72 : decode cX4_appendWithExponent 72 = .ok (.aload_n 0, 1) := by decide +kernel
theorem dX4_appendWithExponent_73 : decode cX4_appendWithExponent 73 = .ok (.aload_n 0, 1) := by decide +kernel
theorem dX4_appendWithExponent_74 : decode cX4_appendWithExponent 74 = .ok (.getfield 58, 3) := by decide +kernel
theorem dX4_appendWithExponent_77 : decode cX4_appendWithExponent 77 = .ok (.bipush 10, 2) := by decide +kernel
theorem dX4_appendWithExponent_79 : decode cX4_appendWithExponent 79 = .ok (.invokevirtual 246, 3) := by decide +kernel
theorem dX4_appendWithExponent_82 : decode cX4_appendWithExponent 82 = .ok (.return_, 1) := by decide +kernel
theorem dX4_appendShortest_0 : decode cX4_appendShortest 0 = .ok (.iload_n 1, 1) := by decide +kernel
theorem dX4_appendShortest_1 : decode cX4_appendShortest 1 = .ok (.istore_n 3, 1) := by decide +kernel
theorem dX4_appendShortest_2 : decode cX4_appendShortest 2 = .ok (.iload_n 3, 1) := by decide +kernel
theorem dX4_appendShortest_3 : decode cX4_appendShortest 3 = .ok (.iload_n 2, 1) := by decide +kernel
theorem dX4_appendShortest_4 : decode cX4_appendShortest 4 = .ok (.if_icmp .ge 27, 3) := by decide +kernel
theorem dX4_appendShortest_7 : decode cX4_appendShortest 7 = .ok (.aload_n 0, 1) := by decide +kernel
theorem dX4_appendShortest_8 : decode cX4_appendShortest 8 = .ok (.getfield 27, 3) := by decide +kernel
theorem dX4_appendShortest_11 : decode cX4_appendShortest 11 = .ok (.bipush 48, 2) := by decide +kernel
theorem dX4_appendShortest_13 : decode cX4_appendShortest 13 = .ok (.aload_n 0, 1) := by decide +kernel
theorem dX4_appendShortest_14 : decode cX4_appendShortest 14 = .ok (.getfield 64, 3) := by decide +kernel
theorem dX4_appendShortest_17 : decode cX4_appendShortest 17 = .ok (.iload_n 3, 1) := by decide +kernel
theorem dX4_appendShortest_18 : decode cX4_appendShortest 18 = .ok (.invokevirtual 288, 3) := by decide +kernel
theorem dX4_appendShortest_21 : decode cX4_appendShortest 21 = .ok (.iadd, 1) := by decide +kernel
theorem dX4_appendShortest_22 : decode cX4_appendShortest 22 = .ok (.invokevirtual 72, 3) := by decide +kernel
theorem dX4_appendShortest_25 : decode cX4_appendShortest 25 = .ok (.iinc 3 1, 3) := by decide +kernel
theorem dX4_appendShortest_28 : decode cX4_appendShortest 28 = .ok (.goto (-26), 3) := by decide +kernel
theorem dX4_appendShortest_31 : decode cX4_appendShortest 31 = .ok (.return_, 1) := by decide +kernel
theorem dX5_init_0 : decode cX5_init 0 = .ok (.aload_n 0, 1) := by decide +kernel
theorem dX5_init_1 : decode cX5_init 1 = .ok (.invokespecial 1, 3) := by decide +kernel
theorem dX5_init_4 : decode cX5_init 4 = .ok (.return_, 1) := by decide +kernel
theorem dX6_init_0 : decode cX6_init 0 = .ok (.aload_n 0, 1) := by decide +kernel
theorem dX6_init_1 : decode cX6_init 1 = .ok (.invokespecial 1, 3) := by decide +kernel
theorem dX6_init_4 : decode cX6_init 4 = .ok (.aload_n 0, 1) := by decide +kernel
theorem dX6_init_5 : decode cX6_init 5 = .ok (.aload_n 1, 1) := by decide +kernel
theorem dX6_init_6 : decode cX6_init 6 = .ok (.putfield 7, 3) := by decide +kernel
theorem dX6_init_9 : decode cX6_init 9 = .ok (.aload_n 0, 1) := by decide +kernel
theorem dX6_init_10 : decode cX6_init 10 = .ok (.aload_n 2, 1) := by decide +kernel
theorem dX6_init_11 : decode cX6_init 11 = .ok (.putfield 13, 3) := by decide +kernel
theorem dX6_init_14 : decode cX6_init 14 = .ok (.return_, 1) := by decide +kernel
theorem dX7_init_0 : decode cX7_init 0 = .ok (.aload_n 0, 1) := by decide +kernel
theorem dX7_init_1 : decode cX7_init 1 = .ok (.invokespecial 1, 3) := by decide +kernel
theorem dX7_init_4 : decode cX7_init 4 = .ok (.aload_n 0, 1) := by decide +kernel
theorem dX7_init_5 : decode cX7_init 5 = .ok (.dload_n 1, 1) := by decide +kernel
theorem dX7_init_6 : decode cX7_init 6 = .ok (.putfield 7, 3) := by decide +kernel
theorem dX7_init_9 : decode cX7_init 9 = .ok (.aload_n 0, 1) := by decide +kernel
theorem dX7_init_10 : decode cX7_init 10 = .ok (.iload_n 3, 1) := by decide +kernel
theorem dX7_init_11 : decode cX7_init 11 = .ok (.putfield 13, 3) := by decide +kernel
theorem dX7_init_14 : decode cX7_init 14 = .ok (.return_, 1) := by decide +kernel
theorem dX7_of_0 : decode cX7_of 0 = .ok (.new 8, 3) := by decide +kernel
theorem dX7_of_3 : decode cX7_of 3 = .ok (.dup, 1) := by decide +kernel
theorem dX7_of_4 : decode cX7_of 4 = .ok (.dload_n 0, 1) := by decide +kernel
theorem dX7_of_5 : decode cX7_of 5 = .ok (.iconst 0, 1) := by decide +kernel
theorem dX7_of_6 : decode cX7_of 6 = .ok (.invokespecial 17, 3) := by decide +kernel
theorem dX7_of_9 : decode cX7_of 9 = .ok (.areturn, 1) := by decide +kernel
theorem dX8_init_0 : decode cX8_init 0 = .ok (.aload_n 0, 1) := by decide +kernel
theorem dX8_init_1 : decode cX8_init 1 = .ok (.invokespecial 3, 3) := by decide +kernel
theorem dX8_init_4 : decode cX8_init 4 = .ok (.aload_n 0, 1) := by decide +kernel
theorem dX8_init_5 : decode cX8_init 5 = .ok (.iload_n 1, 1) := by decide +kernel
theorem dX8_init_6 : decode cX8_init 6 = .ok (.putfield 9, 3) := by decide +kernel
theorem dX8_init_9 : decode cX8_init 9 = .ok (.aload_n 0, 1) := by decide +kernel
theorem dX8_init_10 : decode cX8_init 10 = .ok (.aload_n 2, 1) := by decide +kernel
theorem dX8_init_11 : decode cX8_init 11 = .ok (.putfield 15, 3) := by decide +kernel
theorem dX8_init_14 : decode cX8_init 14 = .ok (.return_, 1) := by decide +kernel
theorem dX8_isZero_0 : decode cX8_isZero 0 = .ok (.aload_n 0, 1) := by decide +kernel
theorem dX8_isZero_1 : decode cX8_isZero 1 = .ok (.getfield 15, 3) := by decide +kernel
theorem dX8_isZero_4 : decode cX8_isZero 4 = .ok (.arraylength, 1) := by decide +kernel
theorem dX8_isZero_5 : decode cX8_isZero 5 = .ok (.ifCond .ne 7, 3) := by decide +kernel
theorem dX8_isZero_8 : decode cX8_isZero 8 = .ok (.iconst 1, 1) := by decide +kernel
theorem dX8_isZero_9 : decode cX8_isZero 9 = .ok (.goto 4, 3) := by decide +kernel
theorem dX8_isZero_12 : decode cX8_isZero 12 = .ok (.iconst 0, 1) := by decide +kernel
theorem dX8_isZero_13 : decode cX8_isZero 13 = .ok (.ireturn, 1) := by decide +kernel
theorem dX8_isOne_0 : decode cX8_isOne 0 = .ok (.aload_n 0, 1) := by decide +kernel
theorem dX8_isOne_1 : decode cX8_isOne 1 = .ok (.getfield 9, 3) := by decide +kernel
theorem dX8_isOne_4 : decode cX8_isOne 4 = .ok (.ifCond .le 26, 3) := by decide +kernel
theorem dX8_isOne_7 : decode cX8_isOne 7 = .ok (.aload_n 0, 1) := by decide +kernel
theorem dX8_isOne_8 : decode cX8_isOne 8 = .ok (.getfield 15, 3) := by decide +kernel
theorem dX8_isOne_11 : decode cX8_isOne 11 = .ok (.arraylength, 1) := by decide +kernel
theorem dX8_isOne_12 : decode cX8_isOne 12 = .ok (.iconst 1, 1) := by decide +kernel
theorem dX8_isOne_13 : decode cX8_isOne 13 = .ok (.if_icmp .ne 17, 3) := by decide +kernel
theorem dX8_isOne_16 : decode cX8_isOne 16 = .ok (.aload_n 0, 1) := by decide +kernel
theorem dX8_isOne_17 : decode cX8_isOne 17 = .ok (.getfield 15, 3) := by decide +kernel
theorem dX8_isOne_20 : decode cX8_isOne 20 = .ok (.iconst 0, 1) := by decide +kernel
theorem dX8_isOne_21 : decode cX8_isOne 21 = .ok (.iaload, 1) := by decide +kernel
theorem dX8_isOne_22 : decode cX8_isOne 22 = .ok (.iconst 1, 1) := by decide +kernel
theorem dX8_isOne_23 : decode cX8_isOne 23 = .ok (.if_icmp .ne 7, 3) := by decide +kernel
theorem dX8_isOne_26 : decode cX8_isOne 26 = .ok (.iconst 1, 1) := by decide +kernel
theorem dX8_isOne_27 : decode cX8_isOne 27 = .ok (.goto 4, 3) := by decide +kernel
theorem dX8_isOne_30 : decode cX8_isOne 30 = .ok (.iconst 0, 1) := by decide +kernel
theorem dX8_isOne_31 : decode cX8_isOne 31 = .ok (.ireturn, 1) := by decide +kernel
theorem dX8_negative_0 : decode cX8_negative 0 = .ok (.aload_n 0, 1) := by decide +kernel
theorem dX8_negative_1 : decode cX8_negative 1 = .ok (.invokevirtual 19, 3) := by decide +kernel
theorem dX8_negative_4 : decode cX8_negative 4 = .ok (.ifCond .eq 7, 3) := by decide +kernel
theorem dX8_negative_7 : decode cX8_negative 7 = .ok (.aload_n 0, 1) := by decide +kernel
theorem dX8_negative_8 : decode cX8_negative 8 = .ok (.goto 19, 3) := by decide +kernel
theorem dX8_negative_11 : decode cX8_negative 11 = .ok (.new 10, 3) := by decide +kernel
theorem dX8_negative_14 : decode cX8_negative 14 = .ok (.dup, 1) := by decide +kernel
theorem dX8_negative_15 : decode cX8_negative 15 = .ok (.aload_n 0, 1) := by decide +kernel
theorem dX8_negative_16 : decode cX8_negative 16 = .ok (.getfield 9, 3) := by decide +kernel
theorem dX8_negative_19 : decode cX8_negative 19 = .ok (.ineg, 1) := by decide +kernel
theorem dX8_negative_20 : decode cX8_negative 20 = .ok (.aload_n 0, 1) := by decide +kernel
theorem dX8_negative_21 : decode cX8_negative 21 = .ok (.getfield 15, 3) := by decide +kernel
theorem dX8_negative_24 : decode cX8_negative 24 = .ok (.invokespecial 23, 3) := by decide +kernel
theorem dX8_negative_27 : decode cX8_negative 27 = .ok (.areturn, 1) := by decide +kernel
theorem dX8_asLong_0 : decode cX8_asLong 0 = .ok (.lconst 0, 1) := by decide +kernel
theorem dX8_asLong_1 : decode cX8_asLong 1 = .ok (.lstore_n 1, 1) := by decide +kernel
theorem dX8_asLong_2 : decode cX8_asLong 2 = .ok (.aload_n 0, 1) := by decide +kernel
theorem dX8_asLong_3 : decode cX8_asLong 3 = .ok (.getfield 15, 3) := by decide +kernel
theorem dX8_asLong_6 : decode cX8_asLong 6 = .ok (.arraylength, 1) := by decide +kernel
theorem dX8_asLong_7 : decode cX8_asLong 7 = .ok (.iconst 1, 1) := by decide +kernel
theorem dX8_asLong_8 : decode cX8_asLong 8 = .ok (.isub, 1) := by decide +kernel
theorem dX8_asLong_9 : decode cX8_asLong 9 = .ok (.istore_n 3, 1) := by decide +kernel
theorem dX8_asLong_10 : decode cX8_asLong 10 = .ok (.iload_n 3, 1) := by decide +kernel
theorem dX8_asLong_11 : decode cX8_asLong 11 = .ok (.ifCond .lt 28, 3) := by decide +kernel
theorem dX8_asLong_14 : decode cX8_asLong 14 = .ok (.lload_n 1, 1) := by decide +kernel
theorem dX8_asLong_15 : decode cX8_asLong 15 = .ok (.ldc2_w 30, 3) := by decide +kernel
theorem dX8_asLong_18 : decode cX8_asLong 18 = .ok (.lmul, 1) := by decide +kernel
theorem dX8_asLong_19 : decode cX8_asLong 19 = .ok (.aload_n 0, 1) := by decide +kernel
theorem dX8_asLong_20 : decode cX8_asLong 20 = .ok (.getfield 9, 3) := by decide +kernel
theorem dX8_asLong_23 : decode cX8_asLong 23 = .ok (.aload_n 0, 1) := by decide +kernel
theorem dX8_asLong_24 : decode cX8_asLong 24 = .ok (.getfield 15, 3) := by decide +kernel
theorem dX8_asLong_27 : decode cX8_asLong 27 = .ok (.iload_n 3, 1) := by decide +kernel
theorem dX8_asLong_28 : decode cX8_asLong 28 = .ok (.iaload, 1) := by decide +kernel
theorem dX8_asLong_29 : decode cX8_asLong 29 = .ok (.imul, 1) := by decide +kernel
theorem dX8_asLong_30 : decode cX8_asLong 30 = .ok (.i2l, 1) := by decide +kernel
theorem dX8_asLong_31 : decode cX8_asLong 31 = .ok (.ladd, 1) := by decide +kernel
theorem dX8_asLong_32 : decode cX8_asLong 32 = .ok (.lstore_n 1, 1) := by decide +kernel
theorem dX8_asLong_33 : decode cX8_asLong 33 = .ok (.iinc 3 (-1), 3) := by decide +kernel
theorem dX8_asLong_36 : decode cX8_asLong 36 = .ok (.goto (-26), 3) := by decide +kernel
theorem dX8_asLong_39 : decode cX8_asLong 39 = .ok (.lload_n 1, 1) := by decide +kernel
theorem dX8_asLong_40 : decode cX8_asLong 40 = .ok (.lreturn, 1) := by decide +kernel
end
section
theorem dX9_zero_0 : decode cX9_zero 0 = .ok (.new 1, 3) := by decide +kernel
theorem dX9_zero_3 : decode cX9_zero 3 = .ok (.dup, 1) := by decide +kernel
theorem dX9_zero_4 : decode cX9_zero 4 = .ok (.iconst 0, 1) := by decide +kernel
theorem dX9_zero_5 : decode cX9_zero 5 = .ok (.iconst 0, 1) := by decide +kernel
theorem dX9_zero_6 : decode cX9_zero 6 = .ok (.newarray .int, 2) := by decide +kernel
theorem dX9_zero_8 : decode cX9_zero 8 = .ok (.invokespecial 3, 3) := by decide +kernel
theorem dX9_zero_11 : decode cX9_zero 11 = .ok (.areturn, 1) := by decide +kernel
theorem dX9_whole_0 : decode cX9_whole 0 = .ok (.lload_n 0, 1) := by decide +kernel
theorem dX9_whole_1 : decode cX9_whole 1 = .ok (.lconst 0, 1) := by decide +kernel
theorem dX9_whole_2 : decode cX9_whole 2 = .ok (.lcmp, 1) := by decide +kernel
theorem dX9_whole_3 : decode cX9_whole 3 = .ok (.ifCond .ne 7, 3) := by decide +kernel
theorem dX9_whole_6 : decode cX9_whole 6 = .ok (.invokestatic 7, 3) := by decide +kernel
theorem dX9_whole_9 : decode cX9_whole 9 = .ok (.areturn, 1) := by decide +kernel
theorem dX9_whole_10 : decode cX9_whole 10 = .ok (.iconst 0, 1) := by decide +kernel
theorem dX9_whole_11 : decode cX9_whole 11 = .ok (.istore_n 2, 1) := by decide +kernel
theorem dX9_whole_12 : decode cX9_whole 12 = .ok (.lload_n 0, 1) := by decide +kernel
theorem dX9_whole_13 : decode cX9_whole 13 = .ok (.lstore_n 3, 1) := by decide +kernel
theorem dX9_whole_14 : decode cX9_whole 14 = .ok (.lload_n 3, 1) := by decide +kernel
theorem dX9_whole_15 : decode cX9_whole 15 = .ok (.lconst 0, 1) := by decide +kernel
theorem dX9_whole_16 : decode cX9_whole 16 = .ok (.lcmp, 1) := by decide +kernel
theorem dX9_whole_17 : decode cX9_whole 17 = .ok (.ifCond .eq 15, 3) := by decide +kernel
theorem dX9_whole_20 : decode cX9_whole 20 = .ok (.iinc 2 1, 3) := by decide +kernel
theorem dX9_whole_23 : decode cX9_whole 23 = .ok (.lload_n 3, 1) := by decide +kernel
theorem dX9_whole_24 : decode cX9_whole 24 = .ok (.ldc2_w 13, 3) := by decide +kernel
theorem dX9_whole_27 : decode cX9_whole 27 = .ok (.ldiv, 1) := by decide +kernel
theorem dX9_whole_28 : decode cX9_whole 28 = .ok (.lstore_n 3, 1) := by decide +kernel
theorem dX9_whole_29 : decode cX9_whole 29 = .ok (.goto (-15), 3) := by decide +kernel
theorem dX9_whole_32 : decode cX9_whole 32 = .ok (.iload_n 2, 1) := by decide +kernel
theorem dX9_whole_33 : decode cX9_whole 33 = .ok (.newarray .int, 2) := by decide +kernel
theorem dX9_whole_35 : decode cX9_whole 35 = .ok (.astore_n 3, 1) := by decide +kernel
theorem dX9_whole_36 : decode cX9_whole 36 = .ok (.lload_n 0, 1) := by decide +kernel
theorem dX9_whole_37 : decode cX9_whole 37 = .ok (.lstore 4, 2) := by decide +kernel
theorem dX9_whole_39 : decode cX9_whole 39 = .ok (.iconst 0, 1) := by decide +kernel
theorem dX9_whole_40 : decode cX9_whole 40 = .ok (.istore 6, 2) := by decide +kernel
theorem dX9_whole_42 : decode cX9_whole 42 = .ok (.iload 6, 2) := by decide +kernel
theorem dX9_whole_44 : decode cX9_whole 44 = .ok (.iload_n 2, 1) := by decide +kernel
theorem dX9_whole_45 : decode cX9_whole 45 = .ok (.if_icmp .ge 45, 3) := by decide +kernel
theorem dX9_whole_48 : decode cX9_whole 48 = .ok (.lload 4, 2) := by decide +kernel
theorem dX9_whole_50 : decode cX9_whole 50 = .ok (.ldc2_w 13, 3) := by decide +kernel
theorem dX9_whole_53 : decode cX9_whole 53 = .ok (.lrem, 1) := by decide +kernel
theorem dX9_whole_54 : decode cX9_whole 54 = .ok (.lstore 7, 2) := by decide +kernel
theorem dX9_whole_56 : decode cX9_whole 56 = .ok (.aload_n 3, 1) := by decide +kernel
theorem dX9_whole_57 : decode cX9_whole 57 = .ok (.iload 6, 2) := by decide +kernel
theorem dX9_whole_59 : decode cX9_whole 59 = .ok (.lload 7, 2) := by decide +kernel
theorem dX9_whole_61 : decode cX9_whole 61 = .ok (.lconst 0, 1) := by decide +kernel
theorem dX9_whole_62 : decode cX9_whole 62 = .ok (.lcmp, 1) := by decide +kernel
theorem dX9_whole_63 : decode cX9_whole 63 = .ok (.ifCond .ge 9, 3) := by decide +kernel
theorem dX9_whole_66 : decode cX9_whole 66 = .ok (.lload 7, 2) := by decide +kernel
theorem dX9_whole_68 : decode cX9_whole 68 = .ok (.lneg, 1) := by decide +kernel
theorem dX9_whole_69 : decode cX9_whole 69 = .ok (.goto 5, 3) := by decide +kernel
theorem dX9_whole_72 : decode cX9_whole 72 = .ok (.lload 7, 2) := by decide +kernel
theorem dX9_whole_74 : decode cX9_whole 74 = .ok (.l2i, 1) := by decide +kernel
theorem dX9_whole_75 : decode cX9_whole 75 = .ok (.iastore, 1) := by decide +kernel
theorem dX9_whole_76 : decode cX9_whole 76 = .ok (.lload 4, 2) := by decide +kernel
theorem dX9_whole_78 : decode cX9_whole 78 = .ok (.ldc2_w 13, 3) := by decide +kernel
theorem dX9_whole_81 : decode cX9_whole 81 = .ok (.ldiv, 1) := by decide +kernel
theorem dX9_whole_82 : decode cX9_whole 82 = .ok (.lstore 4, 2) := by decide +kernel
theorem dX9_whole_84 : decode cX9_whole 84 = .ok (.iinc 6 1, 3) := by decide +kernel
theorem dX9_whole_87 : decode cX9_whole 87 = .ok (.goto (-45), 3) := by decide +kernel
theorem dX9_whole_90 : decode cX9_whole 90 = .ok (.new 1, 3) := by decide +kernel
theorem dX9_whole_93 : decode cX9_whole 93 = .ok (.dup, 1) := by decide +kernel
theorem dX9_whole_94 : decode cX9_whole 94 = .ok (.lload_n 0, 1) := by decide +kernel
theorem dX9_whole_95 : decode cX9_whole 95 = .ok (.lconst 0, 1) := by decide +kernel
theorem dX9_whole_96 : decode cX9_whole 96 = .ok (.lcmp, 1) := by decide +kernel
theorem dX9_whole_97 : decode cX9_whole 97 = .ok (.ifCond .ge 7, 3) := by decide +kernel
theorem dX9_whole_100 : decode cX9_whole 100 = .ok (.iconst (-1), 1) := by decide +kernel
theorem dX9_whole_101 : decode cX9_whole 101 = .ok (.goto 4, 3) := by decide +kernel
theorem dX9_whole_104 : decode cX9_whole 104 = .ok (.iconst 1, 1) := by decide +kernel
theorem dX9_whole_105 : decode cX9_whole 105 = .ok (.aload_n 3, 1) := by decide +kernel
theorem dX9_whole_106 : decode cX9_whole 106 = .ok (.invokespecial 3, 3) := by decide +kernel
theorem dX9_whole_109 : decode cX9_whole 109 = .ok (.areturn, 1) := by decide +kernel
theorem dX9_used_0 : decode cX9_used 0 = .ok (.iload_n 1, 1) := by decide +kernel
theorem dX9_used_1 : decode cX9_used 1 = .ok (.istore_n 2, 1) := by decide +kernel
theorem dX9_used_2 : decode cX9_used 2 = .ok (.iload_n 2, 1) := by decide +kernel
theorem dX9_used_3 : decode cX9_used 3 = .ok (.ifCond .le 17, 3) := by decide +kernel
theorem dX9_used_6 : decode cX9_used 6 = .ok (.aload_n 0, 1) := by decide +kernel
theorem dX9_used_7 : decode cX9_used 7 = .ok (.iload_n 2, 1) := by decide +kernel
theorem dX9_used_8 : decode cX9_used 8 = .ok (.iconst 1, 1) := by decide +kernel
theorem dX9_used_9 : decode cX9_used 9 = .ok (.isub, 1) := by decide +kernel
theorem dX9_used_10 : decode cX9_used 10 = .ok (.iaload, 1) := by decide +kernel
theorem dX9_used_11 : decode cX9_used 11 = .ok (.ifCond .ne 9, 3) := by decide +kernel
theorem dX9_used_14 : decode cX9_used 14 = .ok (.iinc 2 (-1), 3) := by decide +kernel
theorem dX9_used_17 : decode cX9_used 17 = .ok (.goto (-15), 3) := by decide +kernel
theorem dX9_used_20 : decode cX9_used 20 = .ok (.iload_n 2, 1) := by decide +kernel
theorem dX9_used_21 : decode cX9_used 21 = .ok (.ireturn, 1) := by decide +kernel
theorem dX9_wholeOf_0 : decode cX9_wholeOf 0 = .ok (.aload_n 1, 1) := by decide +kernel
theorem dX9_wholeOf_1 : decode cX9_wholeOf 1 = .ok (.iload_n 2, 1) := by decide +kernel
theorem dX9_wholeOf_2 : decode cX9_wholeOf 2 = .ok (.invokestatic 15, 3) := by decide +kernel
theorem dX9_wholeOf_5 : decode cX9_wholeOf 5 = .ok (.istore_n 3, 1) := by decide +kernel
theorem dX9_wholeOf_6 : decode cX9_wholeOf 6 = .ok (.iload_n 3, 1) := by decide +kernel
theorem dX9_wholeOf_7 : decode cX9_wholeOf 7 = .ok (.ifCond .ne 9, 3) := by decide +kernel
theorem dX9_wholeOf_10 : decode cX9_wholeOf 10 = .ok (.invokestatic 7, 3) := by decide +kernel
theorem dX9_wholeOf_13 : decode cX9_wholeOf 13 = .ok (.goto 16, 3) := by decide +kernel
theorem dX9_wholeOf_16 : decode cX9_wholeOf 16 = .ok (.new 1, 3) := by decide +kernel
theorem dX9_wholeOf_19 : decode cX9_wholeOf 19 = .ok (.dup, 1) := by decide +kernel
theorem dX9_wholeOf_20 : decode cX9_wholeOf 20 = .ok (.iload_n 0, 1) := by decide +kernel
theorem dX9_wholeOf_21 : decode cX9_wholeOf 21 = .ok (.aload_n 1, 1) := by decide +kernel
theorem dX9_wholeOf_22 : decode cX9_wholeOf 22 = .ok (.iload_n 3, 1) := by decide +kernel
theorem dX9_wholeOf_23 : decode cX9_wholeOf 23 = .ok (.invokestatic 19, 3) := by decide +kernel
theorem dX9_wholeOf_26 : decode cX9_wholeOf 26 = .ok (.invokespecial 3, 3) := by decide +kernel
theorem dX9_wholeOf_29 : decode cX9_wholeOf 29 = .ok (.areturn, 1) := by decide +kernel
theorem dX9_compareRows_0 : decode cX9_compareRows 0 = .ok (.iload_n 1, 1) := by decide +kernel
theorem dX9_compareRows_1 : decode cX9_compareRows 1 = .ok (.iload_n 3, 1) := by decide +kernel
theorem dX9_compareRows_2 : decode cX9_compareRows 2 = .ok (.if_icmp .eq 14, 3) := by decide +kernel
theorem dX9_compareRows_5 : decode cX9_compareRows 5 = .ok (.iload_n 1, 1) := by decide +kernel
theorem dX9_compareRows_6 : decode cX9_compareRows 6 = .ok (.iload_n 3, 1) := by decide +kernel
theorem dX9_compareRows_7 : decode cX9_compareRows 7 = .ok (.if_icmp .ge 7, 3) := by decide +kernel
theorem dX9_compareRows_10 : decode cX9_compareRows 10 = .ok (.iconst (-1), 1) := by decide +kernel
theorem dX9_compareRows_11 : decode cX9_compareRows 11 = .ok (.goto 4, 3) := by decide +kernel
theorem dX9_compareRows_14 : decode cX9_compareRows 14 = .ok (.iconst 1, 1) := by decide +kernel
theorem dX9_compareRows_15 : decode cX9_compareRows 15 = .ok (.ireturn, 1) := by decide +kernel
theorem dX9_compareRows_16 : decode cX9_compareRows 16 = .ok (.iload_n 1, 1) := by decide +kernel
theorem dX9_compareRows_17 : decode cX9_compareRows 17 = .ok (.iconst 1, 1) := by decide +kernel
theorem dX9_compareRows_18 : decode cX9_compareRows 18 = .ok (.isub, 1) := by decide +kernel
theorem dX9_compareRows_19 : decode cX9_compareRows 19 = .ok (.istore 4, 2) := by decide +kernel
theorem dX9_compareRows_21 : decode cX9_compareRows 21 = .ok (.iload 4, 2) := by decide +kernel
theorem dX9_compareRows_23 : decode cX9_compareRows 23 = .ok (.ifCond .lt 37, 3) := by decide +kernel
theorem dX9_compareRows_26 : decode cX9_compareRows 26 = .ok (.aload_n 0, 1) := by decide +kernel
theorem dX9_compareRows_27 : decode cX9_compareRows 27 = .ok (.iload 4, 2) := by decide +kernel
theorem dX9_compareRows_29 : decode cX9_compareRows 29 = .ok (.iaload, 1) := by decide +kernel
theorem dX9_compareRows_30 : decode cX9_compareRows 30 = .ok (.aload_n 2, 1) := by decide +kernel
theorem dX9_compareRows_31 : decode cX9_compareRows 31 = .ok (.iload 4, 2) := by decide +kernel
theorem dX9_compareRows_33 : decode cX9_compareRows 33 = .ok (.iaload, 1) := by decide +kernel
theorem dX9_compareRows_34 : decode cX9_compareRows 34 = .ok (.if_icmp .eq 20, 3) := by decide +kernel
theorem dX9_compareRows_37 : decode cX9_compareRows 37 = .ok (.aload_n 0, 1) := by decide +kernel
theorem dX9_compareRows_38 : decode cX9_compareRows 38 = .ok (.iload 4, 2) := by decide +kernel
theorem dX9_compareRows_40 : decode cX9_compareRows 40 = .ok (.iaload, 1) := by decide +kernel
theorem dX9_compareRows_41 : decode cX9_compareRows 41 = .ok (.aload_n 2, 1) := by decide +kernel
theorem dX9_compareRows_42 : decode cX9_compareRows 42 = .ok (.iload 4, 2) := by decide +kernel
theorem dX9_compareRows_44 : decode cX9_compareRows 44 = .ok (.iaload, 1) := by decide +kernel
theorem dX9_compareRows_45 : decode cX9_compareRows 45 = .ok (.if_icmp .ge 7, 3) := by decide +kernel
theorem dX9_compareRows_48 : decode cX9_compareRows 48 = .ok (.iconst (-1), 1) := by decide +kernel
theorem dX9_compareRows_49 : decode cX9_compareRows 49 = .ok (.goto 4, 3) := by decide +kernel
theorem dX9_compareRows_52 : decode cX9_compareRows 52 = .ok (.iconst 1, 1) := by decide +kernel
theorem dX9_compareRows_53 : decode cX9_compareRows 53 = .ok (.ireturn, 1) := by decide +kernel
theorem dX9_compareRows_54 : decode cX9_compareRows 54 = .ok (.iinc 4 (-1), 3) := by decide +kernel
theorem dX9_compareRows_57 : decode cX9_compareRows 57 = .ok (.goto (-36), 3) := by decide +kernel
theorem dX9_compareRows_60 : decode cX9_compareRows 60 = .ok (.iconst 0, 1) := by decide +kernel
theorem dX9_compareRows_61 : decode cX9_compareRows 61 = .ok (.ireturn, 1) := by decide +kernel
theorem dX9_decimals_0 : decode cX9_decimals 0 = .ok (.aload_n 0, 1) := by decide +kernel
theorem dX9_decimals_1 : decode cX9_decimals 1 = .ok (.iload_n 1, 1) := by decide +kernel
theorem dX9_decimals_2 : decode cX9_decimals 2 = .ok (.iconst 1, 1) := by decide +kernel
theorem dX9_decimals_3 : decode cX9_decimals 3 = .ok (.isub, 1) := by decide +kernel
theorem dX9_decimals_4 : decode cX9_decimals 4 = .ok (.iaload, 1) := by decide +kernel
theorem dX9_decimals_5 : decode cX9_decimals 5 = .ok (.istore_n 2, 1) := by decide +kernel
theorem dX9_decimals_6 : decode cX9_decimals 6 = .ok (.iconst 4, 1) := by decide +kernel
theorem dX9_decimals_7 : decode cX9_decimals 7 = .ok (.iload_n 1, 1) := by decide +kernel
theorem dX9_decimals_8 : decode cX9_decimals 8 = .ok (.iconst 1, 1) := by decide +kernel
theorem dX9_decimals_9 : decode cX9_decimals 9 = .ok (.isub, 1) := by decide +kernel
theorem dX9_decimals_10 : decode cX9_decimals 10 = .ok (.imul, 1) := by decide +kernel
theorem dX9_decimals_11 : decode cX9_decimals 11 = .ok (.iload_n 2, 1) := by decide +kernel
theorem dX9_decimals_12 : decode cX9_decimals 12 = .ok (.sipush 999, 3) := by decide +kernel
theorem dX9_decimals_15 : decode cX9_decimals 15 = .ok (.if_icmp .le 7, 3) := by decide +kernel
theorem dX9_decimals_18 : decode cX9_decimals 18 = .ok (.iconst 4, 1) := by decide +kernel
theorem dX9_decimals_19 : decode cX9_decimals 19 = .ok (.goto 24, 3) := by decide +kernel
theorem dX9_decimals_22 : decode cX9_decimals 22 = .ok (.iload_n 2, 1) := by decide +kernel
theorem dX9_decimals_23 : decode cX9_decimals 23 = .ok (.bipush 99, 2) := by decide +kernel
theorem dX9_decimals_25 : decode cX9_decimals 25 = .ok (.if_icmp .le 7, 3) := by decide +kernel
theorem dX9_decimals_28 : decode cX9_decimals 28 = .ok (.iconst 3, 1) := by decide +kernel
theorem dX9_decimals_29 : decode cX9_decimals 29 = .ok (.goto 14, 3) := by decide +kernel
theorem dX9_decimals_32 : decode cX9_decimals 32 = .ok (.iload_n 2, 1) := by decide +kernel
theorem dX9_decimals_33 : decode cX9_decimals 33 = .ok (.bipush 9, 2) := by decide +kernel
theorem dX9_decimals_35 : decode cX9_decimals 35 = .ok (.if_icmp .le 7, 3) := by decide +kernel
theorem dX9_decimals_38 : decode cX9_decimals 38 = .ok (.iconst 2, 1) := by decide +kernel
theorem dX9_decimals_39 : decode cX9_decimals 39 = .ok (.goto 4, 3) := by decide +kernel
theorem dX9_decimals_42 : decode cX9_decimals 42 = .ok (.iconst 1, 1) := by decide +kernel
theorem dX9_decimals_43 : decode cX9_decimals 43 = .ok (.iadd, 1) := by decide +kernel
theorem dX9_decimals_44 : decode cX9_decimals 44 = .ok (.ireturn, 1) := by decide +kernel
theorem dX9_scale_0 : decode cX9_scale 0 = .ok (.iload_n 3, 1) := by decide +kernel
theorem dX9_scale_1 : decode cX9_scale 1 = .ok (.istore 4, 2) := by decide +kernel
theorem dX9_scale_3 : decode cX9_scale 3 = .ok (.iload_n 1, 1) := by decide +kernel
theorem dX9_scale_4 : decode cX9_scale 4 = .ok (.istore 5, 2) := by decide +kernel
theorem dX9_scale_6 : decode cX9_scale 6 = .ok (.iconst 0, 1) := by decide +kernel
theorem dX9_scale_7 : decode cX9_scale 7 = .ok (.istore 6, 2) := by decide +kernel
theorem dX9_scale_9 : decode cX9_scale 9 = .ok (.iload 6, 2) := by decide +kernel
theorem dX9_scale_11 : decode cX9_scale 11 = .ok (.iload_n 1, 1) := by decide +kernel
theorem dX9_scale_12 : decode cX9_scale 12 = .ok (.if_icmp .ge 38, 3) := by decide +kernel
theorem dX9_scale_15 : decode cX9_scale 15 = .ok (.aload_n 0, 1) := by decide +kernel
theorem dX9_scale_16 : decode cX9_scale 16 = .ok (.iload 6, 2) := by decide +kernel
theorem dX9_scale_18 : decode cX9_scale 18 = .ok (.iaload, 1) := by decide +kernel
theorem dX9_scale_19 : decode cX9_scale 19 = .ok (.iload_n 2, 1) := by decide +kernel
theorem dX9_scale_20 : decode cX9_scale 20 = .ok (.imul, 1) := by decide +kernel
theorem dX9_scale_21 : decode cX9_scale 21 = .ok (.iload 4, 2) := by decide +kernel
theorem dX9_scale_23 : decode cX9_scale 23 = .ok (.iadd, 1) := by decide +kernel
theorem dX9_scale_24 : decode cX9_scale 24 = .ok (.istore 7, 2) := by decide +kernel
theorem dX9_scale_26 : decode cX9_scale 26 = .ok (.aload_n 0, 1) := by decide +kernel
theorem dX9_scale_27 : decode cX9_scale 27 = .ok (.iload 6, 2) := by decide +kernel
theorem dX9_scale_29 : decode cX9_scale 29 = .ok (.iload 7, 2) := by decide +kernel
theorem dX9_scale_31 : decode cX9_scale 31 = .ok (.sipush 10000, 3) := by decide +kernel
theorem dX9_scale_34 : decode cX9_scale 34 = .ok (.irem, 1) := by decide +kernel
theorem dX9_scale_35 : decode cX9_scale 35 = .ok (.iastore, 1) := by decide +kernel
theorem dX9_scale_36 : decode cX9_scale 36 = .ok (.iload 7, 2) := by decide +kernel
theorem dX9_scale_38 : decode cX9_scale 38 = .ok (.sipush 10000, 3) := by decide +kernel
theorem dX9_scale_41 : decode cX9_scale 41 = .ok (.idiv, 1) := by decide +kernel
theorem dX9_scale_42 : decode cX9_scale 42 = .ok (.istore 4, 2) := by decide +kernel
theorem dX9_scale_44 : decode cX9_scale 44 = .ok (.iinc 6 1, 3) := by decide +kernel
theorem dX9_scale_47 : decode cX9_scale 47 = .ok (.goto (-38), 3) := by decide +kernel
theorem dX9_scale_50 : decode cX9_scale 50 = .ok (.iload 4, 2) := by decide +kernel
theorem dX9_scale_52 : decode cX9_scale 52 = .ok (.ifCond .le 27, 3) := by decide +kernel
theorem dX9_scale_55 : decode cX9_scale 55 = .ok (.aload_n 0, 1) := by decide +kernel
theorem dX9_scale_56 : decode cX9_scale 56 = .ok (.iload 5, 2) := by decide +kernel
theorem dX9_scale_58 : decode cX9_scale 58 = .ok (.iload 4, 2) := by decide +kernel
theorem dX9_scale_60 : decode cX9_scale 60 = .ok (.sipush 10000, 3) := by decide +kernel
theorem dX9_scale_63 : decode cX9_scale 63 = .ok (.irem, 1) := by decide +kernel
theorem dX9_scale_64 : decode cX9_scale 64 = .ok (.iastore, 1) := by decide +kernel
theorem dX9_scale_65 : decode cX9_scale 65 = .ok (.iload 4, 2) := by decide +kernel
theorem dX9_scale_67 : decode cX9_scale 67 = .ok (.sipush 10000, 3) := by decide +kernel
theorem dX9_scale_70 : decode cX9_scale 70 = .ok (.idiv, 1) := by decide +kernel
theorem dX9_scale_71 : decode cX9_scale 71 = .ok (.istore 4, 2) := by decide +kernel
theorem dX9_scale_73 : decode cX9_scale 73 = .ok (.iinc 5 1, 3) := by decide +kernel
theorem dX9_scale_76 : decode cX9_scale 76 = .ok (.goto (-26), 3) := by decide +kernel
theorem dX9_scale_79 : decode cX9_scale 79 = .ok (.iload 5, 2) := by decide +kernel
theorem dX9_scale_81 : decode cX9_scale 81 = .ok (.ireturn, 1) := by decide +kernel
theorem dX9_doubled_0 : decode cX9_doubled 0 = .ok (.iload_n 1, 1) := by decide +kernel
theorem dX9_doubled_1 : decode cX9_doubled 1 = .ok (.istore_n 3, 1) := by decide +kernel
theorem dX9_doubled_2 : decode cX9_doubled 2 = .ok (.iload_n 2, 1) := by decide +kernel
theorem dX9_doubled_3 : decode cX9_doubled 3 = .ok (.istore 4, 2) := by decide +kernel
theorem dX9_doubled_5 : decode cX9_doubled 5 = .ok (.iload 4, 2) := by decide +kernel
theorem dX9_doubled_7 : decode cX9_doubled 7 = .ok (.ifCond .le 33, 3) := by decide +kernel
theorem dX9_doubled_10 : decode cX9_doubled 10 = .ok (.iload 4, 2) := by decide +kernel
theorem dX9_doubled_12 : decode cX9_doubled 12 = .ok (.bipush 13, 2) := by decide +kernel
theorem dX9_doubled_14 : decode cX9_doubled 14 = .ok (.invokestatic 25, 3) := by decide +kernel
theorem dX9_doubled_17 : decode cX9_doubled 17 = .ok (.istore 5, 2) := by decide +kernel
theorem dX9_doubled_19 : decode cX9_doubled 19 = .ok (.aload_n 0, 1) := by decide +kernel
theorem dX9_doubled_20 : decode cX9_doubled 20 = .ok (.iload_n 3, 1) := by decide +kernel
theorem dX9_doubled_21 : decode cX9_doubled 21 = .ok (.iconst 1, 1) := by decide +kernel
theorem dX9_doubled_22 : decode cX9_doubled 22 = .ok (.iload 5, 2) := by decide +kernel
theorem dX9_doubled_24 : decode cX9_doubled 24 = .ok (.ishl, 1) := by decide +kernel
theorem dX9_doubled_25 : decode cX9_doubled 25 = .ok (.iconst 0, 1) := by decide +kernel
theorem dX9_doubled_26 : decode cX9_doubled 26 = .ok (.invokestatic 31, 3) := by decide +kernel
theorem dX9_doubled_29 : decode cX9_doubled 29 = .ok (.istore_n 3, 1) := by decide +kernel
theorem dX9_doubled_30 : decode cX9_doubled 30 = .ok (.iload 4, 2) := by decide +kernel
theorem dX9_doubled_32 : decode cX9_doubled 32 = .ok (.iload 5, 2) := by decide +kernel
theorem dX9_doubled_34 : decode cX9_doubled 34 = .ok (.isub, 1) := by decide +kernel
theorem dX9_doubled_35 : decode cX9_doubled 35 = .ok (.istore 4, 2) := by decide +kernel
theorem dX9_doubled_37 : decode cX9_doubled 37 = .ok (.goto (-32), 3) := by decide +kernel
theorem dX9_doubled_40 : decode cX9_doubled 40 = .ok (.iload_n 3, 1) := by decide +kernel
theorem dX9_doubled_41 : decode cX9_doubled 41 = .ok (.ireturn, 1) := by decide +kernel
theorem dX9_tenfold_0 : decode cX9_tenfold 0 = .ok (.iload_n 1, 1) := by decide +kernel
theorem dX9_tenfold_1 : decode cX9_tenfold 1 = .ok (.istore_n 3, 1) := by decide +kernel
theorem dX9_tenfold_2 : decode cX9_tenfold 2 = .ok (.iload_n 2, 1) := by decide +kernel
theorem dX9_tenfold_3 : decode cX9_tenfold 3 = .ok (.istore 4, 2) := by decide +kernel
theorem dX9_tenfold_5 : decode cX9_tenfold 5 = .ok (.iload 4, 2) := by decide +kernel
theorem dX9_tenfold_7 : decode cX9_tenfold 7 = .ok (.ifCond .le 53, 3) := by decide +kernel
theorem dX9_tenfold_10 : decode cX9_tenfold 10 = .ok (.aload_n 0, 1) := by decide +kernel
theorem dX9_tenfold_11 : decode cX9_tenfold 11 = .ok (.iload_n 3, 1) := by decide +kernel
theorem dX9_tenfold_12 : decode cX9_tenfold 12 = .ok (.iload 4, 2) := by decide +kernel
theorem dX9_tenfold_14 : decode cX9_tenfold 14 = .ok (.iconst 4, 1) := by decide +kernel
theorem dX9_tenfold_15 : decode cX9_tenfold 15 = .ok (.if_icmp .lt 9, 3) := by decide +kernel
theorem dX9_tenfold_18 : decode cX9_tenfold 18 = .ok (.sipush 10000, 3) := by decide +kernel
theorem dX9_tenfold_21 : decode cX9_tenfold 21 = .ok (.goto 28, 3) := by decide +kernel
theorem dX9_tenfold_24 : decode cX9_tenfold 24 = .ok (.iload 4, 2) := by decide +kernel
theorem dX9_tenfold_26 : decode cX9_tenfold 26 = .ok (.iconst 3, 1) := by decide +kernel
theorem dX9_tenfold_27 : decode cX9_tenfold 27 = .ok (.if_icmp .ne 9, 3) := by decide +kernel
theorem dX9_tenfold_30 : decode cX9_tenfold 30 = .ok (.sipush 1000, 3) := by decide +kernel
theorem dX9_tenfold_33 : decode cX9_tenfold 33 = .ok (.goto 16, 3) := by decide +kernel
theorem dX9_tenfold_36 : decode cX9_tenfold 36 = .ok (.iload 4, 2) := by decide +kernel
theorem dX9_tenfold_38 : decode cX9_tenfold 38 = .ok (.iconst 2, 1) := by decide +kernel
theorem dX9_tenfold_39 : decode cX9_tenfold 39 = .ok (.if_icmp .ne 8, 3) := by decide +kernel
theorem dX9_tenfold_42 : decode cX9_tenfold 42 = .ok (.bipush 100, 2) := by decide +kernel
theorem dX9_tenfold_44 : decode cX9_tenfold 44 = .ok (.goto 5, 3) := by decide +kernel
theorem dX9_tenfold_47 : decode cX9_tenfold 47 = .ok (.bipush 10, 2) := by decide +kernel
theorem dX9_tenfold_49 : decode cX9_tenfold 49 = .ok (.iconst 0, 1) := by decide +kernel
theorem dX9_tenfold_50 : decode cX9_tenfold 50 = .ok (.invokestatic 31, 3) := by decide +kernel
theorem dX9_tenfold_53 : decode cX9_tenfold 53 = .ok (.istore_n 3, 1) := by decide +kernel
theorem dX9_tenfold_54 : decode cX9_tenfold 54 = .ok (.iinc 4 (-4), 3) := by decide +kernel
theorem dX9_tenfold_57 : decode cX9_tenfold 57 = .ok (.goto (-52), 3) := by decide +kernel
theorem dX9_tenfold_60 : decode cX9_tenfold 60 = .ok (.iload_n 3, 1) := by decide +kernel
theorem dX9_tenfold_61 : decode cX9_tenfold 61 = .ok (.ireturn, 1) := by decide +kernel
theorem dX9_cutBy_0 : decode cX9_cutBy 0 = .ok (.iconst 0, 1) := by decide +kernel
theorem dX9_cutBy_1 : decode cX9_cutBy 1 = .ok (.istore_n 3, 1) := by decide +kernel
theorem dX9_cutBy_2 : decode cX9_cutBy 2 = .ok (.iload_n 1, 1) := by decide +kernel
theorem dX9_cutBy_3 : decode cX9_cutBy 3 = .ok (.iconst 1, 1) := by decide +kernel
theorem dX9_cutBy_4 : decode cX9_cutBy 4 = .ok (.isub, 1) := by decide +kernel
theorem dX9_cutBy_5 : decode cX9_cutBy 5 = .ok (.istore 4, 2) := by decide +kernel
theorem dX9_cutBy_7 : decode cX9_cutBy 7 = .ok (.iload 4, 2) := by decide +kernel
theorem dX9_cutBy_9 : decode cX9_cutBy 9 = .ok (.ifCond .lt 34, 3) := by decide +kernel
theorem dX9_cutBy_12 : decode cX9_cutBy 12 = .ok (.iload_n 3, 1) := by decide +kernel
theorem dX9_cutBy_13 : decode cX9_cutBy 13 = .ok (.sipush 10000, 3) := by decide +kernel
theorem dX9_cutBy_16 : decode cX9_cutBy 16 = .ok (.imul, 1) := by decide +kernel
theorem dX9_cutBy_17 : decode cX9_cutBy 17 = .ok (.aload_n 0, 1) := by decide +kernel
theorem dX9_cutBy_18 : decode cX9_cutBy 18 = .ok (.iload 4, 2) := by decide +kernel
theorem dX9_cutBy_20 : decode cX9_cutBy 20 = .ok (.iaload, 1) := by decide +kernel
theorem dX9_cutBy_21 : decode cX9_cutBy 21 = .ok (.iadd, 1) := by decide +kernel
theorem dX9_cutBy_22 : decode cX9_cutBy 22 = .ok (.istore 5, 2) := by decide +kernel
theorem dX9_cutBy_24 : decode cX9_cutBy 24 = .ok (.aload_n 0, 1) := by decide +kernel
theorem dX9_cutBy_25 : decode cX9_cutBy 25 = .ok (.iload 4, 2) := by decide +kernel
theorem dX9_cutBy_27 : decode cX9_cutBy 27 = .ok (.iload 5, 2) := by decide +kernel
theorem dX9_cutBy_29 : decode cX9_cutBy 29 = .ok (.iload_n 2, 1) := by decide +kernel
theorem dX9_cutBy_30 : decode cX9_cutBy 30 = .ok (.idiv, 1) := by decide +kernel
theorem dX9_cutBy_31 : decode cX9_cutBy 31 = .ok (.iastore, 1) := by decide +kernel
theorem dX9_cutBy_32 : decode cX9_cutBy 32 = .ok (.iload 5, 2) := by decide +kernel
theorem dX9_cutBy_34 : decode cX9_cutBy 34 = .ok (.iload_n 2, 1) := by decide +kernel
theorem dX9_cutBy_35 : decode cX9_cutBy 35 = .ok (.irem, 1) := by decide +kernel
theorem dX9_cutBy_36 : decode cX9_cutBy 36 = .ok (.istore_n 3, 1) := by decide +kernel
theorem dX9_cutBy_37 : decode cX9_cutBy 37 = .ok (.iinc 4 (-1), 3) := by decide +kernel
theorem dX9_cutBy_40 : decode cX9_cutBy 40 = .ok (.goto (-33), 3) := by decide +kernel
theorem dX9_cutBy_43 : decode cX9_cutBy 43 = .ok (.iload_n 3, 1) := by decide +kernel
theorem dX9_cutBy_44 : decode cX9_cutBy 44 = .ok (.ireturn, 1) := by decide +kernel
theorem dX9_takeAway_0 : decode cX9_takeAway 0 = .ok (.iconst 0, 1) := by decide +kernel
theorem dX9_takeAway_1 : decode cX9_takeAway 1 = .ok (.istore 5, 2) := by decide +kernel
theorem dX9_takeAway_3 : decode cX9_takeAway 3 = .ok (.iconst 0, 1) := by decide +kernel
theorem dX9_takeAway_4 : decode cX9_takeAway 4 = .ok (.istore 6, 2) := by decide +kernel
theorem dX9_takeAway_6 : decode cX9_takeAway 6 = .ok (.iload 6, 2) := by decide +kernel
theorem dX9_takeAway_8 : decode cX9_takeAway 8 = .ok (.iload_n 3, 1) := by decide +kernel
theorem dX9_takeAway_9 : decode cX9_takeAway 9 = .ok (.if_icmp .ge 70, 3) := by decide +kernel
theorem dX9_takeAway_12 : decode cX9_takeAway 12 = .ok (.aload_n 0, 1) := by decide +kernel
theorem dX9_takeAway_13 : decode cX9_takeAway 13 = .ok (.iload_n 1, 1) := by decide +kernel
theorem dX9_takeAway_14 : decode cX9_takeAway 14 = .ok (.iload 6, 2) := by decide +kernel
theorem dX9_takeAway_16 : decode cX9_takeAway 16 = .ok (.iadd, 1) := by decide +kernel
theorem dX9_takeAway_17 : decode cX9_takeAway 17 = .ok (.iaload, 1) := by decide +kernel
theorem dX9_takeAway_18 : decode cX9_takeAway 18 = .ok (.aload_n 2, 1) := by decide +kernel
theorem dX9_takeAway_19 : decode cX9_takeAway 19 = .ok (.iload 6, 2) := by decide +kernel
theorem dX9_takeAway_21 : decode cX9_takeAway 21 = .ok (.iaload, 1) := by decide +kernel
theorem dX9_takeAway_22 : decode cX9_takeAway 22 = .ok (.iload 4, 2) := by decide +kernel
theorem dX9_takeAway_24 : decode cX9_takeAway 24 = .ok (.imul, 1) := by decide +kernel
theorem dX9_takeAway_25 : decode cX9_takeAway 25 = .ok (.isub, 1) := by decide +kernel
theorem dX9_takeAway_26 : decode cX9_takeAway 26 = .ok (.iload 5, 2) := by decide +kernel
theorem dX9_takeAway_28 : decode cX9_takeAway 28 = .ok (.isub, 1) := by decide +kernel
theorem dX9_takeAway_29 : decode cX9_takeAway 29 = .ok (.istore 7, 2) := by decide +kernel
theorem dX9_takeAway_31 : decode cX9_takeAway 31 = .ok (.iconst 0, 1) := by decide +kernel
theorem dX9_takeAway_32 : decode cX9_takeAway 32 = .ok (.istore 5, 2) := by decide +kernel
theorem dX9_takeAway_34 : decode cX9_takeAway 34 = .ok (.iload 7, 2) := by decide +kernel
theorem dX9_takeAway_36 : decode cX9_takeAway 36 = .ok (.ifCond .ge 29, 3) := by decide +kernel
theorem dX9_takeAway_39 : decode cX9_takeAway 39 = .ok (.iload 7, 2) := by decide +kernel
theorem dX9_takeAway_41 : decode cX9_takeAway 41 = .ok (.ineg, 1) := by decide +kernel
theorem dX9_takeAway_42 : decode cX9_takeAway 42 = .ok (.sipush 10000, 3) := by decide +kernel
theorem dX9_takeAway_45 : decode cX9_takeAway 45 = .ok (.iadd, 1) := by decide +kernel
theorem dX9_takeAway_46 : decode cX9_takeAway 46 = .ok (.iconst 1, 1) := by decide +kernel
theorem dX9_takeAway_47 : decode cX9_takeAway 47 = .ok (.isub, 1) := by decide +kernel
theorem dX9_takeAway_48 : decode cX9_takeAway 48 = .ok (.sipush 10000, 3) := by decide +kernel
theorem dX9_takeAway_51 : decode cX9_takeAway 51 = .ok (.idiv, 1) := by decide +kernel
theorem dX9_takeAway_52 : decode cX9_takeAway 52 = .ok (.istore 5, 2) := by decide +kernel
theorem dX9_takeAway_54 : decode cX9_takeAway 54 = .ok (.iload 7, 2) := by decide +kernel
theorem dX9_takeAway_56 : decode cX9_takeAway 56 = .ok (.iload 5, 2) := by decide +kernel
theorem dX9_takeAway_58 : decode cX9_takeAway 58 = .ok (.sipush 10000, 3) := by decide +kernel
theorem dX9_takeAway_61 : decode cX9_takeAway 61 = .ok (.imul, 1) := by decide +kernel
theorem dX9_takeAway_62 : decode cX9_takeAway 62 = .ok (.iadd, 1) := by decide +kernel
theorem dX9_takeAway_63 : decode cX9_takeAway 63 = .ok (.istore 7, 2) := by decide +kernel
theorem dX9_takeAway_65 : decode cX9_takeAway 65 = .ok (.aload_n 0, 1) := by decide +kernel
theorem dX9_takeAway_66 : decode cX9_takeAway 66 = .ok (.iload_n 1, 1) := by decide +kernel
theorem dX9_takeAway_67 : decode cX9_takeAway 67 = .ok (.iload 6, 2) := by decide +kernel
theorem dX9_takeAway_69 : decode cX9_takeAway 69 = .ok (.iadd, 1) := by decide +kernel
theorem dX9_takeAway_70 : decode cX9_takeAway 70 = .ok (.iload 7, 2) := by decide +kernel
theorem dX9_takeAway_72 : decode cX9_takeAway 72 = .ok (.iastore, 1) := by decide +kernel
theorem dX9_takeAway_73 : decode cX9_takeAway 73 = .ok (.iinc 6 1, 3) := by decide +kernel
theorem dX9_takeAway_76 : decode cX9_takeAway 76 = .ok (.goto (-70), 3) := by decide +kernel
theorem dX9_takeAway_79 : decode cX9_takeAway 79 = .ok (.aload_n 0, 1) := by decide +kernel
theorem dX9_takeAway_80 : decode cX9_takeAway 80 = .ok (.iload_n 1, 1) := by decide +kernel
theorem dX9_takeAway_81 : decode cX9_takeAway 81 = .ok (.iload_n 3, 1) := by decide +kernel
theorem dX9_takeAway_82 : decode cX9_takeAway 82 = .ok (.iadd, 1) := by decide +kernel
theorem dX9_takeAway_83 : decode cX9_takeAway 83 = .ok (.iaload, 1) := by decide +kernel
theorem dX9_takeAway_84 : decode cX9_takeAway 84 = .ok (.iload 5, 2) := by decide +kernel
theorem dX9_takeAway_86 : decode cX9_takeAway 86 = .ok (.isub, 1) := by decide +kernel
theorem dX9_takeAway_87 : decode cX9_takeAway 87 = .ok (.istore 6, 2) := by decide +kernel
theorem dX9_takeAway_89 : decode cX9_takeAway 89 = .ok (.aload_n 0, 1) := by decide +kernel
theorem dX9_takeAway_90 : decode cX9_takeAway 90 = .ok (.iload_n 1, 1) := by decide +kernel
theorem dX9_takeAway_91 : decode cX9_takeAway 91 = .ok (.iload_n 3, 1) := by decide +kernel
theorem dX9_takeAway_92 : decode cX9_takeAway 92 = .ok (.iadd, 1) := by decide +kernel
theorem dX9_takeAway_93 : decode cX9_takeAway 93 = .ok (.iload 6, 2) := by decide +kernel
theorem dX9_takeAway_95 : decode cX9_takeAway 95 = .ok (.ifCond .ge 12, 3) := by decide +kernel
theorem dX9_takeAway_98 : decode cX9_takeAway 98 = .ok (.iload 6, 2) := by decide +kernel
theorem dX9_takeAway_100 : decode cX9_takeAway 100 = .ok (.sipush 10000, 3) := by decide +kernel
theorem dX9_takeAway_103 : decode cX9_takeAway 103 = .ok (.iadd, 1) := by decide +kernel
theorem dX9_takeAway_104 : decode cX9_takeAway 104 = .ok (.goto 5, 3) := by decide +kernel
theorem dX9_takeAway_107 : decode cX9_takeAway 107 = .ok (.iload 6, 2) := by decide +kernel
theorem dX9_takeAway_109 : decode cX9_takeAway 109 = .ok (.iastore, 1) := by decide +kernel
theorem dX9_takeAway_110 : decode cX9_takeAway 110 = .ok (.iload 6, 2) := by decide +kernel
theorem dX9_takeAway_112 : decode cX9_takeAway 112 = .ok (.ifCond .lt 7, 3) := by decide +kernel
theorem dX9_takeAway_115 : decode cX9_takeAway 115 = .ok (.iconst 1, 1) := by decide +kernel
theorem dX9_takeAway_116 : decode cX9_takeAway 116 = .ok (.goto 4, 3) := by decide +kernel
theorem dX9_takeAway_119 : decode cX9_takeAway 119 = .ok (.iconst 0, 1) := by decide +kernel
theorem dX9_takeAway_120 : decode cX9_takeAway 120 = .ok (.ireturn, 1) := by decide +kernel
theorem dX9_putBack_0 : decode cX9_putBack 0 = .ok (.iconst 0, 1) := by decide +kernel
theorem dX9_putBack_1 : decode cX9_putBack 1 = .ok (.istore 4, 2) := by decide +kernel
theorem dX9_putBack_3 : decode cX9_putBack 3 = .ok (.iconst 0, 1) := by decide +kernel
theorem dX9_putBack_4 : decode cX9_putBack 4 = .ok (.istore 5, 2) := by decide +kernel
theorem dX9_putBack_6 : decode cX9_putBack 6 = .ok (.iload 5, 2) := by decide +kernel
theorem dX9_putBack_8 : decode cX9_putBack 8 = .ok (.iload_n 3, 1) := by decide +kernel
theorem dX9_putBack_9 : decode cX9_putBack 9 = .ok (.if_icmp .ge 45, 3) := by decide +kernel
theorem dX9_putBack_12 : decode cX9_putBack 12 = .ok (.aload_n 0, 1) := by decide +kernel
theorem dX9_putBack_13 : decode cX9_putBack 13 = .ok (.iload_n 1, 1) := by decide +kernel
theorem dX9_putBack_14 : decode cX9_putBack 14 = .ok (.iload 5, 2) := by decide +kernel
theorem dX9_putBack_16 : decode cX9_putBack 16 = .ok (.iadd, 1) := by decide +kernel
theorem dX9_putBack_17 : decode cX9_putBack 17 = .ok (.iaload, 1) := by decide +kernel
theorem dX9_putBack_18 : decode cX9_putBack 18 = .ok (.aload_n 2, 1) := by decide +kernel
theorem dX9_putBack_19 : decode cX9_putBack 19 = .ok (.iload 5, 2) := by decide +kernel
theorem dX9_putBack_21 : decode cX9_putBack 21 = .ok (.iaload, 1) := by decide +kernel
theorem dX9_putBack_22 : decode cX9_putBack 22 = .ok (.iadd, 1) := by decide +kernel
theorem dX9_putBack_23 : decode cX9_putBack 23 = .ok (.iload 4, 2) := by decide +kernel
theorem dX9_putBack_25 : decode cX9_putBack 25 = .ok (.iadd, 1) := by decide +kernel
theorem dX9_putBack_26 : decode cX9_putBack 26 = .ok (.istore 6, 2) := by decide +kernel
theorem dX9_putBack_28 : decode cX9_putBack 28 = .ok (.aload_n 0, 1) := by decide +kernel
theorem dX9_putBack_29 : decode cX9_putBack 29 = .ok (.iload_n 1, 1) := by decide +kernel
theorem dX9_putBack_30 : decode cX9_putBack 30 = .ok (.iload 5, 2) := by decide +kernel
theorem dX9_putBack_32 : decode cX9_putBack 32 = .ok (.iadd, 1) := by decide +kernel
theorem dX9_putBack_33 : decode cX9_putBack 33 = .ok (.iload 6, 2) := by decide +kernel
theorem dX9_putBack_35 : decode cX9_putBack 35 = .ok (.sipush 10000, 3) := by decide +kernel
theorem dX9_putBack_38 : decode cX9_putBack 38 = .ok (.irem, 1) := by decide +kernel
theorem dX9_putBack_39 : decode cX9_putBack 39 = .ok (.iastore, 1) := by decide +kernel
theorem dX9_putBack_40 : decode cX9_putBack 40 = .ok (.iload 6, 2) := by decide +kernel
theorem dX9_putBack_42 : decode cX9_putBack 42 = .ok (.sipush 10000, 3) := by decide +kernel
theorem dX9_putBack_45 : decode cX9_putBack 45 = .ok (.idiv, 1) := by decide +kernel
theorem dX9_putBack_46 : decode cX9_putBack 46 = .ok (.istore 4, 2) := by decide +kernel
theorem dX9_putBack_48 : decode cX9_putBack 48 = .ok (.iinc 5 1, 3) := by decide +kernel
theorem dX9_putBack_51 : decode cX9_putBack 51 = .ok (.goto (-45), 3) := by decide +kernel
theorem dX9_putBack_54 : decode cX9_putBack 54 = .ok (.aload_n 0, 1) := by decide +kernel
theorem dX9_putBack_55 : decode cX9_putBack 55 = .ok (.iload_n 1, 1) := by decide +kernel
theorem dX9_putBack_56 : decode cX9_putBack 56 = .ok (.iload_n 3, 1) := by decide +kernel
theorem dX9_putBack_57 : decode cX9_putBack 57 = .ok (.iadd, 1) := by decide +kernel
theorem dX9_putBack_58 : decode cX9_putBack 58 = .ok (.aload_n 0, 1) := by decide +kernel
theorem dX9_putBack_59 : decode cX9_putBack 59 = .ok (.iload_n 1, 1) := by decide +kernel
theorem dX9_putBack_60 : decode cX9_putBack 60 = .ok (.iload_n 3, 1) := by decide +kernel
theorem dX9_putBack_61 : decode cX9_putBack 61 = .ok (.iadd, 1) := by decide +kernel
theorem dX9_putBack_62 : decode cX9_putBack 62 = .ok (.iaload, 1) := by decide +kernel
theorem dX9_putBack_63 : decode cX9_putBack 63 = .ok (.iload 4, 2) := by decide +kernel
theorem dX9_putBack_65 : decode cX9_putBack 65 = .ok (.iadd, 1) := by decide +kernel
theorem dX9_putBack_66 : decode cX9_putBack 66 = .ok (.sipush 10000, 3) := by decide +kernel
theorem dX9_putBack_69 : decode cX9_putBack 69 = .ok (.irem, 1) := by decide +kernel
theorem dX9_putBack_70 : decode cX9_putBack 70 = .ok (.iastore, 1) := by decide +kernel
theorem dX9_putBack_71 : decode cX9_putBack 71 = .ok (.return_, 1) := by decide +kernel
theorem dX9_divideRows_0 : decode cX9_divideRows 0 = .ok (.aload_n 2, 1) := by decide +kernel
theorem dX9_divideRows_1 : decode cX9_divideRows 1 = .ok (.iload_n 3, 1) := by decide +kernel
theorem dX9_divideRows_2 : decode cX9_divideRows 2 = .ok (.iconst 1, 1) := by decide +kernel
theorem dX9_divideRows_3 : decode cX9_divideRows 3 = .ok (.isub, 1) := by decide +kernel
theorem dX9_divideRows_4 : decode cX9_divideRows 4 = .ok (.iaload, 1) := by decide +kernel
theorem dX9_divideRows_5 : decode cX9_divideRows 5 = .ok (.i2d, 1) := by decide +kernel
theorem dX9_divideRows_6 : decode cX9_divideRows 6 = .ok (.ldc2_w 35, 3) := by decide +kernel
theorem dX9_divideRows_9 : decode cX9_divideRows 9 = .ok (.dmul, 1) := by decide +kernel
theorem dX9_divideRows_10 : decode cX9_divideRows 10 = .ok (.iload_n 3, 1) := by decide +kernel
theorem dX9_divideRows_11 : decode cX9_divideRows 11 = .ok (.iconst 1, 1) := by decide +kernel
theorem dX9_divideRows_12 : decode cX9_divideRows 12 = .ok (.if_icmp .le 11, 3) := by decide +kernel
theorem dX9_divideRows_15 : decode cX9_divideRows 15 = .ok (.aload_n 2, 1) := by decide +kernel
theorem dX9_divideRows_16 : decode cX9_divideRows 16 = .ok (.iload_n 3, 1) := by decide +kernel
theorem dX9_divideRows_17 : decode cX9_divideRows 17 = .ok (.iconst 2, 1) := by decide +kernel
theorem dX9_divideRows_18 : decode cX9_divideRows 18 = .ok (.isub, 1) := by decide +kernel
theorem dX9_divideRows_19 : decode cX9_divideRows 19 = .ok (.iaload, 1) := by decide +kernel
theorem dX9_divideRows_20 : decode cX9_divideRows 20 = .ok (.goto 4, 3) := by decide +kernel
theorem dX9_divideRows_23 : decode cX9_divideRows 23 = .ok (.iconst 0, 1) := by decide +kernel
theorem dX9_divideRows_24 : decode cX9_divideRows 24 = .ok (.i2d, 1) := by decide +kernel
theorem dX9_divideRows_25 : decode cX9_divideRows 25 = .ok (.dadd, 1) := by decide +kernel
theorem dX9_divideRows_26 : decode cX9_divideRows 26 = .ok (.dstore 5, 2) := by decide +kernel
theorem dX9_divideRows_28 : decode cX9_divideRows 28 = .ok (.iload_n 1, 1) := by decide +kernel
theorem dX9_divideRows_29 : decode cX9_divideRows 29 = .ok (.iload_n 3, 1) := by decide +kernel
theorem dX9_divideRows_30 : decode cX9_divideRows 30 = .ok (.isub, 1) := by decide +kernel
theorem dX9_divideRows_31 : decode cX9_divideRows 31 = .ok (.istore 7, 2) := by decide +kernel
theorem dX9_divideRows_33 : decode cX9_divideRows 33 = .ok (.iload 7, 2) := by decide +kernel
theorem dX9_divideRows_35 : decode cX9_divideRows 35 = .ok (.ifCond .lt 169, 3) := by decide +kernel
theorem dX9_divideRows_38 : decode cX9_divideRows 38 = .ok (.aload_n 0, 1) := by decide +kernel
theorem dX9_divideRows_39 : decode cX9_divideRows 39 = .ok (.iload 7, 2) := by decide +kernel
theorem dX9_divideRows_41 : decode cX9_divideRows 41 = .ok (.iload_n 3, 1) := by decide +kernel
theorem dX9_divideRows_42 : decode cX9_divideRows 42 = .ok (.iadd, 1) := by decide +kernel
theorem dX9_divideRows_43 : decode cX9_divideRows 43 = .ok (.iaload, 1) := by decide +kernel
theorem dX9_divideRows_44 : decode cX9_divideRows 44 = .ok (.i2d, 1) := by decide +kernel
theorem dX9_divideRows_45 : decode cX9_divideRows 45 = .ok (.ldc2_w 35, 3) := by decide +kernel
theorem dX9_divideRows_48 : decode cX9_divideRows 48 = .ok (.dmul, 1) := by decide +kernel
theorem dX9_divideRows_49 : decode cX9_divideRows 49 = .ok (.aload_n 0, 1) := by decide +kernel
theorem dX9_divideRows_50 : decode cX9_divideRows 50 = .ok (.iload 7, 2) := by decide +kernel
theorem dX9_divideRows_52 : decode cX9_divideRows 52 = .ok (.iload_n 3, 1) := by decide +kernel
theorem dX9_divideRows_53 : decode cX9_divideRows 53 = .ok (.iadd, 1) := by decide +kernel
theorem dX9_divideRows_54 : decode cX9_divideRows 54 = .ok (.iconst 1, 1) := by decide +kernel
theorem dX9_divideRows_55 : decode cX9_divideRows 55 = .ok (.isub, 1) := by decide +kernel
theorem dX9_divideRows_56 : decode cX9_divideRows 56 = .ok (.iaload, 1) := by decide +kernel
theorem dX9_divideRows_57 : decode cX9_divideRows 57 = .ok (.i2d, 1) := by decide +kernel
theorem dX9_divideRows_58 : decode cX9_divideRows 58 = .ok (.dadd, 1) := by decide +kernel
theorem dX9_divideRows_59 : decode cX9_divideRows 59 = .ok (.ldc2_w 35, 3) := by decide +kernel
theorem dX9_divideRows_62 : decode cX9_divideRows 62 = .ok (.dmul, 1) := by decide +kernel
theorem dX9_divideRows_63 : decode cX9_divideRows 63 = .ok (.iload 7, 2) := by decide +kernel
theorem dX9_divideRows_65 : decode cX9_divideRows 65 = .ok (.iload_n 3, 1) := by decide +kernel
theorem dX9_divideRows_66 : decode cX9_divideRows 66 = .ok (.iadd, 1) := by decide +kernel
theorem dX9_divideRows_67 : decode cX9_divideRows 67 = .ok (.iconst 1, 1) := by decide +kernel
theorem dX9_divideRows_68 : decode cX9_divideRows 68 = .ok (.if_icmp .le 14, 3) := by decide +kernel
theorem dX9_divideRows_71 : decode cX9_divideRows 71 = .ok (.aload_n 0, 1) := by decide +kernel
theorem dX9_divideRows_72 : decode cX9_divideRows 72 = .ok (.iload 7, 2) := by decide +kernel
theorem dX9_divideRows_74 : decode cX9_divideRows 74 = .ok (.iload_n 3, 1) := by decide +kernel
theorem dX9_divideRows_75 : decode cX9_divideRows 75 = .ok (.iadd, 1) := by decide +kernel
theorem dX9_divideRows_76 : decode cX9_divideRows 76 = .ok (.iconst 2, 1) := by decide +kernel
theorem dX9_divideRows_77 : decode cX9_divideRows 77 = .ok (.isub, 1) := by decide +kernel
theorem dX9_divideRows_78 : decode cX9_divideRows 78 = .ok (.iaload, 1) := by decide +kernel
theorem dX9_divideRows_79 : decode cX9_divideRows 79 = .ok (.goto 4, 3) := by decide +kernel
theorem dX9_divideRows_82 : decode cX9_divideRows 82 = .ok (.iconst 0, 1) := by decide +kernel
theorem dX9_divideRows_83 : decode cX9_divideRows 83 = .ok (.i2d, 1) := by decide +kernel
theorem dX9_divideRows_84 : decode cX9_divideRows 84 = .ok (.dadd, 1) := by decide +kernel
theorem dX9_divideRows_85 : decode cX9_divideRows 85 = .ok (.dstore 8, 2) := by decide +kernel
theorem dX9_divideRows_87 : decode cX9_divideRows 87 = .ok (.ldc2_w 37, 3) := by decide +kernel
theorem dX9_divideRows_90 : decode cX9_divideRows 90 = .ok (.dload 8, 2) := by decide +kernel
theorem dX9_divideRows_92 : decode cX9_divideRows 92 = .ok (.dload 5, 2) := by decide +kernel
theorem dX9_divideRows_94 : decode cX9_divideRows 94 = .ok (.ddiv, 1) := by decide +kernel
theorem dX9_divideRows_95 : decode cX9_divideRows 95 = .ok (.invokestatic 39, 3) := by decide +kernel
theorem dX9_divideRows_98 : decode cX9_divideRows 98 = .ok (.d2i, 1) := by decide +kernel
theorem dX9_divideRows_99 : decode cX9_divideRows 99 = .ok (.istore 10, 2) := by decide +kernel
theorem dX9_divideRows_101 : decode cX9_divideRows 101 = .ok (.aload_n 0, 1) := by decide +kernel
theorem dX9_divideRows_102 : decode cX9_divideRows 102 = .ok (.iload 7, 2) := by decide +kernel
theorem dX9_divideRows_104 : decode cX9_divideRows 104 = .ok (.aload_n 2, 1) := by decide +kernel
theorem dX9_divideRows_105 : decode cX9_divideRows 105 = .ok (.iload_n 3, 1) := by decide +kernel
theorem dX9_divideRows_106 : decode cX9_divideRows 106 = .ok (.iload 10, 2) := by decide +kernel
theorem dX9_divideRows_108 : decode cX9_divideRows 108 = .ok (.invokestatic 42, 3) := by decide +kernel
theorem dX9_divideRows_111 : decode cX9_divideRows 111 = .ok (.istore 11, 2) := by decide +kernel
theorem dX9_divideRows_113 : decode cX9_divideRows 113 = .ok (.iload 11, 2) := by decide +kernel
theorem dX9_divideRows_115 : decode cX9_divideRows 115 = .ok (.ifCond .ne 43, 3) := by decide +kernel
theorem dX9_divideRows_118 : decode cX9_divideRows 118 = .ok (.iinc 10 (-1), 3) := by decide +kernel
theorem dX9_divideRows_121 : decode cX9_divideRows 121 = .ok (.aload_n 0, 1) := by decide +kernel
theorem dX9_divideRows_122 : decode cX9_divideRows 122 = .ok (.iload 7, 2) := by decide +kernel
theorem dX9_divideRows_124 : decode cX9_divideRows 124 = .ok (.iload_n 3, 1) := by decide +kernel
theorem dX9_divideRows_125 : decode cX9_divideRows 125 = .ok (.iadd, 1) := by decide +kernel
theorem dX9_divideRows_126 : decode cX9_divideRows 126 = .ok (.iaload, 1) := by decide +kernel
theorem dX9_divideRows_127 : decode cX9_divideRows 127 = .ok (.istore 12, 2) := by decide +kernel
theorem dX9_divideRows_129 : decode cX9_divideRows 129 = .ok (.aload_n 0, 1) := by decide +kernel
theorem dX9_divideRows_130 : decode cX9_divideRows 130 = .ok (.iload 7, 2) := by decide +kernel
theorem dX9_divideRows_132 : decode cX9_divideRows 132 = .ok (.aload_n 2, 1) := by decide +kernel
theorem dX9_divideRows_133 : decode cX9_divideRows 133 = .ok (.iload_n 3, 1) := by decide +kernel
theorem dX9_divideRows_134 : decode cX9_divideRows 134 = .ok (.invokestatic 46, 3) := by decide +kernel
theorem dX9_divideRows_137 : decode cX9_divideRows 137 = .ok (.iload 12, 2) := by decide +kernel
theorem dX9_divideRows_139 : decode cX9_divideRows 139 = .ok (.aload_n 0, 1) := by decide +kernel
theorem dX9_divideRows_140 : decode cX9_divideRows 140 = .ok (.iload 7, 2) := by decide +kernel
theorem dX9_divideRows_142 : decode cX9_divideRows 142 = .ok (.iload_n 3, 1) := by decide +kernel
theorem dX9_divideRows_143 : decode cX9_divideRows 143 = .ok (.iadd, 1) := by decide +kernel
theorem dX9_divideRows_144 : decode cX9_divideRows 144 = .ok (.iaload, 1) := by decide +kernel
theorem dX9_divideRows_145 : decode cX9_divideRows 145 = .ok (.if_icmp .le 7, 3) := by decide +kernel
theorem dX9_divideRows_148 : decode cX9_divideRows 148 = .ok (.iconst 1, 1) := by decide +kernel
theorem dX9_divideRows_149 : decode cX9_divideRows 149 = .ok (.goto 4, 3) := by decide +kernel
theorem dX9_divideRows_152 : decode cX9_divideRows 152 = .ok (.iconst 0, 1) := by decide +kernel
theorem dX9_divideRows_153 : decode cX9_divideRows 153 = .ok (.istore 11, 2) := by decide +kernel
theorem dX9_divideRows_155 : decode cX9_divideRows 155 = .ok (.goto (-42), 3) := by decide +kernel
theorem dX9_divideRows_158 : decode cX9_divideRows 158 = .ok (.aload_n 0, 1) := by decide +kernel
theorem dX9_divideRows_159 : decode cX9_divideRows 159 = .ok (.iload 7, 2) := by decide +kernel
theorem dX9_divideRows_161 : decode cX9_divideRows 161 = .ok (.aload_n 2, 1) := by decide +kernel
theorem dX9_divideRows_162 : decode cX9_divideRows 162 = .ok (.iload_n 3, 1) := by decide +kernel
theorem dX9_divideRows_163 : decode cX9_divideRows 163 = .ok (.invokestatic 50, 3) := by decide +kernel
theorem dX9_divideRows_166 : decode cX9_divideRows 166 = .ok (.ifCond .eq 20, 3) := by decide +kernel
theorem dX9_divideRows_169 : decode cX9_divideRows 169 = .ok (.iinc 10 1, 3) := by decide +kernel
theorem dX9_divideRows_172 : decode cX9_divideRows 172 = .ok (.aload_n 0, 1) := by decide +kernel
theorem dX9_divideRows_173 : decode cX9_divideRows 173 = .ok (.iload 7, 2) := by decide +kernel
theorem dX9_divideRows_175 : decode cX9_divideRows 175 = .ok (.aload_n 2, 1) := by decide +kernel
theorem dX9_divideRows_176 : decode cX9_divideRows 176 = .ok (.iload_n 3, 1) := by decide +kernel
theorem dX9_divideRows_177 : decode cX9_divideRows 177 = .ok (.iconst 1, 1) := by decide +kernel
theorem dX9_divideRows_178 : decode cX9_divideRows 178 = .ok (.invokestatic 42, 3) := by decide +kernel
theorem dX9_divideRows_181 : decode cX9_divideRows 181 = .ok (.istore 11, 2) := by decide +kernel
theorem dX9_divideRows_183 : decode cX9_divideRows 183 = .ok (.goto (-25), 3) := by decide +kernel
theorem dX9_divideRows_186 : decode cX9_divideRows 186 = .ok (.aload 4, 2) := by decide +kernel
theorem dX9_divideRows_188 : decode cX9_divideRows 188 = .ok (.ifnull 10, 3) := by decide +kernel
theorem dX9_divideRows_191 : decode cX9_divideRows 191 = .ok (.aload 4, 2) := by decide +kernel
theorem dX9_divideRows_193 : decode cX9_divideRows 193 = .ok (.iload 7, 2) := by decide +kernel
theorem dX9_divideRows_195 : decode cX9_divideRows 195 = .ok (.iload 10, 2) := by decide +kernel
theorem dX9_divideRows_197 : decode cX9_divideRows 197 = .ok (.iastore, 1) := by decide +kernel
theorem dX9_divideRows_198 : decode cX9_divideRows 198 = .ok (.iinc 7 (-1), 3) := by decide +kernel
theorem dX9_divideRows_201 : decode cX9_divideRows 201 = .ok (.goto (-168), 3) := by decide +kernel
theorem dX9_divideRows_204 : decode cX9_divideRows 204 = .ok (.aload_n 0, 1) := by decide +kernel
theorem dX9_divideRows_205 : decode cX9_divideRows 205 = .ok (.iload_n 1, 1) := by decide +kernel
theorem dX9_divideRows_206 : decode cX9_divideRows 206 = .ok (.iload_n 3, 1) := by decide +kernel
theorem dX9_divideRows_207 : decode cX9_divideRows 207 = .ok (.invokestatic 25, 3) := by decide +kernel
theorem dX9_divideRows_210 : decode cX9_divideRows 210 = .ok (.invokestatic 15, 3) := by decide +kernel
theorem dX9_divideRows_213 : decode cX9_divideRows 213 = .ok (.ireturn, 1) := by decide +kernel
theorem dX9_isAtLeast_0 : decode cX9_isAtLeast 0 = .ok (.aload_n 0, 1) := by decide +kernel
theorem dX9_isAtLeast_1 : decode cX9_isAtLeast 1 = .ok (.iload_n 1, 1) := by decide +kernel
theorem dX9_isAtLeast_2 : decode cX9_isAtLeast 2 = .ok (.iload_n 3, 1) := by decide +kernel
theorem dX9_isAtLeast_3 : decode cX9_isAtLeast 3 = .ok (.iadd, 1) := by decide +kernel
theorem dX9_isAtLeast_4 : decode cX9_isAtLeast 4 = .ok (.iaload, 1) := by decide +kernel
theorem dX9_isAtLeast_5 : decode cX9_isAtLeast 5 = .ok (.ifCond .le 5, 3) := by decide +kernel
theorem dX9_isAtLeast_8 : decode cX9_isAtLeast 8 = .ok (.iconst 1, 1) := by decide +kernel
theorem dX9_isAtLeast_9 : decode cX9_isAtLeast 9 = .ok (.ireturn, 1) := by decide +kernel
theorem dX9_isAtLeast_10 : decode cX9_isAtLeast 10 = .ok (.iload_n 3, 1) := by decide +kernel
theorem dX9_isAtLeast_11 : decode cX9_isAtLeast 11 = .ok (.iconst 1, 1) := by decide +kernel
theorem dX9_isAtLeast_12 : decode cX9_isAtLeast 12 = .ok (.isub, 1) := by decide +kernel
theorem dX9_isAtLeast_13 : decode cX9_isAtLeast 13 = .ok (.istore 4, 2) := by decide +kernel
theorem dX9_isAtLeast_15 : decode cX9_isAtLeast 15 = .ok (.iload 4, 2) := by decide +kernel
theorem dX9_isAtLeast_17 : decode cX9_isAtLeast 17 = .ok (.ifCond .lt 41, 3) := by decide +kernel
theorem dX9_isAtLeast_20 : decode cX9_isAtLeast 20 = .ok (.aload_n 0, 1) := by decide +kernel
theorem dX9_isAtLeast_21 : decode cX9_isAtLeast 21 = .ok (.iload_n 1, 1) := by decide +kernel
theorem dX9_isAtLeast_22 : decode cX9_isAtLeast 22 = .ok (.iload 4, 2) := by decide +kernel
theorem dX9_isAtLeast_24 : decode cX9_isAtLeast 24 = .ok (.iadd, 1) := by decide +kernel
theorem dX9_isAtLeast_25 : decode cX9_isAtLeast 25 = .ok (.iaload, 1) := by decide +kernel
theorem dX9_isAtLeast_26 : decode cX9_isAtLeast 26 = .ok (.aload_n 2, 1) := by decide +kernel
theorem dX9_isAtLeast_27 : decode cX9_isAtLeast 27 = .ok (.iload 4, 2) := by decide +kernel
theorem dX9_isAtLeast_29 : decode cX9_isAtLeast 29 = .ok (.iaload, 1) := by decide +kernel
theorem dX9_isAtLeast_30 : decode cX9_isAtLeast 30 = .ok (.if_icmp .eq 22, 3) := by decide +kernel
theorem dX9_isAtLeast_33 : decode cX9_isAtLeast 33 = .ok (.aload_n 0, 1) := by decide +kernel
theorem dX9_isAtLeast_34 : decode cX9_isAtLeast 34 = .ok (.iload_n 1, 1) := by decide +kernel
theorem dX9_isAtLeast_35 : decode cX9_isAtLeast 35 = .ok (.iload 4, 2) := by decide +kernel
theorem dX9_isAtLeast_37 : decode cX9_isAtLeast 37 = .ok (.iadd, 1) := by decide +kernel
theorem dX9_isAtLeast_38 : decode cX9_isAtLeast 38 = .ok (.iaload, 1) := by decide +kernel
theorem dX9_isAtLeast_39 : decode cX9_isAtLeast 39 = .ok (.aload_n 2, 1) := by decide +kernel
theorem dX9_isAtLeast_40 : decode cX9_isAtLeast 40 = .ok (.iload 4, 2) := by decide +kernel
theorem dX9_isAtLeast_42 : decode cX9_isAtLeast 42 = .ok (.iaload, 1) := by decide +kernel
theorem dX9_isAtLeast_43 : decode cX9_isAtLeast 43 = .ok (.if_icmp .le 7, 3) := by decide +kernel
theorem dX9_isAtLeast_46 : decode cX9_isAtLeast 46 = .ok (.iconst 1, 1) := by decide +kernel
theorem dX9_isAtLeast_47 : decode cX9_isAtLeast 47 = .ok (.goto 4, 3) := by decide +kernel
theorem dX9_isAtLeast_50 : decode cX9_isAtLeast 50 = .ok (.iconst 0, 1) := by decide +kernel
theorem dX9_isAtLeast_51 : decode cX9_isAtLeast 51 = .ok (.ireturn, 1) := by decide +kernel
theorem dX9_isAtLeast_52 : decode cX9_isAtLeast 52 = .ok (.iinc 4 (-1), 3) := by decide +kernel
theorem dX9_isAtLeast_55 : decode cX9_isAtLeast 55 = .ok (.goto (-40), 3) := by decide +kernel
theorem dX9_isAtLeast_58 : decode cX9_isAtLeast 58 = .ok (.iconst 1, 1) := by decide +kernel
theorem dX9_isAtLeast_59 : decode cX9_isAtLeast 59 = .ok (.ireturn, 1) := by decide +kernel
theorem dX9_copyRow_0 : decode cX9_copyRow 0 = .ok (.iconst 0, 1) := by decide +kernel
theorem dX9_copyRow_1 : decode cX9_copyRow 1 = .ok (.istore_n 3, 1) := by decide +kernel
theorem dX9_copyRow_2 : decode cX9_copyRow 2 = .ok (.iload_n 3, 1) := by decide +kernel
theorem dX9_copyRow_3 : decode cX9_copyRow 3 = .ok (.aload_n 1, 1) := by decide +kernel
theorem dX9_copyRow_4 : decode cX9_copyRow 4 = .ok (.arraylength, 1) := by decide +kernel
theorem dX9_copyRow_5 : decode cX9_copyRow 5 = .ok (.if_icmp .ge 24, 3) := by decide +kernel
theorem dX9_copyRow_8 : decode cX9_copyRow 8 = .ok (.aload_n 1, 1) := by decide +kernel
theorem dX9_copyRow_9 : decode cX9_copyRow 9 = .ok (.iload_n 3, 1) := by decide +kernel
theorem dX9_copyRow_10 : decode cX9_copyRow 10 = .ok (.iload_n 3, 1) := by decide +kernel
theorem dX9_copyRow_11 : decode cX9_copyRow 11 = .ok (.iload_n 2, 1) := by decide +kernel
theorem dX9_copyRow_12 : decode cX9_copyRow 12 = .ok (.if_icmp .ge 9, 3) := by decide +kernel
theorem dX9_copyRow_15 : decode cX9_copyRow 15 = .ok (.aload_n 0, 1) := by decide +kernel
theorem dX9_copyRow_16 : decode cX9_copyRow 16 = .ok (.iload_n 3, 1) := by decide +kernel
theorem dX9_copyRow_17 : decode cX9_copyRow 17 = .ok (.iaload, 1) := by decide +kernel
theorem dX9_copyRow_18 : decode cX9_copyRow 18 = .ok (.goto 4, 3) := by decide +kernel
theorem dX9_copyRow_21 : decode cX9_copyRow 21 = .ok (.iconst 0, 1) := by decide +kernel
theorem dX9_copyRow_22 : decode cX9_copyRow 22 = .ok (.iastore, 1) := by decide +kernel
theorem dX9_copyRow_23 : decode cX9_copyRow 23 = .ok (.iinc 3 1, 3) := by decide +kernel
theorem dX9_copyRow_26 : decode cX9_copyRow 26 = .ok (.goto (-24), 3) := by decide +kernel
theorem dX9_copyRow_29 : decode cX9_copyRow 29 = .ok (.return_, 1) := by decide +kernel
theorem dX9_gcd_0 : decode cX9_gcd 0 = .ok (.aload_n 0, 1) := by decide +kernel
theorem dX9_gcd_1 : decode cX9_gcd 1 = .ok (.getfield 54, 3) := by decide +kernel
theorem dX9_gcd_4 : decode cX9_gcd 4 = .ok (.astore 5, 2) := by decide +kernel
theorem dX9_gcd_6 : decode cX9_gcd 6 = .ok (.aload_n 0, 1) := by decide +kernel
theorem dX9_gcd_7 : decode cX9_gcd 7 = .ok (.getfield 58, 3) := by decide +kernel
theorem dX9_gcd_10 : decode cX9_gcd 10 = .ok (.astore 6, 2) := by decide +kernel
theorem dX9_gcd_12 : decode cX9_gcd 12 = .ok (.aload_n 1, 1) := by decide +kernel
theorem dX9_gcd_13 : decode cX9_gcd 13 = .ok (.aload 5, 2) := by decide +kernel
theorem dX9_gcd_15 : decode cX9_gcd 15 = .ok (.iload_n 2, 1) := by decide +kernel
theorem dX9_gcd_16 : decode cX9_gcd 16 = .ok (.invokestatic 61, 3) := by decide +kernel
theorem dX9_gcd_19 : decode cX9_gcd 19 = .ok (.aload_n 3, 1) := by decide +kernel
theorem dX9_gcd_20 : decode cX9_gcd 20 = .ok (.aload 6, 2) := by decide +kernel
theorem dX9_gcd_22 : decode cX9_gcd 22 = .ok (.iload 4, 2) := by decide +kernel
theorem dX9_gcd_24 : decode cX9_gcd 24 = .ok (.invokestatic 61, 3) := by decide +kernel
theorem dX9_gcd_27 : decode cX9_gcd 27 = .ok (.iload_n 2, 1) := by decide +kernel
theorem dX9_gcd_28 : decode cX9_gcd 28 = .ok (.istore 7, 2) := by decide +kernel
theorem dX9_gcd_30 : decode cX9_gcd 30 = .ok (.iload 4, 2) := by decide +kernel
theorem dX9_gcd_32 : decode cX9_gcd 32 = .ok (.istore 8, 2) := by decide +kernel
theorem dX9_gcd_34 : decode cX9_gcd 34 = .ok (.iload 8, 2) := by decide +kernel
theorem dX9_gcd_36 : decode cX9_gcd 36 = .ok (.ifCond .le 57, 3) := by decide +kernel
theorem dX9_gcd_39 : decode cX9_gcd 39 = .ok (.iload 7, 2) := by decide +kernel
theorem dX9_gcd_41 : decode cX9_gcd 41 = .ok (.iload 8, 2) := by decide +kernel
theorem dX9_gcd_43 : decode cX9_gcd 43 = .ok (.if_icmp .lt 23, 3) := by decide +kernel
theorem dX9_gcd_46 : decode cX9_gcd 46 = .ok (.aload 5, 2) := by decide +kernel
theorem dX9_gcd_48 : decode cX9_gcd 48 = .ok (.iload 7, 2) := by decide +kernel
theorem dX9_gcd_50 : decode cX9_gcd 50 = .ok (.iconst 0, 1) := by decide +kernel
theorem dX9_gcd_51 : decode cX9_gcd 51 = .ok (.iastore, 1) := by decide +kernel
theorem dX9_gcd_52 : decode cX9_gcd 52 = .ok (.aload 5, 2) := by decide +kernel
theorem dX9_gcd_54 : decode cX9_gcd 54 = .ok (.iload 7, 2) := by decide +kernel
theorem dX9_gcd_56 : decode cX9_gcd 56 = .ok (.aload 6, 2) := by decide +kernel
theorem dX9_gcd_58 : decode cX9_gcd 58 = .ok (.iload 8, 2) := by decide +kernel
theorem dX9_gcd_60 : decode cX9_gcd 60 = .ok (.aconst_null, 1) := by decide +kernel
theorem dX9_gcd_61 : decode cX9_gcd 61 = .ok (.invokestatic 65, 3) := by decide +kernel
theorem dX9_gcd_64 : decode cX9_gcd 64 = .ok (.istore 7, 2) := by decide +kernel
theorem dX9_gcd_66 : decode cX9_gcd 66 = .ok (.aload 5, 2) := by decide +kernel
theorem dX9_gcd_68 : decode cX9_gcd 68 = .ok (.astore 9, 2) := by decide +kernel
theorem dX9_gcd_70 : decode cX9_gcd 70 = .ok (.aload 6, 2) := by decide +kernel
theorem dX9_gcd_72 : decode cX9_gcd 72 = .ok (.astore 5, 2) := by decide +kernel
theorem dX9_gcd_74 : decode cX9_gcd 74 = .ok (.aload 9, 2) := by decide +kernel
theorem dX9_gcd_76 : decode cX9_gcd 76 = .ok (.astore 6, 2) := by decide +kernel
theorem dX9_gcd_78 : decode cX9_gcd 78 = .ok (.iload 7, 2) := by decide +kernel
theorem dX9_gcd_80 : decode cX9_gcd 80 = .ok (.istore 10, 2) := by decide +kernel
theorem dX9_gcd_82 : decode cX9_gcd 82 = .ok (.iload 8, 2) := by decide +kernel
theorem dX9_gcd_84 : decode cX9_gcd 84 = .ok (.istore 7, 2) := by decide +kernel
theorem dX9_gcd_86 : decode cX9_gcd 86 = .ok (.iload 10, 2) := by decide +kernel
theorem dX9_gcd_88 : decode cX9_gcd 88 = .ok (.istore 8, 2) := by decide +kernel
theorem dX9_gcd_90 : decode cX9_gcd 90 = .ok (.goto (-56), 3) := by decide +kernel
theorem dX9_gcd_93 : decode cX9_gcd 93 = .ok (.aload_n 0, 1) := by decide +kernel
theorem dX9_gcd_94 : decode cX9_gcd 94 = .ok (.aload 5, 2) := by decide +kernel
theorem dX9_gcd_96 : decode cX9_gcd 96 = .ok (.putfield 69, 3) := by decide +kernel
theorem dX9_gcd_99 : decode cX9_gcd 99 = .ok (.iload 7, 2) := by decide +kernel
theorem dX9_gcd_101 : decode cX9_gcd 101 = .ok (.ireturn, 1) := by decide +kernel
theorem dX9_reduced_0 : decode cX9_reduced 0 = .ok (.aload_n 1, 1) := by decide +kernel
theorem dX9_reduced_1 : decode cX9_reduced 1 = .ok (.aload_n 0, 1) := by decide +kernel
theorem dX9_reduced_2 : decode cX9_reduced 2 = .ok (.getfield 72, 3) := by decide +kernel
theorem dX9_reduced_5 : decode cX9_reduced 5 = .ok (.iload_n 2, 1) := by decide +kernel
theorem dX9_reduced_6 : decode cX9_reduced 6 = .ok (.invokestatic 61, 3) := by decide +kernel
theorem dX9_reduced_9 : decode cX9_reduced 9 = .ok (.iload_n 3, 1) := by decide +kernel
theorem dX9_reduced_10 : decode cX9_reduced 10 = .ok (.iconst 1, 1) := by decide +kernel
theorem dX9_reduced_11 : decode cX9_reduced 11 = .ok (.if_icmp .ne 25, 3) := by decide +kernel
theorem dX9_reduced_14 : decode cX9_reduced 14 = .ok (.aload_n 0, 1) := by decide +kernel
theorem dX9_reduced_15 : decode cX9_reduced 15 = .ok (.getfield 69, 3) := by decide +kernel
theorem dX9_reduced_18 : decode cX9_reduced 18 = .ok (.iconst 0, 1) := by decide +kernel
theorem dX9_reduced_19 : decode cX9_reduced 19 = .ok (.iaload, 1) := by decide +kernel
theorem dX9_reduced_20 : decode cX9_reduced 20 = .ok (.iconst 1, 1) := by decide +kernel
theorem dX9_reduced_21 : decode cX9_reduced 21 = .ok (.if_icmp .ne 15, 3) := by decide +kernel
theorem dX9_reduced_24 : decode cX9_reduced 24 = .ok (.aload_n 0, 1) := by decide +kernel
theorem dX9_reduced_25 : decode cX9_reduced 25 = .ok (.getfield 72, 3) := by decide +kernel
theorem dX9_reduced_28 : decode cX9_reduced 28 = .ok (.aload 4, 2) := by decide +kernel
theorem dX9_reduced_30 : decode cX9_reduced 30 = .ok (.iload_n 2, 1) := by decide +kernel
theorem dX9_reduced_31 : decode cX9_reduced 31 = .ok (.invokestatic 61, 3) := by decide +kernel
theorem dX9_reduced_34 : decode cX9_reduced 34 = .ok (.iload_n 2, 1) := by decide +kernel
theorem dX9_reduced_35 : decode cX9_reduced 35 = .ok (.ireturn, 1) := by decide +kernel
theorem dX9_reduced_36 : decode cX9_reduced 36 = .ok (.aload_n 0, 1) := by decide +kernel
theorem dX9_reduced_37 : decode cX9_reduced 37 = .ok (.getfield 72, 3) := by decide +kernel
theorem dX9_reduced_40 : decode cX9_reduced 40 = .ok (.aload 4, 2) := by decide +kernel
theorem dX9_reduced_42 : decode cX9_reduced 42 = .ok (.iconst 0, 1) := by decide +kernel
theorem dX9_reduced_43 : decode cX9_reduced 43 = .ok (.invokestatic 61, 3) := by decide +kernel
theorem dX9_reduced_46 : decode cX9_reduced 46 = .ok (.aload_n 0, 1) := by decide +kernel
theorem dX9_reduced_47 : decode cX9_reduced 47 = .ok (.getfield 72, 3) := by decide +kernel
theorem dX9_reduced_50 : decode cX9_reduced 50 = .ok (.iload_n 2, 1) := by decide +kernel
theorem dX9_reduced_51 : decode cX9_reduced 51 = .ok (.aload_n 0, 1) := by decide +kernel
theorem dX9_reduced_52 : decode cX9_reduced 52 = .ok (.getfield 69, 3) := by decide +kernel
theorem dX9_reduced_55 : decode cX9_reduced 55 = .ok (.iload_n 3, 1) := by decide +kernel
theorem dX9_reduced_56 : decode cX9_reduced 56 = .ok (.aload 4, 2) := by decide +kernel
theorem dX9_reduced_58 : decode cX9_reduced 58 = .ok (.invokestatic 65, 3) := by decide +kernel
theorem dX9_reduced_61 : decode cX9_reduced 61 = .ok (.istore 5, 2) := by decide +kernel
theorem dX9_reduced_63 : decode cX9_reduced 63 = .ok (.aload 4, 2) := by decide +kernel
theorem dX9_reduced_65 : decode cX9_reduced 65 = .ok (.iload_n 2, 1) := by decide +kernel
theorem dX9_reduced_66 : decode cX9_reduced 66 = .ok (.iload_n 3, 1) := by decide +kernel
theorem dX9_reduced_67 : decode cX9_reduced 67 = .ok (.isub, 1) := by decide +kernel
theorem dX9_reduced_68 : decode cX9_reduced 68 = .ok (.iconst 1, 1) := by decide +kernel
theorem dX9_reduced_69 : decode cX9_reduced 69 = .ok (.iadd, 1) := by decide +kernel
theorem dX9_reduced_70 : decode cX9_reduced 70 = .ok (.invokestatic 15, 3) := by decide +kernel
theorem dX9_reduced_73 : decode cX9_reduced 73 = .ok (.ireturn, 1) := by decide +kernel
theorem dX9_bitsOf_0 : decode cX9_bitsOf 0 = .ok (.iload_n 2, 1) := by decide +kernel
theorem dX9_bitsOf_1 : decode cX9_bitsOf 1 = .ok (.istore_n 3, 1) := by decide +kernel
theorem dX9_bitsOf_2 : decode cX9_bitsOf 2 = .ok (.iconst 0, 1) := by decide +kernel
theorem dX9_bitsOf_3 : decode cX9_bitsOf 3 = .ok (.istore 4, 2) := by decide +kernel
theorem dX9_bitsOf_5 : decode cX9_bitsOf 5 = .ok (.aload_n 1, 1) := by decide +kernel
theorem dX9_bitsOf_6 : decode cX9_bitsOf 6 = .ok (.aload_n 0, 1) := by decide +kernel
theorem dX9_bitsOf_7 : decode cX9_bitsOf 7 = .ok (.getfield 72, 3) := by decide +kernel
theorem dX9_bitsOf_10 : decode cX9_bitsOf 10 = .ok (.iload_n 3, 1) := by decide +kernel
theorem dX9_bitsOf_11 : decode cX9_bitsOf 11 = .ok (.invokestatic 61, 3) := by decide +kernel
theorem dX9_bitsOf_14 : decode cX9_bitsOf 14 = .ok (.iload_n 3, 1) := by decide +kernel
theorem dX9_bitsOf_15 : decode cX9_bitsOf 15 = .ok (.iconst 1, 1) := by decide +kernel
theorem dX9_bitsOf_16 : decode cX9_bitsOf 16 = .ok (.if_icmp .gt 20, 3) := by decide +kernel
theorem dX9_bitsOf_19 : decode cX9_bitsOf 19 = .ok (.iload_n 3, 1) := by decide +kernel
theorem dX9_bitsOf_20 : decode cX9_bitsOf 20 = .ok (.iconst 1, 1) := by decide +kernel
theorem dX9_bitsOf_21 : decode cX9_bitsOf 21 = .ok (.if_icmp .ne 43, 3) := by decide +kernel
theorem dX9_bitsOf_24 : decode cX9_bitsOf 24 = .ok (.aload_n 0, 1) := by decide +kernel
theorem dX9_bitsOf_25 : decode cX9_bitsOf 25 = .ok (.getfield 72, 3) := by decide +kernel
theorem dX9_bitsOf_28 : decode cX9_bitsOf 28 = .ok (.iconst 0, 1) := by decide +kernel
theorem dX9_bitsOf_29 : decode cX9_bitsOf 29 = .ok (.iaload, 1) := by decide +kernel
theorem dX9_bitsOf_30 : decode cX9_bitsOf 30 = .ok (.sipush 8192, 3) := by decide +kernel
theorem dX9_bitsOf_33 : decode cX9_bitsOf 33 = .ok (.if_icmp .lt 31, 3) := by decide +kernel
theorem dX9_bitsOf_36 : decode cX9_bitsOf 36 = .ok (.aload_n 0, 1) := by decide +kernel
theorem dX9_bitsOf_37 : decode cX9_bitsOf 37 = .ok (.getfield 72, 3) := by decide +kernel
theorem dX9_bitsOf_40 : decode cX9_bitsOf 40 = .ok (.iload_n 3, 1) := by decide +kernel
theorem dX9_bitsOf_41 : decode cX9_bitsOf 41 = .ok (.sipush 8192, 3) := by decide +kernel
theorem dX9_bitsOf_44 : decode cX9_bitsOf 44 = .ok (.invokestatic 75, 3) := by decide +kernel
theorem dX9_bitsOf_47 : decode cX9_bitsOf 47 = .ok (.istore 5, 2) := by decide +kernel
theorem dX9_bitsOf_49 : decode cX9_bitsOf 49 = .ok (.aload_n 0, 1) := by decide +kernel
theorem dX9_bitsOf_50 : decode cX9_bitsOf 50 = .ok (.getfield 72, 3) := by decide +kernel
theorem dX9_bitsOf_53 : decode cX9_bitsOf 53 = .ok (.iload_n 3, 1) := by decide +kernel
theorem dX9_bitsOf_54 : decode cX9_bitsOf 54 = .ok (.invokestatic 15, 3) := by decide +kernel
theorem dX9_bitsOf_57 : decode cX9_bitsOf 57 = .ok (.istore_n 3, 1) := by decide +kernel
theorem dX9_bitsOf_58 : decode cX9_bitsOf 58 = .ok (.iinc 4 13, 3) := by decide +kernel
theorem dX9_bitsOf_61 : decode cX9_bitsOf 61 = .ok (.goto (-47), 3) := by decide +kernel
theorem dX9_bitsOf_64 : decode cX9_bitsOf 64 = .ok (.iload_n 3, 1) := by decide +kernel
theorem dX9_bitsOf_65 : decode cX9_bitsOf 65 = .ok (.ifCond .ne 7, 3) := by decide +kernel
theorem dX9_bitsOf_68 : decode cX9_bitsOf 68 = .ok (.iconst 0, 1) := by decide +kernel
theorem dX9_bitsOf_69 : decode cX9_bitsOf 69 = .ok (.goto 9, 3) := by decide +kernel
theorem dX9_bitsOf_72 : decode cX9_bitsOf 72 = .ok (.aload_n 0, 1) := by decide +kernel
theorem dX9_bitsOf_73 : decode cX9_bitsOf 73 = .ok (.getfield 72, 3) := by decide +kernel
theorem dX9_bitsOf_76 : decode cX9_bitsOf 76 = .ok (.iconst 0, 1) := by decide +kernel
theorem dX9_bitsOf_77 : decode cX9_bitsOf 77 = .ok (.iaload, 1) := by decide +kernel
theorem dX9_bitsOf_78 : decode cX9_bitsOf 78 = .ok (.istore 5, 2) := by decide +kernel
theorem dX9_bitsOf_80 : decode cX9_bitsOf 80 = .ok (.iload 5, 2) := by decide +kernel
theorem dX9_bitsOf_82 : decode cX9_bitsOf 82 = .ok (.ifCond .le 15, 3) := by decide +kernel
theorem dX9_bitsOf_85 : decode cX9_bitsOf 85 = .ok (.iinc 4 1, 3) := by decide +kernel
theorem dX9_bitsOf_88 : decode cX9_bitsOf 88 = .ok (.iload 5, 2) := by decide +kernel
theorem dX9_bitsOf_90 : decode cX9_bitsOf 90 = .ok (.iconst 2, 1) := by decide +kernel
theorem dX9_bitsOf_91 : decode cX9_bitsOf 91 = .ok (.idiv, 1) := by decide +kernel
theorem dX9_bitsOf_92 : decode cX9_bitsOf 92 = .ok (.istore 5, 2) := by decide +kernel
theorem dX9_bitsOf_94 : decode cX9_bitsOf 94 = .ok (.goto (-14), 3) := by decide +kernel
theorem dX9_bitsOf_97 : decode cX9_bitsOf 97 = .ok (.iload 4, 2) := by decide +kernel
theorem dX9_bitsOf_99 : decode cX9_bitsOf 99 = .ok (.ireturn, 1) := by decide +kernel
theorem dX9_say_0 : decode cX9_say 0 = .ok (.aload_n 0, 1) := by decide +kernel
theorem dX9_say_1 : decode cX9_say 1 = .ok (.getfield 79, 3) := by decide +kernel
theorem dX9_say_4 : decode cX9_say 4 = .ok (.aload_n 0, 1) := by decide +kernel
theorem dX9_say_5 : decode cX9_say 5 = .ok (.getfield 82, 3) := by decide +kernel
theorem dX9_say_8 : decode cX9_say 8 = .ok (.iload_n 1, 1) := by decide +kernel
theorem dX9_say_9 : decode cX9_say 9 = .ok (.iastore, 1) := by decide +kernel
theorem dX9_say_10 : decode cX9_say 10 = .ok (.aload_n 0, 1) := by decide +kernel
theorem dX9_say_11 : decode cX9_say 11 = .ok (.dup, 1) := by decide +kernel
theorem dX9_say_12 : decode cX9_say 12 = .ok (.getfield 82, 3) := by decide +kernel
theorem dX9_say_15 : decode cX9_say 15 = .ok (.iconst 1, 1) := by decide +kernel
theorem dX9_say_16 : decode cX9_say 16 = .ok (.iadd, 1) := by decide +kernel
theorem dX9_say_17 : decode cX9_say 17 = .ok (.putfield 82, 3) := by decide +kernel
theorem dX9_say_20 : decode cX9_say 20 = .ok (.return_, 1) := by decide +kernel
theorem dX9_sayWord_0 : decode cX9_sayWord 0 = .ok (.iconst 0, 1) := by decide +kernel
theorem dX9_sayWord_1 : decode cX9_sayWord 1 = .ok (.istore_n 2, 1) := by decide +kernel
theorem dX9_sayWord_2 : decode cX9_sayWord 2 = .ok (.iload_n 2, 1) := by decide +kernel
theorem dX9_sayWord_3 : decode cX9_sayWord 3 = .ok (.aload_n 1, 1) := by decide +kernel
theorem dX9_sayWord_4 : decode cX9_sayWord 4 = .ok (.invokevirtual 86, 3) := by decide +kernel
theorem dX9_sayWord_7 : decode cX9_sayWord 7 = .ok (.if_icmp .ge 18, 3) := by decide +kernel
theorem dX9_sayWord_10 : decode cX9_sayWord 10 = .ok (.aload_n 0, 1) := by decide +kernel
theorem dX9_sayWord_11 : decode cX9_sayWord 11 = .ok (.aload_n 1, 1) := by decide +kernel
theorem dX9_sayWord_12 : decode cX9_sayWord 12 = .ok (.iload_n 2, 1) := by decide +kernel
theorem dX9_sayWord_13 : decode cX9_sayWord 13 = .ok (.invokevirtual 92, 3) := by decide +kernel
theorem dX9_sayWord_16 : decode cX9_sayWord 16 = .ok (.invokevirtual 96, 3) := by decide +kernel
theorem dX9_sayWord_19 : decode cX9_sayWord 19 = .ok (.iinc 2 1, 3) := by decide +kernel
theorem dX9_sayWord_22 : decode cX9_sayWord 22 = .ok (.goto (-20), 3) := by decide +kernel
theorem dX9_sayWord_25 : decode cX9_sayWord 25 = .ok (.return_, 1) := by decide +kernel
theorem dX9_saySmall_0 : decode cX9_saySmall 0 = .ok (.iload_n 1, 1) := by decide +kernel
theorem dX9_saySmall_1 : decode cX9_saySmall 1 = .ok (.ifCond .ge 8, 3) := by decide +kernel
theorem dX9_saySmall_4 : decode cX9_saySmall 4 = .ok (.iload_n 1, 1) := by decide +kernel
theorem dX9_saySmall_5 : decode cX9_saySmall 5 = .ok (.ineg, 1) := by decide +kernel
theorem dX9_saySmall_6 : decode cX9_saySmall 6 = .ok (.goto 4, 3) := by decide +kernel
theorem dX9_saySmall_9 : decode cX9_saySmall 9 = .ok (.iload_n 1, 1) := by decide +kernel
theorem dX9_saySmall_10 : decode cX9_saySmall 10 = .ok (.istore_n 2, 1) := by decide +kernel
theorem dX9_saySmall_11 : decode cX9_saySmall 11 = .ok (.iload_n 1, 1) := by decide +kernel
theorem dX9_saySmall_12 : decode cX9_saySmall 12 = .ok (.ifCond .ge 9, 3) := by decide +kernel
theorem dX9_saySmall_15 : decode cX9_saySmall 15 = .ok (.aload_n 0, 1) := by decide +kernel
theorem dX9_saySmall_16 : decode cX9_saySmall 16 = .ok (.bipush 45, 2) := by decide +kernel
theorem dX9_saySmall_18 : decode cX9_saySmall 18 = .ok (.invokevirtual 96, 3) := by decide +kernel
theorem dX9_saySmall_21 : decode cX9_saySmall 21 = .ok (.iload_n 2, 1) := by decide +kernel
theorem dX9_saySmall_22 : decode cX9_saySmall 22 = .ok (.bipush 99, 2) := by decide +kernel
theorem dX9_saySmall_24 : decode cX9_saySmall 24 = .ok (.if_icmp .le 14, 3) := by decide +kernel
theorem dX9_saySmall_27 : decode cX9_saySmall 27 = .ok (.aload_n 0, 1) := by decide +kernel
theorem dX9_saySmall_28 : decode cX9_saySmall 28 = .ok (.bipush 48, 2) := by decide +kernel
theorem dX9_saySmall_30 : decode cX9_saySmall 30 = .ok (.iload_n 2, 1) := by decide +kernel
theorem dX9_saySmall_31 : decode cX9_saySmall 31 = .ok (.bipush 100, 2) := by decide +kernel
theorem dX9_saySmall_33 : decode cX9_saySmall 33 = .ok (.idiv, 1) := by decide +kernel
theorem dX9_saySmall_34 : decode cX9_saySmall 34 = .ok (.iadd, 1) := by decide +kernel
theorem dX9_saySmall_35 : decode cX9_saySmall 35 = .ok (.invokevirtual 96, 3) := by decide +kernel
theorem dX9_saySmall_38 : decode cX9_saySmall 38 = .ok (.iload_n 2, 1) := by decide +kernel
theorem dX9_saySmall_39 : decode cX9_saySmall 39 = .ok (.bipush 9, 2) := by decide +kernel
theorem dX9_saySmall_41 : decode cX9_saySmall 41 = .ok (.if_icmp .le 17, 3) := by decide +kernel
theorem dX9_saySmall_44 : decode cX9_saySmall 44 = .ok (.aload_n 0, 1) := by decide +kernel
theorem dX9_saySmall_45 : decode cX9_saySmall 45 = .ok (.bipush 48, 2) := by decide +kernel
theorem dX9_saySmall_47 : decode cX9_saySmall 47 = .ok (.iload_n 2, 1) := by decide +kernel
theorem dX9_saySmall_48 : decode cX9_saySmall 48 = .ok (.bipush 10, 2) := by decide +kernel
theorem dX9_saySmall_50 : decode cX9_saySmall 50 = .ok (.idiv, 1) := by decide +kernel
theorem dX9_saySmall_51 : decode cX9_saySmall 51 = .ok (.bipush 10, 2) := by decide +kernel
theorem dX9_saySmall_53 : decode cX9_saySmall 53 = .ok (.irem, 1) := by decide +kernel
theorem dX9_saySmall_54 : decode cX9_saySmall 54 = .ok (.iadd, 1) := by decide +kernel
theorem dX9_saySmall_55 : decode cX9_saySmall 55 = .ok (.invokevirtual 96, 3) := by decide +kernel
theorem dX9_saySmall_58 : decode cX9_saySmall 58 = .ok (.aload_n 0, 1) := by decide +kernel
theorem dX9_saySmall_59 : decode cX9_saySmall 59 = .ok (.bipush 48, 2) := by decide +kernel
theorem dX9_saySmall_61 : decode cX9_saySmall 61 = .ok (.iload_n 2, 1) := by decide +kernel
theorem dX9_saySmall_62 : decode cX9_saySmall 62 = .ok (.bipush 10, 2) := by decide +kernel
theorem dX9_saySmall_64 : decode cX9_saySmall 64 = .ok (.irem, 1) := by decide +kernel
theorem dX9_saySmall_65 : decode cX9_saySmall 65 = .ok (.iadd, 1) := by decide +kernel
theorem dX9_saySmall_66 : decode cX9_saySmall 66 = .ok (.invokevirtual 96, 3) := by decide +kernel
theorem dX9_saySmall_69 : decode cX9_saySmall 69 = .ok (.return_, 1) := by decide +kernel
theorem dX9_sayWhole_0 : decode cX9_sayWhole 0 = .ok (.aload_n 1, 1) := by decide +kernel
theorem dX9_sayWhole_1 : decode cX9_sayWhole 1 = .ok (.invokevirtual 100, 3) := by decide +kernel
theorem dX9_sayWhole_4 : decode cX9_sayWhole 4 = .ok (.ifCond .eq 10, 3) := by decide +kernel
theorem dX9_sayWhole_7 : decode cX9_sayWhole 7 = .ok (.aload_n 0, 1) := by decide +kernel
theorem dX9_sayWhole_8 : decode cX9_sayWhole 8 = .ok (.bipush 48, 2) := by decide +kernel
theorem dX9_sayWhole_10 : decode cX9_sayWhole 10 = .ok (.invokevirtual 96, 3) := by decide +kernel
theorem dX9_sayWhole_13 : decode cX9_sayWhole 13 = .ok (.return_, 1) := by decide +kernel
theorem dX9_sayWhole_14 : decode cX9_sayWhole 14 = .ok (.aload_n 0, 1) := by decide +kernel
theorem dX9_sayWhole_15 : decode cX9_sayWhole 15 = .ok (.getfield 82, 3) := by decide +kernel
theorem dX9_sayWhole_18 : decode cX9_sayWhole 18 = .ok (.istore_n 3, 1) := by decide +kernel
theorem dX9_sayWhole_19 : decode cX9_sayWhole 19 = .ok (.aload_n 1, 1) := by decide +kernel
theorem dX9_sayWhole_20 : decode cX9_sayWhole 20 = .ok (.getfield 104, 3) := by decide +kernel
theorem dX9_sayWhole_23 : decode cX9_sayWhole 23 = .ok (.arraylength, 1) := by decide +kernel
theorem dX9_sayWhole_24 : decode cX9_sayWhole 24 = .ok (.istore 4, 2) := by decide +kernel
theorem dX9_sayWhole_26 : decode cX9_sayWhole 26 = .ok (.aload_n 1, 1) := by decide +kernel
theorem dX9_sayWhole_27 : decode cX9_sayWhole 27 = .ok (.getfield 104, 3) := by decide +kernel
theorem dX9_sayWhole_30 : decode cX9_sayWhole 30 = .ok (.aload_n 0, 1) := by decide +kernel
theorem dX9_sayWhole_31 : decode cX9_sayWhole 31 = .ok (.getfield 72, 3) := by decide +kernel
theorem dX9_sayWhole_34 : decode cX9_sayWhole 34 = .ok (.iload 4, 2) := by decide +kernel
theorem dX9_sayWhole_36 : decode cX9_sayWhole 36 = .ok (.invokestatic 61, 3) := by decide +kernel
theorem dX9_sayWhole_39 : decode cX9_sayWhole 39 = .ok (.iload 4, 2) := by decide +kernel
theorem dX9_sayWhole_41 : decode cX9_sayWhole 41 = .ok (.ifCond .le 36, 3) := by decide +kernel
theorem dX9_sayWhole_44 : decode cX9_sayWhole 44 = .ok (.aload_n 0, 1) := by decide +kernel
theorem dX9_sayWhole_45 : decode cX9_sayWhole 45 = .ok (.ldc 107, 2) := by decide +kernel
theorem dX9_sayWhole_47 : decode cX9_sayWhole 47 = .ok (.aload_n 0, 1) := by decide +kernel
theorem dX9_sayWhole_48 : decode cX9_sayWhole 48 = .ok (.getfield 72, 3) := by decide +kernel
theorem dX9_sayWhole_51 : decode cX9_sayWhole 51 = .ok (.iload 4, 2) := by decide +kernel
theorem dX9_sayWhole_53 : decode cX9_sayWhole 53 = .ok (.iload_n 2, 1) := by decide +kernel
theorem dX9_sayWhole_54 : decode cX9_sayWhole 54 = .ok (.invokestatic 75, 3) := by decide +kernel
theorem dX9_sayWhole_57 : decode cX9_sayWhole 57 = .ok (.invokevirtual 92, 3) := by decide +kernel
theorem dX9_sayWhole_60 : decode cX9_sayWhole 60 = .ok (.invokevirtual 96, 3) := by decide +kernel
theorem dX9_sayWhole_63 : decode cX9_sayWhole 63 = .ok (.aload_n 0, 1) := by decide +kernel
theorem dX9_sayWhole_64 : decode cX9_sayWhole 64 = .ok (.getfield 72, 3) := by decide +kernel
theorem dX9_sayWhole_67 : decode cX9_sayWhole 67 = .ok (.iload 4, 2) := by decide +kernel
theorem dX9_sayWhole_69 : decode cX9_sayWhole 69 = .ok (.invokestatic 15, 3) := by decide +kernel
theorem dX9_sayWhole_72 : decode cX9_sayWhole 72 = .ok (.istore 4, 2) := by decide +kernel
theorem dX9_sayWhole_74 : decode cX9_sayWhole 74 = .ok (.goto (-35), 3) := by decide +kernel
theorem dX9_sayWhole_77 : decode cX9_sayWhole 77 = .ok (.aload_n 1, 1) := by decide +kernel
theorem dX9_sayWhole_78 : decode cX9_sayWhole 78 = .ok (.getfield 109, 3) := by decide +kernel
theorem dX9_sayWhole_81 : decode cX9_sayWhole 81 = .ok (.ifCond .ge 9, 3) := by decide +kernel
theorem dX9_sayWhole_84 : decode cX9_sayWhole 84 = .ok (.aload_n 0, 1) := by decide +kernel
theorem dX9_sayWhole_85 : decode cX9_sayWhole 85 = .ok (.bipush 45, 2) := by decide +kernel
theorem dX9_sayWhole_87 : decode cX9_sayWhole 87 = .ok (.invokevirtual 96, 3) := by decide +kernel
theorem dX9_sayWhole_90 : decode cX9_sayWhole 90 = .ok (.iload_n 3, 1) := by decide +kernel
theorem dX9_sayWhole_91 : decode cX9_sayWhole 91 = .ok (.istore 5, 2) := by decide +kernel
theorem dX9_sayWhole_93 : decode cX9_sayWhole 93 = .ok (.aload_n 0, 1) := by decide +kernel
theorem dX9_sayWhole_94 : decode cX9_sayWhole 94 = .ok (.getfield 82, 3) := by decide +kernel
theorem dX9_sayWhole_97 : decode cX9_sayWhole 97 = .ok (.iconst 1, 1) := by decide +kernel
theorem dX9_sayWhole_98 : decode cX9_sayWhole 98 = .ok (.isub, 1) := by decide +kernel
theorem dX9_sayWhole_99 : decode cX9_sayWhole 99 = .ok (.istore 6, 2) := by decide +kernel
theorem dX9_sayWhole_101 : decode cX9_sayWhole 101 = .ok (.iload 5, 2) := by decide +kernel
theorem dX9_sayWhole_103 : decode cX9_sayWhole 103 = .ok (.iload 6, 2) := by decide +kernel
theorem dX9_sayWhole_105 : decode cX9_sayWhole 105 = .ok (.if_icmp .ge 44, 3) := by decide +kernel
theorem dX9_sayWhole_108 : decode cX9_sayWhole 108 = .ok (.aload_n 0, 1) := by decide +kernel
theorem dX9_sayWhole_109 : decode cX9_sayWhole 109 = .ok (.getfield 79, 3) := by decide +kernel
theorem dX9_sayWhole_112 : decode cX9_sayWhole 112 = .ok (.iload 5, 2) := by decide +kernel
theorem dX9_sayWhole_114 : decode cX9_sayWhole 114 = .ok (.iaload, 1) := by decide +kernel
theorem dX9_sayWhole_115 : decode cX9_sayWhole 115 = .ok (.istore 7, 2) := by decide +kernel
theorem dX9_sayWhole_117 : decode cX9_sayWhole 117 = .ok (.aload_n 0, 1) := by decide +kernel
theorem dX9_sayWhole_118 : decode cX9_sayWhole 118 = .ok (.getfield 79, 3) := by decide +kernel
theorem dX9_sayWhole_121 : decode cX9_sayWhole 121 = .ok (.iload 5, 2) := by decide +kernel
theorem dX9_sayWhole_123 : decode cX9_sayWhole 123 = .ok (.aload_n 0, 1) := by decide +kernel
theorem dX9_sayWhole_124 : decode cX9_sayWhole 124 = .ok (.getfield 79, 3) := by decide +kernel
theorem dX9_sayWhole_127 : decode cX9_sayWhole 127 = .ok (.iload 6, 2) := by decide +kernel
theorem dX9_sayWhole_129 : decode cX9_sayWhole 129 = .ok (.iaload, 1) := by decide +kernel
theorem dX9_sayWhole_130 : decode cX9_sayWhole 130 = .ok (.iastore, 1) := by decide +kernel
theorem dX9_sayWhole_131 : decode cX9_sayWhole 131 = .ok (.aload_n 0, 1) := by decide +kernel
theorem dX9_sayWhole_132 : decode cX9_sayWhole 132 = .ok (.getfield 79, 3) := by decide +kernel
theorem dX9_sayWhole_135 : decode cX9_sayWhole 135 = .ok (.iload 6, 2) := by decide +kernel
theorem dX9_sayWhole_137 : decode cX9_sayWhole 137 = .ok (.iload 7, 2) := by decide +kernel
theorem dX9_sayWhole_139 : decode cX9_sayWhole 139 = .ok (.iastore, 1) := by decide +kernel
theorem dX9_sayWhole_140 : decode cX9_sayWhole 140 = .ok (.iinc 5 1, 3) := by decide +kernel
theorem dX9_sayWhole_143 : decode cX9_sayWhole 143 = .ok (.iinc 6 (-1), 3) := by decide +kernel
theorem dX9_sayWhole_146 : decode cX9_sayWhole 146 = .ok (.goto (-45), 3) := by decide +kernel
theorem dX9_sayWhole_149 : decode cX9_sayWhole 149 = .ok (.return_, 1) := by decide +kernel
theorem dX9_nearest_0 : decode cX9_nearest 0 = .ok (.aload_n 1, 1) := by decide +kernel
theorem dX9_nearest_1 : decode cX9_nearest 1 = .ok (.iload_n 2, 1) := by decide +kernel
theorem dX9_nearest_2 : decode cX9_nearest 2 = .ok (.invokestatic 112, 3) := by decide +kernel
theorem dX9_nearest_5 : decode cX9_nearest 5 = .ok (.aload_n 3, 1) := by decide +kernel
theorem dX9_nearest_6 : decode cX9_nearest 6 = .ok (.iload 4, 2) := by decide +kernel
theorem dX9_nearest_8 : decode cX9_nearest 8 = .ok (.invokestatic 112, 3) := by decide +kernel
theorem dX9_nearest_11 : decode cX9_nearest 11 = .ok (.isub, 1) := by decide +kernel
theorem dX9_nearest_12 : decode cX9_nearest 12 = .ok (.i2d, 1) := by decide +kernel
theorem dX9_nearest_13 : decode cX9_nearest 13 = .ok (.ldc2_w 115, 3) := by decide +kernel
theorem dX9_nearest_16 : decode cX9_nearest 16 = .ok (.dmul, 1) := by decide +kernel
theorem dX9_nearest_17 : decode cX9_nearest 17 = .ok (.d2i, 1) := by decide +kernel
theorem dX9_nearest_18 : decode cX9_nearest 18 = .ok (.bipush 53, 2) := by decide +kernel
theorem dX9_nearest_20 : decode cX9_nearest 20 = .ok (.isub, 1) := by decide +kernel
theorem dX9_nearest_21 : decode cX9_nearest 21 = .ok (.istore 5, 2) := by decide +kernel
theorem dX9_nearest_23 : decode cX9_nearest 23 = .ok (.iload 5, 2) := by decide +kernel
theorem dX9_nearest_25 : decode cX9_nearest 25 = .ok (.sipush 1100, 3) := by decide +kernel
theorem dX9_nearest_28 : decode cX9_nearest 28 = .ok (.if_icmp .le 7, 3) := by decide +kernel
theorem dX9_nearest_31 : decode cX9_nearest 31 = .ok (.ldc2_w 117, 3) := by decide +kernel
theorem dX9_nearest_34 : decode cX9_nearest 34 = .ok (.dreturn, 1) := by decide +kernel
theorem dX9_nearest_35 : decode cX9_nearest 35 = .ok (.iload 5, 2) := by decide +kernel
theorem dX9_nearest_37 : decode cX9_nearest 37 = .ok (.sipush (-1200), 3) := by decide +kernel
theorem dX9_nearest_40 : decode cX9_nearest 40 = .ok (.if_icmp .ge 5, 3) := by decide +kernel
theorem dX9_nearest_43 : decode cX9_nearest 43 = .ok (.dconst 0, 1) := by decide +kernel
theorem dX9_nearest_44 : decode cX9_nearest 44 = .ok (.dreturn, 1) := by decide +kernel
theorem dX9_nearest_45 : decode cX9_nearest 45 = .ok (.iload 5, 2) := by decide +kernel
theorem dX9_nearest_47 : decode cX9_nearest 47 = .ok (.sipush (-1074), 3) := by decide +kernel
theorem dX9_nearest_50 : decode cX9_nearest 50 = .ok (.if_icmp .ge 8, 3) := by decide +kernel
theorem dX9_nearest_53 : decode cX9_nearest 53 = .ok (.sipush (-1074), 3) := by decide +kernel
theorem dX9_nearest_56 : decode cX9_nearest 56 = .ok (.istore 5, 2) := by decide +kernel
theorem dX9_nearest_58 : decode cX9_nearest 58 = .ok (.aload_n 1, 1) := by decide +kernel
theorem dX9_nearest_59 : decode cX9_nearest 59 = .ok (.aload_n 0, 1) := by decide +kernel
theorem dX9_nearest_60 : decode cX9_nearest 60 = .ok (.getfield 119, 3) := by decide +kernel
theorem dX9_nearest_63 : decode cX9_nearest 63 = .ok (.iload_n 2, 1) := by decide +kernel
theorem dX9_nearest_64 : decode cX9_nearest 64 = .ok (.invokestatic 61, 3) := by decide +kernel
theorem dX9_nearest_67 : decode cX9_nearest 67 = .ok (.aload_n 3, 1) := by decide +kernel
theorem dX9_nearest_68 : decode cX9_nearest 68 = .ok (.aload_n 0, 1) := by decide +kernel
theorem dX9_nearest_69 : decode cX9_nearest 69 = .ok (.getfield 122, 3) := by decide +kernel
theorem dX9_nearest_72 : decode cX9_nearest 72 = .ok (.iload 4, 2) := by decide +kernel
theorem dX9_nearest_74 : decode cX9_nearest 74 = .ok (.invokestatic 61, 3) := by decide +kernel
theorem dX9_nearest_77 : decode cX9_nearest 77 = .ok (.aload_n 0, 1) := by decide +kernel
theorem dX9_nearest_78 : decode cX9_nearest 78 = .ok (.getfield 125, 3) := by decide +kernel
theorem dX9_nearest_81 : decode cX9_nearest 81 = .ok (.aload_n 0, 1) := by decide +kernel
theorem dX9_nearest_82 : decode cX9_nearest 82 = .ok (.getfield 128, 3) := by decide +kernel
theorem dX9_nearest_85 : decode cX9_nearest 85 = .ok (.iconst 0, 1) := by decide +kernel
theorem dX9_nearest_86 : decode cX9_nearest 86 = .ok (.invokestatic 61, 3) := by decide +kernel
theorem dX9_nearest_89 : decode cX9_nearest 89 = .ok (.iload 5, 2) := by decide +kernel
theorem dX9_nearest_91 : decode cX9_nearest 91 = .ok (.ifCond .ge 17, 3) := by decide +kernel
theorem dX9_nearest_94 : decode cX9_nearest 94 = .ok (.aload_n 0, 1) := by decide +kernel
theorem dX9_nearest_95 : decode cX9_nearest 95 = .ok (.getfield 119, 3) := by decide +kernel
theorem dX9_nearest_98 : decode cX9_nearest 98 = .ok (.iload_n 2, 1) := by decide +kernel
theorem dX9_nearest_99 : decode cX9_nearest 99 = .ok (.iload 5, 2) := by decide +kernel
theorem dX9_nearest_101 : decode cX9_nearest 101 = .ok (.ineg, 1) := by decide +kernel
theorem dX9_nearest_102 : decode cX9_nearest 102 = .ok (.invokestatic 131, 3) := by decide +kernel
theorem dX9_nearest_105 : decode cX9_nearest 105 = .ok (.goto 4, 3) := by decide +kernel
theorem dX9_nearest_108 : decode cX9_nearest 108 = .ok (.iload_n 2, 1) := by decide +kernel
theorem dX9_nearest_109 : decode cX9_nearest 109 = .ok (.istore 6, 2) := by decide +kernel
theorem dX9_nearest_111 : decode cX9_nearest 111 = .ok (.iload 5, 2) := by decide +kernel
theorem dX9_nearest_113 : decode cX9_nearest 113 = .ok (.ifCond .le 17, 3) := by decide +kernel
theorem dX9_nearest_116 : decode cX9_nearest 116 = .ok (.aload_n 0, 1) := by decide +kernel
theorem dX9_nearest_117 : decode cX9_nearest 117 = .ok (.getfield 122, 3) := by decide +kernel
theorem dX9_nearest_120 : decode cX9_nearest 120 = .ok (.iload 4, 2) := by decide +kernel
theorem dX9_nearest_122 : decode cX9_nearest 122 = .ok (.iload 5, 2) := by decide +kernel
theorem dX9_nearest_124 : decode cX9_nearest 124 = .ok (.invokestatic 131, 3) := by decide +kernel
theorem dX9_nearest_127 : decode cX9_nearest 127 = .ok (.goto 5, 3) := by decide +kernel
theorem dX9_nearest_130 : decode cX9_nearest 130 = .ok (.iload 4, 2) := by decide +kernel
theorem dX9_nearest_132 : decode cX9_nearest 132 = .ok (.istore 7, 2) := by decide +kernel
theorem dX9_nearest_134 : decode cX9_nearest 134 = .ok (.iload 6, 2) := by decide +kernel
theorem dX9_nearest_136 : decode cX9_nearest 136 = .ok (.iload 7, 2) := by decide +kernel
theorem dX9_nearest_138 : decode cX9_nearest 138 = .ok (.if_icmp .ge 8, 3) := by decide +kernel
theorem dX9_nearest_141 : decode cX9_nearest 141 = .ok (.iload 6, 2) := by decide +kernel
theorem dX9_nearest_143 : decode cX9_nearest 143 = .ok (.goto 22, 3) := by decide +kernel
theorem dX9_nearest_146 : decode cX9_nearest 146 = .ok (.aload_n 0, 1) := by decide +kernel
theorem dX9_nearest_147 : decode cX9_nearest 147 = .ok (.getfield 119, 3) := by decide +kernel
theorem dX9_nearest_150 : decode cX9_nearest 150 = .ok (.iload 6, 2) := by decide +kernel
theorem dX9_nearest_152 : decode cX9_nearest 152 = .ok (.aload_n 0, 1) := by decide +kernel
theorem dX9_nearest_153 : decode cX9_nearest 153 = .ok (.getfield 122, 3) := by decide +kernel
theorem dX9_nearest_156 : decode cX9_nearest 156 = .ok (.iload 7, 2) := by decide +kernel
theorem dX9_nearest_158 : decode cX9_nearest 158 = .ok (.aload_n 0, 1) := by decide +kernel
theorem dX9_nearest_159 : decode cX9_nearest 159 = .ok (.getfield 128, 3) := by decide +kernel
theorem dX9_nearest_162 : decode cX9_nearest 162 = .ok (.invokestatic 65, 3) := by decide +kernel
theorem dX9_nearest_165 : decode cX9_nearest 165 = .ok (.istore 8, 2) := by decide +kernel
theorem dX9_nearest_167 : decode cX9_nearest 167 = .ok (.aload_n 0, 1) := by decide +kernel
theorem dX9_nearest_168 : decode cX9_nearest 168 = .ok (.getfield 128, 3) := by decide +kernel
theorem dX9_nearest_171 : decode cX9_nearest 171 = .ok (.iconst 1, 1) := by decide +kernel
theorem dX9_nearest_172 : decode cX9_nearest 172 = .ok (.iload 6, 2) := by decide +kernel
theorem dX9_nearest_174 : decode cX9_nearest 174 = .ok (.iload 7, 2) := by decide +kernel
theorem dX9_nearest_176 : decode cX9_nearest 176 = .ok (.isub, 1) := by decide +kernel
theorem dX9_nearest_177 : decode cX9_nearest 177 = .ok (.iconst 1, 1) := by decide +kernel
theorem dX9_nearest_178 : decode cX9_nearest 178 = .ok (.iadd, 1) := by decide +kernel
theorem dX9_nearest_179 : decode cX9_nearest 179 = .ok (.invokestatic 134, 3) := by decide +kernel
theorem dX9_nearest_182 : decode cX9_nearest 182 = .ok (.invokestatic 15, 3) := by decide +kernel
theorem dX9_nearest_185 : decode cX9_nearest 185 = .ok (.istore 9, 2) := by decide +kernel
theorem dX9_nearest_187 : decode cX9_nearest 187 = .ok (.lconst 0, 1) := by decide +kernel
theorem dX9_nearest_188 : decode cX9_nearest 188 = .ok (.lstore 10, 2) := by decide +kernel
theorem dX9_nearest_190 : decode cX9_nearest 190 = .ok (.iload 9, 2) := by decide +kernel
theorem dX9_nearest_192 : decode cX9_nearest 192 = .ok (.iconst 4, 1) := by decide +kernel
theorem dX9_nearest_193 : decode cX9_nearest 193 = .ok (.invokestatic 25, 3) := by decide +kernel
theorem dX9_nearest_196 : decode cX9_nearest 196 = .ok (.iconst 1, 1) := by decide +kernel
theorem dX9_nearest_197 : decode cX9_nearest 197 = .ok (.isub, 1) := by decide +kernel
theorem dX9_nearest_198 : decode cX9_nearest 198 = .ok (.istore 12, 2) := by decide +kernel
theorem dX9_nearest_200 : decode cX9_nearest 200 = .ok (.iload 12, 2) := by decide +kernel
theorem dX9_nearest_202 : decode cX9_nearest 202 = .ok (.ifCond .lt 26, 3) := by decide +kernel
theorem dX9_nearest_205 : decode cX9_nearest 205 = .ok (.lload 10, 2) := by decide +kernel
theorem dX9_nearest_207 : decode cX9_nearest 207 = .ok (.ldc2_w 13, 3) := by decide +kernel
theorem dX9_nearest_210 : decode cX9_nearest 210 = .ok (.lmul, 1) := by decide +kernel
theorem dX9_nearest_211 : decode cX9_nearest 211 = .ok (.aload_n 0, 1) := by decide +kernel
theorem dX9_nearest_212 : decode cX9_nearest 212 = .ok (.getfield 128, 3) := by decide +kernel
theorem dX9_nearest_215 : decode cX9_nearest 215 = .ok (.iload 12, 2) := by decide +kernel
theorem dX9_nearest_217 : decode cX9_nearest 217 = .ok (.iaload, 1) := by decide +kernel
theorem dX9_nearest_218 : decode cX9_nearest 218 = .ok (.i2l, 1) := by decide +kernel
theorem dX9_nearest_219 : decode cX9_nearest 219 = .ok (.ladd, 1) := by decide +kernel
theorem dX9_nearest_220 : decode cX9_nearest 220 = .ok (.lstore 10, 2) := by decide +kernel
theorem dX9_nearest_222 : decode cX9_nearest 222 = .ok (.iinc 12 (-1), 3) := by decide +kernel
theorem dX9_nearest_225 : decode cX9_nearest 225 = .ok (.goto (-25), 3) := by decide +kernel
theorem dX9_nearest_228 : decode cX9_nearest 228 = .ok (.iload 9, 2) := by decide +kernel
theorem dX9_nearest_230 : decode cX9_nearest 230 = .ok (.iconst 4, 1) := by decide +kernel
theorem dX9_nearest_231 : decode cX9_nearest 231 = .ok (.if_icmp .gt 12, 3) := by decide +kernel
theorem dX9_nearest_234 : decode cX9_nearest 234 = .ok (.lload 10, 2) := by decide +kernel
theorem dX9_nearest_236 : decode cX9_nearest 236 = .ok (.ldc2_w 137, 3) := by decide +kernel
theorem dX9_nearest_239 : decode cX9_nearest 239 = .ok (.lcmp, 1) := by decide +kernel
theorem dX9_nearest_240 : decode cX9_nearest 240 = .ok (.ifCond .lt 9, 3) := by decide +kernel
theorem dX9_nearest_243 : decode cX9_nearest 243 = .ok (.iinc 5 1, 3) := by decide +kernel
theorem dX9_nearest_246 : decode cX9_nearest 246 = .ok (.goto 92, 3) := by decide +kernel
theorem dX9_nearest_249 : decode cX9_nearest 249 = .ok (.lload 10, 2) := by decide +kernel
theorem dX9_nearest_251 : decode cX9_nearest 251 = .ok (.ldc2_w 139, 3) := by decide +kernel
theorem dX9_nearest_254 : decode cX9_nearest 254 = .ok (.lcmp, 1) := by decide +kernel
theorem dX9_nearest_255 : decode cX9_nearest 255 = .ok (.ifCond .ge 17, 3) := by decide +kernel
theorem dX9_nearest_258 : decode cX9_nearest 258 = .ok (.iload 5, 2) := by decide +kernel
theorem dX9_nearest_260 : decode cX9_nearest 260 = .ok (.sipush (-1074), 3) := by decide +kernel
theorem dX9_nearest_263 : decode cX9_nearest 263 = .ok (.if_icmp .le 9, 3) := by decide +kernel
theorem dX9_nearest_266 : decode cX9_nearest 266 = .ok (.iinc 5 (-1), 3) := by decide +kernel
theorem dX9_nearest_269 : decode cX9_nearest 269 = .ok (.goto 69, 3) := by decide +kernel
theorem dX9_nearest_272 : decode cX9_nearest 272 = .ok (.aload_n 0, 1) := by decide +kernel
theorem dX9_nearest_273 : decode cX9_nearest 273 = .ok (.getfield 119, 3) := by decide +kernel
theorem dX9_nearest_276 : decode cX9_nearest 276 = .ok (.iload 8, 2) := by decide +kernel
theorem dX9_nearest_278 : decode cX9_nearest 278 = .ok (.iconst 2, 1) := by decide +kernel
theorem dX9_nearest_279 : decode cX9_nearest 279 = .ok (.iconst 0, 1) := by decide +kernel
theorem dX9_nearest_280 : decode cX9_nearest 280 = .ok (.invokestatic 31, 3) := by decide +kernel
theorem dX9_nearest_283 : decode cX9_nearest 283 = .ok (.istore 8, 2) := by decide +kernel
theorem dX9_nearest_285 : decode cX9_nearest 285 = .ok (.aload_n 0, 1) := by decide +kernel
theorem dX9_nearest_286 : decode cX9_nearest 286 = .ok (.getfield 119, 3) := by decide +kernel
theorem dX9_nearest_289 : decode cX9_nearest 289 = .ok (.iload 8, 2) := by decide +kernel
theorem dX9_nearest_291 : decode cX9_nearest 291 = .ok (.aload_n 0, 1) := by decide +kernel
theorem dX9_nearest_292 : decode cX9_nearest 292 = .ok (.getfield 122, 3) := by decide +kernel
theorem dX9_nearest_295 : decode cX9_nearest 295 = .ok (.iload 7, 2) := by decide +kernel
theorem dX9_nearest_297 : decode cX9_nearest 297 = .ok (.invokestatic 141, 3) := by decide +kernel
theorem dX9_nearest_300 : decode cX9_nearest 300 = .ok (.istore 12, 2) := by decide +kernel
theorem dX9_nearest_302 : decode cX9_nearest 302 = .ok (.lload 10, 2) := by decide +kernel
theorem dX9_nearest_304 : decode cX9_nearest 304 = .ok (.iload 12, 2) := by decide +kernel
theorem dX9_nearest_306 : decode cX9_nearest 306 = .ok (.ifCond .gt 19, 3) := by decide +kernel
theorem dX9_nearest_309 : decode cX9_nearest 309 = .ok (.iload 12, 2) := by decide +kernel
theorem dX9_nearest_311 : decode cX9_nearest 311 = .ok (.ifCond .ne 18, 3) := by decide +kernel
theorem dX9_nearest_314 : decode cX9_nearest 314 = .ok (.lload 10, 2) := by decide +kernel
theorem dX9_nearest_316 : decode cX9_nearest 316 = .ok (.ldc2_w 145, 3) := by decide +kernel
theorem dX9_nearest_319 : decode cX9_nearest 319 = .ok (.lrem, 1) := by decide +kernel
theorem dX9_nearest_320 : decode cX9_nearest 320 = .ok (.lconst 1, 1) := by decide +kernel
theorem dX9_nearest_321 : decode cX9_nearest 321 = .ok (.lcmp, 1) := by decide +kernel
theorem dX9_nearest_322 : decode cX9_nearest 322 = .ok (.ifCond .ne 7, 3) := by decide +kernel
theorem dX9_nearest_325 : decode cX9_nearest 325 = .ok (.iconst 1, 1) := by decide +kernel
theorem dX9_nearest_326 : decode cX9_nearest 326 = .ok (.goto 4, 3) := by decide +kernel
theorem dX9_nearest_329 : decode cX9_nearest 329 = .ok (.iconst 0, 1) := by decide +kernel
theorem dX9_nearest_330 : decode cX9_nearest 330 = .ok (.i2l, 1) := by decide +kernel
theorem dX9_nearest_331 : decode cX9_nearest 331 = .ok (.ladd, 1) := by decide +kernel
theorem dX9_nearest_332 : decode cX9_nearest 332 = .ok (.iload 5, 2) := by decide +kernel
theorem dX9_nearest_334 : decode cX9_nearest 334 = .ok (.invokestatic 147, 3) := by decide +kernel
theorem dX9_nearest_337 : decode cX9_nearest 337 = .ok (.dreturn, 1) := by decide +kernel
theorem dX9_nearest_338 : decode cX9_nearest 338 = .ok (.goto (-280), 3) := by decide +kernel
theorem dX9_scaled_0 : decode cX9_scaled 0 = .ok (.lload_n 0, 1) := by decide +kernel
theorem dX9_scaled_1 : decode cX9_scaled 1 = .ok (.l2d, 1) := by decide +kernel
theorem dX9_scaled_2 : decode cX9_scaled 2 = .ok (.dstore_n 3, 1) := by decide +kernel
theorem dX9_scaled_3 : decode cX9_scaled 3 = .ok (.iload_n 2, 1) := by decide +kernel
theorem dX9_scaled_4 : decode cX9_scaled 4 = .ok (.istore 5, 2) := by decide +kernel
theorem dX9_scaled_6 : decode cX9_scaled 6 = .ok (.iload 5, 2) := by decide +kernel
theorem dX9_scaled_8 : decode cX9_scaled 8 = .ok (.ifCond .le 15, 3) := by decide +kernel
theorem dX9_scaled_11 : decode cX9_scaled 11 = .ok (.dload_n 3, 1) := by decide +kernel
theorem dX9_scaled_12 : decode cX9_scaled 12 = .ok (.ldc2_w 151, 3) := by decide +kernel
theorem dX9_scaled_15 : decode cX9_scaled 15 = .ok (.dmul, 1) := by decide +kernel
theorem dX9_scaled_16 : decode cX9_scaled 16 = .ok (.dstore_n 3, 1) := by decide +kernel
theorem dX9_scaled_17 : decode cX9_scaled 17 = .ok (.iinc 5 (-1), 3) := by decide +kernel
theorem dX9_scaled_20 : decode cX9_scaled 20 = .ok (.goto (-14), 3) := by decide +kernel
theorem dX9_scaled_23 : decode cX9_scaled 23 = .ok (.iload_n 2, 1) := by decide +kernel
theorem dX9_scaled_24 : decode cX9_scaled 24 = .ok (.istore 5, 2) := by decide +kernel
theorem dX9_scaled_26 : decode cX9_scaled 26 = .ok (.iload 5, 2) := by decide +kernel
theorem dX9_scaled_28 : decode cX9_scaled 28 = .ok (.ifCond .ge 15, 3) := by decide +kernel
theorem dX9_scaled_31 : decode cX9_scaled 31 = .ok (.dload_n 3, 1) := by decide +kernel
theorem dX9_scaled_32 : decode cX9_scaled 32 = .ok (.ldc2_w 153, 3) := by decide +kernel
theorem dX9_scaled_35 : decode cX9_scaled 35 = .ok (.dmul, 1) := by decide +kernel
theorem dX9_scaled_36 : decode cX9_scaled 36 = .ok (.dstore_n 3, 1) := by decide +kernel
theorem dX9_scaled_37 : decode cX9_scaled 37 = .ok (.iinc 5 1, 3) := by decide +kernel
theorem dX9_scaled_40 : decode cX9_scaled 40 = .ok (.goto (-14), 3) := by decide +kernel
theorem dX9_scaled_43 : decode cX9_scaled 43 = .ok (.dload_n 3, 1) := by decide +kernel
theorem dX9_scaled_44 : decode cX9_scaled 44 = .ok (.dreturn, 1) := by decide +kernel
theorem dX9_significand_0 : decode cX9_significand 0 = .ok (.dload_n 0, 1) := by decide +kernel
theorem dX9_significand_1 : decode cX9_significand 1 = .ok (.dconst 0, 1) := by decide +kernel
theorem dX9_significand_2 : decode cX9_significand 2 = .ok (.dcmp .g, 1) := by decide +kernel
theorem dX9_significand_3 : decode cX9_significand 3 = .ok (.ifCond .ge 8, 3) := by decide +kernel
theorem dX9_significand_6 : decode cX9_significand 6 = .ok (.dload_n 0, 1) := by decide +kernel
theorem dX9_significand_7 : decode cX9_significand 7 = .ok (.dneg, 1) := by decide +kernel
theorem dX9_significand_8 : decode cX9_significand 8 = .ok (.goto 4, 3) := by decide +kernel
theorem dX9_significand_11 : decode cX9_significand 11 = .ok (.dload_n 0, 1) := by decide +kernel
theorem dX9_significand_12 : decode cX9_significand 12 = .ok (.dstore_n 2, 1) := by decide +kernel
theorem dX9_significand_13 : decode cX9_significand 13 = .ok (.dload_n 2, 1) := by decide +kernel
theorem dX9_significand_14 : decode cX9_significand 14 = .ok (.ldc2_w 155, 3) := by decide +kernel
theorem dX9_significand_17 : decode cX9_significand 17 = .ok (.dcmp .l, 1) := by decide +kernel
theorem dX9_significand_18 : decode cX9_significand 18 = .ok (.ifCond .lt 12, 3) := by decide +kernel
theorem dX9_significand_21 : decode cX9_significand 21 = .ok (.dload_n 2, 1) := by decide +kernel
theorem dX9_significand_22 : decode cX9_significand 22 = .ok (.ldc2_w 153, 3) := by decide +kernel
theorem dX9_significand_25 : decode cX9_significand 25 = .ok (.dmul, 1) := by decide +kernel
theorem dX9_significand_26 : decode cX9_significand 26 = .ok (.dstore_n 2, 1) := by decide +kernel
theorem dX9_significand_27 : decode cX9_significand 27 = .ok (.goto (-14), 3) := by decide +kernel
theorem dX9_significand_30 : decode cX9_significand 30 = .ok (.dload_n 2, 1) := by decide +kernel
theorem dX9_significand_31 : decode cX9_significand 31 = .ok (.dload_n 2, 1) := by decide +kernel
theorem dX9_significand_32 : decode cX9_significand 32 = .ok (.d2l, 1) := by decide +kernel
theorem dX9_significand_33 : decode cX9_significand 33 = .ok (.l2d, 1) := by decide +kernel
theorem dX9_significand_34 : decode cX9_significand 34 = .ok (.dcmp .l, 1) := by decide +kernel
theorem dX9_significand_35 : decode cX9_significand 35 = .ok (.ifCond .eq 12, 3) := by decide +kernel
theorem dX9_significand_38 : decode cX9_significand 38 = .ok (.dload_n 2, 1) := by decide +kernel
theorem dX9_significand_39 : decode cX9_significand 39 = .ok (.ldc2_w 151, 3) := by decide +kernel
theorem dX9_significand_42 : decode cX9_significand 42 = .ok (.dmul, 1) := by decide +kernel
theorem dX9_significand_43 : decode cX9_significand 43 = .ok (.dstore_n 2, 1) := by decide +kernel
theorem dX9_significand_44 : decode cX9_significand 44 = .ok (.goto (-14), 3) := by decide +kernel
theorem dX9_significand_47 : decode cX9_significand 47 = .ok (.dload_n 2, 1) := by decide +kernel
theorem dX9_significand_48 : decode cX9_significand 48 = .ok (.d2l, 1) := by decide +kernel
theorem dX9_significand_49 : decode cX9_significand 49 = .ok (.lreturn, 1) := by decide +kernel
theorem dX9_exponent_0 : decode cX9_exponent 0 = .ok (.dload_n 0, 1) := by decide +kernel
theorem dX9_exponent_1 : decode cX9_exponent 1 = .ok (.dconst 0, 1) := by decide +kernel
theorem dX9_exponent_2 : decode cX9_exponent 2 = .ok (.dcmp .g, 1) := by decide +kernel
theorem dX9_exponent_3 : decode cX9_exponent 3 = .ok (.ifCond .ge 8, 3) := by decide +kernel
theorem dX9_exponent_6 : decode cX9_exponent 6 = .ok (.dload_n 0, 1) := by decide +kernel
theorem dX9_exponent_7 : decode cX9_exponent 7 = .ok (.dneg, 1) := by decide +kernel
theorem dX9_exponent_8 : decode cX9_exponent 8 = .ok (.goto 4, 3) := by decide +kernel
theorem dX9_exponent_11 : decode cX9_exponent 11 = .ok (.dload_n 0, 1) := by decide +kernel
theorem dX9_exponent_12 : decode cX9_exponent 12 = .ok (.dstore_n 2, 1) := by decide +kernel
theorem dX9_exponent_13 : decode cX9_exponent 13 = .ok (.iconst 0, 1) := by decide +kernel
theorem dX9_exponent_14 : decode cX9_exponent 14 = .ok (.istore 4, 2) := by decide +kernel
theorem dX9_exponent_16 : decode cX9_exponent 16 = .ok (.dload_n 2, 1) := by decide +kernel
theorem dX9_exponent_17 : decode cX9_exponent 17 = .ok (.ldc2_w 155, 3) := by decide +kernel
theorem dX9_exponent_20 : decode cX9_exponent 20 = .ok (.dcmp .l, 1) := by decide +kernel
theorem dX9_exponent_21 : decode cX9_exponent 21 = .ok (.ifCond .lt 15, 3) := by decide +kernel
theorem dX9_exponent_24 : decode cX9_exponent 24 = .ok (.dload_n 2, 1) := by decide +kernel
theorem dX9_exponent_25 : decode cX9_exponent 25 = .ok (.ldc2_w 153, 3) := by decide +kernel
theorem dX9_exponent_28 : decode cX9_exponent 28 = .ok (.dmul, 1) := by decide +kernel
theorem dX9_exponent_29 : decode cX9_exponent 29 = .ok (.dstore_n 2, 1) := by decide +kernel
theorem dX9_exponent_30 : decode cX9_exponent 30 = .ok (.iinc 4 1, 3) := by decide +kernel
theorem dX9_exponent_33 : decode cX9_exponent 33 = .ok (.goto (-17), 3) := by decide +kernel
theorem dX9_exponent_36 : decode cX9_exponent 36 = .ok (.dload_n 2, 1) := by decide +kernel
theorem dX9_exponent_37 : decode cX9_exponent 37 = .ok (.dload_n 2, 1) := by decide +kernel
theorem dX9_exponent_38 : decode cX9_exponent 38 = .ok (.d2l, 1) := by decide +kernel
theorem dX9_exponent_39 : decode cX9_exponent 39 = .ok (.l2d, 1) := by decide +kernel
theorem dX9_exponent_40 : decode cX9_exponent 40 = .ok (.dcmp .l, 1) := by decide +kernel
theorem dX9_exponent_41 : decode cX9_exponent 41 = .ok (.ifCond .eq 15, 3) := by decide +kernel
theorem dX9_exponent_44 : decode cX9_exponent 44 = .ok (.dload_n 2, 1) := by decide +kernel
theorem dX9_exponent_45 : decode cX9_exponent 45 = .ok (.ldc2_w 151, 3) := by decide +kernel
theorem dX9_exponent_48 : decode cX9_exponent 48 = .ok (.dmul, 1) := by decide +kernel
theorem dX9_exponent_49 : decode cX9_exponent 49 = .ok (.dstore_n 2, 1) := by decide +kernel
theorem dX9_exponent_50 : decode cX9_exponent 50 = .ok (.iinc 4 (-1), 3) := by decide +kernel
theorem dX9_exponent_53 : decode cX9_exponent 53 = .ok (.goto (-17), 3) := by decide +kernel
theorem dX9_exponent_56 : decode cX9_exponent 56 = .ok (.iload 4, 2) := by decide +kernel
theorem dX9_exponent_58 : decode cX9_exponent 58 = .ok (.ireturn, 1) := by decide +kernel
theorem dX9_isExact_0 : decode cX9_isExact 0 = .ok (.aload_n 0, 1) := by decide +kernel
theorem dX9_isExact_1 : decode cX9_isExact 1 = .ok (.instanceof 1, 3) := by decide +kernel
theorem dX9_isExact_4 : decode cX9_isExact 4 = .ok (.ifCond .ne 10, 3) := by decide +kernel
theorem dX9_isExact_7 : decode cX9_isExact 7 = .ok (.aload_n 0, 1) := by decide +kernel
theorem dX9_isExact_8 : decode cX9_isExact 8 = .ok (.instanceof 157, 3) := by decide +kernel
theorem dX9_isExact_11 : decode cX9_isExact 11 = .ok (.ifCond .eq 7, 3) := by decide +kernel
theorem dX9_isExact_14 : decode cX9_isExact 14 = .ok (.iconst 1, 1) := by decide +kernel
theorem dX9_isExact_15 : decode cX9_isExact 15 = .ok (.goto 4, 3) := by decide +kernel
theorem dX9_isExact_18 : decode cX9_isExact 18 = .ok (.iconst 0, 1) := by decide +kernel
theorem dX9_isExact_19 : decode cX9_isExact 19 = .ok (.ireturn, 1) := by decide +kernel
theorem dX9_above_0 : decode cX9_above 0 = .ok (.aload_n 0, 1) := by decide +kernel
theorem dX9_above_1 : decode cX9_above 1 = .ok (.instanceof 1, 3) := by decide +kernel
theorem dX9_above_4 : decode cX9_above 4 = .ok (.ifCond .eq 10, 3) := by decide +kernel
theorem dX9_above_7 : decode cX9_above 7 = .ok (.aload_n 0, 1) := by decide +kernel
theorem dX9_above_8 : decode cX9_above 8 = .ok (.checkcast 1, 3) := by decide +kernel
theorem dX9_above_11 : decode cX9_above 11 = .ok (.goto 10, 3) := by decide +kernel
theorem dX9_above_14 : decode cX9_above 14 = .ok (.aload_n 0, 1) := by decide +kernel
theorem dX9_above_15 : decode cX9_above 15 = .ok (.checkcast 157, 3) := by decide +kernel
theorem dX9_above_18 : decode cX9_above 18 = .ok (.getfield 159, 3) := by decide +kernel
theorem dX9_above_21 : decode cX9_above 21 = .ok (.areturn, 1) := by decide +kernel
theorem dX9_below_0 : decode cX9_below 0 = .ok (.aload_n 0, 1) := by decide +kernel
theorem dX9_below_1 : decode cX9_below 1 = .ok (.instanceof 1, 3) := by decide +kernel
theorem dX9_below_4 : decode cX9_below 4 = .ok (.ifCond .eq 10, 3) := by decide +kernel
theorem dX9_below_7 : decode cX9_below 7 = .ok (.lconst 1, 1) := by decide +kernel
theorem dX9_below_8 : decode cX9_below 8 = .ok (.invokestatic 163, 3) := by decide +kernel
theorem dX9_below_11 : decode cX9_below 11 = .ok (.goto 10, 3) := by decide +kernel
theorem dX9_below_14 : decode cX9_below 14 = .ok (.aload_n 0, 1) := by decide +kernel
theorem dX9_below_15 : decode cX9_below 15 = .ok (.checkcast 157, 3) := by decide +kernel
theorem dX9_below_18 : decode cX9_below 18 = .ok (.getfield 167, 3) := by decide +kernel
theorem dX9_below_21 : decode cX9_below 21 = .ok (.areturn, 1) := by decide +kernel
theorem dX9_kept_0 : decode cX9_kept 0 = .ok (.aload_n 0, 1) := by decide +kernel
theorem dX9_kept_1 : decode cX9_kept 1 = .ok (.aload_n 1, 1) := by decide +kernel
theorem dX9_kept_2 : decode cX9_kept 2 = .ok (.iload_n 2, 1) := by decide +kernel
theorem dX9_kept_3 : decode cX9_kept 3 = .ok (.invokevirtual 170, 3) := by decide +kernel
theorem dX9_kept_6 : decode cX9_kept 6 = .ok (.sipush 4096, 3) := by decide +kernel
theorem dX9_kept_9 : decode cX9_kept 9 = .ok (.if_icmp .le 7, 3) := by decide +kernel
theorem dX9_kept_12 : decode cX9_kept 12 = .ok (.aconst_null, 1) := by decide +kernel
theorem dX9_kept_13 : decode cX9_kept 13 = .ok (.goto 9, 3) := by decide +kernel
theorem dX9_kept_16 : decode cX9_kept 16 = .ok (.iconst 1, 1) := by decide +kernel
theorem dX9_kept_17 : decode cX9_kept 17 = .ok (.aload_n 1, 1) := by decide +kernel
theorem dX9_kept_18 : decode cX9_kept 18 = .ok (.iload_n 2, 1) := by decide +kernel
theorem dX9_kept_19 : decode cX9_kept 19 = .ok (.invokestatic 173, 3) := by decide +kernel
theorem dX9_kept_22 : decode cX9_kept 22 = .ok (.areturn, 1) := by decide +kernel
theorem dX9_fraction_0 : decode cX9_fraction 0 = .ok (.iload_n 2, 1) := by decide +kernel
theorem dX9_fraction_1 : decode cX9_fraction 1 = .ok (.ifCond .ne 7, 3) := by decide +kernel
theorem dX9_fraction_4 : decode cX9_fraction 4 = .ok (.invokestatic 7, 3) := by decide +kernel
theorem dX9_fraction_7 : decode cX9_fraction 7 = .ok (.areturn, 1) := by decide +kernel
theorem dX9_fraction_8 : decode cX9_fraction 8 = .ok (.iload 4, 2) := by decide +kernel
theorem dX9_fraction_10 : decode cX9_fraction 10 = .ok (.iconst 1, 1) := by decide +kernel
theorem dX9_fraction_11 : decode cX9_fraction 11 = .ok (.if_icmp .ne 17, 3) := by decide +kernel
theorem dX9_fraction_14 : decode cX9_fraction 14 = .ok (.aload_n 3, 1) := by decide +kernel
theorem dX9_fraction_15 : decode cX9_fraction 15 = .ok (.iconst 0, 1) := by decide +kernel
theorem dX9_fraction_16 : decode cX9_fraction 16 = .ok (.iaload, 1) := by decide +kernel
theorem dX9_fraction_17 : decode cX9_fraction 17 = .ok (.iconst 1, 1) := by decide +kernel
theorem dX9_fraction_18 : decode cX9_fraction 18 = .ok (.if_icmp .ne 10, 3) := by decide +kernel
theorem dX9_fraction_21 : decode cX9_fraction 21 = .ok (.aload_n 0, 1) := by decide +kernel
theorem dX9_fraction_22 : decode cX9_fraction 22 = .ok (.aload_n 1, 1) := by decide +kernel
theorem dX9_fraction_23 : decode cX9_fraction 23 = .ok (.iload_n 2, 1) := by decide +kernel
theorem dX9_fraction_24 : decode cX9_fraction 24 = .ok (.invokevirtual 177, 3) := by decide +kernel
theorem dX9_fraction_27 : decode cX9_fraction 27 = .ok (.areturn, 1) := by decide +kernel
theorem dX9_fraction_28 : decode cX9_fraction 28 = .ok (.aload_n 0, 1) := by decide +kernel
theorem dX9_fraction_29 : decode cX9_fraction 29 = .ok (.aload_n 1, 1) := by decide +kernel
theorem dX9_fraction_30 : decode cX9_fraction 30 = .ok (.iload_n 2, 1) := by decide +kernel
theorem dX9_fraction_31 : decode cX9_fraction 31 = .ok (.aload_n 3, 1) := by decide +kernel
theorem dX9_fraction_32 : decode cX9_fraction 32 = .ok (.iload 4, 2) := by decide +kernel
theorem dX9_fraction_34 : decode cX9_fraction 34 = .ok (.invokevirtual 181, 3) := by decide +kernel
theorem dX9_fraction_37 : decode cX9_fraction 37 = .ok (.istore 5, 2) := by decide +kernel
theorem dX9_fraction_39 : decode cX9_fraction 39 = .ok (.aload_n 0, 1) := by decide +kernel
theorem dX9_fraction_40 : decode cX9_fraction 40 = .ok (.aload_n 1, 1) := by decide +kernel
theorem dX9_fraction_41 : decode cX9_fraction 41 = .ok (.iload_n 2, 1) := by decide +kernel
theorem dX9_fraction_42 : decode cX9_fraction 42 = .ok (.iload 5, 2) := by decide +kernel
theorem dX9_fraction_44 : decode cX9_fraction 44 = .ok (.aload_n 0, 1) := by decide +kernel
theorem dX9_fraction_45 : decode cX9_fraction 45 = .ok (.getfield 184, 3) := by decide +kernel
theorem dX9_fraction_48 : decode cX9_fraction 48 = .ok (.invokevirtual 187, 3) := by decide +kernel
theorem dX9_fraction_51 : decode cX9_fraction 51 = .ok (.istore 6, 2) := by decide +kernel
theorem dX9_fraction_53 : decode cX9_fraction 53 = .ok (.aload_n 0, 1) := by decide +kernel
theorem dX9_fraction_54 : decode cX9_fraction 54 = .ok (.aload_n 3, 1) := by decide +kernel
theorem dX9_fraction_55 : decode cX9_fraction 55 = .ok (.iload 4, 2) := by decide +kernel
theorem dX9_fraction_57 : decode cX9_fraction 57 = .ok (.iload 5, 2) := by decide +kernel
theorem dX9_fraction_59 : decode cX9_fraction 59 = .ok (.aload_n 0, 1) := by decide +kernel
theorem dX9_fraction_60 : decode cX9_fraction 60 = .ok (.getfield 191, 3) := by decide +kernel
theorem dX9_fraction_63 : decode cX9_fraction 63 = .ok (.invokevirtual 187, 3) := by decide +kernel
theorem dX9_fraction_66 : decode cX9_fraction 66 = .ok (.istore 7, 2) := by decide +kernel
theorem dX9_fraction_68 : decode cX9_fraction 68 = .ok (.iload 7, 2) := by decide +kernel
theorem dX9_fraction_70 : decode cX9_fraction 70 = .ok (.iconst 1, 1) := by decide +kernel
theorem dX9_fraction_71 : decode cX9_fraction 71 = .ok (.if_icmp .ne 24, 3) := by decide +kernel
theorem dX9_fraction_74 : decode cX9_fraction 74 = .ok (.aload_n 0, 1) := by decide +kernel
theorem dX9_fraction_75 : decode cX9_fraction 75 = .ok (.getfield 191, 3) := by decide +kernel
theorem dX9_fraction_78 : decode cX9_fraction 78 = .ok (.iconst 0, 1) := by decide +kernel
theorem dX9_fraction_79 : decode cX9_fraction 79 = .ok (.iaload, 1) := by decide +kernel
theorem dX9_fraction_80 : decode cX9_fraction 80 = .ok (.iconst 1, 1) := by decide +kernel
theorem dX9_fraction_81 : decode cX9_fraction 81 = .ok (.if_icmp .ne 14, 3) := by decide +kernel
theorem dX9_fraction_84 : decode cX9_fraction 84 = .ok (.aload_n 0, 1) := by decide +kernel
theorem dX9_fraction_85 : decode cX9_fraction 85 = .ok (.aload_n 0, 1) := by decide +kernel
theorem dX9_fraction_86 : decode cX9_fraction 86 = .ok (.getfield 184, 3) := by decide +kernel
theorem dX9_fraction_89 : decode cX9_fraction 89 = .ok (.iload 6, 2) := by decide +kernel
theorem dX9_fraction_91 : decode cX9_fraction 91 = .ok (.invokevirtual 177, 3) := by decide +kernel
theorem dX9_fraction_94 : decode cX9_fraction 94 = .ok (.areturn, 1) := by decide +kernel
theorem dX9_fraction_95 : decode cX9_fraction 95 = .ok (.aload_n 0, 1) := by decide +kernel
theorem dX9_fraction_96 : decode cX9_fraction 96 = .ok (.aload_n 0, 1) := by decide +kernel
theorem dX9_fraction_97 : decode cX9_fraction 97 = .ok (.getfield 184, 3) := by decide +kernel
theorem dX9_fraction_100 : decode cX9_fraction 100 = .ok (.iload 6, 2) := by decide +kernel
theorem dX9_fraction_102 : decode cX9_fraction 102 = .ok (.invokevirtual 170, 3) := by decide +kernel
theorem dX9_fraction_105 : decode cX9_fraction 105 = .ok (.sipush 4096, 3) := by decide +kernel
theorem dX9_fraction_108 : decode cX9_fraction 108 = .ok (.if_icmp .gt 19, 3) := by decide +kernel
theorem dX9_fraction_111 : decode cX9_fraction 111 = .ok (.aload_n 0, 1) := by decide +kernel
theorem dX9_fraction_112 : decode cX9_fraction 112 = .ok (.aload_n 0, 1) := by decide +kernel
theorem dX9_fraction_113 : decode cX9_fraction 113 = .ok (.getfield 191, 3) := by decide +kernel
theorem dX9_fraction_116 : decode cX9_fraction 116 = .ok (.iload 7, 2) := by decide +kernel
theorem dX9_fraction_118 : decode cX9_fraction 118 = .ok (.invokevirtual 170, 3) := by decide +kernel
theorem dX9_fraction_121 : decode cX9_fraction 121 = .ok (.sipush 4096, 3) := by decide +kernel
theorem dX9_fraction_124 : decode cX9_fraction 124 = .ok (.if_icmp .le 5, 3) := by decide +kernel
theorem dX9_fraction_127 : decode cX9_fraction 127 = .ok (.aconst_null, 1) := by decide +kernel
theorem dX9_fraction_128 : decode cX9_fraction 128 = .ok (.areturn, 1) := by decide +kernel
theorem dX9_fraction_129 : decode cX9_fraction 129 = .ok (.new 157, 3) := by decide +kernel
theorem dX9_fraction_132 : decode cX9_fraction 132 = .ok (.dup, 1) := by decide +kernel
theorem dX9_fraction_133 : decode cX9_fraction 133 = .ok (.iconst 1, 1) := by decide +kernel
theorem dX9_fraction_134 : decode cX9_fraction 134 = .ok (.aload_n 0, 1) := by decide +kernel
theorem dX9_fraction_135 : decode cX9_fraction 135 = .ok (.getfield 184, 3) := by decide +kernel
theorem dX9_fraction_138 : decode cX9_fraction 138 = .ok (.iload 6, 2) := by decide +kernel
theorem dX9_fraction_140 : decode cX9_fraction 140 = .ok (.invokestatic 173, 3) := by decide +kernel
theorem dX9_fraction_143 : decode cX9_fraction 143 = .ok (.iconst 1, 1) := by decide +kernel
theorem dX9_fraction_144 : decode cX9_fraction 144 = .ok (.aload_n 0, 1) := by decide +kernel
theorem dX9_fraction_145 : decode cX9_fraction 145 = .ok (.getfield 191, 3) := by decide +kernel
theorem dX9_fraction_148 : decode cX9_fraction 148 = .ok (.iload 7, 2) := by decide +kernel
theorem dX9_fraction_150 : decode cX9_fraction 150 = .ok (.invokestatic 173, 3) := by decide +kernel
theorem dX9_fraction_153 : decode cX9_fraction 153 = .ok (.invokespecial 194, 3) := by decide +kernel
theorem dX9_fraction_156 : decode cX9_fraction 156 = .ok (.areturn, 1) := by decide +kernel
theorem dX9_isFinite_0 : decode cX9_isFinite 0 = .ok (.dload_n 0, 1) := by decide +kernel
theorem dX9_isFinite_1 : decode cX9_isFinite 1 = .ok (.ldc2_w 197, 3) := by decide +kernel
theorem dX9_isFinite_4 : decode cX9_isFinite 4 = .ok (.dcmp .g, 1) := by decide +kernel
theorem dX9_isFinite_5 : decode cX9_isFinite 5 = .ok (.ifCond .gt 15, 3) := by decide +kernel
theorem dX9_isFinite_8 : decode cX9_isFinite 8 = .ok (.dload_n 0, 1) := by decide +kernel
theorem dX9_isFinite_9 : decode cX9_isFinite 9 = .ok (.ldc2_w 199, 3) := by decide +kernel
theorem dX9_isFinite_12 : decode cX9_isFinite 12 = .ok (.dcmp .l, 1) := by decide +kernel
theorem dX9_isFinite_13 : decode cX9_isFinite 13 = .ok (.ifCond .lt 7, 3) := by decide +kernel
theorem dX9_isFinite_16 : decode cX9_isFinite 16 = .ok (.iconst 1, 1) := by decide +kernel
theorem dX9_isFinite_17 : decode cX9_isFinite 17 = .ok (.goto 4, 3) := by decide +kernel
theorem dX9_isFinite_20 : decode cX9_isFinite 20 = .ok (.iconst 0, 1) := by decide +kernel
theorem dX9_isFinite_21 : decode cX9_isFinite 21 = .ok (.ireturn, 1) := by decide +kernel
theorem dX9_real_0 : decode cX9_real 0 = .ok (.aload_n 1, 1) := by decide +kernel
theorem dX9_real_1 : decode cX9_real 1 = .ok (.instanceof 201, 3) := by decide +kernel
theorem dX9_real_4 : decode cX9_real 4 = .ok (.ifCond .eq 13, 3) := by decide +kernel
theorem dX9_real_7 : decode cX9_real 7 = .ok (.aload_n 1, 1) := by decide +kernel
theorem dX9_real_8 : decode cX9_real 8 = .ok (.checkcast 201, 3) := by decide +kernel
theorem dX9_real_11 : decode cX9_real 11 = .ok (.getfield 203, 3) := by decide +kernel
theorem dX9_real_14 : decode cX9_real 14 = .ok (.goto 15, 3) := by decide +kernel
theorem dX9_real_17 : decode cX9_real 17 = .ok (.aload_n 0, 1) := by decide +kernel
theorem dX9_real_18 : decode cX9_real 18 = .ok (.aload_n 1, 1) := by decide +kernel
theorem dX9_real_19 : decode cX9_real 19 = .ok (.invokestatic 207, 3) := by decide +kernel
theorem dX9_real_22 : decode cX9_real 22 = .ok (.aload_n 1, 1) := by decide +kernel
theorem dX9_real_23 : decode cX9_real 23 = .ok (.invokestatic 210, 3) := by decide +kernel
theorem dX9_real_26 : decode cX9_real 26 = .ok (.invokevirtual 212, 3) := by decide +kernel
theorem dX9_real_29 : decode cX9_real 29 = .ok (.dreturn, 1) := by decide +kernel
theorem dX9_ratio_0 : decode cX9_ratio 0 = .ok (.aload_n 1, 1) := by decide +kernel
theorem dX9_ratio_1 : decode cX9_ratio 1 = .ok (.invokevirtual 100, 3) := by decide +kernel
theorem dX9_ratio_4 : decode cX9_ratio 4 = .ok (.ifCond .eq 5, 3) := by decide +kernel
theorem dX9_ratio_7 : decode cX9_ratio 7 = .ok (.dconst 0, 1) := by decide +kernel
theorem dX9_ratio_8 : decode cX9_ratio 8 = .ok (.dreturn, 1) := by decide +kernel
theorem dX9_ratio_9 : decode cX9_ratio 9 = .ok (.aload_n 2, 1) := by decide +kernel
theorem dX9_ratio_10 : decode cX9_ratio 10 = .ok (.invokevirtual 216, 3) := by decide +kernel
theorem dX9_ratio_13 : decode cX9_ratio 13 = .ok (.ifCond .eq 18, 3) := by decide +kernel
theorem dX9_ratio_16 : decode cX9_ratio 16 = .ok (.aload_n 1, 1) := by decide +kernel
theorem dX9_ratio_17 : decode cX9_ratio 17 = .ok (.getfield 104, 3) := by decide +kernel
theorem dX9_ratio_20 : decode cX9_ratio 20 = .ok (.arraylength, 1) := by decide +kernel
theorem dX9_ratio_21 : decode cX9_ratio 21 = .ok (.iconst 4, 1) := by decide +kernel
theorem dX9_ratio_22 : decode cX9_ratio 22 = .ok (.if_icmp .ge 9, 3) := by decide +kernel
theorem dX9_ratio_25 : decode cX9_ratio 25 = .ok (.aload_n 1, 1) := by decide +kernel
theorem dX9_ratio_26 : decode cX9_ratio 26 = .ok (.invokevirtual 219, 3) := by decide +kernel
theorem dX9_ratio_29 : decode cX9_ratio 29 = .ok (.l2d, 1) := by decide +kernel
theorem dX9_ratio_30 : decode cX9_ratio 30 = .ok (.dreturn, 1) := by decide +kernel
theorem dX9_ratio_31 : decode cX9_ratio 31 = .ok (.aload_n 0, 1) := by decide +kernel
theorem dX9_ratio_32 : decode cX9_ratio 32 = .ok (.aload_n 1, 1) := by decide +kernel
theorem dX9_ratio_33 : decode cX9_ratio 33 = .ok (.getfield 104, 3) := by decide +kernel
theorem dX9_ratio_36 : decode cX9_ratio 36 = .ok (.aload_n 1, 1) := by decide +kernel
theorem dX9_ratio_37 : decode cX9_ratio 37 = .ok (.getfield 104, 3) := by decide +kernel
theorem dX9_ratio_40 : decode cX9_ratio 40 = .ok (.arraylength, 1) := by decide +kernel
theorem dX9_ratio_41 : decode cX9_ratio 41 = .ok (.aload_n 2, 1) := by decide +kernel
theorem dX9_ratio_42 : decode cX9_ratio 42 = .ok (.getfield 104, 3) := by decide +kernel
theorem dX9_ratio_45 : decode cX9_ratio 45 = .ok (.aload_n 2, 1) := by decide +kernel
theorem dX9_ratio_46 : decode cX9_ratio 46 = .ok (.getfield 104, 3) := by decide +kernel
theorem dX9_ratio_49 : decode cX9_ratio 49 = .ok (.arraylength, 1) := by decide +kernel
theorem dX9_ratio_50 : decode cX9_ratio 50 = .ok (.invokevirtual 223, 3) := by decide +kernel
theorem dX9_ratio_53 : decode cX9_ratio 53 = .ok (.dstore_n 3, 1) := by decide +kernel
theorem dX9_ratio_54 : decode cX9_ratio 54 = .ok (.aload_n 1, 1) := by decide +kernel
theorem dX9_ratio_55 : decode cX9_ratio 55 = .ok (.getfield 109, 3) := by decide +kernel
theorem dX9_ratio_58 : decode cX9_ratio 58 = .ok (.ifCond .ge 8, 3) := by decide +kernel
theorem dX9_ratio_61 : decode cX9_ratio 61 = .ok (.dload_n 3, 1) := by decide +kernel
theorem dX9_ratio_62 : decode cX9_ratio 62 = .ok (.dneg, 1) := by decide +kernel
theorem dX9_ratio_63 : decode cX9_ratio 63 = .ok (.goto 4, 3) := by decide +kernel
theorem dX9_ratio_66 : decode cX9_ratio 66 = .ok (.dload_n 3, 1) := by decide +kernel
theorem dX9_ratio_67 : decode cX9_ratio 67 = .ok (.dreturn, 1) := by decide +kernel
theorem dX9_exactOf_0 : decode cX9_exactOf 0 = .ok (.dload_n 1, 1) := by decide +kernel
theorem dX9_exactOf_1 : decode cX9_exactOf 1 = .ok (.dconst 0, 1) := by decide +kernel
theorem dX9_exactOf_2 : decode cX9_exactOf 2 = .ok (.dcmp .l, 1) := by decide +kernel
theorem dX9_exactOf_3 : decode cX9_exactOf 3 = .ok (.ifCond .ne 7, 3) := by decide +kernel
theorem dX9_exactOf_6 : decode cX9_exactOf 6 = .ok (.invokestatic 7, 3) := by decide +kernel
theorem dX9_exactOf_9 : decode cX9_exactOf 9 = .ok (.areturn, 1) := by decide +kernel
theorem dX9_exactOf_10 : decode cX9_exactOf 10 = .ok (.dload_n 1, 1) := by decide +kernel
theorem dX9_exactOf_11 : decode cX9_exactOf 11 = .ok (.dconst 0, 1) := by decide +kernel
theorem dX9_exactOf_12 : decode cX9_exactOf 12 = .ok (.dcmp .g, 1) := by decide +kernel
theorem dX9_exactOf_13 : decode cX9_exactOf 13 = .ok (.ifCond .ge 11, 3) := by decide +kernel
theorem dX9_exactOf_16 : decode cX9_exactOf 16 = .ok (.dload_n 1, 1) := by decide +kernel
theorem dX9_exactOf_17 : decode cX9_exactOf 17 = .ok (.invokestatic 227, 3) := by decide +kernel
theorem dX9_exactOf_20 : decode cX9_exactOf 20 = .ok (.lneg, 1) := by decide +kernel
theorem dX9_exactOf_21 : decode cX9_exactOf 21 = .ok (.goto 7, 3) := by decide +kernel
theorem dX9_exactOf_24 : decode cX9_exactOf 24 = .ok (.dload_n 1, 1) := by decide +kernel
theorem dX9_exactOf_25 : decode cX9_exactOf 25 = .ok (.invokestatic 227, 3) := by decide +kernel
theorem dX9_exactOf_28 : decode cX9_exactOf 28 = .ok (.invokestatic 163, 3) := by decide +kernel
theorem dX9_exactOf_31 : decode cX9_exactOf 31 = .ok (.astore_n 3, 1) := by decide +kernel
theorem dX9_exactOf_32 : decode cX9_exactOf 32 = .ok (.dload_n 1, 1) := by decide +kernel
theorem dX9_exactOf_33 : decode cX9_exactOf 33 = .ok (.invokestatic 231, 3) := by decide +kernel
theorem dX9_exactOf_36 : decode cX9_exactOf 36 = .ok (.istore 4, 2) := by decide +kernel
theorem dX9_exactOf_38 : decode cX9_exactOf 38 = .ok (.iload 4, 2) := by decide +kernel
theorem dX9_exactOf_40 : decode cX9_exactOf 40 = .ok (.ifCond .ne 5, 3) := by decide +kernel
theorem dX9_exactOf_43 : decode cX9_exactOf 43 = .ok (.aload_n 3, 1) := by decide +kernel
theorem dX9_exactOf_44 : decode cX9_exactOf 44 = .ok (.areturn, 1) := by decide +kernel
theorem dX9_exactOf_45 : decode cX9_exactOf 45 = .ok (.iload 4, 2) := by decide +kernel
theorem dX9_exactOf_47 : decode cX9_exactOf 47 = .ok (.ifCond .le 10, 3) := by decide +kernel
theorem dX9_exactOf_50 : decode cX9_exactOf 50 = .ok (.aload_n 3, 1) := by decide +kernel
theorem dX9_exactOf_51 : decode cX9_exactOf 51 = .ok (.getfield 104, 3) := by decide +kernel
theorem dX9_exactOf_54 : decode cX9_exactOf 54 = .ok (.goto 7, 3) := by decide +kernel
theorem dX9_exactOf_57 : decode cX9_exactOf 57 = .ok (.aload_n 0, 1) := by decide +kernel
theorem dX9_exactOf_58 : decode cX9_exactOf 58 = .ok (.getfield 125, 3) := by decide +kernel
theorem dX9_exactOf_61 : decode cX9_exactOf 61 = .ok (.aload_n 0, 1) := by decide +kernel
theorem dX9_exactOf_62 : decode cX9_exactOf 62 = .ok (.getfield 235, 3) := by decide +kernel
theorem dX9_exactOf_65 : decode cX9_exactOf 65 = .ok (.iload 4, 2) := by decide +kernel
theorem dX9_exactOf_67 : decode cX9_exactOf 67 = .ok (.ifCond .le 11, 3) := by decide +kernel
theorem dX9_exactOf_70 : decode cX9_exactOf 70 = .ok (.aload_n 3, 1) := by decide +kernel
theorem dX9_exactOf_71 : decode cX9_exactOf 71 = .ok (.getfield 104, 3) := by decide +kernel
theorem dX9_exactOf_74 : decode cX9_exactOf 74 = .ok (.arraylength, 1) := by decide +kernel
theorem dX9_exactOf_75 : decode cX9_exactOf 75 = .ok (.goto 4, 3) := by decide +kernel
theorem dX9_exactOf_78 : decode cX9_exactOf 78 = .ok (.iconst 1, 1) := by decide +kernel
theorem dX9_exactOf_79 : decode cX9_exactOf 79 = .ok (.invokestatic 61, 3) := by decide +kernel
theorem dX9_exactOf_82 : decode cX9_exactOf 82 = .ok (.aload_n 0, 1) := by decide +kernel
theorem dX9_exactOf_83 : decode cX9_exactOf 83 = .ok (.getfield 235, 3) := by decide +kernel
theorem dX9_exactOf_86 : decode cX9_exactOf 86 = .ok (.iload 4, 2) := by decide +kernel
theorem dX9_exactOf_88 : decode cX9_exactOf 88 = .ok (.ifCond .le 11, 3) := by decide +kernel
theorem dX9_exactOf_91 : decode cX9_exactOf 91 = .ok (.aload_n 3, 1) := by decide +kernel
theorem dX9_exactOf_92 : decode cX9_exactOf 92 = .ok (.getfield 104, 3) := by decide +kernel
theorem dX9_exactOf_95 : decode cX9_exactOf 95 = .ok (.arraylength, 1) := by decide +kernel
theorem dX9_exactOf_96 : decode cX9_exactOf 96 = .ok (.goto 4, 3) := by decide +kernel
theorem dX9_exactOf_99 : decode cX9_exactOf 99 = .ok (.iconst 1, 1) := by decide +kernel
theorem dX9_exactOf_100 : decode cX9_exactOf 100 = .ok (.iload 4, 2) := by decide +kernel
theorem dX9_exactOf_102 : decode cX9_exactOf 102 = .ok (.ifCond .le 8, 3) := by decide +kernel
theorem dX9_exactOf_105 : decode cX9_exactOf 105 = .ok (.iload 4, 2) := by decide +kernel
theorem dX9_exactOf_107 : decode cX9_exactOf 107 = .ok (.goto 6, 3) := by decide +kernel
theorem dX9_exactOf_110 : decode cX9_exactOf 110 = .ok (.iload 4, 2) := by decide +kernel
theorem dX9_exactOf_112 : decode cX9_exactOf 112 = .ok (.ineg, 1) := by decide +kernel
theorem dX9_exactOf_113 : decode cX9_exactOf 113 = .ok (.invokestatic 131, 3) := by decide +kernel
theorem dX9_exactOf_116 : decode cX9_exactOf 116 = .ok (.istore 5, 2) := by decide +kernel
theorem dX9_exactOf_118 : decode cX9_exactOf 118 = .ok (.iload 4, 2) := by decide +kernel
theorem dX9_exactOf_120 : decode cX9_exactOf 120 = .ok (.ifCond .le 10, 3) := by decide +kernel
theorem dX9_exactOf_123 : decode cX9_exactOf 123 = .ok (.aload_n 3, 1) := by decide +kernel
theorem dX9_exactOf_124 : decode cX9_exactOf 124 = .ok (.getfield 109, 3) := by decide +kernel
theorem dX9_exactOf_127 : decode cX9_exactOf 127 = .ok (.goto 4, 3) := by decide +kernel
theorem dX9_exactOf_130 : decode cX9_exactOf 130 = .ok (.iconst 1, 1) := by decide +kernel
theorem dX9_exactOf_131 : decode cX9_exactOf 131 = .ok (.aload_n 0, 1) := by decide +kernel
theorem dX9_exactOf_132 : decode cX9_exactOf 132 = .ok (.getfield 235, 3) := by decide +kernel
theorem dX9_exactOf_135 : decode cX9_exactOf 135 = .ok (.iload 5, 2) := by decide +kernel
theorem dX9_exactOf_137 : decode cX9_exactOf 137 = .ok (.invokestatic 173, 3) := by decide +kernel
theorem dX9_exactOf_140 : decode cX9_exactOf 140 = .ok (.astore 6, 2) := by decide +kernel
theorem dX9_exactOf_142 : decode cX9_exactOf 142 = .ok (.iload 4, 2) := by decide +kernel
theorem dX9_exactOf_144 : decode cX9_exactOf 144 = .ok (.ifCond .le 8, 3) := by decide +kernel
theorem dX9_exactOf_147 : decode cX9_exactOf 147 = .ok (.aload 6, 2) := by decide +kernel
theorem dX9_exactOf_149 : decode cX9_exactOf 149 = .ok (.goto 13, 3) := by decide +kernel
theorem dX9_exactOf_152 : decode cX9_exactOf 152 = .ok (.new 157, 3) := by decide +kernel
theorem dX9_exactOf_155 : decode cX9_exactOf 155 = .ok (.dup, 1) := by decide +kernel
theorem dX9_exactOf_156 : decode cX9_exactOf 156 = .ok (.aload_n 3, 1) := by decide +kernel
theorem dX9_exactOf_157 : decode cX9_exactOf 157 = .ok (.aload 6, 2) := by decide +kernel
theorem dX9_exactOf_159 : decode cX9_exactOf 159 = .ok (.invokespecial 194, 3) := by decide +kernel
theorem dX9_exactOf_162 : decode cX9_exactOf 162 = .ok (.areturn, 1) := by decide +kernel
theorem dX9_negated_0 : decode cX9_negated 0 = .ok (.aload_n 0, 1) := by decide +kernel
theorem dX9_negated_1 : decode cX9_negated 1 = .ok (.instanceof 201, 3) := by decide +kernel
theorem dX9_negated_4 : decode cX9_negated 4 = .ok (.ifCond .eq 17, 3) := by decide +kernel
theorem dX9_negated_7 : decode cX9_negated 7 = .ok (.aload_n 0, 1) := by decide +kernel
theorem dX9_negated_8 : decode cX9_negated 8 = .ok (.checkcast 201, 3) := by decide +kernel
theorem dX9_negated_11 : decode cX9_negated 11 = .ok (.getfield 203, 3) := by decide +kernel
theorem dX9_negated_14 : decode cX9_negated 14 = .ok (.dneg, 1) := by decide +kernel
theorem dX9_negated_15 : decode cX9_negated 15 = .ok (.invokestatic 238, 3) := by decide +kernel
theorem dX9_negated_18 : decode cX9_negated 18 = .ok (.goto 38, 3) := by decide +kernel
theorem dX9_negated_21 : decode cX9_negated 21 = .ok (.aload_n 0, 1) := by decide +kernel
theorem dX9_negated_22 : decode cX9_negated 22 = .ok (.instanceof 1, 3) := by decide +kernel
theorem dX9_negated_25 : decode cX9_negated 25 = .ok (.ifCond .eq 13, 3) := by decide +kernel
theorem dX9_negated_28 : decode cX9_negated 28 = .ok (.aload_n 0, 1) := by decide +kernel
theorem dX9_negated_29 : decode cX9_negated 29 = .ok (.checkcast 1, 3) := by decide +kernel
theorem dX9_negated_32 : decode cX9_negated 32 = .ok (.invokevirtual 242, 3) := by decide +kernel
theorem dX9_negated_35 : decode cX9_negated 35 = .ok (.goto 21, 3) := by decide +kernel
theorem dX9_negated_38 : decode cX9_negated 38 = .ok (.new 157, 3) := by decide +kernel
theorem dX9_negated_41 : decode cX9_negated 41 = .ok (.dup, 1) := by decide +kernel
theorem dX9_negated_42 : decode cX9_negated 42 = .ok (.aload_n 0, 1) := by decide +kernel
theorem dX9_negated_43 : decode cX9_negated 43 = .ok (.invokestatic 207, 3) := by decide +kernel
theorem dX9_negated_46 : decode cX9_negated 46 = .ok (.invokevirtual 242, 3) := by decide +kernel
theorem dX9_negated_49 : decode cX9_negated 49 = .ok (.aload_n 0, 1) := by decide +kernel
theorem dX9_negated_50 : decode cX9_negated 50 = .ok (.invokestatic 210, 3) := by decide +kernel
theorem dX9_negated_53 : decode cX9_negated 53 = .ok (.invokespecial 194, 3) := by decide +kernel
theorem dX9_negated_56 : decode cX9_negated 56 = .ok (.areturn, 1) := by decide +kernel
theorem dX9_isNegativeZero_0 : decode cX9_isNegativeZero 0 = .ok (.dload_n 0, 1) := by decide +kernel
theorem dX9_isNegativeZero_1 : decode cX9_isNegativeZero 1 = .ok (.dconst 0, 1) := by decide +kernel
theorem dX9_isNegativeZero_2 : decode cX9_isNegativeZero 2 = .ok (.dcmp .l, 1) := by decide +kernel
theorem dX9_isNegativeZero_3 : decode cX9_isNegativeZero 3 = .ok (.ifCond .ne 15, 3) := by decide +kernel
theorem dX9_isNegativeZero_6 : decode cX9_isNegativeZero 6 = .ok (.dconst 1, 1) := by decide +kernel
theorem dX9_isNegativeZero_7 : decode cX9_isNegativeZero 7 = .ok (.dload_n 0, 1) := by decide +kernel
theorem dX9_isNegativeZero_8 : decode cX9_isNegativeZero 8 = .ok (.ddiv, 1) := by decide +kernel
theorem dX9_isNegativeZero_9 : decode cX9_isNegativeZero 9 = .ok (.dconst 0, 1) := by decide +kernel
theorem dX9_isNegativeZero_10 : decode cX9_isNegativeZero 10 = .ok (.dcmp .g, 1) := by decide +kernel
theorem dX9_isNegativeZero_11 : decode cX9_isNegativeZero 11 = .ok (.ifCond .ge 7, 3) := by decide +kernel
theorem dX9_isNegativeZero_14 : decode cX9_isNegativeZero 14 = .ok (.iconst 1, 1) := by decide +kernel
theorem dX9_isNegativeZero_15 : decode cX9_isNegativeZero 15 = .ok (.goto 4, 3) := by decide +kernel
theorem dX9_isNegativeZero_18 : decode cX9_isNegativeZero 18 = .ok (.iconst 0, 1) := by decide +kernel
theorem dX9_isNegativeZero_19 : decode cX9_isNegativeZero 19 = .ok (.ireturn, 1) := by decide +kernel
end
section
theorem dX9_sayReal_0 : decode cX9_sayReal 0 = .ok (.dload_n 1, 1) := by decide +kernel
theorem dX9_sayReal_1 : decode cX9_sayReal 1 = .ok (.invokestatic 245, 3) := by decide +kernel
theorem dX9_sayReal_4 : decode cX9_sayReal 4 = .ok (.ifCond .ne 23, 3) := by decide +kernel
theorem dX9_sayReal_7 : decode cX9_sayReal 7 = .ok (.aload_n 0, 1) := by decide +kernel
theorem dX9_sayReal_8 : decode cX9_sayReal 8 = .ok (.dload_n 1, 1) := by decide +kernel
theorem dX9_sayReal_9 : decode cX9_sayReal 9 = .ok (.dconst 0, 1) := by decide +kernel
theorem dX9_sayReal_10 : decode cX9_sayReal 10 = .ok (.dcmp .l, 1) := by decide +kernel
theorem dX9_sayReal_11 : decode cX9_sayReal 11 = .ok (.ifCond .le 8, 3) := by decide +kernel
theorem dX9_sayReal_14 : decode cX9_sayReal 14 = .ok (.ldc 249, 2) := by decide +kernel
theorem dX9_sayReal_16 : decode cX9_sayReal 16 = .ok (.goto 5, 3) := by decide +kernel
theorem dX9_sayReal_19 : decode cX9_sayReal 19 = .ok (.ldc 251, 2) := by decide +kernel
theorem dX9_sayReal_21 : decode cX9_sayReal 21 = .ok (.invokevirtual 253, 3) := by decide +kernel
theorem dX9_sayReal_24 : decode cX9_sayReal 24 = .ok (.goto 54, 3) := by decide +kernel
theorem dX9_sayReal_27 : decode cX9_sayReal 27 = .ok (.dload_n 1, 1) := by decide +kernel
theorem dX9_sayReal_28 : decode cX9_sayReal 28 = .ok (.dconst 0, 1) := by decide +kernel
theorem dX9_sayReal_29 : decode cX9_sayReal 29 = .ok (.dcmp .g, 1) := by decide +kernel
theorem dX9_sayReal_30 : decode cX9_sayReal 30 = .ok (.ifCond .lt 10, 3) := by decide +kernel
theorem dX9_sayReal_33 : decode cX9_sayReal 33 = .ok (.dload_n 1, 1) := by decide +kernel
theorem dX9_sayReal_34 : decode cX9_sayReal 34 = .ok (.invokestatic 257, 3) := by decide +kernel
theorem dX9_sayReal_37 : decode cX9_sayReal 37 = .ok (.ifCond .eq 9, 3) := by decide +kernel
theorem dX9_sayReal_40 : decode cX9_sayReal 40 = .ok (.aload_n 0, 1) := by decide +kernel
theorem dX9_sayReal_41 : decode cX9_sayReal 41 = .ok (.bipush 45, 2) := by decide +kernel
theorem dX9_sayReal_43 : decode cX9_sayReal 43 = .ok (.invokevirtual 96, 3) := by decide +kernel
theorem dX9_sayReal_46 : decode cX9_sayReal 46 = .ok (.dload_n 1, 1) := by decide +kernel
theorem dX9_sayReal_47 : decode cX9_sayReal 47 = .ok (.dconst 0, 1) := by decide +kernel
theorem dX9_sayReal_48 : decode cX9_sayReal 48 = .ok (.dcmp .l, 1) := by decide +kernel
theorem dX9_sayReal_49 : decode cX9_sayReal 49 = .ok (.ifCond .ne 13, 3) := by decide +kernel
theorem dX9_sayReal_52 : decode cX9_sayReal 52 = .ok (.aload_n 0, 1) := by decide +kernel
theorem dX9_sayReal_53 : decode cX9_sayReal 53 = .ok (.ldc_w 260, 3) := by decide +kernel
theorem dX9_sayReal_56 : decode cX9_sayReal 56 = .ok (.invokevirtual 253, 3) := by decide +kernel
theorem dX9_sayReal_59 : decode cX9_sayReal 59 = .ok (.goto 19, 3) := by decide +kernel
theorem dX9_sayReal_62 : decode cX9_sayReal 62 = .ok (.aload_n 0, 1) := by decide +kernel
theorem dX9_sayReal_63 : decode cX9_sayReal 63 = .ok (.dload_n 1, 1) := by decide +kernel
theorem dX9_sayReal_64 : decode cX9_sayReal 64 = .ok (.dconst 0, 1) := by decide +kernel
theorem dX9_sayReal_65 : decode cX9_sayReal 65 = .ok (.dcmp .g, 1) := by decide +kernel
theorem dX9_sayReal_66 : decode cX9_sayReal 66 = .ok (.ifCond .ge 8, 3) := by decide +kernel
theorem dX9_sayReal_69 : decode cX9_sayReal 69 = .ok (.dload_n 1, 1) := by decide +kernel
theorem dX9_sayReal_70 : decode cX9_sayReal 70 = .ok (.dneg, 1) := by decide +kernel
theorem dX9_sayReal_71 : decode cX9_sayReal 71 = .ok (.goto 4, 3) := by decide +kernel
theorem dX9_sayReal_74 : decode cX9_sayReal 74 = .ok (.dload_n 1, 1) := by decide +kernel
theorem dX9_sayReal_75 : decode cX9_sayReal 75 = .ok (.invokevirtual 262, 3) := by decide +kernel
theorem dX9_sayReal_78 : decode cX9_sayReal 78 = .ok (.return_, 1) := by decide +kernel
theorem dX9_shortest_0 : decode cX9_shortest 0 = .ok (.dload_n 1, 1) := by decide +kernel
theorem dX9_shortest_1 : decode cX9_shortest 1 = .ok (.invokestatic 227, 3) := by decide +kernel
theorem dX9_shortest_4 : decode cX9_shortest 4 = .ok (.lstore_n 3, 1) := by decide +kernel
theorem dX9_shortest_5 : decode cX9_shortest 5 = .ok (.dload_n 1, 1) := by decide +kernel
theorem dX9_shortest_6 : decode cX9_shortest 6 = .ok (.invokestatic 231, 3) := by decide +kernel
theorem dX9_shortest_9 : decode cX9_shortest 9 = .ok (.istore 5, 2) := by decide +kernel
theorem dX9_shortest_11 : decode cX9_shortest 11 = .ok (.lload_n 3, 1) := by decide +kernel
theorem dX9_shortest_12 : decode cX9_shortest 12 = .ok (.ldc2_w 139, 3) := by decide +kernel
theorem dX9_shortest_15 : decode cX9_shortest 15 = .ok (.lcmp, 1) := by decide +kernel
theorem dX9_shortest_16 : decode cX9_shortest 16 = .ok (.ifCond .ge 23, 3) := by decide +kernel
theorem dX9_shortest_19 : decode cX9_shortest 19 = .ok (.iload 5, 2) := by decide +kernel
theorem dX9_shortest_21 : decode cX9_shortest 21 = .ok (.sipush (-1074), 3) := by decide +kernel
theorem dX9_shortest_24 : decode cX9_shortest 24 = .ok (.if_icmp .le 15, 3) := by decide +kernel
theorem dX9_shortest_27 : decode cX9_shortest 27 = .ok (.lload_n 3, 1) := by decide +kernel
theorem dX9_shortest_28 : decode cX9_shortest 28 = .ok (.ldc2_w 145, 3) := by decide +kernel
theorem dX9_shortest_31 : decode cX9_shortest 31 = .ok (.lmul, 1) := by decide +kernel
theorem dX9_shortest_32 : decode cX9_shortest 32 = .ok (.lstore_n 3, 1) := by decide +kernel
theorem dX9_shortest_33 : decode cX9_shortest 33 = .ok (.iinc 5 (-1), 3) := by decide +kernel
theorem dX9_shortest_36 : decode cX9_shortest 36 = .ok (.goto (-25), 3) := by decide +kernel
theorem dX9_shortest_39 : decode cX9_shortest 39 = .ok (.lload_n 3, 1) := by decide +kernel
theorem dX9_shortest_40 : decode cX9_shortest 40 = .ok (.ldc2_w 145, 3) := by decide +kernel
theorem dX9_shortest_43 : decode cX9_shortest 43 = .ok (.lrem, 1) := by decide +kernel
theorem dX9_shortest_44 : decode cX9_shortest 44 = .ok (.lconst 0, 1) := by decide +kernel
theorem dX9_shortest_45 : decode cX9_shortest 45 = .ok (.lcmp, 1) := by decide +kernel
theorem dX9_shortest_46 : decode cX9_shortest 46 = .ok (.ifCond .ne 7, 3) := by decide +kernel
theorem dX9_shortest_49 : decode cX9_shortest 49 = .ok (.iconst 1, 1) := by decide +kernel
theorem dX9_shortest_50 : decode cX9_shortest 50 = .ok (.goto 4, 3) := by decide +kernel
theorem dX9_shortest_53 : decode cX9_shortest 53 = .ok (.iconst 0, 1) := by decide +kernel
theorem dX9_shortest_54 : decode cX9_shortest 54 = .ok (.istore 6, 2) := by decide +kernel
theorem dX9_shortest_56 : decode cX9_shortest 56 = .ok (.lload_n 3, 1) := by decide +kernel
theorem dX9_shortest_57 : decode cX9_shortest 57 = .ok (.ldc2_w 139, 3) := by decide +kernel
theorem dX9_shortest_60 : decode cX9_shortest 60 = .ok (.lcmp, 1) := by decide +kernel
theorem dX9_shortest_61 : decode cX9_shortest 61 = .ok (.ifCond .ne 15, 3) := by decide +kernel
theorem dX9_shortest_64 : decode cX9_shortest 64 = .ok (.iload 5, 2) := by decide +kernel
theorem dX9_shortest_66 : decode cX9_shortest 66 = .ok (.sipush (-1074), 3) := by decide +kernel
theorem dX9_shortest_69 : decode cX9_shortest 69 = .ok (.if_icmp .le 7, 3) := by decide +kernel
theorem dX9_shortest_72 : decode cX9_shortest 72 = .ok (.iconst 1, 1) := by decide +kernel
theorem dX9_shortest_73 : decode cX9_shortest 73 = .ok (.goto 4, 3) := by decide +kernel
theorem dX9_shortest_76 : decode cX9_shortest 76 = .ok (.iconst 0, 1) := by decide +kernel
theorem dX9_shortest_77 : decode cX9_shortest 77 = .ok (.istore 7, 2) := by decide +kernel
theorem dX9_shortest_79 : decode cX9_shortest 79 = .ok (.lload_n 3, 1) := by decide +kernel
theorem dX9_shortest_80 : decode cX9_shortest 80 = .ok (.invokestatic 163, 3) := by decide +kernel
theorem dX9_shortest_83 : decode cX9_shortest 83 = .ok (.astore 8, 2) := by decide +kernel
theorem dX9_shortest_85 : decode cX9_shortest 85 = .ok (.aload 8, 2) := by decide +kernel
theorem dX9_shortest_87 : decode cX9_shortest 87 = .ok (.getfield 104, 3) := by decide +kernel
theorem dX9_shortest_90 : decode cX9_shortest 90 = .ok (.aload_n 0, 1) := by decide +kernel
theorem dX9_shortest_91 : decode cX9_shortest 91 = .ok (.getfield 266, 3) := by decide +kernel
theorem dX9_shortest_94 : decode cX9_shortest 94 = .ok (.aload 8, 2) := by decide +kernel
theorem dX9_shortest_96 : decode cX9_shortest 96 = .ok (.getfield 104, 3) := by decide +kernel
theorem dX9_shortest_99 : decode cX9_shortest 99 = .ok (.arraylength, 1) := by decide +kernel
theorem dX9_shortest_100 : decode cX9_shortest 100 = .ok (.invokestatic 61, 3) := by decide +kernel
theorem dX9_shortest_103 : decode cX9_shortest 103 = .ok (.aload_n 0, 1) := by decide +kernel
theorem dX9_shortest_104 : decode cX9_shortest 104 = .ok (.getfield 125, 3) := by decide +kernel
theorem dX9_shortest_107 : decode cX9_shortest 107 = .ok (.aload_n 0, 1) := by decide +kernel
theorem dX9_shortest_108 : decode cX9_shortest 108 = .ok (.getfield 269, 3) := by decide +kernel
theorem dX9_shortest_111 : decode cX9_shortest 111 = .ok (.iconst 1, 1) := by decide +kernel
theorem dX9_shortest_112 : decode cX9_shortest 112 = .ok (.invokestatic 61, 3) := by decide +kernel
theorem dX9_shortest_115 : decode cX9_shortest 115 = .ok (.aload_n 0, 1) := by decide +kernel
theorem dX9_shortest_116 : decode cX9_shortest 116 = .ok (.getfield 125, 3) := by decide +kernel
theorem dX9_shortest_119 : decode cX9_shortest 119 = .ok (.aload_n 0, 1) := by decide +kernel
theorem dX9_shortest_120 : decode cX9_shortest 120 = .ok (.getfield 272, 3) := by decide +kernel
theorem dX9_shortest_123 : decode cX9_shortest 123 = .ok (.iconst 1, 1) := by decide +kernel
theorem dX9_shortest_124 : decode cX9_shortest 124 = .ok (.invokestatic 61, 3) := by decide +kernel
theorem dX9_shortest_127 : decode cX9_shortest 127 = .ok (.aload_n 0, 1) := by decide +kernel
theorem dX9_shortest_128 : decode cX9_shortest 128 = .ok (.getfield 125, 3) := by decide +kernel
theorem dX9_shortest_131 : decode cX9_shortest 131 = .ok (.aload_n 0, 1) := by decide +kernel
theorem dX9_shortest_132 : decode cX9_shortest 132 = .ok (.getfield 275, 3) := by decide +kernel
theorem dX9_shortest_135 : decode cX9_shortest 135 = .ok (.iconst 1, 1) := by decide +kernel
theorem dX9_shortest_136 : decode cX9_shortest 136 = .ok (.invokestatic 61, 3) := by decide +kernel
theorem dX9_shortest_139 : decode cX9_shortest 139 = .ok (.iload 7, 2) := by decide +kernel
theorem dX9_shortest_141 : decode cX9_shortest 141 = .ok (.ifCond .eq 10, 3) := by decide +kernel
theorem dX9_shortest_144 : decode cX9_shortest 144 = .ok (.aload_n 0, 1) := by decide +kernel
theorem dX9_shortest_145 : decode cX9_shortest 145 = .ok (.getfield 275, 3) := by decide +kernel
theorem dX9_shortest_148 : decode cX9_shortest 148 = .ok (.iconst 0, 1) := by decide +kernel
theorem dX9_shortest_149 : decode cX9_shortest 149 = .ok (.iconst 2, 1) := by decide +kernel
theorem dX9_shortest_150 : decode cX9_shortest 150 = .ok (.iastore, 1) := by decide +kernel
theorem dX9_shortest_151 : decode cX9_shortest 151 = .ok (.aload_n 0, 1) := by decide +kernel
theorem dX9_shortest_152 : decode cX9_shortest 152 = .ok (.getfield 266, 3) := by decide +kernel
theorem dX9_shortest_155 : decode cX9_shortest 155 = .ok (.aload 8, 2) := by decide +kernel
theorem dX9_shortest_157 : decode cX9_shortest 157 = .ok (.getfield 104, 3) := by decide +kernel
theorem dX9_shortest_160 : decode cX9_shortest 160 = .ok (.arraylength, 1) := by decide +kernel
theorem dX9_shortest_161 : decode cX9_shortest 161 = .ok (.iload 5, 2) := by decide +kernel
theorem dX9_shortest_163 : decode cX9_shortest 163 = .ok (.ifCond .le 8, 3) := by decide +kernel
theorem dX9_shortest_166 : decode cX9_shortest 166 = .ok (.iload 5, 2) := by decide +kernel
theorem dX9_shortest_168 : decode cX9_shortest 168 = .ok (.goto 4, 3) := by decide +kernel
theorem dX9_shortest_171 : decode cX9_shortest 171 = .ok (.iconst 0, 1) := by decide +kernel
theorem dX9_shortest_172 : decode cX9_shortest 172 = .ok (.iload 7, 2) := by decide +kernel
theorem dX9_shortest_174 : decode cX9_shortest 174 = .ok (.ifCond .eq 7, 3) := by decide +kernel
theorem dX9_shortest_177 : decode cX9_shortest 177 = .ok (.iconst 2, 1) := by decide +kernel
theorem dX9_shortest_178 : decode cX9_shortest 178 = .ok (.goto 4, 3) := by decide +kernel
theorem dX9_shortest_181 : decode cX9_shortest 181 = .ok (.iconst 1, 1) := by decide +kernel
theorem dX9_shortest_182 : decode cX9_shortest 182 = .ok (.iadd, 1) := by decide +kernel
theorem dX9_shortest_183 : decode cX9_shortest 183 = .ok (.invokestatic 131, 3) := by decide +kernel
theorem dX9_shortest_186 : decode cX9_shortest 186 = .ok (.istore 9, 2) := by decide +kernel
theorem dX9_shortest_188 : decode cX9_shortest 188 = .ok (.aload_n 0, 1) := by decide +kernel
theorem dX9_shortest_189 : decode cX9_shortest 189 = .ok (.getfield 269, 3) := by decide +kernel
theorem dX9_shortest_192 : decode cX9_shortest 192 = .ok (.iconst 1, 1) := by decide +kernel
theorem dX9_shortest_193 : decode cX9_shortest 193 = .ok (.iload 5, 2) := by decide +kernel
theorem dX9_shortest_195 : decode cX9_shortest 195 = .ok (.ifCond .ge 9, 3) := by decide +kernel
theorem dX9_shortest_198 : decode cX9_shortest 198 = .ok (.iload 5, 2) := by decide +kernel
theorem dX9_shortest_200 : decode cX9_shortest 200 = .ok (.ineg, 1) := by decide +kernel
theorem dX9_shortest_201 : decode cX9_shortest 201 = .ok (.goto 4, 3) := by decide +kernel
theorem dX9_shortest_204 : decode cX9_shortest 204 = .ok (.iconst 0, 1) := by decide +kernel
theorem dX9_shortest_205 : decode cX9_shortest 205 = .ok (.iload 7, 2) := by decide +kernel
theorem dX9_shortest_207 : decode cX9_shortest 207 = .ok (.ifCond .eq 7, 3) := by decide +kernel
theorem dX9_shortest_210 : decode cX9_shortest 210 = .ok (.iconst 2, 1) := by decide +kernel
theorem dX9_shortest_211 : decode cX9_shortest 211 = .ok (.goto 4, 3) := by decide +kernel
theorem dX9_shortest_214 : decode cX9_shortest 214 = .ok (.iconst 1, 1) := by decide +kernel
theorem dX9_shortest_215 : decode cX9_shortest 215 = .ok (.iadd, 1) := by decide +kernel
theorem dX9_shortest_216 : decode cX9_shortest 216 = .ok (.invokestatic 131, 3) := by decide +kernel
theorem dX9_shortest_219 : decode cX9_shortest 219 = .ok (.istore 10, 2) := by decide +kernel
theorem dX9_shortest_221 : decode cX9_shortest 221 = .ok (.aload_n 0, 1) := by decide +kernel
theorem dX9_shortest_222 : decode cX9_shortest 222 = .ok (.getfield 272, 3) := by decide +kernel
theorem dX9_shortest_225 : decode cX9_shortest 225 = .ok (.iconst 1, 1) := by decide +kernel
theorem dX9_shortest_226 : decode cX9_shortest 226 = .ok (.iload 5, 2) := by decide +kernel
theorem dX9_shortest_228 : decode cX9_shortest 228 = .ok (.ifCond .le 8, 3) := by decide +kernel
theorem dX9_shortest_231 : decode cX9_shortest 231 = .ok (.iload 5, 2) := by decide +kernel
theorem dX9_shortest_233 : decode cX9_shortest 233 = .ok (.goto 4, 3) := by decide +kernel
theorem dX9_shortest_236 : decode cX9_shortest 236 = .ok (.iconst 0, 1) := by decide +kernel
theorem dX9_shortest_237 : decode cX9_shortest 237 = .ok (.invokestatic 131, 3) := by decide +kernel
theorem dX9_shortest_240 : decode cX9_shortest 240 = .ok (.istore 11, 2) := by decide +kernel
theorem dX9_shortest_242 : decode cX9_shortest 242 = .ok (.aload_n 0, 1) := by decide +kernel
theorem dX9_shortest_243 : decode cX9_shortest 243 = .ok (.getfield 275, 3) := by decide +kernel
theorem dX9_shortest_246 : decode cX9_shortest 246 = .ok (.iconst 1, 1) := by decide +kernel
theorem dX9_shortest_247 : decode cX9_shortest 247 = .ok (.iload 5, 2) := by decide +kernel
theorem dX9_shortest_249 : decode cX9_shortest 249 = .ok (.ifCond .le 8, 3) := by decide +kernel
theorem dX9_shortest_252 : decode cX9_shortest 252 = .ok (.iload 5, 2) := by decide +kernel
theorem dX9_shortest_254 : decode cX9_shortest 254 = .ok (.goto 4, 3) := by decide +kernel
theorem dX9_shortest_257 : decode cX9_shortest 257 = .ok (.iconst 0, 1) := by decide +kernel
theorem dX9_shortest_258 : decode cX9_shortest 258 = .ok (.invokestatic 131, 3) := by decide +kernel
theorem dX9_shortest_261 : decode cX9_shortest 261 = .ok (.istore 12, 2) := by decide +kernel
theorem dX9_shortest_263 : decode cX9_shortest 263 = .ok (.iconst 0, 1) := by decide +kernel
theorem dX9_shortest_264 : decode cX9_shortest 264 = .ok (.istore 13, 2) := by decide +kernel
theorem dX9_shortest_266 : decode cX9_shortest 266 = .ok (.aload_n 0, 1) := by decide +kernel
theorem dX9_shortest_267 : decode cX9_shortest 267 = .ok (.getfield 266, 3) := by decide +kernel
theorem dX9_shortest_270 : decode cX9_shortest 270 = .ok (.iload 9, 2) := by decide +kernel
theorem dX9_shortest_272 : decode cX9_shortest 272 = .ok (.aload_n 0, 1) := by decide +kernel
theorem dX9_shortest_273 : decode cX9_shortest 273 = .ok (.getfield 269, 3) := by decide +kernel
theorem dX9_shortest_276 : decode cX9_shortest 276 = .ok (.iload 10, 2) := by decide +kernel
theorem dX9_shortest_278 : decode cX9_shortest 278 = .ok (.invokestatic 141, 3) := by decide +kernel
theorem dX9_shortest_281 : decode cX9_shortest 281 = .ok (.ifCond .lt 21, 3) := by decide +kernel
theorem dX9_shortest_284 : decode cX9_shortest 284 = .ok (.aload_n 0, 1) := by decide +kernel
theorem dX9_shortest_285 : decode cX9_shortest 285 = .ok (.getfield 269, 3) := by decide +kernel
theorem dX9_shortest_288 : decode cX9_shortest 288 = .ok (.iload 10, 2) := by decide +kernel
theorem dX9_shortest_290 : decode cX9_shortest 290 = .ok (.iconst 1, 1) := by decide +kernel
theorem dX9_shortest_291 : decode cX9_shortest 291 = .ok (.invokestatic 278, 3) := by decide +kernel
theorem dX9_shortest_294 : decode cX9_shortest 294 = .ok (.istore 10, 2) := by decide +kernel
theorem dX9_shortest_296 : decode cX9_shortest 296 = .ok (.iinc 13 1, 3) := by decide +kernel
theorem dX9_shortest_299 : decode cX9_shortest 299 = .ok (.goto (-33), 3) := by decide +kernel
theorem dX9_shortest_302 : decode cX9_shortest 302 = .ok (.iconst 1, 1) := by decide +kernel
theorem dX9_shortest_303 : decode cX9_shortest 303 = .ok (.istore 14, 2) := by decide +kernel
theorem dX9_shortest_305 : decode cX9_shortest 305 = .ok (.iload 14, 2) := by decide +kernel
theorem dX9_shortest_307 : decode cX9_shortest 307 = .ok (.ifCond .eq 100, 3) := by decide +kernel
theorem dX9_shortest_310 : decode cX9_shortest 310 = .ok (.aload_n 0, 1) := by decide +kernel
theorem dX9_shortest_311 : decode cX9_shortest 311 = .ok (.getfield 266, 3) := by decide +kernel
theorem dX9_shortest_314 : decode cX9_shortest 314 = .ok (.aload_n 0, 1) := by decide +kernel
theorem dX9_shortest_315 : decode cX9_shortest 315 = .ok (.getfield 281, 3) := by decide +kernel
theorem dX9_shortest_318 : decode cX9_shortest 318 = .ok (.iload 9, 2) := by decide +kernel
theorem dX9_shortest_320 : decode cX9_shortest 320 = .ok (.invokestatic 61, 3) := by decide +kernel
theorem dX9_shortest_323 : decode cX9_shortest 323 = .ok (.aload_n 0, 1) := by decide +kernel
theorem dX9_shortest_324 : decode cX9_shortest 324 = .ok (.getfield 281, 3) := by decide +kernel
theorem dX9_shortest_327 : decode cX9_shortest 327 = .ok (.iload 9, 2) := by decide +kernel
theorem dX9_shortest_329 : decode cX9_shortest 329 = .ok (.iconst 1, 1) := by decide +kernel
theorem dX9_shortest_330 : decode cX9_shortest 330 = .ok (.invokestatic 278, 3) := by decide +kernel
theorem dX9_shortest_333 : decode cX9_shortest 333 = .ok (.istore 15, 2) := by decide +kernel
theorem dX9_shortest_335 : decode cX9_shortest 335 = .ok (.aload_n 0, 1) := by decide +kernel
theorem dX9_shortest_336 : decode cX9_shortest 336 = .ok (.getfield 281, 3) := by decide +kernel
theorem dX9_shortest_339 : decode cX9_shortest 339 = .ok (.iload 15, 2) := by decide +kernel
theorem dX9_shortest_341 : decode cX9_shortest 341 = .ok (.aload_n 0, 1) := by decide +kernel
theorem dX9_shortest_342 : decode cX9_shortest 342 = .ok (.getfield 269, 3) := by decide +kernel
theorem dX9_shortest_345 : decode cX9_shortest 345 = .ok (.iload 10, 2) := by decide +kernel
theorem dX9_shortest_347 : decode cX9_shortest 347 = .ok (.invokestatic 141, 3) := by decide +kernel
theorem dX9_shortest_350 : decode cX9_shortest 350 = .ok (.ifCond .ge 7, 3) := by decide +kernel
theorem dX9_shortest_353 : decode cX9_shortest 353 = .ok (.iconst 1, 1) := by decide +kernel
theorem dX9_shortest_354 : decode cX9_shortest 354 = .ok (.goto 4, 3) := by decide +kernel
theorem dX9_shortest_357 : decode cX9_shortest 357 = .ok (.iconst 0, 1) := by decide +kernel
theorem dX9_shortest_358 : decode cX9_shortest 358 = .ok (.istore 14, 2) := by decide +kernel
theorem dX9_shortest_360 : decode cX9_shortest 360 = .ok (.iload 14, 2) := by decide +kernel
theorem dX9_shortest_362 : decode cX9_shortest 362 = .ok (.ifCond .eq 42, 3) := by decide +kernel
theorem dX9_shortest_365 : decode cX9_shortest 365 = .ok (.aload_n 0, 1) := by decide +kernel
theorem dX9_shortest_366 : decode cX9_shortest 366 = .ok (.getfield 266, 3) := by decide +kernel
theorem dX9_shortest_369 : decode cX9_shortest 369 = .ok (.iload 9, 2) := by decide +kernel
theorem dX9_shortest_371 : decode cX9_shortest 371 = .ok (.iconst 1, 1) := by decide +kernel
theorem dX9_shortest_372 : decode cX9_shortest 372 = .ok (.invokestatic 278, 3) := by decide +kernel
theorem dX9_shortest_375 : decode cX9_shortest 375 = .ok (.istore 9, 2) := by decide +kernel
theorem dX9_shortest_377 : decode cX9_shortest 377 = .ok (.aload_n 0, 1) := by decide +kernel
theorem dX9_shortest_378 : decode cX9_shortest 378 = .ok (.getfield 272, 3) := by decide +kernel
theorem dX9_shortest_381 : decode cX9_shortest 381 = .ok (.iload 11, 2) := by decide +kernel
theorem dX9_shortest_383 : decode cX9_shortest 383 = .ok (.iconst 1, 1) := by decide +kernel
theorem dX9_shortest_384 : decode cX9_shortest 384 = .ok (.invokestatic 278, 3) := by decide +kernel
theorem dX9_shortest_387 : decode cX9_shortest 387 = .ok (.istore 11, 2) := by decide +kernel
theorem dX9_shortest_389 : decode cX9_shortest 389 = .ok (.aload_n 0, 1) := by decide +kernel
theorem dX9_shortest_390 : decode cX9_shortest 390 = .ok (.getfield 275, 3) := by decide +kernel
theorem dX9_shortest_393 : decode cX9_shortest 393 = .ok (.iload 12, 2) := by decide +kernel
theorem dX9_shortest_395 : decode cX9_shortest 395 = .ok (.iconst 1, 1) := by decide +kernel
theorem dX9_shortest_396 : decode cX9_shortest 396 = .ok (.invokestatic 278, 3) := by decide +kernel
theorem dX9_shortest_399 : decode cX9_shortest 399 = .ok (.istore 12, 2) := by decide +kernel
theorem dX9_shortest_401 : decode cX9_shortest 401 = .ok (.iinc 13 (-1), 3) := by decide +kernel
theorem dX9_shortest_404 : decode cX9_shortest 404 = .ok (.goto (-99), 3) := by decide +kernel
theorem dX9_shortest_407 : decode cX9_shortest 407 = .ok (.aload_n 0, 1) := by decide +kernel
theorem dX9_shortest_408 : decode cX9_shortest 408 = .ok (.iconst 0, 1) := by decide +kernel
theorem dX9_shortest_409 : decode cX9_shortest 409 = .ok (.putfield 284, 3) := by decide +kernel
theorem dX9_shortest_412 : decode cX9_shortest 412 = .ok (.aload_n 0, 1) := by decide +kernel
theorem dX9_shortest_413 : decode cX9_shortest 413 = .ok (.getfield 266, 3) := by decide +kernel
theorem dX9_shortest_416 : decode cX9_shortest 416 = .ok (.iload 9, 2) := by decide +kernel
theorem dX9_shortest_418 : decode cX9_shortest 418 = .ok (.iconst 1, 1) := by decide +kernel
theorem dX9_shortest_419 : decode cX9_shortest 419 = .ok (.invokestatic 278, 3) := by decide +kernel
theorem dX9_shortest_422 : decode cX9_shortest 422 = .ok (.istore 9, 2) := by decide +kernel
theorem dX9_shortest_424 : decode cX9_shortest 424 = .ok (.aload_n 0, 1) := by decide +kernel
theorem dX9_shortest_425 : decode cX9_shortest 425 = .ok (.getfield 272, 3) := by decide +kernel
theorem dX9_shortest_428 : decode cX9_shortest 428 = .ok (.iload 11, 2) := by decide +kernel
theorem dX9_shortest_430 : decode cX9_shortest 430 = .ok (.iconst 1, 1) := by decide +kernel
theorem dX9_shortest_431 : decode cX9_shortest 431 = .ok (.invokestatic 278, 3) := by decide +kernel
theorem dX9_shortest_434 : decode cX9_shortest 434 = .ok (.istore 11, 2) := by decide +kernel
theorem dX9_shortest_436 : decode cX9_shortest 436 = .ok (.aload_n 0, 1) := by decide +kernel
theorem dX9_shortest_437 : decode cX9_shortest 437 = .ok (.getfield 275, 3) := by decide +kernel
theorem dX9_shortest_440 : decode cX9_shortest 440 = .ok (.iload 12, 2) := by decide +kernel
theorem dX9_shortest_442 : decode cX9_shortest 442 = .ok (.iconst 1, 1) := by decide +kernel
theorem dX9_shortest_443 : decode cX9_shortest 443 = .ok (.invokestatic 278, 3) := by decide +kernel
theorem dX9_shortest_446 : decode cX9_shortest 446 = .ok (.istore 12, 2) := by decide +kernel
theorem dX9_shortest_448 : decode cX9_shortest 448 = .ok (.iconst 0, 1) := by decide +kernel
theorem dX9_shortest_449 : decode cX9_shortest 449 = .ok (.istore 15, 2) := by decide +kernel
theorem dX9_shortest_451 : decode cX9_shortest 451 = .ok (.aload_n 0, 1) := by decide +kernel
theorem dX9_shortest_452 : decode cX9_shortest 452 = .ok (.getfield 266, 3) := by decide +kernel
theorem dX9_shortest_455 : decode cX9_shortest 455 = .ok (.iload 9, 2) := by decide +kernel
theorem dX9_shortest_457 : decode cX9_shortest 457 = .ok (.aload_n 0, 1) := by decide +kernel
theorem dX9_shortest_458 : decode cX9_shortest 458 = .ok (.getfield 269, 3) := by decide +kernel
theorem dX9_shortest_461 : decode cX9_shortest 461 = .ok (.iload 10, 2) := by decide +kernel
theorem dX9_shortest_463 : decode cX9_shortest 463 = .ok (.invokestatic 141, 3) := by decide +kernel
theorem dX9_shortest_466 : decode cX9_shortest 466 = .ok (.ifCond .lt 44, 3) := by decide +kernel
theorem dX9_shortest_469 : decode cX9_shortest 469 = .ok (.aload_n 0, 1) := by decide +kernel
theorem dX9_shortest_470 : decode cX9_shortest 470 = .ok (.getfield 266, 3) := by decide +kernel
theorem dX9_shortest_473 : decode cX9_shortest 473 = .ok (.iload 9, 2) := by decide +kernel
theorem dX9_shortest_475 : decode cX9_shortest 475 = .ok (.iconst 0, 1) := by decide +kernel
theorem dX9_shortest_476 : decode cX9_shortest 476 = .ok (.iastore, 1) := by decide +kernel
theorem dX9_shortest_477 : decode cX9_shortest 477 = .ok (.aload_n 0, 1) := by decide +kernel
theorem dX9_shortest_478 : decode cX9_shortest 478 = .ok (.getfield 266, 3) := by decide +kernel
theorem dX9_shortest_481 : decode cX9_shortest 481 = .ok (.iconst 0, 1) := by decide +kernel
theorem dX9_shortest_482 : decode cX9_shortest 482 = .ok (.aload_n 0, 1) := by decide +kernel
theorem dX9_shortest_483 : decode cX9_shortest 483 = .ok (.getfield 269, 3) := by decide +kernel
theorem dX9_shortest_486 : decode cX9_shortest 486 = .ok (.iload 10, 2) := by decide +kernel
theorem dX9_shortest_488 : decode cX9_shortest 488 = .ok (.iconst 1, 1) := by decide +kernel
theorem dX9_shortest_489 : decode cX9_shortest 489 = .ok (.invokestatic 42, 3) := by decide +kernel
theorem dX9_shortest_492 : decode cX9_shortest 492 = .ok (.pop, 1) := by decide +kernel
theorem dX9_shortest_493 : decode cX9_shortest 493 = .ok (.aload_n 0, 1) := by decide +kernel
theorem dX9_shortest_494 : decode cX9_shortest 494 = .ok (.getfield 266, 3) := by decide +kernel
theorem dX9_shortest_497 : decode cX9_shortest 497 = .ok (.iload 9, 2) := by decide +kernel
theorem dX9_shortest_499 : decode cX9_shortest 499 = .ok (.invokestatic 15, 3) := by decide +kernel
theorem dX9_shortest_502 : decode cX9_shortest 502 = .ok (.istore 9, 2) := by decide +kernel
theorem dX9_shortest_504 : decode cX9_shortest 504 = .ok (.iinc 15 1, 3) := by decide +kernel
theorem dX9_shortest_507 : decode cX9_shortest 507 = .ok (.goto (-56), 3) := by decide +kernel
theorem dX9_shortest_510 : decode cX9_shortest 510 = .ok (.aload_n 0, 1) := by decide +kernel
theorem dX9_shortest_511 : decode cX9_shortest 511 = .ok (.getfield 266, 3) := by decide +kernel
theorem dX9_shortest_514 : decode cX9_shortest 514 = .ok (.iload 9, 2) := by decide +kernel
theorem dX9_shortest_516 : decode cX9_shortest 516 = .ok (.aload_n 0, 1) := by decide +kernel
theorem dX9_shortest_517 : decode cX9_shortest 517 = .ok (.getfield 272, 3) := by decide +kernel
theorem dX9_shortest_520 : decode cX9_shortest 520 = .ok (.iload 11, 2) := by decide +kernel
theorem dX9_shortest_522 : decode cX9_shortest 522 = .ok (.invokestatic 141, 3) := by decide +kernel
theorem dX9_shortest_525 : decode cX9_shortest 525 = .ok (.istore 16, 2) := by decide +kernel
theorem dX9_shortest_527 : decode cX9_shortest 527 = .ok (.aload_n 0, 1) := by decide +kernel
theorem dX9_shortest_528 : decode cX9_shortest 528 = .ok (.getfield 269, 3) := by decide +kernel
theorem dX9_shortest_531 : decode cX9_shortest 531 = .ok (.aload_n 0, 1) := by decide +kernel
theorem dX9_shortest_532 : decode cX9_shortest 532 = .ok (.getfield 281, 3) := by decide +kernel
theorem dX9_shortest_535 : decode cX9_shortest 535 = .ok (.iload 10, 2) := by decide +kernel
theorem dX9_shortest_537 : decode cX9_shortest 537 = .ok (.invokestatic 61, 3) := by decide +kernel
theorem dX9_shortest_540 : decode cX9_shortest 540 = .ok (.aload_n 0, 1) := by decide +kernel
theorem dX9_shortest_541 : decode cX9_shortest 541 = .ok (.getfield 281, 3) := by decide +kernel
theorem dX9_shortest_544 : decode cX9_shortest 544 = .ok (.iload 10, 2) := by decide +kernel
theorem dX9_shortest_546 : decode cX9_shortest 546 = .ok (.aload_n 0, 1) := by decide +kernel
theorem dX9_shortest_547 : decode cX9_shortest 547 = .ok (.getfield 266, 3) := by decide +kernel
theorem dX9_shortest_550 : decode cX9_shortest 550 = .ok (.iload 9, 2) := by decide +kernel
theorem dX9_shortest_552 : decode cX9_shortest 552 = .ok (.invokestatic 287, 3) := by decide +kernel
theorem dX9_shortest_555 : decode cX9_shortest 555 = .ok (.aload_n 0, 1) := by decide +kernel
theorem dX9_shortest_556 : decode cX9_shortest 556 = .ok (.getfield 281, 3) := by decide +kernel
theorem dX9_shortest_559 : decode cX9_shortest 559 = .ok (.iload 10, 2) := by decide +kernel
theorem dX9_shortest_561 : decode cX9_shortest 561 = .ok (.invokestatic 15, 3) := by decide +kernel
theorem dX9_shortest_564 : decode cX9_shortest 564 = .ok (.istore 17, 2) := by decide +kernel
theorem dX9_shortest_566 : decode cX9_shortest 566 = .ok (.aload_n 0, 1) := by decide +kernel
theorem dX9_shortest_567 : decode cX9_shortest 567 = .ok (.getfield 281, 3) := by decide +kernel
theorem dX9_shortest_570 : decode cX9_shortest 570 = .ok (.iload 17, 2) := by decide +kernel
theorem dX9_shortest_572 : decode cX9_shortest 572 = .ok (.aload_n 0, 1) := by decide +kernel
theorem dX9_shortest_573 : decode cX9_shortest 573 = .ok (.getfield 275, 3) := by decide +kernel
theorem dX9_shortest_576 : decode cX9_shortest 576 = .ok (.iload 12, 2) := by decide +kernel
theorem dX9_shortest_578 : decode cX9_shortest 578 = .ok (.invokestatic 141, 3) := by decide +kernel
theorem dX9_shortest_581 : decode cX9_shortest 581 = .ok (.istore 18, 2) := by decide +kernel
theorem dX9_shortest_583 : decode cX9_shortest 583 = .ok (.iload 16, 2) := by decide +kernel
theorem dX9_shortest_585 : decode cX9_shortest 585 = .ok (.ifCond .lt 13, 3) := by decide +kernel
theorem dX9_shortest_588 : decode cX9_shortest 588 = .ok (.iload 16, 2) := by decide +kernel
theorem dX9_shortest_590 : decode cX9_shortest 590 = .ok (.ifCond .ne 12, 3) := by decide +kernel
theorem dX9_shortest_593 : decode cX9_shortest 593 = .ok (.iload 6, 2) := by decide +kernel
theorem dX9_shortest_595 : decode cX9_shortest 595 = .ok (.ifCond .eq 7, 3) := by decide +kernel
theorem dX9_shortest_598 : decode cX9_shortest 598 = .ok (.iconst 1, 1) := by decide +kernel
theorem dX9_shortest_599 : decode cX9_shortest 599 = .ok (.goto 4, 3) := by decide +kernel
theorem dX9_shortest_602 : decode cX9_shortest 602 = .ok (.iconst 0, 1) := by decide +kernel
theorem dX9_shortest_603 : decode cX9_shortest 603 = .ok (.istore 19, 2) := by decide +kernel
theorem dX9_shortest_605 : decode cX9_shortest 605 = .ok (.iload 18, 2) := by decide +kernel
theorem dX9_shortest_607 : decode cX9_shortest 607 = .ok (.ifCond .lt 13, 3) := by decide +kernel
theorem dX9_shortest_610 : decode cX9_shortest 610 = .ok (.iload 18, 2) := by decide +kernel
theorem dX9_shortest_612 : decode cX9_shortest 612 = .ok (.ifCond .ne 12, 3) := by decide +kernel
theorem dX9_shortest_615 : decode cX9_shortest 615 = .ok (.iload 6, 2) := by decide +kernel
theorem dX9_shortest_617 : decode cX9_shortest 617 = .ok (.ifCond .eq 7, 3) := by decide +kernel
theorem dX9_shortest_620 : decode cX9_shortest 620 = .ok (.iconst 1, 1) := by decide +kernel
theorem dX9_shortest_621 : decode cX9_shortest 621 = .ok (.goto 4, 3) := by decide +kernel
theorem dX9_shortest_624 : decode cX9_shortest 624 = .ok (.iconst 0, 1) := by decide +kernel
theorem dX9_shortest_625 : decode cX9_shortest 625 = .ok (.istore 20, 2) := by decide +kernel
theorem dX9_shortest_627 : decode cX9_shortest 627 = .ok (.iload 19, 2) := by decide +kernel
theorem dX9_shortest_629 : decode cX9_shortest 629 = .ok (.ifCond .ne 32, 3) := by decide +kernel
theorem dX9_shortest_632 : decode cX9_shortest 632 = .ok (.iload 20, 2) := by decide +kernel
theorem dX9_shortest_634 : decode cX9_shortest 634 = .ok (.ifCond .ne 27, 3) := by decide +kernel
theorem dX9_shortest_637 : decode cX9_shortest 637 = .ok (.aload_n 0, 1) := by decide +kernel
theorem dX9_shortest_638 : decode cX9_shortest 638 = .ok (.getfield 290, 3) := by decide +kernel
theorem dX9_shortest_641 : decode cX9_shortest 641 = .ok (.aload_n 0, 1) := by decide +kernel
theorem dX9_shortest_642 : decode cX9_shortest 642 = .ok (.getfield 284, 3) := by decide +kernel
theorem dX9_shortest_645 : decode cX9_shortest 645 = .ok (.iload 15, 2) := by decide +kernel
theorem dX9_shortest_647 : decode cX9_shortest 647 = .ok (.iastore, 1) := by decide +kernel
theorem dX9_shortest_648 : decode cX9_shortest 648 = .ok (.aload_n 0, 1) := by decide +kernel
theorem dX9_shortest_649 : decode cX9_shortest 649 = .ok (.dup, 1) := by decide +kernel
theorem dX9_shortest_650 : decode cX9_shortest 650 = .ok (.getfield 284, 3) := by decide +kernel
theorem dX9_shortest_653 : decode cX9_shortest 653 = .ok (.iconst 1, 1) := by decide +kernel
theorem dX9_shortest_654 : decode cX9_shortest 654 = .ok (.iadd, 1) := by decide +kernel
theorem dX9_shortest_655 : decode cX9_shortest 655 = .ok (.putfield 284, 3) := by decide +kernel
theorem dX9_shortest_658 : decode cX9_shortest 658 = .ok (.goto (-246), 3) := by decide +kernel
theorem dX9_shortest_661 : decode cX9_shortest 661 = .ok (.aload_n 0, 1) := by decide +kernel
theorem dX9_shortest_662 : decode cX9_shortest 662 = .ok (.getfield 266, 3) := by decide +kernel
theorem dX9_shortest_665 : decode cX9_shortest 665 = .ok (.iload 9, 2) := by decide +kernel
theorem dX9_shortest_667 : decode cX9_shortest 667 = .ok (.aload_n 0, 1) := by decide +kernel
theorem dX9_shortest_668 : decode cX9_shortest 668 = .ok (.getfield 281, 3) := by decide +kernel
theorem dX9_shortest_671 : decode cX9_shortest 671 = .ok (.iload 17, 2) := by decide +kernel
theorem dX9_shortest_673 : decode cX9_shortest 673 = .ok (.invokestatic 141, 3) := by decide +kernel
theorem dX9_shortest_676 : decode cX9_shortest 676 = .ok (.istore 21, 2) := by decide +kernel
theorem dX9_shortest_678 : decode cX9_shortest 678 = .ok (.iload 19, 2) := by decide +kernel
theorem dX9_shortest_680 : decode cX9_shortest 680 = .ok (.ifCond .eq 26, 3) := by decide +kernel
theorem dX9_shortest_683 : decode cX9_shortest 683 = .ok (.iload 20, 2) := by decide +kernel
theorem dX9_shortest_685 : decode cX9_shortest 685 = .ok (.ifCond .eq 25, 3) := by decide +kernel
theorem dX9_shortest_688 : decode cX9_shortest 688 = .ok (.iload 21, 2) := by decide +kernel
theorem dX9_shortest_690 : decode cX9_shortest 690 = .ok (.ifCond .gt 16, 3) := by decide +kernel
theorem dX9_shortest_693 : decode cX9_shortest 693 = .ok (.iload 21, 2) := by decide +kernel
theorem dX9_shortest_695 : decode cX9_shortest 695 = .ok (.ifCond .ne 15, 3) := by decide +kernel
theorem dX9_shortest_698 : decode cX9_shortest 698 = .ok (.iload 15, 2) := by decide +kernel
theorem dX9_shortest_700 : decode cX9_shortest 700 = .ok (.iconst 2, 1) := by decide +kernel
theorem dX9_shortest_701 : decode cX9_shortest 701 = .ok (.irem, 1) := by decide +kernel
theorem dX9_shortest_702 : decode cX9_shortest 702 = .ok (.iconst 1, 1) := by decide +kernel
theorem dX9_shortest_703 : decode cX9_shortest 703 = .ok (.if_icmp .ne 7, 3) := by decide +kernel
theorem dX9_shortest_706 : decode cX9_shortest 706 = .ok (.iconst 1, 1) := by decide +kernel
theorem dX9_shortest_707 : decode cX9_shortest 707 = .ok (.goto 4, 3) := by decide +kernel
theorem dX9_shortest_710 : decode cX9_shortest 710 = .ok (.iconst 0, 1) := by decide +kernel
theorem dX9_shortest_711 : decode cX9_shortest 711 = .ok (.istore 22, 2) := by decide +kernel
theorem dX9_shortest_713 : decode cX9_shortest 713 = .ok (.iload 13, 2) := by decide +kernel
theorem dX9_shortest_715 : decode cX9_shortest 715 = .ok (.aload_n 0, 1) := by decide +kernel
theorem dX9_shortest_716 : decode cX9_shortest 716 = .ok (.iload 22, 2) := by decide +kernel
theorem dX9_shortest_718 : decode cX9_shortest 718 = .ok (.ifCond .eq 10, 3) := by decide +kernel
theorem dX9_shortest_721 : decode cX9_shortest 721 = .ok (.iload 15, 2) := by decide +kernel
theorem dX9_shortest_723 : decode cX9_shortest 723 = .ok (.iconst 1, 1) := by decide +kernel
theorem dX9_shortest_724 : decode cX9_shortest 724 = .ok (.iadd, 1) := by decide +kernel
theorem dX9_shortest_725 : decode cX9_shortest 725 = .ok (.goto 5, 3) := by decide +kernel
theorem dX9_shortest_728 : decode cX9_shortest 728 = .ok (.iload 15, 2) := by decide +kernel
theorem dX9_shortest_730 : decode cX9_shortest 730 = .ok (.invokevirtual 293, 3) := by decide +kernel
theorem dX9_shortest_733 : decode cX9_shortest 733 = .ok (.iadd, 1) := by decide +kernel
theorem dX9_shortest_734 : decode cX9_shortest 734 = .ok (.istore 13, 2) := by decide +kernel
theorem dX9_shortest_736 : decode cX9_shortest 736 = .ok (.aload_n 0, 1) := by decide +kernel
theorem dX9_shortest_737 : decode cX9_shortest 737 = .ok (.iload 13, 2) := by decide +kernel
theorem dX9_shortest_739 : decode cX9_shortest 739 = .ok (.invokevirtual 297, 3) := by decide +kernel
theorem dX9_shortest_742 : decode cX9_shortest 742 = .ok (.return_, 1) := by decide +kernel
theorem dX9_lessen_0 : decode cX9_lessen 0 = .ok (.iconst 0, 1) := by decide +kernel
theorem dX9_lessen_1 : decode cX9_lessen 1 = .ok (.istore 4, 2) := by decide +kernel
theorem dX9_lessen_3 : decode cX9_lessen 3 = .ok (.iconst 0, 1) := by decide +kernel
theorem dX9_lessen_4 : decode cX9_lessen 4 = .ok (.istore 5, 2) := by decide +kernel
theorem dX9_lessen_6 : decode cX9_lessen 6 = .ok (.iload 5, 2) := by decide +kernel
theorem dX9_lessen_8 : decode cX9_lessen 8 = .ok (.iload_n 1, 1) := by decide +kernel
theorem dX9_lessen_9 : decode cX9_lessen 9 = .ok (.if_icmp .ge 58, 3) := by decide +kernel
theorem dX9_lessen_12 : decode cX9_lessen 12 = .ok (.aload_n 0, 1) := by decide +kernel
theorem dX9_lessen_13 : decode cX9_lessen 13 = .ok (.iload 5, 2) := by decide +kernel
theorem dX9_lessen_15 : decode cX9_lessen 15 = .ok (.iaload, 1) := by decide +kernel
theorem dX9_lessen_16 : decode cX9_lessen 16 = .ok (.iload 4, 2) := by decide +kernel
theorem dX9_lessen_18 : decode cX9_lessen 18 = .ok (.isub, 1) := by decide +kernel
theorem dX9_lessen_19 : decode cX9_lessen 19 = .ok (.iload 5, 2) := by decide +kernel
theorem dX9_lessen_21 : decode cX9_lessen 21 = .ok (.iload_n 3, 1) := by decide +kernel
theorem dX9_lessen_22 : decode cX9_lessen 22 = .ok (.if_icmp .ge 10, 3) := by decide +kernel
theorem dX9_lessen_25 : decode cX9_lessen 25 = .ok (.aload_n 2, 1) := by decide +kernel
theorem dX9_lessen_26 : decode cX9_lessen 26 = .ok (.iload 5, 2) := by decide +kernel
theorem dX9_lessen_28 : decode cX9_lessen 28 = .ok (.iaload, 1) := by decide +kernel
theorem dX9_lessen_29 : decode cX9_lessen 29 = .ok (.goto 4, 3) := by decide +kernel
theorem dX9_lessen_32 : decode cX9_lessen 32 = .ok (.iconst 0, 1) := by decide +kernel
theorem dX9_lessen_33 : decode cX9_lessen 33 = .ok (.isub, 1) := by decide +kernel
theorem dX9_lessen_34 : decode cX9_lessen 34 = .ok (.istore 6, 2) := by decide +kernel
theorem dX9_lessen_36 : decode cX9_lessen 36 = .ok (.iload 6, 2) := by decide +kernel
theorem dX9_lessen_38 : decode cX9_lessen 38 = .ok (.ifCond .ge 7, 3) := by decide +kernel
theorem dX9_lessen_41 : decode cX9_lessen 41 = .ok (.iconst 1, 1) := by decide +kernel
theorem dX9_lessen_42 : decode cX9_lessen 42 = .ok (.goto 4, 3) := by decide +kernel
theorem dX9_lessen_45 : decode cX9_lessen 45 = .ok (.iconst 0, 1) := by decide +kernel
theorem dX9_lessen_46 : decode cX9_lessen 46 = .ok (.istore 4, 2) := by decide +kernel
theorem dX9_lessen_48 : decode cX9_lessen 48 = .ok (.aload_n 0, 1) := by decide +kernel
theorem dX9_lessen_49 : decode cX9_lessen 49 = .ok (.iload 5, 2) := by decide +kernel
theorem dX9_lessen_51 : decode cX9_lessen 51 = .ok (.iload 6, 2) := by decide +kernel
theorem dX9_lessen_53 : decode cX9_lessen 53 = .ok (.iload 4, 2) := by decide +kernel
theorem dX9_lessen_55 : decode cX9_lessen 55 = .ok (.sipush 10000, 3) := by decide +kernel
theorem dX9_lessen_58 : decode cX9_lessen 58 = .ok (.imul, 1) := by decide +kernel
theorem dX9_lessen_59 : decode cX9_lessen 59 = .ok (.iadd, 1) := by decide +kernel
theorem dX9_lessen_60 : decode cX9_lessen 60 = .ok (.iastore, 1) := by decide +kernel
theorem dX9_lessen_61 : decode cX9_lessen 61 = .ok (.iinc 5 1, 3) := by decide +kernel
theorem dX9_lessen_64 : decode cX9_lessen 64 = .ok (.goto (-58), 3) := by decide +kernel
theorem dX9_lessen_67 : decode cX9_lessen 67 = .ok (.return_, 1) := by decide +kernel
theorem dX9_put_0 : decode cX9_put 0 = .ok (.iload_n 1, 1) := by decide +kernel
theorem dX9_put_1 : decode cX9_put 1 = .ok (.bipush 10, 2) := by decide +kernel
theorem dX9_put_3 : decode cX9_put 3 = .ok (.if_icmp .ge 25, 3) := by decide +kernel
theorem dX9_put_6 : decode cX9_put 6 = .ok (.aload_n 0, 1) := by decide +kernel
theorem dX9_put_7 : decode cX9_put 7 = .ok (.getfield 290, 3) := by decide +kernel
theorem dX9_put_10 : decode cX9_put 10 = .ok (.aload_n 0, 1) := by decide +kernel
theorem dX9_put_11 : decode cX9_put 11 = .ok (.getfield 284, 3) := by decide +kernel
theorem dX9_put_14 : decode cX9_put 14 = .ok (.iload_n 1, 1) := by decide +kernel
theorem dX9_put_15 : decode cX9_put 15 = .ok (.iastore, 1) := by decide +kernel
theorem dX9_put_16 : decode cX9_put 16 = .ok (.aload_n 0, 1) := by decide +kernel
theorem dX9_put_17 : decode cX9_put 17 = .ok (.dup, 1) := by decide +kernel
theorem dX9_put_18 : decode cX9_put 18 = .ok (.getfield 284, 3) := by decide +kernel
theorem dX9_put_21 : decode cX9_put 21 = .ok (.iconst 1, 1) := by decide +kernel
theorem dX9_put_22 : decode cX9_put 22 = .ok (.iadd, 1) := by decide +kernel
theorem dX9_put_23 : decode cX9_put 23 = .ok (.putfield 284, 3) := by decide +kernel
theorem dX9_put_26 : decode cX9_put 26 = .ok (.iconst 0, 1) := by decide +kernel
theorem dX9_put_27 : decode cX9_put 27 = .ok (.ireturn, 1) := by decide +kernel
theorem dX9_put_28 : decode cX9_put 28 = .ok (.aload_n 0, 1) := by decide +kernel
theorem dX9_put_29 : decode cX9_put 29 = .ok (.getfield 284, 3) := by decide +kernel
theorem dX9_put_32 : decode cX9_put 32 = .ok (.iconst 1, 1) := by decide +kernel
theorem dX9_put_33 : decode cX9_put 33 = .ok (.isub, 1) := by decide +kernel
theorem dX9_put_34 : decode cX9_put 34 = .ok (.istore_n 2, 1) := by decide +kernel
theorem dX9_put_35 : decode cX9_put 35 = .ok (.iload_n 2, 1) := by decide +kernel
theorem dX9_put_36 : decode cX9_put 36 = .ok (.ifCond .lt 20, 3) := by decide +kernel
theorem dX9_put_39 : decode cX9_put 39 = .ok (.aload_n 0, 1) := by decide +kernel
theorem dX9_put_40 : decode cX9_put 40 = .ok (.getfield 290, 3) := by decide +kernel
theorem dX9_put_43 : decode cX9_put 43 = .ok (.iload_n 2, 1) := by decide +kernel
theorem dX9_put_44 : decode cX9_put 44 = .ok (.iaload, 1) := by decide +kernel
theorem dX9_put_45 : decode cX9_put 45 = .ok (.bipush 9, 2) := by decide +kernel
theorem dX9_put_47 : decode cX9_put 47 = .ok (.if_icmp .ne 9, 3) := by decide +kernel
theorem dX9_put_50 : decode cX9_put 50 = .ok (.iinc 2 (-1), 3) := by decide +kernel
theorem dX9_put_53 : decode cX9_put 53 = .ok (.goto (-18), 3) := by decide +kernel
theorem dX9_put_56 : decode cX9_put 56 = .ok (.iload_n 2, 1) := by decide +kernel
theorem dX9_put_57 : decode cX9_put 57 = .ok (.ifCond .ge 17, 3) := by decide +kernel
theorem dX9_put_60 : decode cX9_put 60 = .ok (.aload_n 0, 1) := by decide +kernel
theorem dX9_put_61 : decode cX9_put 61 = .ok (.getfield 290, 3) := by decide +kernel
theorem dX9_put_64 : decode cX9_put 64 = .ok (.iconst 0, 1) := by decide +kernel
theorem dX9_put_65 : decode cX9_put 65 = .ok (.iconst 1, 1) := by decide +kernel
theorem dX9_put_66 : decode cX9_put 66 = .ok (.iastore, 1) := by decide +kernel
theorem dX9_put_67 : decode cX9_put 67 = .ok (.aload_n 0, 1) := by decide +kernel
theorem dX9_put_68 : decode cX9_put 68 = .ok (.iconst 1, 1) := by decide +kernel
theorem dX9_put_69 : decode cX9_put 69 = .ok (.putfield 284, 3) := by decide +kernel
theorem dX9_put_72 : decode cX9_put 72 = .ok (.iconst 1, 1) := by decide +kernel
theorem dX9_put_73 : decode cX9_put 73 = .ok (.ireturn, 1) := by decide +kernel
theorem dX9_put_74 : decode cX9_put 74 = .ok (.aload_n 0, 1) := by decide +kernel
theorem dX9_put_75 : decode cX9_put 75 = .ok (.getfield 290, 3) := by decide +kernel
theorem dX9_put_78 : decode cX9_put 78 = .ok (.iload_n 2, 1) := by decide +kernel
theorem dX9_put_79 : decode cX9_put 79 = .ok (.dup2, 1) := by decide +kernel
theorem dX9_put_80 : decode cX9_put 80 = .ok (.iaload, 1) := by decide +kernel
theorem dX9_put_81 : decode cX9_put 81 = .ok (.iconst 1, 1) := by decide +kernel
theorem dX9_put_82 : decode cX9_put 82 = .ok (.iadd, 1) := by decide +kernel
theorem dX9_put_83 : decode cX9_put 83 = .ok (.iastore, 1) := by decide +kernel
theorem dX9_put_84 : decode cX9_put 84 = .ok (.aload_n 0, 1) := by decide +kernel
theorem dX9_put_85 : decode cX9_put 85 = .ok (.iload_n 2, 1) := by decide +kernel
theorem dX9_put_86 : decode cX9_put 86 = .ok (.iconst 1, 1) := by decide +kernel
theorem dX9_put_87 : decode cX9_put 87 = .ok (.iadd, 1) := by decide +kernel
theorem dX9_put_88 : decode cX9_put 88 = .ok (.putfield 284, 3) := by decide +kernel
theorem dX9_put_91 : decode cX9_put 91 = .ok (.iconst 0, 1) := by decide +kernel
theorem dX9_put_92 : decode cX9_put 92 = .ok (.ireturn, 1) := by decide +kernel
theorem dX9_sayFound_0 : decode cX9_sayFound 0 = .ok (.iload_n 1, 1) := by decide +kernel
theorem dX9_sayFound_1 : decode cX9_sayFound 1 = .ok (.istore_n 3, 1) := by decide +kernel
theorem dX9_sayFound_2 : decode cX9_sayFound 2 = .ok (.iload_n 3, 1) := by decide +kernel
theorem dX9_sayFound_3 : decode cX9_sayFound 3 = .ok (.iload_n 2, 1) := by decide +kernel
theorem dX9_sayFound_4 : decode cX9_sayFound 4 = .ok (.if_icmp .ge 35, 3) := by decide +kernel
theorem dX9_sayFound_7 : decode cX9_sayFound 7 = .ok (.aload_n 0, 1) := by decide +kernel
theorem dX9_sayFound_8 : decode cX9_sayFound 8 = .ok (.iload_n 3, 1) := by decide +kernel
theorem dX9_sayFound_9 : decode cX9_sayFound 9 = .ok (.aload_n 0, 1) := by decide +kernel
theorem dX9_sayFound_10 : decode cX9_sayFound 10 = .ok (.getfield 284, 3) := by decide +kernel
theorem dX9_sayFound_13 : decode cX9_sayFound 13 = .ok (.if_icmp .ge 15, 3) := by decide +kernel
theorem dX9_sayFound_16 : decode cX9_sayFound 16 = .ok (.bipush 48, 2) := by decide +kernel
theorem dX9_sayFound_18 : decode cX9_sayFound 18 = .ok (.aload_n 0, 1) := by decide +kernel
theorem dX9_sayFound_19 : decode cX9_sayFound 19 = .ok (.getfield 290, 3) := by decide +kernel
theorem dX9_sayFound_22 : decode cX9_sayFound 22 = .ok (.iload_n 3, 1) := by decide +kernel
theorem dX9_sayFound_23 : decode cX9_sayFound 23 = .ok (.iaload, 1) := by decide +kernel
theorem dX9_sayFound_24 : decode cX9_sayFound 24 = .ok (.iadd, 1) := by decide +kernel
theorem dX9_sayFound_25 : decode cX9_sayFound 25 = .ok (.goto 5, 3) := by decide +kernel
theorem dX9_sayFound_28 : decode cX9_sayFound 28 = .ok (.bipush 48, 2) := by decide +kernel
theorem dX9_sayFound_30 : decode cX9_sayFound 30 = .ok (.invokevirtual 96, 3) := by decide +kernel
theorem dX9_sayFound_33 : decode cX9_sayFound 33 = .ok (.iinc 3 1, 3) := by decide +kernel
theorem dX9_sayFound_36 : decode cX9_sayFound 36 = .ok (.goto (-34), 3) := by decide +kernel
theorem dX9_sayFound_39 : decode cX9_sayFound 39 = .ok (.return_, 1) := by decide +kernel
theorem dX9_placed_0 : decode cX9_placed 0 = .ok (.aload_n 0, 1) := by decide +kernel
theorem dX9_placed_1 : decode cX9_placed 1 = .ok (.getfield 284, 3) := by decide +kernel
theorem dX9_placed_4 : decode cX9_placed 4 = .ok (.istore_n 2, 1) := by decide +kernel
theorem dX9_placed_5 : decode cX9_placed 5 = .ok (.iload_n 1, 1) := by decide +kernel
theorem dX9_placed_6 : decode cX9_placed 6 = .ok (.ifCond .le 41, 3) := by decide +kernel
theorem dX9_placed_9 : decode cX9_placed 9 = .ok (.iload_n 1, 1) := by decide +kernel
theorem dX9_placed_10 : decode cX9_placed 10 = .ok (.bipush 21, 2) := by decide +kernel
theorem dX9_placed_12 : decode cX9_placed 12 = .ok (.if_icmp .gt 35, 3) := by decide +kernel
theorem dX9_placed_15 : decode cX9_placed 15 = .ok (.aload_n 0, 1) := by decide +kernel
theorem dX9_placed_16 : decode cX9_placed 16 = .ok (.iconst 0, 1) := by decide +kernel
theorem dX9_placed_17 : decode cX9_placed 17 = .ok (.iload_n 1, 1) := by decide +kernel
theorem dX9_placed_18 : decode cX9_placed 18 = .ok (.invokevirtual 300, 3) := by decide +kernel
theorem dX9_placed_21 : decode cX9_placed 21 = .ok (.aload_n 0, 1) := by decide +kernel
theorem dX9_placed_22 : decode cX9_placed 22 = .ok (.bipush 46, 2) := by decide +kernel
theorem dX9_placed_24 : decode cX9_placed 24 = .ok (.invokevirtual 96, 3) := by decide +kernel
theorem dX9_placed_27 : decode cX9_placed 27 = .ok (.iload_n 2, 1) := by decide +kernel
theorem dX9_placed_28 : decode cX9_placed 28 = .ok (.iload_n 1, 1) := by decide +kernel
theorem dX9_placed_29 : decode cX9_placed 29 = .ok (.if_icmp .gt 9, 3) := by decide +kernel
theorem dX9_placed_32 : decode cX9_placed 32 = .ok (.aload_n 0, 1) := by decide +kernel
theorem dX9_placed_33 : decode cX9_placed 33 = .ok (.bipush 48, 2) := by decide +kernel
theorem dX9_placed_35 : decode cX9_placed 35 = .ok (.invokevirtual 96, 3) := by decide +kernel
theorem dX9_placed_38 : decode cX9_placed 38 = .ok (.aload_n 0, 1) := by decide +kernel
theorem dX9_placed_39 : decode cX9_placed 39 = .ok (.iload_n 1, 1) := by decide +kernel
theorem dX9_placed_40 : decode cX9_placed 40 = .ok (.iload_n 2, 1) := by decide +kernel
theorem dX9_placed_41 : decode cX9_placed 41 = .ok (.invokevirtual 300, 3) := by decide +kernel
theorem dX9_placed_44 : decode cX9_placed 44 = .ok (.goto 85, 3) := by decide +kernel
theorem dX9_placed_47 : decode cX9_placed 47 = .ok (.iload_n 1, 1) := by decide +kernel
theorem dX9_placed_48 : decode cX9_placed 48 = .ok (.bipush (-7), 2) := by decide +kernel
theorem dX9_placed_50 : decode cX9_placed 50 = .ok (.if_icmp .le 43, 3) := by decide +kernel
theorem dX9_placed_53 : decode cX9_placed 53 = .ok (.iload_n 1, 1) := by decide +kernel
theorem dX9_placed_54 : decode cX9_placed 54 = .ok (.ifCond .gt 39, 3) := by decide +kernel
theorem dX9_placed_57 : decode cX9_placed 57 = .ok (.aload_n 0, 1) := by decide +kernel
theorem dX9_placed_58 : decode cX9_placed 58 = .ok (.ldc_w 304, 3) := by decide +kernel
theorem dX9_placed_61 : decode cX9_placed 61 = .ok (.invokevirtual 253, 3) := by decide +kernel
theorem dX9_placed_64 : decode cX9_placed 64 = .ok (.iconst 0, 1) := by decide +kernel
theorem dX9_placed_65 : decode cX9_placed 65 = .ok (.istore_n 3, 1) := by decide +kernel
theorem dX9_placed_66 : decode cX9_placed 66 = .ok (.iload_n 3, 1) := by decide +kernel
theorem dX9_placed_67 : decode cX9_placed 67 = .ok (.iload_n 1, 1) := by decide +kernel
theorem dX9_placed_68 : decode cX9_placed 68 = .ok (.ineg, 1) := by decide +kernel
theorem dX9_placed_69 : decode cX9_placed 69 = .ok (.if_icmp .ge 15, 3) := by decide +kernel
theorem dX9_placed_72 : decode cX9_placed 72 = .ok (.aload_n 0, 1) := by decide +kernel
theorem dX9_placed_73 : decode cX9_placed 73 = .ok (.bipush 48, 2) := by decide +kernel
theorem dX9_placed_75 : decode cX9_placed 75 = .ok (.invokevirtual 96, 3) := by decide +kernel
theorem dX9_placed_78 : decode cX9_placed 78 = .ok (.iinc 3 1, 3) := by decide +kernel
theorem dX9_placed_81 : decode cX9_placed 81 = .ok (.goto (-15), 3) := by decide +kernel
theorem dX9_placed_84 : decode cX9_placed 84 = .ok (.aload_n 0, 1) := by decide +kernel
theorem dX9_placed_85 : decode cX9_placed 85 = .ok (.iconst 0, 1) := by decide +kernel
theorem dX9_placed_86 : decode cX9_placed 86 = .ok (.iload_n 2, 1) := by decide +kernel
theorem dX9_placed_87 : decode cX9_placed 87 = .ok (.invokevirtual 300, 3) := by decide +kernel
theorem dX9_placed_90 : decode cX9_placed 90 = .ok (.goto 39, 3) := by decide +kernel
theorem dX9_placed_93 : decode cX9_placed 93 = .ok (.aload_n 0, 1) := by decide +kernel
theorem dX9_placed_94 : decode cX9_placed 94 = .ok (.iconst 0, 1) := by decide +kernel
theorem dX9_placed_95 : decode cX9_placed 95 = .ok (.iconst 1, 1) := by decide +kernel
theorem dX9_placed_96 : decode cX9_placed 96 = .ok (.invokevirtual 300, 3) := by decide +kernel
theorem dX9_placed_99 : decode cX9_placed 99 = .ok (.iload_n 2, 1) := by decide +kernel
theorem dX9_placed_100 : decode cX9_placed 100 = .ok (.iconst 1, 1) := by decide +kernel
theorem dX9_placed_101 : decode cX9_placed 101 = .ok (.if_icmp .le 9, 3) := by decide +kernel
theorem dX9_placed_104 : decode cX9_placed 104 = .ok (.aload_n 0, 1) := by decide +kernel
theorem dX9_placed_105 : decode cX9_placed 105 = .ok (.bipush 46, 2) := by decide +kernel
theorem dX9_placed_107 : decode cX9_placed 107 = .ok (.invokevirtual 96, 3) := by decide +kernel
theorem dX9_placed_110 : decode cX9_placed 110 = .ok (.aload_n 0, 1) := by decide +kernel
theorem dX9_placed_111 : decode cX9_placed 111 = .ok (.iconst 1, 1) := by decide +kernel
theorem dX9_placed_112 : decode cX9_placed 112 = .ok (.iload_n 2, 1) := by decide +kernel
theorem dX9_placed_113 : decode cX9_placed 113 = .ok (.invokevirtual 300, 3) := by decide +kernel
theorem dX9_placed_116 : decode cX9_placed 116 = .ok (.aload_n 0, 1) := by decide +kernel
theorem dX9_placed_117 : decode cX9_placed 117 = .ok (.bipush 101, 2) := by decide +kernel
theorem dX9_placed_119 : decode cX9_placed 119 = .ok (.invokevirtual 96, 3) := by decide +kernel
theorem dX9_placed_122 : decode cX9_placed 122 = .ok (.aload_n 0, 1) := by decide +kernel
theorem dX9_placed_123 : decode cX9_placed 123 = .ok (.iload_n 1, 1) := by decide +kernel
theorem dX9_placed_124 : decode cX9_placed 124 = .ok (.iconst 1, 1) := by decide +kernel
theorem dX9_placed_125 : decode cX9_placed 125 = .ok (.isub, 1) := by decide +kernel
theorem dX9_placed_126 : decode cX9_placed 126 = .ok (.invokevirtual 306, 3) := by decide +kernel
theorem dX9_placed_129 : decode cX9_placed 129 = .ok (.return_, 1) := by decide +kernel
theorem dX9_digitOf_0 : decode cX9_digitOf 0 = .ok (.iload_n 0, 1) := by decide +kernel
theorem dX9_digitOf_1 : decode cX9_digitOf 1 = .ok (.bipush 48, 2) := by decide +kernel
theorem dX9_digitOf_3 : decode cX9_digitOf 3 = .ok (.if_icmp .lt 16, 3) := by decide +kernel
theorem dX9_digitOf_6 : decode cX9_digitOf 6 = .ok (.iload_n 0, 1) := by decide +kernel
theorem dX9_digitOf_7 : decode cX9_digitOf 7 = .ok (.bipush 57, 2) := by decide +kernel
theorem dX9_digitOf_9 : decode cX9_digitOf 9 = .ok (.if_icmp .gt 10, 3) := by decide +kernel
theorem dX9_digitOf_12 : decode cX9_digitOf 12 = .ok (.iload_n 0, 1) := by decide +kernel
theorem dX9_digitOf_13 : decode cX9_digitOf 13 = .ok (.bipush 48, 2) := by decide +kernel
theorem dX9_digitOf_15 : decode cX9_digitOf 15 = .ok (.isub, 1) := by decide +kernel
theorem dX9_digitOf_16 : decode cX9_digitOf 16 = .ok (.goto 49, 3) := by decide +kernel
theorem dX9_digitOf_19 : decode cX9_digitOf 19 = .ok (.iload_n 0, 1) := by decide +kernel
theorem dX9_digitOf_20 : decode cX9_digitOf 20 = .ok (.bipush 97, 2) := by decide +kernel
theorem dX9_digitOf_22 : decode cX9_digitOf 22 = .ok (.if_icmp .lt 19, 3) := by decide +kernel
theorem dX9_digitOf_25 : decode cX9_digitOf 25 = .ok (.iload_n 0, 1) := by decide +kernel
theorem dX9_digitOf_26 : decode cX9_digitOf 26 = .ok (.bipush 102, 2) := by decide +kernel
theorem dX9_digitOf_28 : decode cX9_digitOf 28 = .ok (.if_icmp .gt 13, 3) := by decide +kernel
theorem dX9_digitOf_31 : decode cX9_digitOf 31 = .ok (.iload_n 0, 1) := by decide +kernel
theorem dX9_digitOf_32 : decode cX9_digitOf 32 = .ok (.bipush 97, 2) := by decide +kernel
theorem dX9_digitOf_34 : decode cX9_digitOf 34 = .ok (.isub, 1) := by decide +kernel
theorem dX9_digitOf_35 : decode cX9_digitOf 35 = .ok (.bipush 10, 2) := by decide +kernel
theorem dX9_digitOf_37 : decode cX9_digitOf 37 = .ok (.iadd, 1) := by decide +kernel
theorem dX9_digitOf_38 : decode cX9_digitOf 38 = .ok (.goto 27, 3) := by decide +kernel
theorem dX9_digitOf_41 : decode cX9_digitOf 41 = .ok (.iload_n 0, 1) := by decide +kernel
theorem dX9_digitOf_42 : decode cX9_digitOf 42 = .ok (.bipush 65, 2) := by decide +kernel
theorem dX9_digitOf_44 : decode cX9_digitOf 44 = .ok (.if_icmp .lt 19, 3) := by decide +kernel
theorem dX9_digitOf_47 : decode cX9_digitOf 47 = .ok (.iload_n 0, 1) := by decide +kernel
theorem dX9_digitOf_48 : decode cX9_digitOf 48 = .ok (.bipush 70, 2) := by decide +kernel
theorem dX9_digitOf_50 : decode cX9_digitOf 50 = .ok (.if_icmp .gt 13, 3) := by decide +kernel
theorem dX9_digitOf_53 : decode cX9_digitOf 53 = .ok (.iload_n 0, 1) := by decide +kernel
theorem dX9_digitOf_54 : decode cX9_digitOf 54 = .ok (.bipush 65, 2) := by decide +kernel
theorem dX9_digitOf_56 : decode cX9_digitOf 56 = .ok (.isub, 1) := by decide +kernel
theorem dX9_digitOf_57 : decode cX9_digitOf 57 = .ok (.bipush 10, 2) := by decide +kernel
theorem dX9_digitOf_59 : decode cX9_digitOf 59 = .ok (.iadd, 1) := by decide +kernel
theorem dX9_digitOf_60 : decode cX9_digitOf 60 = .ok (.goto 5, 3) := by decide +kernel
theorem dX9_digitOf_63 : decode cX9_digitOf 63 = .ok (.bipush 99, 2) := by decide +kernel
theorem dX9_digitOf_65 : decode cX9_digitOf 65 = .ok (.istore_n 2, 1) := by decide +kernel
theorem dX9_digitOf_66 : decode cX9_digitOf 66 = .ok (.iload_n 2, 1) := by decide +kernel
theorem dX9_digitOf_67 : decode cX9_digitOf 67 = .ok (.iload_n 1, 1) := by decide +kernel
theorem dX9_digitOf_68 : decode cX9_digitOf 68 = .ok (.if_icmp .ge 7, 3) := by decide +kernel
theorem dX9_digitOf_71 : decode cX9_digitOf 71 = .ok (.iload_n 2, 1) := by decide +kernel
theorem dX9_digitOf_72 : decode cX9_digitOf 72 = .ok (.goto 4, 3) := by decide +kernel
theorem dX9_digitOf_75 : decode cX9_digitOf 75 = .ok (.iconst (-1), 1) := by decide +kernel
theorem dX9_digitOf_76 : decode cX9_digitOf 76 = .ok (.ireturn, 1) := by decide +kernel
theorem dX9_areDigits_0 : decode cX9_areDigits 0 = .ok (.iload_n 1, 1) := by decide +kernel
theorem dX9_areDigits_1 : decode cX9_areDigits 1 = .ok (.iload_n 2, 1) := by decide +kernel
theorem dX9_areDigits_2 : decode cX9_areDigits 2 = .ok (.if_icmp .lt 5, 3) := by decide +kernel
theorem dX9_areDigits_5 : decode cX9_areDigits 5 = .ok (.iconst 0, 1) := by decide +kernel
theorem dX9_areDigits_6 : decode cX9_areDigits 6 = .ok (.ireturn, 1) := by decide +kernel
theorem dX9_areDigits_7 : decode cX9_areDigits 7 = .ok (.iload_n 1, 1) := by decide +kernel
theorem dX9_areDigits_8 : decode cX9_areDigits 8 = .ok (.istore 4, 2) := by decide +kernel
theorem dX9_areDigits_10 : decode cX9_areDigits 10 = .ok (.iload 4, 2) := by decide +kernel
theorem dX9_areDigits_12 : decode cX9_areDigits 12 = .ok (.iload_n 2, 1) := by decide +kernel
theorem dX9_areDigits_13 : decode cX9_areDigits 13 = .ok (.if_icmp .ge 22, 3) := by decide +kernel
theorem dX9_areDigits_16 : decode cX9_areDigits 16 = .ok (.aload_n 0, 1) := by decide +kernel
theorem dX9_areDigits_17 : decode cX9_areDigits 17 = .ok (.iload 4, 2) := by decide +kernel
theorem dX9_areDigits_19 : decode cX9_areDigits 19 = .ok (.iaload, 1) := by decide +kernel
theorem dX9_areDigits_20 : decode cX9_areDigits 20 = .ok (.iload_n 3, 1) := by decide +kernel
theorem dX9_areDigits_21 : decode cX9_areDigits 21 = .ok (.invokestatic 309, 3) := by decide +kernel
theorem dX9_areDigits_24 : decode cX9_areDigits 24 = .ok (.ifCond .ge 5, 3) := by decide +kernel
theorem dX9_areDigits_27 : decode cX9_areDigits 27 = .ok (.iconst 0, 1) := by decide +kernel
theorem dX9_areDigits_28 : decode cX9_areDigits 28 = .ok (.ireturn, 1) := by decide +kernel
theorem dX9_areDigits_29 : decode cX9_areDigits 29 = .ok (.iinc 4 1, 3) := by decide +kernel
theorem dX9_areDigits_32 : decode cX9_areDigits 32 = .ok (.goto (-22), 3) := by decide +kernel
theorem dX9_areDigits_35 : decode cX9_areDigits 35 = .ok (.iconst 1, 1) := by decide +kernel
theorem dX9_areDigits_36 : decode cX9_areDigits 36 = .ok (.ireturn, 1) := by decide +kernel
theorem dX9_digits_0 : decode cX9_digits 0 = .ok (.iload_n 2, 1) := by decide +kernel
theorem dX9_digits_1 : decode cX9_digits 1 = .ok (.istore 5, 2) := by decide +kernel
theorem dX9_digits_3 : decode cX9_digits 3 = .ok (.iload 5, 2) := by decide +kernel
theorem dX9_digits_5 : decode cX9_digits 5 = .ok (.iload_n 3, 1) := by decide +kernel
theorem dX9_digits_6 : decode cX9_digits 6 = .ok (.if_icmp .ge 27, 3) := by decide +kernel
theorem dX9_digits_9 : decode cX9_digits 9 = .ok (.aload_n 1, 1) := by decide +kernel
theorem dX9_digits_10 : decode cX9_digits 10 = .ok (.iload 5, 2) := by decide +kernel
theorem dX9_digits_12 : decode cX9_digits 12 = .ok (.iaload, 1) := by decide +kernel
theorem dX9_digits_13 : decode cX9_digits 13 = .ok (.bipush 48, 2) := by decide +kernel
theorem dX9_digits_15 : decode cX9_digits 15 = .ok (.if_icmp .eq 12, 3) := by decide +kernel
theorem dX9_digits_18 : decode cX9_digits 18 = .ok (.aload_n 1, 1) := by decide +kernel
theorem dX9_digits_19 : decode cX9_digits 19 = .ok (.iload 5, 2) := by decide +kernel
theorem dX9_digits_21 : decode cX9_digits 21 = .ok (.iaload, 1) := by decide +kernel
theorem dX9_digits_22 : decode cX9_digits 22 = .ok (.bipush 46, 2) := by decide +kernel
theorem dX9_digits_24 : decode cX9_digits 24 = .ok (.if_icmp .ne 9, 3) := by decide +kernel
theorem dX9_digits_27 : decode cX9_digits 27 = .ok (.iinc 5 1, 3) := by decide +kernel
theorem dX9_digits_30 : decode cX9_digits 30 = .ok (.goto (-27), 3) := by decide +kernel
theorem dX9_digits_33 : decode cX9_digits 33 = .ok (.iload_n 3, 1) := by decide +kernel
theorem dX9_digits_34 : decode cX9_digits 34 = .ok (.iload 5, 2) := by decide +kernel
theorem dX9_digits_36 : decode cX9_digits 36 = .ok (.isub, 1) := by decide +kernel
theorem dX9_digits_37 : decode cX9_digits 37 = .ok (.bipush 16, 2) := by decide +kernel
theorem dX9_digits_39 : decode cX9_digits 39 = .ok (.if_icmp .ge 56, 3) := by decide +kernel
theorem dX9_digits_42 : decode cX9_digits 42 = .ok (.lconst 0, 1) := by decide +kernel
theorem dX9_digits_43 : decode cX9_digits 43 = .ok (.lstore 6, 2) := by decide +kernel
theorem dX9_digits_45 : decode cX9_digits 45 = .ok (.iload 5, 2) := by decide +kernel
theorem dX9_digits_47 : decode cX9_digits 47 = .ok (.istore 8, 2) := by decide +kernel
theorem dX9_digits_49 : decode cX9_digits 49 = .ok (.iload 8, 2) := by decide +kernel
theorem dX9_digits_51 : decode cX9_digits 51 = .ok (.iload_n 3, 1) := by decide +kernel
theorem dX9_digits_52 : decode cX9_digits 52 = .ok (.if_icmp .ge 37, 3) := by decide +kernel
theorem dX9_digits_55 : decode cX9_digits 55 = .ok (.aload_n 1, 1) := by decide +kernel
theorem dX9_digits_56 : decode cX9_digits 56 = .ok (.iload 8, 2) := by decide +kernel
theorem dX9_digits_58 : decode cX9_digits 58 = .ok (.iaload, 1) := by decide +kernel
theorem dX9_digits_59 : decode cX9_digits 59 = .ok (.bipush 46, 2) := by decide +kernel
theorem dX9_digits_61 : decode cX9_digits 61 = .ok (.if_icmp .eq 22, 3) := by decide +kernel
theorem dX9_digits_64 : decode cX9_digits 64 = .ok (.lload 6, 2) := by decide +kernel
theorem dX9_digits_66 : decode cX9_digits 66 = .ok (.iload 4, 2) := by decide +kernel
theorem dX9_digits_68 : decode cX9_digits 68 = .ok (.i2l, 1) := by decide +kernel
theorem dX9_digits_69 : decode cX9_digits 69 = .ok (.lmul, 1) := by decide +kernel
theorem dX9_digits_70 : decode cX9_digits 70 = .ok (.aload_n 1, 1) := by decide +kernel
theorem dX9_digits_71 : decode cX9_digits 71 = .ok (.iload 8, 2) := by decide +kernel
theorem dX9_digits_73 : decode cX9_digits 73 = .ok (.iaload, 1) := by decide +kernel
theorem dX9_digits_74 : decode cX9_digits 74 = .ok (.iload 4, 2) := by decide +kernel
theorem dX9_digits_76 : decode cX9_digits 76 = .ok (.invokestatic 309, 3) := by decide +kernel
theorem dX9_digits_79 : decode cX9_digits 79 = .ok (.i2l, 1) := by decide +kernel
theorem dX9_digits_80 : decode cX9_digits 80 = .ok (.ladd, 1) := by decide +kernel
theorem dX9_digits_81 : decode cX9_digits 81 = .ok (.lstore 6, 2) := by decide +kernel
theorem dX9_digits_83 : decode cX9_digits 83 = .ok (.iinc 8 1, 3) := by decide +kernel
theorem dX9_digits_86 : decode cX9_digits 86 = .ok (.goto (-37), 3) := by decide +kernel
theorem dX9_digits_89 : decode cX9_digits 89 = .ok (.lload 6, 2) := by decide +kernel
theorem dX9_digits_91 : decode cX9_digits 91 = .ok (.invokestatic 163, 3) := by decide +kernel
theorem dX9_digits_94 : decode cX9_digits 94 = .ok (.areturn, 1) := by decide +kernel
theorem dX9_digits_95 : decode cX9_digits 95 = .ok (.iconst 0, 1) := by decide +kernel
theorem dX9_digits_96 : decode cX9_digits 96 = .ok (.istore 6, 2) := by decide +kernel
theorem dX9_digits_98 : decode cX9_digits 98 = .ok (.iload 5, 2) := by decide +kernel
theorem dX9_digits_100 : decode cX9_digits 100 = .ok (.istore 7, 2) := by decide +kernel
theorem dX9_digits_102 : decode cX9_digits 102 = .ok (.iload 7, 2) := by decide +kernel
theorem dX9_digits_104 : decode cX9_digits 104 = .ok (.iload_n 3, 1) := by decide +kernel
theorem dX9_digits_105 : decode cX9_digits 105 = .ok (.if_icmp .ge 40, 3) := by decide +kernel
theorem dX9_digits_108 : decode cX9_digits 108 = .ok (.aload_n 1, 1) := by decide +kernel
theorem dX9_digits_109 : decode cX9_digits 109 = .ok (.iload 7, 2) := by decide +kernel
theorem dX9_digits_111 : decode cX9_digits 111 = .ok (.iaload, 1) := by decide +kernel
theorem dX9_digits_112 : decode cX9_digits 112 = .ok (.bipush 46, 2) := by decide +kernel
theorem dX9_digits_114 : decode cX9_digits 114 = .ok (.if_icmp .eq 25, 3) := by decide +kernel
theorem dX9_digits_117 : decode cX9_digits 117 = .ok (.aload_n 0, 1) := by decide +kernel
theorem dX9_digits_118 : decode cX9_digits 118 = .ok (.getfield 312, 3) := by decide +kernel
theorem dX9_digits_121 : decode cX9_digits 121 = .ok (.iload 6, 2) := by decide +kernel
theorem dX9_digits_123 : decode cX9_digits 123 = .ok (.iload 4, 2) := by decide +kernel
theorem dX9_digits_125 : decode cX9_digits 125 = .ok (.aload_n 1, 1) := by decide +kernel
theorem dX9_digits_126 : decode cX9_digits 126 = .ok (.iload 7, 2) := by decide +kernel
theorem dX9_digits_128 : decode cX9_digits 128 = .ok (.iaload, 1) := by decide +kernel
theorem dX9_digits_129 : decode cX9_digits 129 = .ok (.iload 4, 2) := by decide +kernel
theorem dX9_digits_131 : decode cX9_digits 131 = .ok (.invokestatic 309, 3) := by decide +kernel
theorem dX9_digits_134 : decode cX9_digits 134 = .ok (.invokestatic 31, 3) := by decide +kernel
theorem dX9_digits_137 : decode cX9_digits 137 = .ok (.istore 6, 2) := by decide +kernel
theorem dX9_digits_139 : decode cX9_digits 139 = .ok (.iinc 7 1, 3) := by decide +kernel
theorem dX9_digits_142 : decode cX9_digits 142 = .ok (.goto (-40), 3) := by decide +kernel
theorem dX9_digits_145 : decode cX9_digits 145 = .ok (.iconst 1, 1) := by decide +kernel
theorem dX9_digits_146 : decode cX9_digits 146 = .ok (.aload_n 0, 1) := by decide +kernel
theorem dX9_digits_147 : decode cX9_digits 147 = .ok (.getfield 312, 3) := by decide +kernel
theorem dX9_digits_150 : decode cX9_digits 150 = .ok (.iload 6, 2) := by decide +kernel
theorem dX9_digits_152 : decode cX9_digits 152 = .ok (.invokestatic 173, 3) := by decide +kernel
theorem dX9_digits_155 : decode cX9_digits 155 = .ok (.areturn, 1) := by decide +kernel
theorem dX9_number_0 : decode cX9_number 0 = .ok (.iconst 0, 1) := by decide +kernel
theorem dX9_number_1 : decode cX9_number 1 = .ok (.istore 5, 2) := by decide +kernel
theorem dX9_number_3 : decode cX9_number 3 = .ok (.iconst 0, 1) := by decide +kernel
theorem dX9_number_4 : decode cX9_number 4 = .ok (.istore 6, 2) := by decide +kernel
theorem dX9_number_6 : decode cX9_number 6 = .ok (.iload_n 2, 1) := by decide +kernel
theorem dX9_number_7 : decode cX9_number 7 = .ok (.istore 7, 2) := by decide +kernel
theorem dX9_number_9 : decode cX9_number 9 = .ok (.iload 7, 2) := by decide +kernel
theorem dX9_number_11 : decode cX9_number 11 = .ok (.iconst 1, 1) := by decide +kernel
theorem dX9_number_12 : decode cX9_number 12 = .ok (.iadd, 1) := by decide +kernel
theorem dX9_number_13 : decode cX9_number 13 = .ok (.iload_n 3, 1) := by decide +kernel
theorem dX9_number_14 : decode cX9_number 14 = .ok (.if_icmp .ge 121, 3) := by decide +kernel
theorem dX9_number_17 : decode cX9_number 17 = .ok (.aload_n 1, 1) := by decide +kernel
theorem dX9_number_18 : decode cX9_number 18 = .ok (.iload 7, 2) := by decide +kernel
theorem dX9_number_20 : decode cX9_number 20 = .ok (.iaload, 1) := by decide +kernel
theorem dX9_number_21 : decode cX9_number 21 = .ok (.bipush 35, 2) := by decide +kernel
theorem dX9_number_23 : decode cX9_number 23 = .ok (.if_icmp .ne 112, 3) := by decide +kernel
theorem dX9_number_26 : decode cX9_number 26 = .ok (.aload_n 1, 1) := by decide +kernel
theorem dX9_number_27 : decode cX9_number 27 = .ok (.iload 7, 2) := by decide +kernel
theorem dX9_number_29 : decode cX9_number 29 = .ok (.iconst 1, 1) := by decide +kernel
theorem dX9_number_30 : decode cX9_number 30 = .ok (.iadd, 1) := by decide +kernel
theorem dX9_number_31 : decode cX9_number 31 = .ok (.iaload, 1) := by decide +kernel
theorem dX9_number_32 : decode cX9_number 32 = .ok (.istore 8, 2) := by decide +kernel
theorem dX9_number_34 : decode cX9_number 34 = .ok (.iload 8, 2) := by decide +kernel
theorem dX9_number_36 : decode cX9_number 36 = .ok (.bipush 120, 2) := by decide +kernel
theorem dX9_number_38 : decode cX9_number 38 = .ok (.if_icmp .ne 8, 3) := by decide +kernel
theorem dX9_number_41 : decode cX9_number 41 = .ok (.bipush 16, 2) := by decide +kernel
theorem dX9_number_43 : decode cX9_number 43 = .ok (.goto 39, 3) := by decide +kernel
theorem dX9_number_46 : decode cX9_number 46 = .ok (.iload 8, 2) := by decide +kernel
theorem dX9_number_48 : decode cX9_number 48 = .ok (.bipush 98, 2) := by decide +kernel
theorem dX9_number_50 : decode cX9_number 50 = .ok (.if_icmp .ne 7, 3) := by decide +kernel
theorem dX9_number_53 : decode cX9_number 53 = .ok (.iconst 2, 1) := by decide +kernel
theorem dX9_number_54 : decode cX9_number 54 = .ok (.goto 28, 3) := by decide +kernel
theorem dX9_number_57 : decode cX9_number 57 = .ok (.iload 8, 2) := by decide +kernel
theorem dX9_number_59 : decode cX9_number 59 = .ok (.bipush 111, 2) := by decide +kernel
theorem dX9_number_61 : decode cX9_number 61 = .ok (.if_icmp .ne 8, 3) := by decide +kernel
theorem dX9_number_64 : decode cX9_number 64 = .ok (.bipush 8, 2) := by decide +kernel
theorem dX9_number_66 : decode cX9_number 66 = .ok (.goto 16, 3) := by decide +kernel
theorem dX9_number_69 : decode cX9_number 69 = .ok (.iload 8, 2) := by decide +kernel
theorem dX9_number_71 : decode cX9_number 71 = .ok (.bipush 100, 2) := by decide +kernel
theorem dX9_number_73 : decode cX9_number 73 = .ok (.if_icmp .ne 8, 3) := by decide +kernel
theorem dX9_number_76 : decode cX9_number 76 = .ok (.bipush 10, 2) := by decide +kernel
theorem dX9_number_78 : decode cX9_number 78 = .ok (.goto 4, 3) := by decide +kernel
theorem dX9_number_81 : decode cX9_number 81 = .ok (.iconst 0, 1) := by decide +kernel
theorem dX9_number_82 : decode cX9_number 82 = .ok (.istore 9, 2) := by decide +kernel
theorem dX9_number_84 : decode cX9_number 84 = .ok (.iload 9, 2) := by decide +kernel
theorem dX9_number_86 : decode cX9_number 86 = .ok (.ifCond .le 15, 3) := by decide +kernel
theorem dX9_number_89 : decode cX9_number 89 = .ok (.iload 5, 2) := by decide +kernel
theorem dX9_number_91 : decode cX9_number 91 = .ok (.ifCond .ne 10, 3) := by decide +kernel
theorem dX9_number_94 : decode cX9_number 94 = .ok (.iload 9, 2) := by decide +kernel
theorem dX9_number_96 : decode cX9_number 96 = .ok (.istore 5, 2) := by decide +kernel
theorem dX9_number_98 : decode cX9_number 98 = .ok (.goto 31, 3) := by decide +kernel
theorem dX9_number_101 : decode cX9_number 101 = .ok (.iload 8, 2) := by decide +kernel
theorem dX9_number_103 : decode cX9_number 103 = .ok (.bipush 101, 2) := by decide +kernel
theorem dX9_number_105 : decode cX9_number 105 = .ok (.if_icmp .eq 10, 3) := by decide +kernel
theorem dX9_number_108 : decode cX9_number 108 = .ok (.iload 8, 2) := by decide +kernel
theorem dX9_number_110 : decode cX9_number 110 = .ok (.bipush 105, 2) := by decide +kernel
theorem dX9_number_112 : decode cX9_number 112 = .ok (.if_icmp .ne 15, 3) := by decide +kernel
theorem dX9_number_115 : decode cX9_number 115 = .ok (.iload 6, 2) := by decide +kernel
theorem dX9_number_117 : decode cX9_number 117 = .ok (.ifCond .ne 10, 3) := by decide +kernel
theorem dX9_number_120 : decode cX9_number 120 = .ok (.iload 8, 2) := by decide +kernel
theorem dX9_number_122 : decode cX9_number 122 = .ok (.istore 6, 2) := by decide +kernel
theorem dX9_number_124 : decode cX9_number 124 = .ok (.goto 5, 3) := by decide +kernel
theorem dX9_number_127 : decode cX9_number 127 = .ok (.aconst_null, 1) := by decide +kernel
theorem dX9_number_128 : decode cX9_number 128 = .ok (.areturn, 1) := by decide +kernel
theorem dX9_number_129 : decode cX9_number 129 = .ok (.iinc 7 2, 3) := by decide +kernel
theorem dX9_number_132 : decode cX9_number 132 = .ok (.goto (-123), 3) := by decide +kernel
theorem dX9_number_135 : decode cX9_number 135 = .ok (.iload 7, 2) := by decide +kernel
theorem dX9_number_137 : decode cX9_number 137 = .ok (.iload_n 3, 1) := by decide +kernel
theorem dX9_number_138 : decode cX9_number 138 = .ok (.if_icmp .ge 25, 3) := by decide +kernel
theorem dX9_number_141 : decode cX9_number 141 = .ok (.aload_n 1, 1) := by decide +kernel
theorem dX9_number_142 : decode cX9_number 142 = .ok (.iload 7, 2) := by decide +kernel
theorem dX9_number_144 : decode cX9_number 144 = .ok (.iaload, 1) := by decide +kernel
theorem dX9_number_145 : decode cX9_number 145 = .ok (.bipush 43, 2) := by decide +kernel
theorem dX9_number_147 : decode cX9_number 147 = .ok (.if_icmp .eq 12, 3) := by decide +kernel
theorem dX9_number_150 : decode cX9_number 150 = .ok (.aload_n 1, 1) := by decide +kernel
theorem dX9_number_151 : decode cX9_number 151 = .ok (.iload 7, 2) := by decide +kernel
theorem dX9_number_153 : decode cX9_number 153 = .ok (.iaload, 1) := by decide +kernel
theorem dX9_number_154 : decode cX9_number 154 = .ok (.bipush 45, 2) := by decide +kernel
theorem dX9_number_156 : decode cX9_number 156 = .ok (.if_icmp .ne 7, 3) := by decide +kernel
theorem dX9_number_159 : decode cX9_number 159 = .ok (.iconst 1, 1) := by decide +kernel
theorem dX9_number_160 : decode cX9_number 160 = .ok (.goto 4, 3) := by decide +kernel
theorem dX9_number_163 : decode cX9_number 163 = .ok (.iconst 0, 1) := by decide +kernel
theorem dX9_number_164 : decode cX9_number 164 = .ok (.istore 8, 2) := by decide +kernel
theorem dX9_number_166 : decode cX9_number 166 = .ok (.iload 8, 2) := by decide +kernel
theorem dX9_number_168 : decode cX9_number 168 = .ok (.ifCond .eq 16, 3) := by decide +kernel
theorem dX9_number_171 : decode cX9_number 171 = .ok (.aload_n 1, 1) := by decide +kernel
theorem dX9_number_172 : decode cX9_number 172 = .ok (.iload 7, 2) := by decide +kernel
theorem dX9_number_174 : decode cX9_number 174 = .ok (.iaload, 1) := by decide +kernel
theorem dX9_number_175 : decode cX9_number 175 = .ok (.bipush 45, 2) := by decide +kernel
theorem dX9_number_177 : decode cX9_number 177 = .ok (.if_icmp .ne 7, 3) := by decide +kernel
theorem dX9_number_180 : decode cX9_number 180 = .ok (.iconst 1, 1) := by decide +kernel
theorem dX9_number_181 : decode cX9_number 181 = .ok (.goto 4, 3) := by decide +kernel
theorem dX9_number_184 : decode cX9_number 184 = .ok (.iconst 0, 1) := by decide +kernel
theorem dX9_number_185 : decode cX9_number 185 = .ok (.istore 9, 2) := by decide +kernel
theorem dX9_number_187 : decode cX9_number 187 = .ok (.iload 8, 2) := by decide +kernel
theorem dX9_number_189 : decode cX9_number 189 = .ok (.ifCond .eq 6, 3) := by decide +kernel
theorem dX9_number_192 : decode cX9_number 192 = .ok (.iinc 7 1, 3) := by decide +kernel
theorem dX9_number_195 : decode cX9_number 195 = .ok (.iload 8, 2) := by decide +kernel
theorem dX9_number_197 : decode cX9_number 197 = .ok (.ifCond .eq 170, 3) := by decide +kernel
theorem dX9_number_200 : decode cX9_number 200 = .ok (.iload_n 3, 1) := by decide +kernel
theorem dX9_number_201 : decode cX9_number 201 = .ok (.iload 7, 2) := by decide +kernel
theorem dX9_number_203 : decode cX9_number 203 = .ok (.isub, 1) := by decide +kernel
theorem dX9_number_204 : decode cX9_number 204 = .ok (.iconst 5, 1) := by decide +kernel
theorem dX9_number_205 : decode cX9_number 205 = .ok (.if_icmp .ne 162, 3) := by decide +kernel
theorem dX9_number_208 : decode cX9_number 208 = .ok (.aload_n 1, 1) := by decide +kernel
theorem dX9_number_209 : decode cX9_number 209 = .ok (.iload 7, 2) := by decide +kernel
theorem dX9_number_211 : decode cX9_number 211 = .ok (.iconst 3, 1) := by decide +kernel
theorem dX9_number_212 : decode cX9_number 212 = .ok (.iadd, 1) := by decide +kernel
theorem dX9_number_213 : decode cX9_number 213 = .ok (.iaload, 1) := by decide +kernel
theorem dX9_number_214 : decode cX9_number 214 = .ok (.bipush 46, 2) := by decide +kernel
theorem dX9_number_216 : decode cX9_number 216 = .ok (.if_icmp .ne 151, 3) := by decide +kernel
theorem dX9_number_219 : decode cX9_number 219 = .ok (.aload_n 1, 1) := by decide +kernel
theorem dX9_number_220 : decode cX9_number 220 = .ok (.iload 7, 2) := by decide +kernel
theorem dX9_number_222 : decode cX9_number 222 = .ok (.iconst 4, 1) := by decide +kernel
theorem dX9_number_223 : decode cX9_number 223 = .ok (.iadd, 1) := by decide +kernel
theorem dX9_number_224 : decode cX9_number 224 = .ok (.iaload, 1) := by decide +kernel
theorem dX9_number_225 : decode cX9_number 225 = .ok (.bipush 48, 2) := by decide +kernel
theorem dX9_number_227 : decode cX9_number 227 = .ok (.if_icmp .ne 140, 3) := by decide +kernel
theorem dX9_number_230 : decode cX9_number 230 = .ok (.aload_n 1, 1) := by decide +kernel
theorem dX9_number_231 : decode cX9_number 231 = .ok (.iload 7, 2) := by decide +kernel
theorem dX9_number_233 : decode cX9_number 233 = .ok (.iaload, 1) := by decide +kernel
theorem dX9_number_234 : decode cX9_number 234 = .ok (.bipush 105, 2) := by decide +kernel
theorem dX9_number_236 : decode cX9_number 236 = .ok (.if_icmp .ne 29, 3) := by decide +kernel
theorem dX9_number_239 : decode cX9_number 239 = .ok (.aload_n 1, 1) := by decide +kernel
theorem dX9_number_240 : decode cX9_number 240 = .ok (.iload 7, 2) := by decide +kernel
theorem dX9_number_242 : decode cX9_number 242 = .ok (.iconst 1, 1) := by decide +kernel
theorem dX9_number_243 : decode cX9_number 243 = .ok (.iadd, 1) := by decide +kernel
theorem dX9_number_244 : decode cX9_number 244 = .ok (.iaload, 1) := by decide +kernel
theorem dX9_number_245 : decode cX9_number 245 = .ok (.bipush 110, 2) := by decide +kernel
theorem dX9_number_247 : decode cX9_number 247 = .ok (.if_icmp .ne 18, 3) := by decide +kernel
theorem dX9_number_250 : decode cX9_number 250 = .ok (.aload_n 1, 1) := by decide +kernel
theorem dX9_number_251 : decode cX9_number 251 = .ok (.iload 7, 2) := by decide +kernel
theorem dX9_number_253 : decode cX9_number 253 = .ok (.iconst 2, 1) := by decide +kernel
theorem dX9_number_254 : decode cX9_number 254 = .ok (.iadd, 1) := by decide +kernel
theorem dX9_number_255 : decode cX9_number 255 = .ok (.iaload, 1) := by decide +kernel
theorem dX9_number_256 : decode cX9_number 256 = .ok (.bipush 102, 2) := by decide +kernel
theorem dX9_number_258 : decode cX9_number 258 = .ok (.if_icmp .ne 7, 3) := by decide +kernel
theorem dX9_number_261 : decode cX9_number 261 = .ok (.iconst 1, 1) := by decide +kernel
theorem dX9_number_262 : decode cX9_number 262 = .ok (.goto 4, 3) := by decide +kernel
theorem dX9_number_265 : decode cX9_number 265 = .ok (.iconst 0, 1) := by decide +kernel
theorem dX9_number_266 : decode cX9_number 266 = .ok (.istore 10, 2) := by decide +kernel
theorem dX9_number_268 : decode cX9_number 268 = .ok (.aload_n 1, 1) := by decide +kernel
theorem dX9_number_269 : decode cX9_number 269 = .ok (.iload 7, 2) := by decide +kernel
theorem dX9_number_271 : decode cX9_number 271 = .ok (.iaload, 1) := by decide +kernel
theorem dX9_number_272 : decode cX9_number 272 = .ok (.bipush 110, 2) := by decide +kernel
theorem dX9_number_274 : decode cX9_number 274 = .ok (.if_icmp .ne 29, 3) := by decide +kernel
theorem dX9_number_277 : decode cX9_number 277 = .ok (.aload_n 1, 1) := by decide +kernel
theorem dX9_number_278 : decode cX9_number 278 = .ok (.iload 7, 2) := by decide +kernel
theorem dX9_number_280 : decode cX9_number 280 = .ok (.iconst 1, 1) := by decide +kernel
theorem dX9_number_281 : decode cX9_number 281 = .ok (.iadd, 1) := by decide +kernel
theorem dX9_number_282 : decode cX9_number 282 = .ok (.iaload, 1) := by decide +kernel
theorem dX9_number_283 : decode cX9_number 283 = .ok (.bipush 97, 2) := by decide +kernel
theorem dX9_number_285 : decode cX9_number 285 = .ok (.if_icmp .ne 18, 3) := by decide +kernel
theorem dX9_number_288 : decode cX9_number 288 = .ok (.aload_n 1, 1) := by decide +kernel
theorem dX9_number_289 : decode cX9_number 289 = .ok (.iload 7, 2) := by decide +kernel
theorem dX9_number_291 : decode cX9_number 291 = .ok (.iconst 2, 1) := by decide +kernel
theorem dX9_number_292 : decode cX9_number 292 = .ok (.iadd, 1) := by decide +kernel
theorem dX9_number_293 : decode cX9_number 293 = .ok (.iaload, 1) := by decide +kernel
theorem dX9_number_294 : decode cX9_number 294 = .ok (.bipush 110, 2) := by decide +kernel
theorem dX9_number_296 : decode cX9_number 296 = .ok (.if_icmp .ne 7, 3) := by decide +kernel
theorem dX9_number_299 : decode cX9_number 299 = .ok (.iconst 1, 1) := by decide +kernel
theorem dX9_number_300 : decode cX9_number 300 = .ok (.goto 4, 3) := by decide +kernel
theorem dX9_number_303 : decode cX9_number 303 = .ok (.iconst 0, 1) := by decide +kernel
theorem dX9_number_304 : decode cX9_number 304 = .ok (.istore 11, 2) := by decide +kernel
theorem dX9_number_306 : decode cX9_number 306 = .ok (.iload 10, 2) := by decide +kernel
theorem dX9_number_308 : decode cX9_number 308 = .ok (.ifCond .ne 8, 3) := by decide +kernel
theorem dX9_number_311 : decode cX9_number 311 = .ok (.iload 11, 2) := by decide +kernel
theorem dX9_number_313 : decode cX9_number 313 = .ok (.ifCond .eq 54, 3) := by decide +kernel
theorem dX9_number_316 : decode cX9_number 316 = .ok (.iload 6, 2) := by decide +kernel
theorem dX9_number_318 : decode cX9_number 318 = .ok (.bipush 101, 2) := by decide +kernel
theorem dX9_number_320 : decode cX9_number 320 = .ok (.if_icmp .ne 7, 3) := by decide +kernel
theorem dX9_number_323 : decode cX9_number 323 = .ok (.aconst_null, 1) := by decide +kernel
theorem dX9_number_324 : decode cX9_number 324 = .ok (.goto 42, 3) := by decide +kernel
theorem dX9_number_327 : decode cX9_number 327 = .ok (.iload 11, 2) := by decide +kernel
theorem dX9_number_329 : decode cX9_number 329 = .ok (.ifCond .eq 15, 3) := by decide +kernel
theorem dX9_number_332 : decode cX9_number 332 = .ok (.new 201, 3) := by decide +kernel
theorem dX9_number_335 : decode cX9_number 335 = .ok (.dup, 1) := by decide +kernel
theorem dX9_number_336 : decode cX9_number 336 = .ok (.dconst 0, 1) := by decide +kernel
theorem dX9_number_337 : decode cX9_number 337 = .ok (.iconst 1, 1) := by decide +kernel
theorem dX9_number_338 : decode cX9_number 338 = .ok (.invokespecial 315, 3) := by decide +kernel
theorem dX9_number_341 : decode cX9_number 341 = .ok (.goto 25, 3) := by decide +kernel
theorem dX9_number_344 : decode cX9_number 344 = .ok (.new 201, 3) := by decide +kernel
theorem dX9_number_347 : decode cX9_number 347 = .ok (.dup, 1) := by decide +kernel
theorem dX9_number_348 : decode cX9_number 348 = .ok (.iload 9, 2) := by decide +kernel
theorem dX9_number_350 : decode cX9_number 350 = .ok (.ifCond .eq 9, 3) := by decide +kernel
theorem dX9_number_353 : decode cX9_number 353 = .ok (.ldc2_w 318, 3) := by decide +kernel
theorem dX9_number_356 : decode cX9_number 356 = .ok (.goto 6, 3) := by decide +kernel
theorem dX9_number_359 : decode cX9_number 359 = .ok (.ldc2_w 117, 3) := by decide +kernel
theorem dX9_number_362 : decode cX9_number 362 = .ok (.iconst 0, 1) := by decide +kernel
theorem dX9_number_363 : decode cX9_number 363 = .ok (.invokespecial 315, 3) := by decide +kernel
theorem dX9_number_366 : decode cX9_number 366 = .ok (.areturn, 1) := by decide +kernel
theorem dX9_number_367 : decode cX9_number 367 = .ok (.aload_n 0, 1) := by decide +kernel
theorem dX9_number_368 : decode cX9_number 368 = .ok (.aload_n 1, 1) := by decide +kernel
theorem dX9_number_369 : decode cX9_number 369 = .ok (.iload 7, 2) := by decide +kernel
theorem dX9_number_371 : decode cX9_number 371 = .ok (.iload_n 3, 1) := by decide +kernel
theorem dX9_number_372 : decode cX9_number 372 = .ok (.iload 5, 2) := by decide +kernel
theorem dX9_number_374 : decode cX9_number 374 = .ok (.ifCond .ne 8, 3) := by decide +kernel
theorem dX9_number_377 : decode cX9_number 377 = .ok (.iload 4, 2) := by decide +kernel
theorem dX9_number_379 : decode cX9_number 379 = .ok (.goto 5, 3) := by decide +kernel
theorem dX9_number_382 : decode cX9_number 382 = .ok (.iload 5, 2) := by decide +kernel
theorem dX9_number_384 : decode cX9_number 384 = .ok (.iload 6, 2) := by decide +kernel
theorem dX9_number_386 : decode cX9_number 386 = .ok (.iload 9, 2) := by decide +kernel
theorem dX9_number_388 : decode cX9_number 388 = .ok (.invokevirtual 320, 3) := by decide +kernel
theorem dX9_number_391 : decode cX9_number 391 = .ok (.areturn, 1) := by decide +kernel
theorem dX9_unsigned_0 : decode cX9_unsigned 0 = .ok (.iload_n 2, 1) := by decide +kernel
theorem dX9_unsigned_1 : decode cX9_unsigned 1 = .ok (.istore 7, 2) := by decide +kernel
theorem dX9_unsigned_3 : decode cX9_unsigned 3 = .ok (.iload 7, 2) := by decide +kernel
theorem dX9_unsigned_5 : decode cX9_unsigned 5 = .ok (.iload_n 3, 1) := by decide +kernel
theorem dX9_unsigned_6 : decode cX9_unsigned 6 = .ok (.if_icmp .ge 18, 3) := by decide +kernel
theorem dX9_unsigned_9 : decode cX9_unsigned 9 = .ok (.aload_n 1, 1) := by decide +kernel
theorem dX9_unsigned_10 : decode cX9_unsigned 10 = .ok (.iload 7, 2) := by decide +kernel
theorem dX9_unsigned_12 : decode cX9_unsigned 12 = .ok (.iaload, 1) := by decide +kernel
theorem dX9_unsigned_13 : decode cX9_unsigned 13 = .ok (.bipush 47, 2) := by decide +kernel
theorem dX9_unsigned_15 : decode cX9_unsigned 15 = .ok (.if_icmp .eq 9, 3) := by decide +kernel
theorem dX9_unsigned_18 : decode cX9_unsigned 18 = .ok (.iinc 7 1, 3) := by decide +kernel
theorem dX9_unsigned_21 : decode cX9_unsigned 21 = .ok (.goto (-18), 3) := by decide +kernel
theorem dX9_unsigned_24 : decode cX9_unsigned 24 = .ok (.iload 7, 2) := by decide +kernel
theorem dX9_unsigned_26 : decode cX9_unsigned 26 = .ok (.iload_n 3, 1) := by decide +kernel
theorem dX9_unsigned_27 : decode cX9_unsigned 27 = .ok (.if_icmp .ge 7, 3) := by decide +kernel
theorem dX9_unsigned_30 : decode cX9_unsigned 30 = .ok (.iconst 1, 1) := by decide +kernel
theorem dX9_unsigned_31 : decode cX9_unsigned 31 = .ok (.goto 4, 3) := by decide +kernel
theorem dX9_unsigned_34 : decode cX9_unsigned 34 = .ok (.iconst 0, 1) := by decide +kernel
theorem dX9_unsigned_35 : decode cX9_unsigned 35 = .ok (.istore 8, 2) := by decide +kernel
theorem dX9_unsigned_37 : decode cX9_unsigned 37 = .ok (.aload_n 1, 1) := by decide +kernel
theorem dX9_unsigned_38 : decode cX9_unsigned 38 = .ok (.iload_n 2, 1) := by decide +kernel
theorem dX9_unsigned_39 : decode cX9_unsigned 39 = .ok (.iload 7, 2) := by decide +kernel
theorem dX9_unsigned_41 : decode cX9_unsigned 41 = .ok (.iload 4, 2) := by decide +kernel
theorem dX9_unsigned_43 : decode cX9_unsigned 43 = .ok (.invokestatic 324, 3) := by decide +kernel
theorem dX9_unsigned_46 : decode cX9_unsigned 46 = .ok (.ifCond .ne 31, 3) := by decide +kernel
theorem dX9_unsigned_49 : decode cX9_unsigned 49 = .ok (.iload 8, 2) := by decide +kernel
theorem dX9_unsigned_51 : decode cX9_unsigned 51 = .ok (.ifCond .ne 10, 3) := by decide +kernel
theorem dX9_unsigned_54 : decode cX9_unsigned 54 = .ok (.iload 4, 2) := by decide +kernel
theorem dX9_unsigned_56 : decode cX9_unsigned 56 = .ok (.bipush 10, 2) := by decide +kernel
theorem dX9_unsigned_58 : decode cX9_unsigned 58 = .ok (.if_icmp .eq 7, 3) := by decide +kernel
theorem dX9_unsigned_61 : decode cX9_unsigned 61 = .ok (.aconst_null, 1) := by decide +kernel
theorem dX9_unsigned_62 : decode cX9_unsigned 62 = .ok (.goto 14, 3) := by decide +kernel
theorem dX9_unsigned_65 : decode cX9_unsigned 65 = .ok (.aload_n 0, 1) := by decide +kernel
theorem dX9_unsigned_66 : decode cX9_unsigned 66 = .ok (.aload_n 1, 1) := by decide +kernel
theorem dX9_unsigned_67 : decode cX9_unsigned 67 = .ok (.iload_n 2, 1) := by decide +kernel
theorem dX9_unsigned_68 : decode cX9_unsigned 68 = .ok (.iload_n 3, 1) := by decide +kernel
theorem dX9_unsigned_69 : decode cX9_unsigned 69 = .ok (.iload 5, 2) := by decide +kernel
theorem dX9_unsigned_71 : decode cX9_unsigned 71 = .ok (.iload 6, 2) := by decide +kernel
theorem dX9_unsigned_73 : decode cX9_unsigned 73 = .ok (.invokevirtual 328, 3) := by decide +kernel
theorem dX9_unsigned_76 : decode cX9_unsigned 76 = .ok (.areturn, 1) := by decide +kernel
theorem dX9_unsigned_77 : decode cX9_unsigned 77 = .ok (.iload 8, 2) := by decide +kernel
theorem dX9_unsigned_79 : decode cX9_unsigned 79 = .ok (.ifCond .eq 19, 3) := by decide +kernel
theorem dX9_unsigned_82 : decode cX9_unsigned 82 = .ok (.aload_n 1, 1) := by decide +kernel
theorem dX9_unsigned_83 : decode cX9_unsigned 83 = .ok (.iload 7, 2) := by decide +kernel
theorem dX9_unsigned_85 : decode cX9_unsigned 85 = .ok (.iconst 1, 1) := by decide +kernel
theorem dX9_unsigned_86 : decode cX9_unsigned 86 = .ok (.iadd, 1) := by decide +kernel
theorem dX9_unsigned_87 : decode cX9_unsigned 87 = .ok (.iload_n 3, 1) := by decide +kernel
theorem dX9_unsigned_88 : decode cX9_unsigned 88 = .ok (.iload 4, 2) := by decide +kernel
theorem dX9_unsigned_90 : decode cX9_unsigned 90 = .ok (.invokestatic 324, 3) := by decide +kernel
theorem dX9_unsigned_93 : decode cX9_unsigned 93 = .ok (.ifCond .ne 5, 3) := by decide +kernel
theorem dX9_unsigned_96 : decode cX9_unsigned 96 = .ok (.aconst_null, 1) := by decide +kernel
theorem dX9_unsigned_97 : decode cX9_unsigned 97 = .ok (.areturn, 1) := by decide +kernel
theorem dX9_unsigned_98 : decode cX9_unsigned 98 = .ok (.aload_n 0, 1) := by decide +kernel
theorem dX9_unsigned_99 : decode cX9_unsigned 99 = .ok (.aload_n 1, 1) := by decide +kernel
theorem dX9_unsigned_100 : decode cX9_unsigned 100 = .ok (.iload_n 2, 1) := by decide +kernel
theorem dX9_unsigned_101 : decode cX9_unsigned 101 = .ok (.iload 7, 2) := by decide +kernel
theorem dX9_unsigned_103 : decode cX9_unsigned 103 = .ok (.iload 4, 2) := by decide +kernel
theorem dX9_unsigned_105 : decode cX9_unsigned 105 = .ok (.invokevirtual 332, 3) := by decide +kernel
theorem dX9_unsigned_108 : decode cX9_unsigned 108 = .ok (.astore 9, 2) := by decide +kernel
theorem dX9_unsigned_110 : decode cX9_unsigned 110 = .ok (.iload 8, 2) := by decide +kernel
theorem dX9_unsigned_112 : decode cX9_unsigned 112 = .ok (.ifCond .eq 18, 3) := by decide +kernel
theorem dX9_unsigned_115 : decode cX9_unsigned 115 = .ok (.aload_n 0, 1) := by decide +kernel
theorem dX9_unsigned_116 : decode cX9_unsigned 116 = .ok (.aload_n 1, 1) := by decide +kernel
theorem dX9_unsigned_117 : decode cX9_unsigned 117 = .ok (.iload 7, 2) := by decide +kernel
theorem dX9_unsigned_119 : decode cX9_unsigned 119 = .ok (.iconst 1, 1) := by decide +kernel
theorem dX9_unsigned_120 : decode cX9_unsigned 120 = .ok (.iadd, 1) := by decide +kernel
theorem dX9_unsigned_121 : decode cX9_unsigned 121 = .ok (.iload_n 3, 1) := by decide +kernel
theorem dX9_unsigned_122 : decode cX9_unsigned 122 = .ok (.iload 4, 2) := by decide +kernel
theorem dX9_unsigned_124 : decode cX9_unsigned 124 = .ok (.invokevirtual 332, 3) := by decide +kernel
theorem dX9_unsigned_127 : decode cX9_unsigned 127 = .ok (.goto 7, 3) := by decide +kernel
theorem dX9_unsigned_130 : decode cX9_unsigned 130 = .ok (.lconst 1, 1) := by decide +kernel
theorem dX9_unsigned_131 : decode cX9_unsigned 131 = .ok (.invokestatic 163, 3) := by decide +kernel
theorem dX9_unsigned_134 : decode cX9_unsigned 134 = .ok (.astore 10, 2) := by decide +kernel
theorem dX9_unsigned_136 : decode cX9_unsigned 136 = .ok (.aload 10, 2) := by decide +kernel
theorem dX9_unsigned_138 : decode cX9_unsigned 138 = .ok (.invokevirtual 100, 3) := by decide +kernel
theorem dX9_unsigned_141 : decode cX9_unsigned 141 = .ok (.ifCond .eq 5, 3) := by decide +kernel
theorem dX9_unsigned_144 : decode cX9_unsigned 144 = .ok (.aconst_null, 1) := by decide +kernel
theorem dX9_unsigned_145 : decode cX9_unsigned 145 = .ok (.areturn, 1) := by decide +kernel
theorem dX9_unsigned_146 : decode cX9_unsigned 146 = .ok (.iload 5, 2) := by decide +kernel
theorem dX9_unsigned_148 : decode cX9_unsigned 148 = .ok (.bipush 105, 2) := by decide +kernel
theorem dX9_unsigned_150 : decode cX9_unsigned 150 = .ok (.if_icmp .ne 30, 3) := by decide +kernel
theorem dX9_unsigned_153 : decode cX9_unsigned 153 = .ok (.aload_n 0, 1) := by decide +kernel
theorem dX9_unsigned_154 : decode cX9_unsigned 154 = .ok (.aload 9, 2) := by decide +kernel
theorem dX9_unsigned_156 : decode cX9_unsigned 156 = .ok (.aload 10, 2) := by decide +kernel
theorem dX9_unsigned_158 : decode cX9_unsigned 158 = .ok (.invokevirtual 212, 3) := by decide +kernel
theorem dX9_unsigned_161 : decode cX9_unsigned 161 = .ok (.dstore 11, 2) := by decide +kernel
theorem dX9_unsigned_163 : decode cX9_unsigned 163 = .ok (.iload 6, 2) := by decide +kernel
theorem dX9_unsigned_165 : decode cX9_unsigned 165 = .ok (.ifCond .eq 9, 3) := by decide +kernel
theorem dX9_unsigned_168 : decode cX9_unsigned 168 = .ok (.dload 11, 2) := by decide +kernel
theorem dX9_unsigned_170 : decode cX9_unsigned 170 = .ok (.dneg, 1) := by decide +kernel
theorem dX9_unsigned_171 : decode cX9_unsigned 171 = .ok (.goto 5, 3) := by decide +kernel
theorem dX9_unsigned_174 : decode cX9_unsigned 174 = .ok (.dload 11, 2) := by decide +kernel
theorem dX9_unsigned_176 : decode cX9_unsigned 176 = .ok (.invokestatic 238, 3) := by decide +kernel
theorem dX9_unsigned_179 : decode cX9_unsigned 179 = .ok (.areturn, 1) := by decide +kernel
theorem dX9_unsigned_180 : decode cX9_unsigned 180 = .ok (.aload_n 0, 1) := by decide +kernel
theorem dX9_unsigned_181 : decode cX9_unsigned 181 = .ok (.aload 9, 2) := by decide +kernel
theorem dX9_unsigned_183 : decode cX9_unsigned 183 = .ok (.getfield 104, 3) := by decide +kernel
theorem dX9_unsigned_186 : decode cX9_unsigned 186 = .ok (.aload 9, 2) := by decide +kernel
theorem dX9_unsigned_188 : decode cX9_unsigned 188 = .ok (.getfield 104, 3) := by decide +kernel
theorem dX9_unsigned_191 : decode cX9_unsigned 191 = .ok (.arraylength, 1) := by decide +kernel
theorem dX9_unsigned_192 : decode cX9_unsigned 192 = .ok (.aload 10, 2) := by decide +kernel
theorem dX9_unsigned_194 : decode cX9_unsigned 194 = .ok (.getfield 104, 3) := by decide +kernel
theorem dX9_unsigned_197 : decode cX9_unsigned 197 = .ok (.aload 10, 2) := by decide +kernel
theorem dX9_unsigned_199 : decode cX9_unsigned 199 = .ok (.getfield 104, 3) := by decide +kernel
theorem dX9_unsigned_202 : decode cX9_unsigned 202 = .ok (.arraylength, 1) := by decide +kernel
theorem dX9_unsigned_203 : decode cX9_unsigned 203 = .ok (.invokevirtual 335, 3) := by decide +kernel
theorem dX9_unsigned_206 : decode cX9_unsigned 206 = .ok (.astore 11, 2) := by decide +kernel
theorem dX9_unsigned_208 : decode cX9_unsigned 208 = .ok (.aload 11, 2) := by decide +kernel
theorem dX9_unsigned_210 : decode cX9_unsigned 210 = .ok (.ifnull 16, 3) := by decide +kernel
theorem dX9_unsigned_213 : decode cX9_unsigned 213 = .ok (.iload 6, 2) := by decide +kernel
theorem dX9_unsigned_215 : decode cX9_unsigned 215 = .ok (.ifCond .eq 11, 3) := by decide +kernel
theorem dX9_unsigned_218 : decode cX9_unsigned 218 = .ok (.aload 11, 2) := by decide +kernel
theorem dX9_unsigned_220 : decode cX9_unsigned 220 = .ok (.invokestatic 339, 3) := by decide +kernel
theorem dX9_unsigned_223 : decode cX9_unsigned 223 = .ok (.goto 5, 3) := by decide +kernel
theorem dX9_unsigned_226 : decode cX9_unsigned 226 = .ok (.aload 11, 2) := by decide +kernel
theorem dX9_unsigned_228 : decode cX9_unsigned 228 = .ok (.areturn, 1) := by decide +kernel
theorem dX9_decimal_0 : decode cX9_decimal 0 = .ok (.iload_n 2, 1) := by decide +kernel
theorem dX9_decimal_1 : decode cX9_decimal 1 = .ok (.istore 6, 2) := by decide +kernel
theorem dX9_decimal_3 : decode cX9_decimal 3 = .ok (.iconst (-1), 1) := by decide +kernel
theorem dX9_decimal_4 : decode cX9_decimal 4 = .ok (.istore 7, 2) := by decide +kernel
theorem dX9_decimal_6 : decode cX9_decimal 6 = .ok (.iconst 0, 1) := by decide +kernel
theorem dX9_decimal_7 : decode cX9_decimal 7 = .ok (.istore 8, 2) := by decide +kernel
theorem dX9_decimal_9 : decode cX9_decimal 9 = .ok (.iload 6, 2) := by decide +kernel
theorem dX9_decimal_11 : decode cX9_decimal 11 = .ok (.iload_n 3, 1) := by decide +kernel
theorem dX9_decimal_12 : decode cX9_decimal 12 = .ok (.if_icmp .ge 65, 3) := by decide +kernel
theorem dX9_decimal_15 : decode cX9_decimal 15 = .ok (.aload_n 1, 1) := by decide +kernel
theorem dX9_decimal_16 : decode cX9_decimal 16 = .ok (.iload 6, 2) := by decide +kernel
theorem dX9_decimal_18 : decode cX9_decimal 18 = .ok (.iaload, 1) := by decide +kernel
theorem dX9_decimal_19 : decode cX9_decimal 19 = .ok (.bipush 101, 2) := by decide +kernel
theorem dX9_decimal_21 : decode cX9_decimal 21 = .ok (.if_icmp .eq 56, 3) := by decide +kernel
theorem dX9_decimal_24 : decode cX9_decimal 24 = .ok (.aload_n 1, 1) := by decide +kernel
theorem dX9_decimal_25 : decode cX9_decimal 25 = .ok (.iload 6, 2) := by decide +kernel
theorem dX9_decimal_27 : decode cX9_decimal 27 = .ok (.iaload, 1) := by decide +kernel
theorem dX9_decimal_28 : decode cX9_decimal 28 = .ok (.bipush 69, 2) := by decide +kernel
theorem dX9_decimal_30 : decode cX9_decimal 30 = .ok (.if_icmp .eq 47, 3) := by decide +kernel
theorem dX9_decimal_33 : decode cX9_decimal 33 = .ok (.aload_n 1, 1) := by decide +kernel
theorem dX9_decimal_34 : decode cX9_decimal 34 = .ok (.iload 6, 2) := by decide +kernel
theorem dX9_decimal_36 : decode cX9_decimal 36 = .ok (.iaload, 1) := by decide +kernel
theorem dX9_decimal_37 : decode cX9_decimal 37 = .ok (.bipush 46, 2) := by decide +kernel
theorem dX9_decimal_39 : decode cX9_decimal 39 = .ok (.if_icmp .ne 15, 3) := by decide +kernel
theorem dX9_decimal_42 : decode cX9_decimal 42 = .ok (.iload 7, 2) := by decide +kernel
theorem dX9_decimal_44 : decode cX9_decimal 44 = .ok (.ifCond .ge 10, 3) := by decide +kernel
theorem dX9_decimal_47 : decode cX9_decimal 47 = .ok (.iload 6, 2) := by decide +kernel
theorem dX9_decimal_49 : decode cX9_decimal 49 = .ok (.istore 7, 2) := by decide +kernel
theorem dX9_decimal_51 : decode cX9_decimal 51 = .ok (.goto 20, 3) := by decide +kernel
theorem dX9_decimal_54 : decode cX9_decimal 54 = .ok (.aload_n 1, 1) := by decide +kernel
theorem dX9_decimal_55 : decode cX9_decimal 55 = .ok (.iload 6, 2) := by decide +kernel
theorem dX9_decimal_57 : decode cX9_decimal 57 = .ok (.iaload, 1) := by decide +kernel
theorem dX9_decimal_58 : decode cX9_decimal 58 = .ok (.bipush 10, 2) := by decide +kernel
theorem dX9_decimal_60 : decode cX9_decimal 60 = .ok (.invokestatic 309, 3) := by decide +kernel
theorem dX9_decimal_63 : decode cX9_decimal 63 = .ok (.ifCond .ge 5, 3) := by decide +kernel
theorem dX9_decimal_66 : decode cX9_decimal 66 = .ok (.aconst_null, 1) := by decide +kernel
theorem dX9_decimal_67 : decode cX9_decimal 67 = .ok (.areturn, 1) := by decide +kernel
theorem dX9_decimal_68 : decode cX9_decimal 68 = .ok (.iinc 8 1, 3) := by decide +kernel
theorem dX9_decimal_71 : decode cX9_decimal 71 = .ok (.iinc 6 1, 3) := by decide +kernel
theorem dX9_decimal_74 : decode cX9_decimal 74 = .ok (.goto (-65), 3) := by decide +kernel
theorem dX9_decimal_77 : decode cX9_decimal 77 = .ok (.iload 8, 2) := by decide +kernel
theorem dX9_decimal_79 : decode cX9_decimal 79 = .ok (.ifCond .ne 5, 3) := by decide +kernel
theorem dX9_decimal_82 : decode cX9_decimal 82 = .ok (.aconst_null, 1) := by decide +kernel
theorem dX9_decimal_83 : decode cX9_decimal 83 = .ok (.areturn, 1) := by decide +kernel
theorem dX9_decimal_84 : decode cX9_decimal 84 = .ok (.iconst 0, 1) := by decide +kernel
theorem dX9_decimal_85 : decode cX9_decimal 85 = .ok (.istore 9, 2) := by decide +kernel
theorem dX9_decimal_87 : decode cX9_decimal 87 = .ok (.iload 6, 2) := by decide +kernel
theorem dX9_decimal_89 : decode cX9_decimal 89 = .ok (.iload_n 3, 1) := by decide +kernel
theorem dX9_decimal_90 : decode cX9_decimal 90 = .ok (.if_icmp .ge 132, 3) := by decide +kernel
theorem dX9_decimal_93 : decode cX9_decimal 93 = .ok (.iload 6, 2) := by decide +kernel
theorem dX9_decimal_95 : decode cX9_decimal 95 = .ok (.iconst 1, 1) := by decide +kernel
theorem dX9_decimal_96 : decode cX9_decimal 96 = .ok (.iadd, 1) := by decide +kernel
theorem dX9_decimal_97 : decode cX9_decimal 97 = .ok (.iload_n 3, 1) := by decide +kernel
theorem dX9_decimal_98 : decode cX9_decimal 98 = .ok (.if_icmp .ge 29, 3) := by decide +kernel
theorem dX9_decimal_101 : decode cX9_decimal 101 = .ok (.aload_n 1, 1) := by decide +kernel
theorem dX9_decimal_102 : decode cX9_decimal 102 = .ok (.iload 6, 2) := by decide +kernel
theorem dX9_decimal_104 : decode cX9_decimal 104 = .ok (.iconst 1, 1) := by decide +kernel
theorem dX9_decimal_105 : decode cX9_decimal 105 = .ok (.iadd, 1) := by decide +kernel
theorem dX9_decimal_106 : decode cX9_decimal 106 = .ok (.iaload, 1) := by decide +kernel
theorem dX9_decimal_107 : decode cX9_decimal 107 = .ok (.bipush 43, 2) := by decide +kernel
theorem dX9_decimal_109 : decode cX9_decimal 109 = .ok (.if_icmp .eq 14, 3) := by decide +kernel
theorem dX9_decimal_112 : decode cX9_decimal 112 = .ok (.aload_n 1, 1) := by decide +kernel
theorem dX9_decimal_113 : decode cX9_decimal 113 = .ok (.iload 6, 2) := by decide +kernel
theorem dX9_decimal_115 : decode cX9_decimal 115 = .ok (.iconst 1, 1) := by decide +kernel
theorem dX9_decimal_116 : decode cX9_decimal 116 = .ok (.iadd, 1) := by decide +kernel
theorem dX9_decimal_117 : decode cX9_decimal 117 = .ok (.iaload, 1) := by decide +kernel
theorem dX9_decimal_118 : decode cX9_decimal 118 = .ok (.bipush 45, 2) := by decide +kernel
theorem dX9_decimal_120 : decode cX9_decimal 120 = .ok (.if_icmp .ne 7, 3) := by decide +kernel
theorem dX9_decimal_123 : decode cX9_decimal 123 = .ok (.iconst 1, 1) := by decide +kernel
theorem dX9_decimal_124 : decode cX9_decimal 124 = .ok (.goto 4, 3) := by decide +kernel
theorem dX9_decimal_127 : decode cX9_decimal 127 = .ok (.iconst 0, 1) := by decide +kernel
theorem dX9_decimal_128 : decode cX9_decimal 128 = .ok (.istore 10, 2) := by decide +kernel
theorem dX9_decimal_130 : decode cX9_decimal 130 = .ok (.iload 10, 2) := by decide +kernel
theorem dX9_decimal_132 : decode cX9_decimal 132 = .ok (.ifCond .eq 10, 3) := by decide +kernel
theorem dX9_decimal_135 : decode cX9_decimal 135 = .ok (.iload 6, 2) := by decide +kernel
theorem dX9_decimal_137 : decode cX9_decimal 137 = .ok (.iconst 2, 1) := by decide +kernel
theorem dX9_decimal_138 : decode cX9_decimal 138 = .ok (.iadd, 1) := by decide +kernel
theorem dX9_decimal_139 : decode cX9_decimal 139 = .ok (.goto 7, 3) := by decide +kernel
theorem dX9_decimal_142 : decode cX9_decimal 142 = .ok (.iload 6, 2) := by decide +kernel
theorem dX9_decimal_144 : decode cX9_decimal 144 = .ok (.iconst 1, 1) := by decide +kernel
theorem dX9_decimal_145 : decode cX9_decimal 145 = .ok (.iadd, 1) := by decide +kernel
theorem dX9_decimal_146 : decode cX9_decimal 146 = .ok (.istore 11, 2) := by decide +kernel
theorem dX9_decimal_148 : decode cX9_decimal 148 = .ok (.aload_n 1, 1) := by decide +kernel
theorem dX9_decimal_149 : decode cX9_decimal 149 = .ok (.iload 11, 2) := by decide +kernel
theorem dX9_decimal_151 : decode cX9_decimal 151 = .ok (.iload_n 3, 1) := by decide +kernel
theorem dX9_decimal_152 : decode cX9_decimal 152 = .ok (.bipush 10, 2) := by decide +kernel
theorem dX9_decimal_154 : decode cX9_decimal 154 = .ok (.invokestatic 324, 3) := by decide +kernel
theorem dX9_decimal_157 : decode cX9_decimal 157 = .ok (.ifCond .eq 11, 3) := by decide +kernel
theorem dX9_decimal_160 : decode cX9_decimal 160 = .ok (.iload_n 3, 1) := by decide +kernel
theorem dX9_decimal_161 : decode cX9_decimal 161 = .ok (.iload 11, 2) := by decide +kernel
theorem dX9_decimal_163 : decode cX9_decimal 163 = .ok (.isub, 1) := by decide +kernel
theorem dX9_decimal_164 : decode cX9_decimal 164 = .ok (.iconst 4, 1) := by decide +kernel
theorem dX9_decimal_165 : decode cX9_decimal 165 = .ok (.if_icmp .le 5, 3) := by decide +kernel
theorem dX9_decimal_168 : decode cX9_decimal 168 = .ok (.aconst_null, 1) := by decide +kernel
theorem dX9_decimal_169 : decode cX9_decimal 169 = .ok (.areturn, 1) := by decide +kernel
theorem dX9_decimal_170 : decode cX9_decimal 170 = .ok (.iload 11, 2) := by decide +kernel
theorem dX9_decimal_172 : decode cX9_decimal 172 = .ok (.istore 12, 2) := by decide +kernel
theorem dX9_decimal_174 : decode cX9_decimal 174 = .ok (.iload 12, 2) := by decide +kernel
theorem dX9_decimal_176 : decode cX9_decimal 176 = .ok (.iload_n 3, 1) := by decide +kernel
theorem dX9_decimal_177 : decode cX9_decimal 177 = .ok (.if_icmp .ge 24, 3) := by decide +kernel
theorem dX9_decimal_180 : decode cX9_decimal 180 = .ok (.bipush 10, 2) := by decide +kernel
theorem dX9_decimal_182 : decode cX9_decimal 182 = .ok (.iload 9, 2) := by decide +kernel
theorem dX9_decimal_184 : decode cX9_decimal 184 = .ok (.imul, 1) := by decide +kernel
theorem dX9_decimal_185 : decode cX9_decimal 185 = .ok (.aload_n 1, 1) := by decide +kernel
theorem dX9_decimal_186 : decode cX9_decimal 186 = .ok (.iload 12, 2) := by decide +kernel
theorem dX9_decimal_188 : decode cX9_decimal 188 = .ok (.iaload, 1) := by decide +kernel
theorem dX9_decimal_189 : decode cX9_decimal 189 = .ok (.iadd, 1) := by decide +kernel
theorem dX9_decimal_190 : decode cX9_decimal 190 = .ok (.bipush 48, 2) := by decide +kernel
theorem dX9_decimal_192 : decode cX9_decimal 192 = .ok (.isub, 1) := by decide +kernel
theorem dX9_decimal_193 : decode cX9_decimal 193 = .ok (.istore 9, 2) := by decide +kernel
theorem dX9_decimal_195 : decode cX9_decimal 195 = .ok (.iinc 12 1, 3) := by decide +kernel
theorem dX9_decimal_198 : decode cX9_decimal 198 = .ok (.goto (-24), 3) := by decide +kernel
theorem dX9_decimal_201 : decode cX9_decimal 201 = .ok (.iload 10, 2) := by decide +kernel
theorem dX9_decimal_203 : decode cX9_decimal 203 = .ok (.ifCond .eq 19, 3) := by decide +kernel
theorem dX9_decimal_206 : decode cX9_decimal 206 = .ok (.aload_n 1, 1) := by decide +kernel
theorem dX9_decimal_207 : decode cX9_decimal 207 = .ok (.iload 6, 2) := by decide +kernel
theorem dX9_decimal_209 : decode cX9_decimal 209 = .ok (.iconst 1, 1) := by decide +kernel
theorem dX9_decimal_210 : decode cX9_decimal 210 = .ok (.iadd, 1) := by decide +kernel
theorem dX9_decimal_211 : decode cX9_decimal 211 = .ok (.iaload, 1) := by decide +kernel
theorem dX9_decimal_212 : decode cX9_decimal 212 = .ok (.bipush 45, 2) := by decide +kernel
theorem dX9_decimal_214 : decode cX9_decimal 214 = .ok (.if_icmp .ne 8, 3) := by decide +kernel
theorem dX9_decimal_217 : decode cX9_decimal 217 = .ok (.iload 9, 2) := by decide +kernel
theorem dX9_decimal_219 : decode cX9_decimal 219 = .ok (.ineg, 1) := by decide +kernel
theorem dX9_decimal_220 : decode cX9_decimal 220 = .ok (.istore 9, 2) := by decide +kernel
theorem dX9_decimal_222 : decode cX9_decimal 222 = .ok (.iload_n 2, 1) := by decide +kernel
theorem dX9_decimal_223 : decode cX9_decimal 223 = .ok (.istore 10, 2) := by decide +kernel
theorem dX9_decimal_225 : decode cX9_decimal 225 = .ok (.iload 10, 2) := by decide +kernel
theorem dX9_decimal_227 : decode cX9_decimal 227 = .ok (.iload 6, 2) := by decide +kernel
theorem dX9_decimal_229 : decode cX9_decimal 229 = .ok (.if_icmp .ge 27, 3) := by decide +kernel
theorem dX9_decimal_232 : decode cX9_decimal 232 = .ok (.aload_n 1, 1) := by decide +kernel
theorem dX9_decimal_233 : decode cX9_decimal 233 = .ok (.iload 10, 2) := by decide +kernel
theorem dX9_decimal_235 : decode cX9_decimal 235 = .ok (.iaload, 1) := by decide +kernel
theorem dX9_decimal_236 : decode cX9_decimal 236 = .ok (.bipush 48, 2) := by decide +kernel
theorem dX9_decimal_238 : decode cX9_decimal 238 = .ok (.if_icmp .eq 12, 3) := by decide +kernel
theorem dX9_decimal_241 : decode cX9_decimal 241 = .ok (.aload_n 1, 1) := by decide +kernel
theorem dX9_decimal_242 : decode cX9_decimal 242 = .ok (.iload 10, 2) := by decide +kernel
theorem dX9_decimal_244 : decode cX9_decimal 244 = .ok (.iaload, 1) := by decide +kernel
theorem dX9_decimal_245 : decode cX9_decimal 245 = .ok (.bipush 46, 2) := by decide +kernel
theorem dX9_decimal_247 : decode cX9_decimal 247 = .ok (.if_icmp .ne 9, 3) := by decide +kernel
theorem dX9_decimal_250 : decode cX9_decimal 250 = .ok (.iinc 10 1, 3) := by decide +kernel
theorem dX9_decimal_253 : decode cX9_decimal 253 = .ok (.goto (-28), 3) := by decide +kernel
theorem dX9_decimal_256 : decode cX9_decimal 256 = .ok (.iload 6, 2) := by decide +kernel
theorem dX9_decimal_258 : decode cX9_decimal 258 = .ok (.istore 11, 2) := by decide +kernel
theorem dX9_decimal_260 : decode cX9_decimal 260 = .ok (.iload 11, 2) := by decide +kernel
theorem dX9_decimal_262 : decode cX9_decimal 262 = .ok (.iload 10, 2) := by decide +kernel
theorem dX9_decimal_264 : decode cX9_decimal 264 = .ok (.if_icmp .le 31, 3) := by decide +kernel
theorem dX9_decimal_267 : decode cX9_decimal 267 = .ok (.aload_n 1, 1) := by decide +kernel
theorem dX9_decimal_268 : decode cX9_decimal 268 = .ok (.iload 11, 2) := by decide +kernel
theorem dX9_decimal_270 : decode cX9_decimal 270 = .ok (.iconst 1, 1) := by decide +kernel
theorem dX9_decimal_271 : decode cX9_decimal 271 = .ok (.isub, 1) := by decide +kernel
theorem dX9_decimal_272 : decode cX9_decimal 272 = .ok (.iaload, 1) := by decide +kernel
theorem dX9_decimal_273 : decode cX9_decimal 273 = .ok (.bipush 48, 2) := by decide +kernel
theorem dX9_decimal_275 : decode cX9_decimal 275 = .ok (.if_icmp .eq 14, 3) := by decide +kernel
theorem dX9_decimal_278 : decode cX9_decimal 278 = .ok (.aload_n 1, 1) := by decide +kernel
theorem dX9_decimal_279 : decode cX9_decimal 279 = .ok (.iload 11, 2) := by decide +kernel
theorem dX9_decimal_281 : decode cX9_decimal 281 = .ok (.iconst 1, 1) := by decide +kernel
theorem dX9_decimal_282 : decode cX9_decimal 282 = .ok (.isub, 1) := by decide +kernel
theorem dX9_decimal_283 : decode cX9_decimal 283 = .ok (.iaload, 1) := by decide +kernel
theorem dX9_decimal_284 : decode cX9_decimal 284 = .ok (.bipush 46, 2) := by decide +kernel
theorem dX9_decimal_286 : decode cX9_decimal 286 = .ok (.if_icmp .ne 9, 3) := by decide +kernel
theorem dX9_decimal_289 : decode cX9_decimal 289 = .ok (.iinc 11 (-1), 3) := by decide +kernel
theorem dX9_decimal_292 : decode cX9_decimal 292 = .ok (.goto (-32), 3) := by decide +kernel
theorem dX9_decimal_295 : decode cX9_decimal 295 = .ok (.iload 7, 2) := by decide +kernel
theorem dX9_decimal_297 : decode cX9_decimal 297 = .ok (.ifCond .ge 8, 3) := by decide +kernel
theorem dX9_decimal_300 : decode cX9_decimal 300 = .ok (.iload 6, 2) := by decide +kernel
theorem dX9_decimal_302 : decode cX9_decimal 302 = .ok (.goto 5, 3) := by decide +kernel
theorem dX9_decimal_305 : decode cX9_decimal 305 = .ok (.iload 7, 2) := by decide +kernel
theorem dX9_decimal_307 : decode cX9_decimal 307 = .ok (.istore 12, 2) := by decide +kernel
theorem dX9_decimal_309 : decode cX9_decimal 309 = .ok (.iload 9, 2) := by decide +kernel
theorem dX9_decimal_311 : decode cX9_decimal 311 = .ok (.iload 11, 2) := by decide +kernel
theorem dX9_decimal_313 : decode cX9_decimal 313 = .ok (.iload 12, 2) := by decide +kernel
theorem dX9_decimal_315 : decode cX9_decimal 315 = .ok (.if_icmp .gt 11, 3) := by decide +kernel
theorem dX9_decimal_318 : decode cX9_decimal 318 = .ok (.iload 12, 2) := by decide +kernel
theorem dX9_decimal_320 : decode cX9_decimal 320 = .ok (.iload 11, 2) := by decide +kernel
theorem dX9_decimal_322 : decode cX9_decimal 322 = .ok (.isub, 1) := by decide +kernel
theorem dX9_decimal_323 : decode cX9_decimal 323 = .ok (.goto 10, 3) := by decide +kernel
theorem dX9_decimal_326 : decode cX9_decimal 326 = .ok (.iload 12, 2) := by decide +kernel
theorem dX9_decimal_328 : decode cX9_decimal 328 = .ok (.iconst 1, 1) := by decide +kernel
theorem dX9_decimal_329 : decode cX9_decimal 329 = .ok (.iadd, 1) := by decide +kernel
theorem dX9_decimal_330 : decode cX9_decimal 330 = .ok (.iload 11, 2) := by decide +kernel
theorem dX9_decimal_332 : decode cX9_decimal 332 = .ok (.isub, 1) := by decide +kernel
theorem dX9_decimal_333 : decode cX9_decimal 333 = .ok (.iadd, 1) := by decide +kernel
theorem dX9_decimal_334 : decode cX9_decimal 334 = .ok (.istore 13, 2) := by decide +kernel
theorem dX9_decimal_336 : decode cX9_decimal 336 = .ok (.iload 11, 2) := by decide +kernel
theorem dX9_decimal_338 : decode cX9_decimal 338 = .ok (.iload 10, 2) := by decide +kernel
theorem dX9_decimal_340 : decode cX9_decimal 340 = .ok (.isub, 1) := by decide +kernel
theorem dX9_decimal_341 : decode cX9_decimal 341 = .ok (.iload 7, 2) := by decide +kernel
theorem dX9_decimal_343 : decode cX9_decimal 343 = .ok (.iload 10, 2) := by decide +kernel
theorem dX9_decimal_345 : decode cX9_decimal 345 = .ok (.if_icmp .lt 14, 3) := by decide +kernel
theorem dX9_decimal_348 : decode cX9_decimal 348 = .ok (.iload 7, 2) := by decide +kernel
theorem dX9_decimal_350 : decode cX9_decimal 350 = .ok (.iload 11, 2) := by decide +kernel
theorem dX9_decimal_352 : decode cX9_decimal 352 = .ok (.if_icmp .ge 7, 3) := by decide +kernel
theorem dX9_decimal_355 : decode cX9_decimal 355 = .ok (.iconst 1, 1) := by decide +kernel
theorem dX9_decimal_356 : decode cX9_decimal 356 = .ok (.goto 4, 3) := by decide +kernel
theorem dX9_decimal_359 : decode cX9_decimal 359 = .ok (.iconst 0, 1) := by decide +kernel
theorem dX9_decimal_360 : decode cX9_decimal 360 = .ok (.isub, 1) := by decide +kernel
theorem dX9_decimal_361 : decode cX9_decimal 361 = .ok (.istore 14, 2) := by decide +kernel
theorem dX9_decimal_363 : decode cX9_decimal 363 = .ok (.iload 14, 2) := by decide +kernel
theorem dX9_decimal_365 : decode cX9_decimal 365 = .ok (.ifCond .ne 32, 3) := by decide +kernel
theorem dX9_decimal_368 : decode cX9_decimal 368 = .ok (.iload 4, 2) := by decide +kernel
theorem dX9_decimal_370 : decode cX9_decimal 370 = .ok (.bipush 101, 2) := by decide +kernel
theorem dX9_decimal_372 : decode cX9_decimal 372 = .ok (.if_icmp .ne 9, 3) := by decide +kernel
theorem dX9_decimal_375 : decode cX9_decimal 375 = .ok (.invokestatic 7, 3) := by decide +kernel
theorem dX9_decimal_378 : decode cX9_decimal 378 = .ok (.goto 18, 3) := by decide +kernel
theorem dX9_decimal_381 : decode cX9_decimal 381 = .ok (.iload 5, 2) := by decide +kernel
theorem dX9_decimal_383 : decode cX9_decimal 383 = .ok (.ifCond .eq 9, 3) := by decide +kernel
theorem dX9_decimal_386 : decode cX9_decimal 386 = .ok (.ldc2_w 343, 3) := by decide +kernel
theorem dX9_decimal_389 : decode cX9_decimal 389 = .ok (.goto 4, 3) := by decide +kernel
theorem dX9_decimal_392 : decode cX9_decimal 392 = .ok (.dconst 0, 1) := by decide +kernel
theorem dX9_decimal_393 : decode cX9_decimal 393 = .ok (.invokestatic 238, 3) := by decide +kernel
theorem dX9_decimal_396 : decode cX9_decimal 396 = .ok (.areturn, 1) := by decide +kernel
theorem dX9_decimal_397 : decode cX9_decimal 397 = .ok (.iload 4, 2) := by decide +kernel
theorem dX9_decimal_399 : decode cX9_decimal 399 = .ok (.bipush 101, 2) := by decide +kernel
theorem dX9_decimal_401 : decode cX9_decimal 401 = .ok (.if_icmp .eq 59, 3) := by decide +kernel
theorem dX9_decimal_404 : decode cX9_decimal 404 = .ok (.iload 14, 2) := by decide +kernel
theorem dX9_decimal_406 : decode cX9_decimal 406 = .ok (.iload 13, 2) := by decide +kernel
theorem dX9_decimal_408 : decode cX9_decimal 408 = .ok (.iadd, 1) := by decide +kernel
theorem dX9_decimal_409 : decode cX9_decimal 409 = .ok (.sipush 330, 3) := by decide +kernel
theorem dX9_decimal_412 : decode cX9_decimal 412 = .ok (.if_icmp .le 21, 3) := by decide +kernel
theorem dX9_decimal_415 : decode cX9_decimal 415 = .ok (.iload 5, 2) := by decide +kernel
theorem dX9_decimal_417 : decode cX9_decimal 417 = .ok (.ifCond .eq 9, 3) := by decide +kernel
theorem dX9_decimal_420 : decode cX9_decimal 420 = .ok (.ldc2_w 318, 3) := by decide +kernel
theorem dX9_decimal_423 : decode cX9_decimal 423 = .ok (.goto 6, 3) := by decide +kernel
theorem dX9_decimal_426 : decode cX9_decimal 426 = .ok (.ldc2_w 117, 3) := by decide +kernel
theorem dX9_decimal_429 : decode cX9_decimal 429 = .ok (.invokestatic 238, 3) := by decide +kernel
theorem dX9_decimal_432 : decode cX9_decimal 432 = .ok (.areturn, 1) := by decide +kernel
theorem dX9_decimal_433 : decode cX9_decimal 433 = .ok (.iload 14, 2) := by decide +kernel
theorem dX9_decimal_435 : decode cX9_decimal 435 = .ok (.iload 13, 2) := by decide +kernel
theorem dX9_decimal_437 : decode cX9_decimal 437 = .ok (.iadd, 1) := by decide +kernel
theorem dX9_decimal_438 : decode cX9_decimal 438 = .ok (.sipush (-350), 3) := by decide +kernel
theorem dX9_decimal_441 : decode cX9_decimal 441 = .ok (.if_icmp .ge 43, 3) := by decide +kernel
theorem dX9_decimal_444 : decode cX9_decimal 444 = .ok (.iload 5, 2) := by decide +kernel
theorem dX9_decimal_446 : decode cX9_decimal 446 = .ok (.ifCond .eq 9, 3) := by decide +kernel
theorem dX9_decimal_449 : decode cX9_decimal 449 = .ok (.ldc2_w 343, 3) := by decide +kernel
theorem dX9_decimal_452 : decode cX9_decimal 452 = .ok (.goto 4, 3) := by decide +kernel
theorem dX9_decimal_455 : decode cX9_decimal 455 = .ok (.dconst 0, 1) := by decide +kernel
theorem dX9_decimal_456 : decode cX9_decimal 456 = .ok (.invokestatic 238, 3) := by decide +kernel
theorem dX9_decimal_459 : decode cX9_decimal 459 = .ok (.areturn, 1) := by decide +kernel
theorem dX9_decimal_460 : decode cX9_decimal 460 = .ok (.iload 14, 2) := by decide +kernel
theorem dX9_decimal_462 : decode cX9_decimal 462 = .ok (.iload 13, 2) := by decide +kernel
theorem dX9_decimal_464 : decode cX9_decimal 464 = .ok (.iadd, 1) := by decide +kernel
theorem dX9_decimal_465 : decode cX9_decimal 465 = .ok (.sipush 1300, 3) := by decide +kernel
theorem dX9_decimal_468 : decode cX9_decimal 468 = .ok (.if_icmp .gt 14, 3) := by decide +kernel
theorem dX9_decimal_471 : decode cX9_decimal 471 = .ok (.iload 14, 2) := by decide +kernel
theorem dX9_decimal_473 : decode cX9_decimal 473 = .ok (.iload 13, 2) := by decide +kernel
theorem dX9_decimal_475 : decode cX9_decimal 475 = .ok (.iadd, 1) := by decide +kernel
theorem dX9_decimal_476 : decode cX9_decimal 476 = .ok (.sipush (-1300), 3) := by decide +kernel
theorem dX9_decimal_479 : decode cX9_decimal 479 = .ok (.if_icmp .ge 5, 3) := by decide +kernel
theorem dX9_decimal_482 : decode cX9_decimal 482 = .ok (.aconst_null, 1) := by decide +kernel
theorem dX9_decimal_483 : decode cX9_decimal 483 = .ok (.areturn, 1) := by decide +kernel
theorem dX9_decimal_484 : decode cX9_decimal 484 = .ok (.aload_n 0, 1) := by decide +kernel
theorem dX9_decimal_485 : decode cX9_decimal 485 = .ok (.aload_n 1, 1) := by decide +kernel
theorem dX9_decimal_486 : decode cX9_decimal 486 = .ok (.iload 10, 2) := by decide +kernel
theorem dX9_decimal_488 : decode cX9_decimal 488 = .ok (.iload 11, 2) := by decide +kernel
theorem dX9_decimal_490 : decode cX9_decimal 490 = .ok (.bipush 10, 2) := by decide +kernel
theorem dX9_decimal_492 : decode cX9_decimal 492 = .ok (.invokevirtual 332, 3) := by decide +kernel
theorem dX9_decimal_495 : decode cX9_decimal 495 = .ok (.astore 15, 2) := by decide +kernel
theorem dX9_decimal_497 : decode cX9_decimal 497 = .ok (.iload 13, 2) := by decide +kernel
theorem dX9_decimal_499 : decode cX9_decimal 499 = .ok (.ifCond .le 11, 3) := by decide +kernel
theorem dX9_decimal_502 : decode cX9_decimal 502 = .ok (.aload 15, 2) := by decide +kernel
theorem dX9_decimal_504 : decode cX9_decimal 504 = .ok (.getfield 104, 3) := by decide +kernel
theorem dX9_decimal_507 : decode cX9_decimal 507 = .ok (.goto 7, 3) := by decide +kernel
theorem dX9_decimal_510 : decode cX9_decimal 510 = .ok (.aload_n 0, 1) := by decide +kernel
theorem dX9_decimal_511 : decode cX9_decimal 511 = .ok (.getfield 125, 3) := by decide +kernel
theorem dX9_decimal_514 : decode cX9_decimal 514 = .ok (.aload_n 0, 1) := by decide +kernel
theorem dX9_decimal_515 : decode cX9_decimal 515 = .ok (.getfield 235, 3) := by decide +kernel
theorem dX9_decimal_518 : decode cX9_decimal 518 = .ok (.iload 13, 2) := by decide +kernel
theorem dX9_decimal_520 : decode cX9_decimal 520 = .ok (.ifCond .le 12, 3) := by decide +kernel
theorem dX9_decimal_523 : decode cX9_decimal 523 = .ok (.aload 15, 2) := by decide +kernel
theorem dX9_decimal_525 : decode cX9_decimal 525 = .ok (.getfield 104, 3) := by decide +kernel
theorem dX9_decimal_528 : decode cX9_decimal 528 = .ok (.arraylength, 1) := by decide +kernel
theorem dX9_decimal_529 : decode cX9_decimal 529 = .ok (.goto 4, 3) := by decide +kernel
theorem dX9_decimal_532 : decode cX9_decimal 532 = .ok (.iconst 1, 1) := by decide +kernel
theorem dX9_decimal_533 : decode cX9_decimal 533 = .ok (.invokestatic 61, 3) := by decide +kernel
theorem dX9_decimal_536 : decode cX9_decimal 536 = .ok (.aload_n 0, 1) := by decide +kernel
theorem dX9_decimal_537 : decode cX9_decimal 537 = .ok (.getfield 235, 3) := by decide +kernel
theorem dX9_decimal_540 : decode cX9_decimal 540 = .ok (.iload 13, 2) := by decide +kernel
theorem dX9_decimal_542 : decode cX9_decimal 542 = .ok (.ifCond .le 12, 3) := by decide +kernel
theorem dX9_decimal_545 : decode cX9_decimal 545 = .ok (.aload 15, 2) := by decide +kernel
theorem dX9_decimal_547 : decode cX9_decimal 547 = .ok (.getfield 104, 3) := by decide +kernel
theorem dX9_decimal_550 : decode cX9_decimal 550 = .ok (.arraylength, 1) := by decide +kernel
theorem dX9_decimal_551 : decode cX9_decimal 551 = .ok (.goto 4, 3) := by decide +kernel
theorem dX9_decimal_554 : decode cX9_decimal 554 = .ok (.iconst 1, 1) := by decide +kernel
theorem dX9_decimal_555 : decode cX9_decimal 555 = .ok (.iload 13, 2) := by decide +kernel
theorem dX9_decimal_557 : decode cX9_decimal 557 = .ok (.ifCond .le 8, 3) := by decide +kernel
theorem dX9_decimal_560 : decode cX9_decimal 560 = .ok (.iload 13, 2) := by decide +kernel
theorem dX9_decimal_562 : decode cX9_decimal 562 = .ok (.goto 6, 3) := by decide +kernel
theorem dX9_decimal_565 : decode cX9_decimal 565 = .ok (.iload 13, 2) := by decide +kernel
theorem dX9_decimal_567 : decode cX9_decimal 567 = .ok (.ineg, 1) := by decide +kernel
theorem dX9_decimal_568 : decode cX9_decimal 568 = .ok (.invokestatic 278, 3) := by decide +kernel
theorem dX9_decimal_571 : decode cX9_decimal 571 = .ok (.istore 16, 2) := by decide +kernel
theorem dX9_decimal_573 : decode cX9_decimal 573 = .ok (.iload 4, 2) := by decide +kernel
theorem dX9_decimal_575 : decode cX9_decimal 575 = .ok (.bipush 101, 2) := by decide +kernel
theorem dX9_decimal_577 : decode cX9_decimal 577 = .ok (.if_icmp .ne 65, 3) := by decide +kernel
theorem dX9_decimal_580 : decode cX9_decimal 580 = .ok (.iload 13, 2) := by decide +kernel
theorem dX9_decimal_582 : decode cX9_decimal 582 = .ok (.ifCond .le 16, 3) := by decide +kernel
theorem dX9_decimal_585 : decode cX9_decimal 585 = .ok (.aload_n 0, 1) := by decide +kernel
theorem dX9_decimal_586 : decode cX9_decimal 586 = .ok (.aload_n 0, 1) := by decide +kernel
theorem dX9_decimal_587 : decode cX9_decimal 587 = .ok (.getfield 235, 3) := by decide +kernel
theorem dX9_decimal_590 : decode cX9_decimal 590 = .ok (.iload 16, 2) := by decide +kernel
theorem dX9_decimal_592 : decode cX9_decimal 592 = .ok (.invokevirtual 177, 3) := by decide +kernel
theorem dX9_decimal_595 : decode cX9_decimal 595 = .ok (.goto 24, 3) := by decide +kernel
theorem dX9_decimal_598 : decode cX9_decimal 598 = .ok (.aload_n 0, 1) := by decide +kernel
theorem dX9_decimal_599 : decode cX9_decimal 599 = .ok (.aload 15, 2) := by decide +kernel
theorem dX9_decimal_601 : decode cX9_decimal 601 = .ok (.getfield 104, 3) := by decide +kernel
theorem dX9_decimal_604 : decode cX9_decimal 604 = .ok (.aload 15, 2) := by decide +kernel
theorem dX9_decimal_606 : decode cX9_decimal 606 = .ok (.getfield 104, 3) := by decide +kernel
theorem dX9_decimal_609 : decode cX9_decimal 609 = .ok (.arraylength, 1) := by decide +kernel
theorem dX9_decimal_610 : decode cX9_decimal 610 = .ok (.aload_n 0, 1) := by decide +kernel
theorem dX9_decimal_611 : decode cX9_decimal 611 = .ok (.getfield 235, 3) := by decide +kernel
theorem dX9_decimal_614 : decode cX9_decimal 614 = .ok (.iload 16, 2) := by decide +kernel
theorem dX9_decimal_616 : decode cX9_decimal 616 = .ok (.invokevirtual 335, 3) := by decide +kernel
theorem dX9_decimal_619 : decode cX9_decimal 619 = .ok (.astore 17, 2) := by decide +kernel
theorem dX9_decimal_621 : decode cX9_decimal 621 = .ok (.aload 17, 2) := by decide +kernel
theorem dX9_decimal_623 : decode cX9_decimal 623 = .ok (.ifnull 16, 3) := by decide +kernel
theorem dX9_decimal_626 : decode cX9_decimal 626 = .ok (.iload 5, 2) := by decide +kernel
theorem dX9_decimal_628 : decode cX9_decimal 628 = .ok (.ifCond .eq 11, 3) := by decide +kernel
theorem dX9_decimal_631 : decode cX9_decimal 631 = .ok (.aload 17, 2) := by decide +kernel
theorem dX9_decimal_633 : decode cX9_decimal 633 = .ok (.invokestatic 339, 3) := by decide +kernel
theorem dX9_decimal_636 : decode cX9_decimal 636 = .ok (.goto 5, 3) := by decide +kernel
theorem dX9_decimal_639 : decode cX9_decimal 639 = .ok (.aload 17, 2) := by decide +kernel
theorem dX9_decimal_641 : decode cX9_decimal 641 = .ok (.areturn, 1) := by decide +kernel
theorem dX9_decimal_642 : decode cX9_decimal 642 = .ok (.iload 13, 2) := by decide +kernel
theorem dX9_decimal_644 : decode cX9_decimal 644 = .ok (.ifCond .le 21, 3) := by decide +kernel
theorem dX9_decimal_647 : decode cX9_decimal 647 = .ok (.aload_n 0, 1) := by decide +kernel
theorem dX9_decimal_648 : decode cX9_decimal 648 = .ok (.aload_n 0, 1) := by decide +kernel
theorem dX9_decimal_649 : decode cX9_decimal 649 = .ok (.getfield 235, 3) := by decide +kernel
theorem dX9_decimal_652 : decode cX9_decimal 652 = .ok (.iload 16, 2) := by decide +kernel
theorem dX9_decimal_654 : decode cX9_decimal 654 = .ok (.aload_n 0, 1) := by decide +kernel
theorem dX9_decimal_655 : decode cX9_decimal 655 = .ok (.getfield 125, 3) := by decide +kernel
theorem dX9_decimal_658 : decode cX9_decimal 658 = .ok (.iconst 1, 1) := by decide +kernel
theorem dX9_decimal_659 : decode cX9_decimal 659 = .ok (.invokevirtual 223, 3) := by decide +kernel
theorem dX9_decimal_662 : decode cX9_decimal 662 = .ok (.goto 24, 3) := by decide +kernel
theorem dX9_decimal_665 : decode cX9_decimal 665 = .ok (.aload_n 0, 1) := by decide +kernel
theorem dX9_decimal_666 : decode cX9_decimal 666 = .ok (.aload 15, 2) := by decide +kernel
theorem dX9_decimal_668 : decode cX9_decimal 668 = .ok (.getfield 104, 3) := by decide +kernel
theorem dX9_decimal_671 : decode cX9_decimal 671 = .ok (.aload 15, 2) := by decide +kernel
theorem dX9_decimal_673 : decode cX9_decimal 673 = .ok (.getfield 104, 3) := by decide +kernel
theorem dX9_decimal_676 : decode cX9_decimal 676 = .ok (.arraylength, 1) := by decide +kernel
theorem dX9_decimal_677 : decode cX9_decimal 677 = .ok (.aload_n 0, 1) := by decide +kernel
theorem dX9_decimal_678 : decode cX9_decimal 678 = .ok (.getfield 235, 3) := by decide +kernel
theorem dX9_decimal_681 : decode cX9_decimal 681 = .ok (.iload 16, 2) := by decide +kernel
theorem dX9_decimal_683 : decode cX9_decimal 683 = .ok (.invokevirtual 223, 3) := by decide +kernel
theorem dX9_decimal_686 : decode cX9_decimal 686 = .ok (.dstore 17, 2) := by decide +kernel
theorem dX9_decimal_688 : decode cX9_decimal 688 = .ok (.iload 5, 2) := by decide +kernel
theorem dX9_decimal_690 : decode cX9_decimal 690 = .ok (.ifCond .eq 9, 3) := by decide +kernel
theorem dX9_decimal_693 : decode cX9_decimal 693 = .ok (.dload 17, 2) := by decide +kernel
theorem dX9_decimal_695 : decode cX9_decimal 695 = .ok (.dneg, 1) := by decide +kernel
theorem dX9_decimal_696 : decode cX9_decimal 696 = .ok (.goto 5, 3) := by decide +kernel
theorem dX9_decimal_699 : decode cX9_decimal 699 = .ok (.dload 17, 2) := by decide +kernel
theorem dX9_decimal_701 : decode cX9_decimal 701 = .ok (.invokestatic 238, 3) := by decide +kernel
theorem dX9_decimal_704 : decode cX9_decimal 704 = .ok (.areturn, 1) := by decide +kernel
theorem dX9_init_0 : decode cX9_init 0 = .ok (.aload_n 0, 1) := by decide +kernel
theorem dX9_init_1 : decode cX9_init 1 = .ok (.invokespecial 345, 3) := by decide +kernel
theorem dX9_init_4 : decode cX9_init 4 = .ok (.aload_n 0, 1) := by decide +kernel
theorem dX9_init_5 : decode cX9_init 5 = .ok (.iconst 1, 1) := by decide +kernel
theorem dX9_init_6 : decode cX9_init 6 = .ok (.newarray .int, 2) := by decide +kernel
theorem dX9_init_8 : decode cX9_init 8 = .ok (.dup, 1) := by decide +kernel
theorem dX9_init_9 : decode cX9_init 9 = .ok (.iconst 0, 1) := by decide +kernel
theorem dX9_init_10 : decode cX9_init 10 = .ok (.iconst 1, 1) := by decide +kernel
theorem dX9_init_11 : decode cX9_init 11 = .ok (.iastore, 1) := by decide +kernel
theorem dX9_init_12 : decode cX9_init 12 = .ok (.putfield 125, 3) := by decide +kernel
theorem dX9_init_15 : decode cX9_init 15 = .ok (.aload_n 0, 1) := by decide +kernel
theorem dX9_init_16 : decode cX9_init 16 = .ok (.sipush 440, 3) := by decide +kernel
theorem dX9_init_19 : decode cX9_init 19 = .ok (.newarray .int, 2) := by decide +kernel
theorem dX9_init_21 : decode cX9_init 21 = .ok (.putfield 72, 3) := by decide +kernel
theorem dX9_init_24 : decode cX9_init 24 = .ok (.aload_n 0, 1) := by decide +kernel
theorem dX9_init_25 : decode cX9_init 25 = .ok (.sipush 440, 3) := by decide +kernel
theorem dX9_init_28 : decode cX9_init 28 = .ok (.newarray .int, 2) := by decide +kernel
theorem dX9_init_30 : decode cX9_init 30 = .ok (.putfield 235, 3) := by decide +kernel
theorem dX9_init_33 : decode cX9_init 33 = .ok (.aload_n 0, 1) := by decide +kernel
theorem dX9_init_34 : decode cX9_init 34 = .ok (.sipush 440, 3) := by decide +kernel
theorem dX9_init_37 : decode cX9_init 37 = .ok (.newarray .int, 2) := by decide +kernel
theorem dX9_init_39 : decode cX9_init 39 = .ok (.putfield 54, 3) := by decide +kernel
theorem dX9_init_42 : decode cX9_init 42 = .ok (.aload_n 0, 1) := by decide +kernel
theorem dX9_init_43 : decode cX9_init 43 = .ok (.sipush 440, 3) := by decide +kernel
theorem dX9_init_46 : decode cX9_init 46 = .ok (.newarray .int, 2) := by decide +kernel
theorem dX9_init_48 : decode cX9_init 48 = .ok (.putfield 58, 3) := by decide +kernel
theorem dX9_init_51 : decode cX9_init 51 = .ok (.aload_n 0, 1) := by decide +kernel
theorem dX9_init_52 : decode cX9_init 52 = .ok (.sipush 440, 3) := by decide +kernel
theorem dX9_init_55 : decode cX9_init 55 = .ok (.newarray .int, 2) := by decide +kernel
theorem dX9_init_57 : decode cX9_init 57 = .ok (.putfield 184, 3) := by decide +kernel
theorem dX9_init_60 : decode cX9_init 60 = .ok (.aload_n 0, 1) := by decide +kernel
theorem dX9_init_61 : decode cX9_init 61 = .ok (.sipush 440, 3) := by decide +kernel
theorem dX9_init_64 : decode cX9_init 64 = .ok (.newarray .int, 2) := by decide +kernel
theorem dX9_init_66 : decode cX9_init 66 = .ok (.putfield 191, 3) := by decide +kernel
theorem dX9_init_69 : decode cX9_init 69 = .ok (.aload_n 0, 1) := by decide +kernel
theorem dX9_init_70 : decode cX9_init 70 = .ok (.sipush 140, 3) := by decide +kernel
theorem dX9_init_73 : decode cX9_init 73 = .ok (.newarray .int, 2) := by decide +kernel
theorem dX9_init_75 : decode cX9_init 75 = .ok (.putfield 312, 3) := by decide +kernel
theorem dX9_init_78 : decode cX9_init 78 = .ok (.aload_n 0, 1) := by decide +kernel
theorem dX9_init_79 : decode cX9_init 79 = .ok (.sipush 540, 3) := by decide +kernel
theorem dX9_init_82 : decode cX9_init 82 = .ok (.newarray .int, 2) := by decide +kernel
theorem dX9_init_84 : decode cX9_init 84 = .ok (.putfield 119, 3) := by decide +kernel
theorem dX9_init_87 : decode cX9_init 87 = .ok (.aload_n 0, 1) := by decide +kernel
theorem dX9_init_88 : decode cX9_init 88 = .ok (.sipush 540, 3) := by decide +kernel
theorem dX9_init_91 : decode cX9_init 91 = .ok (.newarray .int, 2) := by decide +kernel
theorem dX9_init_93 : decode cX9_init 93 = .ok (.putfield 122, 3) := by decide +kernel
theorem dX9_init_96 : decode cX9_init 96 = .ok (.aload_n 0, 1) := by decide +kernel
theorem dX9_init_97 : decode cX9_init 97 = .ok (.sipush 540, 3) := by decide +kernel
theorem dX9_init_100 : decode cX9_init 100 = .ok (.newarray .int, 2) := by decide +kernel
theorem dX9_init_102 : decode cX9_init 102 = .ok (.putfield 128, 3) := by decide +kernel
theorem dX9_init_105 : decode cX9_init 105 = .ok (.aload_n 0, 1) := by decide +kernel
theorem dX9_init_106 : decode cX9_init 106 = .ok (.sipush 200, 3) := by decide +kernel
theorem dX9_init_109 : decode cX9_init 109 = .ok (.newarray .int, 2) := by decide +kernel
theorem dX9_init_111 : decode cX9_init 111 = .ok (.putfield 350, 3) := by decide +kernel
theorem dX9_init_114 : decode cX9_init 114 = .ok (.aload_n 0, 1) := by decide +kernel
theorem dX9_init_115 : decode cX9_init 115 = .ok (.sipush 200, 3) := by decide +kernel
theorem dX9_init_118 : decode cX9_init 118 = .ok (.newarray .int, 2) := by decide +kernel
theorem dX9_init_120 : decode cX9_init 120 = .ok (.putfield 353, 3) := by decide +kernel
theorem dX9_init_123 : decode cX9_init 123 = .ok (.aload_n 0, 1) := by decide +kernel
theorem dX9_init_124 : decode cX9_init 124 = .ok (.sipush 200, 3) := by decide +kernel
theorem dX9_init_127 : decode cX9_init 127 = .ok (.newarray .int, 2) := by decide +kernel
theorem dX9_init_129 : decode cX9_init 129 = .ok (.putfield 266, 3) := by decide +kernel
theorem dX9_init_132 : decode cX9_init 132 = .ok (.aload_n 0, 1) := by decide +kernel
theorem dX9_init_133 : decode cX9_init 133 = .ok (.sipush 200, 3) := by decide +kernel
theorem dX9_init_136 : decode cX9_init 136 = .ok (.newarray .int, 2) := by decide +kernel
theorem dX9_init_138 : decode cX9_init 138 = .ok (.putfield 269, 3) := by decide +kernel
theorem dX9_init_141 : decode cX9_init 141 = .ok (.aload_n 0, 1) := by decide +kernel
theorem dX9_init_142 : decode cX9_init 142 = .ok (.sipush 200, 3) := by decide +kernel
theorem dX9_init_145 : decode cX9_init 145 = .ok (.newarray .int, 2) := by decide +kernel
theorem dX9_init_147 : decode cX9_init 147 = .ok (.putfield 272, 3) := by decide +kernel
theorem dX9_init_150 : decode cX9_init 150 = .ok (.aload_n 0, 1) := by decide +kernel
theorem dX9_init_151 : decode cX9_init 151 = .ok (.sipush 200, 3) := by decide +kernel
theorem dX9_init_154 : decode cX9_init 154 = .ok (.newarray .int, 2) := by decide +kernel
theorem dX9_init_156 : decode cX9_init 156 = .ok (.putfield 275, 3) := by decide +kernel
theorem dX9_init_159 : decode cX9_init 159 = .ok (.aload_n 0, 1) := by decide +kernel
theorem dX9_init_160 : decode cX9_init 160 = .ok (.sipush 200, 3) := by decide +kernel
theorem dX9_init_163 : decode cX9_init 163 = .ok (.newarray .int, 2) := by decide +kernel
theorem dX9_init_165 : decode cX9_init 165 = .ok (.putfield 281, 3) := by decide +kernel
theorem dX9_init_168 : decode cX9_init 168 = .ok (.aload_n 0, 1) := by decide +kernel
theorem dX9_init_169 : decode cX9_init 169 = .ok (.bipush 24, 2) := by decide +kernel
theorem dX9_init_171 : decode cX9_init 171 = .ok (.newarray .int, 2) := by decide +kernel
theorem dX9_init_173 : decode cX9_init 173 = .ok (.putfield 290, 3) := by decide +kernel
theorem dX9_init_176 : decode cX9_init 176 = .ok (.aload_n 0, 1) := by decide +kernel
theorem dX9_init_177 : decode cX9_init 177 = .ok (.sipush 8200, 3) := by decide +kernel
theorem dX9_init_180 : decode cX9_init 180 = .ok (.newarray .int, 2) := by decide +kernel
theorem dX9_init_182 : decode cX9_init 182 = .ok (.putfield 79, 3) := by decide +kernel
theorem dX9_init_185 : decode cX9_init 185 = .ok (.aload_n 0, 1) := by decide +kernel
theorem dX9_init_186 : decode cX9_init 186 = .ok (.aload_n 0, 1) := by decide +kernel
theorem dX9_init_187 : decode cX9_init 187 = .ok (.getfield 125, 3) := by decide +kernel
theorem dX9_init_190 : decode cX9_init 190 = .ok (.putfield 69, 3) := by decide +kernel
theorem dX9_init_193 : decode cX9_init 193 = .ok (.aload_n 0, 1) := by decide +kernel
theorem dX9_init_194 : decode cX9_init 194 = .ok (.sipush 400, 3) := by decide +kernel
theorem dX9_init_197 : decode cX9_init 197 = .ok (.newarray .int, 2) := by decide +kernel
theorem dX9_init_199 : decode cX9_init 199 = .ok (.putfield 356, 3) := by decide +kernel
theorem dX9_init_202 : decode cX9_init 202 = .ok (.return_, 1) := by decide +kernel
theorem dX9_type_0 : decode cX9_type 0 = .ok (.iload_n 1, 1) := by decide +kernel
theorem dX9_type_1 : decode cX9_type 1 = .ok (.ifCond .lt 19, 3) := by decide +kernel
theorem dX9_type_4 : decode cX9_type 4 = .ok (.iload_n 1, 1) := by decide +kernel
theorem dX9_type_5 : decode cX9_type 5 = .ok (.bipush 127, 2) := by decide +kernel
theorem dX9_type_7 : decode cX9_type 7 = .ok (.if_icmp .gt 13, 3) := by decide +kernel
theorem dX9_type_10 : decode cX9_type 10 = .ok (.aload_n 0, 1) := by decide +kernel
theorem dX9_type_11 : decode cX9_type 11 = .ok (.getfield 359, 3) := by decide +kernel
theorem dX9_type_14 : decode cX9_type 14 = .ok (.sipush 400, 3) := by decide +kernel
theorem dX9_type_17 : decode cX9_type 17 = .ok (.if_icmp .ne 5, 3) := by decide +kernel
theorem dX9_type_20 : decode cX9_type 20 = .ok (.iconst (-1), 1) := by decide +kernel
theorem dX9_type_21 : decode cX9_type 21 = .ok (.ireturn, 1) := by decide +kernel
theorem dX9_type_22 : decode cX9_type 22 = .ok (.aload_n 0, 1) := by decide +kernel
theorem dX9_type_23 : decode cX9_type 23 = .ok (.getfield 356, 3) := by decide +kernel
theorem dX9_type_26 : decode cX9_type 26 = .ok (.aload_n 0, 1) := by decide +kernel
theorem dX9_type_27 : decode cX9_type 27 = .ok (.getfield 359, 3) := by decide +kernel
theorem dX9_type_30 : decode cX9_type 30 = .ok (.iload_n 1, 1) := by decide +kernel
theorem dX9_type_31 : decode cX9_type 31 = .ok (.iastore, 1) := by decide +kernel
theorem dX9_type_32 : decode cX9_type 32 = .ok (.aload_n 0, 1) := by decide +kernel
theorem dX9_type_33 : decode cX9_type 33 = .ok (.dup, 1) := by decide +kernel
theorem dX9_type_34 : decode cX9_type 34 = .ok (.getfield 359, 3) := by decide +kernel
theorem dX9_type_37 : decode cX9_type 37 = .ok (.iconst 1, 1) := by decide +kernel
theorem dX9_type_38 : decode cX9_type 38 = .ok (.iadd, 1) := by decide +kernel
theorem dX9_type_39 : decode cX9_type 39 = .ok (.putfield 359, 3) := by decide +kernel
theorem dX9_type_42 : decode cX9_type 42 = .ok (.aload_n 0, 1) := by decide +kernel
theorem dX9_type_43 : decode cX9_type 43 = .ok (.getfield 359, 3) := by decide +kernel
theorem dX9_type_46 : decode cX9_type 46 = .ok (.ireturn, 1) := by decide +kernel
theorem dX9_clear_0 : decode cX9_clear 0 = .ok (.aload_n 0, 1) := by decide +kernel
theorem dX9_clear_1 : decode cX9_clear 1 = .ok (.iconst 0, 1) := by decide +kernel
theorem dX9_clear_2 : decode cX9_clear 2 = .ok (.putfield 359, 3) := by decide +kernel
theorem dX9_clear_5 : decode cX9_clear 5 = .ok (.return_, 1) := by decide +kernel
theorem dX9_read_0 : decode cX9_read 0 = .ok (.aload_n 0, 1) := by decide +kernel
theorem dX9_read_1 : decode cX9_read 1 = .ok (.aload_n 0, 1) := by decide +kernel
theorem dX9_read_2 : decode cX9_read 2 = .ok (.aload_n 0, 1) := by decide +kernel
theorem dX9_read_3 : decode cX9_read 3 = .ok (.getfield 356, 3) := by decide +kernel
theorem dX9_read_6 : decode cX9_read 6 = .ok (.iconst 0, 1) := by decide +kernel
theorem dX9_read_7 : decode cX9_read 7 = .ok (.aload_n 0, 1) := by decide +kernel
theorem dX9_read_8 : decode cX9_read 8 = .ok (.getfield 359, 3) := by decide +kernel
theorem dX9_read_11 : decode cX9_read 11 = .ok (.bipush 10, 2) := by decide +kernel
theorem dX9_read_13 : decode cX9_read 13 = .ok (.invokevirtual 361, 3) := by decide +kernel
theorem dX9_read_16 : decode cX9_read 16 = .ok (.putfield 365, 3) := by decide +kernel
theorem dX9_read_19 : decode cX9_read 19 = .ok (.aload_n 0, 1) := by decide +kernel
theorem dX9_read_20 : decode cX9_read 20 = .ok (.getfield 365, 3) := by decide +kernel
theorem dX9_read_23 : decode cX9_read 23 = .ok (.ifnonnull 7, 3) := by decide +kernel
theorem dX9_read_26 : decode cX9_read 26 = .ok (.iconst 0, 1) := by decide +kernel
theorem dX9_read_27 : decode cX9_read 27 = .ok (.goto 18, 3) := by decide +kernel
theorem dX9_read_30 : decode cX9_read 30 = .ok (.aload_n 0, 1) := by decide +kernel
theorem dX9_read_31 : decode cX9_read 31 = .ok (.getfield 365, 3) := by decide +kernel
theorem dX9_read_34 : decode cX9_read 34 = .ok (.invokestatic 368, 3) := by decide +kernel
theorem dX9_read_37 : decode cX9_read 37 = .ok (.ifCond .eq 7, 3) := by decide +kernel
theorem dX9_read_40 : decode cX9_read 40 = .ok (.iconst 1, 1) := by decide +kernel
theorem dX9_read_41 : decode cX9_read 41 = .ok (.goto 4, 3) := by decide +kernel
theorem dX9_read_44 : decode cX9_read 44 = .ok (.iconst 2, 1) := by decide +kernel
theorem dX9_read_45 : decode cX9_read 45 = .ok (.ireturn, 1) := by decide +kernel
theorem dX9_near_0 : decode cX9_near 0 = .ok (.aload_n 1, 1) := by decide +kernel
theorem dX9_near_1 : decode cX9_near 1 = .ok (.getfield 104, 3) := by decide +kernel
theorem dX9_near_4 : decode cX9_near 4 = .ok (.aload_n 0, 1) := by decide +kernel
theorem dX9_near_5 : decode cX9_near 5 = .ok (.getfield 350, 3) := by decide +kernel
theorem dX9_near_8 : decode cX9_near 8 = .ok (.aload_n 1, 1) := by decide +kernel
theorem dX9_near_9 : decode cX9_near 9 = .ok (.getfield 104, 3) := by decide +kernel
theorem dX9_near_12 : decode cX9_near 12 = .ok (.arraylength, 1) := by decide +kernel
theorem dX9_near_13 : decode cX9_near 13 = .ok (.invokestatic 61, 3) := by decide +kernel
theorem dX9_near_16 : decode cX9_near 16 = .ok (.aload_n 3, 1) := by decide +kernel
theorem dX9_near_17 : decode cX9_near 17 = .ok (.getfield 104, 3) := by decide +kernel
theorem dX9_near_20 : decode cX9_near 20 = .ok (.aload_n 0, 1) := by decide +kernel
theorem dX9_near_21 : decode cX9_near 21 = .ok (.getfield 353, 3) := by decide +kernel
theorem dX9_near_24 : decode cX9_near 24 = .ok (.aload_n 3, 1) := by decide +kernel
theorem dX9_near_25 : decode cX9_near 25 = .ok (.getfield 104, 3) := by decide +kernel
theorem dX9_near_28 : decode cX9_near 28 = .ok (.arraylength, 1) := by decide +kernel
theorem dX9_near_29 : decode cX9_near 29 = .ok (.invokestatic 61, 3) := by decide +kernel
theorem dX9_near_32 : decode cX9_near 32 = .ok (.iload_n 2, 1) := by decide +kernel
theorem dX9_near_33 : decode cX9_near 33 = .ok (.ifCond .le 19, 3) := by decide +kernel
theorem dX9_near_36 : decode cX9_near 36 = .ok (.aload_n 0, 1) := by decide +kernel
theorem dX9_near_37 : decode cX9_near 37 = .ok (.getfield 350, 3) := by decide +kernel
theorem dX9_near_40 : decode cX9_near 40 = .ok (.aload_n 1, 1) := by decide +kernel
theorem dX9_near_41 : decode cX9_near 41 = .ok (.getfield 104, 3) := by decide +kernel
theorem dX9_near_44 : decode cX9_near 44 = .ok (.arraylength, 1) := by decide +kernel
theorem dX9_near_45 : decode cX9_near 45 = .ok (.iload_n 2, 1) := by decide +kernel
theorem dX9_near_46 : decode cX9_near 46 = .ok (.invokestatic 131, 3) := by decide +kernel
theorem dX9_near_49 : decode cX9_near 49 = .ok (.goto 8, 3) := by decide +kernel
theorem dX9_near_52 : decode cX9_near 52 = .ok (.aload_n 1, 1) := by decide +kernel
theorem dX9_near_53 : decode cX9_near 53 = .ok (.getfield 104, 3) := by decide +kernel
theorem dX9_near_56 : decode cX9_near 56 = .ok (.arraylength, 1) := by decide +kernel
theorem dX9_near_57 : decode cX9_near 57 = .ok (.istore 4, 2) := by decide +kernel
theorem dX9_near_59 : decode cX9_near 59 = .ok (.iload_n 2, 1) := by decide +kernel
theorem dX9_near_60 : decode cX9_near 60 = .ok (.ifCond .ge 20, 3) := by decide +kernel
theorem dX9_near_63 : decode cX9_near 63 = .ok (.aload_n 0, 1) := by decide +kernel
theorem dX9_near_64 : decode cX9_near 64 = .ok (.getfield 353, 3) := by decide +kernel
theorem dX9_near_67 : decode cX9_near 67 = .ok (.aload_n 3, 1) := by decide +kernel
theorem dX9_near_68 : decode cX9_near 68 = .ok (.getfield 104, 3) := by decide +kernel
theorem dX9_near_71 : decode cX9_near 71 = .ok (.arraylength, 1) := by decide +kernel
theorem dX9_near_72 : decode cX9_near 72 = .ok (.iload_n 2, 1) := by decide +kernel
theorem dX9_near_73 : decode cX9_near 73 = .ok (.ineg, 1) := by decide +kernel
theorem dX9_near_74 : decode cX9_near 74 = .ok (.invokestatic 131, 3) := by decide +kernel
theorem dX9_near_77 : decode cX9_near 77 = .ok (.goto 8, 3) := by decide +kernel
theorem dX9_near_80 : decode cX9_near 80 = .ok (.aload_n 3, 1) := by decide +kernel
theorem dX9_near_81 : decode cX9_near 81 = .ok (.getfield 104, 3) := by decide +kernel
theorem dX9_near_84 : decode cX9_near 84 = .ok (.arraylength, 1) := by decide +kernel
theorem dX9_near_85 : decode cX9_near 85 = .ok (.istore 5, 2) := by decide +kernel
theorem dX9_near_87 : decode cX9_near 87 = .ok (.aload_n 0, 1) := by decide +kernel
theorem dX9_near_88 : decode cX9_near 88 = .ok (.aload_n 0, 1) := by decide +kernel
theorem dX9_near_89 : decode cX9_near 89 = .ok (.getfield 350, 3) := by decide +kernel
theorem dX9_near_92 : decode cX9_near 92 = .ok (.iload 4, 2) := by decide +kernel
theorem dX9_near_94 : decode cX9_near 94 = .ok (.aload_n 0, 1) := by decide +kernel
theorem dX9_near_95 : decode cX9_near 95 = .ok (.getfield 353, 3) := by decide +kernel
theorem dX9_near_98 : decode cX9_near 98 = .ok (.iload 5, 2) := by decide +kernel
theorem dX9_near_100 : decode cX9_near 100 = .ok (.invokevirtual 223, 3) := by decide +kernel
theorem dX9_near_103 : decode cX9_near 103 = .ok (.dreturn, 1) := by decide +kernel
theorem dX9_make_0 : decode cX9_make 0 = .ok (.lload_n 2, 1) := by decide +kernel
theorem dX9_make_1 : decode cX9_make 1 = .ok (.lconst 0, 1) := by decide +kernel
theorem dX9_make_2 : decode cX9_make 2 = .ok (.lcmp, 1) := by decide +kernel
theorem dX9_make_3 : decode cX9_make 3 = .ok (.ifCond .lt 19, 3) := by decide +kernel
theorem dX9_make_6 : decode cX9_make 6 = .ok (.iload 4, 2) := by decide +kernel
theorem dX9_make_8 : decode cX9_make 8 = .ok (.sipush (-2000), 3) := by decide +kernel
theorem dX9_make_11 : decode cX9_make 11 = .ok (.if_icmp .lt 11, 3) := by decide +kernel
theorem dX9_make_14 : decode cX9_make 14 = .ok (.iload 4, 2) := by decide +kernel
theorem dX9_make_16 : decode cX9_make 16 = .ok (.sipush 2000, 3) := by decide +kernel
theorem dX9_make_19 : decode cX9_make 19 = .ok (.if_icmp .le 5, 3) := by decide +kernel
theorem dX9_make_22 : decode cX9_make 22 = .ok (.iconst 0, 1) := by decide +kernel
theorem dX9_make_23 : decode cX9_make 23 = .ok (.ireturn, 1) := by decide +kernel
theorem dX9_make_24 : decode cX9_make 24 = .ok (.lload_n 2, 1) := by decide +kernel
theorem dX9_make_25 : decode cX9_make 25 = .ok (.lconst 0, 1) := by decide +kernel
theorem dX9_make_26 : decode cX9_make 26 = .ok (.lcmp, 1) := by decide +kernel
theorem dX9_make_27 : decode cX9_make 27 = .ok (.ifCond .ne 7, 3) := by decide +kernel
theorem dX9_make_30 : decode cX9_make 30 = .ok (.dconst 0, 1) := by decide +kernel
theorem dX9_make_31 : decode cX9_make 31 = .ok (.goto 17, 3) := by decide +kernel
theorem dX9_make_34 : decode cX9_make 34 = .ok (.aload_n 0, 1) := by decide +kernel
theorem dX9_make_35 : decode cX9_make 35 = .ok (.lload_n 2, 1) := by decide +kernel
theorem dX9_make_36 : decode cX9_make 36 = .ok (.invokestatic 163, 3) := by decide +kernel
theorem dX9_make_39 : decode cX9_make 39 = .ok (.iload 4, 2) := by decide +kernel
theorem dX9_make_41 : decode cX9_make 41 = .ok (.lconst 1, 1) := by decide +kernel
theorem dX9_make_42 : decode cX9_make 42 = .ok (.invokestatic 163, 3) := by decide +kernel
theorem dX9_make_45 : decode cX9_make 45 = .ok (.invokevirtual 372, 3) := by decide +kernel
theorem dX9_make_48 : decode cX9_make 48 = .ok (.dstore 5, 2) := by decide +kernel
theorem dX9_make_50 : decode cX9_make 50 = .ok (.aload_n 0, 1) := by decide +kernel
theorem dX9_make_51 : decode cX9_make 51 = .ok (.iload_n 1, 1) := by decide +kernel
theorem dX9_make_52 : decode cX9_make 52 = .ok (.ifCond .eq 9, 3) := by decide +kernel
theorem dX9_make_55 : decode cX9_make 55 = .ok (.dload 5, 2) := by decide +kernel
theorem dX9_make_57 : decode cX9_make 57 = .ok (.dneg, 1) := by decide +kernel
theorem dX9_make_58 : decode cX9_make 58 = .ok (.goto 5, 3) := by decide +kernel
theorem dX9_make_61 : decode cX9_make 61 = .ok (.dload 5, 2) := by decide +kernel
theorem dX9_make_63 : decode cX9_make 63 = .ok (.invokestatic 238, 3) := by decide +kernel
theorem dX9_make_66 : decode cX9_make 66 = .ok (.putfield 365, 3) := by decide +kernel
theorem dX9_make_69 : decode cX9_make 69 = .ok (.iconst 1, 1) := by decide +kernel
theorem dX9_make_70 : decode cX9_make 70 = .ok (.ireturn, 1) := by decide +kernel
theorem dX9_divide_0 : decode cX9_divide 0 = .ok (.lload_n 3, 1) := by decide +kernel
theorem dX9_divide_1 : decode cX9_divide 1 = .ok (.lconst 0, 1) := by decide +kernel
theorem dX9_divide_2 : decode cX9_divide 2 = .ok (.lcmp, 1) := by decide +kernel
theorem dX9_divide_3 : decode cX9_divide 3 = .ok (.ifCond .gt 5, 3) := by decide +kernel
theorem dX9_divide_6 : decode cX9_divide 6 = .ok (.iconst 0, 1) := by decide +kernel
theorem dX9_divide_7 : decode cX9_divide 7 = .ok (.ireturn, 1) := by decide +kernel
theorem dX9_divide_8 : decode cX9_divide 8 = .ok (.lload_n 1, 1) := by decide +kernel
theorem dX9_divide_9 : decode cX9_divide 9 = .ok (.lconst 0, 1) := by decide +kernel
theorem dX9_divide_10 : decode cX9_divide 10 = .ok (.lcmp, 1) := by decide +kernel
theorem dX9_divide_11 : decode cX9_divide 11 = .ok (.ifCond .ne 7, 3) := by decide +kernel
theorem dX9_divide_14 : decode cX9_divide 14 = .ok (.dconst 0, 1) := by decide +kernel
theorem dX9_divide_15 : decode cX9_divide 15 = .ok (.goto 16, 3) := by decide +kernel
theorem dX9_divide_18 : decode cX9_divide 18 = .ok (.aload_n 0, 1) := by decide +kernel
theorem dX9_divide_19 : decode cX9_divide 19 = .ok (.lload_n 1, 1) := by decide +kernel
theorem dX9_divide_20 : decode cX9_divide 20 = .ok (.invokestatic 163, 3) := by decide +kernel
theorem dX9_divide_23 : decode cX9_divide 23 = .ok (.iconst 0, 1) := by decide +kernel
theorem dX9_divide_24 : decode cX9_divide 24 = .ok (.lload_n 3, 1) := by decide +kernel
theorem dX9_divide_25 : decode cX9_divide 25 = .ok (.invokestatic 163, 3) := by decide +kernel
theorem dX9_divide_28 : decode cX9_divide 28 = .ok (.invokevirtual 372, 3) := by decide +kernel
theorem dX9_divide_31 : decode cX9_divide 31 = .ok (.dstore 5, 2) := by decide +kernel
theorem dX9_divide_33 : decode cX9_divide 33 = .ok (.aload_n 0, 1) := by decide +kernel
theorem dX9_divide_34 : decode cX9_divide 34 = .ok (.lload_n 1, 1) := by decide +kernel
theorem dX9_divide_35 : decode cX9_divide 35 = .ok (.lconst 0, 1) := by decide +kernel
theorem dX9_divide_36 : decode cX9_divide 36 = .ok (.lcmp, 1) := by decide +kernel
theorem dX9_divide_37 : decode cX9_divide 37 = .ok (.ifCond .ge 9, 3) := by decide +kernel
theorem dX9_divide_40 : decode cX9_divide 40 = .ok (.dload 5, 2) := by decide +kernel
theorem dX9_divide_42 : decode cX9_divide 42 = .ok (.dneg, 1) := by decide +kernel
theorem dX9_divide_43 : decode cX9_divide 43 = .ok (.goto 5, 3) := by decide +kernel
theorem dX9_divide_46 : decode cX9_divide 46 = .ok (.dload 5, 2) := by decide +kernel
theorem dX9_divide_48 : decode cX9_divide 48 = .ok (.invokestatic 238, 3) := by decide +kernel
theorem dX9_divide_51 : decode cX9_divide 51 = .ok (.putfield 365, 3) := by decide +kernel
theorem dX9_divide_54 : decode cX9_divide 54 = .ok (.iconst 1, 1) := by decide +kernel
theorem dX9_divide_55 : decode cX9_divide 55 = .ok (.ireturn, 1) := by decide +kernel
theorem dX9_isDouble_0 : decode cX9_isDouble 0 = .ok (.aload_n 0, 1) := by decide +kernel
theorem dX9_isDouble_1 : decode cX9_isDouble 1 = .ok (.getfield 365, 3) := by decide +kernel
theorem dX9_isDouble_4 : decode cX9_isDouble 4 = .ok (.instanceof 201, 3) := by decide +kernel
theorem dX9_isDouble_7 : decode cX9_isDouble 7 = .ok (.ireturn, 1) := by decide +kernel
theorem dX9_value_0 : decode cX9_value 0 = .ok (.aload_n 0, 1) := by decide +kernel
theorem dX9_value_1 : decode cX9_value 1 = .ok (.getfield 365, 3) := by decide +kernel
theorem dX9_value_4 : decode cX9_value 4 = .ok (.checkcast 201, 3) := by decide +kernel
theorem dX9_value_7 : decode cX9_value 7 = .ok (.getfield 203, 3) := by decide +kernel
theorem dX9_value_10 : decode cX9_value 10 = .ok (.dreturn, 1) := by decide +kernel
theorem dX9_exact_0 : decode cX9_exact 0 = .ok (.aload_n 0, 1) := by decide +kernel
theorem dX9_exact_1 : decode cX9_exact 1 = .ok (.invokevirtual 376, 3) := by decide +kernel
theorem dX9_exact_4 : decode cX9_exact 4 = .ok (.iconst 2, 1) := by decide +kernel
theorem dX9_exact_5 : decode cX9_exact 5 = .ok (.if_icmp .eq 5, 3) := by decide +kernel
theorem dX9_exact_8 : decode cX9_exact 8 = .ok (.iconst 0, 1) := by decide +kernel
theorem dX9_exact_9 : decode cX9_exact 9 = .ok (.ireturn, 1) := by decide +kernel
theorem dX9_exact_10 : decode cX9_exact 10 = .ok (.aload_n 0, 1) := by decide +kernel
theorem dX9_exact_11 : decode cX9_exact 11 = .ok (.aload_n 0, 1) := by decide +kernel
theorem dX9_exact_12 : decode cX9_exact 12 = .ok (.aload_n 0, 1) := by decide +kernel
theorem dX9_exact_13 : decode cX9_exact 13 = .ok (.invokevirtual 379, 3) := by decide +kernel
theorem dX9_exact_16 : decode cX9_exact 16 = .ok (.invokevirtual 383, 3) := by decide +kernel
theorem dX9_exact_19 : decode cX9_exact 19 = .ok (.putfield 365, 3) := by decide +kernel
theorem dX9_exact_22 : decode cX9_exact 22 = .ok (.iconst 1, 1) := by decide +kernel
theorem dX9_exact_23 : decode cX9_exact 23 = .ok (.ireturn, 1) := by decide +kernel
theorem dX9_inexact_0 : decode cX9_inexact 0 = .ok (.aload_n 0, 1) := by decide +kernel
theorem dX9_inexact_1 : decode cX9_inexact 1 = .ok (.getfield 365, 3) := by decide +kernel
theorem dX9_inexact_4 : decode cX9_inexact 4 = .ok (.ifnull 10, 3) := by decide +kernel
theorem dX9_inexact_7 : decode cX9_inexact 7 = .ok (.aload_n 0, 1) := by decide +kernel
theorem dX9_inexact_8 : decode cX9_inexact 8 = .ok (.invokevirtual 387, 3) := by decide +kernel
theorem dX9_inexact_11 : decode cX9_inexact 11 = .ok (.ifCond .eq 5, 3) := by decide +kernel
theorem dX9_inexact_14 : decode cX9_inexact 14 = .ok (.iconst 0, 1) := by decide +kernel
theorem dX9_inexact_15 : decode cX9_inexact 15 = .ok (.ireturn, 1) := by decide +kernel
theorem dX9_inexact_16 : decode cX9_inexact 16 = .ok (.aload_n 0, 1) := by decide +kernel
theorem dX9_inexact_17 : decode cX9_inexact 17 = .ok (.aload_n 0, 1) := by decide +kernel
theorem dX9_inexact_18 : decode cX9_inexact 18 = .ok (.aload_n 0, 1) := by decide +kernel
theorem dX9_inexact_19 : decode cX9_inexact 19 = .ok (.getfield 365, 3) := by decide +kernel
theorem dX9_inexact_22 : decode cX9_inexact 22 = .ok (.invokevirtual 390, 3) := by decide +kernel
theorem dX9_inexact_25 : decode cX9_inexact 25 = .ok (.invokestatic 238, 3) := by decide +kernel
theorem dX9_inexact_28 : decode cX9_inexact 28 = .ok (.putfield 365, 3) := by decide +kernel
theorem dX9_inexact_31 : decode cX9_inexact 31 = .ok (.iconst 1, 1) := by decide +kernel
theorem dX9_inexact_32 : decode cX9_inexact 32 = .ok (.ireturn, 1) := by decide +kernel
theorem dX9_kind_0 : decode cX9_kind 0 = .ok (.aload_n 0, 1) := by decide +kernel
theorem dX9_kind_1 : decode cX9_kind 1 = .ok (.getfield 365, 3) := by decide +kernel
theorem dX9_kind_4 : decode cX9_kind 4 = .ok (.ifnonnull 5, 3) := by decide +kernel
theorem dX9_kind_7 : decode cX9_kind 7 = .ok (.iconst 0, 1) := by decide +kernel
theorem dX9_kind_8 : decode cX9_kind 8 = .ok (.ireturn, 1) := by decide +kernel
theorem dX9_kind_9 : decode cX9_kind 9 = .ok (.aload_n 0, 1) := by decide +kernel
theorem dX9_kind_10 : decode cX9_kind 10 = .ok (.invokevirtual 387, 3) := by decide +kernel
theorem dX9_kind_13 : decode cX9_kind 13 = .ok (.ifCond .ne 7, 3) := by decide +kernel
theorem dX9_kind_16 : decode cX9_kind 16 = .ok (.iconst 1, 1) := by decide +kernel
theorem dX9_kind_17 : decode cX9_kind 17 = .ok (.goto 35, 3) := by decide +kernel
theorem dX9_kind_20 : decode cX9_kind 20 = .ok (.aload_n 0, 1) := by decide +kernel
theorem dX9_kind_21 : decode cX9_kind 21 = .ok (.getfield 365, 3) := by decide +kernel
theorem dX9_kind_24 : decode cX9_kind 24 = .ok (.checkcast 201, 3) := by decide +kernel
theorem dX9_kind_27 : decode cX9_kind 27 = .ok (.getfield 394, 3) := by decide +kernel
theorem dX9_kind_30 : decode cX9_kind 30 = .ok (.ifCond .eq 7, 3) := by decide +kernel
theorem dX9_kind_33 : decode cX9_kind 33 = .ok (.iconst 4, 1) := by decide +kernel
theorem dX9_kind_34 : decode cX9_kind 34 = .ok (.goto 18, 3) := by decide +kernel
theorem dX9_kind_37 : decode cX9_kind 37 = .ok (.aload_n 0, 1) := by decide +kernel
theorem dX9_kind_38 : decode cX9_kind 38 = .ok (.invokevirtual 379, 3) := by decide +kernel
theorem dX9_kind_41 : decode cX9_kind 41 = .ok (.invokestatic 245, 3) := by decide +kernel
theorem dX9_kind_44 : decode cX9_kind 44 = .ok (.ifCond .eq 7, 3) := by decide +kernel
theorem dX9_kind_47 : decode cX9_kind 47 = .ok (.iconst 2, 1) := by decide +kernel
theorem dX9_kind_48 : decode cX9_kind 48 = .ok (.goto 4, 3) := by decide +kernel
theorem dX9_kind_51 : decode cX9_kind 51 = .ok (.iconst 3, 1) := by decide +kernel
theorem dX9_kind_52 : decode cX9_kind 52 = .ok (.ireturn, 1) := by decide +kernel
theorem dX9_negative_0 : decode cX9_negative 0 = .ok (.aload_n 0, 1) := by decide +kernel
theorem dX9_negative_1 : decode cX9_negative 1 = .ok (.getfield 365, 3) := by decide +kernel
theorem dX9_negative_4 : decode cX9_negative 4 = .ok (.ifnonnull 5, 3) := by decide +kernel
theorem dX9_negative_7 : decode cX9_negative 7 = .ok (.iconst 0, 1) := by decide +kernel
theorem dX9_negative_8 : decode cX9_negative 8 = .ok (.ireturn, 1) := by decide +kernel
theorem dX9_negative_9 : decode cX9_negative 9 = .ok (.aload_n 0, 1) := by decide +kernel
theorem dX9_negative_10 : decode cX9_negative 10 = .ok (.invokevirtual 387, 3) := by decide +kernel
theorem dX9_negative_13 : decode cX9_negative 13 = .ok (.ifCond .eq 41, 3) := by decide +kernel
theorem dX9_negative_16 : decode cX9_negative 16 = .ok (.aload_n 0, 1) := by decide +kernel
theorem dX9_negative_17 : decode cX9_negative 17 = .ok (.getfield 365, 3) := by decide +kernel
theorem dX9_negative_20 : decode cX9_negative 20 = .ok (.checkcast 201, 3) := by decide +kernel
theorem dX9_negative_23 : decode cX9_negative 23 = .ok (.getfield 394, 3) := by decide +kernel
theorem dX9_negative_26 : decode cX9_negative 26 = .ok (.ifCond .ne 26, 3) := by decide +kernel
theorem dX9_negative_29 : decode cX9_negative 29 = .ok (.aload_n 0, 1) := by decide +kernel
theorem dX9_negative_30 : decode cX9_negative 30 = .ok (.invokevirtual 379, 3) := by decide +kernel
theorem dX9_negative_33 : decode cX9_negative 33 = .ok (.dconst 0, 1) := by decide +kernel
theorem dX9_negative_34 : decode cX9_negative 34 = .ok (.dcmp .g, 1) := by decide +kernel
theorem dX9_negative_35 : decode cX9_negative 35 = .ok (.ifCond .lt 13, 3) := by decide +kernel
theorem dX9_negative_38 : decode cX9_negative 38 = .ok (.aload_n 0, 1) := by decide +kernel
theorem dX9_negative_39 : decode cX9_negative 39 = .ok (.invokevirtual 379, 3) := by decide +kernel
theorem dX9_negative_42 : decode cX9_negative 42 = .ok (.invokestatic 257, 3) := by decide +kernel
theorem dX9_negative_45 : decode cX9_negative 45 = .ok (.ifCond .eq 7, 3) := by decide +kernel
theorem dX9_negative_48 : decode cX9_negative 48 = .ok (.iconst 1, 1) := by decide +kernel
theorem dX9_negative_49 : decode cX9_negative 49 = .ok (.goto 4, 3) := by decide +kernel
theorem dX9_negative_52 : decode cX9_negative 52 = .ok (.iconst 0, 1) := by decide +kernel
theorem dX9_negative_53 : decode cX9_negative 53 = .ok (.ireturn, 1) := by decide +kernel
theorem dX9_negative_54 : decode cX9_negative 54 = .ok (.aload_n 0, 1) := by decide +kernel
theorem dX9_negative_55 : decode cX9_negative 55 = .ok (.getfield 365, 3) := by decide +kernel
theorem dX9_negative_58 : decode cX9_negative 58 = .ok (.invokestatic 207, 3) := by decide +kernel
theorem dX9_negative_61 : decode cX9_negative 61 = .ok (.getfield 109, 3) := by decide +kernel
theorem dX9_negative_64 : decode cX9_negative 64 = .ok (.ifCond .ge 7, 3) := by decide +kernel
theorem dX9_negative_67 : decode cX9_negative 67 = .ok (.iconst 1, 1) := by decide +kernel
theorem dX9_negative_68 : decode cX9_negative 68 = .ok (.goto 4, 3) := by decide +kernel
theorem dX9_negative_71 : decode cX9_negative 71 = .ok (.iconst 0, 1) := by decide +kernel
theorem dX9_negative_72 : decode cX9_negative 72 = .ok (.ireturn, 1) := by decide +kernel
theorem dX9_doublings_0 : decode cX9_doublings 0 = .ok (.aload_n 0, 1) := by decide +kernel
theorem dX9_doublings_1 : decode cX9_doublings 1 = .ok (.invokevirtual 379, 3) := by decide +kernel
theorem dX9_doublings_4 : decode cX9_doublings 4 = .ok (.dconst 0, 1) := by decide +kernel
theorem dX9_doublings_5 : decode cX9_doublings 5 = .ok (.dcmp .l, 1) := by decide +kernel
theorem dX9_doublings_6 : decode cX9_doublings 6 = .ok (.ifCond .ne 5, 3) := by decide +kernel
theorem dX9_doublings_9 : decode cX9_doublings 9 = .ok (.iconst 0, 1) := by decide +kernel
theorem dX9_doublings_10 : decode cX9_doublings 10 = .ok (.ireturn, 1) := by decide +kernel
theorem dX9_doublings_11 : decode cX9_doublings 11 = .ok (.iconst 0, 1) := by decide +kernel
theorem dX9_doublings_12 : decode cX9_doublings 12 = .ok (.istore_n 1, 1) := by decide +kernel
theorem dX9_doublings_13 : decode cX9_doublings 13 = .ok (.aload_n 0, 1) := by decide +kernel
theorem dX9_doublings_14 : decode cX9_doublings 14 = .ok (.invokevirtual 379, 3) := by decide +kernel
theorem dX9_doublings_17 : decode cX9_doublings 17 = .ok (.invokestatic 227, 3) := by decide +kernel
theorem dX9_doublings_20 : decode cX9_doublings 20 = .ok (.lstore_n 2, 1) := by decide +kernel
theorem dX9_doublings_21 : decode cX9_doublings 21 = .ok (.lload_n 2, 1) := by decide +kernel
theorem dX9_doublings_22 : decode cX9_doublings 22 = .ok (.ldc2_w 139, 3) := by decide +kernel
theorem dX9_doublings_25 : decode cX9_doublings 25 = .ok (.lcmp, 1) := by decide +kernel
theorem dX9_doublings_26 : decode cX9_doublings 26 = .ok (.ifCond .ge 30, 3) := by decide +kernel
theorem dX9_doublings_29 : decode cX9_doublings 29 = .ok (.aload_n 0, 1) := by decide +kernel
theorem dX9_doublings_30 : decode cX9_doublings 30 = .ok (.invokevirtual 379, 3) := by decide +kernel
theorem dX9_doublings_33 : decode cX9_doublings 33 = .ok (.invokestatic 231, 3) := by decide +kernel
theorem dX9_doublings_36 : decode cX9_doublings 36 = .ok (.iload_n 1, 1) := by decide +kernel
theorem dX9_doublings_37 : decode cX9_doublings 37 = .ok (.isub, 1) := by decide +kernel
theorem dX9_doublings_38 : decode cX9_doublings 38 = .ok (.sipush (-1074), 3) := by decide +kernel
theorem dX9_doublings_41 : decode cX9_doublings 41 = .ok (.if_icmp .le 15, 3) := by decide +kernel
theorem dX9_doublings_44 : decode cX9_doublings 44 = .ok (.iinc 1 1, 3) := by decide +kernel
theorem dX9_doublings_47 : decode cX9_doublings 47 = .ok (.lload_n 2, 1) := by decide +kernel
theorem dX9_doublings_48 : decode cX9_doublings 48 = .ok (.ldc2_w 145, 3) := by decide +kernel
theorem dX9_doublings_51 : decode cX9_doublings 51 = .ok (.lmul, 1) := by decide +kernel
theorem dX9_doublings_52 : decode cX9_doublings 52 = .ok (.lstore_n 2, 1) := by decide +kernel
theorem dX9_doublings_53 : decode cX9_doublings 53 = .ok (.goto (-32), 3) := by decide +kernel
theorem dX9_doublings_56 : decode cX9_doublings 56 = .ok (.iload_n 1, 1) := by decide +kernel
theorem dX9_doublings_57 : decode cX9_doublings 57 = .ok (.ireturn, 1) := by decide +kernel
theorem dX9_units_0 : decode cX9_units 0 = .ok (.aload_n 0, 1) := by decide +kernel
theorem dX9_units_1 : decode cX9_units 1 = .ok (.invokevirtual 376, 3) := by decide +kernel
theorem dX9_units_4 : decode cX9_units 4 = .ok (.iconst 2, 1) := by decide +kernel
theorem dX9_units_5 : decode cX9_units 5 = .ok (.if_icmp .eq 7, 3) := by decide +kernel
theorem dX9_units_8 : decode cX9_units 8 = .ok (.ldc2_w 398, 3) := by decide +kernel
theorem dX9_units_11 : decode cX9_units 11 = .ok (.lreturn, 1) := by decide +kernel
theorem dX9_units_12 : decode cX9_units 12 = .ok (.aload_n 0, 1) := by decide +kernel
theorem dX9_units_13 : decode cX9_units 13 = .ok (.invokevirtual 379, 3) := by decide +kernel
theorem dX9_units_16 : decode cX9_units 16 = .ok (.dconst 0, 1) := by decide +kernel
theorem dX9_units_17 : decode cX9_units 17 = .ok (.dcmp .l, 1) := by decide +kernel
theorem dX9_units_18 : decode cX9_units 18 = .ok (.ifCond .ne 7, 3) := by decide +kernel
theorem dX9_units_21 : decode cX9_units 21 = .ok (.lconst 0, 1) := by decide +kernel
theorem dX9_units_22 : decode cX9_units 22 = .ok (.goto 15, 3) := by decide +kernel
theorem dX9_units_25 : decode cX9_units 25 = .ok (.aload_n 0, 1) := by decide +kernel
theorem dX9_units_26 : decode cX9_units 26 = .ok (.invokevirtual 379, 3) := by decide +kernel
theorem dX9_units_29 : decode cX9_units 29 = .ok (.invokestatic 227, 3) := by decide +kernel
theorem dX9_units_32 : decode cX9_units 32 = .ok (.aload_n 0, 1) := by decide +kernel
theorem dX9_units_33 : decode cX9_units 33 = .ok (.invokevirtual 400, 3) := by decide +kernel
theorem dX9_units_36 : decode cX9_units 36 = .ok (.lshl, 1) := by decide +kernel
theorem dX9_units_37 : decode cX9_units 37 = .ok (.lreturn, 1) := by decide +kernel
theorem dX9_place_0 : decode cX9_place 0 = .ok (.aload_n 0, 1) := by decide +kernel
theorem dX9_place_1 : decode cX9_place 1 = .ok (.invokevirtual 376, 3) := by decide +kernel
theorem dX9_place_4 : decode cX9_place 4 = .ok (.iconst 2, 1) := by decide +kernel
theorem dX9_place_5 : decode cX9_place 5 = .ok (.if_icmp .eq 5, 3) := by decide +kernel
theorem dX9_place_8 : decode cX9_place 8 = .ok (.iconst 0, 1) := by decide +kernel
theorem dX9_place_9 : decode cX9_place 9 = .ok (.ireturn, 1) := by decide +kernel
theorem dX9_place_10 : decode cX9_place 10 = .ok (.aload_n 0, 1) := by decide +kernel
theorem dX9_place_11 : decode cX9_place 11 = .ok (.invokevirtual 379, 3) := by decide +kernel
theorem dX9_place_14 : decode cX9_place 14 = .ok (.dconst 0, 1) := by decide +kernel
theorem dX9_place_15 : decode cX9_place 15 = .ok (.dcmp .l, 1) := by decide +kernel
theorem dX9_place_16 : decode cX9_place 16 = .ok (.ifCond .ne 9, 3) := by decide +kernel
theorem dX9_place_19 : decode cX9_place 19 = .ok (.sipush (-1074), 3) := by decide +kernel
theorem dX9_place_22 : decode cX9_place 22 = .ok (.goto 15, 3) := by decide +kernel
theorem dX9_place_25 : decode cX9_place 25 = .ok (.aload_n 0, 1) := by decide +kernel
theorem dX9_place_26 : decode cX9_place 26 = .ok (.invokevirtual 379, 3) := by decide +kernel
theorem dX9_place_29 : decode cX9_place 29 = .ok (.invokestatic 231, 3) := by decide +kernel
theorem dX9_place_32 : decode cX9_place 32 = .ok (.aload_n 0, 1) := by decide +kernel
theorem dX9_place_33 : decode cX9_place 33 = .ok (.invokevirtual 400, 3) := by decide +kernel
theorem dX9_place_36 : decode cX9_place 36 = .ok (.isub, 1) := by decide +kernel
theorem dX9_place_37 : decode cX9_place 37 = .ok (.ireturn, 1) := by decide +kernel
theorem dX9_bits_0 : decode cX9_bits 0 = .ok (.aload_n 0, 1) := by decide +kernel
theorem dX9_bits_1 : decode cX9_bits 1 = .ok (.invokevirtual 376, 3) := by decide +kernel
theorem dX9_bits_4 : decode cX9_bits 4 = .ok (.iconst 1, 1) := by decide +kernel
theorem dX9_bits_5 : decode cX9_bits 5 = .ok (.if_icmp .eq 5, 3) := by decide +kernel
theorem dX9_bits_8 : decode cX9_bits 8 = .ok (.iconst (-1), 1) := by decide +kernel
theorem dX9_bits_9 : decode cX9_bits 9 = .ok (.ireturn, 1) := by decide +kernel
theorem dX9_bits_10 : decode cX9_bits 10 = .ok (.iload_n 1, 1) := by decide +kernel
theorem dX9_bits_11 : decode cX9_bits 11 = .ok (.ifCond .eq 13, 3) := by decide +kernel
theorem dX9_bits_14 : decode cX9_bits 14 = .ok (.aload_n 0, 1) := by decide +kernel
theorem dX9_bits_15 : decode cX9_bits 15 = .ok (.getfield 365, 3) := by decide +kernel
theorem dX9_bits_18 : decode cX9_bits 18 = .ok (.invokestatic 210, 3) := by decide +kernel
theorem dX9_bits_21 : decode cX9_bits 21 = .ok (.goto 10, 3) := by decide +kernel
theorem dX9_bits_24 : decode cX9_bits 24 = .ok (.aload_n 0, 1) := by decide +kernel
theorem dX9_bits_25 : decode cX9_bits 25 = .ok (.getfield 365, 3) := by decide +kernel
theorem dX9_bits_28 : decode cX9_bits 28 = .ok (.invokestatic 207, 3) := by decide +kernel
theorem dX9_bits_31 : decode cX9_bits 31 = .ok (.astore_n 2, 1) := by decide +kernel
theorem dX9_bits_32 : decode cX9_bits 32 = .ok (.aload_n 0, 1) := by decide +kernel
theorem dX9_bits_33 : decode cX9_bits 33 = .ok (.aload_n 2, 1) := by decide +kernel
theorem dX9_bits_34 : decode cX9_bits 34 = .ok (.getfield 104, 3) := by decide +kernel
theorem dX9_bits_37 : decode cX9_bits 37 = .ok (.aload_n 2, 1) := by decide +kernel
theorem dX9_bits_38 : decode cX9_bits 38 = .ok (.getfield 104, 3) := by decide +kernel
theorem dX9_bits_41 : decode cX9_bits 41 = .ok (.arraylength, 1) := by decide +kernel
theorem dX9_bits_42 : decode cX9_bits 42 = .ok (.invokevirtual 170, 3) := by decide +kernel
theorem dX9_bits_45 : decode cX9_bits 45 = .ok (.ireturn, 1) := by decide +kernel
theorem dX9_write_0 : decode cX9_write 0 = .ok (.aload_n 0, 1) := by decide +kernel
theorem dX9_write_1 : decode cX9_write 1 = .ok (.getfield 365, 3) := by decide +kernel
theorem dX9_write_4 : decode cX9_write 4 = .ok (.ifnull 27, 3) := by decide +kernel
theorem dX9_write_7 : decode cX9_write 7 = .ok (.iload_n 1, 1) := by decide +kernel
theorem dX9_write_8 : decode cX9_write 8 = .ok (.iconst 2, 1) := by decide +kernel
theorem dX9_write_9 : decode cX9_write 9 = .ok (.if_icmp .lt 22, 3) := by decide +kernel
theorem dX9_write_12 : decode cX9_write 12 = .ok (.iload_n 1, 1) := by decide +kernel
theorem dX9_write_13 : decode cX9_write 13 = .ok (.bipush 16, 2) := by decide +kernel
theorem dX9_write_15 : decode cX9_write 15 = .ok (.if_icmp .gt 16, 3) := by decide +kernel
theorem dX9_write_18 : decode cX9_write 18 = .ok (.aload_n 0, 1) := by decide +kernel
theorem dX9_write_19 : decode cX9_write 19 = .ok (.invokevirtual 387, 3) := by decide +kernel
theorem dX9_write_22 : decode cX9_write 22 = .ok (.ifCond .eq 11, 3) := by decide +kernel
theorem dX9_write_25 : decode cX9_write 25 = .ok (.iload_n 1, 1) := by decide +kernel
theorem dX9_write_26 : decode cX9_write 26 = .ok (.bipush 10, 2) := by decide +kernel
theorem dX9_write_28 : decode cX9_write 28 = .ok (.if_icmp .eq 5, 3) := by decide +kernel
theorem dX9_write_31 : decode cX9_write 31 = .ok (.iconst (-1), 1) := by decide +kernel
theorem dX9_write_32 : decode cX9_write 32 = .ok (.ireturn, 1) := by decide +kernel
theorem dX9_write_33 : decode cX9_write 33 = .ok (.aload_n 0, 1) := by decide +kernel
theorem dX9_write_34 : decode cX9_write 34 = .ok (.iconst 0, 1) := by decide +kernel
theorem dX9_write_35 : decode cX9_write 35 = .ok (.putfield 82, 3) := by decide +kernel
theorem dX9_write_38 : decode cX9_write 38 = .ok (.aload_n 0, 1) := by decide +kernel
theorem dX9_write_39 : decode cX9_write 39 = .ok (.invokevirtual 387, 3) := by decide +kernel
theorem dX9_write_42 : decode cX9_write 42 = .ok (.ifCond .ne 46, 3) := by decide +kernel
theorem dX9_write_45 : decode cX9_write 45 = .ok (.aload_n 0, 1) := by decide +kernel
theorem dX9_write_46 : decode cX9_write 46 = .ok (.aload_n 0, 1) := by decide +kernel
theorem dX9_write_47 : decode cX9_write 47 = .ok (.getfield 365, 3) := by decide +kernel
theorem dX9_write_50 : decode cX9_write 50 = .ok (.invokestatic 207, 3) := by decide +kernel
theorem dX9_write_53 : decode cX9_write 53 = .ok (.iload_n 1, 1) := by decide +kernel
theorem dX9_write_54 : decode cX9_write 54 = .ok (.invokevirtual 403, 3) := by decide +kernel
theorem dX9_write_57 : decode cX9_write 57 = .ok (.aload_n 0, 1) := by decide +kernel
theorem dX9_write_58 : decode cX9_write 58 = .ok (.getfield 365, 3) := by decide +kernel
theorem dX9_write_61 : decode cX9_write 61 = .ok (.instanceof 157, 3) := by decide +kernel
theorem dX9_write_64 : decode cX9_write 64 = .ok (.ifCond .eq 55, 3) := by decide +kernel
theorem dX9_write_67 : decode cX9_write 67 = .ok (.aload_n 0, 1) := by decide +kernel
theorem dX9_write_68 : decode cX9_write 68 = .ok (.bipush 47, 2) := by decide +kernel
theorem dX9_write_70 : decode cX9_write 70 = .ok (.invokevirtual 96, 3) := by decide +kernel
theorem dX9_write_73 : decode cX9_write 73 = .ok (.aload_n 0, 1) := by decide +kernel
theorem dX9_write_74 : decode cX9_write 74 = .ok (.aload_n 0, 1) := by decide +kernel
theorem dX9_write_75 : decode cX9_write 75 = .ok (.getfield 365, 3) := by decide +kernel
theorem dX9_write_78 : decode cX9_write 78 = .ok (.invokestatic 210, 3) := by decide +kernel
theorem dX9_write_81 : decode cX9_write 81 = .ok (.iload_n 1, 1) := by decide +kernel
theorem dX9_write_82 : decode cX9_write 82 = .ok (.invokevirtual 403, 3) := by decide +kernel
theorem dX9_write_85 : decode cX9_write 85 = .ok (.goto 34, 3) := by decide +kernel
theorem dX9_write_88 : decode cX9_write 88 = .ok (.aload_n 0, 1) := by decide +kernel
theorem dX9_write_89 : decode cX9_write 89 = .ok (.getfield 365, 3) := by decide +kernel
theorem dX9_write_92 : decode cX9_write 92 = .ok (.checkcast 201, 3) := by decide +kernel
theorem dX9_write_95 : decode cX9_write 95 = .ok (.getfield 394, 3) := by decide +kernel
theorem dX9_write_98 : decode cX9_write 98 = .ok (.ifCond .eq 13, 3) := by decide +kernel
theorem dX9_write_101 : decode cX9_write 101 = .ok (.aload_n 0, 1) := by decide +kernel
theorem dX9_write_102 : decode cX9_write 102 = .ok (.ldc_w 407, 3) := by decide +kernel
theorem dX9_write_105 : decode cX9_write 105 = .ok (.invokevirtual 253, 3) := by decide +kernel
theorem dX9_write_108 : decode cX9_write 108 = .ok (.goto 11, 3) := by decide +kernel
theorem dX9_write_111 : decode cX9_write 111 = .ok (.aload_n 0, 1) := by decide +kernel
theorem dX9_write_112 : decode cX9_write 112 = .ok (.aload_n 0, 1) := by decide +kernel
theorem dX9_write_113 : decode cX9_write 113 = .ok (.invokevirtual 379, 3) := by decide +kernel
theorem dX9_write_116 : decode cX9_write 116 = .ok (.invokevirtual 409, 3) := by decide +kernel
theorem dX9_write_119 : decode cX9_write 119 = .ok (.aload_n 0, 1) := by decide +kernel
theorem dX9_write_120 : decode cX9_write 120 = .ok (.getfield 82, 3) := by decide +kernel
theorem dX9_write_123 : decode cX9_write 123 = .ok (.ireturn, 1) := by decide +kernel
theorem dX9_out_0 : decode cX9_out 0 = .ok (.iload_n 1, 1) := by decide +kernel
theorem dX9_out_1 : decode cX9_out 1 = .ok (.ifCond .lt 11, 3) := by decide +kernel
theorem dX9_out_4 : decode cX9_out 4 = .ok (.iload_n 1, 1) := by decide +kernel
theorem dX9_out_5 : decode cX9_out 5 = .ok (.aload_n 0, 1) := by decide +kernel
theorem dX9_out_6 : decode cX9_out 6 = .ok (.getfield 82, 3) := by decide +kernel
theorem dX9_out_9 : decode cX9_out 9 = .ok (.if_icmp .lt 7, 3) := by decide +kernel
theorem dX9_out_12 : decode cX9_out 12 = .ok (.iconst (-1), 1) := by decide +kernel
theorem dX9_out_13 : decode cX9_out 13 = .ok (.goto 9, 3) := by decide +kernel
theorem dX9_out_16 : decode cX9_out 16 = .ok (.aload_n 0, 1) := by decide +kernel
theorem dX9_out_17 : decode cX9_out 17 = .ok (.getfield 79, 3) := by decide +kernel
theorem dX9_out_20 : decode cX9_out 20 = .ok (.iload_n 1, 1) := by decide +kernel
theorem dX9_out_21 : decode cX9_out 21 = .ok (.iaload, 1) := by decide +kernel
theorem dX9_out_22 : decode cX9_out 22 = .ok (.ireturn, 1) := by decide +kernel
theorem dX9_back_0 : decode cX9_back 0 = .ok (.aload_n 0, 1) := by decide +kernel
theorem dX9_back_1 : decode cX9_back 1 = .ok (.getfield 82, 3) := by decide +kernel
theorem dX9_back_4 : decode cX9_back 4 = .ok (.sipush 400, 3) := by decide +kernel
theorem dX9_back_7 : decode cX9_back 7 = .ok (.if_icmp .le 5, 3) := by decide +kernel
theorem dX9_back_10 : decode cX9_back 10 = .ok (.iconst 0, 1) := by decide +kernel
theorem dX9_back_11 : decode cX9_back 11 = .ok (.ireturn, 1) := by decide +kernel
theorem dX9_back_12 : decode cX9_back 12 = .ok (.aload_n 0, 1) := by decide +kernel
theorem dX9_back_13 : decode cX9_back 13 = .ok (.aload_n 0, 1) := by decide +kernel
theorem dX9_back_14 : decode cX9_back 14 = .ok (.getfield 82, 3) := by decide +kernel
theorem dX9_back_17 : decode cX9_back 17 = .ok (.putfield 359, 3) := by decide +kernel
theorem dX9_back_20 : decode cX9_back 20 = .ok (.iconst 0, 1) := by decide +kernel
theorem dX9_back_21 : decode cX9_back 21 = .ok (.istore_n 1, 1) := by decide +kernel
theorem dX9_back_22 : decode cX9_back 22 = .ok (.iload_n 1, 1) := by decide +kernel
theorem dX9_back_23 : decode cX9_back 23 = .ok (.aload_n 0, 1) := by decide +kernel
theorem dX9_back_24 : decode cX9_back 24 = .ok (.getfield 359, 3) := by decide +kernel
theorem dX9_back_27 : decode cX9_back 27 = .ok (.if_icmp .ge 21, 3) := by decide +kernel
theorem dX9_back_30 : decode cX9_back 30 = .ok (.aload_n 0, 1) := by decide +kernel
theorem dX9_back_31 : decode cX9_back 31 = .ok (.getfield 356, 3) := by decide +kernel
theorem dX9_back_34 : decode cX9_back 34 = .ok (.iload_n 1, 1) := by decide +kernel
theorem dX9_back_35 : decode cX9_back 35 = .ok (.aload_n 0, 1) := by decide +kernel
theorem dX9_back_36 : decode cX9_back 36 = .ok (.getfield 79, 3) := by decide +kernel
theorem dX9_back_39 : decode cX9_back 39 = .ok (.iload_n 1, 1) := by decide +kernel
theorem dX9_back_40 : decode cX9_back 40 = .ok (.iaload, 1) := by decide +kernel
theorem dX9_back_41 : decode cX9_back 41 = .ok (.iastore, 1) := by decide +kernel
theorem dX9_back_42 : decode cX9_back 42 = .ok (.iinc 1 1, 3) := by decide +kernel
theorem dX9_back_45 : decode cX9_back 45 = .ok (.goto (-23), 3) := by decide +kernel
theorem dX9_back_48 : decode cX9_back 48 = .ok (.iconst 1, 1) := by decide +kernel
theorem dX9_back_49 : decode cX9_back 49 = .ok (.ireturn, 1) := by decide +kernel
theorem dL_law_0 : decode cL_law 0 = .ok (.new 7, 3) := by decide +kernel
theorem dL_law_3 : decode cL_law 3 = .ok (.dup, 1) := by decide +kernel
theorem dL_law_4 : decode cL_law 4 = .ok (.invokespecial 9, 3) := by decide +kernel
theorem dL_law_7 : decode cL_law 7 = .ok (.astore_n 1, 1) := by decide +kernel
theorem dL_law_8 : decode cL_law 8 = .ok (.new 10, 3) := by decide +kernel
theorem dL_law_11 : decode cL_law 11 = .ok (.dup, 1) := by decide +kernel
theorem dL_law_12 : decode cL_law 12 = .ok (.invokespecial 12, 3) := by decide +kernel
theorem dL_law_15 : decode cL_law 15 = .ok (.astore_n 2, 1) := by decide +kernel
theorem dL_law_16 : decode cL_law 16 = .ok (.iconst 0, 1) := by decide +kernel
theorem dL_law_17 : decode cL_law 17 = .ok (.istore_n 3, 1) := by decide +kernel
theorem dL_law_18 : decode cL_law 18 = .ok (.iload_n 3, 1) := by decide +kernel
theorem dL_law_19 : decode cL_law 19 = .ok (.aload_n 0, 1) := by decide +kernel
theorem dL_law_20 : decode cL_law 20 = .ok (.arraylength, 1) := by decide +kernel
theorem dL_law_21 : decode cL_law 21 = .ok (.iconst 5, 1) := by decide +kernel
theorem dL_law_22 : decode cL_law 22 = .ok (.isub, 1) := by decide +kernel
theorem dL_law_23 : decode cL_law 23 = .ok (.if_icmp .gt 497, 3) := by decide +kernel
theorem dL_law_26 : decode cL_law 26 = .ok (.aload_n 0, 1) := by decide +kernel
theorem dL_law_27 : decode cL_law 27 = .ok (.iload_n 3, 1) := by decide +kernel
theorem dL_law_28 : decode cL_law 28 = .ok (.iaload, 1) := by decide +kernel
theorem dL_law_29 : decode cL_law 29 = .ok (.bipush 15, 2) := by decide +kernel
theorem dL_law_31 : decode cL_law 31 = .ok (.iand, 1) := by decide +kernel
theorem dL_law_32 : decode cL_law 32 = .ok (.tableswitch 482 0 14 #[76, 99, 110, 123, 212, 305, 318, 331, 344, 357, 371, 384, 423, 446, 469], 76) := by decide +kernel
theorem dL_law_108 : decode cL_law 108 = .ok (.aload_n 1, 1) := by decide +kernel
theorem dL_law_109 : decode cL_law 109 = .ok (.aload_n 0, 1) := by decide +kernel
theorem dL_law_110 : decode cL_law 110 = .ok (.iload_n 3, 1) := by decide +kernel
theorem dL_law_111 : decode cL_law 111 = .ok (.iconst 1, 1) := by decide +kernel
theorem dL_law_112 : decode cL_law 112 = .ok (.iadd, 1) := by decide +kernel
theorem dL_law_113 : decode cL_law 113 = .ok (.iaload, 1) := by decide +kernel
theorem dL_law_114 : decode cL_law 114 = .ok (.invokevirtual 13, 3) := by decide +kernel
theorem dL_law_117 : decode cL_law 117 = .ok (.aload_n 2, 1) := by decide +kernel
theorem dL_law_118 : decode cL_law 118 = .ok (.aload_n 0, 1) := by decide +kernel
theorem dL_law_119 : decode cL_law 119 = .ok (.iload_n 3, 1) := by decide +kernel
theorem dL_law_120 : decode cL_law 120 = .ok (.iconst 1, 1) := by decide +kernel
theorem dL_law_121 : decode cL_law 121 = .ok (.iadd, 1) := by decide +kernel
theorem dL_law_122 : decode cL_law 122 = .ok (.iaload, 1) := by decide +kernel
theorem dL_law_123 : decode cL_law 123 = .ok (.invokevirtual 17, 3) := by decide +kernel
theorem dL_law_126 : decode cL_law 126 = .ok (.if_icmp .eq 388, 3) := by decide +kernel
theorem dL_law_129 : decode cL_law 129 = .ok (.iconst 0, 1) := by decide +kernel
theorem dL_law_130 : decode cL_law 130 = .ok (.ireturn, 1) := by decide +kernel
theorem dL_law_131 : decode cL_law 131 = .ok (.aload_n 1, 1) := by decide +kernel
theorem dL_law_132 : decode cL_law 132 = .ok (.invokevirtual 18, 3) := by decide +kernel
theorem dL_law_135 : decode cL_law 135 = .ok (.aload_n 2, 1) := by decide +kernel
theorem dL_law_136 : decode cL_law 136 = .ok (.invokevirtual 21, 3) := by decide +kernel
theorem dL_law_139 : decode cL_law 139 = .ok (.goto 375, 3) := by decide +kernel
theorem dL_law_142 : decode cL_law 142 = .ok (.aload_n 1, 1) := by decide +kernel
theorem dL_law_143 : decode cL_law 143 = .ok (.invokevirtual 22, 3) := by decide +kernel
theorem dL_law_146 : decode cL_law 146 = .ok (.aload_n 2, 1) := by decide +kernel
theorem dL_law_147 : decode cL_law 147 = .ok (.invokevirtual 26, 3) := by decide +kernel
theorem dL_law_150 : decode cL_law 150 = .ok (.if_icmp .eq 364, 3) := by decide +kernel
theorem dL_law_153 : decode cL_law 153 = .ok (.iconst 0, 1) := by decide +kernel
theorem dL_law_154 : decode cL_law 154 = .ok (.ireturn, 1) := by decide +kernel
theorem dL_law_155 : decode cL_law 155 = .ok (.aload_n 1, 1) := by decide +kernel
theorem dL_law_156 : decode cL_law 156 = .ok (.aload_n 0, 1) := by decide +kernel
theorem dL_law_157 : decode cL_law 157 = .ok (.iload_n 3, 1) := by decide +kernel
theorem dL_law_158 : decode cL_law 158 = .ok (.iconst 1, 1) := by decide +kernel
theorem dL_law_159 : decode cL_law 159 = .ok (.iadd, 1) := by decide +kernel
theorem dL_law_160 : decode cL_law 160 = .ok (.iaload, 1) := by decide +kernel
theorem dL_law_161 : decode cL_law 161 = .ok (.ifCond .eq 7, 3) := by decide +kernel
theorem dL_law_164 : decode cL_law 164 = .ok (.iconst 1, 1) := by decide +kernel
theorem dL_law_165 : decode cL_law 165 = .ok (.goto 4, 3) := by decide +kernel
theorem dL_law_168 : decode cL_law 168 = .ok (.iconst 0, 1) := by decide +kernel
theorem dL_law_169 : decode cL_law 169 = .ok (.aload_n 0, 1) := by decide +kernel
theorem dL_law_170 : decode cL_law 170 = .ok (.iload_n 3, 1) := by decide +kernel
theorem dL_law_171 : decode cL_law 171 = .ok (.iconst 2, 1) := by decide +kernel
theorem dL_law_172 : decode cL_law 172 = .ok (.iadd, 1) := by decide +kernel
theorem dL_law_173 : decode cL_law 173 = .ok (.iaload, 1) := by decide +kernel
theorem dL_law_174 : decode cL_law 174 = .ok (.i2l, 1) := by decide +kernel
theorem dL_law_175 : decode cL_law 175 = .ok (.bipush 32, 2) := by decide +kernel
theorem dL_law_177 : decode cL_law 177 = .ok (.lshl, 1) := by decide +kernel
theorem dL_law_178 : decode cL_law 178 = .ok (.aload_n 0, 1) := by decide +kernel
theorem dL_law_179 : decode cL_law 179 = .ok (.iload_n 3, 1) := by decide +kernel
theorem dL_law_180 : decode cL_law 180 = .ok (.iconst 3, 1) := by decide +kernel
theorem dL_law_181 : decode cL_law 181 = .ok (.iadd, 1) := by decide +kernel
theorem dL_law_182 : decode cL_law 182 = .ok (.iaload, 1) := by decide +kernel
theorem dL_law_183 : decode cL_law 183 = .ok (.i2l, 1) := by decide +kernel
theorem dL_law_184 : decode cL_law 184 = .ok (.ldc2_w 27, 3) := by decide +kernel
theorem dL_law_187 : decode cL_law 187 = .ok (.land, 1) := by decide +kernel
theorem dL_law_188 : decode cL_law 188 = .ok (.lor, 1) := by decide +kernel
theorem dL_law_189 : decode cL_law 189 = .ok (.aload_n 0, 1) := by decide +kernel
theorem dL_law_190 : decode cL_law 190 = .ok (.iload_n 3, 1) := by decide +kernel
theorem dL_law_191 : decode cL_law 191 = .ok (.iconst 4, 1) := by decide +kernel
theorem dL_law_192 : decode cL_law 192 = .ok (.iadd, 1) := by decide +kernel
theorem dL_law_193 : decode cL_law 193 = .ok (.iaload, 1) := by decide +kernel
theorem dL_law_194 : decode cL_law 194 = .ok (.invokevirtual 29, 3) := by decide +kernel
theorem dL_law_197 : decode cL_law 197 = .ok (.aload_n 2, 1) := by decide +kernel
theorem dL_law_198 : decode cL_law 198 = .ok (.aload_n 0, 1) := by decide +kernel
theorem dL_law_199 : decode cL_law 199 = .ok (.iload_n 3, 1) := by decide +kernel
theorem dL_law_200 : decode cL_law 200 = .ok (.iconst 1, 1) := by decide +kernel
theorem dL_law_201 : decode cL_law 201 = .ok (.iadd, 1) := by decide +kernel
theorem dL_law_202 : decode cL_law 202 = .ok (.iaload, 1) := by decide +kernel
theorem dL_law_203 : decode cL_law 203 = .ok (.ifCond .eq 7, 3) := by decide +kernel
theorem dL_law_206 : decode cL_law 206 = .ok (.iconst 1, 1) := by decide +kernel
theorem dL_law_207 : decode cL_law 207 = .ok (.goto 4, 3) := by decide +kernel
theorem dL_law_210 : decode cL_law 210 = .ok (.iconst 0, 1) := by decide +kernel
theorem dL_law_211 : decode cL_law 211 = .ok (.aload_n 0, 1) := by decide +kernel
theorem dL_law_212 : decode cL_law 212 = .ok (.iload_n 3, 1) := by decide +kernel
theorem dL_law_213 : decode cL_law 213 = .ok (.iconst 2, 1) := by decide +kernel
theorem dL_law_214 : decode cL_law 214 = .ok (.iadd, 1) := by decide +kernel
theorem dL_law_215 : decode cL_law 215 = .ok (.iaload, 1) := by decide +kernel
theorem dL_law_216 : decode cL_law 216 = .ok (.i2l, 1) := by decide +kernel
theorem dL_law_217 : decode cL_law 217 = .ok (.bipush 32, 2) := by decide +kernel
theorem dL_law_219 : decode cL_law 219 = .ok (.lshl, 1) := by decide +kernel
theorem dL_law_220 : decode cL_law 220 = .ok (.aload_n 0, 1) := by decide +kernel
theorem dL_law_221 : decode cL_law 221 = .ok (.iload_n 3, 1) := by decide +kernel
theorem dL_law_222 : decode cL_law 222 = .ok (.iconst 3, 1) := by decide +kernel
theorem dL_law_223 : decode cL_law 223 = .ok (.iadd, 1) := by decide +kernel
theorem dL_law_224 : decode cL_law 224 = .ok (.iaload, 1) := by decide +kernel
theorem dL_law_225 : decode cL_law 225 = .ok (.i2l, 1) := by decide +kernel
theorem dL_law_226 : decode cL_law 226 = .ok (.ldc2_w 27, 3) := by decide +kernel
theorem dL_law_229 : decode cL_law 229 = .ok (.land, 1) := by decide +kernel
theorem dL_law_230 : decode cL_law 230 = .ok (.lor, 1) := by decide +kernel
theorem dL_law_231 : decode cL_law 231 = .ok (.aload_n 0, 1) := by decide +kernel
theorem dL_law_232 : decode cL_law 232 = .ok (.iload_n 3, 1) := by decide +kernel
theorem dL_law_233 : decode cL_law 233 = .ok (.iconst 4, 1) := by decide +kernel
theorem dL_law_234 : decode cL_law 234 = .ok (.iadd, 1) := by decide +kernel
theorem dL_law_235 : decode cL_law 235 = .ok (.iaload, 1) := by decide +kernel
theorem dL_law_236 : decode cL_law 236 = .ok (.invokevirtual 33, 3) := by decide +kernel
theorem dL_law_239 : decode cL_law 239 = .ok (.if_icmp .eq 275, 3) := by decide +kernel
theorem dL_law_242 : decode cL_law 242 = .ok (.iconst 0, 1) := by decide +kernel
theorem dL_law_243 : decode cL_law 243 = .ok (.ireturn, 1) := by decide +kernel
theorem dL_law_244 : decode cL_law 244 = .ok (.aload_n 1, 1) := by decide +kernel
theorem dL_law_245 : decode cL_law 245 = .ok (.aload_n 0, 1) := by decide +kernel
theorem dL_law_246 : decode cL_law 246 = .ok (.iload_n 3, 1) := by decide +kernel
theorem dL_law_247 : decode cL_law 247 = .ok (.iconst 1, 1) := by decide +kernel
theorem dL_law_248 : decode cL_law 248 = .ok (.iadd, 1) := by decide +kernel
theorem dL_law_249 : decode cL_law 249 = .ok (.iaload, 1) := by decide +kernel
theorem dL_law_250 : decode cL_law 250 = .ok (.i2l, 1) := by decide +kernel
theorem dL_law_251 : decode cL_law 251 = .ok (.bipush 32, 2) := by decide +kernel
theorem dL_law_253 : decode cL_law 253 = .ok (.lshl, 1) := by decide +kernel
theorem dL_law_254 : decode cL_law 254 = .ok (.aload_n 0, 1) := by decide +kernel
theorem dL_law_255 : decode cL_law 255 = .ok (.iload_n 3, 1) := by decide +kernel
theorem dL_law_256 : decode cL_law 256 = .ok (.iconst 2, 1) := by decide +kernel
theorem dL_law_257 : decode cL_law 257 = .ok (.iadd, 1) := by decide +kernel
theorem dL_law_258 : decode cL_law 258 = .ok (.iaload, 1) := by decide +kernel
theorem dL_law_259 : decode cL_law 259 = .ok (.i2l, 1) := by decide +kernel
theorem dL_law_260 : decode cL_law 260 = .ok (.ldc2_w 27, 3) := by decide +kernel
theorem dL_law_263 : decode cL_law 263 = .ok (.land, 1) := by decide +kernel
theorem dL_law_264 : decode cL_law 264 = .ok (.lor, 1) := by decide +kernel
theorem dL_law_265 : decode cL_law 265 = .ok (.aload_n 0, 1) := by decide +kernel
theorem dL_law_266 : decode cL_law 266 = .ok (.iload_n 3, 1) := by decide +kernel
theorem dL_law_267 : decode cL_law 267 = .ok (.iconst 3, 1) := by decide +kernel
theorem dL_law_268 : decode cL_law 268 = .ok (.iadd, 1) := by decide +kernel
theorem dL_law_269 : decode cL_law 269 = .ok (.iaload, 1) := by decide +kernel
theorem dL_law_270 : decode cL_law 270 = .ok (.i2l, 1) := by decide +kernel
theorem dL_law_271 : decode cL_law 271 = .ok (.bipush 32, 2) := by decide +kernel
theorem dL_law_273 : decode cL_law 273 = .ok (.lshl, 1) := by decide +kernel
theorem dL_law_274 : decode cL_law 274 = .ok (.aload_n 0, 1) := by decide +kernel
theorem dL_law_275 : decode cL_law 275 = .ok (.iload_n 3, 1) := by decide +kernel
theorem dL_law_276 : decode cL_law 276 = .ok (.iconst 4, 1) := by decide +kernel
theorem dL_law_277 : decode cL_law 277 = .ok (.iadd, 1) := by decide +kernel
theorem dL_law_278 : decode cL_law 278 = .ok (.iaload, 1) := by decide +kernel
theorem dL_law_279 : decode cL_law 279 = .ok (.i2l, 1) := by decide +kernel
theorem dL_law_280 : decode cL_law 280 = .ok (.ldc2_w 27, 3) := by decide +kernel
theorem dL_law_283 : decode cL_law 283 = .ok (.land, 1) := by decide +kernel
theorem dL_law_284 : decode cL_law 284 = .ok (.lor, 1) := by decide +kernel
theorem dL_law_285 : decode cL_law 285 = .ok (.invokevirtual 34, 3) := by decide +kernel
theorem dL_law_288 : decode cL_law 288 = .ok (.aload_n 2, 1) := by decide +kernel
theorem dL_law_289 : decode cL_law 289 = .ok (.aload_n 0, 1) := by decide +kernel
theorem dL_law_290 : decode cL_law 290 = .ok (.iload_n 3, 1) := by decide +kernel
theorem dL_law_291 : decode cL_law 291 = .ok (.iconst 1, 1) := by decide +kernel
theorem dL_law_292 : decode cL_law 292 = .ok (.iadd, 1) := by decide +kernel
theorem dL_law_293 : decode cL_law 293 = .ok (.iaload, 1) := by decide +kernel
theorem dL_law_294 : decode cL_law 294 = .ok (.i2l, 1) := by decide +kernel
theorem dL_law_295 : decode cL_law 295 = .ok (.bipush 32, 2) := by decide +kernel
theorem dL_law_297 : decode cL_law 297 = .ok (.lshl, 1) := by decide +kernel
theorem dL_law_298 : decode cL_law 298 = .ok (.aload_n 0, 1) := by decide +kernel
theorem dL_law_299 : decode cL_law 299 = .ok (.iload_n 3, 1) := by decide +kernel
theorem dL_law_300 : decode cL_law 300 = .ok (.iconst 2, 1) := by decide +kernel
theorem dL_law_301 : decode cL_law 301 = .ok (.iadd, 1) := by decide +kernel
theorem dL_law_302 : decode cL_law 302 = .ok (.iaload, 1) := by decide +kernel
theorem dL_law_303 : decode cL_law 303 = .ok (.i2l, 1) := by decide +kernel
theorem dL_law_304 : decode cL_law 304 = .ok (.ldc2_w 27, 3) := by decide +kernel
theorem dL_law_307 : decode cL_law 307 = .ok (.land, 1) := by decide +kernel
theorem dL_law_308 : decode cL_law 308 = .ok (.lor, 1) := by decide +kernel
theorem dL_law_309 : decode cL_law 309 = .ok (.aload_n 0, 1) := by decide +kernel
theorem dL_law_310 : decode cL_law 310 = .ok (.iload_n 3, 1) := by decide +kernel
theorem dL_law_311 : decode cL_law 311 = .ok (.iconst 3, 1) := by decide +kernel
theorem dL_law_312 : decode cL_law 312 = .ok (.iadd, 1) := by decide +kernel
theorem dL_law_313 : decode cL_law 313 = .ok (.iaload, 1) := by decide +kernel
theorem dL_law_314 : decode cL_law 314 = .ok (.i2l, 1) := by decide +kernel
theorem dL_law_315 : decode cL_law 315 = .ok (.bipush 32, 2) := by decide +kernel
theorem dL_law_317 : decode cL_law 317 = .ok (.lshl, 1) := by decide +kernel
theorem dL_law_318 : decode cL_law 318 = .ok (.aload_n 0, 1) := by decide +kernel
theorem dL_law_319 : decode cL_law 319 = .ok (.iload_n 3, 1) := by decide +kernel
theorem dL_law_320 : decode cL_law 320 = .ok (.iconst 4, 1) := by decide +kernel
theorem dL_law_321 : decode cL_law 321 = .ok (.iadd, 1) := by decide +kernel
theorem dL_law_322 : decode cL_law 322 = .ok (.iaload, 1) := by decide +kernel
theorem dL_law_323 : decode cL_law 323 = .ok (.i2l, 1) := by decide +kernel
theorem dL_law_324 : decode cL_law 324 = .ok (.ldc2_w 27, 3) := by decide +kernel
theorem dL_law_327 : decode cL_law 327 = .ok (.land, 1) := by decide +kernel
theorem dL_law_328 : decode cL_law 328 = .ok (.lor, 1) := by decide +kernel
theorem dL_law_329 : decode cL_law 329 = .ok (.invokevirtual 38, 3) := by decide +kernel
theorem dL_law_332 : decode cL_law 332 = .ok (.if_icmp .eq 182, 3) := by decide +kernel
theorem dL_law_335 : decode cL_law 335 = .ok (.iconst 0, 1) := by decide +kernel
theorem dL_law_336 : decode cL_law 336 = .ok (.ireturn, 1) := by decide +kernel
theorem dL_law_337 : decode cL_law 337 = .ok (.aload_n 1, 1) := by decide +kernel
theorem dL_law_338 : decode cL_law 338 = .ok (.invokevirtual 39, 3) := by decide +kernel
theorem dL_law_341 : decode cL_law 341 = .ok (.aload_n 2, 1) := by decide +kernel
theorem dL_law_342 : decode cL_law 342 = .ok (.invokevirtual 43, 3) := by decide +kernel
theorem dL_law_345 : decode cL_law 345 = .ok (.if_icmp .eq 169, 3) := by decide +kernel
theorem dL_law_348 : decode cL_law 348 = .ok (.iconst 0, 1) := by decide +kernel
theorem dL_law_349 : decode cL_law 349 = .ok (.ireturn, 1) := by decide +kernel
theorem dL_law_350 : decode cL_law 350 = .ok (.aload_n 1, 1) := by decide +kernel
theorem dL_law_351 : decode cL_law 351 = .ok (.invokevirtual 44, 3) := by decide +kernel
theorem dL_law_354 : decode cL_law 354 = .ok (.aload_n 2, 1) := by decide +kernel
theorem dL_law_355 : decode cL_law 355 = .ok (.invokevirtual 47, 3) := by decide +kernel
theorem dL_law_358 : decode cL_law 358 = .ok (.if_icmp .eq 156, 3) := by decide +kernel
theorem dL_law_361 : decode cL_law 361 = .ok (.iconst 0, 1) := by decide +kernel
theorem dL_law_362 : decode cL_law 362 = .ok (.ireturn, 1) := by decide +kernel
theorem dL_law_363 : decode cL_law 363 = .ok (.aload_n 1, 1) := by decide +kernel
theorem dL_law_364 : decode cL_law 364 = .ok (.invokevirtual 48, 3) := by decide +kernel
theorem dL_law_367 : decode cL_law 367 = .ok (.aload_n 2, 1) := by decide +kernel
theorem dL_law_368 : decode cL_law 368 = .ok (.invokevirtual 51, 3) := by decide +kernel
theorem dL_law_371 : decode cL_law 371 = .ok (.if_icmp .eq 143, 3) := by decide +kernel
theorem dL_law_374 : decode cL_law 374 = .ok (.iconst 0, 1) := by decide +kernel
theorem dL_law_375 : decode cL_law 375 = .ok (.ireturn, 1) := by decide +kernel
theorem dL_law_376 : decode cL_law 376 = .ok (.aload_n 1, 1) := by decide +kernel
theorem dL_law_377 : decode cL_law 377 = .ok (.invokevirtual 52, 3) := by decide +kernel
theorem dL_law_380 : decode cL_law 380 = .ok (.aload_n 2, 1) := by decide +kernel
theorem dL_law_381 : decode cL_law 381 = .ok (.invokevirtual 55, 3) := by decide +kernel
theorem dL_law_384 : decode cL_law 384 = .ok (.if_icmp .eq 130, 3) := by decide +kernel
theorem dL_law_387 : decode cL_law 387 = .ok (.iconst 0, 1) := by decide +kernel
theorem dL_law_388 : decode cL_law 388 = .ok (.ireturn, 1) := by decide +kernel
theorem dL_law_389 : decode cL_law 389 = .ok (.aload_n 1, 1) := by decide +kernel
theorem dL_law_390 : decode cL_law 390 = .ok (.invokevirtual 56, 3) := by decide +kernel
theorem dL_law_393 : decode cL_law 393 = .ok (.aload_n 2, 1) := by decide +kernel
theorem dL_law_394 : decode cL_law 394 = .ok (.invokevirtual 60, 3) := by decide +kernel
theorem dL_law_397 : decode cL_law 397 = .ok (.lcmp, 1) := by decide +kernel
theorem dL_law_398 : decode cL_law 398 = .ok (.ifCond .eq 116, 3) := by decide +kernel
theorem dL_law_401 : decode cL_law 401 = .ok (.iconst 0, 1) := by decide +kernel
theorem dL_law_402 : decode cL_law 402 = .ok (.ireturn, 1) := by decide +kernel
theorem dL_law_403 : decode cL_law 403 = .ok (.aload_n 1, 1) := by decide +kernel
theorem dL_law_404 : decode cL_law 404 = .ok (.invokevirtual 61, 3) := by decide +kernel
theorem dL_law_407 : decode cL_law 407 = .ok (.aload_n 2, 1) := by decide +kernel
theorem dL_law_408 : decode cL_law 408 = .ok (.invokevirtual 64, 3) := by decide +kernel
theorem dL_law_411 : decode cL_law 411 = .ok (.if_icmp .eq 103, 3) := by decide +kernel
theorem dL_law_414 : decode cL_law 414 = .ok (.iconst 0, 1) := by decide +kernel
theorem dL_law_415 : decode cL_law 415 = .ok (.ireturn, 1) := by decide +kernel
theorem dL_law_416 : decode cL_law 416 = .ok (.aload_n 1, 1) := by decide +kernel
theorem dL_law_417 : decode cL_law 417 = .ok (.aload_n 0, 1) := by decide +kernel
theorem dL_law_418 : decode cL_law 418 = .ok (.iload_n 3, 1) := by decide +kernel
theorem dL_law_419 : decode cL_law 419 = .ok (.iconst 1, 1) := by decide +kernel
theorem dL_law_420 : decode cL_law 420 = .ok (.iadd, 1) := by decide +kernel
theorem dL_law_421 : decode cL_law 421 = .ok (.iaload, 1) := by decide +kernel
theorem dL_law_422 : decode cL_law 422 = .ok (.ifCond .eq 7, 3) := by decide +kernel
theorem dL_law_425 : decode cL_law 425 = .ok (.iconst 1, 1) := by decide +kernel
theorem dL_law_426 : decode cL_law 426 = .ok (.goto 4, 3) := by decide +kernel
theorem dL_law_429 : decode cL_law 429 = .ok (.iconst 0, 1) := by decide +kernel
theorem dL_law_430 : decode cL_law 430 = .ok (.invokevirtual 65, 3) := by decide +kernel
theorem dL_law_433 : decode cL_law 433 = .ok (.aload_n 2, 1) := by decide +kernel
theorem dL_law_434 : decode cL_law 434 = .ok (.aload_n 0, 1) := by decide +kernel
theorem dL_law_435 : decode cL_law 435 = .ok (.iload_n 3, 1) := by decide +kernel
theorem dL_law_436 : decode cL_law 436 = .ok (.iconst 1, 1) := by decide +kernel
theorem dL_law_437 : decode cL_law 437 = .ok (.iadd, 1) := by decide +kernel
theorem dL_law_438 : decode cL_law 438 = .ok (.iaload, 1) := by decide +kernel
theorem dL_law_439 : decode cL_law 439 = .ok (.ifCond .eq 7, 3) := by decide +kernel
theorem dL_law_442 : decode cL_law 442 = .ok (.iconst 1, 1) := by decide +kernel
theorem dL_law_443 : decode cL_law 443 = .ok (.goto 4, 3) := by decide +kernel
theorem dL_law_446 : decode cL_law 446 = .ok (.iconst 0, 1) := by decide +kernel
theorem dL_law_447 : decode cL_law 447 = .ok (.invokevirtual 69, 3) := by decide +kernel
theorem dL_law_450 : decode cL_law 450 = .ok (.if_icmp .eq 64, 3) := by decide +kernel
theorem dL_law_453 : decode cL_law 453 = .ok (.iconst 0, 1) := by decide +kernel
theorem dL_law_454 : decode cL_law 454 = .ok (.ireturn, 1) := by decide +kernel
theorem dL_law_455 : decode cL_law 455 = .ok (.aload_n 1, 1) := by decide +kernel
theorem dL_law_456 : decode cL_law 456 = .ok (.aload_n 0, 1) := by decide +kernel
theorem dL_law_457 : decode cL_law 457 = .ok (.iload_n 3, 1) := by decide +kernel
theorem dL_law_458 : decode cL_law 458 = .ok (.iconst 1, 1) := by decide +kernel
theorem dL_law_459 : decode cL_law 459 = .ok (.iadd, 1) := by decide +kernel
theorem dL_law_460 : decode cL_law 460 = .ok (.iaload, 1) := by decide +kernel
theorem dL_law_461 : decode cL_law 461 = .ok (.invokevirtual 70, 3) := by decide +kernel
theorem dL_law_464 : decode cL_law 464 = .ok (.aload_n 2, 1) := by decide +kernel
theorem dL_law_465 : decode cL_law 465 = .ok (.aload_n 0, 1) := by decide +kernel
theorem dL_law_466 : decode cL_law 466 = .ok (.iload_n 3, 1) := by decide +kernel
theorem dL_law_467 : decode cL_law 467 = .ok (.iconst 1, 1) := by decide +kernel
theorem dL_law_468 : decode cL_law 468 = .ok (.iadd, 1) := by decide +kernel
theorem dL_law_469 : decode cL_law 469 = .ok (.iaload, 1) := by decide +kernel
theorem dL_law_470 : decode cL_law 470 = .ok (.invokevirtual 73, 3) := by decide +kernel
theorem dL_law_473 : decode cL_law 473 = .ok (.if_icmp .eq 41, 3) := by decide +kernel
theorem dL_law_476 : decode cL_law 476 = .ok (.iconst 0, 1) := by decide +kernel
theorem dL_law_477 : decode cL_law 477 = .ok (.ireturn, 1) := by decide +kernel
theorem dL_law_478 : decode cL_law 478 = .ok (.aload_n 1, 1) := by decide +kernel
theorem dL_law_479 : decode cL_law 479 = .ok (.aload_n 0, 1) := by decide +kernel
theorem dL_law_480 : decode cL_law 480 = .ok (.iload_n 3, 1) := by decide +kernel
theorem dL_law_481 : decode cL_law 481 = .ok (.iconst 1, 1) := by decide +kernel
theorem dL_law_482 : decode cL_law 482 = .ok (.iadd, 1) := by decide +kernel
theorem dL_law_483 : decode cL_law 483 = .ok (.iaload, 1) := by decide +kernel
theorem dL_law_484 : decode cL_law 484 = .ok (.invokevirtual 74, 3) := by decide +kernel
theorem dL_law_487 : decode cL_law 487 = .ok (.aload_n 2, 1) := by decide +kernel
theorem dL_law_488 : decode cL_law 488 = .ok (.aload_n 0, 1) := by decide +kernel
theorem dL_law_489 : decode cL_law 489 = .ok (.iload_n 3, 1) := by decide +kernel
theorem dL_law_490 : decode cL_law 490 = .ok (.iconst 1, 1) := by decide +kernel
theorem dL_law_491 : decode cL_law 491 = .ok (.iadd, 1) := by decide +kernel
theorem dL_law_492 : decode cL_law 492 = .ok (.iaload, 1) := by decide +kernel
theorem dL_law_493 : decode cL_law 493 = .ok (.invokevirtual 77, 3) := by decide +kernel
theorem dL_law_496 : decode cL_law 496 = .ok (.if_icmp .eq 18, 3) := by decide +kernel
theorem dL_law_499 : decode cL_law 499 = .ok (.iconst 0, 1) := by decide +kernel
theorem dL_law_500 : decode cL_law 500 = .ok (.ireturn, 1) := by decide +kernel
theorem dL_law_501 : decode cL_law 501 = .ok (.aload_n 1, 1) := by decide +kernel
theorem dL_law_502 : decode cL_law 502 = .ok (.invokevirtual 78, 3) := by decide +kernel
theorem dL_law_505 : decode cL_law 505 = .ok (.aload_n 2, 1) := by decide +kernel
theorem dL_law_506 : decode cL_law 506 = .ok (.invokevirtual 81, 3) := by decide +kernel
theorem dL_law_509 : decode cL_law 509 = .ok (.if_icmp .eq 5, 3) := by decide +kernel
theorem dL_law_512 : decode cL_law 512 = .ok (.iconst 0, 1) := by decide +kernel
theorem dL_law_513 : decode cL_law 513 = .ok (.ireturn, 1) := by decide +kernel
theorem dL_law_514 : decode cL_law 514 = .ok (.iinc 3 5, 3) := by decide +kernel
theorem dL_law_517 : decode cL_law 517 = .ok (.goto (-499), 3) := by decide +kernel
theorem dL_law_520 : decode cL_law 520 = .ok (.iconst 1, 1) := by decide +kernel
theorem dL_law_521 : decode cL_law 521 = .ok (.ireturn, 1) := by decide +kernel
end
section
/-! NUMBERS: an int is iz z for a whole number z, a long lz z -/
def iz (z : Int) : Int32 := Int32.ofInt z
def lz (z : Int) : Int64 := Int64.ofInt z
abbrev rg (z : Int) : Prop := -2147483648 ≤ z ∧ z ≤ 2147483647
abbrev rgL (z : Int) : Prop := -9223372036854775808 ≤ z ∧ z ≤ 9223372036854775807
theorem iz_toInt {z : Int} (h : rg z) : (iz z).toInt = z := Int32.toInt_ofInt_of_le (by have := h.1; omega) (by have := h.2; omega)
theorem lz_toInt {z : Int} (h : rgL z) : (lz z).toInt = z := Int64.toInt_ofInt_of_le (by have := h.1; omega) (by have := h.2; omega)
theorem iz_bmod (z : Int) : (iz z).toInt = z.bmod (2 ^ 32) := Int32.toInt_ofInt
theorem lz_bmod (z : Int) : (lz z).toInt = z.bmod (2 ^ 64) := Int64.toInt_ofInt
theorem iz_self (x : Int32) : iz x.toInt = x := Int32.ofInt_toInt x
theorem lz_self (x : Int64) : lz x.toInt = x := Int64.ofInt_toInt x
theorem iz_add (a b : Int) : iz a + iz b = iz (a + b) := by
  apply Int32.toInt_inj.mp
  rw [Int32.toInt_add, iz_bmod, iz_bmod, iz_bmod, Int.add_bmod_bmod, Int.bmod_add_bmod]
theorem iz_sub (a b : Int) : iz a - iz b = iz (a - b) := by
  apply Int32.toInt_inj.mp
  rw [Int32.toInt_sub, iz_bmod, iz_bmod, iz_bmod, Int.sub_bmod_bmod, Int.bmod_sub_bmod]
theorem iz_mul (a b : Int) : iz a * iz b = iz (a * b) := by
  apply Int32.toInt_inj.mp
  rw [Int32.toInt_mul, iz_bmod, iz_bmod, iz_bmod, Int.mul_bmod_bmod, Int.bmod_mul_bmod]
theorem iz_neg (a : Int) : - iz a = iz (-a) := by
  apply Int32.toInt_inj.mp
  rw [Int32.toInt_neg, iz_bmod, iz_bmod, ← Int.zero_sub (a.bmod _), Int.sub_bmod_bmod, Int.zero_sub]
theorem lz_add (a b : Int) : lz a + lz b = lz (a + b) := by
  apply Int64.toInt_inj.mp
  rw [Int64.toInt_add, lz_bmod, lz_bmod, lz_bmod, Int.add_bmod_bmod, Int.bmod_add_bmod]
theorem lz_sub (a b : Int) : lz a - lz b = lz (a - b) := by
  apply Int64.toInt_inj.mp
  rw [Int64.toInt_sub, lz_bmod, lz_bmod, lz_bmod, Int.sub_bmod_bmod, Int.bmod_sub_bmod]
theorem lz_mul (a b : Int) : lz a * lz b = lz (a * b) := by
  apply Int64.toInt_inj.mp
  rw [Int64.toInt_mul, lz_bmod, lz_bmod, lz_bmod, Int.mul_bmod_bmod, Int.bmod_mul_bmod]
theorem lz_neg (a : Int) : - lz a = lz (-a) := by
  apply Int64.toInt_inj.mp
  rw [Int64.toInt_neg, lz_bmod, lz_bmod, ← Int.zero_sub (a.bmod _), Int.sub_bmod_bmod, Int.zero_sub]
theorem iz_div {a b : Int} (ha : rg a) (hb : rg b) : iz a / iz b = iz (a.tdiv b) := by
  apply Int32.toInt_inj.mp
  rw [Int32.toInt_div, iz_toInt ha, iz_toInt hb, iz_bmod]
theorem lz_div {a b : Int} (ha : rgL a) (hb : rgL b) : lz a / lz b = lz (a.tdiv b) := by
  apply Int64.toInt_inj.mp
  rw [Int64.toInt_div, lz_toInt ha, lz_toInt hb, lz_bmod]
theorem iz_rem {a b : Int} (ha : rg a) (hb : rg b) : iz a - iz a / iz b * iz b = iz (a.tmod b) := by
  rw [iz_div ha hb, iz_mul, iz_sub, Int.tmod_def, Int.mul_comm]
theorem lz_rem {a b : Int} (ha : rgL a) (hb : rgL b) : lz a - lz a / lz b * lz b = lz (a.tmod b) := by
  rw [lz_div ha hb, lz_mul, lz_sub, Int.tmod_def, Int.mul_comm]
theorem iz_lt {a b : Int} (ha : rg a) (hb : rg b) : iz a < iz b ↔ a < b := by rw [Int32.lt_iff_toInt_lt, iz_toInt ha, iz_toInt hb]
theorem iz_le {a b : Int} (ha : rg a) (hb : rg b) : iz a ≤ iz b ↔ a ≤ b := by rw [Int32.le_iff_toInt_le, iz_toInt ha, iz_toInt hb]
theorem iz_eq {a b : Int} (ha : rg a) (hb : rg b) : iz a = iz b ↔ a = b := by rw [← Int32.toInt_inj, iz_toInt ha, iz_toInt hb]
theorem lz_lt {a b : Int} (ha : rgL a) (hb : rgL b) : lz a < lz b ↔ a < b := by rw [Int64.lt_iff_toInt_lt, lz_toInt ha, lz_toInt hb]
theorem lz_eq {a b : Int} (ha : rgL a) (hb : rgL b) : lz a = lz b ↔ a = b := by rw [← Int64.toInt_inj, lz_toInt ha, lz_toInt hb]
theorem iz_clamp {a : Int} (ha : rg a) : (iz a).toNatClampNeg = a.toNat := by
  show (iz a).toInt.toNat = a.toNat
  rw [iz_toInt ha]
theorem iz_in {a : Int} {n : Nat} (h0 : 0 ≤ a) (h1 : a < n) (hn : n ≤ 2147483647) : vp_in (iz a) n := by
  have hr : rg a := ⟨by omega, by omega⟩
  rw [vp_in_iff, iz_toInt hr]
  exact ⟨h0, h1⟩
theorem iz_nat (n : Nat) : Int32.ofNat n = iz n := (Int32.ofInt_eq_ofNat).symm
theorem lz_nat (n : Nat) : Int64.ofNat n = lz n := (Int64.ofInt_eq_ofNat).symm
theorem lz_i32 (z : Int) : (lz z).toInt32 = iz z := Int64.toInt32_ofInt
theorem iz_i64 {z : Int} (h : rg z) : (iz z).toInt64 = lz z := Int32.toInt64_ofInt (by rw [Int32.toInt_minValue]; have := h.1; omega) (by rw [Int32.toInt_maxValue]; have := h.2; omega)
/-- bits of two ints, as a whole number -/
def iA (a b : Int) : Int := (iz a &&& iz b).toInt
def iO (a b : Int) : Int := (iz a ||| iz b).toInt
def iX (a b : Int) : Int := (iz a ^^^ iz b).toInt
def lA (a b : Int) : Int := (lz a &&& lz b).toInt
def lO (a b : Int) : Int := (lz a ||| lz b).toInt
theorem iz_and (a b : Int) : iz a &&& iz b = iz (iA a b) := (iz_self _).symm
theorem iz_or (a b : Int) : iz a ||| iz b = iz (iO a b) := (iz_self _).symm
theorem iz_xor (a b : Int) : iz a ^^^ iz b = iz (iX a b) := (iz_self _).symm
theorem lz_and (a b : Int) : lz a &&& lz b = lz (lA a b) := (lz_self _).symm
theorem lz_or (a b : Int) : lz a ||| lz b = lz (lO a b) := (lz_self _).symm
/-- shifts, as whole numbers -/
def iSl (a b : Int) : Int := (iz a <<< (iz b &&& 31)).toInt
def iSr (a b : Int) : Int := (iz a >>> (iz b &&& 31)).toInt
def iSu (a b : Int) : Int := ((iz a).toUInt32 >>> ((iz b).toUInt32 &&& Int32.toUInt32 31)).toInt32.toInt
def lSl (a b : Int) : Int := (lz a <<< ((iz b).toInt64 &&& 63)).toInt
def lSr (a b : Int) : Int := (lz a >>> ((iz b).toInt64 &&& 63)).toInt
def lSu (a b : Int) : Int := ((lz a).toUInt64 >>> ((iz b).toInt64.toUInt64 &&& Int64.toUInt64 63)).toInt64.toInt
/-- the answer of lcmp and of the comparisons of doubles, as a whole number -/
def lC (a b : Int) : Int := if a > b then 1 else if a = b then 0 else -1
theorem lC_eq {a b : Int} (ha : rgL a) (hb : rgL b) : lg_cmp (lz a) (lz b) = iz (lC a b) := by
  unfold lg_cmp lC
  by_cases h : b < a
  · rw [if_pos (show lz a > lz b from (lz_lt hb ha).mpr h), if_pos (show a > b from h)]; rfl
  · rw [if_neg (show ¬ lz a > lz b from fun q => h ((lz_lt hb ha).mp q)), if_neg (show ¬ a > b from h)]
    by_cases h2 : a = b
    · rw [if_pos ((lz_eq ha hb).mpr h2), if_pos h2]; rfl
    · rw [if_neg (fun q => h2 ((lz_eq ha hb).mp q)), if_neg h2]; rfl
def dC (op : CmpOp) (x y : UInt64) : Int := (Op.cmpValue (FP.dcmp x y) op).toInt
theorem rg_toInt (x : Int32) : rg x.toInt := ⟨by have := x.le_toInt; omega, by have := x.toInt_lt; omega⟩
theorem rgL_toInt (x : Int64) : rgL x.toInt := ⟨by have := x.le_toInt; omega, by have := x.toInt_lt; omega⟩
theorem rg_dC (op : CmpOp) (x y : UInt64) : rg (dC op x y) := rg_toInt _
theorem rg_lC (a b : Int) : rg (lC a b) := by unfold lC; split <;> (try split) <;> constructor <;> omega
theorem lC_lt (a b : Int) : lC a b < 0 ↔ a < b := by unfold lC; split <;> (try split) <;> omega
theorem lC_eq0 (a b : Int) : lC a b = 0 ↔ a = b := by unfold lC; split <;> (try split) <;> omega
theorem lC_gt (a b : Int) : 0 < lC a b ↔ b < a := by unfold lC; split <;> (try split) <;> omega
end
section
/-! THE FLAT WORLD: every cell that the run makes has a number; the cell of number i lies at the address base + i.
A cell is (kind, length, contents): kind 0..8 the classes of vwCl, 100 a row of ints, 101 a row of bytes; contents are whole numbers. -/
abbrev xC : Type := Nat × Nat × (Nat → Int)
abbrev xH : Type := Nat → xC
/-- base; the classes' numbers and slots; the classes of int[] and byte[]; the address of the table of fives; the texts' addresses, their bytes' -/
abbrev xG : Type := Nat × va_G × (ClassId × ClassId) × Nat × (Nat → Nat) × (Nat → Nat)
abbrev rf (G : xG) (a : Nat) : Value := .ref (G.1 + a)
def vR (G : xG) (z : Int) : Value := if z < 0 then .null else .ref (G.1 + z.toNat)
/-- a field's value by its type: 0 an int, 1 a long, 2 a double, 3 a reference -/
def vF (G : xG) (t : Nat) (z : Int) : Value := match t with
  | 0 => .int (iz z)
  | 1 => .long (lz z)
  | 2 => .double (UInt64.ofNat z.toNat)
  | _ => vR G z
/-- the types of a class's fields, in the order of their slots -/
def xT (ci : Nat) : List Nat := match ci with
  | 0 => [3, 0]
  | 1 => [3, 0]
  | 2 => [3, 0, 0, 0, 0, 0, 0, 0]
  | 3 => [3, 0, 0, 3, 3, 3, 3, 3]
  | 4 => [3, 3, 3, 0, 0, 1, 0, 3, 3, 3, 3, 3]
  | 5 => [3, 3]
  | 6 => [2, 0]
  | 7 => [0, 3]
  | _ => [3, 3, 3, 3, 3, 3, 3, 3, 3, 3, 3, 3, 3, 3, 3, 3, 3, 3, 3, 0, 3, 0, 3, 3, 0, 3]
def xF (G : xG) (ts : List Nat) (F : Nat → Int) : List Value := (List.range ts.length).map fun k => vF G (ts.getD k 0) (F k)
def xE (G : xG) (c : xC) : va_E := if c.1 = 100 then .inl (G.2.2.1.1, (c.2.1, .inl fun j => iz (c.2.2 j))) else if c.1 = 101 then .inl (G.2.2.1.2, (c.2.1, .inl fun j => iz (c.2.2 j))) else .inr (c.1, xF G (xT c.1) c.2.2)
def xw (G : xG) (n : Nat) (h : xH) : va_W := (List.range n).map fun i => (G.1 + i, xE G (h i))
/-- what a cell holds; a cell written; a new cell -/
abbrev hG (h : xH) (a k : Nat) : Int := (h a).2.2 k
def hS (h : xH) (a k : Nat) (z : Int) : xH := fun i => if i = a then ((h a).1, (h a).2.1, fun j => if j = k then z else (h a).2.2 j) else h i
def hN (h : xH) (a : Nat) (c : xC) : xH := fun i => if i = a then c else h i
theorem hS_self (h : xH) (a k : Nat) (z : Int) : hS h a k z a = ((h a).1, (h a).2.1, fun j => if j = k then z else (h a).2.2 j) := if_pos rfl
theorem hS_ne (h : xH) {a i : Nat} (k : Nat) (z : Int) (hi : i ≠ a) : hS h a k z i = h i := if_neg hi
theorem hN_self (h : xH) (a : Nat) (c : xC) : hN h a c a = c := if_pos rfl
theorem hN_ne (h : xH) {a i : Nat} (c : xC) (hi : i ≠ a) : hN h a c i = h i := if_neg hi
theorem xw_get {G : xG} {n : Nat} {h : xH} {i : Nat} (hi : i < n) : (xw G n h)[i]? = some (G.1 + i, xE G (h i)) := by
  unfold xw
  rw [List.getElem?_map, List.getElem?_range hi]
  rfl
theorem xw_inv {G : xG} {n : Nat} {h : xH} {i : Nat} {q : Nat × va_E} (hq : (xw G n h)[i]? = some q) : i < n ∧ q = (G.1 + i, xE G (h i)) := by
  have hi : i < n := by
    rcases Nat.lt_or_ge i n with g | g
    · exact g
    · rw [List.getElem?_eq_none (by unfold xw; simpa using g)] at hq
      cases hq
  rw [xw_get hi] at hq
  exact ⟨hi, (Option.some.inj hq).symm⟩
theorem xw_len {G : xG} {n : Nat} {h : xH} : (xw G n h).length = n := by unfold xw; simp
theorem xw_set {G : xG} {n : Nat} {h h' : xH} {i : Nat} {e : va_E} (he : xE G (h' i) = e) (ho : ∀ j, j ≠ i → h' j = h j) : (xw G n h).set i (G.1 + i, e) = xw G n h' := by
  apply List.ext_getElem?
  intro j
  by_cases hj : j = i
  · subst hj
    by_cases hl : j < n
    · rw [List.getElem?_set_self (by rw [xw_len]; exact hl), xw_get hl, he]
    · rw [List.getElem?_eq_none (by simp [xw_len]; omega), List.getElem?_eq_none (by rw [xw_len]; omega)]
  · rw [List.getElem?_set_ne (Ne.symm hj)]
    by_cases hl : j < n
    · rw [xw_get hl, xw_get hl, ho j hj]
    · rw [List.getElem?_eq_none (by rw [xw_len]; omega), List.getElem?_eq_none (by rw [xw_len]; omega)]
theorem xw_push {G : xG} {n : Nat} {h : xH} {c : xC} {e : va_E} (he : xE G c = e) : xw G n h ++ [(G.1 + n, e)] = xw G (n + 1) (hN h n c) := by
  unfold xw
  rw [List.range_succ, List.map_append]
  congr 1
  · apply List.map_congr_left
    intro i hi
    have := List.mem_range.mp hi
    rw [hN_ne _ _ (by omega)]
  · simp only [List.map_cons, List.map_nil, hN_self, he]
theorem xw_D {G : xG} {n : Nat} {h : xH} : va_D (fun q => G.1 ≤ q) (xw G n h) := by
  refine ⟨fun i j p q hi hj hpq => ?_, fun k q hk => ?_⟩
  · obtain ⟨-, rfl⟩ := xw_inv hi
    obtain ⟨-, rfl⟩ := xw_inv hj
    have : G.1 + i = G.1 + j := hpq
    omega
  · obtain ⟨-, rfl⟩ := xw_inv hk
    exact Nat.le_add_right _ _
/-- the rows' classes -/
abbrev xty (G : xG) : List (ClassId × FieldType) := [(G.2.2.1.1, .int), (G.2.2.1.2, .byte)]
/-- the words that speak of private members of nest mates; the texts that are constants -/
def xNest : List Cond := [(Cond.methodLinkNest "DoubleTexts" (9 : Nat) ({ cls := "DoubleTexts$Numeral", name := "<init>", desc := "()V" }  : MethodName) "DoubleTexts"), (Cond.methodLinkNest "DoubleTexts$Numeral" (11 : Nat) ({ cls := "DoubleTexts$Line", name := "<init>", desc := "()V" }  : MethodName) "DoubleTexts"), (Cond.methodLinkNest "DoubleTexts" (26 : Nat) ({ cls := "DoubleTexts$Line", name := "<init>", desc := "()V" }  : MethodName) "DoubleTexts"), (Cond.methodLinkNest "DoubleTexts" (47 : Nat) ({ cls := "DoubleTexts$Natural", name := "<init>", desc := "()V" }  : MethodName) "DoubleTexts"), (Cond.methodLinkNest "DoubleTexts" (63 : Nat) ({ cls := "DoubleTexts$ShortestDigits", name := "<init>", desc := "()V" }  : MethodName) "DoubleTexts"), (Cond.methodLinkNest "DoubleTexts$ShortestDigits" (24 : Nat) ({ cls := "DoubleTexts$Natural", name := "<init>", desc := "()V" }  : MethodName) "DoubleTexts"), (Cond.methodLinkNest "DoubleTextsModel$Real" (1 : Nat) ({ cls := "DoubleTextsModel$Num", name := "<init>", desc := "()V" }  : MethodName) "DoubleTextsModel"), (Cond.fieldLinkNest "DoubleTextsModel" (203 : Nat) "DoubleTextsModel$Real" "x" "D" "DoubleTextsModel"), (Cond.fieldLinkNest "DoubleTextsModel" (394 : Nat) "DoubleTextsModel$Real" "none" "Z" "DoubleTextsModel"), (Cond.methodLinkNest "DoubleTextsModel$Whole" (3 : Nat) ({ cls := "DoubleTextsModel$Num", name := "<init>", desc := "()V" }  : MethodName) "DoubleTextsModel"), (Cond.fieldLinkNest "DoubleTextsModel" (109 : Nat) "DoubleTextsModel$Whole" "sign" "I" "DoubleTextsModel"), (Cond.fieldLinkNest "DoubleTextsModel" (104 : Nat) "DoubleTextsModel$Whole" "digits" "[I" "DoubleTextsModel"), (Cond.methodLinkNest "DoubleTextsModel$Ratio" (1 : Nat) ({ cls := "DoubleTextsModel$Num", name := "<init>", desc := "()V" }  : MethodName) "DoubleTextsModel"), (Cond.fieldLinkNest "DoubleTextsModel" (159 : Nat) "DoubleTextsModel$Ratio" "above" "LDoubleTextsModel$Whole;" "DoubleTextsModel"), (Cond.fieldLinkNest "DoubleTextsModel" (167 : Nat) "DoubleTextsModel$Ratio" "below" "LDoubleTextsModel$Whole;" "DoubleTextsModel")]
def xStr : List (String × Nat × String × Nat) := [("DoubleTexts$Numeral", 65, "inf.0", 0), ("DoubleTexts$Numeral", 71, "nan.0", 1), ("DoubleTexts", 280, "0.", 2), ("DoubleTexts", 159, "inf.0", 0), ("DoubleTexts", 164, "+nan.0", 3), ("DoubleTextsModel", 107, "0123456789abcdefghijklmnopqrstuvwxyz", 4), ("DoubleTextsModel", 407, "+nan.0", 3), ("DoubleTextsModel", 249, "+inf.0", 5), ("DoubleTextsModel", 251, "-inf.0", 6), ("DoubleTextsModel", 260, "0.0", 7), ("DoubleTextsModel", 304, "0.", 2)]
def xLen : List Nat := [5, 5, 2, 6, 36, 6, 6, 3]
def xByt : List (List Int32) := [[105, 110, 102, 46, 48], [110, 97, 110, 46, 48], [48, 46], [43, 110, 97, 110, 46, 48], [48, 49, 50, 51, 52, 53, 54, 55, 56, 57, 97, 98, 99, 100, 101, 102, 103, 104, 105, 106, 107, 108, 109, 110, 111, 112, 113, 114, 115, 116, 117, 118, 119, 120, 121, 122], [43, 105, 110, 102, 46, 48], [45, 105, 110, 102, 46, 48], [48, 46, 48]]
def xP5 : List Int32 := [1, 5, 25, 125, 625, 3125, 15625, 78125, 390625, 1953125, 9765625, 48828125, 244140625, 1220703125]
def xNc : List (String × String) := [("DoubleTextsModel$Whole", "DoubleTextsModel$Real"), ("DoubleTextsModel$Ratio", "DoubleTextsModel$Real"), ("DoubleTextsModel$Real", "DoubleTextsModel$Whole"), ("DoubleTextsModel$Ratio", "DoubleTextsModel$Whole"), ("DoubleTextsModel$Real", "DoubleTextsModel$Ratio"), ("DoubleTextsModel$Whole", "DoubleTextsModel$Ratio")]
abbrev xA (G : xG) : Nat → Prop := fun q => G.1 ≤ q
/-- what stays as it is through the whole run -/
def xX (G : xG) (U : State) (H : Heap) : Prop :=
  (∀ w ∈ xNest, va_Nw w U) ∧ (∀ q ∈ xStr, vk_R q.1 q.2.1 q.2.2.1 (G.2.2.2.2.1 q.2.2.2) U) ∧ vk_S 8 xLen xByt G.2.2.2.2.1 G.2.2.2.2.2 (xA G) U H ∧
  va_Z "DoubleTexts$Natural" "POWERS_OF_FIVE" "[I" (.ref G.2.2.2.1) (xA G) U H ∧ va_T .int G.2.2.2.1 14 (fun j => .int (xP5.getD j 0)) (xA G) U H ∧
  va_Z "java/lang/String" "COMPACT_STRINGS" "Z" (.int 1) (xA G) U H ∧ va_Zq "jdk/internal/util/Preconditions" "SIOOBE_FORMATTER" "Ljava/util/function/BiFunction;" (xA G) U H ∧
  va_Z "java/lang/Math" "negativeZeroDoubleBits" "J" (.long (-9223372036854775808)) (xA G) U H ∧ (∀ q ∈ xNc, va_Nc q.1 q.2 U) ∧ va_Nw (.castable "[I" "java/lang/Cloneable") U
theorem xNest_warm : ∀ w ∈ xNest, ∀ {s U : State}, s.WarmedH U.vm → va_Nw w s → va_Nw w U := by
  unfold xNest
  simp only [List.mem_cons, List.not_mem_nil, or_false, forall_eq_or_imp, forall_eq]
  refine ⟨fun hW h => va_Nw.warmM hW h, fun hW h => va_Nw.warmM hW h, fun hW h => va_Nw.warmM hW h, fun hW h => va_Nw.warmM hW h, fun hW h => va_Nw.warmM hW h, fun hW h => va_Nw.warmM hW h, fun hW h => va_Nw.warmM hW h, fun hW h => va_Nw.warmF hW h, fun hW h => va_Nw.warmF hW h, fun hW h => va_Nw.warmM hW h, fun hW h => va_Nw.warmF hW h, fun hW h => va_Nw.warmF hW h, fun hW h => va_Nw.warmM hW h, fun hW h => va_Nw.warmF hW h, fun hW h => va_Nw.warmF hW h⟩
theorem xX.warm {G : xG} {s U : State} {H0 H : Heap} (h : xX G s H0) (hW : s.WarmedH U.vm) (hq : ∀ a : Nat, a < H0.size → ¬ xA G a → H[a]? = H0[a]?) : xX G U H := by
  obtain ⟨h1, h2, h3, h4, h5, h6, h7, h8, h9, h10⟩ := h
  have hv := hW.alike
  exact ⟨fun w hw => xNest_warm w hw hW (h1 w hw), fun q hm => (h2 q hm).warm hW, (h3.moved hv).kept hq, (h4.moved hv).kept hq, (h5.moved hv).kept hq, (h6.moved hv).kept hq, (h7.moved hv).kept hq, (h8.moved hv).kept hq, fun q hm => (h9 q hm).moved hv, va_Nw.warmC hW h10⟩
def xWd (G : xG) (n : Nat) (h : xH) (U : State) : Prop := U.heap.size = G.1 + n ∧ va_P G.2.1 vwCl (xw G n h) U.heap ∧ va_K G.2.1 vwCl (xty G) U ∧ xX G U U.heap
def xQ (G : xG) (Po : Option Value → Nat → xH → Prop) : Array Value → State → Outcome → State → Prop := fun _ st o t => (∃ (v : Option Value) (n : Nat) (h : xH), o = .returned v ∧ Po v n h ∧ t.heap.size = G.1 + n ∧ va_P G.2.1 vwCl (xw G n h) t.heap) ∧ va_F (xA G) st t
/-- A CONTRACT: from the world h of n cells, with these arguments, the method returns, and Po says of its answer, and of the world behind it -/
def xS (G : xG) (l : Launch) (y : MethodName) (ws : List Cond) (rm : Room) (av : List Value) (n : Nat) (h : xH) (Po : Option Value → Nat → xH → Prop) : Prop :=
  Met l y ws rm (va_Pc av (xWd G n h)) (xQ G Po) rm.cells rm.slots (xA G)
theorem xS.mono {G : xG} {l : Launch} {y : MethodName} {ws : List Cond} {rm : Room} {av : List Value} {n : Nat} {h : xH} {Po Po' : Option Value → Nat → xH → Prop} (hs : xS G l y ws rm av n h Po) (hp : ∀ v n h, Po v n h → Po' v n h) : xS G l y ws rm av n h Po' := by
  intro p e a1 a2 a3 s m args below b1 b2 b3 b4
  obtain ⟨k, o, c1, c2, c3, ⟨⟨v, n1, h1, d1, d2, d3⟩, d4⟩, c5⟩ := hs p e a1 a2 a3 s m args below b1 b2 b3 b4
  exact ⟨k, o, c1, c2, c3, ⟨⟨v, n1, h1, d1, hp _ _ _ d2, d3⟩, d4⟩, c5⟩
/-- where a walk stands: all that stays the same through it -/
abbrev xK : Type := Program × Launch × Env × Room × State × MethodId × Array Value × List Frame × Method × Code × (State → Prop)
abbrev kp (k : xK) : Program := k.1
abbrev kl (k : xK) : Launch := k.2.1
abbrev ke (k : xK) : Env := k.2.2.1
abbrev kR (k : xK) : Room := k.2.2.2.1
abbrev ks (k : xK) : State := k.2.2.2.2.1
abbrev km (k : xK) : MethodId := k.2.2.2.2.2.1
abbrev ka (k : xK) : Array Value := k.2.2.2.2.2.2.1
abbrev kb (k : xK) : List Frame := k.2.2.2.2.2.2.2.1
abbrev kt (k : xK) : Method := k.2.2.2.2.2.2.2.2.1
abbrev kc (k : xK) : Code := k.2.2.2.2.2.2.2.2.2.1
abbrev kQ (k : xK) : State → Prop := k.2.2.2.2.2.2.2.2.2.2
/-- THE WALK AT A POINT: locals L, operand stack st, the world h of n cells; so many cells and slots are made -/
def WW (G : xG) (k : xK) (nL cn sn pc : Nat) (L : List (Nat × Value)) (st : List Value) (n : Nat) (h : xH) : Prop :=
  ∀ (H : Heap) (locs : List Loc) (ls : Array Slot), H.size = G.1 + n → va_P G.2.1 vwCl (xw G n h) H → va_S (xA G) (ks k).heap H locs → lv_has ls nL L →
    W (kp k) (kl k) (ke k) (kR k) (ks k) (km k) (ka k) (kb k) (kt k) (kc k) H locs cn sn (kQ k) (F0 (km k) pc ls st)
/-- the words that a call needs, all in one list -/
def lw_all : List Cond := lw_tbl.filter goodWord
theorem lw_all_tbl {w : Cond} (h : w ∈ lw_all) : w ∈ lw_tbl := (List.mem_filter.mp h).1
theorem lw_all_good {w : Cond} (h : w ∈ lw_all) : (w.onTables && w.keeps) = true ∨ ∃ ty, w = .arrayClass ty := good_of_word (List.mem_filter.mp h).2
def CC (G : xG) (k : xK) (cc : ByteArray) (own : String) (nL : Nat) (rm : Room) : Prop :=
  (kp k).tables.exec = Jvm.exec ∧ (kc k).code = cc ∧ (kc k).maxLocals = nL ∧ (ks k).vm.findClass own = some (km k).cls ∧ (∀ w ∈ lw_all, w.before (ka k) (ks k) = true) ∧ va_K G.2.1 vwCl (xty G) (ks k) ∧ xX G (ks k) (ks k).heap ∧ kR k = rm ∧ G.1 ≤ (ks k).heap.size
/-- how a walk ends -/
def CQ (G : xG) (k : xK) (ret : Option FieldType) (rm : Room) (Po : Option Value → Nat → xH → Prop) : Prop :=
  (kt k).sig.returnType = ret ∧ (kt k).locks = false ∧ kQ k = MQ (kb k) (xQ G Po) (ka k) (ks k) rm.cells rm.slots (xA G)
end
section
section XR
variable {G : xG} {k : xK} {cc : ByteArray} {own : String} {nL cn sn pc n : Nat} {rm : Room} {L : List (Nat × Value)} {st : List Value} {h : xH}
theorem ww_iconst (C : CC G k cc own nL rm) {z z0 : Int} (d : decode cc pc = .ok (.iconst z0, 1)) (hz : Int32.ofInt z0 = iz z) (kk : WW G k nL cn sn (pc + 1) L (.int (iz z) :: st) n h) : WW G k nL cn sn pc L st n h := fun H q ls a b c e => lv_iconst C.1 C.2.1 d hz (kk H q ls a b c e)
theorem ww_bipush (C : CC G k cc own nL rm) {z z0 : Int} (d : decode cc pc = .ok (.bipush z0, 2)) (hz : (Int8.ofInt z0).toInt32 = iz z) (kk : WW G k nL cn sn (pc + 2) L (.int (iz z) :: st) n h) : WW G k nL cn sn pc L st n h := fun H q ls a b c e => lv_bipush C.1 C.2.1 d hz (kk H q ls a b c e)
theorem ww_sipush (C : CC G k cc own nL rm) {z z0 : Int} (d : decode cc pc = .ok (.sipush z0, 3)) (hz : (Int16.ofInt z0).toInt32 = iz z) (kk : WW G k nL cn sn (pc + 3) L (.int (iz z) :: st) n h) : WW G k nL cn sn pc L st n h := fun H q ls a b c e => lv_sipush C.1 C.2.1 d hz (kk H q ls a b c e)
theorem ww_lconst (C : CC G k cc own nL rm) {z : Int} {f : Fin 2} (d : decode cc pc = .ok (.lconst f, 1)) (hz : Int64.ofNat (f : Nat) = lz z) (kk : WW G k nL cn sn (pc + 1) L (.long (lz z) :: st) n h) : WW G k nL cn sn pc L st n h := fun H q ls a b c e => lv_lconst C.1 C.2.1 d hz (kk H q ls a b c e)
theorem ww_dconst0 (C : CC G k cc own nL rm) (d : decode cc pc = .ok (.dconst 0, 1)) (kk : WW G k nL cn sn (pc + 1) L (.double FP.dconst0 :: st) n h) : WW G k nL cn sn pc L st n h := fun H q ls a b c e => lv_dconst0 C.1 C.2.1 d (kk H q ls a b c e)
theorem ww_dconst1 (C : CC G k cc own nL rm) (d : decode cc pc = .ok (.dconst 1, 1)) (kk : WW G k nL cn sn (pc + 1) L (.double FP.dconst1 :: st) n h) : WW G k nL cn sn pc L st n h := fun H q ls a b c e => lv_dconst1 C.1 C.2.1 d (kk H q ls a b c e)
theorem ww_null (C : CC G k cc own nL rm) (d : decode cc pc = .ok (.aconst_null, 1)) (kk : WW G k nL cn sn (pc + 1) L (.null :: st) n h) : WW G k nL cn sn pc L st n h := fun H q ls a b c e => lv_null C.1 C.2.1 d (kk H q ls a b c e)
theorem ww_ldc (C : CC G k cc own nL rm) {z : Int} {i0 : Nat} (w : Cond.constant own i0 (iz z) ∈ lw_all) (d : decode cc pc = .ok (.ldc i0, 2)) (kk : WW G k nL cn sn (pc + 2) L (.int (iz z) :: st) n h) : WW G k nL cn sn pc L st n h := fun H q ls a b c e => lv_ldc C.1 C.2.1 C.2.2.2.1 (C.2.2.2.2.1 _ w) d (kk H q ls a b c e)
theorem ww_ldcw (C : CC G k cc own nL rm) {z : Int} {i0 : Nat} (w : Cond.constant own i0 (iz z) ∈ lw_all) (d : decode cc pc = .ok (.ldc_w i0, 3)) (kk : WW G k nL cn sn (pc + 3) L (.int (iz z) :: st) n h) : WW G k nL cn sn pc L st n h := fun H q ls a b c e => lv_ldcw C.1 C.2.1 C.2.2.2.1 (C.2.2.2.2.1 _ w) d (kk H q ls a b c e)
theorem ww_ldc2 (C : CC G k cc own nL rm) {z : Int} {i0 : Nat} (w : Cond.constantLong own i0 (lz z) ∈ lw_all) (d : decode cc pc = .ok (.ldc2_w i0, 3)) (kk : WW G k nL cn sn (pc + 3) L (.long (lz z) :: st) n h) : WW G k nL cn sn pc L st n h := fun H q ls a b c e => lv_ldc2 C.1 C.2.1 C.2.2.2.1 (C.2.2.2.2.1 _ w) d (kk H q ls a b c e)
theorem ww_ldc2d (C : CC G k cc own nL rm) {x : UInt64} {i0 : Nat} (w : Cond.constantDouble own i0 x ∈ lw_all) (d : decode cc pc = .ok (.ldc2_w i0, 3)) (kk : WW G k nL cn sn (pc + 3) L (.double x :: st) n h) : WW G k nL cn sn pc L st n h := fun H q ls a b c e => lv_ldc2d C.1 C.2.1 C.2.2.2.1 (C.2.2.2.2.1 _ w) d (kk H q ls a b c e)
theorem ww_ldcS (C : CC G k cc own nL rm) {i0 j : Nat} {tx : String} (hm : (own, i0, tx, j) ∈ xStr) (d : decode cc pc = .ok (.ldc i0, 2)) (kk : WW G k nL cn sn (pc + 2) L (.ref (G.2.2.2.2.1 j) :: st) n h) : WW G k nL cn sn pc L st n h := fun H q ls a b c e => va_ldcS C.1 C.2.1 C.2.2.2.1 (C.2.2.2.2.2.2.1.2.1 _ hm) d (kk H q ls a b c e)
theorem ww_iload_n (C : CC G k cc own nL rm) {f : Fin 4} {x : Int} (i j : Nat) (hj : L[j]? = some (i, .int (iz x))) (hi : (f : Nat) = i) (d : decode cc pc = .ok (.iload_n f, 1)) (kk : WW G k nL cn sn (pc + 1) L (.int (iz x) :: st) n h) : WW G k nL cn sn pc L st n h := fun H q ls a b c e => lv_iload_n C.1 C.2.1 d hi (lv_at e j hj) (kk H q ls a b c e)
theorem ww_iload (C : CC G k cc own nL rm) {x : Int} (i j : Nat) (hj : L[j]? = some (i, .int (iz x))) (d : decode cc pc = .ok (.iload i, 2)) (kk : WW G k nL cn sn (pc + 2) L (.int (iz x) :: st) n h) : WW G k nL cn sn pc L st n h := fun H q ls a b c e => lv_iload C.1 C.2.1 d (lv_at e j hj) (kk H q ls a b c e)
theorem ww_istore_n (C : CC G k cc own nL rm) {f : Fin 4} {x : Int} (i : Nat) {L' : List (Nat × Value)} (hi : (f : Nat) = i) (hn : i < nL) (hl : (i, Value.int (iz x)) :: L.filter (fun q => !(q.1 == i) && !(q.1 + 1 == i && q.2.category == 2)) = L') (d : decode cc pc = .ok (.istore_n f, 1)) (kk : WW G k nL cn sn (pc + 1) L' st n h) : WW G k nL cn sn pc L (.int (iz x) :: st) n h := fun H q ls a b c e => lv_istore_n C.1 C.2.1 d hi e hn hl (fun ls' e' => kk H q ls' a b c e')
theorem ww_istore (C : CC G k cc own nL rm) {x : Int} (i : Nat) {L' : List (Nat × Value)} (hn : i < nL) (hl : (i, Value.int (iz x)) :: L.filter (fun q => !(q.1 == i) && !(q.1 + 1 == i && q.2.category == 2)) = L') (d : decode cc pc = .ok (.istore i, 2)) (kk : WW G k nL cn sn (pc + 2) L' st n h) : WW G k nL cn sn pc L (.int (iz x) :: st) n h := fun H q ls a b c e => lv_istore C.1 C.2.1 d e hn hl (fun ls' e' => kk H q ls' a b c e')
theorem ww_lload_n (C : CC G k cc own nL rm) {f : Fin 4} {x : Int} (i j : Nat) (hj : L[j]? = some (i, .long (lz x))) (hi : (f : Nat) = i) (d : decode cc pc = .ok (.lload_n f, 1)) (kk : WW G k nL cn sn (pc + 1) L (.long (lz x) :: st) n h) : WW G k nL cn sn pc L st n h := fun H q ls a b c e => lv_lload_n C.1 C.2.1 d hi (lv_at e j hj) (kk H q ls a b c e)
theorem ww_lload (C : CC G k cc own nL rm) {x : Int} (i j : Nat) (hj : L[j]? = some (i, .long (lz x))) (d : decode cc pc = .ok (.lload i, 2)) (kk : WW G k nL cn sn (pc + 2) L (.long (lz x) :: st) n h) : WW G k nL cn sn pc L st n h := fun H q ls a b c e => lv_lload C.1 C.2.1 d (lv_at e j hj) (kk H q ls a b c e)
theorem ww_lstore_n (C : CC G k cc own nL rm) {f : Fin 4} {x : Int} (i : Nat) {L' : List (Nat × Value)} (hi : (f : Nat) = i) (hn : i + 1 < nL) (hl : (i, Value.long (lz x)) :: L.filter (fun q => !(q.1 == i) && (!(q.1 == i + 1) && !(q.1 + 1 == i && q.2.category == 2))) = L') (d : decode cc pc = .ok (.lstore_n f, 1)) (kk : WW G k nL cn sn (pc + 1) L' st n h) : WW G k nL cn sn pc L (.long (lz x) :: st) n h := fun H q ls a b c e => lv_lstore_n C.1 C.2.1 d hi e hn hl (fun ls' e' => kk H q ls' a b c e')
theorem ww_lstore (C : CC G k cc own nL rm) {x : Int} (i : Nat) {L' : List (Nat × Value)} (hn : i + 1 < nL) (hl : (i, Value.long (lz x)) :: L.filter (fun q => !(q.1 == i) && (!(q.1 == i + 1) && !(q.1 + 1 == i && q.2.category == 2))) = L') (d : decode cc pc = .ok (.lstore i, 2)) (kk : WW G k nL cn sn (pc + 2) L' st n h) : WW G k nL cn sn pc L (.long (lz x) :: st) n h := fun H q ls a b c e => lv_lstore C.1 C.2.1 d e hn hl (fun ls' e' => kk H q ls' a b c e')
theorem ww_dload_n (C : CC G k cc own nL rm) {f : Fin 4} {x : UInt64} (i j : Nat) (hj : L[j]? = some (i, .double x)) (hi : (f : Nat) = i) (d : decode cc pc = .ok (.dload_n f, 1)) (kk : WW G k nL cn sn (pc + 1) L (.double x :: st) n h) : WW G k nL cn sn pc L st n h := fun H q ls a b c e => lv_dload_n C.1 C.2.1 d hi (lv_at e j hj) (kk H q ls a b c e)
theorem ww_dload (C : CC G k cc own nL rm) {x : UInt64} (i j : Nat) (hj : L[j]? = some (i, .double x)) (d : decode cc pc = .ok (.dload i, 2)) (kk : WW G k nL cn sn (pc + 2) L (.double x :: st) n h) : WW G k nL cn sn pc L st n h := fun H q ls a b c e => lv_dload C.1 C.2.1 d (lv_at e j hj) (kk H q ls a b c e)
theorem ww_dstore_n (C : CC G k cc own nL rm) {f : Fin 4} {x : UInt64} (i : Nat) {L' : List (Nat × Value)} (hi : (f : Nat) = i) (hn : i + 1 < nL) (hl : (i, Value.double x) :: L.filter (fun q => !(q.1 == i) && (!(q.1 == i + 1) && !(q.1 + 1 == i && q.2.category == 2))) = L') (d : decode cc pc = .ok (.dstore_n f, 1)) (kk : WW G k nL cn sn (pc + 1) L' st n h) : WW G k nL cn sn pc L (.double x :: st) n h := fun H q ls a b c e => lv_dstore_n C.1 C.2.1 d hi e hn hl (fun ls' e' => kk H q ls' a b c e')
theorem ww_dstore (C : CC G k cc own nL rm) {x : UInt64} (i : Nat) {L' : List (Nat × Value)} (hn : i + 1 < nL) (hl : (i, Value.double x) :: L.filter (fun q => !(q.1 == i) && (!(q.1 == i + 1) && !(q.1 + 1 == i && q.2.category == 2))) = L') (d : decode cc pc = .ok (.dstore i, 2)) (kk : WW G k nL cn sn (pc + 2) L' st n h) : WW G k nL cn sn pc L (.double x :: st) n h := fun H q ls a b c e => lv_dstore C.1 C.2.1 d e hn hl (fun ls' e' => kk H q ls' a b c e')
theorem ww_aload_n (C : CC G k cc own nL rm) {f : Fin 4} {x : Nat} (i j : Nat) (hj : L[j]? = some (i, .ref x)) (hi : (f : Nat) = i) (d : decode cc pc = .ok (.aload_n f, 1)) (kk : WW G k nL cn sn (pc + 1) L (.ref x :: st) n h) : WW G k nL cn sn pc L st n h := fun H q ls a b c e => lv_aload_n C.1 C.2.1 d hi (lv_at e j hj) (kk H q ls a b c e)
theorem ww_aload (C : CC G k cc own nL rm) {x : Nat} (i j : Nat) (hj : L[j]? = some (i, .ref x)) (d : decode cc pc = .ok (.aload i, 2)) (kk : WW G k nL cn sn (pc + 2) L (.ref x :: st) n h) : WW G k nL cn sn pc L st n h := fun H q ls a b c e => lv_aload C.1 C.2.1 d (lv_at e j hj) (kk H q ls a b c e)
theorem ww_astore_n (C : CC G k cc own nL rm) {f : Fin 4} {x : Nat} (i : Nat) {L' : List (Nat × Value)} (hi : (f : Nat) = i) (hn : i < nL) (hl : (i, Value.ref x) :: L.filter (fun q => !(q.1 == i) && !(q.1 + 1 == i && q.2.category == 2)) = L') (d : decode cc pc = .ok (.astore_n f, 1)) (kk : WW G k nL cn sn (pc + 1) L' st n h) : WW G k nL cn sn pc L (.ref x :: st) n h := fun H q ls a b c e => lv_astore_n C.1 C.2.1 d hi e hn hl (fun ls' e' => kk H q ls' a b c e')
theorem ww_astore (C : CC G k cc own nL rm) {x : Nat} (i : Nat) {L' : List (Nat × Value)} (hn : i < nL) (hl : (i, Value.ref x) :: L.filter (fun q => !(q.1 == i) && !(q.1 + 1 == i && q.2.category == 2)) = L') (d : decode cc pc = .ok (.astore i, 2)) (kk : WW G k nL cn sn (pc + 2) L' st n h) : WW G k nL cn sn pc L (.ref x :: st) n h := fun H q ls a b c e => lv_astore C.1 C.2.1 d e hn hl (fun ls' e' => kk H q ls' a b c e')
theorem ww_Nload_n (C : CC G k cc own nL rm) {f : Fin 4} {z : Int} (i j : Nat) (hj : L[j]? = some (i, vR G z)) (hi : (f : Nat) = i) (d : decode cc pc = .ok (.aload_n f, 1)) (kk : WW G k nL cn sn (pc + 1) L (vR G z :: st) n h) : WW G k nL cn sn pc L st n h := by
  intro H q ls a b c e
  have hk := kk H q ls a b c e
  have hl := lv_at e j hj
  unfold vR at hk hl
  split at hk
  · rename_i hz; rw [if_pos hz] at hl; exact lv_aload_nN C.1 C.2.1 d hi hl hk
  · rename_i hz; rw [if_neg hz] at hl; exact lv_aload_n C.1 C.2.1 d hi hl hk
theorem ww_Nload (C : CC G k cc own nL rm) {z : Int} (i j : Nat) (hj : L[j]? = some (i, vR G z)) (d : decode cc pc = .ok (.aload i, 2)) (kk : WW G k nL cn sn (pc + 2) L (vR G z :: st) n h) : WW G k nL cn sn pc L st n h := by
  intro H q ls a b c e
  have hk := kk H q ls a b c e
  have hl := lv_at e j hj
  unfold vR at hk hl
  split at hk
  · rename_i hz; rw [if_pos hz] at hl; exact lv_aloadN C.1 C.2.1 d hl hk
  · rename_i hz; rw [if_neg hz] at hl; exact lv_aload C.1 C.2.1 d hl hk
theorem ww_Nstore_n (C : CC G k cc own nL rm) {f : Fin 4} {z : Int} (i : Nat) {L' : List (Nat × Value)} (hi : (f : Nat) = i) (hn : i < nL) (hl : (i, vR G z) :: L.filter (fun q => !(q.1 == i) && !(q.1 + 1 == i && q.2.category == 2)) = L') (d : decode cc pc = .ok (.astore_n f, 1)) (kk : WW G k nL cn sn (pc + 1) L' st n h) : WW G k nL cn sn pc L (vR G z :: st) n h := by
  intro H q ls a b c e
  subst hl
  by_cases hz : z < 0
  · have hv : vR G z = .null := if_pos hz
    rw [hv] at kk ⊢
    exact lv_astore_nN C.1 C.2.1 d hi e hn rfl (fun ls' e' => kk H q ls' a b c e')
  · have hv : vR G z = .ref (G.1 + z.toNat) := if_neg hz
    rw [hv] at kk ⊢
    exact lv_astore_n C.1 C.2.1 d hi e hn rfl (fun ls' e' => kk H q ls' a b c e')
theorem ww_Nstore (C : CC G k cc own nL rm) {z : Int} (i : Nat) {L' : List (Nat × Value)} (hn : i < nL) (hl : (i, vR G z) :: L.filter (fun q => !(q.1 == i) && !(q.1 + 1 == i && q.2.category == 2)) = L') (d : decode cc pc = .ok (.astore i, 2)) (kk : WW G k nL cn sn (pc + 2) L' st n h) : WW G k nL cn sn pc L (vR G z :: st) n h := by
  intro H q ls a b c e
  subst hl
  by_cases hz : z < 0
  · have hv : vR G z = .null := if_pos hz
    rw [hv] at kk ⊢
    exact lv_astoreN C.1 C.2.1 d e hn rfl (fun ls' e' => kk H q ls' a b c e')
  · have hv : vR G z = .ref (G.1 + z.toNat) := if_neg hz
    rw [hv] at kk ⊢
    exact lv_astore C.1 C.2.1 d e hn rfl (fun ls' e' => kk H q ls' a b c e')
theorem ww_iinc (C : CC G k cc own nL rm) {x z : Int} (i j : Nat) {L' : List (Nat × Value)} (hj : L[j]? = some (i, .int (iz x))) (hn : i < nL) (hl : (i, Value.int (iz (x + z))) :: L.filter (fun q => !(q.1 == i) && !(q.1 + 1 == i && q.2.category == 2)) = L') (d : decode cc pc = .ok (.iinc i z, 3)) (kk : WW G k nL cn sn (pc + 3) L' st n h) : WW G k nL cn sn pc L st n h := fun H q ls a b c e => lv_iinc (v := iz (x + z)) C.1 C.2.1 d e hj (iz_add x z) hn hl (fun ls' e' => kk H q ls' a b c e')
theorem ww_dup (C : CC G k cc own nL rm) {v : Value} (hv : v.category = 1) (d : decode cc pc = .ok (.dup, 1)) (kk : WW G k nL cn sn (pc + 1) L (v :: v :: st) n h) : WW G k nL cn sn pc L (v :: st) n h := fun H q ls a b c e => lv_dup C.1 C.2.1 d hv (kk H q ls a b c e)
theorem ww_dup2_11 (C : CC G k cc own nL rm) {v w : Value} (hv : v.category = 1) (hw : w.category = 1) (d : decode cc pc = .ok (.dup2, 1)) (kk : WW G k nL cn sn (pc + 1) L (v :: w :: v :: w :: st) n h) : WW G k nL cn sn pc L (v :: w :: st) n h := fun H q ls a b c e => lv_dup2_11 C.1 C.2.1 d hv hw (kk H q ls a b c e)
theorem ww_pop (C : CC G k cc own nL rm) {v : Value} (hv : v.category = 1) (d : decode cc pc = .ok (.pop, 1)) (kk : WW G k nL cn sn (pc + 1) L st n h) : WW G k nL cn sn pc L (v :: st) n h := fun H q ls a b c e => lv_pop C.1 C.2.1 d hv (kk H q ls a b c e)
theorem ww_iadd (C : CC G k cc own nL rm) {x y : Int} (d : decode cc pc = .ok (.iadd, 1))  (kk : WW G k nL cn sn (pc + 1) L (.int (iz (x + y)) :: st) n h) : WW G k nL cn sn pc L (.int (iz y) :: .int (iz x) :: st) n h := fun H q ls a b c e => lv_iadd C.1 C.2.1 d ((by rw [iz_add]; exact kk H q ls a b c e))
theorem ww_ladd (C : CC G k cc own nL rm) {x y : Int} (d : decode cc pc = .ok (.ladd, 1))  (kk : WW G k nL cn sn (pc + 1) L (.long (lz (x + y)) :: st) n h) : WW G k nL cn sn pc L (.long (lz y) :: .long (lz x) :: st) n h := fun H q ls a b c e => lv_ladd C.1 C.2.1 d ((by rw [lz_add]; exact kk H q ls a b c e))
theorem ww_isub (C : CC G k cc own nL rm) {x y : Int} (d : decode cc pc = .ok (.isub, 1))  (kk : WW G k nL cn sn (pc + 1) L (.int (iz (x - y)) :: st) n h) : WW G k nL cn sn pc L (.int (iz y) :: .int (iz x) :: st) n h := fun H q ls a b c e => lv_isub C.1 C.2.1 d ((by rw [iz_sub]; exact kk H q ls a b c e))
theorem ww_lsub (C : CC G k cc own nL rm) {x y : Int} (d : decode cc pc = .ok (.lsub, 1))  (kk : WW G k nL cn sn (pc + 1) L (.long (lz (x - y)) :: st) n h) : WW G k nL cn sn pc L (.long (lz y) :: .long (lz x) :: st) n h := fun H q ls a b c e => lv_lsub C.1 C.2.1 d ((by rw [lz_sub]; exact kk H q ls a b c e))
theorem ww_imul (C : CC G k cc own nL rm) {x y : Int} (d : decode cc pc = .ok (.imul, 1))  (kk : WW G k nL cn sn (pc + 1) L (.int (iz (x * y)) :: st) n h) : WW G k nL cn sn pc L (.int (iz y) :: .int (iz x) :: st) n h := fun H q ls a b c e => lv_imul C.1 C.2.1 d ((by rw [iz_mul]; exact kk H q ls a b c e))
theorem ww_lmul (C : CC G k cc own nL rm) {x y : Int} (d : decode cc pc = .ok (.lmul, 1))  (kk : WW G k nL cn sn (pc + 1) L (.long (lz (x * y)) :: st) n h) : WW G k nL cn sn pc L (.long (lz y) :: .long (lz x) :: st) n h := fun H q ls a b c e => lv_lmul C.1 C.2.1 d ((by rw [lz_mul]; exact kk H q ls a b c e))
theorem ww_iand (C : CC G k cc own nL rm) {x y : Int} (d : decode cc pc = .ok (.iand, 1))  (kk : WW G k nL cn sn (pc + 1) L (.int (iz (iA x y)) :: st) n h) : WW G k nL cn sn pc L (.int (iz y) :: .int (iz x) :: st) n h := fun H q ls a b c e => lv_iand C.1 C.2.1 d ((by rw [iz_and]; exact kk H q ls a b c e))
theorem ww_ior (C : CC G k cc own nL rm) {x y : Int} (d : decode cc pc = .ok (.ior, 1))  (kk : WW G k nL cn sn (pc + 1) L (.int (iz (iO x y)) :: st) n h) : WW G k nL cn sn pc L (.int (iz y) :: .int (iz x) :: st) n h := fun H q ls a b c e => lv_ior C.1 C.2.1 d ((by rw [iz_or]; exact kk H q ls a b c e))
theorem ww_ixor (C : CC G k cc own nL rm) {x y : Int} (d : decode cc pc = .ok (.ixor, 1))  (kk : WW G k nL cn sn (pc + 1) L (.int (iz (iX x y)) :: st) n h) : WW G k nL cn sn pc L (.int (iz y) :: .int (iz x) :: st) n h := fun H q ls a b c e => lv_ixor C.1 C.2.1 d ((by rw [iz_xor]; exact kk H q ls a b c e))
theorem ww_land (C : CC G k cc own nL rm) {x y : Int} (d : decode cc pc = .ok (.land, 1))  (kk : WW G k nL cn sn (pc + 1) L (.long (lz (lA x y)) :: st) n h) : WW G k nL cn sn pc L (.long (lz y) :: .long (lz x) :: st) n h := fun H q ls a b c e => lv_land C.1 C.2.1 d ((by rw [lz_and]; exact kk H q ls a b c e))
theorem ww_lor (C : CC G k cc own nL rm) {x y : Int} (d : decode cc pc = .ok (.lor, 1))  (kk : WW G k nL cn sn (pc + 1) L (.long (lz (lO x y)) :: st) n h) : WW G k nL cn sn pc L (.long (lz y) :: .long (lz x) :: st) n h := fun H q ls a b c e => lv_lor C.1 C.2.1 d ((by rw [lz_or]; exact kk H q ls a b c e))
theorem ww_ineg (C : CC G k cc own nL rm) {x : Int} (d : decode cc pc = .ok (.ineg, 1))  (kk : WW G k nL cn sn (pc + 1) L (.int (iz (-x)) :: st) n h) : WW G k nL cn sn pc L (.int (iz x) :: st) n h := fun H q ls a b c e => lv_ineg C.1 C.2.1 d ((by rw [iz_neg]; exact kk H q ls a b c e))
theorem ww_lneg (C : CC G k cc own nL rm) {x : Int} (d : decode cc pc = .ok (.lneg, 1))  (kk : WW G k nL cn sn (pc + 1) L (.long (lz (-x)) :: st) n h) : WW G k nL cn sn pc L (.long (lz x) :: st) n h := fun H q ls a b c e => lv_lneg C.1 C.2.1 d ((by rw [lz_neg]; exact kk H q ls a b c e))
theorem iz_ne0 {z : Int} (h : rg z) (h0 : z ≠ 0) : ¬ iz z = 0 := fun q => h0 ((iz_eq h ⟨by decide, by decide⟩).mp (q.trans (show (0 : Int32) = iz 0 from rfl)))
theorem lz_ne0 {z : Int} (h : rgL z) (h0 : z ≠ 0) : ¬ lz z = 0 := fun q => h0 ((lz_eq h ⟨by decide, by decide⟩).mp (q.trans (show (0 : Int64) = lz 0 from rfl)))
theorem ww_idiv (C : CC G k cc own nL rm) {x y : Int} (d : decode cc pc = .ok (.idiv, 1)) (hx : rg x) (hy : rg y) (h0 : y ≠ 0) (kk : WW G k nL cn sn (pc + 1) L (.int (iz (x.tdiv y)) :: st) n h) : WW G k nL cn sn pc L (.int (iz y) :: .int (iz x) :: st) n h := fun H q ls a b c e => lv_idiv C.1 C.2.1 d (iz_ne0 hy h0) ((by rw [iz_div hx hy]; exact kk H q ls a b c e))
theorem ww_irem (C : CC G k cc own nL rm) {x y : Int} (d : decode cc pc = .ok (.irem, 1)) (hx : rg x) (hy : rg y) (h0 : y ≠ 0) (kk : WW G k nL cn sn (pc + 1) L (.int (iz (x.tmod y)) :: st) n h) : WW G k nL cn sn pc L (.int (iz y) :: .int (iz x) :: st) n h := fun H q ls a b c e => lv_irem C.1 C.2.1 d (iz_ne0 hy h0) ((by rw [iz_rem hx hy]; exact kk H q ls a b c e))
theorem ww_ldiv (C : CC G k cc own nL rm) {x y : Int} (d : decode cc pc = .ok (.ldiv, 1)) (hx : rgL x) (hy : rgL y) (h0 : y ≠ 0) (kk : WW G k nL cn sn (pc + 1) L (.long (lz (x.tdiv y)) :: st) n h) : WW G k nL cn sn pc L (.long (lz y) :: .long (lz x) :: st) n h := fun H q ls a b c e => lv_ldiv C.1 C.2.1 d (lz_ne0 hy h0) ((by rw [lz_div hx hy]; exact kk H q ls a b c e))
theorem ww_lrem (C : CC G k cc own nL rm) {x y : Int} (d : decode cc pc = .ok (.lrem, 1)) (hx : rgL x) (hy : rgL y) (h0 : y ≠ 0) (kk : WW G k nL cn sn (pc + 1) L (.long (lz (x.tmod y)) :: st) n h) : WW G k nL cn sn pc L (.long (lz y) :: .long (lz x) :: st) n h := fun H q ls a b c e => lv_lrem C.1 C.2.1 d (lz_ne0 hy h0) ((by rw [lz_rem hx hy]; exact kk H q ls a b c e))
theorem iSl_eq (a b : Int) : iz a <<< (iz b &&& 31) = iz (iSl a b) := (iz_self _).symm
theorem ww_ishl (C : CC G k cc own nL rm) {x y : Int} (d : decode cc pc = .ok (.ishl, 1))  (kk : WW G k nL cn sn (pc + 1) L (.int (iz (iSl x y)) :: st) n h) : WW G k nL cn sn pc L (.int (iz y) :: .int (iz x) :: st) n h := fun H q ls a b c e => lv_ishl C.1 C.2.1 d ((by rw [iSl_eq]; exact kk H q ls a b c e))
theorem iSr_eq (a b : Int) : iz a >>> (iz b &&& 31) = iz (iSr a b) := (iz_self _).symm
theorem ww_ishr (C : CC G k cc own nL rm) {x y : Int} (d : decode cc pc = .ok (.ishr, 1))  (kk : WW G k nL cn sn (pc + 1) L (.int (iz (iSr x y)) :: st) n h) : WW G k nL cn sn pc L (.int (iz y) :: .int (iz x) :: st) n h := fun H q ls a b c e => lv_ishr C.1 C.2.1 d ((by rw [iSr_eq]; exact kk H q ls a b c e))
theorem ww_iushr (C : CC G k cc own nL rm) {x y : Int} (d : decode cc pc = .ok (.iushr, 1))  (kk : WW G k nL cn sn (pc + 1) L (.int (iz (iSu x y)) :: st) n h) : WW G k nL cn sn pc L (.int (iz y) :: .int (iz x) :: st) n h := fun H q ls a b c e => lv_iushr C.1 C.2.1 d (iz_self _).symm (kk H q ls a b c e)
theorem ww_lshl (C : CC G k cc own nL rm) {x y : Int} (d : decode cc pc = .ok (.lshl, 1))  (kk : WW G k nL cn sn (pc + 1) L (.long (lz (lSl x y)) :: st) n h) : WW G k nL cn sn pc L (.int (iz y) :: .long (lz x) :: st) n h := fun H q ls a b c e => lv_lshl C.1 C.2.1 d (lz_self _).symm (kk H q ls a b c e)
theorem ww_lshr (C : CC G k cc own nL rm) {x y : Int} (d : decode cc pc = .ok (.lshr, 1))  (kk : WW G k nL cn sn (pc + 1) L (.long (lz (lSr x y)) :: st) n h) : WW G k nL cn sn pc L (.int (iz y) :: .long (lz x) :: st) n h := fun H q ls a b c e => lv_lshr C.1 C.2.1 d (lz_self _).symm (kk H q ls a b c e)
theorem ww_lushr (C : CC G k cc own nL rm) {x y : Int} (d : decode cc pc = .ok (.lushr, 1))  (kk : WW G k nL cn sn (pc + 1) L (.long (lz (lSu x y)) :: st) n h) : WW G k nL cn sn pc L (.int (iz y) :: .long (lz x) :: st) n h := fun H q ls a b c e => lv_lushr C.1 C.2.1 d (lz_self _).symm (kk H q ls a b c e)
theorem ww_i2l (C : CC G k cc own nL rm) {x : Int} (d : decode cc pc = .ok (.i2l, 1)) (hx : rg x) (kk : WW G k nL cn sn (pc + 1) L (.long (lz x) :: st) n h) : WW G k nL cn sn pc L (.int (iz x) :: st) n h := fun H q ls a b c e => lv_i2l C.1 C.2.1 d (iz_i64 hx) (kk H q ls a b c e)
theorem ww_l2i (C : CC G k cc own nL rm) {x : Int} (d : decode cc pc = .ok (.l2i, 1))  (kk : WW G k nL cn sn (pc + 1) L (.int (iz x) :: st) n h) : WW G k nL cn sn pc L (.long (lz x) :: st) n h := fun H q ls a b c e => lv_l2i C.1 C.2.1 d (lz_i32 x) (kk H q ls a b c e)
theorem iz_i8 {z : Int} (h0 : -128 ≤ z) (h1 : z ≤ 127) : (iz z).toInt8.toInt32 = iz z := by
  apply Int32.toInt_inj.mp
  rw [Int8.toInt_toInt32, Int32.toInt_toInt8, iz_toInt ⟨by omega, by omega⟩]
  exact Int.bmod_eq_of_le (by omega) (by omega)
theorem ww_i2b (C : CC G k cc own nL rm) {x : Int} (d : decode cc pc = .ok (.i2b, 1)) (h0 : -128 ≤ x) (h1 : x ≤ 127) (kk : WW G k nL cn sn (pc + 1) L (.int (iz x) :: st) n h) : WW G k nL cn sn pc L (.int (iz x) :: st) n h := fun H q ls a b c e => lv_i2b C.1 C.2.1 d (iz_i8 h0 h1) (kk H q ls a b c e)
theorem iz_i16 {z : Int} (h0 : 0 ≤ z) (h1 : z ≤ 65535) : ((iz z).toUInt32 % 65536).toInt32 = iz z := by
  obtain ⟨m, rfl⟩ : ∃ m : Nat, z = m := ⟨z.toNat, by omega⟩
  have e := pk_char (iz m)
  rw [e, ← iz_nat, show Int32.ofNat m = nI m from rfl, pk_tn (by omega), Nat.mod_eq_of_lt (by omega)]
theorem ww_i2c (C : CC G k cc own nL rm) {x : Int} (d : decode cc pc = .ok (.i2c, 1)) (h0 : 0 ≤ x) (h1 : x ≤ 65535) (kk : WW G k nL cn sn (pc + 1) L (.int (iz x) :: st) n h) : WW G k nL cn sn pc L (.int (iz x) :: st) n h := fun H q ls a b c e => lv_i2c C.1 C.2.1 d (iz_i16 h0 h1) (kk H q ls a b c e)
theorem ww_i2d (C : CC G k cc own nL rm) {x : Int} (d : decode cc pc = .ok (.i2d, 1))  (kk : WW G k nL cn sn (pc + 1) L (.double (FP.i2d (iz x)) :: st) n h) : WW G k nL cn sn pc L (.int (iz x) :: st) n h := fun H q ls a b c e => lv_i2d C.1 C.2.1 d (kk H q ls a b c e)
theorem ww_l2d (C : CC G k cc own nL rm) {x : Int} (d : decode cc pc = .ok (.l2d, 1))  (kk : WW G k nL cn sn (pc + 1) L (.double (FP.l2d (lz x)) :: st) n h) : WW G k nL cn sn pc L (.long (lz x) :: st) n h := fun H q ls a b c e => lv_l2d C.1 C.2.1 d (kk H q ls a b c e)
theorem ww_d2i (C : CC G k cc own nL rm) {x : UInt64} (d : decode cc pc = .ok (.d2i, 1))  (kk : WW G k nL cn sn (pc + 1) L (.int (iz (FP.d2i x).toInt) :: st) n h) : WW G k nL cn sn pc L (.double x :: st) n h := fun H q ls a b c e => lv_d2i C.1 C.2.1 d ((by rw [← iz_self (FP.d2i x)]; exact kk H q ls a b c e))
theorem ww_d2l (C : CC G k cc own nL rm) {x : UInt64} (d : decode cc pc = .ok (.d2l, 1))  (kk : WW G k nL cn sn (pc + 1) L (.long (lz (FP.d2l x).toInt) :: st) n h) : WW G k nL cn sn pc L (.double x :: st) n h := fun H q ls a b c e => lv_d2l C.1 C.2.1 d ((by rw [← lz_self (FP.d2l x)]; exact kk H q ls a b c e))
theorem ww_dneg (C : CC G k cc own nL rm) {x : UInt64} (d : decode cc pc = .ok (.dneg, 1))  (kk : WW G k nL cn sn (pc + 1) L (.double (FP.dneg x) :: st) n h) : WW G k nL cn sn pc L (.double x :: st) n h := fun H q ls a b c e => lv_dneg C.1 C.2.1 d (kk H q ls a b c e)
theorem ww_dadd (C : CC G k cc own nL rm) {x y : UInt64} (d : decode cc pc = .ok (.dadd, 1)) (hn : vf_n64 (FP.dadd x y)) (kk : WW G k nL cn sn (pc + 1) L (.double (FP.dadd x y) :: st) n h) : WW G k nL cn sn pc L (.double y :: .double x :: st) n h := fun H q ls a b c e => lv_dadd C.1 C.2.1 d hn (kk H q ls a b c e)
theorem ww_dmul (C : CC G k cc own nL rm) {x y : UInt64} (d : decode cc pc = .ok (.dmul, 1)) (hn : vf_n64 (FP.dmul x y)) (kk : WW G k nL cn sn (pc + 1) L (.double (FP.dmul x y) :: st) n h) : WW G k nL cn sn pc L (.double y :: .double x :: st) n h := fun H q ls a b c e => lv_dmul C.1 C.2.1 d hn (kk H q ls a b c e)
theorem ww_ddiv (C : CC G k cc own nL rm) {x y : UInt64} (d : decode cc pc = .ok (.ddiv, 1)) (hn : vf_n64 (FP.ddiv x y)) (kk : WW G k nL cn sn (pc + 1) L (.double (FP.ddiv x y) :: st) n h) : WW G k nL cn sn pc L (.double y :: .double x :: st) n h := fun H q ls a b c e => lv_ddiv C.1 C.2.1 d hn (kk H q ls a b c e)
theorem ww_lcmp (C : CC G k cc own nL rm) {x y : Int} (d : decode cc pc = .ok (.lcmp, 1)) (hx : rgL x) (hy : rgL y) (kk : WW G k nL cn sn (pc + 1) L (.int (iz (lC x y)) :: st) n h) : WW G k nL cn sn pc L (.long (lz y) :: .long (lz x) :: st) n h := fun H q ls a b c e => W.lcmp C.1 C.2.1 d ((by rw [lC_eq hx hy]; exact kk H q ls a b c e))
theorem ww_dcmp (C : CC G k cc own nL rm) {x y : UInt64} {op : CmpOp} (d : decode cc pc = .ok (.dcmp op, 1))  (kk : WW G k nL cn sn (pc + 1) L (.int (iz (dC op x y)) :: st) n h) : WW G k nL cn sn pc L (.double y :: .double x :: st) n h := fun H q ls a b c e => lv_dcmp C.1 C.2.1 d ((by rw [← iz_self (Op.cmpValue (FP.dcmp x y) op)]; exact kk H q ls a b c e))
theorem rg0 : rg 0 := ⟨by decide, by decide⟩
theorem ww_if_eq (C : CC G k cc own nL rm) {x : Int} {o : Int} {tg : Nat} (d : decode cc pc = .ok (.ifCond .eq o, 3)) (ht : (pc : Int) + o = (tg : Int)) (hx : rg x) (kt : x = 0 → WW G k nL cn sn tg L st n h) (kf : ¬ x = 0 → WW G k nL cn sn (pc + 3) L st n h) : WW G k nL cn sn pc L (.int (iz x) :: st) n h := fun H q ls a b c e => lv_if_eq C.1 C.2.1 d ht (fun z => kt ((iz_eq hx rg0).mp z) H q ls a b c e) (fun z => kf (fun w => z ((iz_eq hx rg0).mpr w)) H q ls a b c e)
theorem ww_icmp_eq (C : CC G k cc own nL rm) {x y : Int} {o : Int} {tg : Nat} (d : decode cc pc = .ok (.if_icmp .eq o, 3)) (ht : (pc : Int) + o = (tg : Int)) (hx : rg x) (hy : rg y) (kt : x = y → WW G k nL cn sn tg L st n h) (kf : ¬ x = y → WW G k nL cn sn (pc + 3) L st n h) : WW G k nL cn sn pc L (.int (iz y) :: .int (iz x) :: st) n h := fun H q ls a b c e => lv_icmp_eq C.1 C.2.1 d ht (fun z => kt ((iz_eq hx hy).mp z) H q ls a b c e) (fun z => kf (fun w => z ((iz_eq hx hy).mpr w)) H q ls a b c e)
theorem ww_if_ne (C : CC G k cc own nL rm) {x : Int} {o : Int} {tg : Nat} (d : decode cc pc = .ok (.ifCond .ne o, 3)) (ht : (pc : Int) + o = (tg : Int)) (hx : rg x) (kt : ¬ x = 0 → WW G k nL cn sn tg L st n h) (kf : x = 0 → WW G k nL cn sn (pc + 3) L st n h) : WW G k nL cn sn pc L (.int (iz x) :: st) n h := fun H q ls a b c e => lv_if_ne C.1 C.2.1 d ht (fun z => kt (fun w => z ((iz_eq hx rg0).mpr w)) H q ls a b c e) (fun z => kf ((iz_eq hx rg0).mp z) H q ls a b c e)
theorem ww_icmp_ne (C : CC G k cc own nL rm) {x y : Int} {o : Int} {tg : Nat} (d : decode cc pc = .ok (.if_icmp .ne o, 3)) (ht : (pc : Int) + o = (tg : Int)) (hx : rg x) (hy : rg y) (kt : ¬ x = y → WW G k nL cn sn tg L st n h) (kf : x = y → WW G k nL cn sn (pc + 3) L st n h) : WW G k nL cn sn pc L (.int (iz y) :: .int (iz x) :: st) n h := fun H q ls a b c e => lv_icmp_ne C.1 C.2.1 d ht (fun z => kt (fun w => z ((iz_eq hx hy).mpr w)) H q ls a b c e) (fun z => kf ((iz_eq hx hy).mp z) H q ls a b c e)
theorem ww_if_lt (C : CC G k cc own nL rm) {x : Int} {o : Int} {tg : Nat} (d : decode cc pc = .ok (.ifCond .lt o, 3)) (ht : (pc : Int) + o = (tg : Int)) (hx : rg x) (kt : x < 0 → WW G k nL cn sn tg L st n h) (kf : ¬ x < 0 → WW G k nL cn sn (pc + 3) L st n h) : WW G k nL cn sn pc L (.int (iz x) :: st) n h := fun H q ls a b c e => lv_if_lt C.1 C.2.1 d ht (fun z => kt ((iz_lt hx rg0).mp z) H q ls a b c e) (fun z => kf (fun w => z ((iz_lt hx rg0).mpr w)) H q ls a b c e)
theorem ww_icmp_lt (C : CC G k cc own nL rm) {x y : Int} {o : Int} {tg : Nat} (d : decode cc pc = .ok (.if_icmp .lt o, 3)) (ht : (pc : Int) + o = (tg : Int)) (hx : rg x) (hy : rg y) (kt : x < y → WW G k nL cn sn tg L st n h) (kf : ¬ x < y → WW G k nL cn sn (pc + 3) L st n h) : WW G k nL cn sn pc L (.int (iz y) :: .int (iz x) :: st) n h := fun H q ls a b c e => lv_icmp_lt C.1 C.2.1 d ht (fun z => kt ((iz_lt hx hy).mp z) H q ls a b c e) (fun z => kf (fun w => z ((iz_lt hx hy).mpr w)) H q ls a b c e)
theorem ww_if_ge (C : CC G k cc own nL rm) {x : Int} {o : Int} {tg : Nat} (d : decode cc pc = .ok (.ifCond .ge o, 3)) (ht : (pc : Int) + o = (tg : Int)) (hx : rg x) (kt : 0 ≤ x → WW G k nL cn sn tg L st n h) (kf : ¬ 0 ≤ x → WW G k nL cn sn (pc + 3) L st n h) : WW G k nL cn sn pc L (.int (iz x) :: st) n h := fun H q ls a b c e => lv_if_ge C.1 C.2.1 d ht (fun z => kt ((iz_le rg0 hx).mp z) H q ls a b c e) (fun z => kf (fun w => z ((iz_le rg0 hx).mpr w)) H q ls a b c e)
theorem ww_icmp_ge (C : CC G k cc own nL rm) {x y : Int} {o : Int} {tg : Nat} (d : decode cc pc = .ok (.if_icmp .ge o, 3)) (ht : (pc : Int) + o = (tg : Int)) (hx : rg x) (hy : rg y) (kt : y ≤ x → WW G k nL cn sn tg L st n h) (kf : ¬ y ≤ x → WW G k nL cn sn (pc + 3) L st n h) : WW G k nL cn sn pc L (.int (iz y) :: .int (iz x) :: st) n h := fun H q ls a b c e => lv_icmp_ge C.1 C.2.1 d ht (fun z => kt ((iz_le hy hx).mp z) H q ls a b c e) (fun z => kf (fun w => z ((iz_le hy hx).mpr w)) H q ls a b c e)
theorem ww_if_gt (C : CC G k cc own nL rm) {x : Int} {o : Int} {tg : Nat} (d : decode cc pc = .ok (.ifCond .gt o, 3)) (ht : (pc : Int) + o = (tg : Int)) (hx : rg x) (kt : 0 < x → WW G k nL cn sn tg L st n h) (kf : ¬ 0 < x → WW G k nL cn sn (pc + 3) L st n h) : WW G k nL cn sn pc L (.int (iz x) :: st) n h := fun H q ls a b c e => lv_if_gt C.1 C.2.1 d ht (fun z => kt ((iz_lt rg0 hx).mp z) H q ls a b c e) (fun z => kf (fun w => z ((iz_lt rg0 hx).mpr w)) H q ls a b c e)
theorem ww_icmp_gt (C : CC G k cc own nL rm) {x y : Int} {o : Int} {tg : Nat} (d : decode cc pc = .ok (.if_icmp .gt o, 3)) (ht : (pc : Int) + o = (tg : Int)) (hx : rg x) (hy : rg y) (kt : y < x → WW G k nL cn sn tg L st n h) (kf : ¬ y < x → WW G k nL cn sn (pc + 3) L st n h) : WW G k nL cn sn pc L (.int (iz y) :: .int (iz x) :: st) n h := fun H q ls a b c e => lv_icmp_gt C.1 C.2.1 d ht (fun z => kt ((iz_lt hy hx).mp z) H q ls a b c e) (fun z => kf (fun w => z ((iz_lt hy hx).mpr w)) H q ls a b c e)
theorem ww_if_le (C : CC G k cc own nL rm) {x : Int} {o : Int} {tg : Nat} (d : decode cc pc = .ok (.ifCond .le o, 3)) (ht : (pc : Int) + o = (tg : Int)) (hx : rg x) (kt : x ≤ 0 → WW G k nL cn sn tg L st n h) (kf : ¬ x ≤ 0 → WW G k nL cn sn (pc + 3) L st n h) : WW G k nL cn sn pc L (.int (iz x) :: st) n h := fun H q ls a b c e => lv_if_le C.1 C.2.1 d ht (fun z => kt ((iz_le hx rg0).mp z) H q ls a b c e) (fun z => kf (fun w => z ((iz_le hx rg0).mpr w)) H q ls a b c e)
theorem ww_icmp_le (C : CC G k cc own nL rm) {x y : Int} {o : Int} {tg : Nat} (d : decode cc pc = .ok (.if_icmp .le o, 3)) (ht : (pc : Int) + o = (tg : Int)) (hx : rg x) (hy : rg y) (kt : x ≤ y → WW G k nL cn sn tg L st n h) (kf : ¬ x ≤ y → WW G k nL cn sn (pc + 3) L st n h) : WW G k nL cn sn pc L (.int (iz y) :: .int (iz x) :: st) n h := fun H q ls a b c e => lv_icmp_le C.1 C.2.1 d ht (fun z => kt ((iz_le hx hy).mp z) H q ls a b c e) (fun z => kf (fun w => z ((iz_le hx hy).mpr w)) H q ls a b c e)
theorem ww_goto (C : CC G k cc own nL rm) {o : Int} {tg : Nat} (d : decode cc pc = .ok (.goto o, 3)) (ht : (pc : Int) + o = (tg : Int)) (kk : WW G k nL cn sn tg L st n h) : WW G k nL cn sn pc L st n h := fun H q ls a b c e => lv_goto C.1 C.2.1 d ht (kk H q ls a b c e)
theorem ww_ifnull (C : CC G k cc own nL rm) {z : Int} {o : Int} {tg : Nat} (d : decode cc pc = .ok (.ifnull o, 3)) (ht : (pc : Int) + o = (tg : Int)) (kt : z < 0 → WW G k nL cn sn tg L st n h) (kf : ¬ z < 0 → WW G k nL cn sn (pc + 3) L st n h) : WW G k nL cn sn pc L (vR G z :: st) n h := by
  intro H q ls a b c e
  by_cases hz : z < 0
  · rw [show vR G z = .null from if_pos hz]; exact lv_ifnullN C.1 C.2.1 d ht (kt hz H q ls a b c e)
  · rw [show vR G z = .ref (G.1 + z.toNat) from if_neg hz]; exact lv_ifnull C.1 C.2.1 d (kf hz H q ls a b c e)
theorem ww_ifnonnull (C : CC G k cc own nL rm) {z : Int} {o : Int} {tg : Nat} (d : decode cc pc = .ok (.ifnonnull o, 3)) (ht : (pc : Int) + o = (tg : Int)) (kt : ¬ z < 0 → WW G k nL cn sn tg L st n h) (kf : z < 0 → WW G k nL cn sn (pc + 3) L st n h) : WW G k nL cn sn pc L (vR G z :: st) n h := by
  intro H q ls a b c e
  by_cases hz : z < 0
  · rw [show vR G z = .null from if_pos hz]; exact lv_ifnonnullN C.1 C.2.1 d (kf hz H q ls a b c e)
  · rw [show vR G z = .ref (G.1 + z.toNat) from if_neg hz]; exact lv_ifnonnull C.1 C.2.1 d ht (kt hz H q ls a b c e)
theorem ww_sub {L' : List (Nat × Value)} (ps : List Nat) (hl : lv_pick L ps = L') {cn' sn' : Nat} (h1 : cn ≤ cn') (h2 : sn ≤ sn') (kk : WW G k nL cn' sn' pc L' st n h) : WW G k nL cn sn pc L st n h := fun H q ls a b c e => W.widen h1 h2 (kk H q ls a b c (lv_sub e ps hl))
theorem ww_iret (C : CC G k cc own nL rm) {Po : Option Value → Nat → xH → Prop} (E : CQ G k (some .int) rm Po) {z : Int} (d : decode cc pc = .ok (.ireturn, 1)) (h1 : cn ≤ rm.cells) (h2 : sn ≤ rm.slots) (hp : Po (some (.int (iz z))) n h) : WW G k nL cn sn pc L [.int (iz z)] n h := by
  intro H q ls a b c e
  rw [E.2.2]
  exact W.widen h1 h2 (W.iret C.1 C.2.1 E.1 (fun t ht hW => ⟨⟨_, n, h, rfl, hp, by rw [ht]; exact a, by rw [ht]; exact b⟩, c.F ht⟩) c.2.2 d E.2.1)
theorem ww_zret (C : CC G k cc own nL rm) {Po : Option Value → Nat → xH → Prop} {ty : FieldType} (E : CQ G k (some ty) rm Po) {z : Int} (d : decode cc pc = .ok (.ireturn, 1)) (hz : narrow ty (.int (iz z)) = .int (iz z)) (h1 : cn ≤ rm.cells) (h2 : sn ≤ rm.slots) (hp : Po (some (.int (iz z))) n h) : WW G k nL cn sn pc L [.int (iz z)] n h := by
  intro H q ls a b c e
  rw [E.2.2]
  exact W.widen h1 h2 (W.zret C.1 C.2.1 E.1 hz (fun t ht hW => ⟨⟨_, n, h, rfl, hp, by rw [ht]; exact a, by rw [ht]; exact b⟩, c.F ht⟩) c.2.2 d E.2.1)
theorem nz_b {z : Int} (h : z = 0 ∨ z = 1) : narrow .boolean (.int (iz z)) = .int (iz z) := by rcases h with rfl | rfl <;> decide
theorem nz_byte {z : Int} (h0 : -128 ≤ z) (h1 : z ≤ 127) : narrow .byte (.int (iz z)) = .int (iz z) := by rw [← iz_i8 h0 h1]; exact pk_nb _
theorem nz_char {z : Int} (h0 : 0 ≤ z) (h1 : z ≤ 65535) : narrow .char (.int (iz z)) = .int (iz z) := by rw [← iz_i16 h0 h1]; exact pk_nc _
theorem ww_lret (C : CC G k cc own nL rm) {Po : Option Value → Nat → xH → Prop} (E : CQ G k (some .long) rm Po) {z : Int} (d : decode cc pc = .ok (.lreturn, 1)) (h1 : cn ≤ rm.cells) (h2 : sn ≤ rm.slots) (hp : Po (some (.long (lz z))) n h) : WW G k nL cn sn pc L [.long (lz z)] n h := by
  intro H q ls a b c e
  rw [E.2.2]
  exact W.widen h1 h2 (W.lret C.1 C.2.1 E.1 (fun t ht hW => ⟨⟨_, n, h, rfl, hp, by rw [ht]; exact a, by rw [ht]; exact b⟩, c.F ht⟩) c.2.2 d E.2.1)
theorem ww_dret (C : CC G k cc own nL rm) {Po : Option Value → Nat → xH → Prop} (E : CQ G k (some .double) rm Po) {x : UInt64} (d : decode cc pc = .ok (.dreturn, 1)) (h1 : cn ≤ rm.cells) (h2 : sn ≤ rm.slots) (hp : Po (some (.double x)) n h) : WW G k nL cn sn pc L [.double x] n h := by
  intro H q ls a b c e
  rw [E.2.2]
  exact W.widen h1 h2 (W.dret C.1 C.2.1 E.1 (fun t ht hW => ⟨⟨_, n, h, rfl, hp, by rw [ht]; exact a, by rw [ht]; exact b⟩, c.F ht⟩) c.2.2 d E.2.1)
theorem ww_vret (C : CC G k cc own nL rm) {Po : Option Value → Nat → xH → Prop} (E : CQ G k none rm Po) (d : decode cc pc = .ok (.return_, 1)) (h1 : cn ≤ rm.cells) (h2 : sn ≤ rm.slots) (hp : Po none n h) : WW G k nL cn sn pc L [] n h := by
  intro H q ls a b c e
  rw [E.2.2]
  exact W.widen h1 h2 (W.vret C.1 C.2.1 E.1 (fun t ht hW => ⟨⟨_, n, h, rfl, hp, by rw [ht]; exact a, by rw [ht]; exact b⟩, c.F ht⟩) c.2.2 d E.2.1)
theorem ww_aret (C : CC G k cc own nL rm) {Po : Option Value → Nat → xH → Prop} {rt : FieldType} (E : CQ G k (some rt) rm Po) (hrt : (∃ n, rt = .object n) ∨ ∃ t, rt = .array t) {z : Int} (d : decode cc pc = .ok (.areturn, 1)) (h1 : cn ≤ rm.cells) (h2 : sn ≤ rm.slots) (hp : Po (some (vR G z)) n h) : WW G k nL cn sn pc L [vR G z] n h := by
  intro H q ls a b c e
  rw [E.2.2]
  have hv : vR G z = .null ∨ ∃ a, vR G z = .ref a := by
    unfold vR; split
    · exact Or.inl rfl
    · exact Or.inr ⟨_, rfl⟩
  exact W.widen h1 h2 (W.aret C.1 C.2.1 E.1 hrt hv (fun t ht hW => ⟨⟨_, n, h, rfl, hp, by rw [ht]; exact a, by rw [ht]; exact b⟩, c.F ht⟩) c.2.2 d E.2.1)
end XR
end
section
/-! ROWS OVER THE FLAT WORLD: fields, rows, new cells -/
theorem xF_get {G : xG} {ts : List Nat} {F : Nat → Int} {k t : Nat} (h : ts[k]? = some t) : (xF G ts F)[k]? = some (vF G t (F k)) := by
  have hl : k < ts.length := (List.getElem?_eq_some_iff.mp h).1
  unfold xF
  rw [List.getElem?_map, List.getElem?_range hl]
  show some (vF G (ts.getD k 0) (F k)) = _
  rw [List.getD_eq_getElem?_getD, h]
  rfl
theorem xF_len {G : xG} {ts : List Nat} {F : Nat → Int} : (xF G ts F).length = ts.length := by unfold xF; simp
theorem xF_set {G : xG} {ts : List Nat} {F : Nat → Int} {k t : Nat} (h : ts[k]? = some t) (z : Int) : (xF G ts F).set k (vF G t z) = xF G ts (fun j => if j = k then z else F j) := by
  have hl : k < ts.length := (List.getElem?_eq_some_iff.mp h).1
  apply List.ext_getElem?
  intro j
  by_cases hj : j = k
  · subst hj
    rw [List.getElem?_set_self (by rw [xF_len]; exact hl), xF_get h, if_pos rfl]
  · rw [List.getElem?_set_ne (Ne.symm hj)]
    cases ht : ts[j]? with
    | none =>
      have h2 : ts.length ≤ j := List.getElem?_eq_none_iff.mp ht
      rw [List.getElem?_eq_none (by rw [xF_len]; exact h2), List.getElem?_eq_none (by rw [xF_len]; exact h2)]
    | some t' => rw [xF_get ht, xF_get ht, if_neg hj]
theorem xE_obj {G : xG} {c : xC} {ci : Nat} (h : c.1 = ci) (hc : ci < 100) : xE G c = .inr (ci, xF G (xT ci) c.2.2) := by
  unfold xE
  rw [if_neg (by omega), if_neg (by omega), h]
theorem xE_ints {G : xG} {c : xC} (h : c.1 = 100) : xE G c = .inl (G.2.2.1.1, (c.2.1, .inl fun j => iz (c.2.2 j))) := by
  unfold xE
  rw [if_pos h]
theorem xE_bytes {G : xG} {c : xC} (h : c.1 = 101) : xE G c = .inl (G.2.2.1.2, (c.2.1, .inl fun j => iz (c.2.2 j))) := by
  unfold xE
  rw [if_neg (by omega), if_pos h]
theorem iz_inA {z : Int} {N : Nat} (h0 : 0 ≤ z) (h1 : z < N) (h2 : z ≤ 2147483647) : vp_in (iz z) N := by
  have hr : rg z := ⟨by omega, h2⟩
  rw [vp_in_iff, iz_toInt hr]
  exact ⟨h0, h1⟩
/-- an index within a row of the kind kd -/
abbrev okA (n : Nat) (h : xH) (a kd : Nat) (i : Int) : Prop := a < n ∧ (h a).1 = kd ∧ 0 ≤ i ∧ i < ((h a).2.1 : Int) ∧ i ≤ 2147483647
abbrev okO (n : Nat) (h : xH) (a ci : Nat) : Prop := a < n ∧ (h a).1 = ci
section XH
variable {G : xG} {k : xK} {cc : ByteArray} {own : String} {nL cn sn pc n : Nat} {rm : Room} {L : List (Nat × Value)} {st : List Value} {h : xH}
theorem ww_get (C : CC G k cc own nL rm) {ci kf i0 t : Nat} {Cn ref : String} {T : u_T} {N : Nat} (hc : vwCl[ci]? = some (Cn, T, N)) (hin : ∀ w ∈ u_ws Cn T N, w ∈ lw_all) (hk : kf < N) (w : Cond.fieldLink own i0 ref (T kf).2.1 (T kf).2.2.1 ∈ lw_all) (hr : (T kf).1 = ref) (ht : (xT ci)[kf]? = some t) (hci : ci < 100)
    (d : decode cc pc = .ok (.getfield i0, 3)) {a : Nat} (ok : okO n h a ci) (kk : WW G k nL cn sn (pc + 3) L (vF G t (hG h a kf) :: st) n h) : WW G k nL cn sn pc L (rf G a :: st) n h := by
  intro H q ls z b c e
  refine va_get (D := G.2.1) (cl := vwCl) (tys := xty G) (fs := xF G (xT ci) (h a).2.2) C.1 C.2.1 C.2.2.2.2.1 hin C.2.2.2.1 C.2.2.2.2.2.1 b a (by rw [xw_get ok.1, xE_obj ok.2 hci]) hc kf hk (C.2.2.2.2.1 _ w) (fun x hx => by rw [← hr]; exact hx) (xF_get ht) d (kk H q ls z b c e)
theorem ww_getN (C : CC G k cc own nL rm) {ci kf i0 t : Nat} {Cn ref host : String} {T : u_T} {N : Nat} (hc : vwCl[ci]? = some (Cn, T, N)) (hin : ∀ w ∈ u_ws Cn T N, w ∈ lw_all) (hk : kf < N) (w : Cond.fieldLinkNest own i0 ref (T kf).2.1 (T kf).2.2.1 host ∈ xNest) (hr : (T kf).1 = ref) (ht : (xT ci)[kf]? = some t) (hci : ci < 100)
    (d : decode cc pc = .ok (.getfield i0, 3)) {a : Nat} (ok : okO n h a ci) (kk : WW G k nL cn sn (pc + 3) L (vF G t (hG h a kf) :: st) n h) : WW G k nL cn sn pc L (rf G a :: st) n h := by
  intro H q ls z b c e
  refine va_getN (D := G.2.1) (cl := vwCl) (tys := xty G) (fs := xF G (xT ci) (h a).2.2) C.1 C.2.1 C.2.2.2.2.1 hin C.2.2.2.1 C.2.2.2.2.2.1 b a (by rw [xw_get ok.1, xE_obj ok.2 hci]) hc kf hk ((C.2.2.2.2.2.2.1.1 _ w).use rfl) (fun x hx => by rw [← hr]; exact hx) (xF_get ht) d (kk H q ls z b c e)
theorem xw_put {a ci kf t : Nat} {z : Int} (ok : okO n h a ci) (hci : ci < 100) (ht : (xT ci)[kf]? = some t) : (xw G n h).set a (G.1 + a, .inr (ci, (xF G (xT ci) (h a).2.2).set kf (vF G t z))) = xw G n (hS h a kf z) := by
  refine xw_set ?_ (fun j hj => hS_ne h kf z hj)
  rw [xE_obj (c := hS h a kf z a) (ci := ci) (by rw [hS_self]; exact ok.2) hci, hS_self, xF_set ht]
theorem ww_put (C : CC G k cc own nL rm) {ci kf i0 t : Nat} {Cn ref : String} {T : u_T} {N : Nat} (hc : vwCl[ci]? = some (Cn, T, N)) (hin : ∀ w ∈ u_ws Cn T N, w ∈ lw_all) (ty0 : Nat → FieldType) (hty : ∀ k, k < N → parseFieldDescriptor (T k).2.2.1 = some (ty0 k)) (hnm : ∀ a, a < N → ∀ b, b < N → a ≠ b → (T a).2.1 ≠ (T b).2.1) (hk : kf < N) (w : Cond.fieldLink own i0 ref (T kf).2.1 (T kf).2.2.1 ∈ lw_all) (hr : (T kf).1 = ref) (hfin : (T kf).2.2.2 = false) {ty : FieldType} (hd : parseFieldDescriptor (T kf).2.2.1 = some ty) (ht : (xT ci)[kf]? = some t) (hci : ci < 100)
    (d : decode cc pc = .ok (.putfield i0, 3)) {a : Nat} {z : Int} (hn : narrow ty (vF G t z) = vF G t z) (hf : fits ty (vF G t z) = true) (ok : okO n h a ci) (kk : WW G k nL cn sn (pc + 3) L st n (hS h a kf z)) : WW G k nL cn sn pc L (vF G t z :: rf G a :: st) n h := by
  intro H q ls y b c e
  have hts := C.2.2.2.2.1
  have hap := va_apart (own := own) hts hin ty0 hty hnm C.2.2.2.2.2.1 hc
  have he : (xw G n h)[a]? = some (G.1 + a, .inr (ci, xF G (xT ci) (h a).2.2)) := by rw [xw_get ok.1, xE_obj ok.2 hci]
  obtain ⟨r, h1, cell, q1, q2, q3, q4⟩ := b a _ he
  have hr2 : r = (Cn, T, N) := Option.some.inj (h1.symm.trans hc)
  subst hr2
  obtain ⟨hS0, hfc, kC, hkC, hkind⟩ := C.2.2.2.2.2.1.1 ci _ hc
  obtain ⟨cf, kf0, fi, f, hi, hsl⟩ := hS0 kf hk
  have hlay := hts _ (hin _ (u_in_lay hk))
  unfold u_lay at hlay
  rw [if_neg (by rw [hfin]; decide)] at hlay
  have hst := (u_facts hfc hkC (u_lays hts hin hk) hi).1
  have h6 := u_store hfc hkC hkind hlay hi hd hn hf
  refine W.putK C.1 C.2.1 (f := f) ⟨C.2.2.2.1, hts _ w, ⟨_, _, _, by rw [← hr]; exact hi⟩, hst⟩ (by rw [q2]; exact h6) q1 q3 (by rw [hsl]; exact k2_hasslot (q4 kf hk)) rfl rfl d fun H' e1 e2 e3 => ?_
  rw [hsl] at e1 ⊢
  have hl : kf < (xF G (xT ci) (h a).2.2).length := by rw [xF_len]; exact (List.getElem?_eq_some_iff.mp ht).1
  have b1 := b.set xw_D he (e := .inr (ci, (xF G (xT ci) (h a).2.2).set kf (vF G t z))) ⟨_, hc, t_OB.to (V := updV (vp_V (xF G (xT ci) (h a).2.2)) kf (vF G t z)) ⟨_, e1, q2, q3, t_set q4 hap hk (vF G t z)⟩ (fun j _ => vp_updV_set hl (vF G t z) j)⟩ e3
  rw [xw_put ok hci ht] at b1
  exact kk H' _ ls (e2.trans y) b1 (c.put e2 e3 (Nat.le_add_right _ _)) e
theorem ww_putF (C : CC G k cc own nL rm) (hin2 : (kt k).name = "<init>") {ci kf i0 t : Nat} {Cn ref : String} {T : u_T} {N : Nat} (hc : vwCl[ci]? = some (Cn, T, N)) (hin : ∀ w ∈ u_ws Cn T N, w ∈ lw_all) (ty0 : Nat → FieldType) (hty : ∀ k, k < N → parseFieldDescriptor (T k).2.2.1 = some (ty0 k)) (hnm : ∀ a, a < N → ∀ b, b < N → a ≠ b → (T a).2.1 ≠ (T b).2.1) (hk : kf < N) (w : Cond.fieldLink own i0 ref (T kf).2.1 (T kf).2.2.1 ∈ lw_all) (hr : (T kf).1 = ref) (hfin : (T kf).2.2.2 = true) (hdecl : (T kf).1 = own) {ty : FieldType} (hd : parseFieldDescriptor (T kf).2.2.1 = some ty) (ht : (xT ci)[kf]? = some t) (hci : ci < 100)
    (d : decode cc pc = .ok (.putfield i0, 3)) {a : Nat} {z : Int} (hn : narrow ty (vF G t z) = vF G t z) (hf : fits ty (vF G t z) = true) (ok : okO n h a ci) (kk : WW G k nL cn sn (pc + 3) L st n (hS h a kf z)) : WW G k nL cn sn pc L (vF G t z :: rf G a :: st) n h := by
  intro H q ls y b c e
  have hts := C.2.2.2.2.1
  have hap := va_apart (own := own) hts hin ty0 hty hnm C.2.2.2.2.2.1 hc
  have he : (xw G n h)[a]? = some (G.1 + a, .inr (ci, xF G (xT ci) (h a).2.2)) := by rw [xw_get ok.1, xE_obj ok.2 hci]
  obtain ⟨r, h1, cell, q1, q2, q3, q4⟩ := b a _ he
  have hr2 : r = (Cn, T, N) := Option.some.inj (h1.symm.trans hc)
  subst hr2
  obtain ⟨hS0, hfc, kC, hkC, hkind⟩ := C.2.2.2.2.2.1.1 ci _ hc
  obtain ⟨cf, kf0, fi, f, hi, hsl⟩ := hS0 kf hk
  have hlay := hts _ (hin _ (u_in_lay hk))
  unfold u_lay at hlay
  rw [if_pos hfin] at hlay
  have hst := (u_facts hfc hkC (u_lays hts hin hk) hi).1
  have hcf : (km k).cls = cf := by
    obtain ⟨_, _, c', _, _, _, -, -, hf', -, -, -, hown2, -⟩ := Cond.laysFinal_spec hlay
    have e1 : c' = cf := by have := hi.symm.trans hf'; simp at this; exact this.1.symm
    rw [hdecl] at hown2
    rw [← e1]; exact Option.some.inj (C.2.2.2.1.symm.trans hown2)
  have h6 := u_fits hfc hkC hkind (Or.inr hlay) hi hd hn hf
  refine W.putFinK C.1 C.2.1 C.2.2.2.1 (hts _ w) (by rw [← hr]; exact hi) hst hcf hin2 (by rw [q2]; exact h6) q1 q3 (by rw [hsl]; exact k2_hasslot (q4 kf hk)) rfl rfl d fun H' e1 e2 e3 => ?_
  rw [hsl] at e1 ⊢
  have hl : kf < (xF G (xT ci) (h a).2.2).length := by rw [xF_len]; exact (List.getElem?_eq_some_iff.mp ht).1
  have b1 := b.set xw_D he (e := .inr (ci, (xF G (xT ci) (h a).2.2).set kf (vF G t z))) ⟨_, hc, t_OB.to (V := updV (vp_V (xF G (xT ci) (h a).2.2)) kf (vF G t z)) ⟨_, e1, q2, q3, t_set q4 hap hk (vF G t z)⟩ (fun j _ => vp_updV_set hl (vF G t z) j)⟩ e3
  rw [xw_put ok hci ht] at b1
  exact kk H' _ ls (e2.trans y) b1 (c.put e2 e3 (Nat.le_add_right _ _)) e
theorem ww_iald (C : CC G k cc own nL rm) (d : decode cc pc = .ok (.iaload, 1)) {a : Nat} {i : Int} (ok : okA n h a 100 i) (kk : WW G k nL cn sn (pc + 1) L (.int (iz (hG h a i.toNat)) :: st) n h) : WW G k nL cn sn pc L (.int (iz i) :: rf G a :: st) n h := by
  intro H q ls y b c e
  refine va_iald (D := G.2.1) (cl := vwCl) (tys := xty G) (f := fun j => iz ((h a).2.2 j)) C.1 C.2.1 C.2.2.2.2.2.1 b a 0 (by rw [xw_get ok.1, xE_ints ok.2.1]) rfl (iz_inA ok.2.2.1 ok.2.2.2.1 ok.2.2.2.2) d ?_
  rw [iz_clamp ⟨by have := ok.2.2.1; omega, ok.2.2.2.2⟩]
  exact kk H q ls y b c e
theorem ww_bald (C : CC G k cc own nL rm) (d : decode cc pc = .ok (.baload, 1)) {a : Nat} {i : Int} (ok : okA n h a 101 i) (kk : WW G k nL cn sn (pc + 1) L (.int (iz (hG h a i.toNat)) :: st) n h) : WW G k nL cn sn pc L (.int (iz i) :: rf G a :: st) n h := by
  intro H q ls y b c e
  refine va_bald (D := G.2.1) (cl := vwCl) (tys := xty G) (f := fun j => iz ((h a).2.2 j)) C.1 C.2.1 C.2.2.2.2.2.1 b a 1 (by rw [xw_get ok.1, xE_bytes ok.2.1]) rfl (iz_inA ok.2.2.1 ok.2.2.2.1 ok.2.2.2.2) d ?_
  rw [iz_clamp ⟨by have := ok.2.2.1; omega, ok.2.2.2.2⟩]
  exact kk H q ls y b c e
theorem ww_alen (C : CC G k cc own nL rm) (d : decode cc pc = .ok (.arraylength, 1)) {a : Nat} (h1 : a < n) (h2 : (h a).1 = 100 ∨ (h a).1 = 101) (kk : WW G k nL cn sn (pc + 1) L (.int (iz ((h a).2.1 : Int)) :: st) n h) : WW G k nL cn sn pc L (rf G a :: st) n h := by
  intro H q ls y b c e
  rcases h2 with h2 | h2
  · exact va_alen (D := G.2.1) (cl := vwCl) (tys := xty G) C.1 C.2.1 C.2.2.2.2.2.1 b a 0 (by rw [xw_get h1, xE_ints h2]) rfl (iz_nat _) d (kk H q ls y b c e)
  · exact va_alen (D := G.2.1) (cl := vwCl) (tys := xty G) C.1 C.2.1 C.2.2.2.2.2.1 b a 1 (by rw [xw_get h1, xE_bytes h2]) rfl (iz_nat _) d (kk H q ls y b c e)
theorem xar_store {cA : ClassId} {N : Nat} {f : Nat → Int} {i : Nat} {z : Int} : vp_cell cA (N, .inl fun j => iz (if j = i then z else f j)) = arrV cA N (updV (fun j => .int (iz (f j))) i (.int (iz z))) := by
  rw [vp_cell_i]
  congr 1
  funext q
  by_cases hq : q = i
  · subst hq; simp [updV]
  · simp [updV, hq]
theorem ww_iast (C : CC G k cc own nL rm) (d : decode cc pc = .ok (.iastore, 1)) {a : Nat} {i z : Int} (ok : okA n h a 100 i) (kk : WW G k nL cn sn (pc + 1) L st n (hS h a i.toNat z)) : WW G k nL cn sn pc L (.int (iz z) :: .int (iz i) :: rf G a :: st) n h := by
  intro H q ls y b c e
  have he : (xw G n h)[a]? = some (G.1 + a, .inl (G.2.2.1.1, ((h a).2.1, .inl fun j => iz ((h a).2.2 j)))) := by rw [xw_get ok.1, xE_ints ok.2.1]
  refine W.iast C.1 C.2.1 (b a _ he) ((C.2.2.2.2.2.1.2 0 _ rfl).1 (h a).2.1 (fun j => .int (iz ((h a).2.2 j)))) (fun q => by cases q) (by show ¬ (iz i < 0 ∨ (arrV _ _ _).slots.size ≤ _); rw [arrV_size]; exact iz_inA ok.2.2.1 ok.2.2.2.1 ok.2.2.2.2) rfl rfl d fun H1 e1 z1 oq => ?_
  have b1 := b.set xw_D he (e := .inl (G.2.2.1.1, ((h a).2.1, .inl fun j => iz (if j = i.toNat then z else (h a).2.2 j)))) (show H1[G.1 + a]? = some (vp_cell _ _) by
    refine e1.trans (congrArg some ?_)
    rw [xar_store, iz_clamp ⟨by have := ok.2.2.1; omega, ok.2.2.2.2⟩]
    exact arrV_store _ _ _ _ _) oq
  rw [xw_set (h' := hS h a i.toNat z) (by rw [xE_ints (c := hS h a i.toNat z a) (by rw [hS_self]; exact ok.2.1), hS_self]) (fun j hj => hS_ne h _ _ hj)] at b1
  exact kk H1 _ ls (z1.trans y) b1 (c.put z1 oq (Nat.le_add_right _ _)) e
theorem ww_bast (C : CC G k cc own nL rm) (d : decode cc pc = .ok (.bastore, 1)) {a : Nat} {i z : Int} (ok : okA n h a 101 i) (hz0 : -128 ≤ z) (hz1 : z ≤ 127) (kk : WW G k nL cn sn (pc + 1) L st n (hS h a i.toNat z)) : WW G k nL cn sn pc L (.int (iz z) :: .int (iz i) :: rf G a :: st) n h := by
  intro H q ls y b c e
  have he : (xw G n h)[a]? = some (G.1 + a, .inl (G.2.2.1.2, ((h a).2.1, .inl fun j => iz ((h a).2.2 j)))) := by rw [xw_get ok.1, xE_bytes ok.2.1]
  refine W.bast C.1 C.2.1 (b a _ he) ((C.2.2.2.2.2.1.2 1 _ rfl).1 (h a).2.1 (fun j => .int (iz ((h a).2.2 j)))) (fun q => by cases q) (by show ¬ (iz i < 0 ∨ (arrV _ _ _).slots.size ≤ _); rw [arrV_size]; exact iz_inA ok.2.2.1 ok.2.2.2.1 ok.2.2.2.2) rfl rfl d fun H1 e1 z1 oq => ?_
  have b1 := b.set xw_D he (e := .inl (G.2.2.1.2, ((h a).2.1, .inl fun j => iz (if j = i.toNat then z else (h a).2.2 j)))) (show H1[G.1 + a]? = some (vp_cell _ _) by
    refine e1.trans (congrArg some ?_)
    rw [nz_byte hz0 hz1]
    rw [xar_store, iz_clamp ⟨by have := ok.2.2.1; omega, ok.2.2.2.2⟩]
    exact arrV_store _ _ _ _ _) oq
  rw [xw_set (h' := hS h a i.toNat z) (by rw [xE_bytes (c := hS h a i.toNat z a) (by rw [hS_self]; exact ok.2.1), hS_self]) (fun j hj => hS_ne h _ _ hj)] at b1
  exact kk H1 _ ls (z1.trans y) b1 (c.put z1 oq (Nat.le_add_right _ _)) e
theorem xP_push {c : xC} {H H1 : Heap} (b : va_P G.2.1 vwCl (xw G n h) H) (y : H.size = G.1 + n) (o1 : ∀ q, q < H.size → H1[q]? = H[q]?) (hn : va_at G.2.1 vwCl (G.1 + n, xE G c) H1) : va_P G.2.1 vwCl (xw G (n + 1) (hN h n c)) H1 := by
  rw [← xw_push (c := c) rfl]
  refine (b.kept (fun k x hx => o1 x.1 ((b k x hx).lt))).app (fun j x hx => ?_)
  have hz : j < 1 := (List.getElem?_eq_some_iff.mp hx).1
  rw [show j = 0 by omega] at hx
  cases hx
  exact hn
theorem xS_push {H0 H H1 : Heap} {locs : List Loc} (c : va_S (xA G) H0 H locs) (z1 : H1.size = H.size + 1) (o1 : ∀ q, q < H.size → H1[q]? = H[q]?) : va_S (xA G) H0 H1 locs :=
  ⟨Nat.le_trans c.1 (by omega), fun x h1 h2 => (o1 x (Nat.lt_of_lt_of_le h1 c.1)).trans (c.2.1 x h1 h2), c.2.2⟩
theorem ww_newI (C : CC G k cc own nL rm) (w : Cond.arrayClass .int ∈ lw_all) (d : decode cc pc = .ok (.newarray .int, 2)) {z : Int} {B : Nat} (h0 : 0 ≤ z) (h1 : z ≤ B) (hB : B ≤ 100000) (hc : cn + 1 ≤ rm.cells) (hs : sn + B ≤ rm.slots) (kk : WW G k nL (cn + 1) (sn + B) (pc + 2) L (rf G n :: st) (n + 1) (hN h n (100, z.toNat, fun _ => 0))) : WW G k nL cn sn pc L (.int (iz z) :: st) n h := by
  intro H q ls y b c e
  have hr : rg z := ⟨by omega, by omega⟩
  have hRR := C.2.2.2.2.2.2.2.1
  refine va_newaK (atype := .int) C.1 C.2.1 (C.2.2.2.2.1 _ w) rfl d rfl (fun q => by have := (iz_lt hr rg0).mp q; omega) (N := z.toNat) (iz_clamp hr) (by show z.toNat * 4 ≤ 536870912; omega) (by rw [hRR]; exact hc) (by rw [hRR]; omega) rfl fun H1 cA e1 z1 o1 hAr hNm => ?_
  have hcA : cA = G.2.2.1.1 := Option.some.inj (hNm.symm.trans (C.2.2.2.2.2.1.2 0 _ rfl).2)
  subst hcA
  have b1 := xP_push (c := (100, z.toNat, fun _ => 0)) b y o1 (by
    show H1[G.1 + n]? = _
    rw [← y]
    exact e1)
  have hk := kk H1 q ls (by rw [z1, y]; rfl) b1 (xS_push c z1 o1) e
  rw [y]
  exact W.widen (Nat.le_refl _) (by omega) hk
theorem ww_newB (C : CC G k cc own nL rm) (w : Cond.arrayClass .byte ∈ lw_all) (d : decode cc pc = .ok (.newarray .byte, 2)) {z : Int} {B : Nat} (h0 : 0 ≤ z) (h1 : z ≤ B) (hB : B ≤ 100000) (hc : cn + 1 ≤ rm.cells) (hs : sn + B ≤ rm.slots) (kk : WW G k nL (cn + 1) (sn + B) (pc + 2) L (rf G n :: st) (n + 1) (hN h n (101, z.toNat, fun _ => 0))) : WW G k nL cn sn pc L (.int (iz z) :: st) n h := by
  intro H q ls y b c e
  have hr : rg z := ⟨by omega, by omega⟩
  have hRR := C.2.2.2.2.2.2.2.1
  refine va_newaK (atype := .byte) C.1 C.2.1 (C.2.2.2.2.1 _ w) rfl d rfl (fun q => by have := (iz_lt hr rg0).mp q; omega) (N := z.toNat) (iz_clamp hr) (by show z.toNat * 1 ≤ 536870912; omega) (by rw [hRR]; exact hc) (by rw [hRR]; omega) rfl fun H1 cA e1 z1 o1 hAr hNm => ?_
  have hcA : cA = G.2.2.1.2 := Option.some.inj (hNm.symm.trans (C.2.2.2.2.2.1.2 1 _ rfl).2)
  subst hcA
  have b1 := xP_push (c := (101, z.toNat, fun _ => 0)) b y o1 (by
    show H1[G.1 + n]? = _
    rw [← y]
    exact e1)
  have hk := kk H1 q ls (by rw [z1, y]; rfl) b1 (xS_push c z1 o1) e
  rw [y]
  exact W.widen (Nat.le_refl _) (by omega) hk
/-- a new object's fields: a reference is null, all else is 0 -/
def xZ (ci : Nat) : Nat → Int := fun k => if (xT ci).getD k 0 = 3 then -1 else 0
theorem ww_new (C : CC G k cc own nL rm) {ci i0 : Nat} {Cn : String} {T : u_T} {N : Nat} (hc : vwCl[ci]? = some (Cn, T, N)) (hin : ∀ w ∈ u_ws Cn T N, w ∈ lw_all) (ty0 : Nat → FieldType) (hty : ∀ k, k < N → parseFieldDescriptor (T k).2.2.1 = some (ty0 k)) (w1 : Cond.classLink own i0 Cn ∈ lw_all) (w2 : Cond.instantiable Cn N ∈ lw_all) (w3 : Cond.initialized Cn ∈ lw_all) (hci : ci < 100) (hdef : ∀ j, j < N → ∃ t, (xT ci)[j]? = some t ∧ ∀ G : xG, defaultValue (ty0 j) = vF G t (xZ ci j))
    (d : decode cc pc = .ok (.new i0, 3)) (hcl : cn + 1 ≤ rm.cells) (hs : sn + N ≤ rm.slots) (kk : WW G k nL (cn + 1) (sn + N) (pc + 3) L (rf G n :: st) (n + 1) (hN h n (ci, 0, xZ ci))) : WW G k nL cn sn pc L st n h := by
  intro H q ls y b c e
  have hts := C.2.2.2.2.1
  have hRR := C.2.2.2.2.2.2.2.1
  have hKn := C.2.2.2.2.2.1.1 ci _ hc
  refine W.newcK C.1 C.2.1 C.2.2.2.1 (hts _ w1) (hts _ w2) (hts _ w3) rfl d (by rw [hRR]; exact hcl) (by rw [hRR]; exact hs) hKn.2.1 rfl fun H1 kC hkC e1 z1 o1 => ?_
  have b1 := xP_push (c := (ci, 0, xZ ci)) b y o1 (by
    rw [xE_obj (ci := ci) rfl hci]
    refine ⟨_, hc, ?_⟩
    show t_OB (G.1 + n) _ _ _ _ _
    rw [← y]
    refine (u_born ty0 hts hin hKn hkC e1 hty).to (fun j hj => ?_)
    obtain ⟨t, ht, hd⟩ := hdef j hj
    rw [hd G]
    show _ = (xF G (xT ci) (xZ ci)).getD j .null
    rw [List.getD_eq_getElem?_getD, xF_get ht]
    rfl)
  have hk := kk H1 q ls (by rw [z1, y]; rfl) b1 (xS_push c z1 o1) e
  show W _ _ _ _ _ _ _ _ _ _ H1 q (cn + 1) (sn + N) _ (F0 _ (pc + 3) ls (.ref H.size :: st))
  rw [y]
  exact hk
end XH
end
section
/-! CALLS OVER THE FLAT WORLD -/
theorem xWd_blind {G : xG} {av : List Value} {n : Nat} {h : xH} : FrameBlind (va_Pc av (xWd G n h)) := by
  intro a U g mk q
  obtain ⟨q0, q1, q2, q3, q4⟩ := q
  exact ⟨q0, q1, q2, va_K.moved (u := U) (U := U.calling g mk a) (Vm.Alike.refl U.vm) q3, xX.warm (U := U.calling g mk a) q4 (State.WarmedH.refl U) (fun _ _ _ => rfl)⟩
theorem xGood {y : MethodName} {bytes : ByteArray} {maxL : Nat} {ret : Option FieldType} (w : Cond.code y bytes maxL ret ∈ lw_all) {l : List Cond} (hl : ∀ c ∈ l, c ∈ lw_all) : GoodIn lw_all (l ++ (Cond.code y bytes maxL ret :: lw_all)) := by
  intro c hc
  have hm : c ∈ lw_all := by
    rcases List.mem_append.mp hc with h | h
    · exact hl c h
    · rcases List.mem_cons.mp h with h | h
      · rw [h]; exact w
      · exact h
  exact ⟨hm, lw_all_good hm⟩
/-- a method's words: its own code, and the one list -/
abbrev xws (y : MethodName) (bytes : ByteArray) (maxL : Nat) (ret : Option FieldType) : List Cond := .code y bytes maxL ret :: lw_all
section XC
variable {G : xG} {k : xK} {cc : ByteArray} {own : String} {nL cn sn pc n : Nat} {rm : Room} {L : List (Nat × Value)} {st : List Value} {h : xH}
theorem xx_call {H : Heap} {locs : List Loc} {ls : Array Slot} {st0 rest : List Value} {mc ms : Nat} {Po : Option Value → Nat → xH → Prop} {a : Array Value} (c : va_S (xA G) (ks k).heap H locs)
    (hr : va_Run (kp k) (kl k) (ke k) (kR k) (ks k) (km k) (ka k) (kb k) (kt k) (kc k) H locs cn sn mc ms (F0 (km k) pc ls st0) rest (xQ G Po a) (xA G)) (e : lv_has ls nL L)
    (kk : ∀ v n1 h1, Po v n1 h1 → WW G k nL (cn + mc) (sn + ms) (pc + 3) L (v.toList ++ rest) n1 h1) : W (kp k) (kl k) (ke k) (kR k) (ks k) (km k) (ka k) (kb k) (kt k) (kc k) H locs cn sn (kQ k) (F0 (km k) pc ls st0) := by
  intro T hT X
  obtain ⟨v, st₀, t, T', Ls, h0, X', hL, e1, e2, ⟨⟨v1, n1, h1, hv, hp, hz, hb⟩, hz2, hk⟩, stp⟩ := hr T hT X
  cases hv
  rw [h0] at hz2 hk
  obtain ⟨t2, a1, b1⟩ := kk v n1 h1 hp T'.heap (locs ++ Ls) ls (by rw [e1]; exact hz) (by rw [e1]; exact hb) ⟨Nat.le_trans c.1 (by rw [e1]; exact hz2), fun q g1 g2 => by rw [e1, hk q (Nat.lt_of_lt_of_le g1 c.1) g2]; exact c.2.1 q g1 g2, fun q hq => by
      rcases List.mem_append.mp hq with g | g
      · exact c.2.2 q g
      · exact hL q g⟩ e T' rfl X'
  exact ⟨t2, stp t2 a1, b1⟩
theorem xPre (C : CC G k cc own nL rm) {H : Heap} {locs : List Loc} {av : List Value} (y : H.size = G.1 + n) (b : va_P G.2.1 vwCl (xw G n h) H) (c : va_S (xA G) (ks k).heap H locs) : ∀ U : State, U.heap = H → (ks k).WarmedH U.vm → va_Pc av (xWd G n h) av.toArray U := by
  intro U hU hW
  refine ⟨rfl, by rw [hU]; exact y, by rw [hU]; exact b, va_K.moved hW.alike C.2.2.2.2.2.1, xX.warm C.2.2.2.2.2.2.1 hW (fun a h1 h2 => by rw [hU]; exact c.2.1 a h1 h2)⟩
theorem ww_callV (C : CC G k cc own nL rm) {y : MethodName} {bytes : ByteArray} {maxL i0 ci nA : Nat} {ret : Option FieldType} {rmy : Room} {Cn : String} {T : u_T} {N : Nat} (w1 : Cond.methodLink own i0 y ∈ lw_all) (w2 : Cond.instanceMethod y ∈ lw_all) (w3 : Cond.selects Cn y y ∈ lw_all) (w4 : Cond.initialized Cn ∈ lw_all) (w5 : Cond.code y bytes maxL ret ∈ lw_all)
    (hd : y.cls = Cn ∧ y.cls ≠ "java/lang/invoke/MethodHandle" ∧ y.cls ≠ "java/lang/invoke/VarHandle" ∧ (parseMethodDescriptor y.desc).map (fun d => d.parameters.length) = some nA) (hc : vwCl[ci]? = some (Cn, T, N)) (hci : ci < 100)
    (d : decode cc pc = .ok (.invokevirtual i0, 3)) {a : Nat} {As : List Value} (hA : As.length = nA) (hst : (st.map fun v => v.category).sum ≤ 8) (hR : rmy.frames + 1 ≤ rm.frames ∧ 8 + (maxL + 11) + rmy.locals ≤ rm.locals) (hf : cn + rmy.cells ≤ rm.cells ∧ sn + rmy.slots ≤ rm.slots) (ok : okO n h a ci)
    (kk : xS G (kl k) y (xws y bytes maxL ret) rmy (rf G a :: As) n h (fun v n1 h1 => WW G k nL (cn + rmy.cells) (sn + rmy.slots) (pc + 3) L (v.toList ++ st) n1 h1)) {st0 : List Value} (hst0 : st0 = As.reverse ++ rf G a :: st) : WW G k nL cn sn pc L st0 n h := by
  intro H q ls z b c e
  subst hst0
  have hRR := C.2.2.2.2.2.2.2.1
  refine xx_call c (va_runV (C := Cn) (n := nA) (bytes := bytes) (maxL := maxL) (ret := ret) (index := i0) (Ts := lw_all) (own := own) (As := As) (nL := nL) ⟨C.1, C.2.1, C.2.2.1, C.2.2.2.1, C.2.2.2.2.1⟩ kk (cwV (ws' := lw_all) nA C.2.2.2.2.1 (xGood w5 (l := [.methodLink own i0 y, .instanceMethod y, .selects Cn y y, .initialized Cn]) (by simp only [List.mem_cons, List.not_mem_nil, or_false]; rintro x (rfl | rfl | rfl | rfl) <;> assumption)) rfl rfl rfl hd (by rw [hRR]; exact hR)) ⟨xWd_blind, va_recv (ci := ci) C.2.2.2.2.2.1 b hc (q0 := a) (fs := xF G (xT ci) (h a).2.2) (by rw [xw_get ok.1, xE_obj ok.2 hci]), xPre C z b c⟩ rfl hA e.1 rfl (lv_room hst) d (by rw [hRR]; exact hf)) e (fun v n1 h1 hp => hp)
theorem ww_callS (C : CC G k cc own nL rm) {y : MethodName} {bytes : ByteArray} {maxL i0 nA : Nat} {ret : Option FieldType} {rmy : Room} (w1 : Cond.methodLink own i0 y ∈ lw_all) (w2 : Cond.static y ∈ lw_all) (w4 : Cond.initialized y.cls ∈ lw_all) (w5 : Cond.code y bytes maxL ret ∈ lw_all)
    (hd : y.cls ≠ "java/lang/invoke/MethodHandle" ∧ y.cls ≠ "java/lang/invoke/VarHandle" ∧ (parseMethodDescriptor y.desc).map (fun d => d.parameters.length) = some nA)
    (d : decode cc pc = .ok (.invokestatic i0, 3)) {As : List Value} (hA : As.length = nA) (hst : (st.map fun v => v.category).sum ≤ 8) (hR : rmy.frames + 1 ≤ rm.frames ∧ 8 + (maxL + 11) + rmy.locals ≤ rm.locals) (hf : cn + rmy.cells ≤ rm.cells ∧ sn + rmy.slots ≤ rm.slots)
    (kk : xS G (kl k) y (xws y bytes maxL ret) rmy As n h (fun v n1 h1 => WW G k nL (cn + rmy.cells) (sn + rmy.slots) (pc + 3) L (v.toList ++ st) n1 h1)) {st0 : List Value} (hst0 : st0 = As.reverse ++ st) : WW G k nL cn sn pc L st0 n h := by
  intro H q ls z b c e
  subst hst0
  have hRR := C.2.2.2.2.2.2.2.1
  refine xx_call c (va_runS (n := nA) (bytes := bytes) (maxL := maxL) (ret := ret) (index := i0) (Ts := lw_all) (own := own) (As := As) (nL := nL) ⟨C.1, C.2.1, C.2.2.1, C.2.2.2.1, C.2.2.2.2.1⟩ kk (va_cwS (ws' := lw_all) nA C.2.2.2.2.1 (xGood w5 (l := [.methodLink own i0 y, .static y, .initialized y.cls]) (by simp only [List.mem_cons, List.not_mem_nil, or_false]; rintro x (rfl | rfl | rfl) <;> assumption)) rfl rfl rfl hd (by rw [hRR]; exact hR)) ⟨xWd_blind, xPre C z b c⟩ rfl hA e.1 rfl (lv_room hst) d (by rw [hRR]; exact hf)) e (fun v n1 h1 hp => hp)
theorem ww_callI (C : CC G k cc own nL rm) {y : MethodName} {bytes : ByteArray} {maxL i0 nA : Nat} {rmy : Room} (w1 : Cond.methodLink own i0 y ∈ lw_all) (w2 : Cond.instanceMethod y ∈ lw_all) (w4 : Cond.initialized y.cls ∈ lw_all) (w5 : Cond.code y bytes maxL none ∈ lw_all) (hy : y.name = "<init>")
    (hd : y.cls ≠ "java/lang/invoke/MethodHandle" ∧ y.cls ≠ "java/lang/invoke/VarHandle" ∧ (parseMethodDescriptor y.desc).map (fun d => d.parameters.length) = some nA)
    (d : decode cc pc = .ok (.invokespecial i0, 3)) {a : Nat} {As : List Value} (hA : As.length = nA) (hst : (st.map fun v => v.category).sum ≤ 8) (hR : rmy.frames + 1 ≤ rm.frames ∧ 8 + (maxL + 11) + rmy.locals ≤ rm.locals) (hf : cn + rmy.cells ≤ rm.cells ∧ sn + rmy.slots ≤ rm.slots)
    (kk : xS G (kl k) y (xws y bytes maxL none) rmy (rf G a :: As) n h (fun v n1 h1 => WW G k nL (cn + rmy.cells) (sn + rmy.slots) (pc + 3) L (v.toList ++ st) n1 h1)) {st0 : List Value} (hst0 : st0 = As.reverse ++ rf G a :: st) : WW G k nL cn sn pc L st0 n h := by
  intro H q ls z b c e
  subst hst0
  have hRR := C.2.2.2.2.2.2.2.1
  have hts := C.2.2.2.2.1
  refine xx_call c (va_runI (n := nA) (bytes := bytes) (maxL := maxL) (index := i0) (Ts := lw_all) (own := own) (As := As) (nL := nL) ⟨C.1, C.2.1, C.2.2.1, C.2.2.2.1, hts⟩ kk (cwI (ws' := lw_all) nA hts (xGood w5 (l := []) (fun _ h => absurd h List.not_mem_nil)) rfl rfl rfl (hts _ w4) (hts _ w1) (hts _ w2) hy hd (by rw [hRR]; exact hR)) ⟨xWd_blind, xPre C z b c⟩ rfl hA e.1 rfl (lv_room hst) d (by rw [hRR]; exact hf)) e (fun v n1 h1 hp => hp)
theorem ww_callN (C : CC G k cc own nL rm) {y : MethodName} {bytes : ByteArray} {maxL i0 nA : Nat} {rmy : Room} {host : String} (w1 : Cond.methodLinkNest own i0 y host ∈ xNest) (w2 : Cond.instanceMethod y ∈ lw_all) (w4 : Cond.initialized y.cls ∈ lw_all) (w5 : Cond.code y bytes maxL none ∈ lw_all) (hy : y.name = "<init>")
    (hd : y.cls ≠ "java/lang/invoke/MethodHandle" ∧ y.cls ≠ "java/lang/invoke/VarHandle" ∧ (parseMethodDescriptor y.desc).map (fun d => d.parameters.length) = some nA)
    (d : decode cc pc = .ok (.invokespecial i0, 3)) {a : Nat} {As : List Value} (hA : As.length = nA) (hst : (st.map fun v => v.category).sum ≤ 8) (hR : rmy.frames + 1 ≤ rm.frames ∧ 8 + (maxL + 11) + rmy.locals ≤ rm.locals) (hf : cn + rmy.cells ≤ rm.cells ∧ sn + rmy.slots ≤ rm.slots)
    (kk : xS G (kl k) y (xws y bytes maxL none) rmy (rf G a :: As) n h (fun v n1 h1 => WW G k nL (cn + rmy.cells) (sn + rmy.slots) (pc + 3) L (v.toList ++ st) n1 h1)) {st0 : List Value} (hst0 : st0 = As.reverse ++ rf G a :: st) : WW G k nL cn sn pc L st0 n h := by
  intro H q ls z b c e
  subst hst0
  have hRR := C.2.2.2.2.2.2.2.1
  have hts := C.2.2.2.2.1
  refine xx_call c (va_runIN (n := nA) (bytes := bytes) (maxL := maxL) (index := i0) (Ts := lw_all) (own := own) (host := host) (As := As) (nL := nL) ⟨C.1, C.2.1, C.2.2.1, C.2.2.2.1, hts⟩ kk ⟨va_cnB (ws' := lw_all) nA hts (xGood w5 (l := []) (fun _ h => absurd h List.not_mem_nil)) rfl rfl rfl (C.2.2.2.2.2.2.1.1 _ w1) (hts _ w4) hd (by rw [hRR]; exact hR), hy, hts _ w2⟩ ⟨xWd_blind, xPre C z b c⟩ rfl hA e.1 rfl (lv_room hst) d (by rw [hRR]; exact hf)) e (fun v n1 h1 hp => hp)
/-- String's own methods, of a text that is a constant -/
theorem ww_callT (C : CC G k cc own nL rm) {y : MethodName} {bytes : ByteArray} {maxL i0 nA : Nat} {ret : Option FieldType} {rmy : Room} (w1 : Cond.methodLink own i0 y ∈ lw_all) (w2 : Cond.instanceMethod y ∈ lw_all) (w3 : Cond.selects "java/lang/String" y y ∈ lw_all) (w4 : Cond.initialized "java/lang/String" ∈ lw_all) (w5 : Cond.code y bytes maxL ret ∈ lw_all)
    (hd : y.cls = "java/lang/String" ∧ y.cls ≠ "java/lang/invoke/MethodHandle" ∧ y.cls ≠ "java/lang/invoke/VarHandle" ∧ (parseMethodDescriptor y.desc).map (fun d => d.parameters.length) = some nA)
    (d : decode cc pc = .ok (.invokevirtual i0, 3)) {j : Nat} {As : List Value} (hA : As.length = nA) (hst : (st.map fun v => v.category).sum ≤ 8) (hR : rmy.frames + 1 ≤ rm.frames ∧ 8 + (maxL + 11) + rmy.locals ≤ rm.locals) (hf : cn + rmy.cells ≤ rm.cells ∧ sn + rmy.slots ≤ rm.slots) (ok : j < 8)
    (kk : xS G (kl k) y (xws y bytes maxL ret) rmy (.ref (G.2.2.2.2.1 j) :: As) n h (fun v n1 h1 => WW G k nL (cn + rmy.cells) (sn + rmy.slots) (pc + 3) L (v.toList ++ st) n1 h1)) {st0 : List Value} (hst0 : st0 = As.reverse ++ .ref (G.2.2.2.2.1 j) :: st) : WW G k nL cn sn pc L st0 n h := by
  intro H q ls z b c e
  subst hst0
  have hRR := C.2.2.2.2.2.2.2.1
  refine xx_call c (va_runV (C := "java/lang/String") (n := nA) (bytes := bytes) (maxL := maxL) (ret := ret) (index := i0) (Ts := lw_all) (own := own) (As := As) (nL := nL) ⟨C.1, C.2.1, C.2.2.1, C.2.2.2.1, C.2.2.2.2.1⟩ kk (cwV (ws' := lw_all) nA C.2.2.2.2.1 (xGood w5 (l := [.methodLink own i0 y, .instanceMethod y, .selects "java/lang/String" y y, .initialized "java/lang/String"]) (by simp only [List.mem_cons, List.not_mem_nil, or_false]; rintro x (rfl | rfl | rfl | rfl) <;> assumption)) rfl rfl rfl hd (by rw [hRR]; exact hR)) ⟨xWd_blind, vk_recv C.2.2.2.2.2.2.1.2.2.1 ok c, xPre C z b c⟩ rfl hA e.1 rfl (lv_room hst) d (by rw [hRR]; exact hf)) e (fun v n1 h1 hp => hp)
theorem ww_objInit (C : CC G k cc own nL rm) {i0 : Nat} (w1 : Cond.methodLink own i0 objectInit ∈ lw_all) (w2 : Cond.instanceMethod objectInit ∈ lw_all) (w3 : Cond.code objectInit ⟨#[0xb1]⟩ 1 none ∈ lw_all) (d : decode cc pc = .ok (.invokespecial i0, 3)) {a : Nat} (h1 : 1 ≤ rm.frames) (h2 : (st.map fun v => v.category).sum + 12 ≤ rm.locals) (kk : WW G k nL cn sn (pc + 3) L st n h) : WW G k nL cn sn pc L (rf G a :: st) n h := by
  intro H q ls z b c e
  have hRR := C.2.2.2.2.2.2.2.1
  have hts := C.2.2.2.2.1
  exact W.objInit C.1 C.2.1 C.2.2.2.1 (hts _ w1) (hts _ w2) (hts _ w3) rfl (by rw [C.2.2.1]; exact e.1) rfl d (by rw [hRR]; exact h1) (by rw [hRR]; show 2 * 0 + _ + 12 ≤ _; omega) (kk H q ls z b c e)
/-- the contract out of the walk from the entry -/
theorem xS_of {l : Launch} {y : MethodName} {ret : Option FieldType} {av : List Value} {Po : Option Value → Nat → xH → Prop} {L : List (Nat × Value)} (hy : plainName y.cls = true) (hn : (lg_sl av).length ≤ nL) (hL : lv_args 0 av = L)
    (body : ∀ k : xK, kl k = l → (kt k).name = y.name → CC G k cc y.cls nL rm → CQ G k ret rm Po → WW G k nL 0 0 0 L [] n h) : xS G l y (xws y cc nL ret) rm av n h Po := by
  refine Met.ofW (cc := cc) (maxL := nL) (ret := ret) hy rfl ?_
  intro p e s m args below meth c s₁ B hml hv
  obtain ⟨rfl, hsz, hP, hK, hF⟩ := hv
  have hts := atoms_spec (ws := xws y cc nL ret) B.pre
  have hb := body (p, l, e, rm, s, m, av.toArray, below, meth, c, MQ below (xQ G Po) av.toArray s rm.cells rm.slots (xA G)) rfl (name_of_methodNamed B.named B.method).1 ⟨B.exec, B.bytes, hml, findClass_of_methodNamed B.named, fun w hw => hts w (List.mem_cons_of_mem _ hw), hK, hF, rfl, by rw [hsz]; exact Nat.le_add_right _ _⟩ ⟨B.returns, B.notSynchronized, rfl⟩
  have hl := lv_entry av (n := nL) hn
  rw [lg_entry_eq]
  rw [hL] at hl
  exact hb s.heap [] _ hsz hP va_S.rf hl
end XC
end
section
/-! ROWS FOR CONSTANT TEXTS, STATICS, CASTS, SWITCHES, NATIVE METHODS -/
theorem xldcW {p : Program} {l : Launch} {e : Env} {R : Room} {s : State} {m : MethodId} {args : Array Value} {below : List Frame} {meth : Method} {c : Code} {T : State} {locs : List Loc} {cells slots : Nat}
    (X : Stand p l e R s m args below meth c T locs cells slots) (hexec : p.tables.exec = Jvm.exec) {own text : String} {index : Nat} {a : Addr} (hown : s.vm.findClass own = some m.cls)
    (hconst : (Cond.stringRef own index text).before #[] s = true) (hev : (Term.string own index).eval #[] s none [] s = some (.ref a)) {g : JFrame} (hg : g.method = m) (hdg : decode c.code g.pc = .ok (.ldc_w index, 3)) :
    ∀ target, Steps p.tables e below (T.setTop { g with pc := g.pc + 3, stack := .ref a :: g.stack }) target → Steps p.tables e below (T.setTop g) target := by
  obtain ⟨k, cf, i, a', hk, hcf, hcp, -, hr, hev'⟩ := Cond.stringRef_spec hown hconst
  cases hev.symm.trans hev'
  obtain ⟨k', hk', he⟩ := X.warmed.alike.2.2 _ _ hk
  have hr' : k'.resolved[index]? = some (some (.string a)) := by
    rcases X.warmed.entry hk hk' index with h | ⟨h, -⟩
    · rw [h]; exact hr
    · rw [hr] at h; cases h
  intro target hrest
  subst hg
  jvm_step X.here [hexec, hdg, ldc_w.wp_string (e := e) (s := T) (f := g) X.here.top hk' (by rw [he]; exact hcf) hcp hr']
  exact hrest
/-- the bytes of the constant texts, the table of fives, as whole numbers -/
def xCh (j i : Nat) : Int := ((xByt.getD j []).getD i 0).toInt
def x5 (i : Nat) : Int := (xP5.getD i 0).toInt
section XS
variable {G : xG} {k : xK} {cc : ByteArray} {own : String} {nL cn sn pc n : Nat} {rm : Room} {L : List (Nat × Value)} {st : List Value} {h : xH}
theorem ww_ldcSw (C : CC G k cc own nL rm) {i0 j : Nat} {tx : String} (hm : (own, i0, tx, j) ∈ xStr) (d : decode cc pc = .ok (.ldc_w i0, 3)) (kk : WW G k nL cn sn (pc + 3) L (.ref (G.2.2.2.2.1 j) :: st) n h) : WW G k nL cn sn pc L st n h := by
  intro H q ls a b c e T hT X
  have hZ := C.2.2.2.2.2.2.1.2.1 _ hm
  obtain ⟨t, a1, b1⟩ := kk H q ls a b c e T hT X
  exact ⟨t, xldcW X C.1 C.2.2.2.1 (text := tx) hZ.1 hZ.2 (g := F0 (km k) pc ls st) rfl (by rw [C.2.1]; exact d) t a1, b1⟩
/-- String.value, String.coder of a constant text; the length and the bytes of its row -/
theorem ww_strVal (C : CC G k cc own nL rm) {i0 j : Nat} (hj : j < 8) (w : Cond.fieldLink own i0 "java/lang/String" "value" "[B" ∈ lw_all) (d : decode cc pc = .ok (.getfield i0, 3)) (kk : WW G k nL cn sn (pc + 3) L (.ref (G.2.2.2.2.2 j) :: st) n h) : WW G k nL cn sn pc L (.ref (G.2.2.2.2.1 j) :: st) n h := fun H q ls a b c e =>
  vk_getf C.1 C.2.1 (C.2.2.2.2.2.2.1.2.2.1.1 j hj).2.2.1 c C.2.2.2.1 (C.2.2.2.2.1 _ w) (fun _ hx => hx) d (kk H q ls a b c e)
theorem ww_strCod (C : CC G k cc own nL rm) {i0 j : Nat} (hj : j < 8) (w : Cond.fieldLink own i0 "java/lang/String" "coder" "B" ∈ lw_all) (d : decode cc pc = .ok (.getfield i0, 3)) (kk : WW G k nL cn sn (pc + 3) L (.int (iz 0) :: st) n h) : WW G k nL cn sn pc L (.ref (G.2.2.2.2.1 j) :: st) n h := fun H q ls a b c e =>
  vk_getf C.1 C.2.1 (C.2.2.2.2.2.2.1.2.2.1.1 j hj).2.1 c C.2.2.2.1 (C.2.2.2.2.1 _ w) (fun _ hx => hx) d (kk H q ls a b c e)
theorem ww_strLen (C : CC G k cc own nL rm) {j : Nat} (hj : j < 8) (d : decode cc pc = .ok (.arraylength, 1)) (kk : WW G k nL cn sn (pc + 1) L (.int (iz (xLen.getD j 0 : Nat)) :: st) n h) : WW G k nL cn sn pc L (.ref (G.2.2.2.2.2 j) :: st) n h := fun H q ls a b c e =>
  va_tlen C.1 C.2.1 (C.2.2.2.2.2.2.1.2.2.1.1 j hj).2.2.2 c (iz_nat _) d (kk H q ls a b c e)
theorem ww_strAt (C : CC G k cc own nL rm) {j : Nat} (hj : j < 8) (d : decode cc pc = .ok (.baload, 1)) {i : Int} (h0 : 0 ≤ i) (h1 : i < (xLen.getD j 0 : Nat)) (h2 : i ≤ 2147483647) (kk : WW G k nL cn sn (pc + 1) L (.int (iz (xCh j i.toNat)) :: st) n h) : WW G k nL cn sn pc L (.int (iz i) :: .ref (G.2.2.2.2.2 j) :: st) n h := fun H q ls a b c e =>
  va_tb C.1 C.2.1 (C.2.2.2.2.2.2.1.2.2.1.1 j hj).2.2.2 c (iz_inA h0 h1 h2) (by show Value.int ((xByt.getD j []).getD (iz i).toNatClampNeg 0) = _; rw [iz_clamp ⟨by omega, h2⟩]; unfold xCh; rw [iz_self]) d (kk H q ls a b c e)
/-- statics -/
theorem ww_st5 (C : CC G k cc own nL rm) {i0 : Nat} (w : Cond.fieldLink own i0 "DoubleTexts$Natural" "POWERS_OF_FIVE" "[I" ∈ lw_all) (d : decode cc pc = .ok (.getstatic i0, 3)) (kk : WW G k nL cn sn (pc + 3) L (.ref G.2.2.2.1 :: st) n h) : WW G k nL cn sn pc L st n h := fun H q ls a b c e =>
  va_gets C.1 C.2.1 C.2.2.2.2.2.2.1.2.2.2.1 c C.2.2.2.1 (C.2.2.2.2.1 _ w) (fun _ hx => hx) d (kk H q ls a b c e)
theorem ww_st5len (C : CC G k cc own nL rm) (d : decode cc pc = .ok (.arraylength, 1)) (kk : WW G k nL cn sn (pc + 1) L (.int (iz 14) :: st) n h) : WW G k nL cn sn pc L (.ref G.2.2.2.1 :: st) n h := fun H q ls a b c e =>
  va_tlen C.1 C.2.1 C.2.2.2.2.2.2.1.2.2.2.2.1 c (iz_nat _) d (kk H q ls a b c e)
theorem ww_st5at (C : CC G k cc own nL rm) (d : decode cc pc = .ok (.iaload, 1)) {i : Int} (h0 : 0 ≤ i) (h1 : i < 14) (kk : WW G k nL cn sn (pc + 1) L (.int (iz (x5 i.toNat)) :: st) n h) : WW G k nL cn sn pc L (.int (iz i) :: .ref G.2.2.2.1 :: st) n h := fun H q ls a b c e =>
  va_ti C.1 C.2.1 C.2.2.2.2.2.2.1.2.2.2.2.1 c (iz_inA h0 (by omega) (by omega)) (by show Value.int (xP5.getD (iz i).toNatClampNeg 0) = _; rw [iz_clamp ⟨by omega, by omega⟩]; unfold x5; rw [iz_self]) d (kk H q ls a b c e)
theorem ww_stCompact (C : CC G k cc own nL rm) {i0 : Nat} (w : Cond.fieldLink own i0 "java/lang/String" "COMPACT_STRINGS" "Z" ∈ lw_all) (d : decode cc pc = .ok (.getstatic i0, 3)) (kk : WW G k nL cn sn (pc + 3) L (.int (iz 1) :: st) n h) : WW G k nL cn sn pc L st n h := fun H q ls a b c e =>
  va_gets C.1 C.2.1 C.2.2.2.2.2.2.1.2.2.2.2.2.1 c C.2.2.2.1 (C.2.2.2.2.1 _ w) (fun _ hx => hx) d (kk H q ls a b c e)
theorem ww_stNz (C : CC G k cc own nL rm) {i0 : Nat} (w : Cond.fieldLink own i0 "java/lang/Math" "negativeZeroDoubleBits" "J" ∈ lw_all) (d : decode cc pc = .ok (.getstatic i0, 3)) (kk : WW G k nL cn sn (pc + 3) L (.long (lz (-9223372036854775808)) :: st) n h) : WW G k nL cn sn pc L st n h := fun H q ls a b c e =>
  va_gets C.1 C.2.1 C.2.2.2.2.2.2.1.2.2.2.2.2.2.2.1 c C.2.2.2.1 (C.2.2.2.2.1 _ w) (fun _ hx => hx) d (kk H q ls a b c e)
/-- a reference to whom nobody looks: null, or some address -/
def vA (z : Option Nat) : Value := match z with
  | none => .null
  | some a => .ref a
theorem ww_stFmt (C : CC G k cc own nL rm) {i0 : Nat} (w : Cond.fieldLink own i0 "jdk/internal/util/Preconditions" "SIOOBE_FORMATTER" "Ljava/util/function/BiFunction;" ∈ lw_all) (d : decode cc pc = .ok (.getstatic i0, 3)) (kk : ∀ z, WW G k nL cn sn (pc + 3) L (vA z :: st) n h) : WW G k nL cn sn pc L st n h := by
  intro H q ls a b c e
  rcases C.2.2.2.2.2.2.1.2.2.2.2.2.2.1 with hZ | ⟨t, hZ⟩
  · exact va_gets C.1 C.2.1 hZ c C.2.2.2.1 (C.2.2.2.2.1 _ w) (fun _ hx => hx) d (kk none H q ls a b c e)
  · exact va_gets C.1 C.2.1 hZ c C.2.2.2.1 (C.2.2.2.2.1 _ w) (fun _ hx => hx) d (kk (some t) H q ls a b c e)
theorem ww_raw (C : CC G k cc own nL rm) {i0 : Nat} (w1 : Cond.methodLink own i0 ⟨"java/lang/Double", "doubleToRawLongBits", "(D)J"⟩ ∈ lw_all) (w2 : Cond.native ⟨"java/lang/Double", "doubleToRawLongBits", "(D)J"⟩ ∈ lw_all) (w3 : Cond.static ⟨"java/lang/Double", "doubleToRawLongBits", "(D)J"⟩ ∈ lw_all) (w4 : Cond.initialized "java/lang/Double" ∈ lw_all) (d : decode cc pc = .ok (.invokestatic i0, 3)) {x : UInt64} (h1 : 1 ≤ rm.frames) (h2 : (st.map fun v => v.category).sum + 15 ≤ rm.locals) (kk : WW G k nL cn sn (pc + 3) L (.long (lz x.toInt64.toInt) :: st) n h) : WW G k nL cn sn pc L (.double x :: st) n h := by
  intro H q ls a b c e
  have hRR := C.2.2.2.2.2.2.2.1
  have hts := C.2.2.2.2.1
  refine vn_d2l C.1 C.2.1 (by rw [C.2.2.1]; exact e.1.symm) C.2.2.2.1 (hts _ w1) (hts _ w2) (hts _ w3) (hts _ w4) (by rw [hRR]; exact h1) (by rw [hRR]; exact h2) d ?_
  rw [← lz_self x.toInt64]
  exact kk H q ls a b c e
/-- an object's class, asked -/
def xI (h : xH) (ci : Nat) (z : Int) : Int := if z < 0 then 0 else if (h z.toNat).1 = ci then 1 else 0
theorem xrecv (C : CC G k cc own nL rm) {H : Heap} (b : va_P G.2.1 vwCl (xw G n h) H) {ci a : Nat} {r : vw_C} (hc : vwCl[ci]? = some r) (hci : ci < 100) (ok : okO n h a ci) : ∃ cell : Cell, H[G.1 + a]? = some cell ∧ cell.vm.isStatics = false ∧ (ks k).vm.findClass r.1 = some cell.cls :=
  va_recv (ci := ci) C.2.2.2.2.2.1 b hc (q0 := a) (fs := xF G (xT ci) (h a).2.2) (by rw [xw_get ok.1, xE_obj ok.2 hci])
theorem ww_inst (C : CC G k cc own nL rm) {ci i0 : Nat} {Cn : String} {T : u_T} {N : Nat} (hc : vwCl[ci]? = some (Cn, T, N)) (hci : ci < 100) (w : Cond.classLink own i0 Cn ∈ lw_all) (hoth : ∀ cj, cj = 5 ∨ cj = 6 ∨ cj = 7 → cj ≠ ci → ∃ r, vwCl[cj]? = some r ∧ (r.1, Cn) ∈ xNc) (d : decode cc pc = .ok (.instanceof i0, 3)) {z : Int}
    (ok : z < 0 ∨ (z.toNat < n ∧ ((h z.toNat).1 = 5 ∨ (h z.toNat).1 = 6 ∨ (h z.toNat).1 = 7))) (kk : WW G k nL cn sn (pc + 3) L (.int (iz (xI h ci z)) :: st) n h) : WW G k nL cn sn pc L (vR G z :: st) n h := by
  intro H q ls a b c e
  have hk := kk H q ls a b c e
  by_cases hz : z < 0
  · rw [show vR G z = .null from if_pos hz]
    unfold xI at hk
    rw [if_pos hz] at hk
    exact lv_instN C.1 C.2.1 d hk
  · rw [show vR G z = .ref (G.1 + z.toNat) from if_neg hz]
    rcases ok with g | ⟨g1, g2⟩
    · exact absurd g hz
    · unfold xI at hk
      rw [if_neg hz] at hk
      by_cases he : (h z.toNat).1 = ci
      · rw [if_pos he] at hk
        exact va_instS C.1 C.2.1 C.2.2.2.1 (C.2.2.2.2.1 _ w) (C.2.2.2.2.2.1.1 ci _ hc).2 (xrecv C b hc hci ⟨g1, he⟩) d hk
      · rw [if_neg he] at hk
        obtain ⟨r, hr, hm⟩ := hoth _ g2 he
        exact va_instNo C.1 C.2.1 C.2.2.2.1 (C.2.2.2.2.1 _ w) (C.2.2.2.2.2.2.1.2.2.2.2.2.2.2.2.1 _ hm) (xrecv C b hr (by omega) ⟨g1, rfl⟩) d hk
theorem ww_cast (C : CC G k cc own nL rm) {ci i0 : Nat} {Cn : String} {T : u_T} {N : Nat} (hc : vwCl[ci]? = some (Cn, T, N)) (hci : ci < 100) (w : Cond.classLink own i0 Cn ∈ lw_all) (d : decode cc pc = .ok (.checkcast i0, 3)) {z : Int}
    (ok : z < 0 ∨ (z.toNat < n ∧ (h z.toNat).1 = ci)) (kk : WW G k nL cn sn (pc + 3) L (vR G z :: st) n h) : WW G k nL cn sn pc L (vR G z :: st) n h := by
  intro H q ls a b c e
  have hk := kk H q ls a b c e
  by_cases hz : z < 0
  · rw [show vR G z = .null from if_pos hz] at hk ⊢
    exact lv_castN C.1 C.2.1 d hk
  · rw [show vR G z = .ref (G.1 + z.toNat) from if_neg hz] at hk ⊢
    rcases ok with g | ⟨g1, g2⟩
    · exact absurd g hz
    · exact va_castS C.1 C.2.1 C.2.2.2.1 (C.2.2.2.2.1 _ w) (C.2.2.2.2.2.1.1 ci _ hc).2 (xrecv C b hc hci ⟨g1, g2⟩) d hk
theorem ww_castI (C : CC G k cc own nL rm) {i0 : Nat} (w : Cond.classLink own i0 "[I" ∈ lw_all) (d : decode cc pc = .ok (.checkcast i0, 3)) {a : Nat} (h1 : a < n) (h2 : (h a).1 = 100) (kk : WW G k nL cn sn (pc + 3) L (rf G a :: st) n h) : WW G k nL cn sn pc L (rf G a :: st) n h := fun H q ls y b c e =>
  va_castA C.1 C.2.1 C.2.2.2.1 (C.2.2.2.2.1 _ w) b a (by rw [xw_get h1, xE_ints h2]) (C.2.2.2.2.2.1.2 0 _ rfl).2 d (kk H q ls y b c e)
/-- the law's script -/
theorem ww_slen (C : CC G k cc own nL rm) {b0 N : Nat} {xs : Nat → Int32} (hX : va_X b0 N xs (ks k) (ks k).heap) (hbl : b0 < (ks k).heap.size) (hbA : ¬ xA G b0) (d : decode cc pc = .ok (.arraylength, 1)) (kk : WW G k nL cn sn (pc + 1) L (.int (iz (N : Int)) :: st) n h) : WW G k nL cn sn pc L (.ref b0 :: st) n h := by
  intro H q ls a b c e
  refine va_slen C.1 C.2.1 hX hbl hbA c d ?_
  rw [iz_nat]
  exact kk H q ls a b c e
theorem ww_sld (C : CC G k cc own nL rm) {b0 N : Nat} {xs : Nat → Int32} (hX : va_X b0 N xs (ks k) (ks k).heap) (hbl : b0 < (ks k).heap.size) (hbA : ¬ xA G b0) (d : decode cc pc = .ok (.iaload, 1)) {i : Int} (h0 : 0 ≤ i) (h1 : i < (N : Int)) (h2 : i ≤ 2147483647) (kk : WW G k nL cn sn (pc + 1) L (.int (iz (xs i.toNat).toInt) :: st) n h) : WW G k nL cn sn pc L (.int (iz i) :: .ref b0 :: st) n h := by
  intro H q ls a b c e
  refine va_sld C.1 C.2.1 hX hbl hbA c (iz_inA h0 h1 h2) d ?_
  rw [iz_clamp ⟨by omega, h2⟩, ← iz_self (xs i.toNat)]
  exact kk H q ls a b c e
/-- switches -/
theorem ww_tableIn (C : CC G k cc own nL rm) {df lo hi : Int} {offs : Array Int} {len tg : Nat} {x o : Int} (d : decode cc pc = .ok (.tableswitch df lo hi offs, len)) (hx : rg x) (h1 : lo ≤ x) (h2 : x ≤ hi) (ho : offs[(x - lo).toNat]? = some o) (ht : (pc : Int) + o = (tg : Int)) (kk : WW G k nL cn sn tg L st n h) : WW G k nL cn sn pc L (.int (iz x) :: st) n h := fun H q ls a b c e =>
  lv_tableIn C.1 C.2.1 d (by rw [iz_toInt hx]; omega) (by rw [iz_toInt hx]; omega) (by rw [iz_toInt hx]; exact ho) ht (kk H q ls a b c e)
theorem ww_tableOut (C : CC G k cc own nL rm) {df lo hi : Int} {offs : Array Int} {len tg : Nat} {x : Int} (d : decode cc pc = .ok (.tableswitch df lo hi offs, len)) (hx : rg x) (h1 : x < lo ∨ hi < x) (ht : (pc : Int) + df = (tg : Int)) (kk : WW G k nL cn sn tg L st n h) : WW G k nL cn sn pc L (.int (iz x) :: st) n h := fun H q ls a b c e =>
  lv_tableOut C.1 C.2.1 d (by rw [iz_toInt hx]; exact h1) ht (kk H q ls a b c e)
theorem ww_lookup (C : CC G k cc own nL rm) {df : Int} {ps : Array (Int × Int)} {len tg : Nat} {x o : Int} (d : decode cc pc = .ok (.lookupswitch df ps, len)) (hp : (ps.toList.zip (ps.toList.drop 1)).all (fun (a, next) => a.1 < next.1) = true) (hx : rg x) (ho : Op.lookupswitch.offset ps.toList df x = o) (ht : (pc : Int) + o = (tg : Int)) (kk : WW G k nL cn sn tg L st n h) : WW G k nL cn sn pc L (.int (iz x) :: st) n h := fun H q ls a b c e =>
  lv_lookup C.1 C.2.1 d hp (by rw [iz_toInt hx]; exact ho) ht (kk H q ls a b c e)
end XS
end
section
/-! ROWS FOR System.arraycopy AND int[].clone OVER THE FLAT WORLD (the proofs follow the kit's rows of the same names; the heap's size is kept track of) -/
theorem fits_int (x : Int32) : fits .int (.int x) = true := rfl
section XCP
variable {G : xG} {k : xK} {cc : ByteArray} {own : String} {nL cn sn pc n : Nat} {rm : Room} {L : List (Nat × Value)} {st : List Value} {h : xH}
/-- a row copied into another, both from their beginnings -/
def hCp (h : xH) (a0 a1 m : Nat) : xH := hN h a1 ((h a1).1, (h a1).2.1, fun j => if j < m then (h a0).2.2 j else (h a1).2.2 j)
theorem ww_copy (C : CC G k cc own nL rm) {i0 : Nat} (w1 : Cond.methodLink own i0 arraycopyName ∈ lw_all) (w2 : Cond.native arraycopyName ∈ lw_all) (w3 : Cond.static arraycopyName ∈ lw_all) (w4 : Cond.initialized "java/lang/System" ∈ lw_all) (hR : 1 ≤ rm.frames ∧ (st.map fun v => v.category).sum + (nativeFrameWords "java/lang/System" "arraycopy" 5 + 11) ≤ rm.locals) (d : decode cc pc = .ok (.invokestatic i0, 3)) {a0 a1 : Nat} {z : Int}
    (ok : a0 < n ∧ (h a0).1 = 100 ∧ a1 < n ∧ (h a1).1 = 100 ∧ 0 ≤ z ∧ z ≤ ((h a0).2.1 : Int) ∧ z ≤ ((h a1).2.1 : Int) ∧ z ≤ 2147483647) (kk : WW G k nL cn sn (pc + 3) L st n (hCp h a0 a1 z.toNat)) : WW G k nL cn sn pc L (.int (iz z) :: .int (iz 0) :: rf G a1 :: .int (iz 0) :: rf G a0 :: st) n h := by
  obtain ⟨k1, k2, k3, k4, k5, k6, k7, k8⟩ := ok
  intro H q ls y b c e
  have hts := C.2.2.2.2.1
  have hRR := C.2.2.2.2.2.2.2.1
  have hK := C.2.2.2.2.2.1
  have hz : rg z := ⟨by omega, k8⟩
  have nn : ∀ z : Int32, ¬ z < 0 → z.toInt = (z.toNatClampNeg : Int) := by
    intro z hz
    have hz0 : (0 : Int) ≤ z.toInt := by
      have := Int32.not_lt.mp hz
      simpa using Int32.le_iff_toInt_le.mp this
    show z.toInt = ((z.toInt.toNat : Nat) : Int)
    omega
  have ha0 : (xw G n h)[a0]? = some (G.1 + a0, .inl (G.2.2.1.1, ((h a0).2.1, .inl fun j => iz ((h a0).2.2 j)))) := by rw [xw_get k1, xE_ints k2]
  have ha1 : (xw G n h)[a1]? = some (G.1 + a1, .inl (G.2.2.1.1, ((h a1).2.1, .inl fun j => iz ((h a1).2.2 j)))) := by rw [xw_get k3, xE_ints k4]
  intro T hT X
  have hc0 : H[G.1 + a0]? = some (vp_cell G.2.2.1.1 ((h a0).2.1, .inl fun j => iz ((h a0).2.2 j))) := b a0 _ ha0
  have hc1 : H[G.1 + a1]? = some (vp_cell G.2.2.1.1 ((h a1).2.1, .inl fun j => iz ((h a1).2.2 j))) := b a1 _ ha1
  obtain ⟨-, k0, hk0, cm0, hkk0⟩ := (hK.2 0 _ rfl).1 (h a0).2.1 (fun j => .int (iz ((h a0).2.2 j)))
  obtain ⟨-, kx, hk1, cm1, hkk1⟩ := (hK.2 0 _ rfl).1 (h a1).2.1 (fun j => .int (iz ((h a1).2.2 j)))
  have g1 : ¬ iz 0 < 0 := by decide
  have g3 : ¬ iz z < 0 := fun q => by have := (iz_lt hz rg0).mp q; omega
  have cl0 : (iz 0).toNatClampNeg = 0 := rfl
  have clz : (iz z).toNatClampNeg = z.toNat := iz_clamp hz
  obtain ⟨vm', X', step⟩ := X.arraycopy C.1 C.2.2.2.1 (hts _ w1) (hts _ w2) (hts _ w3) (hts _ w4) (src := G.1 + a0) (dst := G.1 + a1) (cs := vp_cell G.2.2.1.1 ((h a0).2.1, .inl fun j => iz ((h a0).2.2 j))) (cd := vp_cell G.2.2.1.1 ((h a1).2.1, .inl fun j => iz ((h a1).2.2 j))) (srcPos := iz 0) (destPos := iz 0) (n := iz z) (by rw [hT]; exact hc0) (by rw [hT]; exact hc1)
    (fun _ h => by cases h) (fun _ h => by cases h) (fun h => by cases h) (fun h => by cases h) hk0 hk1 hkk0 hkk1 (by simp [refKind]) g1 g1 g3
    (by rw [nn _ g1, nn _ g3]; show ¬ _ > ((arrV G.2.2.1.1 (h a0).2.1 (fun j => .int (iz ((h a0).2.2 j)))).slots.size : Int); rw [arrV_size, cl0, clz]; omega)
    (by rw [nn _ g1, nn _ g3]; show ¬ _ > ((arrV G.2.2.1.1 (h a1).2.1 (fun j => .int (iz ((h a1).2.2 j)))).slots.size : Int); rw [arrV_size, cl0, clz]; omega)
    (fun vm₁ _ i hi => by
      have e : (vp_cell G.2.2.1.1 ((h a0).2.1, .inl fun j => iz ((h a0).2.2 j))).slots.getD ((iz 0).toNatClampNeg + i) .null = .int (iz ((h a0).2.2 ((iz 0).toNatClampNeg + i))) := by
        show (arrV G.2.2.1.1 (h a0).2.1 (fun j => .int (iz ((h a0).2.2 j)))).slots.getD _ _ = _
        rw [Array.getD_eq_getD_getElem?, arrV_read _ _ (by rw [cl0]; rw [clz] at hi; omega)]
        rfl
      refine ⟨?_, ?_⟩
      · rw [e]
        rfl
      · rw [e]
        exact trivial)
    (g := F0 (km k) pc ls (.int (iz z) :: .int (iz 0) :: rf G a1 :: .int (iz 0) :: rf G a0 :: st)) rfl (by rw [C.2.2.1]; exact e.1) (rest := st) rfl (by rw [C.2.1]; exact d) (by rw [hRR]; exact hR.1) (by rw [hRR]; have := hR.2; show 2 * 0 + _ + _ ≤ _; omega)
  have e1 : copied (vp_cell G.2.2.1.1 ((h a0).2.1, .inl fun j => iz ((h a0).2.2 j))) (vp_cell G.2.2.1.1 ((h a1).2.1, .inl fun j => iz ((h a1).2.2 j))) (iz 0) (iz 0) (iz z) = vp_cell G.2.2.1.1 ((h a1).2.1, .inl (va_cpy (fun j => iz ((h a0).2.2 j)) (fun j => iz ((h a1).2.2 j)) (iz 0).toNatClampNeg (iz 0).toNatClampNeg (iz z).toNatClampNeg)) := va_copied (fun z => .int z) G.2.2.1.1 G.2.2.1.1 (n0 := (h a0).2.1) (n1 := (h a1).2.1) (sp := (iz 0).toNatClampNeg) (dp := (iz 0).toNatClampNeg) (n := (iz z).toNatClampNeg) (fun j => iz ((h a0).2.2 j)) (fun j => iz ((h a1).2.2 j)) (by rw [cl0, clz]; omega)
  have e2 : va_cpy (fun j => iz ((h a0).2.2 j)) (fun j => iz ((h a1).2.2 j)) (iz 0).toNatClampNeg (iz 0).toNatClampNeg (iz z).toNatClampNeg = fun j => iz (if j < z.toNat then (h a0).2.2 j else (h a1).2.2 j) := by
    rw [cl0, clz]
    funext j
    unfold va_cpy
    by_cases hj : j < z.toNat
    · rw [if_pos ⟨Nat.zero_le _, by omega⟩, if_pos hj]; simp
    · rw [if_neg (by omega), if_neg hj]
  rw [e2] at e1
  rw [e1] at X' step
  have hl : G.1 + a1 < H.size := (Array.getElem?_eq_some_iff.mp hc1).1
  generalize hce : vp_cell G.2.2.1.1 ((h a1).2.1, .inl fun j => iz (if j < z.toNat then (h a0).2.2 j else (h a1).2.2 j)) = ce at X' step
  have hheap : ((T.setVm vm').setCell (G.1 + a1) ce).heap = H.setIfInBounds (G.1 + a1) ce := by rw [← hT]; rfl
  have oq : ∀ q : Nat, q ≠ G.1 + a1 → (H.setIfInBounds (G.1 + a1) ce)[q]? = H[q]? := fun q hq => by simp [Array.getElem?_setIfInBounds, Ne.symm hq]
  have b1 := b.set xw_D ha1 (e := .inl (G.2.2.1.1, ((h a1).2.1, .inl fun j => iz (if j < z.toNat then (h a0).2.2 j else (h a1).2.2 j)))) (H1 := H.setIfInBounds (G.1 + a1) ce) (show (H.setIfInBounds (G.1 + a1) ce)[G.1 + a1]? = some (vp_cell _ _) by rw [hce]; simp [Array.getElem?_setIfInBounds, hl]) oq
  rw [xw_set (h' := hCp h a0 a1 z.toNat) ((xE_ints (c := hCp h a0 a1 z.toNat a1) (by unfold hCp; rw [hN_self]; exact k4)).trans (by unfold hCp; rw [hN_self])) (fun j hj => hN_ne h _ hj)] at b1
  obtain ⟨t, a1', b1'⟩ := kk _ _ ls (by rw [Array.size_setIfInBounds]; exact y) b1 ⟨by simp; exact c.1, fun q g1 g2 => by
      rw [oq q (fun e => g2 (by rw [e]; exact Nat.le_add_right _ _))]
      exact c.2.1 q g1 g2, fun q hq => by
      rcases List.mem_append.mp hq with h | h
      · exact c.2.2 q h
      · obtain ⟨z, -, hz⟩ := List.mem_map.mp h
        rw [← hz]
        exact Nat.le_add_right _ _⟩ e _ hheap X'
  exact ⟨t, step t a1', b1'⟩
theorem ww_clone (C : CC G k cc own nL rm) {i0 : Nat} (w1 : Cond.methodLink own i0 ⟨"[I", "clone", "()Ljava/lang/Object;"⟩ ∈ lw_all) (w2 : Cond.sameMethod "[I" "java/lang/Object" "clone" "()Ljava/lang/Object;" ∈ lw_all) (w3 : Cond.native ⟨"java/lang/Object", "clone", "()Ljava/lang/Object;"⟩ ∈ lw_all) (w4 : Cond.instanceMethod ⟨"java/lang/Object", "clone", "()Ljava/lang/Object;"⟩ ∈ lw_all)
    (w5 : Cond.selects "[I" ⟨"[I", "clone", "()Ljava/lang/Object;"⟩ ⟨"java/lang/Object", "clone", "()Ljava/lang/Object;"⟩ ∈ lw_all) (hR : 1 ≤ rm.frames ∧ (st.map fun v => v.category).sum + 14 ≤ rm.locals) (d : decode cc pc = .ok (.invokevirtual i0, 3)) {a : Nat} {B : Nat} (ok : a < n ∧ (h a).1 = 100 ∧ (h a).2.1 ≤ B) (hc1 : cn + 1 ≤ rm.cells) (hs1 : sn + B ≤ rm.slots) (kk : WW G k nL (cn + 1) (sn + B) (pc + 3) L (rf G n :: st) (n + 1) (hN h n (h a))) : WW G k nL cn sn pc L (rf G a :: st) n h := by
  obtain ⟨k1, k2, k3⟩ := ok
  intro H q ls y b c e
  have hts := C.2.2.2.2.1
  have hRR := C.2.2.2.2.2.2.2.1
  have hK := C.2.2.2.2.2.1
  have ha : (xw G n h)[a]? = some (G.1 + a, .inl (G.2.2.1.1, ((h a).2.1, .inl fun j => iz ((h a).2.2 j)))) := by rw [xw_get k1, xE_ints k2]
  generalize hx : (((h a).2.1, .inl fun j => iz ((h a).2.2 j)) : vp_A) = x at ha
  have hx1 : x.1 = (h a).2.1 := by rw [← hx]
  have hsz : (vp_cell G.2.2.1.1 x).slots.size = x.1 := by
    rw [← hx]; exact arrV_size _ _ _
  have hvm0 : (vp_cell G.2.2.1.1 x).vm = .none := by rw [← hx]; rfl
  have hcl0 : (vp_cell G.2.2.1.1 x).cls = G.2.2.1.1 := by rw [← hx]; rfl
  have hcellE : ({ cls := (vp_cell G.2.2.1.1 x).cls, slots := (vp_cell G.2.2.1.1 x).slots } : Cell) = vp_cell G.2.2.1.1 x := by rw [← hx]; rfl
  have hnm : (ks k).vm.findClass "[I" = some G.2.2.1.1 := (hK.2 0 _ rfl).2
  obtain ⟨c0, t0', f1, f2, f3⟩ := Cond.castable_spec (va_Nw.use (A := ka k) rfl C.2.2.2.2.2.2.1.2.2.2.2.2.2.2.2.2)
  cases hnm.symm.trans f1
  intro T hT X
  have hcellT : T.heap[G.1 + a]? = some (vp_cell G.2.2.1.1 x) := by rw [hT]; exact b a _ ha
  obtain ⟨-, kA, hkA, comp, hkind⟩ := State.isArrayOf_alike X.warmed.alike ((hK.2 0 _ rfl).1 0 (fun _ => .null))
  obtain ⟨-, kS, hkS, compS, hkindS⟩ := (hK.2 0 _ rfl).1 0 (fun _ => .null)
  obtain ⟨vm', X', stp⟩ := X.cloneArray C.1 C.2.2.2.1 (hts _ w1) (hts _ w2) (hts _ w3) (hts _ w4) (hts _ w5) (a := G.1 + a) (cell := vp_cell G.2.2.1.1 x) hcellT (fun k h => by rw [hvm0] at h; cases h) (by rw [hvm0]; exact fun h => by cases h) (by rw [hcl0]; exact hnm) f2 (by rw [hcl0]; exact f3)
    (fun i v hv => by
      rw [hcl0]
      have hk' : T.vm.classes[G.2.2.1.1]? = some kA := hkA
      have hf : fits .int v = true := by
        rw [← hx] at hv
        have hi : i < (h a).2.1 := by
          have := (Array.getElem?_eq_some_iff.mp hv).1
          rw [show (vp_cell G.2.2.1.1 ((h a).2.1, .inl fun j => iz ((h a).2.2 j))).slots.size = (h a).2.1 from arrV_size _ _ _] at this
          exact this
        have := (arrV_read G.2.2.1.1 (fun j => .int (iz ((h a).2.2 j))) hi).symm.trans hv
        cases this
        rfl
      simpa [State.fitsSlot, State.slotType?, hk', hkind] using hf)
    (g := F0 (km k) pc ls (rf G a :: st)) rfl (by rw [C.2.2.1]; exact e.1) rfl (by rw [C.2.1]; exact d) (by rw [hRR]; exact hR.1) (by rw [hRR]; have := hR.2; show 2 * 0 + _ + 14 ≤ _; omega) (by rw [hRR]; exact hc1) (by rw [hRR, hsz, hx1]; omega) (hloader := by rw [hcl0]; exact Vm.clonesLoader_of_array hkS hkindS)
  rw [hcellE, hsz] at X'
  generalize hH1 : H.push (vp_cell G.2.2.1.1 x) = H1
  have z1 : H1.size = H.size + 1 := by rw [← hH1, Array.size_push]
  have e1 : H1[H.size]? = some (vp_cell G.2.2.1.1 x) := by rw [← hH1, Array.getElem?_push_size]
  have o1 : ∀ q : Nat, q < H.size → H1[q]? = H[q]? := fun q hq => by rw [← hH1, Array.getElem?_push, if_neg (Nat.ne_of_lt hq)]
  have b1 := xP_push (c := h a) b y o1 (by
    rw [xE_ints k2, hx]
    show H1[G.1 + n]? = _
    rw [← y]
    exact e1)
  obtain ⟨t, a1, b2⟩ := (W.widen (Nat.le_refl _) (by rw [hx1]; omega) (kk H1 q ls (by rw [z1, y]; rfl) b1 (xS_push c z1 o1) e)) ((T.setVm vm').pushCell (vp_cell G.2.2.1.1 x)) (by rw [← hH1, ← hT]; rfl) X'
  refine ⟨t, stp t ?_, b2⟩
  rw [hcellE, hT, y]
  exact a1
end XCP
end
