-- ===== PART A: goes FIRST, ahead of the names: the tables' words, and 'selects' of the private methods out of them =====
/-- a private method of a class that the tables say can be made, by its rows of tables_1 -/
def lw_okq (q : MethodName × Nat) : Prop := (q.1.cls ≠ "java/lang/invoke/MethodHandle" ∧ q.1.cls ≠ "java/lang/invoke/VarHandle") ∧ Cond.instantiable q.1.cls q.2 ∈ tables_1 ∧ Cond.privateMethod q.1 ∈ tables_1 ∧ Cond.instanceMethod q.1 ∈ tables_1
theorem lw_p0 : lw_okq (⟨"ChipVolts$Net", "clear", "(I)V"⟩, 8) := ⟨⟨by decide +kernel, by decide +kernel⟩, List.mem_of_getElem? (i := 20) (by decide +kernel), List.mem_of_getElem? (i := 209) (by decide +kernel), List.mem_of_getElem? (i := 210) (by decide +kernel)⟩
theorem lw_p1 : lw_okq (⟨"ChipVolts$Blocks", "clear", "()V"⟩, 5) := ⟨⟨by decide +kernel, by decide +kernel⟩, List.mem_of_getElem? (i := 72) (by decide +kernel), List.mem_of_getElem? (i := 213) (by decide +kernel), List.mem_of_getElem? (i := 214) (by decide +kernel)⟩
theorem lw_p2 : lw_okq (⟨"ChipVolts$Net", "isKnot", "(I)Z"⟩, 8) := ⟨⟨by decide +kernel, by decide +kernel⟩, List.mem_of_getElem? (i := 20) (by decide +kernel), List.mem_of_getElem? (i := 221) (by decide +kernel), List.mem_of_getElem? (i := 222) (by decide +kernel)⟩
theorem lw_p3 : lw_okq (⟨"ChipVolts$Net", "addWire", "(IIII)I"⟩, 8) := ⟨⟨by decide +kernel, by decide +kernel⟩, List.mem_of_getElem? (i := 20) (by decide +kernel), List.mem_of_getElem? (i := 225) (by decide +kernel), List.mem_of_getElem? (i := 226) (by decide +kernel)⟩
theorem lw_p4 : lw_okq (⟨"ChipVolts$Net", "isWire", "(I)Z"⟩, 8) := ⟨⟨by decide +kernel, by decide +kernel⟩, List.mem_of_getElem? (i := 20) (by decide +kernel), List.mem_of_getElem? (i := 233) (by decide +kernel), List.mem_of_getElem? (i := 234) (by decide +kernel)⟩
theorem lw_p5 : lw_okq (⟨"ChipVolts$Net", "isPad", "(I)Z"⟩, 8) := ⟨⟨by decide +kernel, by decide +kernel⟩, List.mem_of_getElem? (i := 20) (by decide +kernel), List.mem_of_getElem? (i := 241) (by decide +kernel), List.mem_of_getElem? (i := 242) (by decide +kernel)⟩
theorem lw_p6 : lw_okq (⟨"ChipVolts", "settled", "()Z"⟩, 6) := ⟨⟨by decide +kernel, by decide +kernel⟩, List.mem_of_getElem? (i := 12) (by decide +kernel), List.mem_of_getElem? (i := 260) (by decide +kernel), List.mem_of_getElem? (i := 261) (by decide +kernel)⟩
theorem lw_p7 : lw_okq (⟨"ChipVolts$Balance", "settle", "(LChipVolts$Net;I)Z"⟩, 5) := ⟨⟨by decide +kernel, by decide +kernel⟩, List.mem_of_getElem? (i := 102) (by decide +kernel), List.mem_of_getElem? (i := 264) (by decide +kernel), List.mem_of_getElem? (i := 265) (by decide +kernel)⟩
theorem lw_p8 : lw_okq (⟨"ChipVolts$Balance", "lay", "(LChipVolts$Net;)V"⟩, 5) := ⟨⟨by decide +kernel, by decide +kernel⟩, List.mem_of_getElem? (i := 102) (by decide +kernel), List.mem_of_getElem? (i := 268) (by decide +kernel), List.mem_of_getElem? (i := 269) (by decide +kernel)⟩
theorem lw_p9 : lw_okq (⟨"ChipVolts$Balance", "takeOutAllBut", "(I)Z"⟩, 5) := ⟨⟨by decide +kernel, by decide +kernel⟩, List.mem_of_getElem? (i := 102) (by decide +kernel), List.mem_of_getElem? (i := 272) (by decide +kernel), List.mem_of_getElem? (i := 273) (by decide +kernel)⟩
theorem lw_p10 : lw_okq (⟨"ChipVolts$Balance", "takeOut", "(I)Z"⟩, 5) := ⟨⟨by decide +kernel, by decide +kernel⟩, List.mem_of_getElem? (i := 102) (by decide +kernel), List.mem_of_getElem? (i := 277) (by decide +kernel), List.mem_of_getElem? (i := 278) (by decide +kernel)⟩
theorem lw_p11 : lw_okq (⟨"ChipVolts$Balance", "forget", "(I)V"⟩, 5) := ⟨⟨by decide +kernel, by decide +kernel⟩, List.mem_of_getElem? (i := 102) (by decide +kernel), List.mem_of_getElem? (i := 281) (by decide +kernel), List.mem_of_getElem? (i := 282) (by decide +kernel)⟩
theorem lw_p12 : lw_okq (⟨"ChipVolts$Balance", "weigh", "([I)V"⟩, 5) := ⟨⟨by decide +kernel, by decide +kernel⟩, List.mem_of_getElem? (i := 102) (by decide +kernel), List.mem_of_getElem? (i := 285) (by decide +kernel), List.mem_of_getElem? (i := 286) (by decide +kernel)⟩
theorem lw_p13 : lw_okq (⟨"ChipVolts$Balance", "highest", "()I"⟩, 5) := ⟨⟨by decide +kernel, by decide +kernel⟩, List.mem_of_getElem? (i := 102) (by decide +kernel), List.mem_of_getElem? (i := 303) (by decide +kernel), List.mem_of_getElem? (i := 304) (by decide +kernel)⟩
theorem lw_p14 : lw_okq (⟨"ChipVolts$Blocks", "addBlock", "(II)I"⟩, 5) := ⟨⟨by decide +kernel, by decide +kernel⟩, List.mem_of_getElem? (i := 72) (by decide +kernel), List.mem_of_getElem? (i := 321) (by decide +kernel), List.mem_of_getElem? (i := 322) (by decide +kernel)⟩
theorem lw_p15 : lw_okq (⟨"ChipVolts$Blocks", "isBlock", "(I)Z"⟩, 5) := ⟨⟨by decide +kernel, by decide +kernel⟩, List.mem_of_getElem? (i := 72) (by decide +kernel), List.mem_of_getElem? (i := 333) (by decide +kernel), List.mem_of_getElem? (i := 334) (by decide +kernel)⟩
def lw_privs_1 : List (MethodName × Nat) := [(⟨"ChipVolts$Net", "clear", "(I)V"⟩, 8), (⟨"ChipVolts$Blocks", "clear", "()V"⟩, 5), (⟨"ChipVolts$Net", "isKnot", "(I)Z"⟩, 8), (⟨"ChipVolts$Net", "addWire", "(IIII)I"⟩, 8), (⟨"ChipVolts$Net", "isWire", "(I)Z"⟩, 8), (⟨"ChipVolts$Net", "isPad", "(I)Z"⟩, 8), (⟨"ChipVolts", "settled", "()Z"⟩, 6), (⟨"ChipVolts$Balance", "settle", "(LChipVolts$Net;I)Z"⟩, 5), (⟨"ChipVolts$Balance", "lay", "(LChipVolts$Net;)V"⟩, 5), (⟨"ChipVolts$Balance", "takeOutAllBut", "(I)Z"⟩, 5), (⟨"ChipVolts$Balance", "takeOut", "(I)Z"⟩, 5), (⟨"ChipVolts$Balance", "forget", "(I)V"⟩, 5), (⟨"ChipVolts$Balance", "weigh", "([I)V"⟩, 5), (⟨"ChipVolts$Balance", "highest", "()I"⟩, 5), (⟨"ChipVolts$Blocks", "addBlock", "(II)I"⟩, 5), (⟨"ChipVolts$Blocks", "isBlock", "(I)Z"⟩, 5)]
theorem lw_r1 : ∀ q ∈ lw_privs_1, lw_okq q := List.forall_mem_cons.mpr ⟨lw_p0, List.forall_mem_cons.mpr ⟨lw_p1, List.forall_mem_cons.mpr ⟨lw_p2, List.forall_mem_cons.mpr ⟨lw_p3, List.forall_mem_cons.mpr ⟨lw_p4, List.forall_mem_cons.mpr ⟨lw_p5, List.forall_mem_cons.mpr ⟨lw_p6, List.forall_mem_cons.mpr ⟨lw_p7, List.forall_mem_cons.mpr ⟨lw_p8, List.forall_mem_cons.mpr ⟨lw_p9, List.forall_mem_cons.mpr ⟨lw_p10, List.forall_mem_cons.mpr ⟨lw_p11, List.forall_mem_cons.mpr ⟨lw_p12, List.forall_mem_cons.mpr ⟨lw_p13, List.forall_mem_cons.mpr ⟨lw_p14, List.forall_mem_cons.mpr ⟨lw_p15, fun _ h => absurd h List.not_mem_nil⟩⟩⟩⟩⟩⟩⟩⟩⟩⟩⟩⟩⟩⟩⟩⟩
theorem lw_p16 : lw_okq (⟨"ChipVolts$Blocks", "share", "(LChipVolts$Balance;I)V"⟩, 5) := ⟨⟨by decide +kernel, by decide +kernel⟩, List.mem_of_getElem? (i := 72) (by decide +kernel), List.mem_of_getElem? (i := 337) (by decide +kernel), List.mem_of_getElem? (i := 338) (by decide +kernel)⟩
theorem lw_p17 : lw_okq (⟨"ChipVolts$Blocks", "nextToGet", "([J)I"⟩, 5) := ⟨⟨by decide +kernel, by decide +kernel⟩, List.mem_of_getElem? (i := 72) (by decide +kernel), List.mem_of_getElem? (i := 341) (by decide +kernel), List.mem_of_getElem? (i := 342) (by decide +kernel)⟩
theorem lw_p18 : lw_okq (⟨"ChipVolts$Blocks", "worstAbove", "(LChipVolts$Balance;I)J"⟩, 5) := ⟨⟨by decide +kernel, by decide +kernel⟩, List.mem_of_getElem? (i := 72) (by decide +kernel), List.mem_of_getElem? (i := 352) (by decide +kernel), List.mem_of_getElem? (i := 353) (by decide +kernel)⟩
theorem lw_p19 : lw_okq (⟨"ChipVolts", "opened", "(I)Z"⟩, 6) := ⟨⟨by decide +kernel, by decide +kernel⟩, List.mem_of_getElem? (i := 12) (by decide +kernel), List.mem_of_getElem? (i := 365) (by decide +kernel), List.mem_of_getElem? (i := 366) (by decide +kernel)⟩
theorem lw_p20 : lw_okq (⟨"ChipVolts$Balance", "alter", "(LChipVolts$Balance;III)Z"⟩, 5) := ⟨⟨by decide +kernel, by decide +kernel⟩, List.mem_of_getElem? (i := 102) (by decide +kernel), List.mem_of_getElem? (i := 369) (by decide +kernel), List.mem_of_getElem? (i := 370) (by decide +kernel)⟩
theorem lw_p21 : lw_okq (⟨"ChipVolts$Balance", "highestAbove", "()J"⟩, 5) := ⟨⟨by decide +kernel, by decide +kernel⟩, List.mem_of_getElem? (i := 102) (by decide +kernel), List.mem_of_getElem? (i := 373) (by decide +kernel), List.mem_of_getElem? (i := 374) (by decide +kernel)⟩
theorem lw_p22 : lw_okq (⟨"ChipVolts$Net", "allBits", "()I"⟩, 8) := ⟨⟨by decide +kernel, by decide +kernel⟩, List.mem_of_getElem? (i := 20) (by decide +kernel), List.mem_of_getElem? (i := 389) (by decide +kernel), List.mem_of_getElem? (i := 390) (by decide +kernel)⟩
theorem lw_p23 : lw_okq (⟨"ChipVolts$Widening", "search", "(LChipVolts$Net;II)I"⟩, 7) := ⟨⟨by decide +kernel, by decide +kernel⟩, List.mem_of_getElem? (i := 133) (by decide +kernel), List.mem_of_getElem? (i := 410) (by decide +kernel), List.mem_of_getElem? (i := 411) (by decide +kernel)⟩
theorem lw_p24 : lw_okq (⟨"ChipVolts$Balance", "isWithin", "(I)Z"⟩, 5) := ⟨⟨by decide +kernel, by decide +kernel⟩, List.mem_of_getElem? (i := 102) (by decide +kernel), List.mem_of_getElem? (i := 418) (by decide +kernel), List.mem_of_getElem? (i := 419) (by decide +kernel)⟩
theorem lw_p25 : lw_okq (⟨"ChipVolts$Widening", "keepIfBetter", "(II)V"⟩, 7) := ⟨⟨by decide +kernel, by decide +kernel⟩, List.mem_of_getElem? (i := 133) (by decide +kernel), List.mem_of_getElem? (i := 423) (by decide +kernel), List.mem_of_getElem? (i := 424) (by decide +kernel)⟩
theorem lw_p26 : lw_okq (⟨"ChipVolts$Widening", "isTooDear", "(I)Z"⟩, 7) := ⟨⟨by decide +kernel, by decide +kernel⟩, List.mem_of_getElem? (i := 133) (by decide +kernel), List.mem_of_getElem? (i := 430) (by decide +kernel), List.mem_of_getElem? (i := 431) (by decide +kernel)⟩
theorem lw_p27 : lw_okq (⟨"ChipVolts$Widening", "step", "(LChipVolts$Net;II)Z"⟩, 7) := ⟨⟨by decide +kernel, by decide +kernel⟩, List.mem_of_getElem? (i := 133) (by decide +kernel), List.mem_of_getElem? (i := 434) (by decide +kernel), List.mem_of_getElem? (i := 435) (by decide +kernel)⟩
theorem lw_p28 : lw_okq (⟨"ChipVolts$Balance", "alterCells", "(LChipVolts$Balance;I)V"⟩, 5) := ⟨⟨by decide +kernel, by decide +kernel⟩, List.mem_of_getElem? (i := 102) (by decide +kernel), List.mem_of_getElem? (i := 439) (by decide +kernel), List.mem_of_getElem? (i := 440) (by decide +kernel)⟩
theorem lw_p29 : lw_okq (⟨"ChipVolts$Waking", "search", "(LChipVolts$Balance;LChipVolts$Blocks;)V"⟩, 3) := ⟨⟨by decide +kernel, by decide +kernel⟩, List.mem_of_getElem? (i := 165) (by decide +kernel), List.mem_of_getElem? (i := 451) (by decide +kernel), List.mem_of_getElem? (i := 452) (by decide +kernel)⟩
theorem lw_p30 : lw_okq (⟨"ChipVolts$Waking", "leastAfter", "(LChipVolts$Balance;LChipVolts$Blocks;I)J"⟩, 3) := ⟨⟨by decide +kernel, by decide +kernel⟩, List.mem_of_getElem? (i := 165) (by decide +kernel), List.mem_of_getElem? (i := 455) (by decide +kernel), List.mem_of_getElem? (i := 456) (by decide +kernel)⟩
theorem lw_p31 : lw_okq (⟨"ChipVolts$Waking", "weighAwake", "(LChipVolts$Balance;LChipVolts$Blocks;I)V"⟩, 3) := ⟨⟨by decide +kernel, by decide +kernel⟩, List.mem_of_getElem? (i := 165) (by decide +kernel), List.mem_of_getElem? (i := 459) (by decide +kernel), List.mem_of_getElem? (i := 460) (by decide +kernel)⟩
def lw_privs_2 : List (MethodName × Nat) := [(⟨"ChipVolts$Blocks", "share", "(LChipVolts$Balance;I)V"⟩, 5), (⟨"ChipVolts$Blocks", "nextToGet", "([J)I"⟩, 5), (⟨"ChipVolts$Blocks", "worstAbove", "(LChipVolts$Balance;I)J"⟩, 5), (⟨"ChipVolts", "opened", "(I)Z"⟩, 6), (⟨"ChipVolts$Balance", "alter", "(LChipVolts$Balance;III)Z"⟩, 5), (⟨"ChipVolts$Balance", "highestAbove", "()J"⟩, 5), (⟨"ChipVolts$Net", "allBits", "()I"⟩, 8), (⟨"ChipVolts$Widening", "search", "(LChipVolts$Net;II)I"⟩, 7), (⟨"ChipVolts$Balance", "isWithin", "(I)Z"⟩, 5), (⟨"ChipVolts$Widening", "keepIfBetter", "(II)V"⟩, 7), (⟨"ChipVolts$Widening", "isTooDear", "(I)Z"⟩, 7), (⟨"ChipVolts$Widening", "step", "(LChipVolts$Net;II)Z"⟩, 7), (⟨"ChipVolts$Balance", "alterCells", "(LChipVolts$Balance;I)V"⟩, 5), (⟨"ChipVolts$Waking", "search", "(LChipVolts$Balance;LChipVolts$Blocks;)V"⟩, 3), (⟨"ChipVolts$Waking", "leastAfter", "(LChipVolts$Balance;LChipVolts$Blocks;I)J"⟩, 3), (⟨"ChipVolts$Waking", "weighAwake", "(LChipVolts$Balance;LChipVolts$Blocks;I)V"⟩, 3)]
theorem lw_r2 : ∀ q ∈ lw_privs_2, lw_okq q := List.forall_mem_cons.mpr ⟨lw_p16, List.forall_mem_cons.mpr ⟨lw_p17, List.forall_mem_cons.mpr ⟨lw_p18, List.forall_mem_cons.mpr ⟨lw_p19, List.forall_mem_cons.mpr ⟨lw_p20, List.forall_mem_cons.mpr ⟨lw_p21, List.forall_mem_cons.mpr ⟨lw_p22, List.forall_mem_cons.mpr ⟨lw_p23, List.forall_mem_cons.mpr ⟨lw_p24, List.forall_mem_cons.mpr ⟨lw_p25, List.forall_mem_cons.mpr ⟨lw_p26, List.forall_mem_cons.mpr ⟨lw_p27, List.forall_mem_cons.mpr ⟨lw_p28, List.forall_mem_cons.mpr ⟨lw_p29, List.forall_mem_cons.mpr ⟨lw_p30, List.forall_mem_cons.mpr ⟨lw_p31, fun _ h => absurd h List.not_mem_nil⟩⟩⟩⟩⟩⟩⟩⟩⟩⟩⟩⟩⟩⟩⟩⟩
theorem lw_p32 : lw_okq (⟨"ChipVolts$Waking", "peakOf", "(LChipVolts$Balance;LChipVolts$Blocks;I)J"⟩, 3) := ⟨⟨by decide +kernel, by decide +kernel⟩, List.mem_of_getElem? (i := 165) (by decide +kernel), List.mem_of_getElem? (i := 465) (by decide +kernel), List.mem_of_getElem? (i := 466) (by decide +kernel)⟩
theorem lw_p33 : lw_okq (⟨"ChipVolts$Waking", "firstToCome", "(LChipVolts$Balance;LChipVolts$Blocks;I)I"⟩, 3) := ⟨⟨by decide +kernel, by decide +kernel⟩, List.mem_of_getElem? (i := 165) (by decide +kernel), List.mem_of_getElem? (i := 475) (by decide +kernel), List.mem_of_getElem? (i := 476) (by decide +kernel)⟩
theorem lw_p34 : lw_okq (⟨"ChipVolts", "digestOfKnots", "(J)J"⟩, 6) := ⟨⟨by decide +kernel, by decide +kernel⟩, List.mem_of_getElem? (i := 12) (by decide +kernel), List.mem_of_getElem? (i := 494) (by decide +kernel), List.mem_of_getElem? (i := 495) (by decide +kernel)⟩
theorem lw_p35 : lw_okq (⟨"ChipVoltsModel", "isKnot", "(I)Z"⟩, 26) := ⟨⟨by decide +kernel, by decide +kernel⟩, List.mem_of_getElem? (i := 498) (by decide +kernel), List.mem_of_getElem? (i := 594) (by decide +kernel), List.mem_of_getElem? (i := 595) (by decide +kernel)⟩
theorem lw_p36 : lw_okq (⟨"ChipVoltsModel", "isFed", "()Z"⟩, 26) := ⟨⟨by decide +kernel, by decide +kernel⟩, List.mem_of_getElem? (i := 498) (by decide +kernel), List.mem_of_getElem? (i := 615) (by decide +kernel), List.mem_of_getElem? (i := 616) (by decide +kernel)⟩
theorem lw_p37 : lw_okq (⟨"ChipVoltsModel", "leadsTo", "(II)Z"⟩, 26) := ⟨⟨by decide +kernel, by decide +kernel⟩, List.mem_of_getElem? (i := 498) (by decide +kernel), List.mem_of_getElem? (i := 619) (by decide +kernel), List.mem_of_getElem? (i := 620) (by decide +kernel)⟩
theorem lw_p38 : lw_okq (⟨"ChipVoltsModel", "findResist", "(II)V"⟩, 26) := ⟨⟨by decide +kernel, by decide +kernel⟩, List.mem_of_getElem? (i := 498) (by decide +kernel), List.mem_of_getElem? (i := 624) (by decide +kernel), List.mem_of_getElem? (i := 625) (by decide +kernel)⟩
theorem lw_p39 : lw_okq (⟨"ChipVoltsModel", "minor", "(IIII)J"⟩, 26) := ⟨⟨by decide +kernel, by decide +kernel⟩, List.mem_of_getElem? (i := 498) (by decide +kernel), List.mem_of_getElem? (i := 628) (by decide +kernel), List.mem_of_getElem? (i := 629) (by decide +kernel)⟩
theorem lw_p40 : lw_okq (⟨"ChipVoltsModel", "between", "(III)J"⟩, 26) := ⟨⟨by decide +kernel, by decide +kernel⟩, List.mem_of_getElem? (i := 498) (by decide +kernel), List.mem_of_getElem? (i := 632) (by decide +kernel), List.mem_of_getElem? (i := 633) (by decide +kernel)⟩
theorem lw_p41 : lw_okq (⟨"ChipVoltsModel", "determinant", "()J"⟩, 26) := ⟨⟨by decide +kernel, by decide +kernel⟩, List.mem_of_getElem? (i := 498) (by decide +kernel), List.mem_of_getElem? (i := 636) (by decide +kernel), List.mem_of_getElem? (i := 637) (by decide +kernel)⟩
theorem lw_p42 : lw_okq (⟨"ChipVoltsModel", "cramer", "(IIII)J"⟩, 26) := ⟨⟨by decide +kernel, by decide +kernel⟩, List.mem_of_getElem? (i := 498) (by decide +kernel), List.mem_of_getElem? (i := 640) (by decide +kernel), List.mem_of_getElem? (i := 641) (by decide +kernel)⟩
theorem lw_p43 : lw_okq (⟨"ChipVoltsModel", "fallBy", "(I[I)J"⟩, 26) := ⟨⟨by decide +kernel, by decide +kernel⟩, List.mem_of_getElem? (i := 498) (by decide +kernel), List.mem_of_getElem? (i := 644) (by decide +kernel), List.mem_of_getElem? (i := 645) (by decide +kernel)⟩
theorem lw_p44 : lw_okq (⟨"ChipVoltsModel", "findWorst", "(I)J"⟩, 26) := ⟨⟨by decide +kernel, by decide +kernel⟩, List.mem_of_getElem? (i := 498) (by decide +kernel), List.mem_of_getElem? (i := 680) (by decide +kernel), List.mem_of_getElem? (i := 681) (by decide +kernel)⟩
theorem lw_p45 : lw_okq (⟨"ChipVoltsModel", "mostFall", "([I)J"⟩, 26) := ⟨⟨by decide +kernel, by decide +kernel⟩, List.mem_of_getElem? (i := 498) (by decide +kernel), List.mem_of_getElem? (i := 696) (by decide +kernel), List.mem_of_getElem? (i := 697) (by decide +kernel)⟩
theorem lw_p46 : lw_okq (⟨"ChipVoltsModel", "findWiden", "(II)I"⟩, 26) := ⟨⟨by decide +kernel, by decide +kernel⟩, List.mem_of_getElem? (i := 498) (by decide +kernel), List.mem_of_getElem? (i := 719) (by decide +kernel), List.mem_of_getElem? (i := 720) (by decide +kernel)⟩
theorem lw_p47 : lw_okq (⟨"ChipVoltsModel", "isAhead", "(I)Z"⟩, 26) := ⟨⟨by decide +kernel, by decide +kernel⟩, List.mem_of_getElem? (i := 498) (by decide +kernel), List.mem_of_getElem? (i := 723) (by decide +kernel), List.mem_of_getElem? (i := 724) (by decide +kernel)⟩
def lw_privs_3 : List (MethodName × Nat) := [(⟨"ChipVolts$Waking", "peakOf", "(LChipVolts$Balance;LChipVolts$Blocks;I)J"⟩, 3), (⟨"ChipVolts$Waking", "firstToCome", "(LChipVolts$Balance;LChipVolts$Blocks;I)I"⟩, 3), (⟨"ChipVolts", "digestOfKnots", "(J)J"⟩, 6), (⟨"ChipVoltsModel", "isKnot", "(I)Z"⟩, 26), (⟨"ChipVoltsModel", "isFed", "()Z"⟩, 26), (⟨"ChipVoltsModel", "leadsTo", "(II)Z"⟩, 26), (⟨"ChipVoltsModel", "findResist", "(II)V"⟩, 26), (⟨"ChipVoltsModel", "minor", "(IIII)J"⟩, 26), (⟨"ChipVoltsModel", "between", "(III)J"⟩, 26), (⟨"ChipVoltsModel", "determinant", "()J"⟩, 26), (⟨"ChipVoltsModel", "cramer", "(IIII)J"⟩, 26), (⟨"ChipVoltsModel", "fallBy", "(I[I)J"⟩, 26), (⟨"ChipVoltsModel", "findWorst", "(I)J"⟩, 26), (⟨"ChipVoltsModel", "mostFall", "([I)J"⟩, 26), (⟨"ChipVoltsModel", "findWiden", "(II)I"⟩, 26), (⟨"ChipVoltsModel", "isAhead", "(I)Z"⟩, 26)]
theorem lw_r3 : ∀ q ∈ lw_privs_3, lw_okq q := List.forall_mem_cons.mpr ⟨lw_p32, List.forall_mem_cons.mpr ⟨lw_p33, List.forall_mem_cons.mpr ⟨lw_p34, List.forall_mem_cons.mpr ⟨lw_p35, List.forall_mem_cons.mpr ⟨lw_p36, List.forall_mem_cons.mpr ⟨lw_p37, List.forall_mem_cons.mpr ⟨lw_p38, List.forall_mem_cons.mpr ⟨lw_p39, List.forall_mem_cons.mpr ⟨lw_p40, List.forall_mem_cons.mpr ⟨lw_p41, List.forall_mem_cons.mpr ⟨lw_p42, List.forall_mem_cons.mpr ⟨lw_p43, List.forall_mem_cons.mpr ⟨lw_p44, List.forall_mem_cons.mpr ⟨lw_p45, List.forall_mem_cons.mpr ⟨lw_p46, List.forall_mem_cons.mpr ⟨lw_p47, fun _ h => absurd h List.not_mem_nil⟩⟩⟩⟩⟩⟩⟩⟩⟩⟩⟩⟩⟩⟩⟩⟩
theorem lw_p48 : lw_okq (⟨"ChipVoltsModel", "isWithin", "(I)Z"⟩, 26) := ⟨⟨by decide +kernel, by decide +kernel⟩, List.mem_of_getElem? (i := 498) (by decide +kernel), List.mem_of_getElem? (i := 727) (by decide +kernel), List.mem_of_getElem? (i := 728) (by decide +kernel)⟩
theorem lw_p49 : lw_okq (⟨"ChipVoltsModel", "findWoken", "()V"⟩, 26) := ⟨⟨by decide +kernel, by decide +kernel⟩, List.mem_of_getElem? (i := 498) (by decide +kernel), List.mem_of_getElem? (i := 739) (by decide +kernel), List.mem_of_getElem? (i := 740) (by decide +kernel)⟩
theorem lw_p50 : lw_okq (⟨"ChipVoltsModel", "fallOf", "()J"⟩, 26) := ⟨⟨by decide +kernel, by decide +kernel⟩, List.mem_of_getElem? (i := 498) (by decide +kernel), List.mem_of_getElem? (i := 744) (by decide +kernel), List.mem_of_getElem? (i := 745) (by decide +kernel)⟩
theorem lw_p51 : lw_okq (⟨"ChipVoltsModel", "nextOrder", "()Z"⟩, 26) := ⟨⟨by decide +kernel, by decide +kernel⟩, List.mem_of_getElem? (i := 498) (by decide +kernel), List.mem_of_getElem? (i := 748) (by decide +kernel), List.mem_of_getElem? (i := 749) (by decide +kernel)⟩
theorem lw_p52 : lw_okq (⟨"ChipVoltsModel", "exchange", "(II)V"⟩, 26) := ⟨⟨by decide +kernel, by decide +kernel⟩, List.mem_of_getElem? (i := 498) (by decide +kernel), List.mem_of_getElem? (i := 752) (by decide +kernel), List.mem_of_getElem? (i := 753) (by decide +kernel)⟩
def lw_privs_4 : List (MethodName × Nat) := [(⟨"ChipVoltsModel", "isWithin", "(I)Z"⟩, 26), (⟨"ChipVoltsModel", "findWoken", "()V"⟩, 26), (⟨"ChipVoltsModel", "fallOf", "()J"⟩, 26), (⟨"ChipVoltsModel", "nextOrder", "()Z"⟩, 26), (⟨"ChipVoltsModel", "exchange", "(II)V"⟩, 26)]
theorem lw_r4 : ∀ q ∈ lw_privs_4, lw_okq q := List.forall_mem_cons.mpr ⟨lw_p48, List.forall_mem_cons.mpr ⟨lw_p49, List.forall_mem_cons.mpr ⟨lw_p50, List.forall_mem_cons.mpr ⟨lw_p51, List.forall_mem_cons.mpr ⟨lw_p52, fun _ h => absurd h List.not_mem_nil⟩⟩⟩⟩⟩
def lw_privs : List (MethodName × Nat) := lw_privs_1 ++ (lw_privs_2 ++ (lw_privs_3 ++ (lw_privs_4)))
def lw_tbl : List Cond := k2_sels lw_privs ++ tables_1
theorem lw_privs_ok : ∀ q ∈ lw_privs, lw_okq q := by
  show ∀ q ∈ lw_privs_1 ++ (lw_privs_2 ++ (lw_privs_3 ++ (lw_privs_4))), lw_okq q
  exact List.forall_mem_append.mpr ⟨lw_r1, List.forall_mem_append.mpr ⟨lw_r2, List.forall_mem_append.mpr ⟨lw_r3, lw_r4⟩⟩⟩

def RX0 : String := "ChipVolts$Balance"
def TX0 : u_T := fun k => match k with
  | 0 => ("ChipVolts$Balance", "knots", "I", false)
  | 1 => ("ChipVolts$Balance", "below", "J", false)
  | 2 => ("ChipVolts$Balance", "cell", "[[J", true)
  | 3 => ("ChipVolts$Balance", "above", "[J", true)
  | _ => ("ChipVolts$Balance", "spread", "[J", true)
def tyX0 : Nat → FieldType := fun k => match k with
  | 0 => .int
  | 1 => .long
  | 2 => .array (.array .long)
  | 3 => .array .long
  | _ => .array .long
abbrev wsX00 : List Cond := u_ws RX0 TX0 5
theorem nmX0 : ∀ a, a < 5 → ∀ b, b < 5 → a ≠ b → (TX0 a).2.1 ≠ (TX0 b).2.1 := by decide +kernel
theorem tyX0_ok : ∀ k, k < 5 → parseFieldDescriptor (TX0 k).2.2.1 = some (tyX0 k) := by decide +kernel
abbrev cX0_init : ByteArray := prog_2_method_1_code
def yX0_init : MethodName := ⟨RX0, "<init>", "()V"⟩
abbrev cX0_settle : ByteArray := prog_2_method_2_code
def yX0_settle : MethodName := ⟨RX0, "settle", "(LChipVolts$Net;I)Z"⟩
abbrev cX0_lay : ByteArray := prog_2_method_3_code
def yX0_lay : MethodName := ⟨RX0, "lay", "(LChipVolts$Net;)V"⟩
abbrev cX0_takeOutAllBut : ByteArray := prog_2_method_4_code
def yX0_takeOutAllBut : MethodName := ⟨RX0, "takeOutAllBut", "(I)Z"⟩
abbrev cX0_takeOut : ByteArray := prog_2_method_5_code
def yX0_takeOut : MethodName := ⟨RX0, "takeOut", "(I)Z"⟩
abbrev cX0_forget : ByteArray := prog_2_method_6_code
def yX0_forget : MethodName := ⟨RX0, "forget", "(I)V"⟩
abbrev cX0_weigh : ByteArray := prog_2_method_7_code
def yX0_weigh : MethodName := ⟨RX0, "weigh", "([I)V"⟩
abbrev cX0_highest : ByteArray := prog_2_method_8_code
def yX0_highest : MethodName := ⟨RX0, "highest", "()I"⟩
abbrev cX0_highestAbove : ByteArray := prog_2_method_9_code
def yX0_highestAbove : MethodName := ⟨RX0, "highestAbove", "()J"⟩
abbrev cX0_isWithin : ByteArray := prog_2_method_10_code
def yX0_isWithin : MethodName := ⟨RX0, "isWithin", "(I)Z"⟩
abbrev cX0_alter : ByteArray := prog_2_method_11_code
def yX0_alter : MethodName := ⟨RX0, "alter", "(LChipVolts$Balance;III)Z"⟩
abbrev cX0_alterCells : ByteArray := prog_2_method_12_code
def yX0_alterCells : MethodName := ⟨RX0, "alterCells", "(LChipVolts$Balance;I)V"⟩
def RX1 : String := "ChipVolts$Blocks"
def TX1 : u_T := fun k => match k with
  | 0 => ("ChipVolts$Blocks", "number", "I", false)
  | 1 => ("ChipVolts$Blocks", "budget", "I", false)
  | 2 => ("ChipVolts$Blocks", "home", "[I", true)
  | 3 => ("ChipVolts$Blocks", "most", "[I", true)
  | _ => ("ChipVolts$Blocks", "gets", "[I", true)
def tyX1 : Nat → FieldType := fun k => match k with
  | 0 => .int
  | 1 => .int
  | 2 => .array .int
  | 3 => .array .int
  | _ => .array .int
abbrev wsX10 : List Cond := u_ws RX1 TX1 5
theorem nmX1 : ∀ a, a < 5 → ∀ b, b < 5 → a ≠ b → (TX1 a).2.1 ≠ (TX1 b).2.1 := by decide +kernel
theorem tyX1_ok : ∀ k, k < 5 → parseFieldDescriptor (TX1 k).2.2.1 = some (tyX1 k) := by decide +kernel
abbrev cX1_init : ByteArray := prog_3_method_1_code
def yX1_init : MethodName := ⟨RX1, "<init>", "()V"⟩
abbrev cX1_clear : ByteArray := prog_3_method_2_code
def yX1_clear : MethodName := ⟨RX1, "clear", "()V"⟩
abbrev cX1_addBlock : ByteArray := prog_3_method_3_code
def yX1_addBlock : MethodName := ⟨RX1, "addBlock", "(II)I"⟩
abbrev cX1_isBlock : ByteArray := prog_3_method_4_code
def yX1_isBlock : MethodName := ⟨RX1, "isBlock", "(I)Z"⟩
abbrev cX1_share : ByteArray := prog_3_method_5_code
def yX1_share : MethodName := ⟨RX1, "share", "(LChipVolts$Balance;I)V"⟩
abbrev cX1_nextToGet : ByteArray := prog_3_method_6_code
def yX1_nextToGet : MethodName := ⟨RX1, "nextToGet", "([J)I"⟩
abbrev cX1_worstAbove : ByteArray := prog_3_method_7_code
def yX1_worstAbove : MethodName := ⟨RX1, "worstAbove", "(LChipVolts$Balance;I)J"⟩
def RX2 : String := "ChipVolts$Net"
def TX2 : u_T := fun k => match k with
  | 0 => ("ChipVolts$Net", "knots", "I", false)
  | 1 => ("ChipVolts$Net", "wires", "I", false)
  | 2 => ("ChipVolts$Net", "padBits", "I", false)
  | 3 => ("ChipVolts$Net", "pulls", "[I", true)
  | 4 => ("ChipVolts$Net", "from", "[I", true)
  | 5 => ("ChipVolts$Net", "to", "[I", true)
  | 6 => ("ChipVolts$Net", "width", "[I", true)
  | _ => ("ChipVolts$Net", "price", "[I", true)
def tyX2 : Nat → FieldType := fun k => match k with
  | 0 => .int
  | 1 => .int
  | 2 => .int
  | 3 => .array .int
  | 4 => .array .int
  | 5 => .array .int
  | 6 => .array .int
  | _ => .array .int
abbrev wsX20 : List Cond := u_ws RX2 TX2 8
theorem nmX2 : ∀ a, a < 8 → ∀ b, b < 8 → a ≠ b → (TX2 a).2.1 ≠ (TX2 b).2.1 := by decide +kernel
theorem tyX2_ok : ∀ k, k < 8 → parseFieldDescriptor (TX2 k).2.2.1 = some (tyX2 k) := by decide +kernel
abbrev cX2_init : ByteArray := prog_4_method_1_code
def yX2_init : MethodName := ⟨RX2, "<init>", "()V"⟩
abbrev cX2_clear : ByteArray := prog_4_method_2_code
def yX2_clear : MethodName := ⟨RX2, "clear", "(I)V"⟩
abbrev cX2_addWire : ByteArray := prog_4_method_3_code
def yX2_addWire : MethodName := ⟨RX2, "addWire", "(IIII)I"⟩
abbrev cX2_isKnot : ByteArray := prog_4_method_4_code
def yX2_isKnot : MethodName := ⟨RX2, "isKnot", "(I)Z"⟩
abbrev cX2_isWire : ByteArray := prog_4_method_5_code
def yX2_isWire : MethodName := ⟨RX2, "isWire", "(I)Z"⟩
abbrev cX2_isPad : ByteArray := prog_4_method_6_code
def yX2_isPad : MethodName := ⟨RX2, "isPad", "(I)Z"⟩
abbrev cX2_allBits : ByteArray := prog_4_method_7_code
def yX2_allBits : MethodName := ⟨RX2, "allBits", "()I"⟩
def RX3 : String := "ChipVolts$Waking"
def TX3 : u_T := fun k => match k with
  | 0 => ("ChipVolts$Waking", "least", "[J", true)
  | 1 => ("ChipVolts$Waking", "awake", "[J", true)
  | _ => ("ChipVolts$Waking", "order", "[I", true)
def tyX3 : Nat → FieldType := fun k => match k with
  | 0 => .array .long
  | 1 => .array .long
  | _ => .array .int
abbrev wsX30 : List Cond := u_ws RX3 TX3 3
theorem nmX3 : ∀ a, a < 3 → ∀ b, b < 3 → a ≠ b → (TX3 a).2.1 ≠ (TX3 b).2.1 := by decide +kernel
theorem tyX3_ok : ∀ k, k < 3 → parseFieldDescriptor (TX3 k).2.2.1 = some (tyX3 k) := by decide +kernel
abbrev cX3_init : ByteArray := prog_5_method_1_code
def yX3_init : MethodName := ⟨RX3, "<init>", "()V"⟩
abbrev cX3_search : ByteArray := prog_5_method_2_code
def yX3_search : MethodName := ⟨RX3, "search", "(LChipVolts$Balance;LChipVolts$Blocks;)V"⟩
abbrev cX3_leastAfter : ByteArray := prog_5_method_3_code
def yX3_leastAfter : MethodName := ⟨RX3, "leastAfter", "(LChipVolts$Balance;LChipVolts$Blocks;I)J"⟩
abbrev cX3_firstToCome : ByteArray := prog_5_method_4_code
def yX3_firstToCome : MethodName := ⟨RX3, "firstToCome", "(LChipVolts$Balance;LChipVolts$Blocks;I)I"⟩
abbrev cX3_weighAwake : ByteArray := prog_5_method_5_code
def yX3_weighAwake : MethodName := ⟨RX3, "weighAwake", "(LChipVolts$Balance;LChipVolts$Blocks;I)V"⟩
abbrev cX3_peakOf : ByteArray := prog_5_method_6_code
def yX3_peakOf : MethodName := ⟨RX3, "peakOf", "(LChipVolts$Balance;LChipVolts$Blocks;I)J"⟩
def RX4 : String := "ChipVolts$Widening"
def TX4 : u_T := fun k => match k with
  | 0 => ("ChipVolts$Widening", "steps", "[LChipVolts$Balance;", true)
  | 1 => ("ChipVolts$Widening", "row", "[I", true)
  | 2 => ("ChipVolts$Widening", "bestRow", "[I", true)
  | 3 => ("ChipVolts$Widening", "bestPrice", "I", false)
  | 4 => ("ChipVolts$Widening", "bestMore", "I", false)
  | 5 => ("ChipVolts$Widening", "limit", "I", false)
  | _ => ("ChipVolts$Widening", "most", "I", false)
def tyX4 : Nat → FieldType := fun k => match k with
  | 0 => .array (.object "ChipVolts$Balance")
  | 1 => .array .int
  | 2 => .array .int
  | 3 => .int
  | 4 => .int
  | 5 => .int
  | _ => .int
abbrev wsX40 : List Cond := u_ws RX4 TX4 7
theorem nmX4 : ∀ a, a < 7 → ∀ b, b < 7 → a ≠ b → (TX4 a).2.1 ≠ (TX4 b).2.1 := by decide +kernel
theorem tyX4_ok : ∀ k, k < 7 → parseFieldDescriptor (TX4 k).2.2.1 = some (tyX4 k) := by decide +kernel
abbrev cX4_init : ByteArray := prog_6_method_1_code
def yX4_init : MethodName := ⟨RX4, "<init>", "()V"⟩
abbrev cX4_search : ByteArray := prog_6_method_2_code
def yX4_search : MethodName := ⟨RX4, "search", "(LChipVolts$Net;II)I"⟩
abbrev cX4_tryFrom : ByteArray := prog_6_method_3_code
def yX4_tryFrom : MethodName := ⟨RX4, "tryFrom", "(LChipVolts$Widening;LChipVolts$Net;III)V"⟩
abbrev cX4_isTooDear : ByteArray := prog_6_method_4_code
def yX4_isTooDear : MethodName := ⟨RX4, "isTooDear", "(I)Z"⟩
abbrev cX4_step : ByteArray := prog_6_method_5_code
def yX4_step : MethodName := ⟨RX4, "step", "(LChipVolts$Net;II)Z"⟩
abbrev cX4_keepIfBetter : ByteArray := prog_6_method_6_code
def yX4_keepIfBetter : MethodName := ⟨RX4, "keepIfBetter", "(II)V"⟩
def RX5 : String := "ChipVolts"
def TX5 : u_T := fun k => match k with
  | 0 => ("ChipVolts", "net", "LChipVolts$Net;", true)
  | 1 => ("ChipVolts", "blocks", "LChipVolts$Blocks;", true)
  | 2 => ("ChipVolts", "here", "LChipVolts$Balance;", true)
  | 3 => ("ChipVolts", "trial", "LChipVolts$Balance;", true)
  | 4 => ("ChipVolts", "widening", "LChipVolts$Widening;", true)
  | _ => ("ChipVolts", "waking", "LChipVolts$Waking;", true)
def tyX5 : Nat → FieldType := fun k => match k with
  | 0 => .object "ChipVolts$Net"
  | 1 => .object "ChipVolts$Blocks"
  | 2 => .object "ChipVolts$Balance"
  | 3 => .object "ChipVolts$Balance"
  | 4 => .object "ChipVolts$Widening"
  | _ => .object "ChipVolts$Waking"
abbrev wsX50 : List Cond := u_ws RX5 TX5 6
theorem nmX5 : ∀ a, a < 6 → ∀ b, b < 6 → a ≠ b → (TX5 a).2.1 ≠ (TX5 b).2.1 := by decide +kernel
theorem tyX5_ok : ∀ k, k < 6 → parseFieldDescriptor (TX5 k).2.2.1 = some (tyX5 k) := by decide +kernel
abbrev cX5_init : ByteArray := prog_1_method_1_code
def yX5_init : MethodName := ⟨RX5, "<init>", "()V"⟩
abbrev cX5_net : ByteArray := prog_1_method_2_code
def yX5_net : MethodName := ⟨RX5, "net", "(I)I"⟩
abbrev cX5_wire : ByteArray := prog_1_method_3_code
def yX5_wire : MethodName := ⟨RX5, "wire", "(IIII)I"⟩
abbrev cX5_width : ByteArray := prog_1_method_4_code
def yX5_width : MethodName := ⟨RX5, "width", "(II)I"⟩
abbrev cX5_pad : ByteArray := prog_1_method_5_code
def yX5_pad : MethodName := ⟨RX5, "pad", "(IZ)I"⟩
abbrev cX5_pull : ByteArray := prog_1_method_6_code
def yX5_pull : MethodName := ⟨RX5, "pull", "(II)I"⟩
abbrev cX5_fall : ByteArray := prog_1_method_7_code
def yX5_fall : MethodName := ⟨RX5, "fall", "(II)J"⟩
abbrev cX5_greatest : ByteArray := prog_1_method_8_code
def yX5_greatest : MethodName := ⟨RX5, "greatest", "()I"⟩
abbrev cX5_flow : ByteArray := prog_1_method_9_code
def yX5_flow : MethodName := ⟨RX5, "flow", "(II)J"⟩
abbrev cX5_resist : ByteArray := prog_1_method_10_code
def yX5_resist : MethodName := ⟨RX5, "resist", "(III)J"⟩
abbrev cX5_block : ByteArray := prog_1_method_11_code
def yX5_block : MethodName := ⟨RX5, "block", "(II)I"⟩
abbrev cX5_budget : ByteArray := prog_1_method_12_code
def yX5_budget : MethodName := ⟨RX5, "budget", "(I)I"⟩
abbrev cX5_worst : ByteArray := prog_1_method_13_code
def yX5_worst : MethodName := ⟨RX5, "worst", "(II)I"⟩
abbrev cX5_worstFall : ByteArray := prog_1_method_14_code
def yX5_worstFall : MethodName := ⟨RX5, "worstFall", "(II)J"⟩
abbrev cX5_worstKnot : ByteArray := prog_1_method_15_code
def yX5_worstKnot : MethodName := ⟨RX5, "worstKnot", "()I"⟩
abbrev cX5_open : ByteArray := prog_1_method_16_code
def yX5_open : MethodName := ⟨RX5, "open", "(II)J"⟩
abbrev cX5_weakest : ByteArray := prog_1_method_17_code
def yX5_weakest : MethodName := ⟨RX5, "weakest", "()I"⟩
abbrev cX5_shrunk : ByteArray := prog_1_method_18_code
def yX5_shrunk : MethodName := ⟨RX5, "shrunk", "(IIII)J"⟩
abbrev cX5_pads : ByteArray := prog_1_method_19_code
def yX5_pads : MethodName := ⟨RX5, "pads", "(I)I"⟩
abbrev cX5_widen : ByteArray := prog_1_method_20_code
def yX5_widen : MethodName := ⟨RX5, "widen", "(II)I"⟩
abbrev cX5_widened : ByteArray := prog_1_method_21_code
def yX5_widened : MethodName := ⟨RX5, "widened", "(III)I"⟩
abbrev cX5_woken : ByteArray := prog_1_method_22_code
def yX5_woken : MethodName := ⟨RX5, "woken", "(I)I"⟩
abbrev cX5_wokenFall : ByteArray := prog_1_method_23_code
def yX5_wokenFall : MethodName := ⟨RX5, "wokenFall", "(I)J"⟩
abbrev cX5_count : ByteArray := prog_1_method_24_code
def yX5_count : MethodName := ⟨RX5, "count", "(I)I"⟩
abbrev cX5_digest : ByteArray := prog_1_method_25_code
def yX5_digest : MethodName := ⟨RX5, "digest", "()J"⟩
abbrev cX5_digestOfKnots : ByteArray := prog_1_method_26_code
def yX5_digestOfKnots : MethodName := ⟨RX5, "digestOfKnots", "(J)J"⟩
abbrev cX5_settled : ByteArray := prog_1_method_27_code
def yX5_settled : MethodName := ⟨RX5, "settled", "()Z"⟩
abbrev cX5_opened : ByteArray := prog_1_method_28_code
def yX5_opened : MethodName := ⟨RX5, "opened", "(I)Z"⟩
abbrev cX5_between : ByteArray := prog_1_method_29_code
def yX5_between : MethodName := ⟨RX5, "between", "(III)Z"⟩
abbrev cX5_isPart : ByteArray := prog_1_method_30_code
def yX5_isPart : MethodName := ⟨RX5, "isPart", "(I)Z"⟩
abbrev cX5_has : ByteArray := prog_1_method_31_code
def yX5_has : MethodName := ⟨RX5, "has", "(II)Z"⟩
abbrev cX5_isLess : ByteArray := prog_1_method_32_code
def yX5_isLess : MethodName := ⟨RX5, "isLess", "(JJJJ)Z"⟩
abbrev cX5_part : ByteArray := prog_1_method_33_code
def yX5_part : MethodName := ⟨RX5, "part", "(JJI)J"⟩
abbrev cX5_commonDivisor : ByteArray := prog_1_method_34_code
def yX5_commonDivisor : MethodName := ⟨RX5, "commonDivisor", "(JJ)J"⟩
def RX6 : String := "ChipVoltsModel"
def TX6 : u_T := fun k => match k with
  | 0 => ("ChipVoltsModel", "n", "I", false)
  | 1 => ("ChipVoltsModel", "wires", "I", false)
  | 2 => ("ChipVoltsModel", "from", "[I", true)
  | 3 => ("ChipVoltsModel", "to", "[I", true)
  | 4 => ("ChipVoltsModel", "wide", "[I", true)
  | 5 => ("ChipVoltsModel", "price", "[I", true)
  | 6 => ("ChipVoltsModel", "padBits", "I", false)
  | 7 => ("ChipVoltsModel", "pulls", "[I", true)
  | 8 => ("ChipVoltsModel", "blocks", "I", false)
  | 9 => ("ChipVoltsModel", "sits", "[I", true)
  | 10 => ("ChipVoltsModel", "most", "[I", true)
  | 11 => ("ChipVoltsModel", "budget", "I", false)
  | 12 => ("ChipVoltsModel", "square", "[J", true)
  | 13 => ("ChipVoltsModel", "side", "I", false)
  | 14 => ("ChipVoltsModel", "rows", "[I", true)
  | 15 => ("ChipVoltsModel", "columns", "[I", true)
  | 16 => ("ChipVoltsModel", "resist", "[J", true)
  | 17 => ("ChipVoltsModel", "under", "J", false)
  | 18 => ("ChipVoltsModel", "gets", "[I", true)
  | 19 => ("ChipVoltsModel", "picked", "[I", true)
  | 20 => ("ChipVoltsModel", "more", "[I", true)
  | 21 => ("ChipVoltsModel", "bestMore", "[I", true)
  | 22 => ("ChipVoltsModel", "order", "[I", true)
  | 23 => ("ChipVoltsModel", "bestOrder", "[I", true)
  | 24 => ("ChipVoltsModel", "now", "[I", true)
  | _ => ("ChipVoltsModel", "wokenAbove", "J", false)
def tyX6 : Nat → FieldType := fun k => match k with
  | 0 => .int
  | 1 => .int
  | 2 => .array .int
  | 3 => .array .int
  | 4 => .array .int
  | 5 => .array .int
  | 6 => .int
  | 7 => .array .int
  | 8 => .int
  | 9 => .array .int
  | 10 => .array .int
  | 11 => .int
  | 12 => .array .long
  | 13 => .int
  | 14 => .array .int
  | 15 => .array .int
  | 16 => .array .long
  | 17 => .long
  | 18 => .array .int
  | 19 => .array .int
  | 20 => .array .int
  | 21 => .array .int
  | 22 => .array .int
  | 23 => .array .int
  | 24 => .array .int
  | _ => .long
abbrev wsX60 : List Cond := u_ws RX6 TX6 26
theorem nmX6 : ∀ a, a < 26 → ∀ b, b < 26 → a ≠ b → (TX6 a).2.1 ≠ (TX6 b).2.1 := by decide +kernel
theorem tyX6_ok : ∀ k, k < 26 → parseFieldDescriptor (TX6 k).2.2.1 = some (tyX6 k) := by decide +kernel
abbrev cX6_init : ByteArray := prog_8_method_1_code
def yX6_init : MethodName := ⟨RX6, "<init>", "()V"⟩
abbrev cX6_in : ByteArray := prog_8_method_3_code
def yX6_in : MethodName := ⟨RX6, "in", "(III)Z"⟩
abbrev cX6_isKnot : ByteArray := prog_8_method_4_code
def yX6_isKnot : MethodName := ⟨RX6, "isKnot", "(I)Z"⟩
abbrev cX6_net : ByteArray := prog_8_method_5_code
def yX6_net : MethodName := ⟨RX6, "net", "(I)I"⟩
abbrev cX6_wire : ByteArray := prog_8_method_6_code
def yX6_wire : MethodName := ⟨RX6, "wire", "(IIII)I"⟩
abbrev cX6_width : ByteArray := prog_8_method_7_code
def yX6_width : MethodName := ⟨RX6, "width", "(II)I"⟩
abbrev cX6_pad : ByteArray := prog_8_method_8_code
def yX6_pad : MethodName := ⟨RX6, "pad", "(IZ)I"⟩
abbrev cX6_pull : ByteArray := prog_8_method_9_code
def yX6_pull : MethodName := ⟨RX6, "pull", "(II)I"⟩
abbrev cX6_leadsTo : ByteArray := prog_8_method_10_code
def yX6_leadsTo : MethodName := ⟨RX6, "leadsTo", "(II)Z"⟩
abbrev cX6_isFed : ByteArray := prog_8_method_11_code
def yX6_isFed : MethodName := ⟨RX6, "isFed", "()Z"⟩
abbrev cX6_between : ByteArray := prog_8_method_12_code
def yX6_between : MethodName := ⟨RX6, "between", "(III)J"⟩
abbrev cX6_determinant : ByteArray := prog_8_method_13_code
def yX6_determinant : MethodName := ⟨RX6, "determinant", "()J"⟩
abbrev cX6_minor : ByteArray := prog_8_method_14_code
def yX6_minor : MethodName := ⟨RX6, "minor", "(IIII)J"⟩
abbrev cX6_findResist : ByteArray := prog_8_method_15_code
def yX6_findResist : MethodName := ⟨RX6, "findResist", "(II)V"⟩
abbrev cX6_cramer : ByteArray := prog_8_method_16_code
def yX6_cramer : MethodName := ⟨RX6, "cramer", "(IIII)J"⟩
abbrev cX6_fallBy : ByteArray := prog_8_method_17_code
def yX6_fallBy : MethodName := ⟨RX6, "fallBy", "(I[I)J"⟩
abbrev cX6_mostFall : ByteArray := prog_8_method_18_code
def yX6_mostFall : MethodName := ⟨RX6, "mostFall", "([I)J"⟩
abbrev cX6_divisor : ByteArray := prog_8_method_19_code
def yX6_divisor : MethodName := ⟨RX6, "divisor", "(JJ)J"⟩
abbrev cX6_lowest : ByteArray := prog_8_method_20_code
def yX6_lowest : MethodName := ⟨RX6, "lowest", "(JJI)J"⟩
abbrev cX6_fall : ByteArray := prog_8_method_21_code
def yX6_fall : MethodName := ⟨RX6, "fall", "(II)J"⟩
abbrev cX6_greatest : ByteArray := prog_8_method_22_code
def yX6_greatest : MethodName := ⟨RX6, "greatest", "()I"⟩
abbrev cX6_flow : ByteArray := prog_8_method_23_code
def yX6_flow : MethodName := ⟨RX6, "flow", "(II)J"⟩
abbrev cX6_resist : ByteArray := prog_8_method_24_code
def yX6_resist : MethodName := ⟨RX6, "resist", "(III)J"⟩
abbrev cX6_block : ByteArray := prog_8_method_25_code
def yX6_block : MethodName := ⟨RX6, "block", "(II)I"⟩
abbrev cX6_budget : ByteArray := prog_8_method_26_code
def yX6_budget : MethodName := ⟨RX6, "budget", "(I)I"⟩
abbrev cX6_findWorst : ByteArray := prog_8_method_27_code
def yX6_findWorst : MethodName := ⟨RX6, "findWorst", "(I)J"⟩
abbrev cX6_worst : ByteArray := prog_8_method_28_code
def yX6_worst : MethodName := ⟨RX6, "worst", "(II)I"⟩
abbrev cX6_worstFall : ByteArray := prog_8_method_29_code
def yX6_worstFall : MethodName := ⟨RX6, "worstFall", "(II)J"⟩
abbrev cX6_worstKnot : ByteArray := prog_8_method_30_code
def yX6_worstKnot : MethodName := ⟨RX6, "worstKnot", "()I"⟩
abbrev cX6_open : ByteArray := prog_8_method_31_code
def yX6_open : MethodName := ⟨RX6, "open", "(II)J"⟩
abbrev cX6_weakest : ByteArray := prog_8_method_32_code
def yX6_weakest : MethodName := ⟨RX6, "weakest", "()I"⟩
abbrev cX6_shrunk : ByteArray := prog_8_method_33_code
def yX6_shrunk : MethodName := ⟨RX6, "shrunk", "(IIII)J"⟩
abbrev cX6_bits : ByteArray := prog_8_method_34_code
def yX6_bits : MethodName := ⟨RX6, "bits", "(I)I"⟩
abbrev cX6_pads : ByteArray := prog_8_method_35_code
def yX6_pads : MethodName := ⟨RX6, "pads", "(I)I"⟩
abbrev cX6_isAhead : ByteArray := prog_8_method_36_code
def yX6_isAhead : MethodName := ⟨RX6, "isAhead", "(I)Z"⟩
abbrev cX6_findWiden : ByteArray := prog_8_method_37_code
def yX6_findWiden : MethodName := ⟨RX6, "findWiden", "(II)I"⟩
abbrev cX6_isWithin : ByteArray := prog_8_method_38_code
def yX6_isWithin : MethodName := ⟨RX6, "isWithin", "(I)Z"⟩
abbrev cX6_widen : ByteArray := prog_8_method_39_code
def yX6_widen : MethodName := ⟨RX6, "widen", "(II)I"⟩
abbrev cX6_widened : ByteArray := prog_8_method_40_code
def yX6_widened : MethodName := ⟨RX6, "widened", "(III)I"⟩
abbrev cX6_fallOf : ByteArray := prog_8_method_41_code
def yX6_fallOf : MethodName := ⟨RX6, "fallOf", "()J"⟩
abbrev cX6_nextOrder : ByteArray := prog_8_method_42_code
def yX6_nextOrder : MethodName := ⟨RX6, "nextOrder", "()Z"⟩
abbrev cX6_exchange : ByteArray := prog_8_method_43_code
def yX6_exchange : MethodName := ⟨RX6, "exchange", "(II)V"⟩
abbrev cX6_findWoken : ByteArray := prog_8_method_44_code
def yX6_findWoken : MethodName := ⟨RX6, "findWoken", "()V"⟩
abbrev cX6_woken : ByteArray := prog_8_method_45_code
def yX6_woken : MethodName := ⟨RX6, "woken", "(I)I"⟩
abbrev cX6_wokenFall : ByteArray := prog_8_method_46_code
def yX6_wokenFall : MethodName := ⟨RX6, "wokenFall", "(I)J"⟩
abbrev cX6_count : ByteArray := prog_8_method_47_code
def yX6_count : MethodName := ⟨RX6, "count", "(I)I"⟩
abbrev cX6_digest : ByteArray := prog_8_method_48_code
def yX6_digest : MethodName := ⟨RX6, "digest", "()J"⟩
def RJ6 : String := "java/lang/Integer"
def TJ6 : u_T := fun k => match k with
  | _ => ("", "", "", false)
def tyJ6 : Nat → FieldType := fun k => match k with
  | _ => .int
abbrev wsJ60 : List Cond := u_ws RJ6 TJ6 0
theorem nmJ6 : ∀ a, a < 0 → ∀ b, b < 0 → a ≠ b → (TJ6 a).2.1 ≠ (TJ6 b).2.1 := by decide +kernel
theorem tyJ6_ok : ∀ k, k < 0 → parseFieldDescriptor (TJ6 k).2.2.1 = some (tyJ6 k) := by decide +kernel
abbrev cJ6_bitCount_0f7a4 : ByteArray := prog_9_method_49_code
def yJ6_bitCount_0f7a4 : MethodName := ⟨RJ6, "bitCount", "(I)I"⟩
def RJ9 : String := "java/lang/Math"
def TJ9 : u_T := fun k => match k with
  | _ => ("", "", "", false)
def tyJ9 : Nat → FieldType := fun k => match k with
  | _ => .int
abbrev wsJ90 : List Cond := u_ws RJ9 TJ9 0
theorem nmJ9 : ∀ a, a < 0 → ∀ b, b < 0 → a ≠ b → (TJ9 a).2.1 ≠ (TJ9 b).2.1 := by decide +kernel
theorem tyJ9_ok : ∀ k, k < 0 → parseFieldDescriptor (TJ9 k).2.2.1 = some (tyJ9 k) := by decide +kernel
abbrev cJ9_abs_067f4 : ByteArray := prog_10_method_61_code
def yJ9_abs_067f4 : MethodName := ⟨RJ9, "abs", "(J)J"⟩
abbrev cJ9_max_f86c9 : ByteArray := prog_10_method_66_code
def yJ9_max_f86c9 : MethodName := ⟨RJ9, "max", "(JJ)J"⟩
abbrev cJ9_min_7cf53 : ByteArray := prog_10_method_69_code
def yJ9_min_7cf53 : MethodName := ⟨RJ9, "min", "(II)I"⟩
abbrev cJ9_min_f86c9 : ByteArray := prog_10_method_70_code
def yJ9_min_f86c9 : MethodName := ⟨RJ9, "min", "(JJ)J"⟩
def RJ10 : String := "java/lang/System"
def TJ10 : u_T := fun k => match k with
  | _ => ("", "", "", false)
def tyJ10 : Nat → FieldType := fun k => match k with
  | _ => .int
abbrev wsJ100 : List Cond := u_ws RJ10 TJ10 0
theorem nmJ10 : ∀ a, a < 0 → ∀ b, b < 0 → a ≠ b → (TJ10 a).2.1 ≠ (TJ10 b).2.1 := by decide +kernel
theorem tyJ10_ok : ∀ k, k < 0 → parseFieldDescriptor (TJ10 k).2.2.1 = some (tyJ10 k) := by decide +kernel
def RL : String := "ChipVoltsLaw"
abbrev cL_law : ByteArray := code
def yL_law : MethodName := ⟨RL, "law", "([I)Z"⟩
theorem inJ6 : ∀ w ∈ wsJ60, w ∈ lw_tbl := by decide +kernel
theorem inJ9 : ∀ w ∈ wsJ90, w ∈ lw_tbl := by decide +kernel
theorem inJ10 : ∀ w ∈ wsJ100, w ∈ lw_tbl := by decide +kernel
abbrev vwCl : List vw_C := [(RX0, TX0, 5), (RX1, TX1, 5), (RX2, TX2, 8), (RX3, TX3, 3), (RX4, TX4, 7), (RX5, TX5, 6), (RX6, TX6, 26)]
