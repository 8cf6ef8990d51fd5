section
-- ===== PART A: goes FIRST, ahead of the names: the tables' words, and 'selects' of the private methods out of them =====
/-- a private method of a class that the tables say can be made, by its rows of tables_1 -/
def lw_okq (q : MethodName × Nat) : Prop := (q.1.cls ≠ "java/lang/invoke/MethodHandle" ∧ q.1.cls ≠ "java/lang/invoke/VarHandle") ∧ Cond.instantiable q.1.cls q.2 ∈ tables_1 ∧ Cond.privateMethod q.1 ∈ tables_1 ∧ Cond.instanceMethod q.1 ∈ tables_1
theorem lw_p0 : lw_okq (⟨"ChipVolts$Net", "clear", "(I)V"⟩, 8) := ⟨⟨by decide +kernel, by decide +kernel⟩, List.mem_of_getElem? (i := 20) (by decide +kernel), List.mem_of_getElem? (i := 209) (by decide +kernel), List.mem_of_getElem? (i := 210) (by decide +kernel)⟩
theorem lw_p1 : lw_okq (⟨"ChipVolts$Blocks", "clear", "()V"⟩, 5) := ⟨⟨by decide +kernel, by decide +kernel⟩, List.mem_of_getElem? (i := 72) (by decide +kernel), List.mem_of_getElem? (i := 213) (by decide +kernel), List.mem_of_getElem? (i := 214) (by decide +kernel)⟩
theorem lw_p2 : lw_okq (⟨"ChipVolts$Net", "isKnot", "(I)Z"⟩, 8) := ⟨⟨by decide +kernel, by decide +kernel⟩, List.mem_of_getElem? (i := 20) (by decide +kernel), List.mem_of_getElem? (i := 221) (by decide +kernel), List.mem_of_getElem? (i := 222) (by decide +kernel)⟩
theorem lw_p3 : lw_okq (⟨"ChipVolts$Net", "addWire", "(IIII)I"⟩, 8) := ⟨⟨by decide +kernel, by decide +kernel⟩, List.mem_of_getElem? (i := 20) (by decide +kernel), List.mem_of_getElem? (i := 225) (by decide +kernel), List.mem_of_getElem? (i := 226) (by decide +kernel)⟩
theorem lw_p4 : lw_okq (⟨"ChipVolts$Net", "isWire", "(I)Z"⟩, 8) := ⟨⟨by decide +kernel, by decide +kernel⟩, List.mem_of_getElem? (i := 20) (by decide +kernel), List.mem_of_getElem? (i := 233) (by decide +kernel), List.mem_of_getElem? (i := 234) (by decide +kernel)⟩
theorem lw_p5 : lw_okq (⟨"ChipVolts$Net", "isPad", "(I)Z"⟩, 8) := ⟨⟨by decide +kernel, by decide +kernel⟩, List.mem_of_getElem? (i := 20) (by decide +kernel), List.mem_of_getElem? (i := 241) (by decide +kernel), List.mem_of_getElem? (i := 242) (by decide +kernel)⟩
theorem lw_p6 : lw_okq (⟨"ChipVolts", "settled", "()Z"⟩, 6) := ⟨⟨by decide +kernel, by decide +kernel⟩, List.mem_of_getElem? (i := 12) (by decide +kernel), List.mem_of_getElem? (i := 260) (by decide +kernel), List.mem_of_getElem? (i := 261) (by decide +kernel)⟩
theorem lw_p7 : lw_okq (⟨"ChipVolts$Balance", "settle", "(LChipVolts$Net;I)Z"⟩, 5) := ⟨⟨by decide +kernel, by decide +kernel⟩, List.mem_of_getElem? (i := 102) (by decide +kernel), List.mem_of_getElem? (i := 264) (by decide +kernel), List.mem_of_getElem? (i := 265) (by decide +kernel)⟩
theorem lw_p8 : lw_okq (⟨"ChipVolts$Balance", "lay", "(LChipVolts$Net;)V"⟩, 5) := ⟨⟨by decide +kernel, by decide +kernel⟩, List.mem_of_getElem? (i := 102) (by decide +kernel), List.mem_of_getElem? (i := 268) (by decide +kernel), List.mem_of_getElem? (i := 269) (by decide +kernel)⟩
theorem lw_p9 : lw_okq (⟨"ChipVolts$Balance", "takeOutAllBut", "(I)Z"⟩, 5) := ⟨⟨by decide +kernel, by decide +kernel⟩, List.mem_of_getElem? (i := 102) (by decide +kernel), List.mem_of_getElem? (i := 272) (by decide +kernel), List.mem_of_getElem? (i := 273) (by decide +kernel)⟩
theorem lw_p10 : lw_okq (⟨"ChipVolts$Balance", "takeOut", "(I)Z"⟩, 5) := ⟨⟨by decide +kernel, by decide +kernel⟩, List.mem_of_getElem? (i := 102) (by decide +kernel), List.mem_of_getElem? (i := 277) (by decide +kernel), List.mem_of_getElem? (i := 278) (by decide +kernel)⟩
theorem lw_p11 : lw_okq (⟨"ChipVolts$Balance", "forget", "(I)V"⟩, 5) := ⟨⟨by decide +kernel, by decide +kernel⟩, List.mem_of_getElem? (i := 102) (by decide +kernel), List.mem_of_getElem? (i := 281) (by decide +kernel), List.mem_of_getElem? (i := 282) (by decide +kernel)⟩
theorem lw_p12 : lw_okq (⟨"ChipVolts$Balance", "weigh", "([I)V"⟩, 5) := ⟨⟨by decide +kernel, by decide +kernel⟩, List.mem_of_getElem? (i := 102) (by decide +kernel), List.mem_of_getElem? (i := 285) (by decide +kernel), List.mem_of_getElem? (i := 286) (by decide +kernel)⟩
theorem lw_p13 : lw_okq (⟨"ChipVolts$Balance", "highest", "()I"⟩, 5) := ⟨⟨by decide +kernel, by decide +kernel⟩, List.mem_of_getElem? (i := 102) (by decide +kernel), List.mem_of_getElem? (i := 303) (by decide +kernel), List.mem_of_getElem? (i := 304) (by decide +kernel)⟩
theorem lw_p14 : lw_okq (⟨"ChipVolts$Blocks", "addBlock", "(II)I"⟩, 5) := ⟨⟨by decide +kernel, by decide +kernel⟩, List.mem_of_getElem? (i := 72) (by decide +kernel), List.mem_of_getElem? (i := 321) (by decide +kernel), List.mem_of_getElem? (i := 322) (by decide +kernel)⟩
theorem lw_p15 : lw_okq (⟨"ChipVolts$Blocks", "isBlock", "(I)Z"⟩, 5) := ⟨⟨by decide +kernel, by decide +kernel⟩, List.mem_of_getElem? (i := 72) (by decide +kernel), List.mem_of_getElem? (i := 333) (by decide +kernel), List.mem_of_getElem? (i := 334) (by decide +kernel)⟩
def lw_privs_1 : List (MethodName × Nat) := [(⟨"ChipVolts$Net", "clear", "(I)V"⟩, 8), (⟨"ChipVolts$Blocks", "clear", "()V"⟩, 5), (⟨"ChipVolts$Net", "isKnot", "(I)Z"⟩, 8), (⟨"ChipVolts$Net", "addWire", "(IIII)I"⟩, 8), (⟨"ChipVolts$Net", "isWire", "(I)Z"⟩, 8), (⟨"ChipVolts$Net", "isPad", "(I)Z"⟩, 8), (⟨"ChipVolts", "settled", "()Z"⟩, 6), (⟨"ChipVolts$Balance", "settle", "(LChipVolts$Net;I)Z"⟩, 5), (⟨"ChipVolts$Balance", "lay", "(LChipVolts$Net;)V"⟩, 5), (⟨"ChipVolts$Balance", "takeOutAllBut", "(I)Z"⟩, 5), (⟨"ChipVolts$Balance", "takeOut", "(I)Z"⟩, 5), (⟨"ChipVolts$Balance", "forget", "(I)V"⟩, 5), (⟨"ChipVolts$Balance", "weigh", "([I)V"⟩, 5), (⟨"ChipVolts$Balance", "highest", "()I"⟩, 5), (⟨"ChipVolts$Blocks", "addBlock", "(II)I"⟩, 5), (⟨"ChipVolts$Blocks", "isBlock", "(I)Z"⟩, 5)]
theorem lw_r1 : ∀ q ∈ lw_privs_1, lw_okq q := List.forall_mem_cons.mpr ⟨lw_p0, List.forall_mem_cons.mpr ⟨lw_p1, List.forall_mem_cons.mpr ⟨lw_p2, List.forall_mem_cons.mpr ⟨lw_p3, List.forall_mem_cons.mpr ⟨lw_p4, List.forall_mem_cons.mpr ⟨lw_p5, List.forall_mem_cons.mpr ⟨lw_p6, List.forall_mem_cons.mpr ⟨lw_p7, List.forall_mem_cons.mpr ⟨lw_p8, List.forall_mem_cons.mpr ⟨lw_p9, List.forall_mem_cons.mpr ⟨lw_p10, List.forall_mem_cons.mpr ⟨lw_p11, List.forall_mem_cons.mpr ⟨lw_p12, List.forall_mem_cons.mpr ⟨lw_p13, List.forall_mem_cons.mpr ⟨lw_p14, List.forall_mem_cons.mpr ⟨lw_p15, fun _ h => absurd h List.not_mem_nil⟩⟩⟩⟩⟩⟩⟩⟩⟩⟩⟩⟩⟩⟩⟩⟩
theorem lw_p16 : lw_okq (⟨"ChipVolts$Blocks", "share", "(LChipVolts$Balance;I)V"⟩, 5) := ⟨⟨by decide +kernel, by decide +kernel⟩, List.mem_of_getElem? (i := 72) (by decide +kernel), List.mem_of_getElem? (i := 337) (by decide +kernel), List.mem_of_getElem? (i := 338) (by decide +kernel)⟩
theorem lw_p17 : lw_okq (⟨"ChipVolts$Blocks", "nextToGet", "([J)I"⟩, 5) := ⟨⟨by decide +kernel, by decide +kernel⟩, List.mem_of_getElem? (i := 72) (by decide +kernel), List.mem_of_getElem? (i := 341) (by decide +kernel), List.mem_of_getElem? (i := 342) (by decide +kernel)⟩
theorem lw_p18 : lw_okq (⟨"ChipVolts$Blocks", "worstAbove", "(LChipVolts$Balance;I)J"⟩, 5) := ⟨⟨by decide +kernel, by decide +kernel⟩, List.mem_of_getElem? (i := 72) (by decide +kernel), List.mem_of_getElem? (i := 352) (by decide +kernel), List.mem_of_getElem? (i := 353) (by decide +kernel)⟩
theorem lw_p19 : lw_okq (⟨"ChipVolts", "opened", "(I)Z"⟩, 6) := ⟨⟨by decide +kernel, by decide +kernel⟩, List.mem_of_getElem? (i := 12) (by decide +kernel), List.mem_of_getElem? (i := 365) (by decide +kernel), List.mem_of_getElem? (i := 366) (by decide +kernel)⟩
theorem lw_p20 : lw_okq (⟨"ChipVolts$Balance", "alter", "(LChipVolts$Balance;III)Z"⟩, 5) := ⟨⟨by decide +kernel, by decide +kernel⟩, List.mem_of_getElem? (i := 102) (by decide +kernel), List.mem_of_getElem? (i := 369) (by decide +kernel), List.mem_of_getElem? (i := 370) (by decide +kernel)⟩
theorem lw_p21 : lw_okq (⟨"ChipVolts$Balance", "highestAbove", "()J"⟩, 5) := ⟨⟨by decide +kernel, by decide +kernel⟩, List.mem_of_getElem? (i := 102) (by decide +kernel), List.mem_of_getElem? (i := 373) (by decide +kernel), List.mem_of_getElem? (i := 374) (by decide +kernel)⟩
theorem lw_p22 : lw_okq (⟨"ChipVolts$Net", "allBits", "()I"⟩, 8) := ⟨⟨by decide +kernel, by decide +kernel⟩, List.mem_of_getElem? (i := 20) (by decide +kernel), List.mem_of_getElem? (i := 389) (by decide +kernel), List.mem_of_getElem? (i := 390) (by decide +kernel)⟩
theorem lw_p23 : lw_okq (⟨"ChipVolts$Widening", "search", "(LChipVolts$Net;II)I"⟩, 7) := ⟨⟨by decide +kernel, by decide +kernel⟩, List.mem_of_getElem? (i := 133) (by decide +kernel), List.mem_of_getElem? (i := 410) (by decide +kernel), List.mem_of_getElem? (i := 411) (by decide +kernel)⟩
theorem lw_p24 : lw_okq (⟨"ChipVolts$Balance", "isWithin", "(I)Z"⟩, 5) := ⟨⟨by decide +kernel, by decide +kernel⟩, List.mem_of_getElem? (i := 102) (by decide +kernel), List.mem_of_getElem? (i := 418) (by decide +kernel), List.mem_of_getElem? (i := 419) (by decide +kernel)⟩
theorem lw_p25 : lw_okq (⟨"ChipVolts$Widening", "keepIfBetter", "(II)V"⟩, 7) := ⟨⟨by decide +kernel, by decide +kernel⟩, List.mem_of_getElem? (i := 133) (by decide +kernel), List.mem_of_getElem? (i := 423) (by decide +kernel), List.mem_of_getElem? (i := 424) (by decide +kernel)⟩
theorem lw_p26 : lw_okq (⟨"ChipVolts$Widening", "isTooDear", "(I)Z"⟩, 7) := ⟨⟨by decide +kernel, by decide +kernel⟩, List.mem_of_getElem? (i := 133) (by decide +kernel), List.mem_of_getElem? (i := 430) (by decide +kernel), List.mem_of_getElem? (i := 431) (by decide +kernel)⟩
theorem lw_p27 : lw_okq (⟨"ChipVolts$Widening", "step", "(LChipVolts$Net;II)Z"⟩, 7) := ⟨⟨by decide +kernel, by decide +kernel⟩, List.mem_of_getElem? (i := 133) (by decide +kernel), List.mem_of_getElem? (i := 434) (by decide +kernel), List.mem_of_getElem? (i := 435) (by decide +kernel)⟩
theorem lw_p28 : lw_okq (⟨"ChipVolts$Balance", "alterCells", "(LChipVolts$Balance;I)V"⟩, 5) := ⟨⟨by decide +kernel, by decide +kernel⟩, List.mem_of_getElem? (i := 102) (by decide +kernel), List.mem_of_getElem? (i := 439) (by decide +kernel), List.mem_of_getElem? (i := 440) (by decide +kernel)⟩
theorem lw_p29 : lw_okq (⟨"ChipVolts$Waking", "search", "(LChipVolts$Balance;LChipVolts$Blocks;)V"⟩, 3) := ⟨⟨by decide +kernel, by decide +kernel⟩, List.mem_of_getElem? (i := 165) (by decide +kernel), List.mem_of_getElem? (i := 451) (by decide +kernel), List.mem_of_getElem? (i := 452) (by decide +kernel)⟩
theorem lw_p30 : lw_okq (⟨"ChipVolts$Waking", "leastAfter", "(LChipVolts$Balance;LChipVolts$Blocks;I)J"⟩, 3) := ⟨⟨by decide +kernel, by decide +kernel⟩, List.mem_of_getElem? (i := 165) (by decide +kernel), List.mem_of_getElem? (i := 455) (by decide +kernel), List.mem_of_getElem? (i := 456) (by decide +kernel)⟩
theorem lw_p31 : lw_okq (⟨"ChipVolts$Waking", "weighAwake", "(LChipVolts$Balance;LChipVolts$Blocks;I)V"⟩, 3) := ⟨⟨by decide +kernel, by decide +kernel⟩, List.mem_of_getElem? (i := 165) (by decide +kernel), List.mem_of_getElem? (i := 459) (by decide +kernel), List.mem_of_getElem? (i := 460) (by decide +kernel)⟩
def lw_privs_2 : List (MethodName × Nat) := [(⟨"ChipVolts$Blocks", "share", "(LChipVolts$Balance;I)V"⟩, 5), (⟨"ChipVolts$Blocks", "nextToGet", "([J)I"⟩, 5), (⟨"ChipVolts$Blocks", "worstAbove", "(LChipVolts$Balance;I)J"⟩, 5), (⟨"ChipVolts", "opened", "(I)Z"⟩, 6), (⟨"ChipVolts$Balance", "alter", "(LChipVolts$Balance;III)Z"⟩, 5), (⟨"ChipVolts$Balance", "highestAbove", "()J"⟩, 5), (⟨"ChipVolts$Net", "allBits", "()I"⟩, 8), (⟨"ChipVolts$Widening", "search", "(LChipVolts$Net;II)I"⟩, 7), (⟨"ChipVolts$Balance", "isWithin", "(I)Z"⟩, 5), (⟨"ChipVolts$Widening", "keepIfBetter", "(II)V"⟩, 7), (⟨"ChipVolts$Widening", "isTooDear", "(I)Z"⟩, 7), (⟨"ChipVolts$Widening", "step", "(LChipVolts$Net;II)Z"⟩, 7), (⟨"ChipVolts$Balance", "alterCells", "(LChipVolts$Balance;I)V"⟩, 5), (⟨"ChipVolts$Waking", "search", "(LChipVolts$Balance;LChipVolts$Blocks;)V"⟩, 3), (⟨"ChipVolts$Waking", "leastAfter", "(LChipVolts$Balance;LChipVolts$Blocks;I)J"⟩, 3), (⟨"ChipVolts$Waking", "weighAwake", "(LChipVolts$Balance;LChipVolts$Blocks;I)V"⟩, 3)]
theorem lw_r2 : ∀ q ∈ lw_privs_2, lw_okq q := List.forall_mem_cons.mpr ⟨lw_p16, List.forall_mem_cons.mpr ⟨lw_p17, List.forall_mem_cons.mpr ⟨lw_p18, List.forall_mem_cons.mpr ⟨lw_p19, List.forall_mem_cons.mpr ⟨lw_p20, List.forall_mem_cons.mpr ⟨lw_p21, List.forall_mem_cons.mpr ⟨lw_p22, List.forall_mem_cons.mpr ⟨lw_p23, List.forall_mem_cons.mpr ⟨lw_p24, List.forall_mem_cons.mpr ⟨lw_p25, List.forall_mem_cons.mpr ⟨lw_p26, List.forall_mem_cons.mpr ⟨lw_p27, List.forall_mem_cons.mpr ⟨lw_p28, List.forall_mem_cons.mpr ⟨lw_p29, List.forall_mem_cons.mpr ⟨lw_p30, List.forall_mem_cons.mpr ⟨lw_p31, fun _ h => absurd h List.not_mem_nil⟩⟩⟩⟩⟩⟩⟩⟩⟩⟩⟩⟩⟩⟩⟩⟩
theorem lw_p32 : lw_okq (⟨"ChipVolts$Waking", "peakOf", "(LChipVolts$Balance;LChipVolts$Blocks;I)J"⟩, 3) := ⟨⟨by decide +kernel, by decide +kernel⟩, List.mem_of_getElem? (i := 165) (by decide +kernel), List.mem_of_getElem? (i := 465) (by decide +kernel), List.mem_of_getElem? (i := 466) (by decide +kernel)⟩
theorem lw_p33 : lw_okq (⟨"ChipVolts$Waking", "firstToCome", "(LChipVolts$Balance;LChipVolts$Blocks;I)I"⟩, 3) := ⟨⟨by decide +kernel, by decide +kernel⟩, List.mem_of_getElem? (i := 165) (by decide +kernel), List.mem_of_getElem? (i := 475) (by decide +kernel), List.mem_of_getElem? (i := 476) (by decide +kernel)⟩
theorem lw_p34 : lw_okq (⟨"ChipVolts", "digestOfKnots", "(J)J"⟩, 6) := ⟨⟨by decide +kernel, by decide +kernel⟩, List.mem_of_getElem? (i := 12) (by decide +kernel), List.mem_of_getElem? (i := 494) (by decide +kernel), List.mem_of_getElem? (i := 495) (by decide +kernel)⟩
theorem lw_p35 : lw_okq (⟨"ChipVoltsModel", "isKnot", "(I)Z"⟩, 26) := ⟨⟨by decide +kernel, by decide +kernel⟩, List.mem_of_getElem? (i := 498) (by decide +kernel), List.mem_of_getElem? (i := 594) (by decide +kernel), List.mem_of_getElem? (i := 595) (by decide +kernel)⟩
theorem lw_p36 : lw_okq (⟨"ChipVoltsModel", "isFed", "()Z"⟩, 26) := ⟨⟨by decide +kernel, by decide +kernel⟩, List.mem_of_getElem? (i := 498) (by decide +kernel), List.mem_of_getElem? (i := 615) (by decide +kernel), List.mem_of_getElem? (i := 616) (by decide +kernel)⟩
theorem lw_p37 : lw_okq (⟨"ChipVoltsModel", "leadsTo", "(II)Z"⟩, 26) := ⟨⟨by decide +kernel, by decide +kernel⟩, List.mem_of_getElem? (i := 498) (by decide +kernel), List.mem_of_getElem? (i := 619) (by decide +kernel), List.mem_of_getElem? (i := 620) (by decide +kernel)⟩
theorem lw_p38 : lw_okq (⟨"ChipVoltsModel", "findResist", "(II)V"⟩, 26) := ⟨⟨by decide +kernel, by decide +kernel⟩, List.mem_of_getElem? (i := 498) (by decide +kernel), List.mem_of_getElem? (i := 624) (by decide +kernel), List.mem_of_getElem? (i := 625) (by decide +kernel)⟩
theorem lw_p39 : lw_okq (⟨"ChipVoltsModel", "minor", "(IIII)J"⟩, 26) := ⟨⟨by decide +kernel, by decide +kernel⟩, List.mem_of_getElem? (i := 498) (by decide +kernel), List.mem_of_getElem? (i := 628) (by decide +kernel), List.mem_of_getElem? (i := 629) (by decide +kernel)⟩
theorem lw_p40 : lw_okq (⟨"ChipVoltsModel", "between", "(III)J"⟩, 26) := ⟨⟨by decide +kernel, by decide +kernel⟩, List.mem_of_getElem? (i := 498) (by decide +kernel), List.mem_of_getElem? (i := 632) (by decide +kernel), List.mem_of_getElem? (i := 633) (by decide +kernel)⟩
theorem lw_p41 : lw_okq (⟨"ChipVoltsModel", "determinant", "()J"⟩, 26) := ⟨⟨by decide +kernel, by decide +kernel⟩, List.mem_of_getElem? (i := 498) (by decide +kernel), List.mem_of_getElem? (i := 636) (by decide +kernel), List.mem_of_getElem? (i := 637) (by decide +kernel)⟩
theorem lw_p42 : lw_okq (⟨"ChipVoltsModel", "cramer", "(IIII)J"⟩, 26) := ⟨⟨by decide +kernel, by decide +kernel⟩, List.mem_of_getElem? (i := 498) (by decide +kernel), List.mem_of_getElem? (i := 640) (by decide +kernel), List.mem_of_getElem? (i := 641) (by decide +kernel)⟩
theorem lw_p43 : lw_okq (⟨"ChipVoltsModel", "fallBy", "(I[I)J"⟩, 26) := ⟨⟨by decide +kernel, by decide +kernel⟩, List.mem_of_getElem? (i := 498) (by decide +kernel), List.mem_of_getElem? (i := 644) (by decide +kernel), List.mem_of_getElem? (i := 645) (by decide +kernel)⟩
theorem lw_p44 : lw_okq (⟨"ChipVoltsModel", "findWorst", "(I)J"⟩, 26) := ⟨⟨by decide +kernel, by decide +kernel⟩, List.mem_of_getElem? (i := 498) (by decide +kernel), List.mem_of_getElem? (i := 680) (by decide +kernel), List.mem_of_getElem? (i := 681) (by decide +kernel)⟩
theorem lw_p45 : lw_okq (⟨"ChipVoltsModel", "mostFall", "([I)J"⟩, 26) := ⟨⟨by decide +kernel, by decide +kernel⟩, List.mem_of_getElem? (i := 498) (by decide +kernel), List.mem_of_getElem? (i := 696) (by decide +kernel), List.mem_of_getElem? (i := 697) (by decide +kernel)⟩
theorem lw_p46 : lw_okq (⟨"ChipVoltsModel", "findWiden", "(II)I"⟩, 26) := ⟨⟨by decide +kernel, by decide +kernel⟩, List.mem_of_getElem? (i := 498) (by decide +kernel), List.mem_of_getElem? (i := 719) (by decide +kernel), List.mem_of_getElem? (i := 720) (by decide +kernel)⟩
theorem lw_p47 : lw_okq (⟨"ChipVoltsModel", "isAhead", "(I)Z"⟩, 26) := ⟨⟨by decide +kernel, by decide +kernel⟩, List.mem_of_getElem? (i := 498) (by decide +kernel), List.mem_of_getElem? (i := 723) (by decide +kernel), List.mem_of_getElem? (i := 724) (by decide +kernel)⟩
def lw_privs_3 : List (MethodName × Nat) := [(⟨"ChipVolts$Waking", "peakOf", "(LChipVolts$Balance;LChipVolts$Blocks;I)J"⟩, 3), (⟨"ChipVolts$Waking", "firstToCome", "(LChipVolts$Balance;LChipVolts$Blocks;I)I"⟩, 3), (⟨"ChipVolts", "digestOfKnots", "(J)J"⟩, 6), (⟨"ChipVoltsModel", "isKnot", "(I)Z"⟩, 26), (⟨"ChipVoltsModel", "isFed", "()Z"⟩, 26), (⟨"ChipVoltsModel", "leadsTo", "(II)Z"⟩, 26), (⟨"ChipVoltsModel", "findResist", "(II)V"⟩, 26), (⟨"ChipVoltsModel", "minor", "(IIII)J"⟩, 26), (⟨"ChipVoltsModel", "between", "(III)J"⟩, 26), (⟨"ChipVoltsModel", "determinant", "()J"⟩, 26), (⟨"ChipVoltsModel", "cramer", "(IIII)J"⟩, 26), (⟨"ChipVoltsModel", "fallBy", "(I[I)J"⟩, 26), (⟨"ChipVoltsModel", "findWorst", "(I)J"⟩, 26), (⟨"ChipVoltsModel", "mostFall", "([I)J"⟩, 26), (⟨"ChipVoltsModel", "findWiden", "(II)I"⟩, 26), (⟨"ChipVoltsModel", "isAhead", "(I)Z"⟩, 26)]
theorem lw_r3 : ∀ q ∈ lw_privs_3, lw_okq q := List.forall_mem_cons.mpr ⟨lw_p32, List.forall_mem_cons.mpr ⟨lw_p33, List.forall_mem_cons.mpr ⟨lw_p34, List.forall_mem_cons.mpr ⟨lw_p35, List.forall_mem_cons.mpr ⟨lw_p36, List.forall_mem_cons.mpr ⟨lw_p37, List.forall_mem_cons.mpr ⟨lw_p38, List.forall_mem_cons.mpr ⟨lw_p39, List.forall_mem_cons.mpr ⟨lw_p40, List.forall_mem_cons.mpr ⟨lw_p41, List.forall_mem_cons.mpr ⟨lw_p42, List.forall_mem_cons.mpr ⟨lw_p43, List.forall_mem_cons.mpr ⟨lw_p44, List.forall_mem_cons.mpr ⟨lw_p45, List.forall_mem_cons.mpr ⟨lw_p46, List.forall_mem_cons.mpr ⟨lw_p47, fun _ h => absurd h List.not_mem_nil⟩⟩⟩⟩⟩⟩⟩⟩⟩⟩⟩⟩⟩⟩⟩⟩
theorem lw_p48 : lw_okq (⟨"ChipVoltsModel", "isWithin", "(I)Z"⟩, 26) := ⟨⟨by decide +kernel, by decide +kernel⟩, List.mem_of_getElem? (i := 498) (by decide +kernel), List.mem_of_getElem? (i := 727) (by decide +kernel), List.mem_of_getElem? (i := 728) (by decide +kernel)⟩
theorem lw_p49 : lw_okq (⟨"ChipVoltsModel", "findWoken", "()V"⟩, 26) := ⟨⟨by decide +kernel, by decide +kernel⟩, List.mem_of_getElem? (i := 498) (by decide +kernel), List.mem_of_getElem? (i := 739) (by decide +kernel), List.mem_of_getElem? (i := 740) (by decide +kernel)⟩
theorem lw_p50 : lw_okq (⟨"ChipVoltsModel", "fallOf", "()J"⟩, 26) := ⟨⟨by decide +kernel, by decide +kernel⟩, List.mem_of_getElem? (i := 498) (by decide +kernel), List.mem_of_getElem? (i := 744) (by decide +kernel), List.mem_of_getElem? (i := 745) (by decide +kernel)⟩
theorem lw_p51 : lw_okq (⟨"ChipVoltsModel", "nextOrder", "()Z"⟩, 26) := ⟨⟨by decide +kernel, by decide +kernel⟩, List.mem_of_getElem? (i := 498) (by decide +kernel), List.mem_of_getElem? (i := 748) (by decide +kernel), List.mem_of_getElem? (i := 749) (by decide +kernel)⟩
theorem lw_p52 : lw_okq (⟨"ChipVoltsModel", "exchange", "(II)V"⟩, 26) := ⟨⟨by decide +kernel, by decide +kernel⟩, List.mem_of_getElem? (i := 498) (by decide +kernel), List.mem_of_getElem? (i := 752) (by decide +kernel), List.mem_of_getElem? (i := 753) (by decide +kernel)⟩
def lw_privs_4 : List (MethodName × Nat) := [(⟨"ChipVoltsModel", "isWithin", "(I)Z"⟩, 26), (⟨"ChipVoltsModel", "findWoken", "()V"⟩, 26), (⟨"ChipVoltsModel", "fallOf", "()J"⟩, 26), (⟨"ChipVoltsModel", "nextOrder", "()Z"⟩, 26), (⟨"ChipVoltsModel", "exchange", "(II)V"⟩, 26)]
theorem lw_r4 : ∀ q ∈ lw_privs_4, lw_okq q := List.forall_mem_cons.mpr ⟨lw_p48, List.forall_mem_cons.mpr ⟨lw_p49, List.forall_mem_cons.mpr ⟨lw_p50, List.forall_mem_cons.mpr ⟨lw_p51, List.forall_mem_cons.mpr ⟨lw_p52, fun _ h => absurd h List.not_mem_nil⟩⟩⟩⟩⟩
def lw_privs : List (MethodName × Nat) := lw_privs_1 ++ (lw_privs_2 ++ (lw_privs_3 ++ (lw_privs_4)))
def lw_tbl : List Cond := k2_sels lw_privs ++ tables_1
theorem lw_privs_ok : ∀ q ∈ lw_privs, lw_okq q := by
  show ∀ q ∈ lw_privs_1 ++ (lw_privs_2 ++ (lw_privs_3 ++ (lw_privs_4))), lw_okq q
  exact List.forall_mem_append.mpr ⟨lw_r1, List.forall_mem_append.mpr ⟨lw_r2, List.forall_mem_append.mpr ⟨lw_r3, lw_r4⟩⟩⟩

def RX0 : String := "ChipVolts$Balance"
def TX0 : u_T := fun k => match k with
  | 0 => ("ChipVolts$Balance", "knots", "I", false)
  | 1 => ("ChipVolts$Balance", "below", "J", false)
  | 2 => ("ChipVolts$Balance", "cell", "[[J", true)
  | 3 => ("ChipVolts$Balance", "above", "[J", true)
  | _ => ("ChipVolts$Balance", "spread", "[J", true)
def tyX0 : Nat → FieldType := fun k => match k with
  | 0 => .int
  | 1 => .long
  | 2 => .array (.array .long)
  | 3 => .array .long
  | _ => .array .long
abbrev wsX00 : List Cond := u_ws RX0 TX0 5
theorem nmX0 : ∀ a, a < 5 → ∀ b, b < 5 → a ≠ b → (TX0 a).2.1 ≠ (TX0 b).2.1 := by decide +kernel
theorem tyX0_ok : ∀ k, k < 5 → parseFieldDescriptor (TX0 k).2.2.1 = some (tyX0 k) := by decide +kernel
abbrev cX0_init : ByteArray := prog_2_method_1_code
def yX0_init : MethodName := ⟨RX0, "<init>", "()V"⟩
abbrev cX0_settle : ByteArray := prog_2_method_2_code
def yX0_settle : MethodName := ⟨RX0, "settle", "(LChipVolts$Net;I)Z"⟩
abbrev cX0_lay : ByteArray := prog_2_method_3_code
def yX0_lay : MethodName := ⟨RX0, "lay", "(LChipVolts$Net;)V"⟩
abbrev cX0_takeOutAllBut : ByteArray := prog_2_method_4_code
def yX0_takeOutAllBut : MethodName := ⟨RX0, "takeOutAllBut", "(I)Z"⟩
abbrev cX0_takeOut : ByteArray := prog_2_method_5_code
def yX0_takeOut : MethodName := ⟨RX0, "takeOut", "(I)Z"⟩
abbrev cX0_forget : ByteArray := prog_2_method_6_code
def yX0_forget : MethodName := ⟨RX0, "forget", "(I)V"⟩
abbrev cX0_weigh : ByteArray := prog_2_method_7_code
def yX0_weigh : MethodName := ⟨RX0, "weigh", "([I)V"⟩
abbrev cX0_highest : ByteArray := prog_2_method_8_code
def yX0_highest : MethodName := ⟨RX0, "highest", "()I"⟩
abbrev cX0_highestAbove : ByteArray := prog_2_method_9_code
def yX0_highestAbove : MethodName := ⟨RX0, "highestAbove", "()J"⟩
abbrev cX0_isWithin : ByteArray := prog_2_method_10_code
def yX0_isWithin : MethodName := ⟨RX0, "isWithin", "(I)Z"⟩
abbrev cX0_alter : ByteArray := prog_2_method_11_code
def yX0_alter : MethodName := ⟨RX0, "alter", "(LChipVolts$Balance;III)Z"⟩
abbrev cX0_alterCells : ByteArray := prog_2_method_12_code
def yX0_alterCells : MethodName := ⟨RX0, "alterCells", "(LChipVolts$Balance;I)V"⟩
def RX1 : String := "ChipVolts$Blocks"
def TX1 : u_T := fun k => match k with
  | 0 => ("ChipVolts$Blocks", "number", "I", false)
  | 1 => ("ChipVolts$Blocks", "budget", "I", false)
  | 2 => ("ChipVolts$Blocks", "home", "[I", true)
  | 3 => ("ChipVolts$Blocks", "most", "[I", true)
  | _ => ("ChipVolts$Blocks", "gets", "[I", true)
def tyX1 : Nat → FieldType := fun k => match k with
  | 0 => .int
  | 1 => .int
  | 2 => .array .int
  | 3 => .array .int
  | _ => .array .int
abbrev wsX10 : List Cond := u_ws RX1 TX1 5
theorem nmX1 : ∀ a, a < 5 → ∀ b, b < 5 → a ≠ b → (TX1 a).2.1 ≠ (TX1 b).2.1 := by decide +kernel
theorem tyX1_ok : ∀ k, k < 5 → parseFieldDescriptor (TX1 k).2.2.1 = some (tyX1 k) := by decide +kernel
abbrev cX1_init : ByteArray := prog_3_method_1_code
def yX1_init : MethodName := ⟨RX1, "<init>", "()V"⟩
abbrev cX1_clear : ByteArray := prog_3_method_2_code
def yX1_clear : MethodName := ⟨RX1, "clear", "()V"⟩
abbrev cX1_addBlock : ByteArray := prog_3_method_3_code
def yX1_addBlock : MethodName := ⟨RX1, "addBlock", "(II)I"⟩
abbrev cX1_isBlock : ByteArray := prog_3_method_4_code
def yX1_isBlock : MethodName := ⟨RX1, "isBlock", "(I)Z"⟩
abbrev cX1_share : ByteArray := prog_3_method_5_code
def yX1_share : MethodName := ⟨RX1, "share", "(LChipVolts$Balance;I)V"⟩
abbrev cX1_nextToGet : ByteArray := prog_3_method_6_code
def yX1_nextToGet : MethodName := ⟨RX1, "nextToGet", "([J)I"⟩
abbrev cX1_worstAbove : ByteArray := prog_3_method_7_code
def yX1_worstAbove : MethodName := ⟨RX1, "worstAbove", "(LChipVolts$Balance;I)J"⟩
def RX2 : String := "ChipVolts$Net"
def TX2 : u_T := fun k => match k with
  | 0 => ("ChipVolts$Net", "knots", "I", false)
  | 1 => ("ChipVolts$Net", "wires", "I", false)
  | 2 => ("ChipVolts$Net", "padBits", "I", false)
  | 3 => ("ChipVolts$Net", "pulls", "[I", true)
  | 4 => ("ChipVolts$Net", "from", "[I", true)
  | 5 => ("ChipVolts$Net", "to", "[I", true)
  | 6 => ("ChipVolts$Net", "width", "[I", true)
  | _ => ("ChipVolts$Net", "price", "[I", true)
def tyX2 : Nat → FieldType := fun k => match k with
  | 0 => .int
  | 1 => .int
  | 2 => .int
  | 3 => .array .int
  | 4 => .array .int
  | 5 => .array .int
  | 6 => .array .int
  | _ => .array .int
abbrev wsX20 : List Cond := u_ws RX2 TX2 8
theorem nmX2 : ∀ a, a < 8 → ∀ b, b < 8 → a ≠ b → (TX2 a).2.1 ≠ (TX2 b).2.1 := by decide +kernel
theorem tyX2_ok : ∀ k, k < 8 → parseFieldDescriptor (TX2 k).2.2.1 = some (tyX2 k) := by decide +kernel
abbrev cX2_init : ByteArray := prog_4_method_1_code
def yX2_init : MethodName := ⟨RX2, "<init>", "()V"⟩
abbrev cX2_clear : ByteArray := prog_4_method_2_code
def yX2_clear : MethodName := ⟨RX2, "clear", "(I)V"⟩
abbrev cX2_addWire : ByteArray := prog_4_method_3_code
def yX2_addWire : MethodName := ⟨RX2, "addWire", "(IIII)I"⟩
abbrev cX2_isKnot : ByteArray := prog_4_method_4_code
def yX2_isKnot : MethodName := ⟨RX2, "isKnot", "(I)Z"⟩
abbrev cX2_isWire : ByteArray := prog_4_method_5_code
def yX2_isWire : MethodName := ⟨RX2, "isWire", "(I)Z"⟩
abbrev cX2_isPad : ByteArray := prog_4_method_6_code
def yX2_isPad : MethodName := ⟨RX2, "isPad", "(I)Z"⟩
abbrev cX2_allBits : ByteArray := prog_4_method_7_code
def yX2_allBits : MethodName := ⟨RX2, "allBits", "()I"⟩
def RX3 : String := "ChipVolts$Waking"
def TX3 : u_T := fun k => match k with
  | 0 => ("ChipVolts$Waking", "least", "[J", true)
  | 1 => ("ChipVolts$Waking", "awake", "[J", true)
  | _ => ("ChipVolts$Waking", "order", "[I", true)
def tyX3 : Nat → FieldType := fun k => match k with
  | 0 => .array .long
  | 1 => .array .long
  | _ => .array .int
abbrev wsX30 : List Cond := u_ws RX3 TX3 3
theorem nmX3 : ∀ a, a < 3 → ∀ b, b < 3 → a ≠ b → (TX3 a).2.1 ≠ (TX3 b).2.1 := by decide +kernel
theorem tyX3_ok : ∀ k, k < 3 → parseFieldDescriptor (TX3 k).2.2.1 = some (tyX3 k) := by decide +kernel
abbrev cX3_init : ByteArray := prog_5_method_1_code
def yX3_init : MethodName := ⟨RX3, "<init>", "()V"⟩
abbrev cX3_search : ByteArray := prog_5_method_2_code
def yX3_search : MethodName := ⟨RX3, "search", "(LChipVolts$Balance;LChipVolts$Blocks;)V"⟩
abbrev cX3_leastAfter : ByteArray := prog_5_method_3_code
def yX3_leastAfter : MethodName := ⟨RX3, "leastAfter", "(LChipVolts$Balance;LChipVolts$Blocks;I)J"⟩
abbrev cX3_firstToCome : ByteArray := prog_5_method_4_code
def yX3_firstToCome : MethodName := ⟨RX3, "firstToCome", "(LChipVolts$Balance;LChipVolts$Blocks;I)I"⟩
abbrev cX3_weighAwake : ByteArray := prog_5_method_5_code
def yX3_weighAwake : MethodName := ⟨RX3, "weighAwake", "(LChipVolts$Balance;LChipVolts$Blocks;I)V"⟩
abbrev cX3_peakOf : ByteArray := prog_5_method_6_code
def yX3_peakOf : MethodName := ⟨RX3, "peakOf", "(LChipVolts$Balance;LChipVolts$Blocks;I)J"⟩
def RX4 : String := "ChipVolts$Widening"
def TX4 : u_T := fun k => match k with
  | 0 => ("ChipVolts$Widening", "steps", "[LChipVolts$Balance;", true)
  | 1 => ("ChipVolts$Widening", "row", "[I", true)
  | 2 => ("ChipVolts$Widening", "bestRow", "[I", true)
  | 3 => ("ChipVolts$Widening", "bestPrice", "I", false)
  | 4 => ("ChipVolts$Widening", "bestMore", "I", false)
  | 5 => ("ChipVolts$Widening", "limit", "I", false)
  | _ => ("ChipVolts$Widening", "most", "I", false)
def tyX4 : Nat → FieldType := fun k => match k with
  | 0 => .array (.object "ChipVolts$Balance")
  | 1 => .array .int
  | 2 => .array .int
  | 3 => .int
  | 4 => .int
  | 5 => .int
  | _ => .int
abbrev wsX40 : List Cond := u_ws RX4 TX4 7
theorem nmX4 : ∀ a, a < 7 → ∀ b, b < 7 → a ≠ b → (TX4 a).2.1 ≠ (TX4 b).2.1 := by decide +kernel
theorem tyX4_ok : ∀ k, k < 7 → parseFieldDescriptor (TX4 k).2.2.1 = some (tyX4 k) := by decide +kernel
abbrev cX4_init : ByteArray := prog_6_method_1_code
def yX4_init : MethodName := ⟨RX4, "<init>", "()V"⟩
abbrev cX4_search : ByteArray := prog_6_method_2_code
def yX4_search : MethodName := ⟨RX4, "search", "(LChipVolts$Net;II)I"⟩
abbrev cX4_tryFrom : ByteArray := prog_6_method_3_code
def yX4_tryFrom : MethodName := ⟨RX4, "tryFrom", "(LChipVolts$Widening;LChipVolts$Net;III)V"⟩
abbrev cX4_isTooDear : ByteArray := prog_6_method_4_code
def yX4_isTooDear : MethodName := ⟨RX4, "isTooDear", "(I)Z"⟩
abbrev cX4_step : ByteArray := prog_6_method_5_code
def yX4_step : MethodName := ⟨RX4, "step", "(LChipVolts$Net;II)Z"⟩
abbrev cX4_keepIfBetter : ByteArray := prog_6_method_6_code
def yX4_keepIfBetter : MethodName := ⟨RX4, "keepIfBetter", "(II)V"⟩
def RX5 : String := "ChipVolts"
def TX5 : u_T := fun k => match k with
  | 0 => ("ChipVolts", "net", "LChipVolts$Net;", true)
  | 1 => ("ChipVolts", "blocks", "LChipVolts$Blocks;", true)
  | 2 => ("ChipVolts", "here", "LChipVolts$Balance;", true)
  | 3 => ("ChipVolts", "trial", "LChipVolts$Balance;", true)
  | 4 => ("ChipVolts", "widening", "LChipVolts$Widening;", true)
  | _ => ("ChipVolts", "waking", "LChipVolts$Waking;", true)
def tyX5 : Nat → FieldType := fun k => match k with
  | 0 => .object "ChipVolts$Net"
  | 1 => .object "ChipVolts$Blocks"
  | 2 => .object "ChipVolts$Balance"
  | 3 => .object "ChipVolts$Balance"
  | 4 => .object "ChipVolts$Widening"
  | _ => .object "ChipVolts$Waking"
abbrev wsX50 : List Cond := u_ws RX5 TX5 6
theorem nmX5 : ∀ a, a < 6 → ∀ b, b < 6 → a ≠ b → (TX5 a).2.1 ≠ (TX5 b).2.1 := by decide +kernel
theorem tyX5_ok : ∀ k, k < 6 → parseFieldDescriptor (TX5 k).2.2.1 = some (tyX5 k) := by decide +kernel
abbrev cX5_init : ByteArray := prog_1_method_1_code
def yX5_init : MethodName := ⟨RX5, "<init>", "()V"⟩
abbrev cX5_net : ByteArray := prog_1_method_2_code
def yX5_net : MethodName := ⟨RX5, "net", "(I)I"⟩
abbrev cX5_wire : ByteArray := prog_1_method_3_code
def yX5_wire : MethodName := ⟨RX5, "wire", "(IIII)I"⟩
abbrev cX5_width : ByteArray := prog_1_method_4_code
def yX5_width : MethodName := ⟨RX5, "width", "(II)I"⟩
abbrev cX5_pad : ByteArray := prog_1_method_5_code
def yX5_pad : MethodName := ⟨RX5, "pad", "(IZ)I"⟩
abbrev cX5_pull : ByteArray := prog_1_method_6_code
def yX5_pull : MethodName := ⟨RX5, "pull", "(II)I"⟩
abbrev cX5_fall : ByteArray := prog_1_method_7_code
def yX5_fall : MethodName := ⟨RX5, "fall", "(II)J"⟩
abbrev cX5_greatest : ByteArray := prog_1_method_8_code
def yX5_greatest : MethodName := ⟨RX5, "greatest", "()I"⟩
abbrev cX5_flow : ByteArray := prog_1_method_9_code
def yX5_flow : MethodName := ⟨RX5, "flow", "(II)J"⟩
abbrev cX5_resist : ByteArray := prog_1_method_10_code
def yX5_resist : MethodName := ⟨RX5, "resist", "(III)J"⟩
abbrev cX5_block : ByteArray := prog_1_method_11_code
def yX5_block : MethodName := ⟨RX5, "block", "(II)I"⟩
abbrev cX5_budget : ByteArray := prog_1_method_12_code
def yX5_budget : MethodName := ⟨RX5, "budget", "(I)I"⟩
abbrev cX5_worst : ByteArray := prog_1_method_13_code
def yX5_worst : MethodName := ⟨RX5, "worst", "(II)I"⟩
abbrev cX5_worstFall : ByteArray := prog_1_method_14_code
def yX5_worstFall : MethodName := ⟨RX5, "worstFall", "(II)J"⟩
abbrev cX5_worstKnot : ByteArray := prog_1_method_15_code
def yX5_worstKnot : MethodName := ⟨RX5, "worstKnot", "()I"⟩
abbrev cX5_open : ByteArray := prog_1_method_16_code
def yX5_open : MethodName := ⟨RX5, "open", "(II)J"⟩
abbrev cX5_weakest : ByteArray := prog_1_method_17_code
def yX5_weakest : MethodName := ⟨RX5, "weakest", "()I"⟩
abbrev cX5_shrunk : ByteArray := prog_1_method_18_code
def yX5_shrunk : MethodName := ⟨RX5, "shrunk", "(IIII)J"⟩
abbrev cX5_pads : ByteArray := prog_1_method_19_code
def yX5_pads : MethodName := ⟨RX5, "pads", "(I)I"⟩
abbrev cX5_widen : ByteArray := prog_1_method_20_code
def yX5_widen : MethodName := ⟨RX5, "widen", "(II)I"⟩
abbrev cX5_widened : ByteArray := prog_1_method_21_code
def yX5_widened : MethodName := ⟨RX5, "widened", "(III)I"⟩
abbrev cX5_woken : ByteArray := prog_1_method_22_code
def yX5_woken : MethodName := ⟨RX5, "woken", "(I)I"⟩
abbrev cX5_wokenFall : ByteArray := prog_1_method_23_code
def yX5_wokenFall : MethodName := ⟨RX5, "wokenFall", "(I)J"⟩
abbrev cX5_count : ByteArray := prog_1_method_24_code
def yX5_count : MethodName := ⟨RX5, "count", "(I)I"⟩
abbrev cX5_digest : ByteArray := prog_1_method_25_code
def yX5_digest : MethodName := ⟨RX5, "digest", "()J"⟩
abbrev cX5_digestOfKnots : ByteArray := prog_1_method_26_code
def yX5_digestOfKnots : MethodName := ⟨RX5, "digestOfKnots", "(J)J"⟩
abbrev cX5_settled : ByteArray := prog_1_method_27_code
def yX5_settled : MethodName := ⟨RX5, "settled", "()Z"⟩
abbrev cX5_opened : ByteArray := prog_1_method_28_code
def yX5_opened : MethodName := ⟨RX5, "opened", "(I)Z"⟩
abbrev cX5_between : ByteArray := prog_1_method_29_code
def yX5_between : MethodName := ⟨RX5, "between", "(III)Z"⟩
abbrev cX5_isPart : ByteArray := prog_1_method_30_code
def yX5_isPart : MethodName := ⟨RX5, "isPart", "(I)Z"⟩
abbrev cX5_has : ByteArray := prog_1_method_31_code
def yX5_has : MethodName := ⟨RX5, "has", "(II)Z"⟩
abbrev cX5_isLess : ByteArray := prog_1_method_32_code
def yX5_isLess : MethodName := ⟨RX5, "isLess", "(JJJJ)Z"⟩
abbrev cX5_part : ByteArray := prog_1_method_33_code
def yX5_part : MethodName := ⟨RX5, "part", "(JJI)J"⟩
abbrev cX5_commonDivisor : ByteArray := prog_1_method_34_code
def yX5_commonDivisor : MethodName := ⟨RX5, "commonDivisor", "(JJ)J"⟩
def RX6 : String := "ChipVoltsModel"
def TX6 : u_T := fun k => match k with
  | 0 => ("ChipVoltsModel", "n", "I", false)
  | 1 => ("ChipVoltsModel", "wires", "I", false)
  | 2 => ("ChipVoltsModel", "from", "[I", true)
  | 3 => ("ChipVoltsModel", "to", "[I", true)
  | 4 => ("ChipVoltsModel", "wide", "[I", true)
  | 5 => ("ChipVoltsModel", "price", "[I", true)
  | 6 => ("ChipVoltsModel", "padBits", "I", false)
  | 7 => ("ChipVoltsModel", "pulls", "[I", true)
  | 8 => ("ChipVoltsModel", "blocks", "I", false)
  | 9 => ("ChipVoltsModel", "sits", "[I", true)
  | 10 => ("ChipVoltsModel", "most", "[I", true)
  | 11 => ("ChipVoltsModel", "budget", "I", false)
  | 12 => ("ChipVoltsModel", "square", "[J", true)
  | 13 => ("ChipVoltsModel", "side", "I", false)
  | 14 => ("ChipVoltsModel", "rows", "[I", true)
  | 15 => ("ChipVoltsModel", "columns", "[I", true)
  | 16 => ("ChipVoltsModel", "resist", "[J", true)
  | 17 => ("ChipVoltsModel", "under", "J", false)
  | 18 => ("ChipVoltsModel", "gets", "[I", true)
  | 19 => ("ChipVoltsModel", "picked", "[I", true)
  | 20 => ("ChipVoltsModel", "more", "[I", true)
  | 21 => ("ChipVoltsModel", "bestMore", "[I", true)
  | 22 => ("ChipVoltsModel", "order", "[I", true)
  | 23 => ("ChipVoltsModel", "bestOrder", "[I", true)
  | 24 => ("ChipVoltsModel", "now", "[I", true)
  | _ => ("ChipVoltsModel", "wokenAbove", "J", false)
def tyX6 : Nat → FieldType := fun k => match k with
  | 0 => .int
  | 1 => .int
  | 2 => .array .int
  | 3 => .array .int
  | 4 => .array .int
  | 5 => .array .int
  | 6 => .int
  | 7 => .array .int
  | 8 => .int
  | 9 => .array .int
  | 10 => .array .int
  | 11 => .int
  | 12 => .array .long
  | 13 => .int
  | 14 => .array .int
  | 15 => .array .int
  | 16 => .array .long
  | 17 => .long
  | 18 => .array .int
  | 19 => .array .int
  | 20 => .array .int
  | 21 => .array .int
  | 22 => .array .int
  | 23 => .array .int
  | 24 => .array .int
  | _ => .long
abbrev wsX60 : List Cond := u_ws RX6 TX6 26
theorem nmX6 : ∀ a, a < 26 → ∀ b, b < 26 → a ≠ b → (TX6 a).2.1 ≠ (TX6 b).2.1 := by decide +kernel
theorem tyX6_ok : ∀ k, k < 26 → parseFieldDescriptor (TX6 k).2.2.1 = some (tyX6 k) := by decide +kernel
abbrev cX6_init : ByteArray := prog_8_method_1_code
def yX6_init : MethodName := ⟨RX6, "<init>", "()V"⟩
abbrev cX6_in : ByteArray := prog_8_method_3_code
def yX6_in : MethodName := ⟨RX6, "in", "(III)Z"⟩
abbrev cX6_isKnot : ByteArray := prog_8_method_4_code
def yX6_isKnot : MethodName := ⟨RX6, "isKnot", "(I)Z"⟩
abbrev cX6_net : ByteArray := prog_8_method_5_code
def yX6_net : MethodName := ⟨RX6, "net", "(I)I"⟩
abbrev cX6_wire : ByteArray := prog_8_method_6_code
def yX6_wire : MethodName := ⟨RX6, "wire", "(IIII)I"⟩
abbrev cX6_width : ByteArray := prog_8_method_7_code
def yX6_width : MethodName := ⟨RX6, "width", "(II)I"⟩
abbrev cX6_pad : ByteArray := prog_8_method_8_code
def yX6_pad : MethodName := ⟨RX6, "pad", "(IZ)I"⟩
abbrev cX6_pull : ByteArray := prog_8_method_9_code
def yX6_pull : MethodName := ⟨RX6, "pull", "(II)I"⟩
abbrev cX6_leadsTo : ByteArray := prog_8_method_10_code
def yX6_leadsTo : MethodName := ⟨RX6, "leadsTo", "(II)Z"⟩
abbrev cX6_isFed : ByteArray := prog_8_method_11_code
def yX6_isFed : MethodName := ⟨RX6, "isFed", "()Z"⟩
abbrev cX6_between : ByteArray := prog_8_method_12_code
def yX6_between : MethodName := ⟨RX6, "between", "(III)J"⟩
abbrev cX6_determinant : ByteArray := prog_8_method_13_code
def yX6_determinant : MethodName := ⟨RX6, "determinant", "()J"⟩
abbrev cX6_minor : ByteArray := prog_8_method_14_code
def yX6_minor : MethodName := ⟨RX6, "minor", "(IIII)J"⟩
abbrev cX6_findResist : ByteArray := prog_8_method_15_code
def yX6_findResist : MethodName := ⟨RX6, "findResist", "(II)V"⟩
abbrev cX6_cramer : ByteArray := prog_8_method_16_code
def yX6_cramer : MethodName := ⟨RX6, "cramer", "(IIII)J"⟩
abbrev cX6_fallBy : ByteArray := prog_8_method_17_code
def yX6_fallBy : MethodName := ⟨RX6, "fallBy", "(I[I)J"⟩
abbrev cX6_mostFall : ByteArray := prog_8_method_18_code
def yX6_mostFall : MethodName := ⟨RX6, "mostFall", "([I)J"⟩
abbrev cX6_divisor : ByteArray := prog_8_method_19_code
def yX6_divisor : MethodName := ⟨RX6, "divisor", "(JJ)J"⟩
abbrev cX6_lowest : ByteArray := prog_8_method_20_code
def yX6_lowest : MethodName := ⟨RX6, "lowest", "(JJI)J"⟩
abbrev cX6_fall : ByteArray := prog_8_method_21_code
def yX6_fall : MethodName := ⟨RX6, "fall", "(II)J"⟩
abbrev cX6_greatest : ByteArray := prog_8_method_22_code
def yX6_greatest : MethodName := ⟨RX6, "greatest", "()I"⟩
abbrev cX6_flow : ByteArray := prog_8_method_23_code
def yX6_flow : MethodName := ⟨RX6, "flow", "(II)J"⟩
abbrev cX6_resist : ByteArray := prog_8_method_24_code
def yX6_resist : MethodName := ⟨RX6, "resist", "(III)J"⟩
abbrev cX6_block : ByteArray := prog_8_method_25_code
def yX6_block : MethodName := ⟨RX6, "block", "(II)I"⟩
abbrev cX6_budget : ByteArray := prog_8_method_26_code
def yX6_budget : MethodName := ⟨RX6, "budget", "(I)I"⟩
abbrev cX6_findWorst : ByteArray := prog_8_method_27_code
def yX6_findWorst : MethodName := ⟨RX6, "findWorst", "(I)J"⟩
abbrev cX6_worst : ByteArray := prog_8_method_28_code
def yX6_worst : MethodName := ⟨RX6, "worst", "(II)I"⟩
abbrev cX6_worstFall : ByteArray := prog_8_method_29_code
def yX6_worstFall : MethodName := ⟨RX6, "worstFall", "(II)J"⟩
abbrev cX6_worstKnot : ByteArray := prog_8_method_30_code
def yX6_worstKnot : MethodName := ⟨RX6, "worstKnot", "()I"⟩
abbrev cX6_open : ByteArray := prog_8_method_31_code
def yX6_open : MethodName := ⟨RX6, "open", "(II)J"⟩
abbrev cX6_weakest : ByteArray := prog_8_method_32_code
def yX6_weakest : MethodName := ⟨RX6, "weakest", "()I"⟩
abbrev cX6_shrunk : ByteArray := prog_8_method_33_code
def yX6_shrunk : MethodName := ⟨RX6, "shrunk", "(IIII)J"⟩
abbrev cX6_bits : ByteArray := prog_8_method_34_code
def yX6_bits : MethodName := ⟨RX6, "bits", "(I)I"⟩
abbrev cX6_pads : ByteArray := prog_8_method_35_code
def yX6_pads : MethodName := ⟨RX6, "pads", "(I)I"⟩
abbrev cX6_isAhead : ByteArray := prog_8_method_36_code
def yX6_isAhead : MethodName := ⟨RX6, "isAhead", "(I)Z"⟩
abbrev cX6_findWiden : ByteArray := prog_8_method_37_code
def yX6_findWiden : MethodName := ⟨RX6, "findWiden", "(II)I"⟩
abbrev cX6_isWithin : ByteArray := prog_8_method_38_code
def yX6_isWithin : MethodName := ⟨RX6, "isWithin", "(I)Z"⟩
abbrev cX6_widen : ByteArray := prog_8_method_39_code
def yX6_widen : MethodName := ⟨RX6, "widen", "(II)I"⟩
abbrev cX6_widened : ByteArray := prog_8_method_40_code
def yX6_widened : MethodName := ⟨RX6, "widened", "(III)I"⟩
abbrev cX6_fallOf : ByteArray := prog_8_method_41_code
def yX6_fallOf : MethodName := ⟨RX6, "fallOf", "()J"⟩
abbrev cX6_nextOrder : ByteArray := prog_8_method_42_code
def yX6_nextOrder : MethodName := ⟨RX6, "nextOrder", "()Z"⟩
abbrev cX6_exchange : ByteArray := prog_8_method_43_code
def yX6_exchange : MethodName := ⟨RX6, "exchange", "(II)V"⟩
abbrev cX6_findWoken : ByteArray := prog_8_method_44_code
def yX6_findWoken : MethodName := ⟨RX6, "findWoken", "()V"⟩
abbrev cX6_woken : ByteArray := prog_8_method_45_code
def yX6_woken : MethodName := ⟨RX6, "woken", "(I)I"⟩
abbrev cX6_wokenFall : ByteArray := prog_8_method_46_code
def yX6_wokenFall : MethodName := ⟨RX6, "wokenFall", "(I)J"⟩
abbrev cX6_count : ByteArray := prog_8_method_47_code
def yX6_count : MethodName := ⟨RX6, "count", "(I)I"⟩
abbrev cX6_digest : ByteArray := prog_8_method_48_code
def yX6_digest : MethodName := ⟨RX6, "digest", "()J"⟩
def RJ6 : String := "java/lang/Integer"
def TJ6 : u_T := fun k => match k with
  | _ => ("", "", "", false)
def tyJ6 : Nat → FieldType := fun k => match k with
  | _ => .int
abbrev wsJ60 : List Cond := u_ws RJ6 TJ6 0
theorem nmJ6 : ∀ a, a < 0 → ∀ b, b < 0 → a ≠ b → (TJ6 a).2.1 ≠ (TJ6 b).2.1 := by decide +kernel
theorem tyJ6_ok : ∀ k, k < 0 → parseFieldDescriptor (TJ6 k).2.2.1 = some (tyJ6 k) := by decide +kernel
abbrev cJ6_bitCount_0f7a4 : ByteArray := prog_9_method_49_code
def yJ6_bitCount_0f7a4 : MethodName := ⟨RJ6, "bitCount", "(I)I"⟩
def RJ9 : String := "java/lang/Math"
def TJ9 : u_T := fun k => match k with
  | _ => ("", "", "", false)
def tyJ9 : Nat → FieldType := fun k => match k with
  | _ => .int
abbrev wsJ90 : List Cond := u_ws RJ9 TJ9 0
theorem nmJ9 : ∀ a, a < 0 → ∀ b, b < 0 → a ≠ b → (TJ9 a).2.1 ≠ (TJ9 b).2.1 := by decide +kernel
theorem tyJ9_ok : ∀ k, k < 0 → parseFieldDescriptor (TJ9 k).2.2.1 = some (tyJ9 k) := by decide +kernel
abbrev cJ9_abs_067f4 : ByteArray := prog_10_method_61_code
def yJ9_abs_067f4 : MethodName := ⟨RJ9, "abs", "(J)J"⟩
abbrev cJ9_max_f86c9 : ByteArray := prog_10_method_66_code
def yJ9_max_f86c9 : MethodName := ⟨RJ9, "max", "(JJ)J"⟩
abbrev cJ9_min_7cf53 : ByteArray := prog_10_method_69_code
def yJ9_min_7cf53 : MethodName := ⟨RJ9, "min", "(II)I"⟩
abbrev cJ9_min_f86c9 : ByteArray := prog_10_method_70_code
def yJ9_min_f86c9 : MethodName := ⟨RJ9, "min", "(JJ)J"⟩
def RJ10 : String := "java/lang/System"
def TJ10 : u_T := fun k => match k with
  | _ => ("", "", "", false)
def tyJ10 : Nat → FieldType := fun k => match k with
  | _ => .int
abbrev wsJ100 : List Cond := u_ws RJ10 TJ10 0
theorem nmJ10 : ∀ a, a < 0 → ∀ b, b < 0 → a ≠ b → (TJ10 a).2.1 ≠ (TJ10 b).2.1 := by decide +kernel
theorem tyJ10_ok : ∀ k, k < 0 → parseFieldDescriptor (TJ10 k).2.2.1 = some (tyJ10 k) := by decide +kernel
def RL : String := "ChipVoltsLaw"
abbrev cL_law : ByteArray := code
def yL_law : MethodName := ⟨RL, "law", "([I)Z"⟩
theorem inJ6 : ∀ w ∈ wsJ60, w ∈ lw_tbl := by decide +kernel
theorem inJ9 : ∀ w ∈ wsJ90, w ∈ lw_tbl := by decide +kernel
theorem inJ10 : ∀ w ∈ wsJ100, w ∈ lw_tbl := by decide +kernel
abbrev vwCl : List vw_C := [(RX0, TX0, 5), (RX1, TX1, 5), (RX2, TX2, 8), (RX3, TX3, 3), (RX4, TX4, 7), (RX5, TX5, 6), (RX6, TX6, 26)]
end
section
theorem dX0_init_0 : decode cX0_init 0 = .ok (.aload_n 0, 1) := by decide +kernel
theorem dX0_init_1 : decode cX0_init 1 = .ok (.invokespecial 3, 3) := by decide +kernel
theorem dX0_init_4 : decode cX0_init 4 = .ok (.aload_n 0, 1) := by decide +kernel
theorem dX0_init_5 : decode cX0_init 5 = .ok (.iconst 0, 1) := by decide +kernel
theorem dX0_init_6 : decode cX0_init 6 = .ok (.putfield 9, 3) := by decide +kernel
theorem dX0_init_9 : decode cX0_init 9 = .ok (.aload_n 0, 1) := by decide +kernel
theorem dX0_init_10 : decode cX0_init 10 = .ok (.lconst 1, 1) := by decide +kernel
theorem dX0_init_11 : decode cX0_init 11 = .ok (.putfield 15, 3) := by decide +kernel
theorem dX0_init_14 : decode cX0_init 14 = .ok (.aload_n 0, 1) := by decide +kernel
theorem dX0_init_15 : decode cX0_init 15 = .ok (.bipush 7, 2) := by decide +kernel
theorem dX0_init_17 : decode cX0_init 17 = .ok (.bipush 7, 2) := by decide +kernel
theorem dX0_init_19 : decode cX0_init 19 = .ok (.multianewarray 19 2, 4) := by decide +kernel
theorem dX0_init_23 : decode cX0_init 23 = .ok (.putfield 21, 3) := by decide +kernel
theorem dX0_init_26 : decode cX0_init 26 = .ok (.aload_n 0, 1) := by decide +kernel
theorem dX0_init_27 : decode cX0_init 27 = .ok (.bipush 7, 2) := by decide +kernel
theorem dX0_init_29 : decode cX0_init 29 = .ok (.newarray .long, 2) := by decide +kernel
theorem dX0_init_31 : decode cX0_init 31 = .ok (.putfield 24, 3) := by decide +kernel
theorem dX0_init_34 : decode cX0_init 34 = .ok (.aload_n 0, 1) := by decide +kernel
theorem dX0_init_35 : decode cX0_init 35 = .ok (.bipush 7, 2) := by decide +kernel
theorem dX0_init_37 : decode cX0_init 37 = .ok (.newarray .long, 2) := by decide +kernel
theorem dX0_init_39 : decode cX0_init 39 = .ok (.putfield 28, 3) := by decide +kernel
theorem dX0_init_42 : decode cX0_init 42 = .ok (.return_, 1) := by decide +kernel
theorem dX0_settle_0 : decode cX0_settle 0 = .ok (.aload_n 0, 1) := by decide +kernel
theorem dX0_settle_1 : decode cX0_settle 1 = .ok (.aload_n 1, 1) := by decide +kernel
theorem dX0_settle_2 : decode cX0_settle 2 = .ok (.invokevirtual 31, 3) := by decide +kernel
theorem dX0_settle_5 : decode cX0_settle 5 = .ok (.aload_n 0, 1) := by decide +kernel
theorem dX0_settle_6 : decode cX0_settle 6 = .ok (.iload_n 2, 1) := by decide +kernel
theorem dX0_settle_7 : decode cX0_settle 7 = .ok (.invokevirtual 35, 3) := by decide +kernel
theorem dX0_settle_10 : decode cX0_settle 10 = .ok (.ifCond .ne 5, 3) := by decide +kernel
theorem dX0_settle_13 : decode cX0_settle 13 = .ok (.iconst 0, 1) := by decide +kernel
theorem dX0_settle_14 : decode cX0_settle 14 = .ok (.ireturn, 1) := by decide +kernel
theorem dX0_settle_15 : decode cX0_settle 15 = .ok (.aload_n 0, 1) := by decide +kernel
theorem dX0_settle_16 : decode cX0_settle 16 = .ok (.iload_n 2, 1) := by decide +kernel
theorem dX0_settle_17 : decode cX0_settle 17 = .ok (.invokevirtual 39, 3) := by decide +kernel
theorem dX0_settle_20 : decode cX0_settle 20 = .ok (.aload_n 0, 1) := by decide +kernel
theorem dX0_settle_21 : decode cX0_settle 21 = .ok (.aload_n 1, 1) := by decide +kernel
theorem dX0_settle_22 : decode cX0_settle 22 = .ok (.getfield 43, 3) := by decide +kernel
theorem dX0_settle_25 : decode cX0_settle 25 = .ok (.invokevirtual 49, 3) := by decide +kernel
theorem dX0_settle_28 : decode cX0_settle 28 = .ok (.iconst 1, 1) := by decide +kernel
theorem dX0_settle_29 : decode cX0_settle 29 = .ok (.ireturn, 1) := by decide +kernel
theorem dX0_lay_0 : decode cX0_lay 0 = .ok (.aload_n 0, 1) := by decide +kernel
theorem dX0_lay_1 : decode cX0_lay 1 = .ok (.aload_n 1, 1) := by decide +kernel
theorem dX0_lay_2 : decode cX0_lay 2 = .ok (.getfield 53, 3) := by decide +kernel
theorem dX0_lay_5 : decode cX0_lay 5 = .ok (.putfield 9, 3) := by decide +kernel
theorem dX0_lay_8 : decode cX0_lay 8 = .ok (.aload_n 0, 1) := by decide +kernel
theorem dX0_lay_9 : decode cX0_lay 9 = .ok (.lconst 1, 1) := by decide +kernel
theorem dX0_lay_10 : decode cX0_lay 10 = .ok (.putfield 15, 3) := by decide +kernel
theorem dX0_lay_13 : decode cX0_lay 13 = .ok (.iconst 0, 1) := by decide +kernel
theorem dX0_lay_14 : decode cX0_lay 14 = .ok (.istore_n 2, 1) := by decide +kernel
theorem dX0_lay_15 : decode cX0_lay 15 = .ok (.iload_n 2, 1) := by decide +kernel
theorem dX0_lay_16 : decode cX0_lay 16 = .ok (.aload_n 0, 1) := by decide +kernel
theorem dX0_lay_17 : decode cX0_lay 17 = .ok (.getfield 9, 3) := by decide +kernel
theorem dX0_lay_20 : decode cX0_lay 20 = .ok (.if_icmp .ge 34, 3) := by decide +kernel
theorem dX0_lay_23 : decode cX0_lay 23 = .ok (.iconst 0, 1) := by decide +kernel
theorem dX0_lay_24 : decode cX0_lay 24 = .ok (.istore_n 3, 1) := by decide +kernel
theorem dX0_lay_25 : decode cX0_lay 25 = .ok (.iload_n 3, 1) := by decide +kernel
theorem dX0_lay_26 : decode cX0_lay 26 = .ok (.aload_n 0, 1) := by decide +kernel
theorem dX0_lay_27 : decode cX0_lay 27 = .ok (.getfield 9, 3) := by decide +kernel
theorem dX0_lay_30 : decode cX0_lay 30 = .ok (.if_icmp .ge 18, 3) := by decide +kernel
theorem dX0_lay_33 : decode cX0_lay 33 = .ok (.aload_n 0, 1) := by decide +kernel
theorem dX0_lay_34 : decode cX0_lay 34 = .ok (.getfield 21, 3) := by decide +kernel
theorem dX0_lay_37 : decode cX0_lay 37 = .ok (.iload_n 2, 1) := by decide +kernel
theorem dX0_lay_38 : decode cX0_lay 38 = .ok (.aaload, 1) := by decide +kernel
theorem dX0_lay_39 : decode cX0_lay 39 = .ok (.iload_n 3, 1) := by decide +kernel
theorem dX0_lay_40 : decode cX0_lay 40 = .ok (.lconst 0, 1) := by decide +kernel
theorem dX0_lay_41 : decode cX0_lay 41 = .ok (.lastore, 1) := by decide +kernel
theorem dX0_lay_42 : decode cX0_lay 42 = .ok (.iinc 3 1, 3) := by decide +kernel
theorem dX0_lay_45 : decode cX0_lay 45 = .ok (.goto (-20), 3) := by decide +kernel
theorem dX0_lay_48 : decode cX0_lay 48 = .ok (.iinc 2 1, 3) := by decide +kernel
theorem dX0_lay_51 : decode cX0_lay 51 = .ok (.goto (-36), 3) := by decide +kernel
theorem dX0_lay_54 : decode cX0_lay 54 = .ok (.iconst 0, 1) := by decide +kernel
theorem dX0_lay_55 : decode cX0_lay 55 = .ok (.istore_n 2, 1) := by decide +kernel
theorem dX0_lay_56 : decode cX0_lay 56 = .ok (.iload_n 2, 1) := by decide +kernel
theorem dX0_lay_57 : decode cX0_lay 57 = .ok (.aload_n 1, 1) := by decide +kernel
theorem dX0_lay_58 : decode cX0_lay 58 = .ok (.getfield 54, 3) := by decide +kernel
theorem dX0_lay_61 : decode cX0_lay 61 = .ok (.if_icmp .ge 100, 3) := by decide +kernel
theorem dX0_lay_64 : decode cX0_lay 64 = .ok (.aload_n 1, 1) := by decide +kernel
theorem dX0_lay_65 : decode cX0_lay 65 = .ok (.getfield 57, 3) := by decide +kernel
theorem dX0_lay_68 : decode cX0_lay 68 = .ok (.iload_n 2, 1) := by decide +kernel
theorem dX0_lay_69 : decode cX0_lay 69 = .ok (.iaload, 1) := by decide +kernel
theorem dX0_lay_70 : decode cX0_lay 70 = .ok (.istore_n 3, 1) := by decide +kernel
theorem dX0_lay_71 : decode cX0_lay 71 = .ok (.aload_n 1, 1) := by decide +kernel
theorem dX0_lay_72 : decode cX0_lay 72 = .ok (.getfield 60, 3) := by decide +kernel
theorem dX0_lay_75 : decode cX0_lay 75 = .ok (.iload_n 2, 1) := by decide +kernel
theorem dX0_lay_76 : decode cX0_lay 76 = .ok (.iaload, 1) := by decide +kernel
theorem dX0_lay_77 : decode cX0_lay 77 = .ok (.istore 4, 2) := by decide +kernel
theorem dX0_lay_79 : decode cX0_lay 79 = .ok (.aload_n 0, 1) := by decide +kernel
theorem dX0_lay_80 : decode cX0_lay 80 = .ok (.getfield 21, 3) := by decide +kernel
theorem dX0_lay_83 : decode cX0_lay 83 = .ok (.iload_n 3, 1) := by decide +kernel
theorem dX0_lay_84 : decode cX0_lay 84 = .ok (.aaload, 1) := by decide +kernel
theorem dX0_lay_85 : decode cX0_lay 85 = .ok (.iload_n 3, 1) := by decide +kernel
theorem dX0_lay_86 : decode cX0_lay 86 = .ok (.dup2, 1) := by decide +kernel
theorem dX0_lay_87 : decode cX0_lay 87 = .ok (.laload, 1) := by decide +kernel
theorem dX0_lay_88 : decode cX0_lay 88 = .ok (.aload_n 1, 1) := by decide +kernel
theorem dX0_lay_89 : decode cX0_lay 89 = .ok (.getfield 63, 3) := by decide +kernel
theorem dX0_lay_92 : decode cX0_lay 92 = .ok (.iload_n 2, 1) := by decide +kernel
theorem dX0_lay_93 : decode cX0_lay 93 = .ok (.iaload, 1) := by decide +kernel
theorem dX0_lay_94 : decode cX0_lay 94 = .ok (.i2l, 1) := by decide +kernel
theorem dX0_lay_95 : decode cX0_lay 95 = .ok (.ladd, 1) := by decide +kernel
theorem dX0_lay_96 : decode cX0_lay 96 = .ok (.lastore, 1) := by decide +kernel
theorem dX0_lay_97 : decode cX0_lay 97 = .ok (.aload_n 0, 1) := by decide +kernel
theorem dX0_lay_98 : decode cX0_lay 98 = .ok (.getfield 21, 3) := by decide +kernel
theorem dX0_lay_101 : decode cX0_lay 101 = .ok (.iload 4, 2) := by decide +kernel
theorem dX0_lay_103 : decode cX0_lay 103 = .ok (.aaload, 1) := by decide +kernel
theorem dX0_lay_104 : decode cX0_lay 104 = .ok (.iload 4, 2) := by decide +kernel
theorem dX0_lay_106 : decode cX0_lay 106 = .ok (.dup2, 1) := by decide +kernel
theorem dX0_lay_107 : decode cX0_lay 107 = .ok (.laload, 1) := by decide +kernel
theorem dX0_lay_108 : decode cX0_lay 108 = .ok (.aload_n 1, 1) := by decide +kernel
theorem dX0_lay_109 : decode cX0_lay 109 = .ok (.getfield 63, 3) := by decide +kernel
theorem dX0_lay_112 : decode cX0_lay 112 = .ok (.iload_n 2, 1) := by decide +kernel
theorem dX0_lay_113 : decode cX0_lay 113 = .ok (.iaload, 1) := by decide +kernel
theorem dX0_lay_114 : decode cX0_lay 114 = .ok (.i2l, 1) := by decide +kernel
theorem dX0_lay_115 : decode cX0_lay 115 = .ok (.ladd, 1) := by decide +kernel
theorem dX0_lay_116 : decode cX0_lay 116 = .ok (.lastore, 1) := by decide +kernel
theorem dX0_lay_117 : decode cX0_lay 117 = .ok (.aload_n 0, 1) := by decide +kernel
theorem dX0_lay_118 : decode cX0_lay 118 = .ok (.getfield 21, 3) := by decide +kernel
theorem dX0_lay_121 : decode cX0_lay 121 = .ok (.iload_n 3, 1) := by decide +kernel
theorem dX0_lay_122 : decode cX0_lay 122 = .ok (.aaload, 1) := by decide +kernel
theorem dX0_lay_123 : decode cX0_lay 123 = .ok (.iload 4, 2) := by decide +kernel
theorem dX0_lay_125 : decode cX0_lay 125 = .ok (.dup2, 1) := by decide +kernel
theorem dX0_lay_126 : decode cX0_lay 126 = .ok (.laload, 1) := by decide +kernel
theorem dX0_lay_127 : decode cX0_lay 127 = .ok (.aload_n 1, 1) := by decide +kernel
theorem dX0_lay_128 : decode cX0_lay 128 = .ok (.getfield 63, 3) := by decide +kernel
theorem dX0_lay_131 : decode cX0_lay 131 = .ok (.iload_n 2, 1) := by decide +kernel
theorem dX0_lay_132 : decode cX0_lay 132 = .ok (.iaload, 1) := by decide +kernel
theorem dX0_lay_133 : decode cX0_lay 133 = .ok (.i2l, 1) := by decide +kernel
theorem dX0_lay_134 : decode cX0_lay 134 = .ok (.lsub, 1) := by decide +kernel
theorem dX0_lay_135 : decode cX0_lay 135 = .ok (.lastore, 1) := by decide +kernel
theorem dX0_lay_136 : decode cX0_lay 136 = .ok (.aload_n 0, 1) := by decide +kernel
theorem dX0_lay_137 : decode cX0_lay 137 = .ok (.getfield 21, 3) := by decide +kernel
theorem dX0_lay_140 : decode cX0_lay 140 = .ok (.iload 4, 2) := by decide +kernel
theorem dX0_lay_142 : decode cX0_lay 142 = .ok (.aaload, 1) := by decide +kernel
theorem dX0_lay_143 : decode cX0_lay 143 = .ok (.iload_n 3, 1) := by decide +kernel
theorem dX0_lay_144 : decode cX0_lay 144 = .ok (.dup2, 1) := by decide +kernel
theorem dX0_lay_145 : decode cX0_lay 145 = .ok (.laload, 1) := by decide +kernel
theorem dX0_lay_146 : decode cX0_lay 146 = .ok (.aload_n 1, 1) := by decide +kernel
theorem dX0_lay_147 : decode cX0_lay 147 = .ok (.getfield 63, 3) := by decide +kernel
theorem dX0_lay_150 : decode cX0_lay 150 = .ok (.iload_n 2, 1) := by decide +kernel
theorem dX0_lay_151 : decode cX0_lay 151 = .ok (.iaload, 1) := by decide +kernel
theorem dX0_lay_152 : decode cX0_lay 152 = .ok (.i2l, 1) := by decide +kernel
theorem dX0_lay_153 : decode cX0_lay 153 = .ok (.lsub, 1) := by decide +kernel
theorem dX0_lay_154 : decode cX0_lay 154 = .ok (.lastore, 1) := by decide +kernel
theorem dX0_lay_155 : decode cX0_lay 155 = .ok (.iinc 2 1, 3) := by decide +kernel
theorem dX0_lay_158 : decode cX0_lay 158 = .ok (.goto (-102), 3) := by decide +kernel
theorem dX0_lay_161 : decode cX0_lay 161 = .ok (.return_, 1) := by decide +kernel
theorem dX0_takeOutAllBut_0 : decode cX0_takeOutAllBut 0 = .ok (.aload_n 0, 1) := by decide +kernel
theorem dX0_takeOutAllBut_1 : decode cX0_takeOutAllBut 1 = .ok (.getfield 9, 3) := by decide +kernel
theorem dX0_takeOutAllBut_4 : decode cX0_takeOutAllBut 4 = .ok (.iconst 1, 1) := by decide +kernel
theorem dX0_takeOutAllBut_5 : decode cX0_takeOutAllBut 5 = .ok (.isub, 1) := by decide +kernel
theorem dX0_takeOutAllBut_6 : decode cX0_takeOutAllBut 6 = .ok (.istore_n 2, 1) := by decide +kernel
theorem dX0_takeOutAllBut_7 : decode cX0_takeOutAllBut 7 = .ok (.iload_n 2, 1) := by decide +kernel
theorem dX0_takeOutAllBut_8 : decode cX0_takeOutAllBut 8 = .ok (.ifCond .lt 27, 3) := by decide +kernel
theorem dX0_takeOutAllBut_11 : decode cX0_takeOutAllBut 11 = .ok (.iload_n 1, 1) := by decide +kernel
theorem dX0_takeOutAllBut_12 : decode cX0_takeOutAllBut 12 = .ok (.iload_n 2, 1) := by decide +kernel
theorem dX0_takeOutAllBut_13 : decode cX0_takeOutAllBut 13 = .ok (.invokestatic 66, 3) := by decide +kernel
theorem dX0_takeOutAllBut_16 : decode cX0_takeOutAllBut 16 = .ok (.ifCond .ne 13, 3) := by decide +kernel
theorem dX0_takeOutAllBut_19 : decode cX0_takeOutAllBut 19 = .ok (.aload_n 0, 1) := by decide +kernel
theorem dX0_takeOutAllBut_20 : decode cX0_takeOutAllBut 20 = .ok (.iload_n 2, 1) := by decide +kernel
theorem dX0_takeOutAllBut_21 : decode cX0_takeOutAllBut 21 = .ok (.invokevirtual 70, 3) := by decide +kernel
theorem dX0_takeOutAllBut_24 : decode cX0_takeOutAllBut 24 = .ok (.ifCond .ne 5, 3) := by decide +kernel
theorem dX0_takeOutAllBut_27 : decode cX0_takeOutAllBut 27 = .ok (.iconst 0, 1) := by decide +kernel
theorem dX0_takeOutAllBut_28 : decode cX0_takeOutAllBut 28 = .ok (.ireturn, 1) := by decide +kernel
theorem dX0_takeOutAllBut_29 : decode cX0_takeOutAllBut 29 = .ok (.iinc 2 (-1), 3) := by decide +kernel
theorem dX0_takeOutAllBut_32 : decode cX0_takeOutAllBut 32 = .ok (.goto (-25), 3) := by decide +kernel
theorem dX0_takeOutAllBut_35 : decode cX0_takeOutAllBut 35 = .ok (.iconst 1, 1) := by decide +kernel
theorem dX0_takeOutAllBut_36 : decode cX0_takeOutAllBut 36 = .ok (.ireturn, 1) := by decide +kernel
theorem dX0_takeOut_0 : decode cX0_takeOut 0 = .ok (.aload_n 0, 1) := by decide +kernel
theorem dX0_takeOut_1 : decode cX0_takeOut 1 = .ok (.getfield 21, 3) := by decide +kernel
theorem dX0_takeOut_4 : decode cX0_takeOut 4 = .ok (.iload_n 1, 1) := by decide +kernel
theorem dX0_takeOut_5 : decode cX0_takeOut 5 = .ok (.aaload, 1) := by decide +kernel
theorem dX0_takeOut_6 : decode cX0_takeOut 6 = .ok (.iload_n 1, 1) := by decide +kernel
theorem dX0_takeOut_7 : decode cX0_takeOut 7 = .ok (.laload, 1) := by decide +kernel
theorem dX0_takeOut_8 : decode cX0_takeOut 8 = .ok (.lstore_n 2, 1) := by decide +kernel
theorem dX0_takeOut_9 : decode cX0_takeOut 9 = .ok (.lload_n 2, 1) := by decide +kernel
theorem dX0_takeOut_10 : decode cX0_takeOut 10 = .ok (.lconst 0, 1) := by decide +kernel
theorem dX0_takeOut_11 : decode cX0_takeOut 11 = .ok (.lcmp, 1) := by decide +kernel
theorem dX0_takeOut_12 : decode cX0_takeOut 12 = .ok (.ifCond .le 12, 3) := by decide +kernel
theorem dX0_takeOut_15 : decode cX0_takeOut 15 = .ok (.aload_n 0, 1) := by decide +kernel
theorem dX0_takeOut_16 : decode cX0_takeOut 16 = .ok (.getfield 15, 3) := by decide +kernel
theorem dX0_takeOut_19 : decode cX0_takeOut 19 = .ok (.lconst 0, 1) := by decide +kernel
theorem dX0_takeOut_20 : decode cX0_takeOut 20 = .ok (.lcmp, 1) := by decide +kernel
theorem dX0_takeOut_21 : decode cX0_takeOut 21 = .ok (.ifCond .gt 5, 3) := by decide +kernel
theorem dX0_takeOut_24 : decode cX0_takeOut 24 = .ok (.iconst 0, 1) := by decide +kernel
theorem dX0_takeOut_25 : decode cX0_takeOut 25 = .ok (.ireturn, 1) := by decide +kernel
theorem dX0_takeOut_26 : decode cX0_takeOut 26 = .ok (.iconst 0, 1) := by decide +kernel
theorem dX0_takeOut_27 : decode cX0_takeOut 27 = .ok (.istore 4, 2) := by decide +kernel
theorem dX0_takeOut_29 : decode cX0_takeOut 29 = .ok (.iload 4, 2) := by decide +kernel
theorem dX0_takeOut_31 : decode cX0_takeOut 31 = .ok (.aload_n 0, 1) := by decide +kernel
theorem dX0_takeOut_32 : decode cX0_takeOut 32 = .ok (.getfield 9, 3) := by decide +kernel
theorem dX0_takeOut_35 : decode cX0_takeOut 35 = .ok (.if_icmp .ge 86, 3) := by decide +kernel
theorem dX0_takeOut_38 : decode cX0_takeOut 38 = .ok (.iconst 0, 1) := by decide +kernel
theorem dX0_takeOut_39 : decode cX0_takeOut 39 = .ok (.istore 5, 2) := by decide +kernel
theorem dX0_takeOut_41 : decode cX0_takeOut 41 = .ok (.iload 5, 2) := by decide +kernel
theorem dX0_takeOut_43 : decode cX0_takeOut 43 = .ok (.aload_n 0, 1) := by decide +kernel
theorem dX0_takeOut_44 : decode cX0_takeOut 44 = .ok (.getfield 9, 3) := by decide +kernel
theorem dX0_takeOut_47 : decode cX0_takeOut 47 = .ok (.if_icmp .ge 68, 3) := by decide +kernel
theorem dX0_takeOut_50 : decode cX0_takeOut 50 = .ok (.iload 4, 2) := by decide +kernel
theorem dX0_takeOut_52 : decode cX0_takeOut 52 = .ok (.iload_n 1, 1) := by decide +kernel
theorem dX0_takeOut_53 : decode cX0_takeOut 53 = .ok (.if_icmp .eq 56, 3) := by decide +kernel
theorem dX0_takeOut_56 : decode cX0_takeOut 56 = .ok (.iload 5, 2) := by decide +kernel
theorem dX0_takeOut_58 : decode cX0_takeOut 58 = .ok (.iload_n 1, 1) := by decide +kernel
theorem dX0_takeOut_59 : decode cX0_takeOut 59 = .ok (.if_icmp .eq 50, 3) := by decide +kernel
theorem dX0_takeOut_62 : decode cX0_takeOut 62 = .ok (.aload_n 0, 1) := by decide +kernel
theorem dX0_takeOut_63 : decode cX0_takeOut 63 = .ok (.getfield 21, 3) := by decide +kernel
theorem dX0_takeOut_66 : decode cX0_takeOut 66 = .ok (.iload 4, 2) := by decide +kernel
theorem dX0_takeOut_68 : decode cX0_takeOut 68 = .ok (.aaload, 1) := by decide +kernel
theorem dX0_takeOut_69 : decode cX0_takeOut 69 = .ok (.iload 5, 2) := by decide +kernel
theorem dX0_takeOut_71 : decode cX0_takeOut 71 = .ok (.aload_n 0, 1) := by decide +kernel
theorem dX0_takeOut_72 : decode cX0_takeOut 72 = .ok (.getfield 21, 3) := by decide +kernel
theorem dX0_takeOut_75 : decode cX0_takeOut 75 = .ok (.iload 4, 2) := by decide +kernel
theorem dX0_takeOut_77 : decode cX0_takeOut 77 = .ok (.aaload, 1) := by decide +kernel
theorem dX0_takeOut_78 : decode cX0_takeOut 78 = .ok (.iload 5, 2) := by decide +kernel
theorem dX0_takeOut_80 : decode cX0_takeOut 80 = .ok (.laload, 1) := by decide +kernel
theorem dX0_takeOut_81 : decode cX0_takeOut 81 = .ok (.lload_n 2, 1) := by decide +kernel
theorem dX0_takeOut_82 : decode cX0_takeOut 82 = .ok (.lmul, 1) := by decide +kernel
theorem dX0_takeOut_83 : decode cX0_takeOut 83 = .ok (.aload_n 0, 1) := by decide +kernel
theorem dX0_takeOut_84 : decode cX0_takeOut 84 = .ok (.getfield 21, 3) := by decide +kernel
theorem dX0_takeOut_87 : decode cX0_takeOut 87 = .ok (.iload 4, 2) := by decide +kernel
theorem dX0_takeOut_89 : decode cX0_takeOut 89 = .ok (.aaload, 1) := by decide +kernel
theorem dX0_takeOut_90 : decode cX0_takeOut 90 = .ok (.iload_n 1, 1) := by decide +kernel
theorem dX0_takeOut_91 : decode cX0_takeOut 91 = .ok (.laload, 1) := by decide +kernel
theorem dX0_takeOut_92 : decode cX0_takeOut 92 = .ok (.aload_n 0, 1) := by decide +kernel
theorem dX0_takeOut_93 : decode cX0_takeOut 93 = .ok (.getfield 21, 3) := by decide +kernel
theorem dX0_takeOut_96 : decode cX0_takeOut 96 = .ok (.iload_n 1, 1) := by decide +kernel
theorem dX0_takeOut_97 : decode cX0_takeOut 97 = .ok (.aaload, 1) := by decide +kernel
theorem dX0_takeOut_98 : decode cX0_takeOut 98 = .ok (.iload 5, 2) := by decide +kernel
theorem dX0_takeOut_100 : decode cX0_takeOut 100 = .ok (.laload, 1) := by decide +kernel
theorem dX0_takeOut_101 : decode cX0_takeOut 101 = .ok (.lmul, 1) := by decide +kernel
theorem dX0_takeOut_102 : decode cX0_takeOut 102 = .ok (.lsub, 1) := by decide +kernel
theorem dX0_takeOut_103 : decode cX0_takeOut 103 = .ok (.aload_n 0, 1) := by decide +kernel
theorem dX0_takeOut_104 : decode cX0_takeOut 104 = .ok (.getfield 15, 3) := by decide +kernel
theorem dX0_takeOut_107 : decode cX0_takeOut 107 = .ok (.ldiv, 1) := by decide +kernel
theorem dX0_takeOut_108 : decode cX0_takeOut 108 = .ok (.lastore, 1) := by decide +kernel
theorem dX0_takeOut_109 : decode cX0_takeOut 109 = .ok (.iinc 5 1, 3) := by decide +kernel
theorem dX0_takeOut_112 : decode cX0_takeOut 112 = .ok (.goto (-71), 3) := by decide +kernel
theorem dX0_takeOut_115 : decode cX0_takeOut 115 = .ok (.iinc 4 1, 3) := by decide +kernel
theorem dX0_takeOut_118 : decode cX0_takeOut 118 = .ok (.goto (-89), 3) := by decide +kernel
theorem dX0_takeOut_121 : decode cX0_takeOut 121 = .ok (.iconst 0, 1) := by decide +kernel
theorem dX0_takeOut_122 : decode cX0_takeOut 122 = .ok (.istore 4, 2) := by decide +kernel
theorem dX0_takeOut_124 : decode cX0_takeOut 124 = .ok (.iload 4, 2) := by decide +kernel
theorem dX0_takeOut_126 : decode cX0_takeOut 126 = .ok (.aload_n 0, 1) := by decide +kernel
theorem dX0_takeOut_127 : decode cX0_takeOut 127 = .ok (.getfield 9, 3) := by decide +kernel
theorem dX0_takeOut_130 : decode cX0_takeOut 130 = .ok (.if_icmp .ge 28, 3) := by decide +kernel
theorem dX0_takeOut_133 : decode cX0_takeOut 133 = .ok (.aload_n 0, 1) := by decide +kernel
theorem dX0_takeOut_134 : decode cX0_takeOut 134 = .ok (.getfield 21, 3) := by decide +kernel
theorem dX0_takeOut_137 : decode cX0_takeOut 137 = .ok (.iload_n 1, 1) := by decide +kernel
theorem dX0_takeOut_138 : decode cX0_takeOut 138 = .ok (.aaload, 1) := by decide +kernel
theorem dX0_takeOut_139 : decode cX0_takeOut 139 = .ok (.iload 4, 2) := by decide +kernel
theorem dX0_takeOut_141 : decode cX0_takeOut 141 = .ok (.aload_n 0, 1) := by decide +kernel
theorem dX0_takeOut_142 : decode cX0_takeOut 142 = .ok (.getfield 21, 3) := by decide +kernel
theorem dX0_takeOut_145 : decode cX0_takeOut 145 = .ok (.iload_n 1, 1) := by decide +kernel
theorem dX0_takeOut_146 : decode cX0_takeOut 146 = .ok (.aaload, 1) := by decide +kernel
theorem dX0_takeOut_147 : decode cX0_takeOut 147 = .ok (.iload 4, 2) := by decide +kernel
theorem dX0_takeOut_149 : decode cX0_takeOut 149 = .ok (.laload, 1) := by decide +kernel
theorem dX0_takeOut_150 : decode cX0_takeOut 150 = .ok (.lneg, 1) := by decide +kernel
theorem dX0_takeOut_151 : decode cX0_takeOut 151 = .ok (.lastore, 1) := by decide +kernel
theorem dX0_takeOut_152 : decode cX0_takeOut 152 = .ok (.iinc 4 1, 3) := by decide +kernel
theorem dX0_takeOut_155 : decode cX0_takeOut 155 = .ok (.goto (-31), 3) := by decide +kernel
theorem dX0_takeOut_158 : decode cX0_takeOut 158 = .ok (.aload_n 0, 1) := by decide +kernel
theorem dX0_takeOut_159 : decode cX0_takeOut 159 = .ok (.getfield 21, 3) := by decide +kernel
theorem dX0_takeOut_162 : decode cX0_takeOut 162 = .ok (.iload_n 1, 1) := by decide +kernel
theorem dX0_takeOut_163 : decode cX0_takeOut 163 = .ok (.aaload, 1) := by decide +kernel
theorem dX0_takeOut_164 : decode cX0_takeOut 164 = .ok (.iload_n 1, 1) := by decide +kernel
theorem dX0_takeOut_165 : decode cX0_takeOut 165 = .ok (.aload_n 0, 1) := by decide +kernel
theorem dX0_takeOut_166 : decode cX0_takeOut 166 = .ok (.getfield 15, 3) := by decide +kernel
theorem dX0_takeOut_169 : decode cX0_takeOut 169 = .ok (.lastore, 1) := by decide +kernel
theorem dX0_takeOut_170 : decode cX0_takeOut 170 = .ok (.aload_n 0, 1) := by decide +kernel
theorem dX0_takeOut_171 : decode cX0_takeOut 171 = .ok (.lload_n 2, 1) := by decide +kernel
theorem dX0_takeOut_172 : decode cX0_takeOut 172 = .ok (.putfield 15, 3) := by decide +kernel
theorem dX0_takeOut_175 : decode cX0_takeOut 175 = .ok (.iconst 1, 1) := by decide +kernel
theorem dX0_takeOut_176 : decode cX0_takeOut 176 = .ok (.ireturn, 1) := by decide +kernel
theorem dX0_forget_0 : decode cX0_forget 0 = .ok (.iconst 0, 1) := by decide +kernel
theorem dX0_forget_1 : decode cX0_forget 1 = .ok (.istore_n 2, 1) := by decide +kernel
theorem dX0_forget_2 : decode cX0_forget 2 = .ok (.iload_n 2, 1) := by decide +kernel
theorem dX0_forget_3 : decode cX0_forget 3 = .ok (.aload_n 0, 1) := by decide +kernel
theorem dX0_forget_4 : decode cX0_forget 4 = .ok (.getfield 9, 3) := by decide +kernel
theorem dX0_forget_7 : decode cX0_forget 7 = .ok (.if_icmp .ge 50, 3) := by decide +kernel
theorem dX0_forget_10 : decode cX0_forget 10 = .ok (.iconst 0, 1) := by decide +kernel
theorem dX0_forget_11 : decode cX0_forget 11 = .ok (.istore_n 3, 1) := by decide +kernel
theorem dX0_forget_12 : decode cX0_forget 12 = .ok (.iload_n 3, 1) := by decide +kernel
theorem dX0_forget_13 : decode cX0_forget 13 = .ok (.aload_n 0, 1) := by decide +kernel
theorem dX0_forget_14 : decode cX0_forget 14 = .ok (.getfield 9, 3) := by decide +kernel
theorem dX0_forget_17 : decode cX0_forget 17 = .ok (.if_icmp .ge 34, 3) := by decide +kernel
theorem dX0_forget_20 : decode cX0_forget 20 = .ok (.iload_n 1, 1) := by decide +kernel
theorem dX0_forget_21 : decode cX0_forget 21 = .ok (.iload_n 2, 1) := by decide +kernel
theorem dX0_forget_22 : decode cX0_forget 22 = .ok (.invokestatic 66, 3) := by decide +kernel
theorem dX0_forget_25 : decode cX0_forget 25 = .ok (.ifCond .ne 11, 3) := by decide +kernel
theorem dX0_forget_28 : decode cX0_forget 28 = .ok (.iload_n 1, 1) := by decide +kernel
theorem dX0_forget_29 : decode cX0_forget 29 = .ok (.iload_n 3, 1) := by decide +kernel
theorem dX0_forget_30 : decode cX0_forget 30 = .ok (.invokestatic 66, 3) := by decide +kernel
theorem dX0_forget_33 : decode cX0_forget 33 = .ok (.ifCond .eq 12, 3) := by decide +kernel
theorem dX0_forget_36 : decode cX0_forget 36 = .ok (.aload_n 0, 1) := by decide +kernel
theorem dX0_forget_37 : decode cX0_forget 37 = .ok (.getfield 21, 3) := by decide +kernel
theorem dX0_forget_40 : decode cX0_forget 40 = .ok (.iload_n 2, 1) := by decide +kernel
theorem dX0_forget_41 : decode cX0_forget 41 = .ok (.aaload, 1) := by decide +kernel
theorem dX0_forget_42 : decode cX0_forget 42 = .ok (.iload_n 3, 1) := by decide +kernel
theorem dX0_forget_43 : decode cX0_forget 43 = .ok (.lconst 0, 1) := by decide +kernel
theorem dX0_forget_44 : decode cX0_forget 44 = .ok (.lastore, 1) := by decide +kernel
theorem dX0_forget_45 : decode cX0_forget 45 = .ok (.iinc 3 1, 3) := by decide +kernel
theorem dX0_forget_48 : decode cX0_forget 48 = .ok (.goto (-36), 3) := by decide +kernel
theorem dX0_forget_51 : decode cX0_forget 51 = .ok (.iinc 2 1, 3) := by decide +kernel
theorem dX0_forget_54 : decode cX0_forget 54 = .ok (.goto (-52), 3) := by decide +kernel
theorem dX0_forget_57 : decode cX0_forget 57 = .ok (.return_, 1) := by decide +kernel
theorem dX0_weigh_0 : decode cX0_weigh 0 = .ok (.iconst 0, 1) := by decide +kernel
theorem dX0_weigh_1 : decode cX0_weigh 1 = .ok (.istore_n 2, 1) := by decide +kernel
theorem dX0_weigh_2 : decode cX0_weigh 2 = .ok (.iload_n 2, 1) := by decide +kernel
theorem dX0_weigh_3 : decode cX0_weigh 3 = .ok (.aload_n 0, 1) := by decide +kernel
theorem dX0_weigh_4 : decode cX0_weigh 4 = .ok (.getfield 9, 3) := by decide +kernel
theorem dX0_weigh_7 : decode cX0_weigh 7 = .ok (.if_icmp .ge 54, 3) := by decide +kernel
theorem dX0_weigh_10 : decode cX0_weigh 10 = .ok (.lconst 0, 1) := by decide +kernel
theorem dX0_weigh_11 : decode cX0_weigh 11 = .ok (.lstore_n 3, 1) := by decide +kernel
theorem dX0_weigh_12 : decode cX0_weigh 12 = .ok (.iconst 0, 1) := by decide +kernel
theorem dX0_weigh_13 : decode cX0_weigh 13 = .ok (.istore 5, 2) := by decide +kernel
theorem dX0_weigh_15 : decode cX0_weigh 15 = .ok (.iload 5, 2) := by decide +kernel
theorem dX0_weigh_17 : decode cX0_weigh 17 = .ok (.aload_n 0, 1) := by decide +kernel
theorem dX0_weigh_18 : decode cX0_weigh 18 = .ok (.getfield 9, 3) := by decide +kernel
theorem dX0_weigh_21 : decode cX0_weigh 21 = .ok (.if_icmp .ge 27, 3) := by decide +kernel
theorem dX0_weigh_24 : decode cX0_weigh 24 = .ok (.lload_n 3, 1) := by decide +kernel
theorem dX0_weigh_25 : decode cX0_weigh 25 = .ok (.aload_n 0, 1) := by decide +kernel
theorem dX0_weigh_26 : decode cX0_weigh 26 = .ok (.getfield 21, 3) := by decide +kernel
theorem dX0_weigh_29 : decode cX0_weigh 29 = .ok (.iload_n 2, 1) := by decide +kernel
theorem dX0_weigh_30 : decode cX0_weigh 30 = .ok (.aaload, 1) := by decide +kernel
theorem dX0_weigh_31 : decode cX0_weigh 31 = .ok (.iload 5, 2) := by decide +kernel
theorem dX0_weigh_33 : decode cX0_weigh 33 = .ok (.laload, 1) := by decide +kernel
theorem dX0_weigh_34 : decode cX0_weigh 34 = .ok (.aload_n 1, 1) := by decide +kernel
theorem dX0_weigh_35 : decode cX0_weigh 35 = .ok (.iload 5, 2) := by decide +kernel
theorem dX0_weigh_37 : decode cX0_weigh 37 = .ok (.iaload, 1) := by decide +kernel
theorem dX0_weigh_38 : decode cX0_weigh 38 = .ok (.i2l, 1) := by decide +kernel
theorem dX0_weigh_39 : decode cX0_weigh 39 = .ok (.lmul, 1) := by decide +kernel
theorem dX0_weigh_40 : decode cX0_weigh 40 = .ok (.ladd, 1) := by decide +kernel
theorem dX0_weigh_41 : decode cX0_weigh 41 = .ok (.lstore_n 3, 1) := by decide +kernel
theorem dX0_weigh_42 : decode cX0_weigh 42 = .ok (.iinc 5 1, 3) := by decide +kernel
theorem dX0_weigh_45 : decode cX0_weigh 45 = .ok (.goto (-30), 3) := by decide +kernel
theorem dX0_weigh_48 : decode cX0_weigh 48 = .ok (.aload_n 0, 1) := by decide +kernel
theorem dX0_weigh_49 : decode cX0_weigh 49 = .ok (.getfield 24, 3) := by decide +kernel
theorem dX0_weigh_52 : decode cX0_weigh 52 = .ok (.iload_n 2, 1) := by decide +kernel
theorem dX0_weigh_53 : decode cX0_weigh 53 = .ok (.lload_n 3, 1) := by decide +kernel
theorem dX0_weigh_54 : decode cX0_weigh 54 = .ok (.lastore, 1) := by decide +kernel
theorem dX0_weigh_55 : decode cX0_weigh 55 = .ok (.iinc 2 1, 3) := by decide +kernel
theorem dX0_weigh_58 : decode cX0_weigh 58 = .ok (.goto (-56), 3) := by decide +kernel
theorem dX0_weigh_61 : decode cX0_weigh 61 = .ok (.return_, 1) := by decide +kernel
theorem dX0_highest_0 : decode cX0_highest 0 = .ok (.iconst 0, 1) := by decide +kernel
theorem dX0_highest_1 : decode cX0_highest 1 = .ok (.istore_n 1, 1) := by decide +kernel
theorem dX0_highest_2 : decode cX0_highest 2 = .ok (.iconst 1, 1) := by decide +kernel
theorem dX0_highest_3 : decode cX0_highest 3 = .ok (.istore_n 2, 1) := by decide +kernel
theorem dX0_highest_4 : decode cX0_highest 4 = .ok (.iload_n 2, 1) := by decide +kernel
theorem dX0_highest_5 : decode cX0_highest 5 = .ok (.aload_n 0, 1) := by decide +kernel
theorem dX0_highest_6 : decode cX0_highest 6 = .ok (.getfield 9, 3) := by decide +kernel
theorem dX0_highest_9 : decode cX0_highest 9 = .ok (.if_icmp .ge 27, 3) := by decide +kernel
theorem dX0_highest_12 : decode cX0_highest 12 = .ok (.aload_n 0, 1) := by decide +kernel
theorem dX0_highest_13 : decode cX0_highest 13 = .ok (.getfield 24, 3) := by decide +kernel
theorem dX0_highest_16 : decode cX0_highest 16 = .ok (.iload_n 2, 1) := by decide +kernel
theorem dX0_highest_17 : decode cX0_highest 17 = .ok (.laload, 1) := by decide +kernel
theorem dX0_highest_18 : decode cX0_highest 18 = .ok (.aload_n 0, 1) := by decide +kernel
theorem dX0_highest_19 : decode cX0_highest 19 = .ok (.getfield 24, 3) := by decide +kernel
theorem dX0_highest_22 : decode cX0_highest 22 = .ok (.iload_n 1, 1) := by decide +kernel
theorem dX0_highest_23 : decode cX0_highest 23 = .ok (.laload, 1) := by decide +kernel
theorem dX0_highest_24 : decode cX0_highest 24 = .ok (.lcmp, 1) := by decide +kernel
theorem dX0_highest_25 : decode cX0_highest 25 = .ok (.ifCond .le 5, 3) := by decide +kernel
theorem dX0_highest_28 : decode cX0_highest 28 = .ok (.iload_n 2, 1) := by decide +kernel
theorem dX0_highest_29 : decode cX0_highest 29 = .ok (.istore_n 1, 1) := by decide +kernel
theorem dX0_highest_30 : decode cX0_highest 30 = .ok (.iinc 2 1, 3) := by decide +kernel
theorem dX0_highest_33 : decode cX0_highest 33 = .ok (.goto (-29), 3) := by decide +kernel
theorem dX0_highest_36 : decode cX0_highest 36 = .ok (.iload_n 1, 1) := by decide +kernel
theorem dX0_highest_37 : decode cX0_highest 37 = .ok (.ireturn, 1) := by decide +kernel
theorem dX0_highestAbove_0 : decode cX0_highestAbove 0 = .ok (.aload_n 0, 1) := by decide +kernel
theorem dX0_highestAbove_1 : decode cX0_highestAbove 1 = .ok (.getfield 24, 3) := by decide +kernel
theorem dX0_highestAbove_4 : decode cX0_highestAbove 4 = .ok (.aload_n 0, 1) := by decide +kernel
theorem dX0_highestAbove_5 : decode cX0_highestAbove 5 = .ok (.invokevirtual 73, 3) := by decide +kernel
theorem dX0_highestAbove_8 : decode cX0_highestAbove 8 = .ok (.laload, 1) := by decide +kernel
theorem dX0_highestAbove_9 : decode cX0_highestAbove 9 = .ok (.lreturn, 1) := by decide +kernel
theorem dX0_isWithin_0 : decode cX0_isWithin 0 = .ok (.aload_n 0, 1) := by decide +kernel
theorem dX0_isWithin_1 : decode cX0_isWithin 1 = .ok (.invokevirtual 77, 3) := by decide +kernel
theorem dX0_isWithin_4 : decode cX0_isWithin 4 = .ok (.iload_n 1, 1) := by decide +kernel
theorem dX0_isWithin_5 : decode cX0_isWithin 5 = .ok (.i2l, 1) := by decide +kernel
theorem dX0_isWithin_6 : decode cX0_isWithin 6 = .ok (.aload_n 0, 1) := by decide +kernel
theorem dX0_isWithin_7 : decode cX0_isWithin 7 = .ok (.getfield 15, 3) := by decide +kernel
theorem dX0_isWithin_10 : decode cX0_isWithin 10 = .ok (.lmul, 1) := by decide +kernel
theorem dX0_isWithin_11 : decode cX0_isWithin 11 = .ok (.lcmp, 1) := by decide +kernel
theorem dX0_isWithin_12 : decode cX0_isWithin 12 = .ok (.ifCond .gt 7, 3) := by decide +kernel
theorem dX0_isWithin_15 : decode cX0_isWithin 15 = .ok (.iconst 1, 1) := by decide +kernel
theorem dX0_isWithin_16 : decode cX0_isWithin 16 = .ok (.goto 4, 3) := by decide +kernel
theorem dX0_isWithin_19 : decode cX0_isWithin 19 = .ok (.iconst 0, 1) := by decide +kernel
theorem dX0_isWithin_20 : decode cX0_isWithin 20 = .ok (.ireturn, 1) := by decide +kernel
theorem dX0_alter_0 : decode cX0_alter 0 = .ok (.aload_n 0, 1) := by decide +kernel
theorem dX0_alter_1 : decode cX0_alter 1 = .ok (.aload_n 1, 1) := by decide +kernel
theorem dX0_alter_2 : decode cX0_alter 2 = .ok (.getfield 9, 3) := by decide +kernel
theorem dX0_alter_5 : decode cX0_alter 5 = .ok (.putfield 9, 3) := by decide +kernel
theorem dX0_alter_8 : decode cX0_alter 8 = .ok (.iconst 0, 1) := by decide +kernel
theorem dX0_alter_9 : decode cX0_alter 9 = .ok (.istore 5, 2) := by decide +kernel
theorem dX0_alter_11 : decode cX0_alter 11 = .ok (.iload 5, 2) := by decide +kernel
theorem dX0_alter_13 : decode cX0_alter 13 = .ok (.aload_n 0, 1) := by decide +kernel
theorem dX0_alter_14 : decode cX0_alter 14 = .ok (.getfield 9, 3) := by decide +kernel
theorem dX0_alter_17 : decode cX0_alter 17 = .ok (.if_icmp .ge 35, 3) := by decide +kernel
theorem dX0_alter_20 : decode cX0_alter 20 = .ok (.aload_n 0, 1) := by decide +kernel
theorem dX0_alter_21 : decode cX0_alter 21 = .ok (.getfield 28, 3) := by decide +kernel
theorem dX0_alter_24 : decode cX0_alter 24 = .ok (.iload 5, 2) := by decide +kernel
theorem dX0_alter_26 : decode cX0_alter 26 = .ok (.aload_n 1, 1) := by decide +kernel
theorem dX0_alter_27 : decode cX0_alter 27 = .ok (.getfield 21, 3) := by decide +kernel
theorem dX0_alter_30 : decode cX0_alter 30 = .ok (.iload 5, 2) := by decide +kernel
theorem dX0_alter_32 : decode cX0_alter 32 = .ok (.aaload, 1) := by decide +kernel
theorem dX0_alter_33 : decode cX0_alter 33 = .ok (.iload_n 2, 1) := by decide +kernel
theorem dX0_alter_34 : decode cX0_alter 34 = .ok (.laload, 1) := by decide +kernel
theorem dX0_alter_35 : decode cX0_alter 35 = .ok (.aload_n 1, 1) := by decide +kernel
theorem dX0_alter_36 : decode cX0_alter 36 = .ok (.getfield 21, 3) := by decide +kernel
theorem dX0_alter_39 : decode cX0_alter 39 = .ok (.iload 5, 2) := by decide +kernel
theorem dX0_alter_41 : decode cX0_alter 41 = .ok (.aaload, 1) := by decide +kernel
theorem dX0_alter_42 : decode cX0_alter 42 = .ok (.iload_n 3, 1) := by decide +kernel
theorem dX0_alter_43 : decode cX0_alter 43 = .ok (.laload, 1) := by decide +kernel
theorem dX0_alter_44 : decode cX0_alter 44 = .ok (.lsub, 1) := by decide +kernel
theorem dX0_alter_45 : decode cX0_alter 45 = .ok (.lastore, 1) := by decide +kernel
theorem dX0_alter_46 : decode cX0_alter 46 = .ok (.iinc 5 1, 3) := by decide +kernel
theorem dX0_alter_49 : decode cX0_alter 49 = .ok (.goto (-38), 3) := by decide +kernel
theorem dX0_alter_52 : decode cX0_alter 52 = .ok (.aload_n 0, 1) := by decide +kernel
theorem dX0_alter_53 : decode cX0_alter 53 = .ok (.aload_n 1, 1) := by decide +kernel
theorem dX0_alter_54 : decode cX0_alter 54 = .ok (.getfield 15, 3) := by decide +kernel
theorem dX0_alter_57 : decode cX0_alter 57 = .ok (.iload 4, 2) := by decide +kernel
theorem dX0_alter_59 : decode cX0_alter 59 = .ok (.i2l, 1) := by decide +kernel
theorem dX0_alter_60 : decode cX0_alter 60 = .ok (.aload_n 0, 1) := by decide +kernel
theorem dX0_alter_61 : decode cX0_alter 61 = .ok (.getfield 28, 3) := by decide +kernel
theorem dX0_alter_64 : decode cX0_alter 64 = .ok (.iload_n 2, 1) := by decide +kernel
theorem dX0_alter_65 : decode cX0_alter 65 = .ok (.laload, 1) := by decide +kernel
theorem dX0_alter_66 : decode cX0_alter 66 = .ok (.aload_n 0, 1) := by decide +kernel
theorem dX0_alter_67 : decode cX0_alter 67 = .ok (.getfield 28, 3) := by decide +kernel
theorem dX0_alter_70 : decode cX0_alter 70 = .ok (.iload_n 3, 1) := by decide +kernel
theorem dX0_alter_71 : decode cX0_alter 71 = .ok (.laload, 1) := by decide +kernel
theorem dX0_alter_72 : decode cX0_alter 72 = .ok (.lsub, 1) := by decide +kernel
theorem dX0_alter_73 : decode cX0_alter 73 = .ok (.lmul, 1) := by decide +kernel
theorem dX0_alter_74 : decode cX0_alter 74 = .ok (.ladd, 1) := by decide +kernel
theorem dX0_alter_75 : decode cX0_alter 75 = .ok (.putfield 15, 3) := by decide +kernel
theorem dX0_alter_78 : decode cX0_alter 78 = .ok (.aload_n 0, 1) := by decide +kernel
theorem dX0_alter_79 : decode cX0_alter 79 = .ok (.getfield 15, 3) := by decide +kernel
theorem dX0_alter_82 : decode cX0_alter 82 = .ok (.lconst 0, 1) := by decide +kernel
theorem dX0_alter_83 : decode cX0_alter 83 = .ok (.lcmp, 1) := by decide +kernel
theorem dX0_alter_84 : decode cX0_alter 84 = .ok (.ifCond .le 12, 3) := by decide +kernel
theorem dX0_alter_87 : decode cX0_alter 87 = .ok (.aload_n 1, 1) := by decide +kernel
theorem dX0_alter_88 : decode cX0_alter 88 = .ok (.getfield 15, 3) := by decide +kernel
theorem dX0_alter_91 : decode cX0_alter 91 = .ok (.lconst 0, 1) := by decide +kernel
theorem dX0_alter_92 : decode cX0_alter 92 = .ok (.lcmp, 1) := by decide +kernel
theorem dX0_alter_93 : decode cX0_alter 93 = .ok (.ifCond .gt 5, 3) := by decide +kernel
theorem dX0_alter_96 : decode cX0_alter 96 = .ok (.iconst 0, 1) := by decide +kernel
theorem dX0_alter_97 : decode cX0_alter 97 = .ok (.ireturn, 1) := by decide +kernel
theorem dX0_alter_98 : decode cX0_alter 98 = .ok (.aload_n 1, 1) := by decide +kernel
theorem dX0_alter_99 : decode cX0_alter 99 = .ok (.getfield 24, 3) := by decide +kernel
theorem dX0_alter_102 : decode cX0_alter 102 = .ok (.iload_n 2, 1) := by decide +kernel
theorem dX0_alter_103 : decode cX0_alter 103 = .ok (.laload, 1) := by decide +kernel
theorem dX0_alter_104 : decode cX0_alter 104 = .ok (.aload_n 1, 1) := by decide +kernel
theorem dX0_alter_105 : decode cX0_alter 105 = .ok (.getfield 24, 3) := by decide +kernel
theorem dX0_alter_108 : decode cX0_alter 108 = .ok (.iload_n 3, 1) := by decide +kernel
theorem dX0_alter_109 : decode cX0_alter 109 = .ok (.laload, 1) := by decide +kernel
theorem dX0_alter_110 : decode cX0_alter 110 = .ok (.lsub, 1) := by decide +kernel
theorem dX0_alter_111 : decode cX0_alter 111 = .ok (.lstore 5, 2) := by decide +kernel
theorem dX0_alter_113 : decode cX0_alter 113 = .ok (.iconst 0, 1) := by decide +kernel
theorem dX0_alter_114 : decode cX0_alter 114 = .ok (.istore 7, 2) := by decide +kernel
theorem dX0_alter_116 : decode cX0_alter 116 = .ok (.iload 7, 2) := by decide +kernel
theorem dX0_alter_118 : decode cX0_alter 118 = .ok (.aload_n 0, 1) := by decide +kernel
theorem dX0_alter_119 : decode cX0_alter 119 = .ok (.getfield 9, 3) := by decide +kernel
theorem dX0_alter_122 : decode cX0_alter 122 = .ok (.if_icmp .ge 48, 3) := by decide +kernel
theorem dX0_alter_125 : decode cX0_alter 125 = .ok (.aload_n 0, 1) := by decide +kernel
theorem dX0_alter_126 : decode cX0_alter 126 = .ok (.getfield 24, 3) := by decide +kernel
theorem dX0_alter_129 : decode cX0_alter 129 = .ok (.iload 7, 2) := by decide +kernel
theorem dX0_alter_131 : decode cX0_alter 131 = .ok (.aload_n 1, 1) := by decide +kernel
theorem dX0_alter_132 : decode cX0_alter 132 = .ok (.getfield 24, 3) := by decide +kernel
theorem dX0_alter_135 : decode cX0_alter 135 = .ok (.iload 7, 2) := by decide +kernel
theorem dX0_alter_137 : decode cX0_alter 137 = .ok (.laload, 1) := by decide +kernel
theorem dX0_alter_138 : decode cX0_alter 138 = .ok (.aload_n 0, 1) := by decide +kernel
theorem dX0_alter_139 : decode cX0_alter 139 = .ok (.getfield 15, 3) := by decide +kernel
theorem dX0_alter_142 : decode cX0_alter 142 = .ok (.lmul, 1) := by decide +kernel
theorem dX0_alter_143 : decode cX0_alter 143 = .ok (.iload 4, 2) := by decide +kernel
theorem dX0_alter_145 : decode cX0_alter 145 = .ok (.i2l, 1) := by decide +kernel
theorem dX0_alter_146 : decode cX0_alter 146 = .ok (.aload_n 0, 1) := by decide +kernel
theorem dX0_alter_147 : decode cX0_alter 147 = .ok (.getfield 28, 3) := by decide +kernel
theorem dX0_alter_150 : decode cX0_alter 150 = .ok (.iload 7, 2) := by decide +kernel
theorem dX0_alter_152 : decode cX0_alter 152 = .ok (.laload, 1) := by decide +kernel
theorem dX0_alter_153 : decode cX0_alter 153 = .ok (.lmul, 1) := by decide +kernel
theorem dX0_alter_154 : decode cX0_alter 154 = .ok (.lload 5, 2) := by decide +kernel
theorem dX0_alter_156 : decode cX0_alter 156 = .ok (.lmul, 1) := by decide +kernel
theorem dX0_alter_157 : decode cX0_alter 157 = .ok (.lsub, 1) := by decide +kernel
theorem dX0_alter_158 : decode cX0_alter 158 = .ok (.aload_n 1, 1) := by decide +kernel
theorem dX0_alter_159 : decode cX0_alter 159 = .ok (.getfield 15, 3) := by decide +kernel
theorem dX0_alter_162 : decode cX0_alter 162 = .ok (.ldiv, 1) := by decide +kernel
theorem dX0_alter_163 : decode cX0_alter 163 = .ok (.lastore, 1) := by decide +kernel
theorem dX0_alter_164 : decode cX0_alter 164 = .ok (.iinc 7 1, 3) := by decide +kernel
theorem dX0_alter_167 : decode cX0_alter 167 = .ok (.goto (-51), 3) := by decide +kernel
theorem dX0_alter_170 : decode cX0_alter 170 = .ok (.iconst 1, 1) := by decide +kernel
theorem dX0_alter_171 : decode cX0_alter 171 = .ok (.ireturn, 1) := by decide +kernel
theorem dX0_alterCells_0 : decode cX0_alterCells 0 = .ok (.aload_n 1, 1) := by decide +kernel
theorem dX0_alterCells_1 : decode cX0_alterCells 1 = .ok (.getfield 15, 3) := by decide +kernel
theorem dX0_alterCells_4 : decode cX0_alterCells 4 = .ok (.lconst 0, 1) := by decide +kernel
theorem dX0_alterCells_5 : decode cX0_alterCells 5 = .ok (.lcmp, 1) := by decide +kernel
theorem dX0_alterCells_6 : decode cX0_alterCells 6 = .ok (.ifCond .gt 4, 3) := by decide +kernel
theorem dX0_alterCells_9 : decode cX0_alterCells 9 = .ok (.return_, 1) := by decide +kernel
theorem dX0_alterCells_10 : decode cX0_alterCells 10 = .ok (.iconst 0, 1) := by decide +kernel
theorem dX0_alterCells_11 : decode cX0_alterCells 11 = .ok (.istore_n 3, 1) := by decide +kernel
theorem dX0_alterCells_12 : decode cX0_alterCells 12 = .ok (.iload_n 3, 1) := by decide +kernel
theorem dX0_alterCells_13 : decode cX0_alterCells 13 = .ok (.aload_n 0, 1) := by decide +kernel
theorem dX0_alterCells_14 : decode cX0_alterCells 14 = .ok (.getfield 9, 3) := by decide +kernel
theorem dX0_alterCells_17 : decode cX0_alterCells 17 = .ok (.if_icmp .ge 77, 3) := by decide +kernel
theorem dX0_alterCells_20 : decode cX0_alterCells 20 = .ok (.iconst 0, 1) := by decide +kernel
theorem dX0_alterCells_21 : decode cX0_alterCells 21 = .ok (.istore 4, 2) := by decide +kernel
theorem dX0_alterCells_23 : decode cX0_alterCells 23 = .ok (.iload 4, 2) := by decide +kernel
theorem dX0_alterCells_25 : decode cX0_alterCells 25 = .ok (.aload_n 0, 1) := by decide +kernel
theorem dX0_alterCells_26 : decode cX0_alterCells 26 = .ok (.getfield 9, 3) := by decide +kernel
theorem dX0_alterCells_29 : decode cX0_alterCells 29 = .ok (.if_icmp .ge 59, 3) := by decide +kernel
theorem dX0_alterCells_32 : decode cX0_alterCells 32 = .ok (.iload_n 2, 1) := by decide +kernel
theorem dX0_alterCells_33 : decode cX0_alterCells 33 = .ok (.i2l, 1) := by decide +kernel
theorem dX0_alterCells_34 : decode cX0_alterCells 34 = .ok (.aload_n 0, 1) := by decide +kernel
theorem dX0_alterCells_35 : decode cX0_alterCells 35 = .ok (.getfield 28, 3) := by decide +kernel
theorem dX0_alterCells_38 : decode cX0_alterCells 38 = .ok (.iload_n 3, 1) := by decide +kernel
theorem dX0_alterCells_39 : decode cX0_alterCells 39 = .ok (.laload, 1) := by decide +kernel
theorem dX0_alterCells_40 : decode cX0_alterCells 40 = .ok (.lmul, 1) := by decide +kernel
theorem dX0_alterCells_41 : decode cX0_alterCells 41 = .ok (.aload_n 0, 1) := by decide +kernel
theorem dX0_alterCells_42 : decode cX0_alterCells 42 = .ok (.getfield 28, 3) := by decide +kernel
theorem dX0_alterCells_45 : decode cX0_alterCells 45 = .ok (.iload 4, 2) := by decide +kernel
theorem dX0_alterCells_47 : decode cX0_alterCells 47 = .ok (.laload, 1) := by decide +kernel
theorem dX0_alterCells_48 : decode cX0_alterCells 48 = .ok (.lmul, 1) := by decide +kernel
theorem dX0_alterCells_49 : decode cX0_alterCells 49 = .ok (.lstore 5, 2) := by decide +kernel
theorem dX0_alterCells_51 : decode cX0_alterCells 51 = .ok (.aload_n 0, 1) := by decide +kernel
theorem dX0_alterCells_52 : decode cX0_alterCells 52 = .ok (.getfield 21, 3) := by decide +kernel
theorem dX0_alterCells_55 : decode cX0_alterCells 55 = .ok (.iload_n 3, 1) := by decide +kernel
theorem dX0_alterCells_56 : decode cX0_alterCells 56 = .ok (.aaload, 1) := by decide +kernel
theorem dX0_alterCells_57 : decode cX0_alterCells 57 = .ok (.iload 4, 2) := by decide +kernel
theorem dX0_alterCells_59 : decode cX0_alterCells 59 = .ok (.aload_n 1, 1) := by decide +kernel
theorem dX0_alterCells_60 : decode cX0_alterCells 60 = .ok (.getfield 21, 3) := by decide +kernel
theorem dX0_alterCells_63 : decode cX0_alterCells 63 = .ok (.iload_n 3, 1) := by decide +kernel
theorem dX0_alterCells_64 : decode cX0_alterCells 64 = .ok (.aaload, 1) := by decide +kernel
theorem dX0_alterCells_65 : decode cX0_alterCells 65 = .ok (.iload 4, 2) := by decide +kernel
theorem dX0_alterCells_67 : decode cX0_alterCells 67 = .ok (.laload, 1) := by decide +kernel
theorem dX0_alterCells_68 : decode cX0_alterCells 68 = .ok (.aload_n 0, 1) := by decide +kernel
theorem dX0_alterCells_69 : decode cX0_alterCells 69 = .ok (.getfield 15, 3) := by decide +kernel
theorem dX0_alterCells_72 : decode cX0_alterCells 72 = .ok (.lmul, 1) := by decide +kernel
theorem dX0_alterCells_73 : decode cX0_alterCells 73 = .ok (.lload 5, 2) := by decide +kernel
theorem dX0_alterCells_75 : decode cX0_alterCells 75 = .ok (.lsub, 1) := by decide +kernel
theorem dX0_alterCells_76 : decode cX0_alterCells 76 = .ok (.aload_n 1, 1) := by decide +kernel
theorem dX0_alterCells_77 : decode cX0_alterCells 77 = .ok (.getfield 15, 3) := by decide +kernel
theorem dX0_alterCells_80 : decode cX0_alterCells 80 = .ok (.ldiv, 1) := by decide +kernel
theorem dX0_alterCells_81 : decode cX0_alterCells 81 = .ok (.lastore, 1) := by decide +kernel
theorem dX0_alterCells_82 : decode cX0_alterCells 82 = .ok (.iinc 4 1, 3) := by decide +kernel
theorem dX0_alterCells_85 : decode cX0_alterCells 85 = .ok (.goto (-62), 3) := by decide +kernel
theorem dX0_alterCells_88 : decode cX0_alterCells 88 = .ok (.iinc 3 1, 3) := by decide +kernel
theorem dX0_alterCells_91 : decode cX0_alterCells 91 = .ok (.goto (-79), 3) := by decide +kernel
theorem dX0_alterCells_94 : decode cX0_alterCells 94 = .ok (.return_, 1) := by decide +kernel
theorem dX1_init_0 : decode cX1_init 0 = .ok (.aload_n 0, 1) := by decide +kernel
theorem dX1_init_1 : decode cX1_init 1 = .ok (.invokespecial 3, 3) := by decide +kernel
theorem dX1_init_4 : decode cX1_init 4 = .ok (.aload_n 0, 1) := by decide +kernel
theorem dX1_init_5 : decode cX1_init 5 = .ok (.iconst 0, 1) := by decide +kernel
theorem dX1_init_6 : decode cX1_init 6 = .ok (.putfield 9, 3) := by decide +kernel
theorem dX1_init_9 : decode cX1_init 9 = .ok (.aload_n 0, 1) := by decide +kernel
theorem dX1_init_10 : decode cX1_init 10 = .ok (.iconst 0, 1) := by decide +kernel
theorem dX1_init_11 : decode cX1_init 11 = .ok (.putfield 15, 3) := by decide +kernel
theorem dX1_init_14 : decode cX1_init 14 = .ok (.aload_n 0, 1) := by decide +kernel
theorem dX1_init_15 : decode cX1_init 15 = .ok (.bipush 6, 2) := by decide +kernel
theorem dX1_init_17 : decode cX1_init 17 = .ok (.newarray .int, 2) := by decide +kernel
theorem dX1_init_19 : decode cX1_init 19 = .ok (.putfield 18, 3) := by decide +kernel
theorem dX1_init_22 : decode cX1_init 22 = .ok (.aload_n 0, 1) := by decide +kernel
theorem dX1_init_23 : decode cX1_init 23 = .ok (.bipush 6, 2) := by decide +kernel
theorem dX1_init_25 : decode cX1_init 25 = .ok (.newarray .int, 2) := by decide +kernel
theorem dX1_init_27 : decode cX1_init 27 = .ok (.putfield 22, 3) := by decide +kernel
theorem dX1_init_30 : decode cX1_init 30 = .ok (.aload_n 0, 1) := by decide +kernel
theorem dX1_init_31 : decode cX1_init 31 = .ok (.bipush 6, 2) := by decide +kernel
theorem dX1_init_33 : decode cX1_init 33 = .ok (.newarray .int, 2) := by decide +kernel
theorem dX1_init_35 : decode cX1_init 35 = .ok (.putfield 25, 3) := by decide +kernel
theorem dX1_init_38 : decode cX1_init 38 = .ok (.return_, 1) := by decide +kernel
theorem dX1_clear_0 : decode cX1_clear 0 = .ok (.aload_n 0, 1) := by decide +kernel
theorem dX1_clear_1 : decode cX1_clear 1 = .ok (.iconst 0, 1) := by decide +kernel
theorem dX1_clear_2 : decode cX1_clear 2 = .ok (.putfield 9, 3) := by decide +kernel
theorem dX1_clear_5 : decode cX1_clear 5 = .ok (.aload_n 0, 1) := by decide +kernel
theorem dX1_clear_6 : decode cX1_clear 6 = .ok (.iconst 0, 1) := by decide +kernel
theorem dX1_clear_7 : decode cX1_clear 7 = .ok (.putfield 15, 3) := by decide +kernel
theorem dX1_clear_10 : decode cX1_clear 10 = .ok (.return_, 1) := by decide +kernel
theorem dX1_addBlock_0 : decode cX1_addBlock 0 = .ok (.aload_n 0, 1) := by decide +kernel
theorem dX1_addBlock_1 : decode cX1_addBlock 1 = .ok (.getfield 9, 3) := by decide +kernel
theorem dX1_addBlock_4 : decode cX1_addBlock 4 = .ok (.istore_n 3, 1) := by decide +kernel
theorem dX1_addBlock_5 : decode cX1_addBlock 5 = .ok (.aload_n 0, 1) := by decide +kernel
theorem dX1_addBlock_6 : decode cX1_addBlock 6 = .ok (.getfield 18, 3) := by decide +kernel
theorem dX1_addBlock_9 : decode cX1_addBlock 9 = .ok (.iload_n 3, 1) := by decide +kernel
theorem dX1_addBlock_10 : decode cX1_addBlock 10 = .ok (.iload_n 1, 1) := by decide +kernel
theorem dX1_addBlock_11 : decode cX1_addBlock 11 = .ok (.iastore, 1) := by decide +kernel
theorem dX1_addBlock_12 : decode cX1_addBlock 12 = .ok (.aload_n 0, 1) := by decide +kernel
theorem dX1_addBlock_13 : decode cX1_addBlock 13 = .ok (.getfield 22, 3) := by decide +kernel
theorem dX1_addBlock_16 : decode cX1_addBlock 16 = .ok (.iload_n 3, 1) := by decide +kernel
theorem dX1_addBlock_17 : decode cX1_addBlock 17 = .ok (.iload_n 2, 1) := by decide +kernel
theorem dX1_addBlock_18 : decode cX1_addBlock 18 = .ok (.iastore, 1) := by decide +kernel
theorem dX1_addBlock_19 : decode cX1_addBlock 19 = .ok (.aload_n 0, 1) := by decide +kernel
theorem dX1_addBlock_20 : decode cX1_addBlock 20 = .ok (.dup, 1) := by decide +kernel
theorem dX1_addBlock_21 : decode cX1_addBlock 21 = .ok (.getfield 9, 3) := by decide +kernel
theorem dX1_addBlock_24 : decode cX1_addBlock 24 = .ok (.iconst 1, 1) := by decide +kernel
theorem dX1_addBlock_25 : decode cX1_addBlock 25 = .ok (.iadd, 1) := by decide +kernel
theorem dX1_addBlock_26 : decode cX1_addBlock 26 = .ok (.putfield 9, 3) := by decide +kernel
theorem dX1_addBlock_29 : decode cX1_addBlock 29 = .ok (.iload_n 3, 1) := by decide +kernel
theorem dX1_addBlock_30 : decode cX1_addBlock 30 = .ok (.ireturn, 1) := by decide +kernel
theorem dX1_isBlock_0 : decode cX1_isBlock 0 = .ok (.iload_n 1, 1) := by decide +kernel
theorem dX1_isBlock_1 : decode cX1_isBlock 1 = .ok (.ifCond .lt 15, 3) := by decide +kernel
theorem dX1_isBlock_4 : decode cX1_isBlock 4 = .ok (.iload_n 1, 1) := by decide +kernel
theorem dX1_isBlock_5 : decode cX1_isBlock 5 = .ok (.aload_n 0, 1) := by decide +kernel
theorem dX1_isBlock_6 : decode cX1_isBlock 6 = .ok (.getfield 9, 3) := by decide +kernel
theorem dX1_isBlock_9 : decode cX1_isBlock 9 = .ok (.if_icmp .ge 7, 3) := by decide +kernel
theorem dX1_isBlock_12 : decode cX1_isBlock 12 = .ok (.iconst 1, 1) := by decide +kernel
theorem dX1_isBlock_13 : decode cX1_isBlock 13 = .ok (.goto 4, 3) := by decide +kernel
theorem dX1_isBlock_16 : decode cX1_isBlock 16 = .ok (.iconst 0, 1) := by decide +kernel
theorem dX1_isBlock_17 : decode cX1_isBlock 17 = .ok (.ireturn, 1) := by decide +kernel
theorem dX1_share_0 : decode cX1_share 0 = .ok (.iconst 0, 1) := by decide +kernel
theorem dX1_share_1 : decode cX1_share 1 = .ok (.istore_n 3, 1) := by decide +kernel
theorem dX1_share_2 : decode cX1_share 2 = .ok (.iload_n 3, 1) := by decide +kernel
theorem dX1_share_3 : decode cX1_share 3 = .ok (.aload_n 0, 1) := by decide +kernel
theorem dX1_share_4 : decode cX1_share 4 = .ok (.getfield 9, 3) := by decide +kernel
theorem dX1_share_7 : decode cX1_share 7 = .ok (.if_icmp .ge 16, 3) := by decide +kernel
theorem dX1_share_10 : decode cX1_share 10 = .ok (.aload_n 0, 1) := by decide +kernel
theorem dX1_share_11 : decode cX1_share 11 = .ok (.getfield 25, 3) := by decide +kernel
theorem dX1_share_14 : decode cX1_share 14 = .ok (.iload_n 3, 1) := by decide +kernel
theorem dX1_share_15 : decode cX1_share 15 = .ok (.iconst (-1), 1) := by decide +kernel
theorem dX1_share_16 : decode cX1_share 16 = .ok (.iastore, 1) := by decide +kernel
theorem dX1_share_17 : decode cX1_share 17 = .ok (.iinc 3 1, 3) := by decide +kernel
theorem dX1_share_20 : decode cX1_share 20 = .ok (.goto (-18), 3) := by decide +kernel
theorem dX1_share_23 : decode cX1_share 23 = .ok (.aload_n 0, 1) := by decide +kernel
theorem dX1_share_24 : decode cX1_share 24 = .ok (.getfield 15, 3) := by decide +kernel
theorem dX1_share_27 : decode cX1_share 27 = .ok (.istore_n 3, 1) := by decide +kernel
theorem dX1_share_28 : decode cX1_share 28 = .ok (.iconst 0, 1) := by decide +kernel
theorem dX1_share_29 : decode cX1_share 29 = .ok (.istore 4, 2) := by decide +kernel
theorem dX1_share_31 : decode cX1_share 31 = .ok (.iload 4, 2) := by decide +kernel
theorem dX1_share_33 : decode cX1_share 33 = .ok (.aload_n 0, 1) := by decide +kernel
theorem dX1_share_34 : decode cX1_share 34 = .ok (.getfield 9, 3) := by decide +kernel
theorem dX1_share_37 : decode cX1_share 37 = .ok (.if_icmp .ge 56, 3) := by decide +kernel
theorem dX1_share_40 : decode cX1_share 40 = .ok (.aload_n 0, 1) := by decide +kernel
theorem dX1_share_41 : decode cX1_share 41 = .ok (.aload_n 1, 1) := by decide +kernel
theorem dX1_share_42 : decode cX1_share 42 = .ok (.getfield 28, 3) := by decide +kernel
theorem dX1_share_45 : decode cX1_share 45 = .ok (.iload_n 2, 1) := by decide +kernel
theorem dX1_share_46 : decode cX1_share 46 = .ok (.aaload, 1) := by decide +kernel
theorem dX1_share_47 : decode cX1_share 47 = .ok (.invokevirtual 34, 3) := by decide +kernel
theorem dX1_share_50 : decode cX1_share 50 = .ok (.istore 5, 2) := by decide +kernel
theorem dX1_share_52 : decode cX1_share 52 = .ok (.iload 5, 2) := by decide +kernel
theorem dX1_share_54 : decode cX1_share 54 = .ok (.iconst (-1), 1) := by decide +kernel
theorem dX1_share_55 : decode cX1_share 55 = .ok (.if_icmp .ne 4, 3) := by decide +kernel
theorem dX1_share_58 : decode cX1_share 58 = .ok (.return_, 1) := by decide +kernel
theorem dX1_share_59 : decode cX1_share 59 = .ok (.aload_n 0, 1) := by decide +kernel
theorem dX1_share_60 : decode cX1_share 60 = .ok (.getfield 25, 3) := by decide +kernel
theorem dX1_share_63 : decode cX1_share 63 = .ok (.iload 5, 2) := by decide +kernel
theorem dX1_share_65 : decode cX1_share 65 = .ok (.aload_n 0, 1) := by decide +kernel
theorem dX1_share_66 : decode cX1_share 66 = .ok (.getfield 22, 3) := by decide +kernel
theorem dX1_share_69 : decode cX1_share 69 = .ok (.iload 5, 2) := by decide +kernel
theorem dX1_share_71 : decode cX1_share 71 = .ok (.iaload, 1) := by decide +kernel
theorem dX1_share_72 : decode cX1_share 72 = .ok (.iload_n 3, 1) := by decide +kernel
theorem dX1_share_73 : decode cX1_share 73 = .ok (.invokestatic 38, 3) := by decide +kernel
theorem dX1_share_76 : decode cX1_share 76 = .ok (.iastore, 1) := by decide +kernel
theorem dX1_share_77 : decode cX1_share 77 = .ok (.iload_n 3, 1) := by decide +kernel
theorem dX1_share_78 : decode cX1_share 78 = .ok (.aload_n 0, 1) := by decide +kernel
theorem dX1_share_79 : decode cX1_share 79 = .ok (.getfield 25, 3) := by decide +kernel
theorem dX1_share_82 : decode cX1_share 82 = .ok (.iload 5, 2) := by decide +kernel
theorem dX1_share_84 : decode cX1_share 84 = .ok (.iaload, 1) := by decide +kernel
theorem dX1_share_85 : decode cX1_share 85 = .ok (.isub, 1) := by decide +kernel
theorem dX1_share_86 : decode cX1_share 86 = .ok (.istore_n 3, 1) := by decide +kernel
theorem dX1_share_87 : decode cX1_share 87 = .ok (.iinc 4 1, 3) := by decide +kernel
theorem dX1_share_90 : decode cX1_share 90 = .ok (.goto (-59), 3) := by decide +kernel
theorem dX1_share_93 : decode cX1_share 93 = .ok (.return_, 1) := by decide +kernel
theorem dX1_nextToGet_0 : decode cX1_nextToGet 0 = .ok (.iconst (-1), 1) := by decide +kernel
theorem dX1_nextToGet_1 : decode cX1_nextToGet 1 = .ok (.istore_n 2, 1) := by decide +kernel
theorem dX1_nextToGet_2 : decode cX1_nextToGet 2 = .ok (.iconst 0, 1) := by decide +kernel
theorem dX1_nextToGet_3 : decode cX1_nextToGet 3 = .ok (.istore_n 3, 1) := by decide +kernel
theorem dX1_nextToGet_4 : decode cX1_nextToGet 4 = .ok (.iload_n 3, 1) := by decide +kernel
theorem dX1_nextToGet_5 : decode cX1_nextToGet 5 = .ok (.aload_n 0, 1) := by decide +kernel
theorem dX1_nextToGet_6 : decode cX1_nextToGet 6 = .ok (.getfield 9, 3) := by decide +kernel
theorem dX1_nextToGet_9 : decode cX1_nextToGet 9 = .ok (.if_icmp .ge 49, 3) := by decide +kernel
theorem dX1_nextToGet_12 : decode cX1_nextToGet 12 = .ok (.aload_n 0, 1) := by decide +kernel
theorem dX1_nextToGet_13 : decode cX1_nextToGet 13 = .ok (.getfield 25, 3) := by decide +kernel
theorem dX1_nextToGet_16 : decode cX1_nextToGet 16 = .ok (.iload_n 3, 1) := by decide +kernel
theorem dX1_nextToGet_17 : decode cX1_nextToGet 17 = .ok (.iaload, 1) := by decide +kernel
theorem dX1_nextToGet_18 : decode cX1_nextToGet 18 = .ok (.iconst (-1), 1) := by decide +kernel
theorem dX1_nextToGet_19 : decode cX1_nextToGet 19 = .ok (.if_icmp .eq 6, 3) := by decide +kernel
theorem dX1_nextToGet_22 : decode cX1_nextToGet 22 = .ok (.goto 30, 3) := by decide +kernel
theorem dX1_nextToGet_25 : decode cX1_nextToGet 25 = .ok (.iload_n 2, 1) := by decide +kernel
theorem dX1_nextToGet_26 : decode cX1_nextToGet 26 = .ok (.iconst (-1), 1) := by decide +kernel
theorem dX1_nextToGet_27 : decode cX1_nextToGet 27 = .ok (.if_icmp .eq 23, 3) := by decide +kernel
theorem dX1_nextToGet_30 : decode cX1_nextToGet 30 = .ok (.aload_n 1, 1) := by decide +kernel
theorem dX1_nextToGet_31 : decode cX1_nextToGet 31 = .ok (.aload_n 0, 1) := by decide +kernel
theorem dX1_nextToGet_32 : decode cX1_nextToGet 32 = .ok (.getfield 18, 3) := by decide +kernel
theorem dX1_nextToGet_35 : decode cX1_nextToGet 35 = .ok (.iload_n 3, 1) := by decide +kernel
theorem dX1_nextToGet_36 : decode cX1_nextToGet 36 = .ok (.iaload, 1) := by decide +kernel
theorem dX1_nextToGet_37 : decode cX1_nextToGet 37 = .ok (.laload, 1) := by decide +kernel
theorem dX1_nextToGet_38 : decode cX1_nextToGet 38 = .ok (.aload_n 1, 1) := by decide +kernel
theorem dX1_nextToGet_39 : decode cX1_nextToGet 39 = .ok (.aload_n 0, 1) := by decide +kernel
theorem dX1_nextToGet_40 : decode cX1_nextToGet 40 = .ok (.getfield 18, 3) := by decide +kernel
theorem dX1_nextToGet_43 : decode cX1_nextToGet 43 = .ok (.iload_n 2, 1) := by decide +kernel
theorem dX1_nextToGet_44 : decode cX1_nextToGet 44 = .ok (.iaload, 1) := by decide +kernel
theorem dX1_nextToGet_45 : decode cX1_nextToGet 45 = .ok (.laload, 1) := by decide +kernel
theorem dX1_nextToGet_46 : decode cX1_nextToGet 46 = .ok (.lcmp, 1) := by decide +kernel
theorem dX1_nextToGet_47 : decode cX1_nextToGet 47 = .ok (.ifCond .le 5, 3) := by decide +kernel
theorem dX1_nextToGet_50 : decode cX1_nextToGet 50 = .ok (.iload_n 3, 1) := by decide +kernel
theorem dX1_nextToGet_51 : decode cX1_nextToGet 51 = .ok (.istore_n 2, 1) := by decide +kernel
theorem dX1_nextToGet_52 : decode cX1_nextToGet 52 = .ok (.iinc 3 1, 3) := by decide +kernel
theorem dX1_nextToGet_55 : decode cX1_nextToGet 55 = .ok (.goto (-51), 3) := by decide +kernel
theorem dX1_nextToGet_58 : decode cX1_nextToGet 58 = .ok (.iload_n 2, 1) := by decide +kernel
theorem dX1_nextToGet_59 : decode cX1_nextToGet 59 = .ok (.ireturn, 1) := by decide +kernel
theorem dX1_worstAbove_0 : decode cX1_worstAbove 0 = .ok (.aload_n 0, 1) := by decide +kernel
theorem dX1_worstAbove_1 : decode cX1_worstAbove 1 = .ok (.aload_n 1, 1) := by decide +kernel
theorem dX1_worstAbove_2 : decode cX1_worstAbove 2 = .ok (.iload_n 2, 1) := by decide +kernel
theorem dX1_worstAbove_3 : decode cX1_worstAbove 3 = .ok (.invokevirtual 44, 3) := by decide +kernel
theorem dX1_worstAbove_6 : decode cX1_worstAbove 6 = .ok (.lconst 0, 1) := by decide +kernel
theorem dX1_worstAbove_7 : decode cX1_worstAbove 7 = .ok (.lstore_n 3, 1) := by decide +kernel
theorem dX1_worstAbove_8 : decode cX1_worstAbove 8 = .ok (.iconst 0, 1) := by decide +kernel
theorem dX1_worstAbove_9 : decode cX1_worstAbove 9 = .ok (.istore 5, 2) := by decide +kernel
theorem dX1_worstAbove_11 : decode cX1_worstAbove 11 = .ok (.iload 5, 2) := by decide +kernel
theorem dX1_worstAbove_13 : decode cX1_worstAbove 13 = .ok (.aload_n 0, 1) := by decide +kernel
theorem dX1_worstAbove_14 : decode cX1_worstAbove 14 = .ok (.getfield 9, 3) := by decide +kernel
theorem dX1_worstAbove_17 : decode cX1_worstAbove 17 = .ok (.if_icmp .ge 35, 3) := by decide +kernel
theorem dX1_worstAbove_20 : decode cX1_worstAbove 20 = .ok (.lload_n 3, 1) := by decide +kernel
theorem dX1_worstAbove_21 : decode cX1_worstAbove 21 = .ok (.aload_n 1, 1) := by decide +kernel
theorem dX1_worstAbove_22 : decode cX1_worstAbove 22 = .ok (.getfield 28, 3) := by decide +kernel
theorem dX1_worstAbove_25 : decode cX1_worstAbove 25 = .ok (.iload_n 2, 1) := by decide +kernel
theorem dX1_worstAbove_26 : decode cX1_worstAbove 26 = .ok (.aaload, 1) := by decide +kernel
theorem dX1_worstAbove_27 : decode cX1_worstAbove 27 = .ok (.aload_n 0, 1) := by decide +kernel
theorem dX1_worstAbove_28 : decode cX1_worstAbove 28 = .ok (.getfield 18, 3) := by decide +kernel
theorem dX1_worstAbove_31 : decode cX1_worstAbove 31 = .ok (.iload 5, 2) := by decide +kernel
theorem dX1_worstAbove_33 : decode cX1_worstAbove 33 = .ok (.iaload, 1) := by decide +kernel
theorem dX1_worstAbove_34 : decode cX1_worstAbove 34 = .ok (.laload, 1) := by decide +kernel
theorem dX1_worstAbove_35 : decode cX1_worstAbove 35 = .ok (.aload_n 0, 1) := by decide +kernel
theorem dX1_worstAbove_36 : decode cX1_worstAbove 36 = .ok (.getfield 25, 3) := by decide +kernel
theorem dX1_worstAbove_39 : decode cX1_worstAbove 39 = .ok (.iload 5, 2) := by decide +kernel
theorem dX1_worstAbove_41 : decode cX1_worstAbove 41 = .ok (.iaload, 1) := by decide +kernel
theorem dX1_worstAbove_42 : decode cX1_worstAbove 42 = .ok (.i2l, 1) := by decide +kernel
theorem dX1_worstAbove_43 : decode cX1_worstAbove 43 = .ok (.lmul, 1) := by decide +kernel
theorem dX1_worstAbove_44 : decode cX1_worstAbove 44 = .ok (.ladd, 1) := by decide +kernel
theorem dX1_worstAbove_45 : decode cX1_worstAbove 45 = .ok (.lstore_n 3, 1) := by decide +kernel
theorem dX1_worstAbove_46 : decode cX1_worstAbove 46 = .ok (.iinc 5 1, 3) := by decide +kernel
theorem dX1_worstAbove_49 : decode cX1_worstAbove 49 = .ok (.goto (-38), 3) := by decide +kernel
theorem dX1_worstAbove_52 : decode cX1_worstAbove 52 = .ok (.lload_n 3, 1) := by decide +kernel
theorem dX1_worstAbove_53 : decode cX1_worstAbove 53 = .ok (.lreturn, 1) := by decide +kernel
theorem dX2_init_0 : decode cX2_init 0 = .ok (.aload_n 0, 1) := by decide +kernel
theorem dX2_init_1 : decode cX2_init 1 = .ok (.invokespecial 3, 3) := by decide +kernel
theorem dX2_init_4 : decode cX2_init 4 = .ok (.aload_n 0, 1) := by decide +kernel
theorem dX2_init_5 : decode cX2_init 5 = .ok (.iconst 2, 1) := by decide +kernel
theorem dX2_init_6 : decode cX2_init 6 = .ok (.putfield 9, 3) := by decide +kernel
theorem dX2_init_9 : decode cX2_init 9 = .ok (.aload_n 0, 1) := by decide +kernel
theorem dX2_init_10 : decode cX2_init 10 = .ok (.iconst 0, 1) := by decide +kernel
theorem dX2_init_11 : decode cX2_init 11 = .ok (.putfield 15, 3) := by decide +kernel
theorem dX2_init_14 : decode cX2_init 14 = .ok (.aload_n 0, 1) := by decide +kernel
theorem dX2_init_15 : decode cX2_init 15 = .ok (.iconst 0, 1) := by decide +kernel
theorem dX2_init_16 : decode cX2_init 16 = .ok (.putfield 18, 3) := by decide +kernel
theorem dX2_init_19 : decode cX2_init 19 = .ok (.aload_n 0, 1) := by decide +kernel
theorem dX2_init_20 : decode cX2_init 20 = .ok (.bipush 7, 2) := by decide +kernel
theorem dX2_init_22 : decode cX2_init 22 = .ok (.newarray .int, 2) := by decide +kernel
theorem dX2_init_24 : decode cX2_init 24 = .ok (.putfield 21, 3) := by decide +kernel
theorem dX2_init_27 : decode cX2_init 27 = .ok (.aload_n 0, 1) := by decide +kernel
theorem dX2_init_28 : decode cX2_init 28 = .ok (.bipush 12, 2) := by decide +kernel
theorem dX2_init_30 : decode cX2_init 30 = .ok (.newarray .int, 2) := by decide +kernel
theorem dX2_init_32 : decode cX2_init 32 = .ok (.putfield 25, 3) := by decide +kernel
theorem dX2_init_35 : decode cX2_init 35 = .ok (.aload_n 0, 1) := by decide +kernel
theorem dX2_init_36 : decode cX2_init 36 = .ok (.bipush 12, 2) := by decide +kernel
theorem dX2_init_38 : decode cX2_init 38 = .ok (.newarray .int, 2) := by decide +kernel
theorem dX2_init_40 : decode cX2_init 40 = .ok (.putfield 28, 3) := by decide +kernel
theorem dX2_init_43 : decode cX2_init 43 = .ok (.aload_n 0, 1) := by decide +kernel
theorem dX2_init_44 : decode cX2_init 44 = .ok (.bipush 12, 2) := by decide +kernel
theorem dX2_init_46 : decode cX2_init 46 = .ok (.newarray .int, 2) := by decide +kernel
theorem dX2_init_48 : decode cX2_init 48 = .ok (.putfield 31, 3) := by decide +kernel
theorem dX2_init_51 : decode cX2_init 51 = .ok (.aload_n 0, 1) := by decide +kernel
theorem dX2_init_52 : decode cX2_init 52 = .ok (.bipush 12, 2) := by decide +kernel
theorem dX2_init_54 : decode cX2_init 54 = .ok (.newarray .int, 2) := by decide +kernel
theorem dX2_init_56 : decode cX2_init 56 = .ok (.putfield 34, 3) := by decide +kernel
theorem dX2_init_59 : decode cX2_init 59 = .ok (.return_, 1) := by decide +kernel
theorem dX2_clear_0 : decode cX2_clear 0 = .ok (.aload_n 0, 1) := by decide +kernel
theorem dX2_clear_1 : decode cX2_clear 1 = .ok (.iload_n 1, 1) := by decide +kernel
theorem dX2_clear_2 : decode cX2_clear 2 = .ok (.putfield 9, 3) := by decide +kernel
theorem dX2_clear_5 : decode cX2_clear 5 = .ok (.aload_n 0, 1) := by decide +kernel
theorem dX2_clear_6 : decode cX2_clear 6 = .ok (.iconst 0, 1) := by decide +kernel
theorem dX2_clear_7 : decode cX2_clear 7 = .ok (.putfield 15, 3) := by decide +kernel
theorem dX2_clear_10 : decode cX2_clear 10 = .ok (.aload_n 0, 1) := by decide +kernel
theorem dX2_clear_11 : decode cX2_clear 11 = .ok (.iconst 0, 1) := by decide +kernel
theorem dX2_clear_12 : decode cX2_clear 12 = .ok (.putfield 18, 3) := by decide +kernel
theorem dX2_clear_15 : decode cX2_clear 15 = .ok (.iconst 0, 1) := by decide +kernel
theorem dX2_clear_16 : decode cX2_clear 16 = .ok (.istore_n 2, 1) := by decide +kernel
theorem dX2_clear_17 : decode cX2_clear 17 = .ok (.iload_n 2, 1) := by decide +kernel
theorem dX2_clear_18 : decode cX2_clear 18 = .ok (.bipush 7, 2) := by decide +kernel
theorem dX2_clear_20 : decode cX2_clear 20 = .ok (.if_icmp .ge 16, 3) := by decide +kernel
theorem dX2_clear_23 : decode cX2_clear 23 = .ok (.aload_n 0, 1) := by decide +kernel
theorem dX2_clear_24 : decode cX2_clear 24 = .ok (.getfield 21, 3) := by decide +kernel
theorem dX2_clear_27 : decode cX2_clear 27 = .ok (.iload_n 2, 1) := by decide +kernel
theorem dX2_clear_28 : decode cX2_clear 28 = .ok (.iconst 0, 1) := by decide +kernel
theorem dX2_clear_29 : decode cX2_clear 29 = .ok (.iastore, 1) := by decide +kernel
theorem dX2_clear_30 : decode cX2_clear 30 = .ok (.iinc 2 1, 3) := by decide +kernel
theorem dX2_clear_33 : decode cX2_clear 33 = .ok (.goto (-16), 3) := by decide +kernel
theorem dX2_clear_36 : decode cX2_clear 36 = .ok (.return_, 1) := by decide +kernel
theorem dX2_addWire_0 : decode cX2_addWire 0 = .ok (.aload_n 0, 1) := by decide +kernel
theorem dX2_addWire_1 : decode cX2_addWire 1 = .ok (.getfield 15, 3) := by decide +kernel
theorem dX2_addWire_4 : decode cX2_addWire 4 = .ok (.istore 5, 2) := by decide +kernel
theorem dX2_addWire_6 : decode cX2_addWire 6 = .ok (.aload_n 0, 1) := by decide +kernel
theorem dX2_addWire_7 : decode cX2_addWire 7 = .ok (.getfield 25, 3) := by decide +kernel
theorem dX2_addWire_10 : decode cX2_addWire 10 = .ok (.iload 5, 2) := by decide +kernel
theorem dX2_addWire_12 : decode cX2_addWire 12 = .ok (.iload_n 1, 1) := by decide +kernel
theorem dX2_addWire_13 : decode cX2_addWire 13 = .ok (.iastore, 1) := by decide +kernel
theorem dX2_addWire_14 : decode cX2_addWire 14 = .ok (.aload_n 0, 1) := by decide +kernel
theorem dX2_addWire_15 : decode cX2_addWire 15 = .ok (.getfield 28, 3) := by decide +kernel
theorem dX2_addWire_18 : decode cX2_addWire 18 = .ok (.iload 5, 2) := by decide +kernel
theorem dX2_addWire_20 : decode cX2_addWire 20 = .ok (.iload_n 2, 1) := by decide +kernel
theorem dX2_addWire_21 : decode cX2_addWire 21 = .ok (.iastore, 1) := by decide +kernel
theorem dX2_addWire_22 : decode cX2_addWire 22 = .ok (.aload_n 0, 1) := by decide +kernel
theorem dX2_addWire_23 : decode cX2_addWire 23 = .ok (.getfield 31, 3) := by decide +kernel
theorem dX2_addWire_26 : decode cX2_addWire 26 = .ok (.iload 5, 2) := by decide +kernel
theorem dX2_addWire_28 : decode cX2_addWire 28 = .ok (.iload_n 3, 1) := by decide +kernel
theorem dX2_addWire_29 : decode cX2_addWire 29 = .ok (.iastore, 1) := by decide +kernel
theorem dX2_addWire_30 : decode cX2_addWire 30 = .ok (.aload_n 0, 1) := by decide +kernel
theorem dX2_addWire_31 : decode cX2_addWire 31 = .ok (.getfield 34, 3) := by decide +kernel
theorem dX2_addWire_34 : decode cX2_addWire 34 = .ok (.iload 5, 2) := by decide +kernel
theorem dX2_addWire_36 : decode cX2_addWire 36 = .ok (.iload 4, 2) := by decide +kernel
theorem dX2_addWire_38 : decode cX2_addWire 38 = .ok (.iastore, 1) := by decide +kernel
theorem dX2_addWire_39 : decode cX2_addWire 39 = .ok (.aload_n 0, 1) := by decide +kernel
theorem dX2_addWire_40 : decode cX2_addWire 40 = .ok (.dup, 1) := by decide +kernel
theorem dX2_addWire_41 : decode cX2_addWire 41 = .ok (.getfield 15, 3) := by decide +kernel
theorem dX2_addWire_44 : decode cX2_addWire 44 = .ok (.iconst 1, 1) := by decide +kernel
theorem dX2_addWire_45 : decode cX2_addWire 45 = .ok (.iadd, 1) := by decide +kernel
theorem dX2_addWire_46 : decode cX2_addWire 46 = .ok (.putfield 15, 3) := by decide +kernel
theorem dX2_addWire_49 : decode cX2_addWire 49 = .ok (.iload 5, 2) := by decide +kernel
theorem dX2_addWire_51 : decode cX2_addWire 51 = .ok (.ireturn, 1) := by decide +kernel
theorem dX2_isKnot_0 : decode cX2_isKnot 0 = .ok (.iload_n 1, 1) := by decide +kernel
theorem dX2_isKnot_1 : decode cX2_isKnot 1 = .ok (.ifCond .lt 15, 3) := by decide +kernel
theorem dX2_isKnot_4 : decode cX2_isKnot 4 = .ok (.iload_n 1, 1) := by decide +kernel
theorem dX2_isKnot_5 : decode cX2_isKnot 5 = .ok (.aload_n 0, 1) := by decide +kernel
theorem dX2_isKnot_6 : decode cX2_isKnot 6 = .ok (.getfield 9, 3) := by decide +kernel
theorem dX2_isKnot_9 : decode cX2_isKnot 9 = .ok (.if_icmp .ge 7, 3) := by decide +kernel
theorem dX2_isKnot_12 : decode cX2_isKnot 12 = .ok (.iconst 1, 1) := by decide +kernel
theorem dX2_isKnot_13 : decode cX2_isKnot 13 = .ok (.goto 4, 3) := by decide +kernel
theorem dX2_isKnot_16 : decode cX2_isKnot 16 = .ok (.iconst 0, 1) := by decide +kernel
theorem dX2_isKnot_17 : decode cX2_isKnot 17 = .ok (.ireturn, 1) := by decide +kernel
theorem dX2_isWire_0 : decode cX2_isWire 0 = .ok (.iload_n 1, 1) := by decide +kernel
theorem dX2_isWire_1 : decode cX2_isWire 1 = .ok (.ifCond .lt 15, 3) := by decide +kernel
theorem dX2_isWire_4 : decode cX2_isWire 4 = .ok (.iload_n 1, 1) := by decide +kernel
theorem dX2_isWire_5 : decode cX2_isWire 5 = .ok (.aload_n 0, 1) := by decide +kernel
theorem dX2_isWire_6 : decode cX2_isWire 6 = .ok (.getfield 15, 3) := by decide +kernel
theorem dX2_isWire_9 : decode cX2_isWire 9 = .ok (.if_icmp .ge 7, 3) := by decide +kernel
theorem dX2_isWire_12 : decode cX2_isWire 12 = .ok (.iconst 1, 1) := by decide +kernel
theorem dX2_isWire_13 : decode cX2_isWire 13 = .ok (.goto 4, 3) := by decide +kernel
theorem dX2_isWire_16 : decode cX2_isWire 16 = .ok (.iconst 0, 1) := by decide +kernel
theorem dX2_isWire_17 : decode cX2_isWire 17 = .ok (.ireturn, 1) := by decide +kernel
theorem dX2_isPad_0 : decode cX2_isPad 0 = .ok (.aload_n 0, 1) := by decide +kernel
theorem dX2_isPad_1 : decode cX2_isPad 1 = .ok (.getfield 18, 3) := by decide +kernel
theorem dX2_isPad_4 : decode cX2_isPad 4 = .ok (.iload_n 1, 1) := by decide +kernel
theorem dX2_isPad_5 : decode cX2_isPad 5 = .ok (.invokestatic 37, 3) := by decide +kernel
theorem dX2_isPad_8 : decode cX2_isPad 8 = .ok (.ireturn, 1) := by decide +kernel
theorem dX2_allBits_0 : decode cX2_allBits 0 = .ok (.iconst 1, 1) := by decide +kernel
theorem dX2_allBits_1 : decode cX2_allBits 1 = .ok (.aload_n 0, 1) := by decide +kernel
theorem dX2_allBits_2 : decode cX2_allBits 2 = .ok (.getfield 9, 3) := by decide +kernel
theorem dX2_allBits_5 : decode cX2_allBits 5 = .ok (.ishl, 1) := by decide +kernel
theorem dX2_allBits_6 : decode cX2_allBits 6 = .ok (.iconst 1, 1) := by decide +kernel
theorem dX2_allBits_7 : decode cX2_allBits 7 = .ok (.isub, 1) := by decide +kernel
theorem dX2_allBits_8 : decode cX2_allBits 8 = .ok (.ireturn, 1) := by decide +kernel
theorem dX3_init_0 : decode cX3_init 0 = .ok (.aload_n 0, 1) := by decide +kernel
theorem dX3_init_1 : decode cX3_init 1 = .ok (.invokespecial 3, 3) := by decide +kernel
theorem dX3_init_4 : decode cX3_init 4 = .ok (.aload_n 0, 1) := by decide +kernel
theorem dX3_init_5 : decode cX3_init 5 = .ok (.bipush 64, 2) := by decide +kernel
theorem dX3_init_7 : decode cX3_init 7 = .ok (.newarray .long, 2) := by decide +kernel
theorem dX3_init_9 : decode cX3_init 9 = .ok (.putfield 9, 3) := by decide +kernel
theorem dX3_init_12 : decode cX3_init 12 = .ok (.aload_n 0, 1) := by decide +kernel
theorem dX3_init_13 : decode cX3_init 13 = .ok (.bipush 7, 2) := by decide +kernel
theorem dX3_init_15 : decode cX3_init 15 = .ok (.newarray .long, 2) := by decide +kernel
theorem dX3_init_17 : decode cX3_init 17 = .ok (.putfield 15, 3) := by decide +kernel
theorem dX3_init_20 : decode cX3_init 20 = .ok (.aload_n 0, 1) := by decide +kernel
theorem dX3_init_21 : decode cX3_init 21 = .ok (.bipush 6, 2) := by decide +kernel
theorem dX3_init_23 : decode cX3_init 23 = .ok (.newarray .int, 2) := by decide +kernel
theorem dX3_init_25 : decode cX3_init 25 = .ok (.putfield 18, 3) := by decide +kernel
theorem dX3_init_28 : decode cX3_init 28 = .ok (.return_, 1) := by decide +kernel
theorem dX3_search_0 : decode cX3_search 0 = .ok (.iconst 1, 1) := by decide +kernel
theorem dX3_search_1 : decode cX3_search 1 = .ok (.aload_n 2, 1) := by decide +kernel
theorem dX3_search_2 : decode cX3_search 2 = .ok (.getfield 22, 3) := by decide +kernel
theorem dX3_search_5 : decode cX3_search 5 = .ok (.ishl, 1) := by decide +kernel
theorem dX3_search_6 : decode cX3_search 6 = .ok (.iconst 1, 1) := by decide +kernel
theorem dX3_search_7 : decode cX3_search 7 = .ok (.isub, 1) := by decide +kernel
theorem dX3_search_8 : decode cX3_search 8 = .ok (.istore_n 3, 1) := by decide +kernel
theorem dX3_search_9 : decode cX3_search 9 = .ok (.aload_n 0, 1) := by decide +kernel
theorem dX3_search_10 : decode cX3_search 10 = .ok (.getfield 9, 3) := by decide +kernel
theorem dX3_search_13 : decode cX3_search 13 = .ok (.iload_n 3, 1) := by decide +kernel
theorem dX3_search_14 : decode cX3_search 14 = .ok (.lconst 0, 1) := by decide +kernel
theorem dX3_search_15 : decode cX3_search 15 = .ok (.lastore, 1) := by decide +kernel
theorem dX3_search_16 : decode cX3_search 16 = .ok (.iload_n 3, 1) := by decide +kernel
theorem dX3_search_17 : decode cX3_search 17 = .ok (.iconst 1, 1) := by decide +kernel
theorem dX3_search_18 : decode cX3_search 18 = .ok (.isub, 1) := by decide +kernel
theorem dX3_search_19 : decode cX3_search 19 = .ok (.istore 4, 2) := by decide +kernel
theorem dX3_search_21 : decode cX3_search 21 = .ok (.iload 4, 2) := by decide +kernel
theorem dX3_search_23 : decode cX3_search 23 = .ok (.ifCond .lt 24, 3) := by decide +kernel
theorem dX3_search_26 : decode cX3_search 26 = .ok (.aload_n 0, 1) := by decide +kernel
theorem dX3_search_27 : decode cX3_search 27 = .ok (.getfield 9, 3) := by decide +kernel
theorem dX3_search_30 : decode cX3_search 30 = .ok (.iload 4, 2) := by decide +kernel
theorem dX3_search_32 : decode cX3_search 32 = .ok (.aload_n 0, 1) := by decide +kernel
theorem dX3_search_33 : decode cX3_search 33 = .ok (.aload_n 1, 1) := by decide +kernel
theorem dX3_search_34 : decode cX3_search 34 = .ok (.aload_n 2, 1) := by decide +kernel
theorem dX3_search_35 : decode cX3_search 35 = .ok (.iload 4, 2) := by decide +kernel
theorem dX3_search_37 : decode cX3_search 37 = .ok (.invokevirtual 28, 3) := by decide +kernel
theorem dX3_search_40 : decode cX3_search 40 = .ok (.lastore, 1) := by decide +kernel
theorem dX3_search_41 : decode cX3_search 41 = .ok (.iinc 4 (-1), 3) := by decide +kernel
theorem dX3_search_44 : decode cX3_search 44 = .ok (.goto (-23), 3) := by decide +kernel
theorem dX3_search_47 : decode cX3_search 47 = .ok (.iconst 0, 1) := by decide +kernel
theorem dX3_search_48 : decode cX3_search 48 = .ok (.istore 4, 2) := by decide +kernel
theorem dX3_search_50 : decode cX3_search 50 = .ok (.iconst 0, 1) := by decide +kernel
theorem dX3_search_51 : decode cX3_search 51 = .ok (.istore 5, 2) := by decide +kernel
theorem dX3_search_53 : decode cX3_search 53 = .ok (.iload 5, 2) := by decide +kernel
theorem dX3_search_55 : decode cX3_search 55 = .ok (.aload_n 2, 1) := by decide +kernel
theorem dX3_search_56 : decode cX3_search 56 = .ok (.getfield 22, 3) := by decide +kernel
theorem dX3_search_59 : decode cX3_search 59 = .ok (.if_icmp .ge 44, 3) := by decide +kernel
theorem dX3_search_62 : decode cX3_search 62 = .ok (.aload_n 0, 1) := by decide +kernel
theorem dX3_search_63 : decode cX3_search 63 = .ok (.aload_n 1, 1) := by decide +kernel
theorem dX3_search_64 : decode cX3_search 64 = .ok (.aload_n 2, 1) := by decide +kernel
theorem dX3_search_65 : decode cX3_search 65 = .ok (.iload 4, 2) := by decide +kernel
theorem dX3_search_67 : decode cX3_search 67 = .ok (.invokevirtual 32, 3) := by decide +kernel
theorem dX3_search_70 : decode cX3_search 70 = .ok (.istore 6, 2) := by decide +kernel
theorem dX3_search_72 : decode cX3_search 72 = .ok (.iload 6, 2) := by decide +kernel
theorem dX3_search_74 : decode cX3_search 74 = .ok (.iconst (-1), 1) := by decide +kernel
theorem dX3_search_75 : decode cX3_search 75 = .ok (.if_icmp .ne 4, 3) := by decide +kernel
theorem dX3_search_78 : decode cX3_search 78 = .ok (.return_, 1) := by decide +kernel
theorem dX3_search_79 : decode cX3_search 79 = .ok (.aload_n 0, 1) := by decide +kernel
theorem dX3_search_80 : decode cX3_search 80 = .ok (.getfield 18, 3) := by decide +kernel
theorem dX3_search_83 : decode cX3_search 83 = .ok (.iload 5, 2) := by decide +kernel
theorem dX3_search_85 : decode cX3_search 85 = .ok (.iload 6, 2) := by decide +kernel
theorem dX3_search_87 : decode cX3_search 87 = .ok (.iastore, 1) := by decide +kernel
theorem dX3_search_88 : decode cX3_search 88 = .ok (.iload 4, 2) := by decide +kernel
theorem dX3_search_90 : decode cX3_search 90 = .ok (.iconst 1, 1) := by decide +kernel
theorem dX3_search_91 : decode cX3_search 91 = .ok (.iload 6, 2) := by decide +kernel
theorem dX3_search_93 : decode cX3_search 93 = .ok (.ishl, 1) := by decide +kernel
theorem dX3_search_94 : decode cX3_search 94 = .ok (.ior, 1) := by decide +kernel
theorem dX3_search_95 : decode cX3_search 95 = .ok (.istore 4, 2) := by decide +kernel
theorem dX3_search_97 : decode cX3_search 97 = .ok (.iinc 5 1, 3) := by decide +kernel
theorem dX3_search_100 : decode cX3_search 100 = .ok (.goto (-47), 3) := by decide +kernel
theorem dX3_search_103 : decode cX3_search 103 = .ok (.return_, 1) := by decide +kernel
theorem dX3_leastAfter_0 : decode cX3_leastAfter 0 = .ok (.aload_n 0, 1) := by decide +kernel
theorem dX3_leastAfter_1 : decode cX3_leastAfter 1 = .ok (.aload_n 1, 1) := by decide +kernel
theorem dX3_leastAfter_2 : decode cX3_leastAfter 2 = .ok (.aload_n 2, 1) := by decide +kernel
theorem dX3_leastAfter_3 : decode cX3_leastAfter 3 = .ok (.iload_n 3, 1) := by decide +kernel
theorem dX3_leastAfter_4 : decode cX3_leastAfter 4 = .ok (.invokevirtual 36, 3) := by decide +kernel
theorem dX3_leastAfter_7 : decode cX3_leastAfter 7 = .ok (.ldc2_w 40, 3) := by decide +kernel
theorem dX3_leastAfter_10 : decode cX3_leastAfter 10 = .ok (.lstore 4, 2) := by decide +kernel
theorem dX3_leastAfter_12 : decode cX3_leastAfter 12 = .ok (.iconst 0, 1) := by decide +kernel
theorem dX3_leastAfter_13 : decode cX3_leastAfter 13 = .ok (.istore 6, 2) := by decide +kernel
theorem dX3_leastAfter_15 : decode cX3_leastAfter 15 = .ok (.iload 6, 2) := by decide +kernel
theorem dX3_leastAfter_17 : decode cX3_leastAfter 17 = .ok (.aload_n 2, 1) := by decide +kernel
theorem dX3_leastAfter_18 : decode cX3_leastAfter 18 = .ok (.getfield 22, 3) := by decide +kernel
theorem dX3_leastAfter_21 : decode cX3_leastAfter 21 = .ok (.if_icmp .ge 65, 3) := by decide +kernel
theorem dX3_leastAfter_24 : decode cX3_leastAfter 24 = .ok (.iload_n 3, 1) := by decide +kernel
theorem dX3_leastAfter_25 : decode cX3_leastAfter 25 = .ok (.iload 6, 2) := by decide +kernel
theorem dX3_leastAfter_27 : decode cX3_leastAfter 27 = .ok (.invokestatic 42, 3) := by decide +kernel
theorem dX3_leastAfter_30 : decode cX3_leastAfter 30 = .ok (.ifCond .ne 50, 3) := by decide +kernel
theorem dX3_leastAfter_33 : decode cX3_leastAfter 33 = .ok (.aload_n 0, 1) := by decide +kernel
theorem dX3_leastAfter_34 : decode cX3_leastAfter 34 = .ok (.aload_n 1, 1) := by decide +kernel
theorem dX3_leastAfter_35 : decode cX3_leastAfter 35 = .ok (.aload_n 2, 1) := by decide +kernel
theorem dX3_leastAfter_36 : decode cX3_leastAfter 36 = .ok (.iload 6, 2) := by decide +kernel
theorem dX3_leastAfter_38 : decode cX3_leastAfter 38 = .ok (.invokevirtual 46, 3) := by decide +kernel
theorem dX3_leastAfter_41 : decode cX3_leastAfter 41 = .ok (.aload_n 0, 1) := by decide +kernel
theorem dX3_leastAfter_42 : decode cX3_leastAfter 42 = .ok (.getfield 9, 3) := by decide +kernel
theorem dX3_leastAfter_45 : decode cX3_leastAfter 45 = .ok (.iload_n 3, 1) := by decide +kernel
theorem dX3_leastAfter_46 : decode cX3_leastAfter 46 = .ok (.iconst 1, 1) := by decide +kernel
theorem dX3_leastAfter_47 : decode cX3_leastAfter 47 = .ok (.iload 6, 2) := by decide +kernel
theorem dX3_leastAfter_49 : decode cX3_leastAfter 49 = .ok (.ishl, 1) := by decide +kernel
theorem dX3_leastAfter_50 : decode cX3_leastAfter 50 = .ok (.ior, 1) := by decide +kernel
theorem dX3_leastAfter_51 : decode cX3_leastAfter 51 = .ok (.laload, 1) := by decide +kernel
theorem dX3_leastAfter_52 : decode cX3_leastAfter 52 = .ok (.invokestatic 49, 3) := by decide +kernel
theorem dX3_leastAfter_55 : decode cX3_leastAfter 55 = .ok (.lstore 7, 2) := by decide +kernel
theorem dX3_leastAfter_57 : decode cX3_leastAfter 57 = .ok (.lload 4, 2) := by decide +kernel
theorem dX3_leastAfter_59 : decode cX3_leastAfter 59 = .ok (.ldc2_w 40, 3) := by decide +kernel
theorem dX3_leastAfter_62 : decode cX3_leastAfter 62 = .ok (.lcmp, 1) := by decide +kernel
theorem dX3_leastAfter_63 : decode cX3_leastAfter 63 = .ok (.ifCond .ne 8, 3) := by decide +kernel
theorem dX3_leastAfter_66 : decode cX3_leastAfter 66 = .ok (.lload 7, 2) := by decide +kernel
theorem dX3_leastAfter_68 : decode cX3_leastAfter 68 = .ok (.goto 10, 3) := by decide +kernel
theorem dX3_leastAfter_71 : decode cX3_leastAfter 71 = .ok (.lload 4, 2) := by decide +kernel
theorem dX3_leastAfter_73 : decode cX3_leastAfter 73 = .ok (.lload 7, 2) := by decide +kernel
theorem dX3_leastAfter_75 : decode cX3_leastAfter 75 = .ok (.invokestatic 55, 3) := by decide +kernel
theorem dX3_leastAfter_78 : decode cX3_leastAfter 78 = .ok (.lstore 4, 2) := by decide +kernel
theorem dX3_leastAfter_80 : decode cX3_leastAfter 80 = .ok (.iinc 6 1, 3) := by decide +kernel
theorem dX3_leastAfter_83 : decode cX3_leastAfter 83 = .ok (.goto (-68), 3) := by decide +kernel
theorem dX3_leastAfter_86 : decode cX3_leastAfter 86 = .ok (.lload 4, 2) := by decide +kernel
theorem dX3_leastAfter_88 : decode cX3_leastAfter 88 = .ok (.lreturn, 1) := by decide +kernel
theorem dX3_firstToCome_0 : decode cX3_firstToCome 0 = .ok (.aload_n 0, 1) := by decide +kernel
theorem dX3_firstToCome_1 : decode cX3_firstToCome 1 = .ok (.aload_n 1, 1) := by decide +kernel
theorem dX3_firstToCome_2 : decode cX3_firstToCome 2 = .ok (.aload_n 2, 1) := by decide +kernel
theorem dX3_firstToCome_3 : decode cX3_firstToCome 3 = .ok (.iload_n 3, 1) := by decide +kernel
theorem dX3_firstToCome_4 : decode cX3_firstToCome 4 = .ok (.invokevirtual 36, 3) := by decide +kernel
theorem dX3_firstToCome_7 : decode cX3_firstToCome 7 = .ok (.iconst 0, 1) := by decide +kernel
theorem dX3_firstToCome_8 : decode cX3_firstToCome 8 = .ok (.istore 4, 2) := by decide +kernel
theorem dX3_firstToCome_10 : decode cX3_firstToCome 10 = .ok (.iload 4, 2) := by decide +kernel
theorem dX3_firstToCome_12 : decode cX3_firstToCome 12 = .ok (.aload_n 2, 1) := by decide +kernel
theorem dX3_firstToCome_13 : decode cX3_firstToCome 13 = .ok (.getfield 22, 3) := by decide +kernel
theorem dX3_firstToCome_16 : decode cX3_firstToCome 16 = .ok (.if_icmp .ge 60, 3) := by decide +kernel
theorem dX3_firstToCome_19 : decode cX3_firstToCome 19 = .ok (.iload_n 3, 1) := by decide +kernel
theorem dX3_firstToCome_20 : decode cX3_firstToCome 20 = .ok (.iload 4, 2) := by decide +kernel
theorem dX3_firstToCome_22 : decode cX3_firstToCome 22 = .ok (.invokestatic 42, 3) := by decide +kernel
theorem dX3_firstToCome_25 : decode cX3_firstToCome 25 = .ok (.ifCond .ne 45, 3) := by decide +kernel
theorem dX3_firstToCome_28 : decode cX3_firstToCome 28 = .ok (.aload_n 0, 1) := by decide +kernel
theorem dX3_firstToCome_29 : decode cX3_firstToCome 29 = .ok (.getfield 9, 3) := by decide +kernel
theorem dX3_firstToCome_32 : decode cX3_firstToCome 32 = .ok (.iload_n 3, 1) := by decide +kernel
theorem dX3_firstToCome_33 : decode cX3_firstToCome 33 = .ok (.iconst 1, 1) := by decide +kernel
theorem dX3_firstToCome_34 : decode cX3_firstToCome 34 = .ok (.iload 4, 2) := by decide +kernel
theorem dX3_firstToCome_36 : decode cX3_firstToCome 36 = .ok (.ishl, 1) := by decide +kernel
theorem dX3_firstToCome_37 : decode cX3_firstToCome 37 = .ok (.ior, 1) := by decide +kernel
theorem dX3_firstToCome_38 : decode cX3_firstToCome 38 = .ok (.laload, 1) := by decide +kernel
theorem dX3_firstToCome_39 : decode cX3_firstToCome 39 = .ok (.aload_n 0, 1) := by decide +kernel
theorem dX3_firstToCome_40 : decode cX3_firstToCome 40 = .ok (.getfield 9, 3) := by decide +kernel
theorem dX3_firstToCome_43 : decode cX3_firstToCome 43 = .ok (.iconst 0, 1) := by decide +kernel
theorem dX3_firstToCome_44 : decode cX3_firstToCome 44 = .ok (.laload, 1) := by decide +kernel
theorem dX3_firstToCome_45 : decode cX3_firstToCome 45 = .ok (.lcmp, 1) := by decide +kernel
theorem dX3_firstToCome_46 : decode cX3_firstToCome 46 = .ok (.ifCond .gt 24, 3) := by decide +kernel
theorem dX3_firstToCome_49 : decode cX3_firstToCome 49 = .ok (.aload_n 0, 1) := by decide +kernel
theorem dX3_firstToCome_50 : decode cX3_firstToCome 50 = .ok (.aload_n 1, 1) := by decide +kernel
theorem dX3_firstToCome_51 : decode cX3_firstToCome 51 = .ok (.aload_n 2, 1) := by decide +kernel
theorem dX3_firstToCome_52 : decode cX3_firstToCome 52 = .ok (.iload 4, 2) := by decide +kernel
theorem dX3_firstToCome_54 : decode cX3_firstToCome 54 = .ok (.invokevirtual 46, 3) := by decide +kernel
theorem dX3_firstToCome_57 : decode cX3_firstToCome 57 = .ok (.aload_n 0, 1) := by decide +kernel
theorem dX3_firstToCome_58 : decode cX3_firstToCome 58 = .ok (.getfield 9, 3) := by decide +kernel
theorem dX3_firstToCome_61 : decode cX3_firstToCome 61 = .ok (.iconst 0, 1) := by decide +kernel
theorem dX3_firstToCome_62 : decode cX3_firstToCome 62 = .ok (.laload, 1) := by decide +kernel
theorem dX3_firstToCome_63 : decode cX3_firstToCome 63 = .ok (.lcmp, 1) := by decide +kernel
theorem dX3_firstToCome_64 : decode cX3_firstToCome 64 = .ok (.ifCond .gt 6, 3) := by decide +kernel
theorem dX3_firstToCome_67 : decode cX3_firstToCome 67 = .ok (.iload 4, 2) := by decide +kernel
theorem dX3_firstToCome_69 : decode cX3_firstToCome 69 = .ok (.ireturn, 1) := by decide +kernel
theorem dX3_firstToCome_70 : decode cX3_firstToCome 70 = .ok (.iinc 4 1, 3) := by decide +kernel
theorem dX3_firstToCome_73 : decode cX3_firstToCome 73 = .ok (.goto (-63), 3) := by decide +kernel
theorem dX3_firstToCome_76 : decode cX3_firstToCome 76 = .ok (.iconst (-1), 1) := by decide +kernel
theorem dX3_firstToCome_77 : decode cX3_firstToCome 77 = .ok (.ireturn, 1) := by decide +kernel
theorem dX3_weighAwake_0 : decode cX3_weighAwake 0 = .ok (.iconst 0, 1) := by decide +kernel
theorem dX3_weighAwake_1 : decode cX3_weighAwake 1 = .ok (.istore 4, 2) := by decide +kernel
theorem dX3_weighAwake_3 : decode cX3_weighAwake 3 = .ok (.iload 4, 2) := by decide +kernel
theorem dX3_weighAwake_5 : decode cX3_weighAwake 5 = .ok (.aload_n 1, 1) := by decide +kernel
theorem dX3_weighAwake_6 : decode cX3_weighAwake 6 = .ok (.getfield 58, 3) := by decide +kernel
theorem dX3_weighAwake_9 : decode cX3_weighAwake 9 = .ok (.if_icmp .ge 77, 3) := by decide +kernel
theorem dX3_weighAwake_12 : decode cX3_weighAwake 12 = .ok (.lconst 0, 1) := by decide +kernel
theorem dX3_weighAwake_13 : decode cX3_weighAwake 13 = .ok (.lstore 5, 2) := by decide +kernel
theorem dX3_weighAwake_15 : decode cX3_weighAwake 15 = .ok (.iconst 0, 1) := by decide +kernel
theorem dX3_weighAwake_16 : decode cX3_weighAwake 16 = .ok (.istore 7, 2) := by decide +kernel
theorem dX3_weighAwake_18 : decode cX3_weighAwake 18 = .ok (.iload 7, 2) := by decide +kernel
theorem dX3_weighAwake_20 : decode cX3_weighAwake 20 = .ok (.aload_n 2, 1) := by decide +kernel
theorem dX3_weighAwake_21 : decode cX3_weighAwake 21 = .ok (.getfield 22, 3) := by decide +kernel
theorem dX3_weighAwake_24 : decode cX3_weighAwake 24 = .ok (.if_icmp .ge 47, 3) := by decide +kernel
theorem dX3_weighAwake_27 : decode cX3_weighAwake 27 = .ok (.iload_n 3, 1) := by decide +kernel
theorem dX3_weighAwake_28 : decode cX3_weighAwake 28 = .ok (.iload 7, 2) := by decide +kernel
theorem dX3_weighAwake_30 : decode cX3_weighAwake 30 = .ok (.invokestatic 42, 3) := by decide +kernel
theorem dX3_weighAwake_33 : decode cX3_weighAwake 33 = .ok (.ifCond .eq 32, 3) := by decide +kernel
theorem dX3_weighAwake_36 : decode cX3_weighAwake 36 = .ok (.lload 5, 2) := by decide +kernel
theorem dX3_weighAwake_38 : decode cX3_weighAwake 38 = .ok (.aload_n 1, 1) := by decide +kernel
theorem dX3_weighAwake_39 : decode cX3_weighAwake 39 = .ok (.getfield 63, 3) := by decide +kernel
theorem dX3_weighAwake_42 : decode cX3_weighAwake 42 = .ok (.iload 4, 2) := by decide +kernel
theorem dX3_weighAwake_44 : decode cX3_weighAwake 44 = .ok (.aaload, 1) := by decide +kernel
theorem dX3_weighAwake_45 : decode cX3_weighAwake 45 = .ok (.aload_n 2, 1) := by decide +kernel
theorem dX3_weighAwake_46 : decode cX3_weighAwake 46 = .ok (.getfield 67, 3) := by decide +kernel
theorem dX3_weighAwake_49 : decode cX3_weighAwake 49 = .ok (.iload 7, 2) := by decide +kernel
theorem dX3_weighAwake_51 : decode cX3_weighAwake 51 = .ok (.iaload, 1) := by decide +kernel
theorem dX3_weighAwake_52 : decode cX3_weighAwake 52 = .ok (.laload, 1) := by decide +kernel
theorem dX3_weighAwake_53 : decode cX3_weighAwake 53 = .ok (.aload_n 2, 1) := by decide +kernel
theorem dX3_weighAwake_54 : decode cX3_weighAwake 54 = .ok (.getfield 70, 3) := by decide +kernel
theorem dX3_weighAwake_57 : decode cX3_weighAwake 57 = .ok (.iload 7, 2) := by decide +kernel
theorem dX3_weighAwake_59 : decode cX3_weighAwake 59 = .ok (.iaload, 1) := by decide +kernel
theorem dX3_weighAwake_60 : decode cX3_weighAwake 60 = .ok (.i2l, 1) := by decide +kernel
theorem dX3_weighAwake_61 : decode cX3_weighAwake 61 = .ok (.lmul, 1) := by decide +kernel
theorem dX3_weighAwake_62 : decode cX3_weighAwake 62 = .ok (.ladd, 1) := by decide +kernel
theorem dX3_weighAwake_63 : decode cX3_weighAwake 63 = .ok (.lstore 5, 2) := by decide +kernel
theorem dX3_weighAwake_65 : decode cX3_weighAwake 65 = .ok (.iinc 7 1, 3) := by decide +kernel
theorem dX3_weighAwake_68 : decode cX3_weighAwake 68 = .ok (.goto (-50), 3) := by decide +kernel
theorem dX3_weighAwake_71 : decode cX3_weighAwake 71 = .ok (.aload_n 0, 1) := by decide +kernel
theorem dX3_weighAwake_72 : decode cX3_weighAwake 72 = .ok (.getfield 15, 3) := by decide +kernel
theorem dX3_weighAwake_75 : decode cX3_weighAwake 75 = .ok (.iload 4, 2) := by decide +kernel
theorem dX3_weighAwake_77 : decode cX3_weighAwake 77 = .ok (.lload 5, 2) := by decide +kernel
theorem dX3_weighAwake_79 : decode cX3_weighAwake 79 = .ok (.lastore, 1) := by decide +kernel
theorem dX3_weighAwake_80 : decode cX3_weighAwake 80 = .ok (.iinc 4 1, 3) := by decide +kernel
theorem dX3_weighAwake_83 : decode cX3_weighAwake 83 = .ok (.goto (-80), 3) := by decide +kernel
theorem dX3_weighAwake_86 : decode cX3_weighAwake 86 = .ok (.return_, 1) := by decide +kernel
theorem dX3_peakOf_0 : decode cX3_peakOf 0 = .ok (.iconst 3, 1) := by decide +kernel
theorem dX3_peakOf_1 : decode cX3_peakOf 1 = .ok (.aload_n 2, 1) := by decide +kernel
theorem dX3_peakOf_2 : decode cX3_peakOf 2 = .ok (.getfield 70, 3) := by decide +kernel
theorem dX3_peakOf_5 : decode cX3_peakOf 5 = .ok (.iload_n 3, 1) := by decide +kernel
theorem dX3_peakOf_6 : decode cX3_peakOf 6 = .ok (.iaload, 1) := by decide +kernel
theorem dX3_peakOf_7 : decode cX3_peakOf 7 = .ok (.imul, 1) := by decide +kernel
theorem dX3_peakOf_8 : decode cX3_peakOf 8 = .ok (.i2l, 1) := by decide +kernel
theorem dX3_peakOf_9 : decode cX3_peakOf 9 = .ok (.lstore 4, 2) := by decide +kernel
theorem dX3_peakOf_11 : decode cX3_peakOf 11 = .ok (.lconst 0, 1) := by decide +kernel
theorem dX3_peakOf_12 : decode cX3_peakOf 12 = .ok (.lstore 6, 2) := by decide +kernel
theorem dX3_peakOf_14 : decode cX3_peakOf 14 = .ok (.iconst 0, 1) := by decide +kernel
theorem dX3_peakOf_15 : decode cX3_peakOf 15 = .ok (.istore 8, 2) := by decide +kernel
theorem dX3_peakOf_17 : decode cX3_peakOf 17 = .ok (.iload 8, 2) := by decide +kernel
theorem dX3_peakOf_19 : decode cX3_peakOf 19 = .ok (.aload_n 1, 1) := by decide +kernel
theorem dX3_peakOf_20 : decode cX3_peakOf 20 = .ok (.getfield 58, 3) := by decide +kernel
theorem dX3_peakOf_23 : decode cX3_peakOf 23 = .ok (.if_icmp .ge 41, 3) := by decide +kernel
theorem dX3_peakOf_26 : decode cX3_peakOf 26 = .ok (.lload 6, 2) := by decide +kernel
theorem dX3_peakOf_28 : decode cX3_peakOf 28 = .ok (.aload_n 0, 1) := by decide +kernel
theorem dX3_peakOf_29 : decode cX3_peakOf 29 = .ok (.getfield 15, 3) := by decide +kernel
theorem dX3_peakOf_32 : decode cX3_peakOf 32 = .ok (.iload 8, 2) := by decide +kernel
theorem dX3_peakOf_34 : decode cX3_peakOf 34 = .ok (.laload, 1) := by decide +kernel
theorem dX3_peakOf_35 : decode cX3_peakOf 35 = .ok (.aload_n 1, 1) := by decide +kernel
theorem dX3_peakOf_36 : decode cX3_peakOf 36 = .ok (.getfield 63, 3) := by decide +kernel
theorem dX3_peakOf_39 : decode cX3_peakOf 39 = .ok (.iload 8, 2) := by decide +kernel
theorem dX3_peakOf_41 : decode cX3_peakOf 41 = .ok (.aaload, 1) := by decide +kernel
theorem dX3_peakOf_42 : decode cX3_peakOf 42 = .ok (.aload_n 2, 1) := by decide +kernel
theorem dX3_peakOf_43 : decode cX3_peakOf 43 = .ok (.getfield 67, 3) := by decide +kernel
theorem dX3_peakOf_46 : decode cX3_peakOf 46 = .ok (.iload_n 3, 1) := by decide +kernel
theorem dX3_peakOf_47 : decode cX3_peakOf 47 = .ok (.iaload, 1) := by decide +kernel
theorem dX3_peakOf_48 : decode cX3_peakOf 48 = .ok (.laload, 1) := by decide +kernel
theorem dX3_peakOf_49 : decode cX3_peakOf 49 = .ok (.lload 4, 2) := by decide +kernel
theorem dX3_peakOf_51 : decode cX3_peakOf 51 = .ok (.lmul, 1) := by decide +kernel
theorem dX3_peakOf_52 : decode cX3_peakOf 52 = .ok (.ladd, 1) := by decide +kernel
theorem dX3_peakOf_53 : decode cX3_peakOf 53 = .ok (.invokestatic 49, 3) := by decide +kernel
theorem dX3_peakOf_56 : decode cX3_peakOf 56 = .ok (.lstore 6, 2) := by decide +kernel
theorem dX3_peakOf_58 : decode cX3_peakOf 58 = .ok (.iinc 8 1, 3) := by decide +kernel
theorem dX3_peakOf_61 : decode cX3_peakOf 61 = .ok (.goto (-44), 3) := by decide +kernel
theorem dX3_peakOf_64 : decode cX3_peakOf 64 = .ok (.lload 6, 2) := by decide +kernel
theorem dX3_peakOf_66 : decode cX3_peakOf 66 = .ok (.lreturn, 1) := by decide +kernel
theorem dX4_init_0 : decode cX4_init 0 = .ok (.aload_n 0, 1) := by decide +kernel
theorem dX4_init_1 : decode cX4_init 1 = .ok (.invokespecial 3, 3) := by decide +kernel
theorem dX4_init_4 : decode cX4_init 4 = .ok (.aload_n 0, 1) := by decide +kernel
theorem dX4_init_5 : decode cX4_init 5 = .ok (.iconst 4, 1) := by decide +kernel
theorem dX4_init_6 : decode cX4_init 6 = .ok (.anewarray 9, 3) := by decide +kernel
theorem dX4_init_9 : decode cX4_init 9 = .ok (.putfield 11, 3) := by decide +kernel
theorem dX4_init_12 : decode cX4_init 12 = .ok (.iconst 0, 1) := by decide +kernel
theorem dX4_init_13 : decode cX4_init 13 = .ok (.istore_n 1, 1) := by decide +kernel
theorem dX4_init_14 : decode cX4_init 14 = .ok (.iload_n 1, 1) := by decide +kernel
theorem dX4_init_15 : decode cX4_init 15 = .ok (.iconst 3, 1) := by decide +kernel
theorem dX4_init_16 : decode cX4_init 16 = .ok (.if_icmp .gt 22, 3) := by decide +kernel
theorem dX4_init_19 : decode cX4_init 19 = .ok (.aload_n 0, 1) := by decide +kernel
theorem dX4_init_20 : decode cX4_init 20 = .ok (.getfield 11, 3) := by decide +kernel
theorem dX4_init_23 : decode cX4_init 23 = .ok (.iload_n 1, 1) := by decide +kernel
theorem dX4_init_24 : decode cX4_init 24 = .ok (.new 9, 3) := by decide +kernel
theorem dX4_init_27 : decode cX4_init 27 = .ok (.dup, 1) := by decide +kernel
theorem dX4_init_28 : decode cX4_init 28 = .ok (.invokespecial 17, 3) := by decide +kernel
theorem dX4_init_31 : decode cX4_init 31 = .ok (.aastore, 1) := by decide +kernel
theorem dX4_init_32 : decode cX4_init 32 = .ok (.iinc 1 1, 3) := by decide +kernel
theorem dX4_init_35 : decode cX4_init 35 = .ok (.goto (-21), 3) := by decide +kernel
theorem dX4_init_38 : decode cX4_init 38 = .ok (.aload_n 0, 1) := by decide +kernel
theorem dX4_init_39 : decode cX4_init 39 = .ok (.bipush 12, 2) := by decide +kernel
theorem dX4_init_41 : decode cX4_init 41 = .ok (.newarray .int, 2) := by decide +kernel
theorem dX4_init_43 : decode cX4_init 43 = .ok (.putfield 18, 3) := by decide +kernel
theorem dX4_init_46 : decode cX4_init 46 = .ok (.aload_n 0, 1) := by decide +kernel
theorem dX4_init_47 : decode cX4_init 47 = .ok (.bipush 12, 2) := by decide +kernel
theorem dX4_init_49 : decode cX4_init 49 = .ok (.newarray .int, 2) := by decide +kernel
theorem dX4_init_51 : decode cX4_init 51 = .ok (.putfield 22, 3) := by decide +kernel
theorem dX4_init_54 : decode cX4_init 54 = .ok (.aload_n 0, 1) := by decide +kernel
theorem dX4_init_55 : decode cX4_init 55 = .ok (.iconst (-1), 1) := by decide +kernel
theorem dX4_init_56 : decode cX4_init 56 = .ok (.putfield 25, 3) := by decide +kernel
theorem dX4_init_59 : decode cX4_init 59 = .ok (.aload_n 0, 1) := by decide +kernel
theorem dX4_init_60 : decode cX4_init 60 = .ok (.iconst 0, 1) := by decide +kernel
theorem dX4_init_61 : decode cX4_init 61 = .ok (.putfield 29, 3) := by decide +kernel
theorem dX4_init_64 : decode cX4_init 64 = .ok (.aload_n 0, 1) := by decide +kernel
theorem dX4_init_65 : decode cX4_init 65 = .ok (.iconst 0, 1) := by decide +kernel
theorem dX4_init_66 : decode cX4_init 66 = .ok (.putfield 32, 3) := by decide +kernel
theorem dX4_init_69 : decode cX4_init 69 = .ok (.aload_n 0, 1) := by decide +kernel
theorem dX4_init_70 : decode cX4_init 70 = .ok (.iconst 0, 1) := by decide +kernel
theorem dX4_init_71 : decode cX4_init 71 = .ok (.putfield 35, 3) := by decide +kernel
theorem dX4_init_74 : decode cX4_init 74 = .ok (.return_, 1) := by decide +kernel
theorem dX4_search_0 : decode cX4_search 0 = .ok (.aload_n 0, 1) := by decide +kernel
theorem dX4_search_1 : decode cX4_search 1 = .ok (.getfield 11, 3) := by decide +kernel
theorem dX4_search_4 : decode cX4_search 4 = .ok (.iconst 0, 1) := by decide +kernel
theorem dX4_search_5 : decode cX4_search 5 = .ok (.aaload, 1) := by decide +kernel
theorem dX4_search_6 : decode cX4_search 6 = .ok (.aload_n 1, 1) := by decide +kernel
theorem dX4_search_7 : decode cX4_search 7 = .ok (.aload_n 1, 1) := by decide +kernel
theorem dX4_search_8 : decode cX4_search 8 = .ok (.getfield 38, 3) := by decide +kernel
theorem dX4_search_11 : decode cX4_search 11 = .ok (.invokevirtual 43, 3) := by decide +kernel
theorem dX4_search_14 : decode cX4_search 14 = .ok (.ifCond .ne 6, 3) := by decide +kernel
theorem dX4_search_17 : decode cX4_search 17 = .ok (.bipush (-3), 2) := by decide +kernel
theorem dX4_search_19 : decode cX4_search 19 = .ok (.ireturn, 1) := by decide +kernel
theorem dX4_search_20 : decode cX4_search 20 = .ok (.iconst 0, 1) := by decide +kernel
theorem dX4_search_21 : decode cX4_search 21 = .ok (.istore 4, 2) := by decide +kernel
theorem dX4_search_23 : decode cX4_search 23 = .ok (.iload 4, 2) := by decide +kernel
theorem dX4_search_25 : decode cX4_search 25 = .ok (.bipush 12, 2) := by decide +kernel
theorem dX4_search_27 : decode cX4_search 27 = .ok (.if_icmp .ge 17, 3) := by decide +kernel
theorem dX4_search_30 : decode cX4_search 30 = .ok (.aload_n 0, 1) := by decide +kernel
theorem dX4_search_31 : decode cX4_search 31 = .ok (.getfield 18, 3) := by decide +kernel
theorem dX4_search_34 : decode cX4_search 34 = .ok (.iload 4, 2) := by decide +kernel
theorem dX4_search_36 : decode cX4_search 36 = .ok (.iconst 0, 1) := by decide +kernel
theorem dX4_search_37 : decode cX4_search 37 = .ok (.iastore, 1) := by decide +kernel
theorem dX4_search_38 : decode cX4_search 38 = .ok (.iinc 4 1, 3) := by decide +kernel
theorem dX4_search_41 : decode cX4_search 41 = .ok (.goto (-18), 3) := by decide +kernel
theorem dX4_search_44 : decode cX4_search 44 = .ok (.aload_n 0, 1) := by decide +kernel
theorem dX4_search_45 : decode cX4_search 45 = .ok (.iload_n 2, 1) := by decide +kernel
theorem dX4_search_46 : decode cX4_search 46 = .ok (.putfield 32, 3) := by decide +kernel
theorem dX4_search_49 : decode cX4_search 49 = .ok (.aload_n 0, 1) := by decide +kernel
theorem dX4_search_50 : decode cX4_search 50 = .ok (.iload_n 3, 1) := by decide +kernel
theorem dX4_search_51 : decode cX4_search 51 = .ok (.putfield 35, 3) := by decide +kernel
theorem dX4_search_54 : decode cX4_search 54 = .ok (.aload_n 0, 1) := by decide +kernel
theorem dX4_search_55 : decode cX4_search 55 = .ok (.iconst (-1), 1) := by decide +kernel
theorem dX4_search_56 : decode cX4_search 56 = .ok (.putfield 25, 3) := by decide +kernel
theorem dX4_search_59 : decode cX4_search 59 = .ok (.aload_n 0, 1) := by decide +kernel
theorem dX4_search_60 : decode cX4_search 60 = .ok (.aload_n 1, 1) := by decide +kernel
theorem dX4_search_61 : decode cX4_search 61 = .ok (.iconst 0, 1) := by decide +kernel
theorem dX4_search_62 : decode cX4_search 62 = .ok (.iconst 0, 1) := by decide +kernel
theorem dX4_search_63 : decode cX4_search 63 = .ok (.iconst 0, 1) := by decide +kernel
theorem dX4_search_64 : decode cX4_search 64 = .ok (.invokestatic 47, 3) := by decide +kernel
theorem dX4_search_67 : decode cX4_search 67 = .ok (.aload_n 0, 1) := by decide +kernel
theorem dX4_search_68 : decode cX4_search 68 = .ok (.getfield 25, 3) := by decide +kernel
theorem dX4_search_71 : decode cX4_search 71 = .ok (.ireturn, 1) := by decide +kernel
theorem dX4_tryFrom_0 : decode cX4_tryFrom 0 = .ok (.iload_n 3, 1) := by decide +kernel
theorem dX4_tryFrom_1 : decode cX4_tryFrom 1 = .ok (.ifCond .lt 16, 3) := by decide +kernel
theorem dX4_tryFrom_4 : decode cX4_tryFrom 4 = .ok (.iload_n 3, 1) := by decide +kernel
theorem dX4_tryFrom_5 : decode cX4_tryFrom 5 = .ok (.aload_n 0, 1) := by decide +kernel
theorem dX4_tryFrom_6 : decode cX4_tryFrom 6 = .ok (.getfield 35, 3) := by decide +kernel
theorem dX4_tryFrom_9 : decode cX4_tryFrom 9 = .ok (.if_icmp .gt 8, 3) := by decide +kernel
theorem dX4_tryFrom_12 : decode cX4_tryFrom 12 = .ok (.iload_n 3, 1) := by decide +kernel
theorem dX4_tryFrom_13 : decode cX4_tryFrom 13 = .ok (.iconst 3, 1) := by decide +kernel
theorem dX4_tryFrom_14 : decode cX4_tryFrom 14 = .ok (.if_icmp .le 4, 3) := by decide +kernel
theorem dX4_tryFrom_17 : decode cX4_tryFrom 17 = .ok (.return_, 1) := by decide +kernel
theorem dX4_tryFrom_18 : decode cX4_tryFrom 18 = .ok (.aload_n 0, 1) := by decide +kernel
theorem dX4_tryFrom_19 : decode cX4_tryFrom 19 = .ok (.getfield 11, 3) := by decide +kernel
theorem dX4_tryFrom_22 : decode cX4_tryFrom 22 = .ok (.iload_n 3, 1) := by decide +kernel
theorem dX4_tryFrom_23 : decode cX4_tryFrom 23 = .ok (.aaload, 1) := by decide +kernel
theorem dX4_tryFrom_24 : decode cX4_tryFrom 24 = .ok (.aload_n 0, 1) := by decide +kernel
theorem dX4_tryFrom_25 : decode cX4_tryFrom 25 = .ok (.getfield 32, 3) := by decide +kernel
theorem dX4_tryFrom_28 : decode cX4_tryFrom 28 = .ok (.invokevirtual 51, 3) := by decide +kernel
theorem dX4_tryFrom_31 : decode cX4_tryFrom 31 = .ok (.ifCond .eq 10, 3) := by decide +kernel
theorem dX4_tryFrom_34 : decode cX4_tryFrom 34 = .ok (.aload_n 0, 1) := by decide +kernel
theorem dX4_tryFrom_35 : decode cX4_tryFrom 35 = .ok (.iload_n 3, 1) := by decide +kernel
theorem dX4_tryFrom_36 : decode cX4_tryFrom 36 = .ok (.iload 4, 2) := by decide +kernel
theorem dX4_tryFrom_38 : decode cX4_tryFrom 38 = .ok (.invokevirtual 55, 3) := by decide +kernel
theorem dX4_tryFrom_41 : decode cX4_tryFrom 41 = .ok (.iload_n 3, 1) := by decide +kernel
theorem dX4_tryFrom_42 : decode cX4_tryFrom 42 = .ok (.aload_n 0, 1) := by decide +kernel
theorem dX4_tryFrom_43 : decode cX4_tryFrom 43 = .ok (.getfield 35, 3) := by decide +kernel
theorem dX4_tryFrom_46 : decode cX4_tryFrom 46 = .ok (.if_icmp .ne 4, 3) := by decide +kernel
theorem dX4_tryFrom_49 : decode cX4_tryFrom 49 = .ok (.return_, 1) := by decide +kernel
theorem dX4_tryFrom_50 : decode cX4_tryFrom 50 = .ok (.iload_n 2, 1) := by decide +kernel
theorem dX4_tryFrom_51 : decode cX4_tryFrom 51 = .ok (.istore 5, 2) := by decide +kernel
theorem dX4_tryFrom_53 : decode cX4_tryFrom 53 = .ok (.iload 5, 2) := by decide +kernel
theorem dX4_tryFrom_55 : decode cX4_tryFrom 55 = .ok (.aload_n 1, 1) := by decide +kernel
theorem dX4_tryFrom_56 : decode cX4_tryFrom 56 = .ok (.getfield 59, 3) := by decide +kernel
theorem dX4_tryFrom_59 : decode cX4_tryFrom 59 = .ok (.if_icmp .ge 75, 3) := by decide +kernel
theorem dX4_tryFrom_62 : decode cX4_tryFrom 62 = .ok (.iload 4, 2) := by decide +kernel
theorem dX4_tryFrom_64 : decode cX4_tryFrom 64 = .ok (.aload_n 1, 1) := by decide +kernel
theorem dX4_tryFrom_65 : decode cX4_tryFrom 65 = .ok (.getfield 62, 3) := by decide +kernel
theorem dX4_tryFrom_68 : decode cX4_tryFrom 68 = .ok (.iload 5, 2) := by decide +kernel
theorem dX4_tryFrom_70 : decode cX4_tryFrom 70 = .ok (.iaload, 1) := by decide +kernel
theorem dX4_tryFrom_71 : decode cX4_tryFrom 71 = .ok (.iadd, 1) := by decide +kernel
theorem dX4_tryFrom_72 : decode cX4_tryFrom 72 = .ok (.istore 6, 2) := by decide +kernel
theorem dX4_tryFrom_74 : decode cX4_tryFrom 74 = .ok (.aload_n 0, 1) := by decide +kernel
theorem dX4_tryFrom_75 : decode cX4_tryFrom 75 = .ok (.iload 6, 2) := by decide +kernel
theorem dX4_tryFrom_77 : decode cX4_tryFrom 77 = .ok (.invokevirtual 65, 3) := by decide +kernel
theorem dX4_tryFrom_80 : decode cX4_tryFrom 80 = .ok (.ifCond .ne 48, 3) := by decide +kernel
theorem dX4_tryFrom_83 : decode cX4_tryFrom 83 = .ok (.aload_n 0, 1) := by decide +kernel
theorem dX4_tryFrom_84 : decode cX4_tryFrom 84 = .ok (.aload_n 1, 1) := by decide +kernel
theorem dX4_tryFrom_85 : decode cX4_tryFrom 85 = .ok (.iload 5, 2) := by decide +kernel
theorem dX4_tryFrom_87 : decode cX4_tryFrom 87 = .ok (.iload_n 3, 1) := by decide +kernel
theorem dX4_tryFrom_88 : decode cX4_tryFrom 88 = .ok (.invokevirtual 68, 3) := by decide +kernel
theorem dX4_tryFrom_91 : decode cX4_tryFrom 91 = .ok (.ifCond .eq 37, 3) := by decide +kernel
theorem dX4_tryFrom_94 : decode cX4_tryFrom 94 = .ok (.aload_n 0, 1) := by decide +kernel
theorem dX4_tryFrom_95 : decode cX4_tryFrom 95 = .ok (.getfield 18, 3) := by decide +kernel
theorem dX4_tryFrom_98 : decode cX4_tryFrom 98 = .ok (.iload 5, 2) := by decide +kernel
theorem dX4_tryFrom_100 : decode cX4_tryFrom 100 = .ok (.dup2, 1) := by decide +kernel
theorem dX4_tryFrom_101 : decode cX4_tryFrom 101 = .ok (.iaload, 1) := by decide +kernel
theorem dX4_tryFrom_102 : decode cX4_tryFrom 102 = .ok (.iconst 1, 1) := by decide +kernel
theorem dX4_tryFrom_103 : decode cX4_tryFrom 103 = .ok (.iadd, 1) := by decide +kernel
theorem dX4_tryFrom_104 : decode cX4_tryFrom 104 = .ok (.iastore, 1) := by decide +kernel
theorem dX4_tryFrom_105 : decode cX4_tryFrom 105 = .ok (.aload_n 0, 1) := by decide +kernel
theorem dX4_tryFrom_106 : decode cX4_tryFrom 106 = .ok (.aload_n 1, 1) := by decide +kernel
theorem dX4_tryFrom_107 : decode cX4_tryFrom 107 = .ok (.iload 5, 2) := by decide +kernel
theorem dX4_tryFrom_109 : decode cX4_tryFrom 109 = .ok (.iload_n 3, 1) := by decide +kernel
theorem dX4_tryFrom_110 : decode cX4_tryFrom 110 = .ok (.iconst 1, 1) := by decide +kernel
theorem dX4_tryFrom_111 : decode cX4_tryFrom 111 = .ok (.iadd, 1) := by decide +kernel
theorem dX4_tryFrom_112 : decode cX4_tryFrom 112 = .ok (.iload 6, 2) := by decide +kernel
theorem dX4_tryFrom_114 : decode cX4_tryFrom 114 = .ok (.invokestatic 47, 3) := by decide +kernel
theorem dX4_tryFrom_117 : decode cX4_tryFrom 117 = .ok (.aload_n 0, 1) := by decide +kernel
theorem dX4_tryFrom_118 : decode cX4_tryFrom 118 = .ok (.getfield 18, 3) := by decide +kernel
theorem dX4_tryFrom_121 : decode cX4_tryFrom 121 = .ok (.iload 5, 2) := by decide +kernel
theorem dX4_tryFrom_123 : decode cX4_tryFrom 123 = .ok (.dup2, 1) := by decide +kernel
theorem dX4_tryFrom_124 : decode cX4_tryFrom 124 = .ok (.iaload, 1) := by decide +kernel
theorem dX4_tryFrom_125 : decode cX4_tryFrom 125 = .ok (.iconst 1, 1) := by decide +kernel
theorem dX4_tryFrom_126 : decode cX4_tryFrom 126 = .ok (.isub, 1) := by decide +kernel
theorem dX4_tryFrom_127 : decode cX4_tryFrom 127 = .ok (.iastore, 1) := by decide +kernel
theorem dX4_tryFrom_128 : decode cX4_tryFrom 128 = .ok (.iinc 5 1, 3) := by decide +kernel
theorem dX4_tryFrom_131 : decode cX4_tryFrom 131 = .ok (.goto (-78), 3) := by decide +kernel
theorem dX4_tryFrom_134 : decode cX4_tryFrom 134 = .ok (.return_, 1) := by decide +kernel
theorem dX4_isTooDear_0 : decode cX4_isTooDear 0 = .ok (.aload_n 0, 1) := by decide +kernel
theorem dX4_isTooDear_1 : decode cX4_isTooDear 1 = .ok (.getfield 25, 3) := by decide +kernel
theorem dX4_isTooDear_4 : decode cX4_isTooDear 4 = .ok (.iconst (-1), 1) := by decide +kernel
theorem dX4_isTooDear_5 : decode cX4_isTooDear 5 = .ok (.if_icmp .eq 15, 3) := by decide +kernel
theorem dX4_isTooDear_8 : decode cX4_isTooDear 8 = .ok (.iload_n 1, 1) := by decide +kernel
theorem dX4_isTooDear_9 : decode cX4_isTooDear 9 = .ok (.aload_n 0, 1) := by decide +kernel
theorem dX4_isTooDear_10 : decode cX4_isTooDear 10 = .ok (.getfield 25, 3) := by decide +kernel
theorem dX4_isTooDear_13 : decode cX4_isTooDear 13 = .ok (.if_icmp .le 7, 3) := by decide +kernel
theorem dX4_isTooDear_16 : decode cX4_isTooDear 16 = .ok (.iconst 1, 1) := by decide +kernel
theorem dX4_isTooDear_17 : decode cX4_isTooDear 17 = .ok (.goto 4, 3) := by decide +kernel
theorem dX4_isTooDear_20 : decode cX4_isTooDear 20 = .ok (.iconst 0, 1) := by decide +kernel
theorem dX4_isTooDear_21 : decode cX4_isTooDear 21 = .ok (.ireturn, 1) := by decide +kernel
theorem dX4_step_0 : decode cX4_step 0 = .ok (.iload_n 3, 1) := by decide +kernel
theorem dX4_step_1 : decode cX4_step 1 = .ok (.iconst 3, 1) := by decide +kernel
theorem dX4_step_2 : decode cX4_step 2 = .ok (.if_icmp .ge 21, 3) := by decide +kernel
theorem dX4_step_5 : decode cX4_step 5 = .ok (.aload_n 1, 1) := by decide +kernel
theorem dX4_step_6 : decode cX4_step 6 = .ok (.getfield 72, 3) := by decide +kernel
theorem dX4_step_9 : decode cX4_step 9 = .ok (.iload_n 2, 1) := by decide +kernel
theorem dX4_step_10 : decode cX4_step 10 = .ok (.iaload, 1) := by decide +kernel
theorem dX4_step_11 : decode cX4_step 11 = .ok (.aload_n 0, 1) := by decide +kernel
theorem dX4_step_12 : decode cX4_step 12 = .ok (.getfield 18, 3) := by decide +kernel
theorem dX4_step_15 : decode cX4_step 15 = .ok (.iload_n 2, 1) := by decide +kernel
theorem dX4_step_16 : decode cX4_step 16 = .ok (.iaload, 1) := by decide +kernel
theorem dX4_step_17 : decode cX4_step 17 = .ok (.iadd, 1) := by decide +kernel
theorem dX4_step_18 : decode cX4_step 18 = .ok (.bipush 6, 2) := by decide +kernel
theorem dX4_step_20 : decode cX4_step 20 = .ok (.if_icmp .lt 5, 3) := by decide +kernel
theorem dX4_step_23 : decode cX4_step 23 = .ok (.iconst 0, 1) := by decide +kernel
theorem dX4_step_24 : decode cX4_step 24 = .ok (.ireturn, 1) := by decide +kernel
theorem dX4_step_25 : decode cX4_step 25 = .ok (.aload_n 0, 1) := by decide +kernel
theorem dX4_step_26 : decode cX4_step 26 = .ok (.getfield 11, 3) := by decide +kernel
theorem dX4_step_29 : decode cX4_step 29 = .ok (.iload_n 3, 1) := by decide +kernel
theorem dX4_step_30 : decode cX4_step 30 = .ok (.aaload, 1) := by decide +kernel
theorem dX4_step_31 : decode cX4_step 31 = .ok (.astore 4, 2) := by decide +kernel
theorem dX4_step_33 : decode cX4_step 33 = .ok (.aload_n 0, 1) := by decide +kernel
theorem dX4_step_34 : decode cX4_step 34 = .ok (.getfield 11, 3) := by decide +kernel
theorem dX4_step_37 : decode cX4_step 37 = .ok (.iload_n 3, 1) := by decide +kernel
theorem dX4_step_38 : decode cX4_step 38 = .ok (.iconst 1, 1) := by decide +kernel
theorem dX4_step_39 : decode cX4_step 39 = .ok (.iadd, 1) := by decide +kernel
theorem dX4_step_40 : decode cX4_step 40 = .ok (.aaload, 1) := by decide +kernel
theorem dX4_step_41 : decode cX4_step 41 = .ok (.astore 5, 2) := by decide +kernel
theorem dX4_step_43 : decode cX4_step 43 = .ok (.aload 5, 2) := by decide +kernel
theorem dX4_step_45 : decode cX4_step 45 = .ok (.aload 4, 2) := by decide +kernel
theorem dX4_step_47 : decode cX4_step 47 = .ok (.aload_n 1, 1) := by decide +kernel
theorem dX4_step_48 : decode cX4_step 48 = .ok (.getfield 75, 3) := by decide +kernel
theorem dX4_step_51 : decode cX4_step 51 = .ok (.iload_n 2, 1) := by decide +kernel
theorem dX4_step_52 : decode cX4_step 52 = .ok (.iaload, 1) := by decide +kernel
theorem dX4_step_53 : decode cX4_step 53 = .ok (.aload_n 1, 1) := by decide +kernel
theorem dX4_step_54 : decode cX4_step 54 = .ok (.getfield 78, 3) := by decide +kernel
theorem dX4_step_57 : decode cX4_step 57 = .ok (.iload_n 2, 1) := by decide +kernel
theorem dX4_step_58 : decode cX4_step 58 = .ok (.iaload, 1) := by decide +kernel
theorem dX4_step_59 : decode cX4_step 59 = .ok (.iconst 1, 1) := by decide +kernel
theorem dX4_step_60 : decode cX4_step 60 = .ok (.invokevirtual 81, 3) := by decide +kernel
theorem dX4_step_63 : decode cX4_step 63 = .ok (.ifCond .ne 5, 3) := by decide +kernel
theorem dX4_step_66 : decode cX4_step 66 = .ok (.iconst 0, 1) := by decide +kernel
theorem dX4_step_67 : decode cX4_step 67 = .ok (.ireturn, 1) := by decide +kernel
theorem dX4_step_68 : decode cX4_step 68 = .ok (.iload_n 3, 1) := by decide +kernel
theorem dX4_step_69 : decode cX4_step 69 = .ok (.iconst 1, 1) := by decide +kernel
theorem dX4_step_70 : decode cX4_step 70 = .ok (.iadd, 1) := by decide +kernel
theorem dX4_step_71 : decode cX4_step 71 = .ok (.aload_n 0, 1) := by decide +kernel
theorem dX4_step_72 : decode cX4_step 72 = .ok (.getfield 35, 3) := by decide +kernel
theorem dX4_step_75 : decode cX4_step 75 = .ok (.if_icmp .ge 11, 3) := by decide +kernel
theorem dX4_step_78 : decode cX4_step 78 = .ok (.aload 5, 2) := by decide +kernel
theorem dX4_step_80 : decode cX4_step 80 = .ok (.aload 4, 2) := by decide +kernel
theorem dX4_step_82 : decode cX4_step 82 = .ok (.iconst 1, 1) := by decide +kernel
theorem dX4_step_83 : decode cX4_step 83 = .ok (.invokevirtual 85, 3) := by decide +kernel
theorem dX4_step_86 : decode cX4_step 86 = .ok (.iconst 1, 1) := by decide +kernel
theorem dX4_step_87 : decode cX4_step 87 = .ok (.ireturn, 1) := by decide +kernel
theorem dX4_keepIfBetter_0 : decode cX4_keepIfBetter 0 = .ok (.aload_n 0, 1) := by decide +kernel
theorem dX4_keepIfBetter_1 : decode cX4_keepIfBetter 1 = .ok (.getfield 25, 3) := by decide +kernel
theorem dX4_keepIfBetter_4 : decode cX4_keepIfBetter 4 = .ok (.iconst (-1), 1) := by decide +kernel
theorem dX4_keepIfBetter_5 : decode cX4_keepIfBetter 5 = .ok (.if_icmp .eq 27, 3) := by decide +kernel
theorem dX4_keepIfBetter_8 : decode cX4_keepIfBetter 8 = .ok (.iload_n 2, 1) := by decide +kernel
theorem dX4_keepIfBetter_9 : decode cX4_keepIfBetter 9 = .ok (.aload_n 0, 1) := by decide +kernel
theorem dX4_keepIfBetter_10 : decode cX4_keepIfBetter 10 = .ok (.getfield 25, 3) := by decide +kernel
theorem dX4_keepIfBetter_13 : decode cX4_keepIfBetter 13 = .ok (.if_icmp .lt 19, 3) := by decide +kernel
theorem dX4_keepIfBetter_16 : decode cX4_keepIfBetter 16 = .ok (.iload_n 2, 1) := by decide +kernel
theorem dX4_keepIfBetter_17 : decode cX4_keepIfBetter 17 = .ok (.aload_n 0, 1) := by decide +kernel
theorem dX4_keepIfBetter_18 : decode cX4_keepIfBetter 18 = .ok (.getfield 25, 3) := by decide +kernel
theorem dX4_keepIfBetter_21 : decode cX4_keepIfBetter 21 = .ok (.if_icmp .ne 15, 3) := by decide +kernel
theorem dX4_keepIfBetter_24 : decode cX4_keepIfBetter 24 = .ok (.iload_n 1, 1) := by decide +kernel
theorem dX4_keepIfBetter_25 : decode cX4_keepIfBetter 25 = .ok (.aload_n 0, 1) := by decide +kernel
theorem dX4_keepIfBetter_26 : decode cX4_keepIfBetter 26 = .ok (.getfield 29, 3) := by decide +kernel
theorem dX4_keepIfBetter_29 : decode cX4_keepIfBetter 29 = .ok (.if_icmp .ge 7, 3) := by decide +kernel
theorem dX4_keepIfBetter_32 : decode cX4_keepIfBetter 32 = .ok (.iconst 1, 1) := by decide +kernel
theorem dX4_keepIfBetter_33 : decode cX4_keepIfBetter 33 = .ok (.goto 4, 3) := by decide +kernel
theorem dX4_keepIfBetter_36 : decode cX4_keepIfBetter 36 = .ok (.iconst 0, 1) := by decide +kernel
theorem dX4_keepIfBetter_37 : decode cX4_keepIfBetter 37 = .ok (.istore_n 3, 1) := by decide +kernel
theorem dX4_keepIfBetter_38 : decode cX4_keepIfBetter 38 = .ok (.iload_n 3, 1) := by decide +kernel
theorem dX4_keepIfBetter_39 : decode cX4_keepIfBetter 39 = .ok (.ifCond .eq 28, 3) := by decide +kernel
theorem dX4_keepIfBetter_42 : decode cX4_keepIfBetter 42 = .ok (.aload_n 0, 1) := by decide +kernel
theorem dX4_keepIfBetter_43 : decode cX4_keepIfBetter 43 = .ok (.iload_n 2, 1) := by decide +kernel
theorem dX4_keepIfBetter_44 : decode cX4_keepIfBetter 44 = .ok (.putfield 25, 3) := by decide +kernel
theorem dX4_keepIfBetter_47 : decode cX4_keepIfBetter 47 = .ok (.aload_n 0, 1) := by decide +kernel
theorem dX4_keepIfBetter_48 : decode cX4_keepIfBetter 48 = .ok (.iload_n 1, 1) := by decide +kernel
theorem dX4_keepIfBetter_49 : decode cX4_keepIfBetter 49 = .ok (.putfield 29, 3) := by decide +kernel
theorem dX4_keepIfBetter_52 : decode cX4_keepIfBetter 52 = .ok (.aload_n 0, 1) := by decide +kernel
theorem dX4_keepIfBetter_53 : decode cX4_keepIfBetter 53 = .ok (.getfield 18, 3) := by decide +kernel
theorem dX4_keepIfBetter_56 : decode cX4_keepIfBetter 56 = .ok (.iconst 0, 1) := by decide +kernel
theorem dX4_keepIfBetter_57 : decode cX4_keepIfBetter 57 = .ok (.aload_n 0, 1) := by decide +kernel
theorem dX4_keepIfBetter_58 : decode cX4_keepIfBetter 58 = .ok (.getfield 22, 3) := by decide +kernel
theorem dX4_keepIfBetter_61 : decode cX4_keepIfBetter 61 = .ok (.iconst 0, 1) := by decide +kernel
theorem dX4_keepIfBetter_62 : decode cX4_keepIfBetter 62 = .ok (.bipush 12, 2) := by decide +kernel
theorem dX4_keepIfBetter_64 : decode cX4_keepIfBetter 64 = .ok (.invokestatic 89, 3) := by decide +kernel
theorem dX4_keepIfBetter_67 : decode cX4_keepIfBetter 67 = .ok (.return_, 1) := by decide +kernel
theorem dX5_init_0 : decode cX5_init 0 = .ok (.aload_n 0, 1) := by decide +kernel
theorem dX5_init_1 : decode cX5_init 1 = .ok (.invokespecial 1, 3) := by decide +kernel
theorem dX5_init_4 : decode cX5_init 4 = .ok (.aload_n 0, 1) := by decide +kernel
theorem dX5_init_5 : decode cX5_init 5 = .ok (.new 7, 3) := by decide +kernel
theorem dX5_init_8 : decode cX5_init 8 = .ok (.dup, 1) := by decide +kernel
theorem dX5_init_9 : decode cX5_init 9 = .ok (.invokespecial 9, 3) := by decide +kernel
theorem dX5_init_12 : decode cX5_init 12 = .ok (.putfield 10, 3) := by decide +kernel
theorem dX5_init_15 : decode cX5_init 15 = .ok (.aload_n 0, 1) := by decide +kernel
theorem dX5_init_16 : decode cX5_init 16 = .ok (.new 16, 3) := by decide +kernel
theorem dX5_init_19 : decode cX5_init 19 = .ok (.dup, 1) := by decide +kernel
theorem dX5_init_20 : decode cX5_init 20 = .ok (.invokespecial 18, 3) := by decide +kernel
theorem dX5_init_23 : decode cX5_init 23 = .ok (.putfield 19, 3) := by decide +kernel
theorem dX5_init_26 : decode cX5_init 26 = .ok (.aload_n 0, 1) := by decide +kernel
theorem dX5_init_27 : decode cX5_init 27 = .ok (.new 23, 3) := by decide +kernel
theorem dX5_init_30 : decode cX5_init 30 = .ok (.dup, 1) := by decide +kernel
theorem dX5_init_31 : decode cX5_init 31 = .ok (.invokespecial 25, 3) := by decide +kernel
theorem dX5_init_34 : decode cX5_init 34 = .ok (.putfield 26, 3) := by decide +kernel
theorem dX5_init_37 : decode cX5_init 37 = .ok (.aload_n 0, 1) := by decide +kernel
theorem dX5_init_38 : decode cX5_init 38 = .ok (.new 23, 3) := by decide +kernel
theorem dX5_init_41 : decode cX5_init 41 = .ok (.dup, 1) := by decide +kernel
theorem dX5_init_42 : decode cX5_init 42 = .ok (.invokespecial 25, 3) := by decide +kernel
theorem dX5_init_45 : decode cX5_init 45 = .ok (.putfield 30, 3) := by decide +kernel
theorem dX5_init_48 : decode cX5_init 48 = .ok (.aload_n 0, 1) := by decide +kernel
theorem dX5_init_49 : decode cX5_init 49 = .ok (.new 33, 3) := by decide +kernel
theorem dX5_init_52 : decode cX5_init 52 = .ok (.dup, 1) := by decide +kernel
theorem dX5_init_53 : decode cX5_init 53 = .ok (.invokespecial 35, 3) := by decide +kernel
theorem dX5_init_56 : decode cX5_init 56 = .ok (.putfield 36, 3) := by decide +kernel
theorem dX5_init_59 : decode cX5_init 59 = .ok (.aload_n 0, 1) := by decide +kernel
theorem dX5_init_60 : decode cX5_init 60 = .ok (.new 40, 3) := by decide +kernel
theorem dX5_init_63 : decode cX5_init 63 = .ok (.dup, 1) := by decide +kernel
theorem dX5_init_64 : decode cX5_init 64 = .ok (.invokespecial 42, 3) := by decide +kernel
theorem dX5_init_67 : decode cX5_init 67 = .ok (.putfield 43, 3) := by decide +kernel
theorem dX5_init_70 : decode cX5_init 70 = .ok (.return_, 1) := by decide +kernel
theorem dX5_net_0 : decode cX5_net 0 = .ok (.iload_n 1, 1) := by decide +kernel
theorem dX5_net_1 : decode cX5_net 1 = .ok (.iconst 2, 1) := by decide +kernel
theorem dX5_net_2 : decode cX5_net 2 = .ok (.bipush 7, 2) := by decide +kernel
theorem dX5_net_4 : decode cX5_net 4 = .ok (.invokestatic 47, 3) := by decide +kernel
theorem dX5_net_7 : decode cX5_net 7 = .ok (.ifCond .ne 6, 3) := by decide +kernel
theorem dX5_net_10 : decode cX5_net 10 = .ok (.bipush (-2), 2) := by decide +kernel
theorem dX5_net_12 : decode cX5_net 12 = .ok (.ireturn, 1) := by decide +kernel
theorem dX5_net_13 : decode cX5_net 13 = .ok (.aload_n 0, 1) := by decide +kernel
theorem dX5_net_14 : decode cX5_net 14 = .ok (.getfield 10, 3) := by decide +kernel
theorem dX5_net_17 : decode cX5_net 17 = .ok (.iload_n 1, 1) := by decide +kernel
theorem dX5_net_18 : decode cX5_net 18 = .ok (.invokevirtual 51, 3) := by decide +kernel
theorem dX5_net_21 : decode cX5_net 21 = .ok (.aload_n 0, 1) := by decide +kernel
theorem dX5_net_22 : decode cX5_net 22 = .ok (.getfield 19, 3) := by decide +kernel
theorem dX5_net_25 : decode cX5_net 25 = .ok (.invokevirtual 55, 3) := by decide +kernel
theorem dX5_net_28 : decode cX5_net 28 = .ok (.iconst 1, 1) := by decide +kernel
theorem dX5_net_29 : decode cX5_net 29 = .ok (.ireturn, 1) := by decide +kernel
theorem dX5_wire_0 : decode cX5_wire 0 = .ok (.aload_n 0, 1) := by decide +kernel
theorem dX5_wire_1 : decode cX5_wire 1 = .ok (.getfield 10, 3) := by decide +kernel
theorem dX5_wire_4 : decode cX5_wire 4 = .ok (.iload_n 1, 1) := by decide +kernel
theorem dX5_wire_5 : decode cX5_wire 5 = .ok (.invokevirtual 57, 3) := by decide +kernel
theorem dX5_wire_8 : decode cX5_wire 8 = .ok (.ifCond .eq 19, 3) := by decide +kernel
theorem dX5_wire_11 : decode cX5_wire 11 = .ok (.aload_n 0, 1) := by decide +kernel
theorem dX5_wire_12 : decode cX5_wire 12 = .ok (.getfield 10, 3) := by decide +kernel
theorem dX5_wire_15 : decode cX5_wire 15 = .ok (.iload_n 2, 1) := by decide +kernel
theorem dX5_wire_16 : decode cX5_wire 16 = .ok (.invokevirtual 57, 3) := by decide +kernel
theorem dX5_wire_19 : decode cX5_wire 19 = .ok (.ifCond .eq 8, 3) := by decide +kernel
theorem dX5_wire_22 : decode cX5_wire 22 = .ok (.iload_n 1, 1) := by decide +kernel
theorem dX5_wire_23 : decode cX5_wire 23 = .ok (.iload_n 2, 1) := by decide +kernel
theorem dX5_wire_24 : decode cX5_wire 24 = .ok (.if_icmp .ne 6, 3) := by decide +kernel
theorem dX5_wire_27 : decode cX5_wire 27 = .ok (.bipush (-2), 2) := by decide +kernel
theorem dX5_wire_29 : decode cX5_wire 29 = .ok (.ireturn, 1) := by decide +kernel
theorem dX5_wire_30 : decode cX5_wire 30 = .ok (.iload_n 3, 1) := by decide +kernel
theorem dX5_wire_31 : decode cX5_wire 31 = .ok (.iconst 1, 1) := by decide +kernel
theorem dX5_wire_32 : decode cX5_wire 32 = .ok (.bipush 6, 2) := by decide +kernel
theorem dX5_wire_34 : decode cX5_wire 34 = .ok (.invokestatic 47, 3) := by decide +kernel
theorem dX5_wire_37 : decode cX5_wire 37 = .ok (.ifCond .eq 14, 3) := by decide +kernel
theorem dX5_wire_40 : decode cX5_wire 40 = .ok (.iload 4, 2) := by decide +kernel
theorem dX5_wire_42 : decode cX5_wire 42 = .ok (.iconst 1, 1) := by decide +kernel
theorem dX5_wire_43 : decode cX5_wire 43 = .ok (.bipush 100, 2) := by decide +kernel
theorem dX5_wire_45 : decode cX5_wire 45 = .ok (.invokestatic 47, 3) := by decide +kernel
theorem dX5_wire_48 : decode cX5_wire 48 = .ok (.ifCond .ne 6, 3) := by decide +kernel
theorem dX5_wire_51 : decode cX5_wire 51 = .ok (.bipush (-2), 2) := by decide +kernel
theorem dX5_wire_53 : decode cX5_wire 53 = .ok (.ireturn, 1) := by decide +kernel
theorem dX5_wire_54 : decode cX5_wire 54 = .ok (.aload_n 0, 1) := by decide +kernel
theorem dX5_wire_55 : decode cX5_wire 55 = .ok (.getfield 10, 3) := by decide +kernel
theorem dX5_wire_58 : decode cX5_wire 58 = .ok (.getfield 61, 3) := by decide +kernel
theorem dX5_wire_61 : decode cX5_wire 61 = .ok (.bipush 12, 2) := by decide +kernel
theorem dX5_wire_63 : decode cX5_wire 63 = .ok (.if_icmp .lt 6, 3) := by decide +kernel
theorem dX5_wire_66 : decode cX5_wire 66 = .ok (.bipush (-4), 2) := by decide +kernel
theorem dX5_wire_68 : decode cX5_wire 68 = .ok (.ireturn, 1) := by decide +kernel
theorem dX5_wire_69 : decode cX5_wire 69 = .ok (.aload_n 0, 1) := by decide +kernel
theorem dX5_wire_70 : decode cX5_wire 70 = .ok (.getfield 10, 3) := by decide +kernel
theorem dX5_wire_73 : decode cX5_wire 73 = .ok (.iload_n 1, 1) := by decide +kernel
theorem dX5_wire_74 : decode cX5_wire 74 = .ok (.iload_n 2, 1) := by decide +kernel
theorem dX5_wire_75 : decode cX5_wire 75 = .ok (.iload_n 3, 1) := by decide +kernel
theorem dX5_wire_76 : decode cX5_wire 76 = .ok (.iload 4, 2) := by decide +kernel
theorem dX5_wire_78 : decode cX5_wire 78 = .ok (.invokevirtual 65, 3) := by decide +kernel
theorem dX5_wire_81 : decode cX5_wire 81 = .ok (.ireturn, 1) := by decide +kernel
theorem dX5_width_0 : decode cX5_width 0 = .ok (.aload_n 0, 1) := by decide +kernel
theorem dX5_width_1 : decode cX5_width 1 = .ok (.getfield 10, 3) := by decide +kernel
theorem dX5_width_4 : decode cX5_width 4 = .ok (.iload_n 1, 1) := by decide +kernel
theorem dX5_width_5 : decode cX5_width 5 = .ok (.invokevirtual 69, 3) := by decide +kernel
theorem dX5_width_8 : decode cX5_width 8 = .ok (.ifCond .eq 13, 3) := by decide +kernel
theorem dX5_width_11 : decode cX5_width 11 = .ok (.iload_n 2, 1) := by decide +kernel
theorem dX5_width_12 : decode cX5_width 12 = .ok (.iconst 1, 1) := by decide +kernel
theorem dX5_width_13 : decode cX5_width 13 = .ok (.bipush 6, 2) := by decide +kernel
theorem dX5_width_15 : decode cX5_width 15 = .ok (.invokestatic 47, 3) := by decide +kernel
theorem dX5_width_18 : decode cX5_width 18 = .ok (.ifCond .ne 6, 3) := by decide +kernel
theorem dX5_width_21 : decode cX5_width 21 = .ok (.bipush (-2), 2) := by decide +kernel
theorem dX5_width_23 : decode cX5_width 23 = .ok (.ireturn, 1) := by decide +kernel
theorem dX5_width_24 : decode cX5_width 24 = .ok (.aload_n 0, 1) := by decide +kernel
theorem dX5_width_25 : decode cX5_width 25 = .ok (.getfield 10, 3) := by decide +kernel
theorem dX5_width_28 : decode cX5_width 28 = .ok (.getfield 72, 3) := by decide +kernel
theorem dX5_width_31 : decode cX5_width 31 = .ok (.iload_n 1, 1) := by decide +kernel
theorem dX5_width_32 : decode cX5_width 32 = .ok (.iaload, 1) := by decide +kernel
theorem dX5_width_33 : decode cX5_width 33 = .ok (.istore_n 3, 1) := by decide +kernel
theorem dX5_width_34 : decode cX5_width 34 = .ok (.aload_n 0, 1) := by decide +kernel
theorem dX5_width_35 : decode cX5_width 35 = .ok (.getfield 10, 3) := by decide +kernel
theorem dX5_width_38 : decode cX5_width 38 = .ok (.getfield 72, 3) := by decide +kernel
theorem dX5_width_41 : decode cX5_width 41 = .ok (.iload_n 1, 1) := by decide +kernel
theorem dX5_width_42 : decode cX5_width 42 = .ok (.iload_n 2, 1) := by decide +kernel
theorem dX5_width_43 : decode cX5_width 43 = .ok (.iastore, 1) := by decide +kernel
theorem dX5_width_44 : decode cX5_width 44 = .ok (.iload_n 3, 1) := by decide +kernel
theorem dX5_width_45 : decode cX5_width 45 = .ok (.ireturn, 1) := by decide +kernel
theorem dX5_pad_0 : decode cX5_pad 0 = .ok (.aload_n 0, 1) := by decide +kernel
theorem dX5_pad_1 : decode cX5_pad 1 = .ok (.getfield 10, 3) := by decide +kernel
theorem dX5_pad_4 : decode cX5_pad 4 = .ok (.iload_n 1, 1) := by decide +kernel
theorem dX5_pad_5 : decode cX5_pad 5 = .ok (.invokevirtual 57, 3) := by decide +kernel
theorem dX5_pad_8 : decode cX5_pad 8 = .ok (.ifCond .ne 6, 3) := by decide +kernel
theorem dX5_pad_11 : decode cX5_pad 11 = .ok (.bipush (-2), 2) := by decide +kernel
theorem dX5_pad_13 : decode cX5_pad 13 = .ok (.ireturn, 1) := by decide +kernel
theorem dX5_pad_14 : decode cX5_pad 14 = .ok (.aload_n 0, 1) := by decide +kernel
theorem dX5_pad_15 : decode cX5_pad 15 = .ok (.getfield 10, 3) := by decide +kernel
theorem dX5_pad_18 : decode cX5_pad 18 = .ok (.iload_n 1, 1) := by decide +kernel
theorem dX5_pad_19 : decode cX5_pad 19 = .ok (.invokevirtual 76, 3) := by decide +kernel
theorem dX5_pad_22 : decode cX5_pad 22 = .ok (.iload_n 2, 1) := by decide +kernel
theorem dX5_pad_23 : decode cX5_pad 23 = .ok (.if_icmp .ne 6, 3) := by decide +kernel
theorem dX5_pad_26 : decode cX5_pad 26 = .ok (.bipush (-3), 2) := by decide +kernel
theorem dX5_pad_28 : decode cX5_pad 28 = .ok (.ireturn, 1) := by decide +kernel
theorem dX5_pad_29 : decode cX5_pad 29 = .ok (.aload_n 0, 1) := by decide +kernel
theorem dX5_pad_30 : decode cX5_pad 30 = .ok (.getfield 10, 3) := by decide +kernel
theorem dX5_pad_33 : decode cX5_pad 33 = .ok (.dup, 1) := by decide +kernel
theorem dX5_pad_34 : decode cX5_pad 34 = .ok (.getfield 79, 3) := by decide +kernel
theorem dX5_pad_37 : decode cX5_pad 37 = .ok (.iconst 1, 1) := by decide +kernel
theorem dX5_pad_38 : decode cX5_pad 38 = .ok (.iload_n 1, 1) := by decide +kernel
theorem dX5_pad_39 : decode cX5_pad 39 = .ok (.ishl, 1) := by decide +kernel
theorem dX5_pad_40 : decode cX5_pad 40 = .ok (.ixor, 1) := by decide +kernel
theorem dX5_pad_41 : decode cX5_pad 41 = .ok (.putfield 79, 3) := by decide +kernel
theorem dX5_pad_44 : decode cX5_pad 44 = .ok (.iconst 1, 1) := by decide +kernel
theorem dX5_pad_45 : decode cX5_pad 45 = .ok (.ireturn, 1) := by decide +kernel
theorem dX5_pull_0 : decode cX5_pull 0 = .ok (.aload_n 0, 1) := by decide +kernel
theorem dX5_pull_1 : decode cX5_pull 1 = .ok (.getfield 10, 3) := by decide +kernel
theorem dX5_pull_4 : decode cX5_pull 4 = .ok (.iload_n 1, 1) := by decide +kernel
theorem dX5_pull_5 : decode cX5_pull 5 = .ok (.invokevirtual 57, 3) := by decide +kernel
theorem dX5_pull_8 : decode cX5_pull 8 = .ok (.ifCond .eq 13, 3) := by decide +kernel
theorem dX5_pull_11 : decode cX5_pull 11 = .ok (.iload_n 2, 1) := by decide +kernel
theorem dX5_pull_12 : decode cX5_pull 12 = .ok (.iconst 0, 1) := by decide +kernel
theorem dX5_pull_13 : decode cX5_pull 13 = .ok (.bipush 100, 2) := by decide +kernel
theorem dX5_pull_15 : decode cX5_pull 15 = .ok (.invokestatic 47, 3) := by decide +kernel
theorem dX5_pull_18 : decode cX5_pull 18 = .ok (.ifCond .ne 6, 3) := by decide +kernel
theorem dX5_pull_21 : decode cX5_pull 21 = .ok (.bipush (-2), 2) := by decide +kernel
theorem dX5_pull_23 : decode cX5_pull 23 = .ok (.ireturn, 1) := by decide +kernel
theorem dX5_pull_24 : decode cX5_pull 24 = .ok (.aload_n 0, 1) := by decide +kernel
theorem dX5_pull_25 : decode cX5_pull 25 = .ok (.getfield 10, 3) := by decide +kernel
theorem dX5_pull_28 : decode cX5_pull 28 = .ok (.getfield 82, 3) := by decide +kernel
theorem dX5_pull_31 : decode cX5_pull 31 = .ok (.iload_n 1, 1) := by decide +kernel
theorem dX5_pull_32 : decode cX5_pull 32 = .ok (.iaload, 1) := by decide +kernel
theorem dX5_pull_33 : decode cX5_pull 33 = .ok (.istore_n 3, 1) := by decide +kernel
theorem dX5_pull_34 : decode cX5_pull 34 = .ok (.aload_n 0, 1) := by decide +kernel
theorem dX5_pull_35 : decode cX5_pull 35 = .ok (.getfield 10, 3) := by decide +kernel
theorem dX5_pull_38 : decode cX5_pull 38 = .ok (.getfield 82, 3) := by decide +kernel
theorem dX5_pull_41 : decode cX5_pull 41 = .ok (.iload_n 1, 1) := by decide +kernel
theorem dX5_pull_42 : decode cX5_pull 42 = .ok (.iload_n 2, 1) := by decide +kernel
theorem dX5_pull_43 : decode cX5_pull 43 = .ok (.iastore, 1) := by decide +kernel
theorem dX5_pull_44 : decode cX5_pull 44 = .ok (.iload_n 3, 1) := by decide +kernel
theorem dX5_pull_45 : decode cX5_pull 45 = .ok (.ireturn, 1) := by decide +kernel
theorem dX5_fall_0 : decode cX5_fall 0 = .ok (.aload_n 0, 1) := by decide +kernel
theorem dX5_fall_1 : decode cX5_fall 1 = .ok (.getfield 10, 3) := by decide +kernel
theorem dX5_fall_4 : decode cX5_fall 4 = .ok (.iload_n 1, 1) := by decide +kernel
theorem dX5_fall_5 : decode cX5_fall 5 = .ok (.invokevirtual 57, 3) := by decide +kernel
theorem dX5_fall_8 : decode cX5_fall 8 = .ok (.ifCond .eq 10, 3) := by decide +kernel
theorem dX5_fall_11 : decode cX5_fall 11 = .ok (.iload_n 2, 1) := by decide +kernel
theorem dX5_fall_12 : decode cX5_fall 12 = .ok (.invokestatic 85, 3) := by decide +kernel
theorem dX5_fall_15 : decode cX5_fall 15 = .ok (.ifCond .ne 7, 3) := by decide +kernel
theorem dX5_fall_18 : decode cX5_fall 18 = .ok (.ldc2_w 88, 3) := by decide +kernel
theorem dX5_fall_21 : decode cX5_fall 21 = .ok (.lreturn, 1) := by decide +kernel
theorem dX5_fall_22 : decode cX5_fall 22 = .ok (.aload_n 0, 1) := by decide +kernel
theorem dX5_fall_23 : decode cX5_fall 23 = .ok (.invokevirtual 90, 3) := by decide +kernel
theorem dX5_fall_26 : decode cX5_fall 26 = .ok (.ifCond .ne 7, 3) := by decide +kernel
theorem dX5_fall_29 : decode cX5_fall 29 = .ok (.ldc2_w 94, 3) := by decide +kernel
theorem dX5_fall_32 : decode cX5_fall 32 = .ok (.lreturn, 1) := by decide +kernel
theorem dX5_fall_33 : decode cX5_fall 33 = .ok (.aload_n 0, 1) := by decide +kernel
theorem dX5_fall_34 : decode cX5_fall 34 = .ok (.getfield 26, 3) := by decide +kernel
theorem dX5_fall_37 : decode cX5_fall 37 = .ok (.getfield 96, 3) := by decide +kernel
theorem dX5_fall_40 : decode cX5_fall 40 = .ok (.iload_n 1, 1) := by decide +kernel
theorem dX5_fall_41 : decode cX5_fall 41 = .ok (.laload, 1) := by decide +kernel
theorem dX5_fall_42 : decode cX5_fall 42 = .ok (.aload_n 0, 1) := by decide +kernel
theorem dX5_fall_43 : decode cX5_fall 43 = .ok (.getfield 26, 3) := by decide +kernel
theorem dX5_fall_46 : decode cX5_fall 46 = .ok (.getfield 100, 3) := by decide +kernel
theorem dX5_fall_49 : decode cX5_fall 49 = .ok (.iload_n 2, 1) := by decide +kernel
theorem dX5_fall_50 : decode cX5_fall 50 = .ok (.invokestatic 104, 3) := by decide +kernel
theorem dX5_fall_53 : decode cX5_fall 53 = .ok (.lreturn, 1) := by decide +kernel
theorem dX5_greatest_0 : decode cX5_greatest 0 = .ok (.aload_n 0, 1) := by decide +kernel
theorem dX5_greatest_1 : decode cX5_greatest 1 = .ok (.invokevirtual 90, 3) := by decide +kernel
theorem dX5_greatest_4 : decode cX5_greatest 4 = .ok (.ifCond .eq 13, 3) := by decide +kernel
theorem dX5_greatest_7 : decode cX5_greatest 7 = .ok (.aload_n 0, 1) := by decide +kernel
theorem dX5_greatest_8 : decode cX5_greatest 8 = .ok (.getfield 26, 3) := by decide +kernel
theorem dX5_greatest_11 : decode cX5_greatest 11 = .ok (.invokevirtual 108, 3) := by decide +kernel
theorem dX5_greatest_14 : decode cX5_greatest 14 = .ok (.goto 5, 3) := by decide +kernel
theorem dX5_greatest_17 : decode cX5_greatest 17 = .ok (.bipush (-3), 2) := by decide +kernel
theorem dX5_greatest_19 : decode cX5_greatest 19 = .ok (.ireturn, 1) := by decide +kernel
theorem dX5_flow_0 : decode cX5_flow 0 = .ok (.aload_n 0, 1) := by decide +kernel
theorem dX5_flow_1 : decode cX5_flow 1 = .ok (.getfield 10, 3) := by decide +kernel
theorem dX5_flow_4 : decode cX5_flow 4 = .ok (.iload_n 1, 1) := by decide +kernel
theorem dX5_flow_5 : decode cX5_flow 5 = .ok (.invokevirtual 69, 3) := by decide +kernel
theorem dX5_flow_8 : decode cX5_flow 8 = .ok (.ifCond .eq 10, 3) := by decide +kernel
theorem dX5_flow_11 : decode cX5_flow 11 = .ok (.iload_n 2, 1) := by decide +kernel
theorem dX5_flow_12 : decode cX5_flow 12 = .ok (.invokestatic 85, 3) := by decide +kernel
theorem dX5_flow_15 : decode cX5_flow 15 = .ok (.ifCond .ne 7, 3) := by decide +kernel
theorem dX5_flow_18 : decode cX5_flow 18 = .ok (.ldc2_w 112, 3) := by decide +kernel
theorem dX5_flow_21 : decode cX5_flow 21 = .ok (.lreturn, 1) := by decide +kernel
theorem dX5_flow_22 : decode cX5_flow 22 = .ok (.aload_n 0, 1) := by decide +kernel
theorem dX5_flow_23 : decode cX5_flow 23 = .ok (.invokevirtual 90, 3) := by decide +kernel
theorem dX5_flow_26 : decode cX5_flow 26 = .ok (.ifCond .ne 7, 3) := by decide +kernel
theorem dX5_flow_29 : decode cX5_flow 29 = .ok (.ldc2_w 114, 3) := by decide +kernel
theorem dX5_flow_32 : decode cX5_flow 32 = .ok (.lreturn, 1) := by decide +kernel
theorem dX5_flow_33 : decode cX5_flow 33 = .ok (.aload_n 0, 1) := by decide +kernel
theorem dX5_flow_34 : decode cX5_flow 34 = .ok (.getfield 26, 3) := by decide +kernel
theorem dX5_flow_37 : decode cX5_flow 37 = .ok (.getfield 96, 3) := by decide +kernel
theorem dX5_flow_40 : decode cX5_flow 40 = .ok (.aload_n 0, 1) := by decide +kernel
theorem dX5_flow_41 : decode cX5_flow 41 = .ok (.getfield 10, 3) := by decide +kernel
theorem dX5_flow_44 : decode cX5_flow 44 = .ok (.getfield 116, 3) := by decide +kernel
theorem dX5_flow_47 : decode cX5_flow 47 = .ok (.iload_n 1, 1) := by decide +kernel
theorem dX5_flow_48 : decode cX5_flow 48 = .ok (.iaload, 1) := by decide +kernel
theorem dX5_flow_49 : decode cX5_flow 49 = .ok (.laload, 1) := by decide +kernel
theorem dX5_flow_50 : decode cX5_flow 50 = .ok (.aload_n 0, 1) := by decide +kernel
theorem dX5_flow_51 : decode cX5_flow 51 = .ok (.getfield 26, 3) := by decide +kernel
theorem dX5_flow_54 : decode cX5_flow 54 = .ok (.getfield 96, 3) := by decide +kernel
theorem dX5_flow_57 : decode cX5_flow 57 = .ok (.aload_n 0, 1) := by decide +kernel
theorem dX5_flow_58 : decode cX5_flow 58 = .ok (.getfield 10, 3) := by decide +kernel
theorem dX5_flow_61 : decode cX5_flow 61 = .ok (.getfield 119, 3) := by decide +kernel
theorem dX5_flow_64 : decode cX5_flow 64 = .ok (.iload_n 1, 1) := by decide +kernel
theorem dX5_flow_65 : decode cX5_flow 65 = .ok (.iaload, 1) := by decide +kernel
theorem dX5_flow_66 : decode cX5_flow 66 = .ok (.laload, 1) := by decide +kernel
theorem dX5_flow_67 : decode cX5_flow 67 = .ok (.lsub, 1) := by decide +kernel
theorem dX5_flow_68 : decode cX5_flow 68 = .ok (.lstore_n 3, 1) := by decide +kernel
theorem dX5_flow_69 : decode cX5_flow 69 = .ok (.aload_n 0, 1) := by decide +kernel
theorem dX5_flow_70 : decode cX5_flow 70 = .ok (.getfield 10, 3) := by decide +kernel
theorem dX5_flow_73 : decode cX5_flow 73 = .ok (.getfield 72, 3) := by decide +kernel
theorem dX5_flow_76 : decode cX5_flow 76 = .ok (.iload_n 1, 1) := by decide +kernel
theorem dX5_flow_77 : decode cX5_flow 77 = .ok (.iaload, 1) := by decide +kernel
theorem dX5_flow_78 : decode cX5_flow 78 = .ok (.i2l, 1) := by decide +kernel
theorem dX5_flow_79 : decode cX5_flow 79 = .ok (.lload_n 3, 1) := by decide +kernel
theorem dX5_flow_80 : decode cX5_flow 80 = .ok (.lmul, 1) := by decide +kernel
theorem dX5_flow_81 : decode cX5_flow 81 = .ok (.aload_n 0, 1) := by decide +kernel
theorem dX5_flow_82 : decode cX5_flow 82 = .ok (.getfield 26, 3) := by decide +kernel
theorem dX5_flow_85 : decode cX5_flow 85 = .ok (.getfield 100, 3) := by decide +kernel
theorem dX5_flow_88 : decode cX5_flow 88 = .ok (.iload_n 2, 1) := by decide +kernel
theorem dX5_flow_89 : decode cX5_flow 89 = .ok (.invokestatic 104, 3) := by decide +kernel
theorem dX5_flow_92 : decode cX5_flow 92 = .ok (.lreturn, 1) := by decide +kernel
theorem dX5_resist_0 : decode cX5_resist 0 = .ok (.aload_n 0, 1) := by decide +kernel
theorem dX5_resist_1 : decode cX5_resist 1 = .ok (.getfield 10, 3) := by decide +kernel
theorem dX5_resist_4 : decode cX5_resist 4 = .ok (.iload_n 1, 1) := by decide +kernel
theorem dX5_resist_5 : decode cX5_resist 5 = .ok (.invokevirtual 57, 3) := by decide +kernel
theorem dX5_resist_8 : decode cX5_resist 8 = .ok (.ifCond .eq 21, 3) := by decide +kernel
theorem dX5_resist_11 : decode cX5_resist 11 = .ok (.aload_n 0, 1) := by decide +kernel
theorem dX5_resist_12 : decode cX5_resist 12 = .ok (.getfield 10, 3) := by decide +kernel
theorem dX5_resist_15 : decode cX5_resist 15 = .ok (.iload_n 2, 1) := by decide +kernel
theorem dX5_resist_16 : decode cX5_resist 16 = .ok (.invokevirtual 57, 3) := by decide +kernel
theorem dX5_resist_19 : decode cX5_resist 19 = .ok (.ifCond .eq 10, 3) := by decide +kernel
theorem dX5_resist_22 : decode cX5_resist 22 = .ok (.iload_n 3, 1) := by decide +kernel
theorem dX5_resist_23 : decode cX5_resist 23 = .ok (.invokestatic 85, 3) := by decide +kernel
theorem dX5_resist_26 : decode cX5_resist 26 = .ok (.ifCond .ne 7, 3) := by decide +kernel
theorem dX5_resist_29 : decode cX5_resist 29 = .ok (.ldc2_w 88, 3) := by decide +kernel
theorem dX5_resist_32 : decode cX5_resist 32 = .ok (.lreturn, 1) := by decide +kernel
theorem dX5_resist_33 : decode cX5_resist 33 = .ok (.aload_n 0, 1) := by decide +kernel
theorem dX5_resist_34 : decode cX5_resist 34 = .ok (.invokevirtual 90, 3) := by decide +kernel
theorem dX5_resist_37 : decode cX5_resist 37 = .ok (.ifCond .ne 7, 3) := by decide +kernel
theorem dX5_resist_40 : decode cX5_resist 40 = .ok (.ldc2_w 94, 3) := by decide +kernel
theorem dX5_resist_43 : decode cX5_resist 43 = .ok (.lreturn, 1) := by decide +kernel
theorem dX5_resist_44 : decode cX5_resist 44 = .ok (.aload_n 0, 1) := by decide +kernel
theorem dX5_resist_45 : decode cX5_resist 45 = .ok (.getfield 26, 3) := by decide +kernel
theorem dX5_resist_48 : decode cX5_resist 48 = .ok (.getfield 122, 3) := by decide +kernel
theorem dX5_resist_51 : decode cX5_resist 51 = .ok (.iload_n 1, 1) := by decide +kernel
theorem dX5_resist_52 : decode cX5_resist 52 = .ok (.aaload, 1) := by decide +kernel
theorem dX5_resist_53 : decode cX5_resist 53 = .ok (.iload_n 2, 1) := by decide +kernel
theorem dX5_resist_54 : decode cX5_resist 54 = .ok (.laload, 1) := by decide +kernel
theorem dX5_resist_55 : decode cX5_resist 55 = .ok (.aload_n 0, 1) := by decide +kernel
theorem dX5_resist_56 : decode cX5_resist 56 = .ok (.getfield 26, 3) := by decide +kernel
theorem dX5_resist_59 : decode cX5_resist 59 = .ok (.getfield 100, 3) := by decide +kernel
theorem dX5_resist_62 : decode cX5_resist 62 = .ok (.iload_n 3, 1) := by decide +kernel
theorem dX5_resist_63 : decode cX5_resist 63 = .ok (.invokestatic 104, 3) := by decide +kernel
theorem dX5_resist_66 : decode cX5_resist 66 = .ok (.lreturn, 1) := by decide +kernel
theorem dX5_block_0 : decode cX5_block 0 = .ok (.aload_n 0, 1) := by decide +kernel
theorem dX5_block_1 : decode cX5_block 1 = .ok (.getfield 10, 3) := by decide +kernel
theorem dX5_block_4 : decode cX5_block 4 = .ok (.iload_n 1, 1) := by decide +kernel
theorem dX5_block_5 : decode cX5_block 5 = .ok (.invokevirtual 57, 3) := by decide +kernel
theorem dX5_block_8 : decode cX5_block 8 = .ok (.ifCond .eq 13, 3) := by decide +kernel
theorem dX5_block_11 : decode cX5_block 11 = .ok (.iload_n 2, 1) := by decide +kernel
theorem dX5_block_12 : decode cX5_block 12 = .ok (.iconst 1, 1) := by decide +kernel
theorem dX5_block_13 : decode cX5_block 13 = .ok (.bipush 20, 2) := by decide +kernel
theorem dX5_block_15 : decode cX5_block 15 = .ok (.invokestatic 47, 3) := by decide +kernel
theorem dX5_block_18 : decode cX5_block 18 = .ok (.ifCond .ne 6, 3) := by decide +kernel
theorem dX5_block_21 : decode cX5_block 21 = .ok (.bipush (-2), 2) := by decide +kernel
theorem dX5_block_23 : decode cX5_block 23 = .ok (.ireturn, 1) := by decide +kernel
theorem dX5_block_24 : decode cX5_block 24 = .ok (.aload_n 0, 1) := by decide +kernel
theorem dX5_block_25 : decode cX5_block 25 = .ok (.getfield 19, 3) := by decide +kernel
theorem dX5_block_28 : decode cX5_block 28 = .ok (.getfield 126, 3) := by decide +kernel
theorem dX5_block_31 : decode cX5_block 31 = .ok (.bipush 6, 2) := by decide +kernel
theorem dX5_block_33 : decode cX5_block 33 = .ok (.if_icmp .lt 6, 3) := by decide +kernel
theorem dX5_block_36 : decode cX5_block 36 = .ok (.bipush (-4), 2) := by decide +kernel
theorem dX5_block_38 : decode cX5_block 38 = .ok (.ireturn, 1) := by decide +kernel
theorem dX5_block_39 : decode cX5_block 39 = .ok (.aload_n 0, 1) := by decide +kernel
theorem dX5_block_40 : decode cX5_block 40 = .ok (.getfield 19, 3) := by decide +kernel
theorem dX5_block_43 : decode cX5_block 43 = .ok (.iload_n 1, 1) := by decide +kernel
theorem dX5_block_44 : decode cX5_block 44 = .ok (.iload_n 2, 1) := by decide +kernel
theorem dX5_block_45 : decode cX5_block 45 = .ok (.invokevirtual 129, 3) := by decide +kernel
theorem dX5_block_48 : decode cX5_block 48 = .ok (.ireturn, 1) := by decide +kernel
theorem dX5_budget_0 : decode cX5_budget 0 = .ok (.iload_n 1, 1) := by decide +kernel
theorem dX5_budget_1 : decode cX5_budget 1 = .ok (.iconst 0, 1) := by decide +kernel
theorem dX5_budget_2 : decode cX5_budget 2 = .ok (.bipush 100, 2) := by decide +kernel
theorem dX5_budget_4 : decode cX5_budget 4 = .ok (.invokestatic 47, 3) := by decide +kernel
theorem dX5_budget_7 : decode cX5_budget 7 = .ok (.ifCond .ne 6, 3) := by decide +kernel
theorem dX5_budget_10 : decode cX5_budget 10 = .ok (.bipush (-2), 2) := by decide +kernel
theorem dX5_budget_12 : decode cX5_budget 12 = .ok (.ireturn, 1) := by decide +kernel
theorem dX5_budget_13 : decode cX5_budget 13 = .ok (.aload_n 0, 1) := by decide +kernel
theorem dX5_budget_14 : decode cX5_budget 14 = .ok (.getfield 19, 3) := by decide +kernel
theorem dX5_budget_17 : decode cX5_budget 17 = .ok (.getfield 133, 3) := by decide +kernel
theorem dX5_budget_20 : decode cX5_budget 20 = .ok (.istore_n 2, 1) := by decide +kernel
theorem dX5_budget_21 : decode cX5_budget 21 = .ok (.aload_n 0, 1) := by decide +kernel
theorem dX5_budget_22 : decode cX5_budget 22 = .ok (.getfield 19, 3) := by decide +kernel
theorem dX5_budget_25 : decode cX5_budget 25 = .ok (.iload_n 1, 1) := by decide +kernel
theorem dX5_budget_26 : decode cX5_budget 26 = .ok (.putfield 133, 3) := by decide +kernel
theorem dX5_budget_29 : decode cX5_budget 29 = .ok (.iload_n 2, 1) := by decide +kernel
theorem dX5_budget_30 : decode cX5_budget 30 = .ok (.ireturn, 1) := by decide +kernel
theorem dX5_worst_0 : decode cX5_worst 0 = .ok (.aload_n 0, 1) := by decide +kernel
theorem dX5_worst_1 : decode cX5_worst 1 = .ok (.getfield 10, 3) := by decide +kernel
theorem dX5_worst_4 : decode cX5_worst 4 = .ok (.iload_n 1, 1) := by decide +kernel
theorem dX5_worst_5 : decode cX5_worst 5 = .ok (.invokevirtual 57, 3) := by decide +kernel
theorem dX5_worst_8 : decode cX5_worst 8 = .ok (.ifCond .eq 14, 3) := by decide +kernel
theorem dX5_worst_11 : decode cX5_worst 11 = .ok (.aload_n 0, 1) := by decide +kernel
theorem dX5_worst_12 : decode cX5_worst 12 = .ok (.getfield 19, 3) := by decide +kernel
theorem dX5_worst_15 : decode cX5_worst 15 = .ok (.iload_n 2, 1) := by decide +kernel
theorem dX5_worst_16 : decode cX5_worst 16 = .ok (.invokevirtual 136, 3) := by decide +kernel
theorem dX5_worst_19 : decode cX5_worst 19 = .ok (.ifCond .ne 6, 3) := by decide +kernel
theorem dX5_worst_22 : decode cX5_worst 22 = .ok (.bipush (-2), 2) := by decide +kernel
theorem dX5_worst_24 : decode cX5_worst 24 = .ok (.ireturn, 1) := by decide +kernel
theorem dX5_worst_25 : decode cX5_worst 25 = .ok (.aload_n 0, 1) := by decide +kernel
theorem dX5_worst_26 : decode cX5_worst 26 = .ok (.invokevirtual 90, 3) := by decide +kernel
theorem dX5_worst_29 : decode cX5_worst 29 = .ok (.ifCond .ne 6, 3) := by decide +kernel
theorem dX5_worst_32 : decode cX5_worst 32 = .ok (.bipush (-3), 2) := by decide +kernel
theorem dX5_worst_34 : decode cX5_worst 34 = .ok (.ireturn, 1) := by decide +kernel
theorem dX5_worst_35 : decode cX5_worst 35 = .ok (.aload_n 0, 1) := by decide +kernel
theorem dX5_worst_36 : decode cX5_worst 36 = .ok (.getfield 19, 3) := by decide +kernel
theorem dX5_worst_39 : decode cX5_worst 39 = .ok (.aload_n 0, 1) := by decide +kernel
theorem dX5_worst_40 : decode cX5_worst 40 = .ok (.getfield 26, 3) := by decide +kernel
theorem dX5_worst_43 : decode cX5_worst 43 = .ok (.iload_n 1, 1) := by decide +kernel
theorem dX5_worst_44 : decode cX5_worst 44 = .ok (.invokevirtual 139, 3) := by decide +kernel
theorem dX5_worst_47 : decode cX5_worst 47 = .ok (.aload_n 0, 1) := by decide +kernel
theorem dX5_worst_48 : decode cX5_worst 48 = .ok (.getfield 19, 3) := by decide +kernel
theorem dX5_worst_51 : decode cX5_worst 51 = .ok (.getfield 143, 3) := by decide +kernel
theorem dX5_worst_54 : decode cX5_worst 54 = .ok (.iload_n 2, 1) := by decide +kernel
theorem dX5_worst_55 : decode cX5_worst 55 = .ok (.iaload, 1) := by decide +kernel
theorem dX5_worst_56 : decode cX5_worst 56 = .ok (.ireturn, 1) := by decide +kernel
theorem dX5_worstFall_0 : decode cX5_worstFall 0 = .ok (.aload_n 0, 1) := by decide +kernel
theorem dX5_worstFall_1 : decode cX5_worstFall 1 = .ok (.getfield 10, 3) := by decide +kernel
theorem dX5_worstFall_4 : decode cX5_worstFall 4 = .ok (.iload_n 1, 1) := by decide +kernel
theorem dX5_worstFall_5 : decode cX5_worstFall 5 = .ok (.invokevirtual 57, 3) := by decide +kernel
theorem dX5_worstFall_8 : decode cX5_worstFall 8 = .ok (.ifCond .eq 10, 3) := by decide +kernel
theorem dX5_worstFall_11 : decode cX5_worstFall 11 = .ok (.iload_n 2, 1) := by decide +kernel
theorem dX5_worstFall_12 : decode cX5_worstFall 12 = .ok (.invokestatic 85, 3) := by decide +kernel
theorem dX5_worstFall_15 : decode cX5_worstFall 15 = .ok (.ifCond .ne 7, 3) := by decide +kernel
theorem dX5_worstFall_18 : decode cX5_worstFall 18 = .ok (.ldc2_w 88, 3) := by decide +kernel
theorem dX5_worstFall_21 : decode cX5_worstFall 21 = .ok (.lreturn, 1) := by decide +kernel
theorem dX5_worstFall_22 : decode cX5_worstFall 22 = .ok (.aload_n 0, 1) := by decide +kernel
theorem dX5_worstFall_23 : decode cX5_worstFall 23 = .ok (.invokevirtual 90, 3) := by decide +kernel
theorem dX5_worstFall_26 : decode cX5_worstFall 26 = .ok (.ifCond .ne 7, 3) := by decide +kernel
theorem dX5_worstFall_29 : decode cX5_worstFall 29 = .ok (.ldc2_w 94, 3) := by decide +kernel
theorem dX5_worstFall_32 : decode cX5_worstFall 32 = .ok (.lreturn, 1) := by decide +kernel
theorem dX5_worstFall_33 : decode cX5_worstFall 33 = .ok (.aload_n 0, 1) := by decide +kernel
theorem dX5_worstFall_34 : decode cX5_worstFall 34 = .ok (.getfield 19, 3) := by decide +kernel
theorem dX5_worstFall_37 : decode cX5_worstFall 37 = .ok (.aload_n 0, 1) := by decide +kernel
theorem dX5_worstFall_38 : decode cX5_worstFall 38 = .ok (.getfield 26, 3) := by decide +kernel
theorem dX5_worstFall_41 : decode cX5_worstFall 41 = .ok (.iload_n 1, 1) := by decide +kernel
theorem dX5_worstFall_42 : decode cX5_worstFall 42 = .ok (.invokevirtual 146, 3) := by decide +kernel
theorem dX5_worstFall_45 : decode cX5_worstFall 45 = .ok (.aload_n 0, 1) := by decide +kernel
theorem dX5_worstFall_46 : decode cX5_worstFall 46 = .ok (.getfield 26, 3) := by decide +kernel
theorem dX5_worstFall_49 : decode cX5_worstFall 49 = .ok (.getfield 100, 3) := by decide +kernel
theorem dX5_worstFall_52 : decode cX5_worstFall 52 = .ok (.iload_n 2, 1) := by decide +kernel
theorem dX5_worstFall_53 : decode cX5_worstFall 53 = .ok (.invokestatic 104, 3) := by decide +kernel
theorem dX5_worstFall_56 : decode cX5_worstFall 56 = .ok (.lreturn, 1) := by decide +kernel
theorem dX5_worstKnot_0 : decode cX5_worstKnot 0 = .ok (.aload_n 0, 1) := by decide +kernel
theorem dX5_worstKnot_1 : decode cX5_worstKnot 1 = .ok (.invokevirtual 90, 3) := by decide +kernel
theorem dX5_worstKnot_4 : decode cX5_worstKnot 4 = .ok (.ifCond .ne 6, 3) := by decide +kernel
theorem dX5_worstKnot_7 : decode cX5_worstKnot 7 = .ok (.bipush (-3), 2) := by decide +kernel
theorem dX5_worstKnot_9 : decode cX5_worstKnot 9 = .ok (.ireturn, 1) := by decide +kernel
theorem dX5_worstKnot_10 : decode cX5_worstKnot 10 = .ok (.iconst 0, 1) := by decide +kernel
theorem dX5_worstKnot_11 : decode cX5_worstKnot 11 = .ok (.istore_n 1, 1) := by decide +kernel
theorem dX5_worstKnot_12 : decode cX5_worstKnot 12 = .ok (.aload_n 0, 1) := by decide +kernel
theorem dX5_worstKnot_13 : decode cX5_worstKnot 13 = .ok (.getfield 19, 3) := by decide +kernel
theorem dX5_worstKnot_16 : decode cX5_worstKnot 16 = .ok (.aload_n 0, 1) := by decide +kernel
theorem dX5_worstKnot_17 : decode cX5_worstKnot 17 = .ok (.getfield 26, 3) := by decide +kernel
theorem dX5_worstKnot_20 : decode cX5_worstKnot 20 = .ok (.iconst 0, 1) := by decide +kernel
theorem dX5_worstKnot_21 : decode cX5_worstKnot 21 = .ok (.invokevirtual 146, 3) := by decide +kernel
theorem dX5_worstKnot_24 : decode cX5_worstKnot 24 = .ok (.lstore_n 2, 1) := by decide +kernel
theorem dX5_worstKnot_25 : decode cX5_worstKnot 25 = .ok (.iconst 1, 1) := by decide +kernel
theorem dX5_worstKnot_26 : decode cX5_worstKnot 26 = .ok (.istore 4, 2) := by decide +kernel
theorem dX5_worstKnot_28 : decode cX5_worstKnot 28 = .ok (.iload 4, 2) := by decide +kernel
theorem dX5_worstKnot_30 : decode cX5_worstKnot 30 = .ok (.aload_n 0, 1) := by decide +kernel
theorem dX5_worstKnot_31 : decode cX5_worstKnot 31 = .ok (.getfield 10, 3) := by decide +kernel
theorem dX5_worstKnot_34 : decode cX5_worstKnot 34 = .ok (.getfield 150, 3) := by decide +kernel
theorem dX5_worstKnot_37 : decode cX5_worstKnot 37 = .ok (.if_icmp .ge 37, 3) := by decide +kernel
theorem dX5_worstKnot_40 : decode cX5_worstKnot 40 = .ok (.aload_n 0, 1) := by decide +kernel
theorem dX5_worstKnot_41 : decode cX5_worstKnot 41 = .ok (.getfield 19, 3) := by decide +kernel
theorem dX5_worstKnot_44 : decode cX5_worstKnot 44 = .ok (.aload_n 0, 1) := by decide +kernel
theorem dX5_worstKnot_45 : decode cX5_worstKnot 45 = .ok (.getfield 26, 3) := by decide +kernel
theorem dX5_worstKnot_48 : decode cX5_worstKnot 48 = .ok (.iload 4, 2) := by decide +kernel
theorem dX5_worstKnot_50 : decode cX5_worstKnot 50 = .ok (.invokevirtual 146, 3) := by decide +kernel
theorem dX5_worstKnot_53 : decode cX5_worstKnot 53 = .ok (.lstore 5, 2) := by decide +kernel
theorem dX5_worstKnot_55 : decode cX5_worstKnot 55 = .ok (.lload 5, 2) := by decide +kernel
theorem dX5_worstKnot_57 : decode cX5_worstKnot 57 = .ok (.lload_n 2, 1) := by decide +kernel
theorem dX5_worstKnot_58 : decode cX5_worstKnot 58 = .ok (.lcmp, 1) := by decide +kernel
theorem dX5_worstKnot_59 : decode cX5_worstKnot 59 = .ok (.ifCond .le 9, 3) := by decide +kernel
theorem dX5_worstKnot_62 : decode cX5_worstKnot 62 = .ok (.iload 4, 2) := by decide +kernel
theorem dX5_worstKnot_64 : decode cX5_worstKnot 64 = .ok (.istore_n 1, 1) := by decide +kernel
theorem dX5_worstKnot_65 : decode cX5_worstKnot 65 = .ok (.lload 5, 2) := by decide +kernel
theorem dX5_worstKnot_67 : decode cX5_worstKnot 67 = .ok (.lstore_n 2, 1) := by decide +kernel
theorem dX5_worstKnot_68 : decode cX5_worstKnot 68 = .ok (.iinc 4 1, 3) := by decide +kernel
theorem dX5_worstKnot_71 : decode cX5_worstKnot 71 = .ok (.goto (-43), 3) := by decide +kernel
theorem dX5_worstKnot_74 : decode cX5_worstKnot 74 = .ok (.iload_n 1, 1) := by decide +kernel
theorem dX5_worstKnot_75 : decode cX5_worstKnot 75 = .ok (.ireturn, 1) := by decide +kernel
theorem dX5_open_0 : decode cX5_open 0 = .ok (.aload_n 0, 1) := by decide +kernel
theorem dX5_open_1 : decode cX5_open 1 = .ok (.getfield 10, 3) := by decide +kernel
theorem dX5_open_4 : decode cX5_open 4 = .ok (.iload_n 1, 1) := by decide +kernel
theorem dX5_open_5 : decode cX5_open 5 = .ok (.invokevirtual 69, 3) := by decide +kernel
theorem dX5_open_8 : decode cX5_open 8 = .ok (.ifCond .eq 10, 3) := by decide +kernel
theorem dX5_open_11 : decode cX5_open 11 = .ok (.iload_n 2, 1) := by decide +kernel
theorem dX5_open_12 : decode cX5_open 12 = .ok (.invokestatic 85, 3) := by decide +kernel
theorem dX5_open_15 : decode cX5_open 15 = .ok (.ifCond .ne 7, 3) := by decide +kernel
theorem dX5_open_18 : decode cX5_open 18 = .ok (.ldc2_w 88, 3) := by decide +kernel
theorem dX5_open_21 : decode cX5_open 21 = .ok (.lreturn, 1) := by decide +kernel
theorem dX5_open_22 : decode cX5_open 22 = .ok (.aload_n 0, 1) := by decide +kernel
theorem dX5_open_23 : decode cX5_open 23 = .ok (.invokevirtual 90, 3) := by decide +kernel
theorem dX5_open_26 : decode cX5_open 26 = .ok (.ifCond .eq 11, 3) := by decide +kernel
theorem dX5_open_29 : decode cX5_open 29 = .ok (.aload_n 0, 1) := by decide +kernel
theorem dX5_open_30 : decode cX5_open 30 = .ok (.iload_n 1, 1) := by decide +kernel
theorem dX5_open_31 : decode cX5_open 31 = .ok (.invokevirtual 153, 3) := by decide +kernel
theorem dX5_open_34 : decode cX5_open 34 = .ok (.ifCond .ne 7, 3) := by decide +kernel
theorem dX5_open_37 : decode cX5_open 37 = .ok (.ldc2_w 94, 3) := by decide +kernel
theorem dX5_open_40 : decode cX5_open 40 = .ok (.lreturn, 1) := by decide +kernel
theorem dX5_open_41 : decode cX5_open 41 = .ok (.aload_n 0, 1) := by decide +kernel
theorem dX5_open_42 : decode cX5_open 42 = .ok (.getfield 30, 3) := by decide +kernel
theorem dX5_open_45 : decode cX5_open 45 = .ok (.invokevirtual 156, 3) := by decide +kernel
theorem dX5_open_48 : decode cX5_open 48 = .ok (.aload_n 0, 1) := by decide +kernel
theorem dX5_open_49 : decode cX5_open 49 = .ok (.getfield 30, 3) := by decide +kernel
theorem dX5_open_52 : decode cX5_open 52 = .ok (.getfield 100, 3) := by decide +kernel
theorem dX5_open_55 : decode cX5_open 55 = .ok (.iload_n 2, 1) := by decide +kernel
theorem dX5_open_56 : decode cX5_open 56 = .ok (.invokestatic 104, 3) := by decide +kernel
theorem dX5_open_59 : decode cX5_open 59 = .ok (.lreturn, 1) := by decide +kernel
theorem dX5_weakest_0 : decode cX5_weakest 0 = .ok (.aload_n 0, 1) := by decide +kernel
theorem dX5_weakest_1 : decode cX5_weakest 1 = .ok (.getfield 10, 3) := by decide +kernel
theorem dX5_weakest_4 : decode cX5_weakest 4 = .ok (.getfield 61, 3) := by decide +kernel
theorem dX5_weakest_7 : decode cX5_weakest 7 = .ok (.ifCond .ne 5, 3) := by decide +kernel
theorem dX5_weakest_10 : decode cX5_weakest 10 = .ok (.iconst (-1), 1) := by decide +kernel
theorem dX5_weakest_11 : decode cX5_weakest 11 = .ok (.ireturn, 1) := by decide +kernel
theorem dX5_weakest_12 : decode cX5_weakest 12 = .ok (.aload_n 0, 1) := by decide +kernel
theorem dX5_weakest_13 : decode cX5_weakest 13 = .ok (.invokevirtual 90, 3) := by decide +kernel
theorem dX5_weakest_16 : decode cX5_weakest 16 = .ok (.ifCond .ne 5, 3) := by decide +kernel
theorem dX5_weakest_19 : decode cX5_weakest 19 = .ok (.iconst 0, 1) := by decide +kernel
theorem dX5_weakest_20 : decode cX5_weakest 20 = .ok (.ireturn, 1) := by decide +kernel
theorem dX5_weakest_21 : decode cX5_weakest 21 = .ok (.iconst (-1), 1) := by decide +kernel
theorem dX5_weakest_22 : decode cX5_weakest 22 = .ok (.istore_n 1, 1) := by decide +kernel
theorem dX5_weakest_23 : decode cX5_weakest 23 = .ok (.lconst 0, 1) := by decide +kernel
theorem dX5_weakest_24 : decode cX5_weakest 24 = .ok (.lstore_n 2, 1) := by decide +kernel
theorem dX5_weakest_25 : decode cX5_weakest 25 = .ok (.lconst 1, 1) := by decide +kernel
theorem dX5_weakest_26 : decode cX5_weakest 26 = .ok (.lstore 4, 2) := by decide +kernel
theorem dX5_weakest_28 : decode cX5_weakest 28 = .ok (.iconst 0, 1) := by decide +kernel
theorem dX5_weakest_29 : decode cX5_weakest 29 = .ok (.istore 6, 2) := by decide +kernel
theorem dX5_weakest_31 : decode cX5_weakest 31 = .ok (.iload 6, 2) := by decide +kernel
theorem dX5_weakest_33 : decode cX5_weakest 33 = .ok (.aload_n 0, 1) := by decide +kernel
theorem dX5_weakest_34 : decode cX5_weakest 34 = .ok (.getfield 10, 3) := by decide +kernel
theorem dX5_weakest_37 : decode cX5_weakest 37 = .ok (.getfield 61, 3) := by decide +kernel
theorem dX5_weakest_40 : decode cX5_weakest 40 = .ok (.if_icmp .ge 68, 3) := by decide +kernel
theorem dX5_weakest_43 : decode cX5_weakest 43 = .ok (.aload_n 0, 1) := by decide +kernel
theorem dX5_weakest_44 : decode cX5_weakest 44 = .ok (.iload 6, 2) := by decide +kernel
theorem dX5_weakest_46 : decode cX5_weakest 46 = .ok (.invokevirtual 153, 3) := by decide +kernel
theorem dX5_weakest_49 : decode cX5_weakest 49 = .ok (.ifCond .ne 6, 3) := by decide +kernel
theorem dX5_weakest_52 : decode cX5_weakest 52 = .ok (.iload 6, 2) := by decide +kernel
theorem dX5_weakest_54 : decode cX5_weakest 54 = .ok (.ireturn, 1) := by decide +kernel
theorem dX5_weakest_55 : decode cX5_weakest 55 = .ok (.aload_n 0, 1) := by decide +kernel
theorem dX5_weakest_56 : decode cX5_weakest 56 = .ok (.getfield 30, 3) := by decide +kernel
theorem dX5_weakest_59 : decode cX5_weakest 59 = .ok (.invokevirtual 156, 3) := by decide +kernel
theorem dX5_weakest_62 : decode cX5_weakest 62 = .ok (.lstore 7, 2) := by decide +kernel
theorem dX5_weakest_64 : decode cX5_weakest 64 = .ok (.iload_n 1, 1) := by decide +kernel
theorem dX5_weakest_65 : decode cX5_weakest 65 = .ok (.iconst (-1), 1) := by decide +kernel
theorem dX5_weakest_66 : decode cX5_weakest 66 = .ok (.if_icmp .eq 21, 3) := by decide +kernel
theorem dX5_weakest_69 : decode cX5_weakest 69 = .ok (.lload_n 2, 1) := by decide +kernel
theorem dX5_weakest_70 : decode cX5_weakest 70 = .ok (.lload 4, 2) := by decide +kernel
theorem dX5_weakest_72 : decode cX5_weakest 72 = .ok (.lload 7, 2) := by decide +kernel
theorem dX5_weakest_74 : decode cX5_weakest 74 = .ok (.aload_n 0, 1) := by decide +kernel
theorem dX5_weakest_75 : decode cX5_weakest 75 = .ok (.getfield 30, 3) := by decide +kernel
theorem dX5_weakest_78 : decode cX5_weakest 78 = .ok (.getfield 100, 3) := by decide +kernel
theorem dX5_weakest_81 : decode cX5_weakest 81 = .ok (.invokestatic 160, 3) := by decide +kernel
theorem dX5_weakest_84 : decode cX5_weakest 84 = .ok (.ifCond .eq 18, 3) := by decide +kernel
theorem dX5_weakest_87 : decode cX5_weakest 87 = .ok (.iload 6, 2) := by decide +kernel
theorem dX5_weakest_89 : decode cX5_weakest 89 = .ok (.istore_n 1, 1) := by decide +kernel
theorem dX5_weakest_90 : decode cX5_weakest 90 = .ok (.lload 7, 2) := by decide +kernel
theorem dX5_weakest_92 : decode cX5_weakest 92 = .ok (.lstore_n 2, 1) := by decide +kernel
theorem dX5_weakest_93 : decode cX5_weakest 93 = .ok (.aload_n 0, 1) := by decide +kernel
theorem dX5_weakest_94 : decode cX5_weakest 94 = .ok (.getfield 30, 3) := by decide +kernel
theorem dX5_weakest_97 : decode cX5_weakest 97 = .ok (.getfield 100, 3) := by decide +kernel
theorem dX5_weakest_100 : decode cX5_weakest 100 = .ok (.lstore 4, 2) := by decide +kernel
theorem dX5_weakest_102 : decode cX5_weakest 102 = .ok (.iinc 6 1, 3) := by decide +kernel
theorem dX5_weakest_105 : decode cX5_weakest 105 = .ok (.goto (-74), 3) := by decide +kernel
theorem dX5_weakest_108 : decode cX5_weakest 108 = .ok (.iload_n 1, 1) := by decide +kernel
theorem dX5_weakest_109 : decode cX5_weakest 109 = .ok (.ireturn, 1) := by decide +kernel
theorem dX5_shrunk_0 : decode cX5_shrunk 0 = .ok (.iload_n 1, 1) := by decide +kernel
theorem dX5_shrunk_1 : decode cX5_shrunk 1 = .ok (.iconst 1, 1) := by decide +kernel
theorem dX5_shrunk_2 : decode cX5_shrunk 2 = .ok (.aload_n 0, 1) := by decide +kernel
theorem dX5_shrunk_3 : decode cX5_shrunk 3 = .ok (.getfield 10, 3) := by decide +kernel
theorem dX5_shrunk_6 : decode cX5_shrunk 6 = .ok (.invokevirtual 164, 3) := by decide +kernel
theorem dX5_shrunk_9 : decode cX5_shrunk 9 = .ok (.invokestatic 47, 3) := by decide +kernel
theorem dX5_shrunk_12 : decode cX5_shrunk 12 = .ok (.ifCond .eq 11, 3) := by decide +kernel
theorem dX5_shrunk_15 : decode cX5_shrunk 15 = .ok (.iload 4, 2) := by decide +kernel
theorem dX5_shrunk_17 : decode cX5_shrunk 17 = .ok (.invokestatic 85, 3) := by decide +kernel
theorem dX5_shrunk_20 : decode cX5_shrunk 20 = .ok (.ifCond .ne 7, 3) := by decide +kernel
theorem dX5_shrunk_23 : decode cX5_shrunk 23 = .ok (.ldc2_w 88, 3) := by decide +kernel
theorem dX5_shrunk_26 : decode cX5_shrunk 26 = .ok (.lreturn, 1) := by decide +kernel
theorem dX5_shrunk_27 : decode cX5_shrunk 27 = .ok (.aload_n 0, 1) := by decide +kernel
theorem dX5_shrunk_28 : decode cX5_shrunk 28 = .ok (.getfield 10, 3) := by decide +kernel
theorem dX5_shrunk_31 : decode cX5_shrunk 31 = .ok (.iload_n 2, 1) := by decide +kernel
theorem dX5_shrunk_32 : decode cX5_shrunk 32 = .ok (.invokevirtual 57, 3) := by decide +kernel
theorem dX5_shrunk_35 : decode cX5_shrunk 35 = .ok (.ifCond .eq 19, 3) := by decide +kernel
theorem dX5_shrunk_38 : decode cX5_shrunk 38 = .ok (.aload_n 0, 1) := by decide +kernel
theorem dX5_shrunk_39 : decode cX5_shrunk 39 = .ok (.getfield 10, 3) := by decide +kernel
theorem dX5_shrunk_42 : decode cX5_shrunk 42 = .ok (.iload_n 3, 1) := by decide +kernel
theorem dX5_shrunk_43 : decode cX5_shrunk 43 = .ok (.invokevirtual 57, 3) := by decide +kernel
theorem dX5_shrunk_46 : decode cX5_shrunk 46 = .ok (.ifCond .eq 8, 3) := by decide +kernel
theorem dX5_shrunk_49 : decode cX5_shrunk 49 = .ok (.iload_n 2, 1) := by decide +kernel
theorem dX5_shrunk_50 : decode cX5_shrunk 50 = .ok (.iload_n 3, 1) := by decide +kernel
theorem dX5_shrunk_51 : decode cX5_shrunk 51 = .ok (.if_icmp .ne 7, 3) := by decide +kernel
theorem dX5_shrunk_54 : decode cX5_shrunk 54 = .ok (.ldc2_w 88, 3) := by decide +kernel
theorem dX5_shrunk_57 : decode cX5_shrunk 57 = .ok (.lreturn, 1) := by decide +kernel
theorem dX5_shrunk_58 : decode cX5_shrunk 58 = .ok (.iload_n 1, 1) := by decide +kernel
theorem dX5_shrunk_59 : decode cX5_shrunk 59 = .ok (.iload_n 2, 1) := by decide +kernel
theorem dX5_shrunk_60 : decode cX5_shrunk 60 = .ok (.invokestatic 167, 3) := by decide +kernel
theorem dX5_shrunk_63 : decode cX5_shrunk 63 = .ok (.ifCond .eq 11, 3) := by decide +kernel
theorem dX5_shrunk_66 : decode cX5_shrunk 66 = .ok (.iload_n 1, 1) := by decide +kernel
theorem dX5_shrunk_67 : decode cX5_shrunk 67 = .ok (.iload_n 3, 1) := by decide +kernel
theorem dX5_shrunk_68 : decode cX5_shrunk 68 = .ok (.invokestatic 167, 3) := by decide +kernel
theorem dX5_shrunk_71 : decode cX5_shrunk 71 = .ok (.ifCond .ne 7, 3) := by decide +kernel
theorem dX5_shrunk_74 : decode cX5_shrunk 74 = .ok (.ldc2_w 88, 3) := by decide +kernel
theorem dX5_shrunk_77 : decode cX5_shrunk 77 = .ok (.lreturn, 1) := by decide +kernel
theorem dX5_shrunk_78 : decode cX5_shrunk 78 = .ok (.aload_n 0, 1) := by decide +kernel
theorem dX5_shrunk_79 : decode cX5_shrunk 79 = .ok (.getfield 10, 3) := by decide +kernel
theorem dX5_shrunk_82 : decode cX5_shrunk 82 = .ok (.getfield 79, 3) := by decide +kernel
theorem dX5_shrunk_85 : decode cX5_shrunk 85 = .ok (.iload_n 1, 1) := by decide +kernel
theorem dX5_shrunk_86 : decode cX5_shrunk 86 = .ok (.iconst (-1), 1) := by decide +kernel
theorem dX5_shrunk_87 : decode cX5_shrunk 87 = .ok (.ixor, 1) := by decide +kernel
theorem dX5_shrunk_88 : decode cX5_shrunk 88 = .ok (.iand, 1) := by decide +kernel
theorem dX5_shrunk_89 : decode cX5_shrunk 89 = .ok (.ifCond .eq 7, 3) := by decide +kernel
theorem dX5_shrunk_92 : decode cX5_shrunk 92 = .ok (.ldc2_w 94, 3) := by decide +kernel
theorem dX5_shrunk_95 : decode cX5_shrunk 95 = .ok (.lreturn, 1) := by decide +kernel
theorem dX5_shrunk_96 : decode cX5_shrunk 96 = .ok (.aload_n 0, 1) := by decide +kernel
theorem dX5_shrunk_97 : decode cX5_shrunk 97 = .ok (.getfield 30, 3) := by decide +kernel
theorem dX5_shrunk_100 : decode cX5_shrunk 100 = .ok (.aload_n 0, 1) := by decide +kernel
theorem dX5_shrunk_101 : decode cX5_shrunk 101 = .ok (.getfield 10, 3) := by decide +kernel
theorem dX5_shrunk_104 : decode cX5_shrunk 104 = .ok (.invokevirtual 171, 3) := by decide +kernel
theorem dX5_shrunk_107 : decode cX5_shrunk 107 = .ok (.aload_n 0, 1) := by decide +kernel
theorem dX5_shrunk_108 : decode cX5_shrunk 108 = .ok (.getfield 30, 3) := by decide +kernel
theorem dX5_shrunk_111 : decode cX5_shrunk 111 = .ok (.iload_n 1, 1) := by decide +kernel
theorem dX5_shrunk_112 : decode cX5_shrunk 112 = .ok (.invokevirtual 175, 3) := by decide +kernel
theorem dX5_shrunk_115 : decode cX5_shrunk 115 = .ok (.ifCond .ne 7, 3) := by decide +kernel
theorem dX5_shrunk_118 : decode cX5_shrunk 118 = .ok (.ldc2_w 94, 3) := by decide +kernel
theorem dX5_shrunk_121 : decode cX5_shrunk 121 = .ok (.lreturn, 1) := by decide +kernel
theorem dX5_shrunk_122 : decode cX5_shrunk 122 = .ok (.aload_n 0, 1) := by decide +kernel
theorem dX5_shrunk_123 : decode cX5_shrunk 123 = .ok (.getfield 30, 3) := by decide +kernel
theorem dX5_shrunk_126 : decode cX5_shrunk 126 = .ok (.getfield 122, 3) := by decide +kernel
theorem dX5_shrunk_129 : decode cX5_shrunk 129 = .ok (.iload_n 2, 1) := by decide +kernel
theorem dX5_shrunk_130 : decode cX5_shrunk 130 = .ok (.aaload, 1) := by decide +kernel
theorem dX5_shrunk_131 : decode cX5_shrunk 131 = .ok (.iload_n 3, 1) := by decide +kernel
theorem dX5_shrunk_132 : decode cX5_shrunk 132 = .ok (.laload, 1) := by decide +kernel
theorem dX5_shrunk_133 : decode cX5_shrunk 133 = .ok (.lneg, 1) := by decide +kernel
theorem dX5_shrunk_134 : decode cX5_shrunk 134 = .ok (.aload_n 0, 1) := by decide +kernel
theorem dX5_shrunk_135 : decode cX5_shrunk 135 = .ok (.getfield 30, 3) := by decide +kernel
theorem dX5_shrunk_138 : decode cX5_shrunk 138 = .ok (.getfield 100, 3) := by decide +kernel
theorem dX5_shrunk_141 : decode cX5_shrunk 141 = .ok (.iload 4, 2) := by decide +kernel
theorem dX5_shrunk_143 : decode cX5_shrunk 143 = .ok (.invokestatic 104, 3) := by decide +kernel
theorem dX5_shrunk_146 : decode cX5_shrunk 146 = .ok (.lreturn, 1) := by decide +kernel
theorem dX5_pads_0 : decode cX5_pads 0 = .ok (.iload_n 1, 1) := by decide +kernel
theorem dX5_pads_1 : decode cX5_pads 1 = .ok (.iconst 1, 1) := by decide +kernel
theorem dX5_pads_2 : decode cX5_pads 2 = .ok (.iconst 3, 1) := by decide +kernel
theorem dX5_pads_3 : decode cX5_pads 3 = .ok (.invokestatic 47, 3) := by decide +kernel
theorem dX5_pads_6 : decode cX5_pads 6 = .ok (.ifCond .eq 14, 3) := by decide +kernel
theorem dX5_pads_9 : decode cX5_pads 9 = .ok (.iload_n 1, 1) := by decide +kernel
theorem dX5_pads_10 : decode cX5_pads 10 = .ok (.aload_n 0, 1) := by decide +kernel
theorem dX5_pads_11 : decode cX5_pads 11 = .ok (.getfield 10, 3) := by decide +kernel
theorem dX5_pads_14 : decode cX5_pads 14 = .ok (.getfield 150, 3) := by decide +kernel
theorem dX5_pads_17 : decode cX5_pads 17 = .ok (.if_icmp .le 6, 3) := by decide +kernel
theorem dX5_pads_20 : decode cX5_pads 20 = .ok (.bipush (-2), 2) := by decide +kernel
theorem dX5_pads_22 : decode cX5_pads 22 = .ok (.ireturn, 1) := by decide +kernel
theorem dX5_pads_23 : decode cX5_pads 23 = .ok (.bipush (-3), 2) := by decide +kernel
theorem dX5_pads_25 : decode cX5_pads 25 = .ok (.istore_n 2, 1) := by decide +kernel
theorem dX5_pads_26 : decode cX5_pads 26 = .ok (.lconst 0, 1) := by decide +kernel
theorem dX5_pads_27 : decode cX5_pads 27 = .ok (.lstore_n 3, 1) := by decide +kernel
theorem dX5_pads_28 : decode cX5_pads 28 = .ok (.lconst 1, 1) := by decide +kernel
theorem dX5_pads_29 : decode cX5_pads 29 = .ok (.lstore 5, 2) := by decide +kernel
theorem dX5_pads_31 : decode cX5_pads 31 = .ok (.iconst 1, 1) := by decide +kernel
theorem dX5_pads_32 : decode cX5_pads 32 = .ok (.istore 7, 2) := by decide +kernel
theorem dX5_pads_34 : decode cX5_pads 34 = .ok (.iload 7, 2) := by decide +kernel
theorem dX5_pads_36 : decode cX5_pads 36 = .ok (.aload_n 0, 1) := by decide +kernel
theorem dX5_pads_37 : decode cX5_pads 37 = .ok (.getfield 10, 3) := by decide +kernel
theorem dX5_pads_40 : decode cX5_pads 40 = .ok (.invokevirtual 164, 3) := by decide +kernel
theorem dX5_pads_43 : decode cX5_pads 43 = .ok (.if_icmp .gt 85, 3) := by decide +kernel
theorem dX5_pads_46 : decode cX5_pads 46 = .ok (.iload 7, 2) := by decide +kernel
theorem dX5_pads_48 : decode cX5_pads 48 = .ok (.invokestatic 178, 3) := by decide +kernel
theorem dX5_pads_51 : decode cX5_pads 51 = .ok (.iload_n 1, 1) := by decide +kernel
theorem dX5_pads_52 : decode cX5_pads 52 = .ok (.if_icmp .ne 70, 3) := by decide +kernel
theorem dX5_pads_55 : decode cX5_pads 55 = .ok (.aload_n 0, 1) := by decide +kernel
theorem dX5_pads_56 : decode cX5_pads 56 = .ok (.getfield 30, 3) := by decide +kernel
theorem dX5_pads_59 : decode cX5_pads 59 = .ok (.aload_n 0, 1) := by decide +kernel
theorem dX5_pads_60 : decode cX5_pads 60 = .ok (.getfield 10, 3) := by decide +kernel
theorem dX5_pads_63 : decode cX5_pads 63 = .ok (.iload 7, 2) := by decide +kernel
theorem dX5_pads_65 : decode cX5_pads 65 = .ok (.invokevirtual 184, 3) := by decide +kernel
theorem dX5_pads_68 : decode cX5_pads 68 = .ok (.ifCond .ne 6, 3) := by decide +kernel
theorem dX5_pads_71 : decode cX5_pads 71 = .ok (.goto 51, 3) := by decide +kernel
theorem dX5_pads_74 : decode cX5_pads 74 = .ok (.aload_n 0, 1) := by decide +kernel
theorem dX5_pads_75 : decode cX5_pads 75 = .ok (.getfield 30, 3) := by decide +kernel
theorem dX5_pads_78 : decode cX5_pads 78 = .ok (.invokevirtual 156, 3) := by decide +kernel
theorem dX5_pads_81 : decode cX5_pads 81 = .ok (.lstore 8, 2) := by decide +kernel
theorem dX5_pads_83 : decode cX5_pads 83 = .ok (.iload_n 2, 1) := by decide +kernel
theorem dX5_pads_84 : decode cX5_pads 84 = .ok (.bipush (-3), 2) := by decide +kernel
theorem dX5_pads_86 : decode cX5_pads 86 = .ok (.if_icmp .eq 21, 3) := by decide +kernel
theorem dX5_pads_89 : decode cX5_pads 89 = .ok (.lload 8, 2) := by decide +kernel
theorem dX5_pads_91 : decode cX5_pads 91 = .ok (.aload_n 0, 1) := by decide +kernel
theorem dX5_pads_92 : decode cX5_pads 92 = .ok (.getfield 30, 3) := by decide +kernel
theorem dX5_pads_95 : decode cX5_pads 95 = .ok (.getfield 100, 3) := by decide +kernel
theorem dX5_pads_98 : decode cX5_pads 98 = .ok (.lload_n 3, 1) := by decide +kernel
theorem dX5_pads_99 : decode cX5_pads 99 = .ok (.lload 5, 2) := by decide +kernel
theorem dX5_pads_101 : decode cX5_pads 101 = .ok (.invokestatic 160, 3) := by decide +kernel
theorem dX5_pads_104 : decode cX5_pads 104 = .ok (.ifCond .eq 18, 3) := by decide +kernel
theorem dX5_pads_107 : decode cX5_pads 107 = .ok (.iload 7, 2) := by decide +kernel
theorem dX5_pads_109 : decode cX5_pads 109 = .ok (.istore_n 2, 1) := by decide +kernel
theorem dX5_pads_110 : decode cX5_pads 110 = .ok (.lload 8, 2) := by decide +kernel
theorem dX5_pads_112 : decode cX5_pads 112 = .ok (.lstore_n 3, 1) := by decide +kernel
theorem dX5_pads_113 : decode cX5_pads 113 = .ok (.aload_n 0, 1) := by decide +kernel
theorem dX5_pads_114 : decode cX5_pads 114 = .ok (.getfield 30, 3) := by decide +kernel
theorem dX5_pads_117 : decode cX5_pads 117 = .ok (.getfield 100, 3) := by decide +kernel
theorem dX5_pads_120 : decode cX5_pads 120 = .ok (.lstore 5, 2) := by decide +kernel
theorem dX5_pads_122 : decode cX5_pads 122 = .ok (.iinc 7 1, 3) := by decide +kernel
theorem dX5_pads_125 : decode cX5_pads 125 = .ok (.goto (-91), 3) := by decide +kernel
theorem dX5_pads_128 : decode cX5_pads 128 = .ok (.iload_n 2, 1) := by decide +kernel
theorem dX5_pads_129 : decode cX5_pads 129 = .ok (.ireturn, 1) := by decide +kernel
theorem dX5_widen_0 : decode cX5_widen 0 = .ok (.iload_n 1, 1) := by decide +kernel
theorem dX5_widen_1 : decode cX5_widen 1 = .ok (.iconst 0, 1) := by decide +kernel
theorem dX5_widen_2 : decode cX5_widen 2 = .ok (.sipush 1000, 3) := by decide +kernel
theorem dX5_widen_5 : decode cX5_widen 5 = .ok (.invokestatic 47, 3) := by decide +kernel
theorem dX5_widen_8 : decode cX5_widen 8 = .ok (.ifCond .eq 12, 3) := by decide +kernel
theorem dX5_widen_11 : decode cX5_widen 11 = .ok (.iload_n 2, 1) := by decide +kernel
theorem dX5_widen_12 : decode cX5_widen 12 = .ok (.iconst 0, 1) := by decide +kernel
theorem dX5_widen_13 : decode cX5_widen 13 = .ok (.iconst 3, 1) := by decide +kernel
theorem dX5_widen_14 : decode cX5_widen 14 = .ok (.invokestatic 47, 3) := by decide +kernel
theorem dX5_widen_17 : decode cX5_widen 17 = .ok (.ifCond .ne 6, 3) := by decide +kernel
theorem dX5_widen_20 : decode cX5_widen 20 = .ok (.bipush (-2), 2) := by decide +kernel
theorem dX5_widen_22 : decode cX5_widen 22 = .ok (.ireturn, 1) := by decide +kernel
theorem dX5_widen_23 : decode cX5_widen 23 = .ok (.aload_n 0, 1) := by decide +kernel
theorem dX5_widen_24 : decode cX5_widen 24 = .ok (.getfield 36, 3) := by decide +kernel
theorem dX5_widen_27 : decode cX5_widen 27 = .ok (.aload_n 0, 1) := by decide +kernel
theorem dX5_widen_28 : decode cX5_widen 28 = .ok (.getfield 10, 3) := by decide +kernel
theorem dX5_widen_31 : decode cX5_widen 31 = .ok (.iload_n 1, 1) := by decide +kernel
theorem dX5_widen_32 : decode cX5_widen 32 = .ok (.iload_n 2, 1) := by decide +kernel
theorem dX5_widen_33 : decode cX5_widen 33 = .ok (.invokevirtual 188, 3) := by decide +kernel
theorem dX5_widen_36 : decode cX5_widen 36 = .ok (.ireturn, 1) := by decide +kernel
theorem dX5_widened_0 : decode cX5_widened 0 = .ok (.iload_n 1, 1) := by decide +kernel
theorem dX5_widened_1 : decode cX5_widened 1 = .ok (.iconst 0, 1) := by decide +kernel
theorem dX5_widened_2 : decode cX5_widened 2 = .ok (.sipush 1000, 3) := by decide +kernel
theorem dX5_widened_5 : decode cX5_widened 5 = .ok (.invokestatic 47, 3) := by decide +kernel
theorem dX5_widened_8 : decode cX5_widened 8 = .ok (.ifCond .eq 23, 3) := by decide +kernel
theorem dX5_widened_11 : decode cX5_widened 11 = .ok (.iload_n 2, 1) := by decide +kernel
theorem dX5_widened_12 : decode cX5_widened 12 = .ok (.iconst 0, 1) := by decide +kernel
theorem dX5_widened_13 : decode cX5_widened 13 = .ok (.iconst 3, 1) := by decide +kernel
theorem dX5_widened_14 : decode cX5_widened 14 = .ok (.invokestatic 47, 3) := by decide +kernel
theorem dX5_widened_17 : decode cX5_widened 17 = .ok (.ifCond .eq 14, 3) := by decide +kernel
theorem dX5_widened_20 : decode cX5_widened 20 = .ok (.aload_n 0, 1) := by decide +kernel
theorem dX5_widened_21 : decode cX5_widened 21 = .ok (.getfield 10, 3) := by decide +kernel
theorem dX5_widened_24 : decode cX5_widened 24 = .ok (.iload_n 3, 1) := by decide +kernel
theorem dX5_widened_25 : decode cX5_widened 25 = .ok (.invokevirtual 69, 3) := by decide +kernel
theorem dX5_widened_28 : decode cX5_widened 28 = .ok (.ifCond .ne 6, 3) := by decide +kernel
theorem dX5_widened_31 : decode cX5_widened 31 = .ok (.bipush (-2), 2) := by decide +kernel
theorem dX5_widened_33 : decode cX5_widened 33 = .ok (.ireturn, 1) := by decide +kernel
theorem dX5_widened_34 : decode cX5_widened 34 = .ok (.aload_n 0, 1) := by decide +kernel
theorem dX5_widened_35 : decode cX5_widened 35 = .ok (.getfield 36, 3) := by decide +kernel
theorem dX5_widened_38 : decode cX5_widened 38 = .ok (.aload_n 0, 1) := by decide +kernel
theorem dX5_widened_39 : decode cX5_widened 39 = .ok (.getfield 10, 3) := by decide +kernel
theorem dX5_widened_42 : decode cX5_widened 42 = .ok (.iload_n 1, 1) := by decide +kernel
theorem dX5_widened_43 : decode cX5_widened 43 = .ok (.iload_n 2, 1) := by decide +kernel
theorem dX5_widened_44 : decode cX5_widened 44 = .ok (.invokevirtual 188, 3) := by decide +kernel
theorem dX5_widened_47 : decode cX5_widened 47 = .ok (.istore 4, 2) := by decide +kernel
theorem dX5_widened_49 : decode cX5_widened 49 = .ok (.iload 4, 2) := by decide +kernel
theorem dX5_widened_51 : decode cX5_widened 51 = .ok (.ifCond .ge 8, 3) := by decide +kernel
theorem dX5_widened_54 : decode cX5_widened 54 = .ok (.iload 4, 2) := by decide +kernel
theorem dX5_widened_56 : decode cX5_widened 56 = .ok (.goto 12, 3) := by decide +kernel
theorem dX5_widened_59 : decode cX5_widened 59 = .ok (.aload_n 0, 1) := by decide +kernel
theorem dX5_widened_60 : decode cX5_widened 60 = .ok (.getfield 36, 3) := by decide +kernel
theorem dX5_widened_63 : decode cX5_widened 63 = .ok (.getfield 192, 3) := by decide +kernel
theorem dX5_widened_66 : decode cX5_widened 66 = .ok (.iload_n 3, 1) := by decide +kernel
theorem dX5_widened_67 : decode cX5_widened 67 = .ok (.iaload, 1) := by decide +kernel
theorem dX5_widened_68 : decode cX5_widened 68 = .ok (.ireturn, 1) := by decide +kernel
theorem dX5_woken_0 : decode cX5_woken 0 = .ok (.aload_n 0, 1) := by decide +kernel
theorem dX5_woken_1 : decode cX5_woken 1 = .ok (.invokevirtual 90, 3) := by decide +kernel
theorem dX5_woken_4 : decode cX5_woken 4 = .ok (.ifCond .ne 6, 3) := by decide +kernel
theorem dX5_woken_7 : decode cX5_woken 7 = .ok (.bipush (-3), 2) := by decide +kernel
theorem dX5_woken_9 : decode cX5_woken 9 = .ok (.ireturn, 1) := by decide +kernel
theorem dX5_woken_10 : decode cX5_woken 10 = .ok (.aload_n 0, 1) := by decide +kernel
theorem dX5_woken_11 : decode cX5_woken 11 = .ok (.getfield 19, 3) := by decide +kernel
theorem dX5_woken_14 : decode cX5_woken 14 = .ok (.iload_n 1, 1) := by decide +kernel
theorem dX5_woken_15 : decode cX5_woken 15 = .ok (.invokevirtual 136, 3) := by decide +kernel
theorem dX5_woken_18 : decode cX5_woken 18 = .ok (.ifCond .ne 5, 3) := by decide +kernel
theorem dX5_woken_21 : decode cX5_woken 21 = .ok (.iconst (-1), 1) := by decide +kernel
theorem dX5_woken_22 : decode cX5_woken 22 = .ok (.ireturn, 1) := by decide +kernel
theorem dX5_woken_23 : decode cX5_woken 23 = .ok (.aload_n 0, 1) := by decide +kernel
theorem dX5_woken_24 : decode cX5_woken 24 = .ok (.getfield 43, 3) := by decide +kernel
theorem dX5_woken_27 : decode cX5_woken 27 = .ok (.aload_n 0, 1) := by decide +kernel
theorem dX5_woken_28 : decode cX5_woken 28 = .ok (.getfield 26, 3) := by decide +kernel
theorem dX5_woken_31 : decode cX5_woken 31 = .ok (.aload_n 0, 1) := by decide +kernel
theorem dX5_woken_32 : decode cX5_woken 32 = .ok (.getfield 19, 3) := by decide +kernel
theorem dX5_woken_35 : decode cX5_woken 35 = .ok (.invokevirtual 195, 3) := by decide +kernel
theorem dX5_woken_38 : decode cX5_woken 38 = .ok (.aload_n 0, 1) := by decide +kernel
theorem dX5_woken_39 : decode cX5_woken 39 = .ok (.getfield 43, 3) := by decide +kernel
theorem dX5_woken_42 : decode cX5_woken 42 = .ok (.getfield 198, 3) := by decide +kernel
theorem dX5_woken_45 : decode cX5_woken 45 = .ok (.iload_n 1, 1) := by decide +kernel
theorem dX5_woken_46 : decode cX5_woken 46 = .ok (.iaload, 1) := by decide +kernel
theorem dX5_woken_47 : decode cX5_woken 47 = .ok (.ireturn, 1) := by decide +kernel
theorem dX5_wokenFall_0 : decode cX5_wokenFall 0 = .ok (.iload_n 1, 1) := by decide +kernel
theorem dX5_wokenFall_1 : decode cX5_wokenFall 1 = .ok (.invokestatic 85, 3) := by decide +kernel
theorem dX5_wokenFall_4 : decode cX5_wokenFall 4 = .ok (.ifCond .ne 7, 3) := by decide +kernel
theorem dX5_wokenFall_7 : decode cX5_wokenFall 7 = .ok (.ldc2_w 88, 3) := by decide +kernel
theorem dX5_wokenFall_10 : decode cX5_wokenFall 10 = .ok (.lreturn, 1) := by decide +kernel
theorem dX5_wokenFall_11 : decode cX5_wokenFall 11 = .ok (.aload_n 0, 1) := by decide +kernel
theorem dX5_wokenFall_12 : decode cX5_wokenFall 12 = .ok (.invokevirtual 90, 3) := by decide +kernel
theorem dX5_wokenFall_15 : decode cX5_wokenFall 15 = .ok (.ifCond .ne 7, 3) := by decide +kernel
theorem dX5_wokenFall_18 : decode cX5_wokenFall 18 = .ok (.ldc2_w 94, 3) := by decide +kernel
theorem dX5_wokenFall_21 : decode cX5_wokenFall 21 = .ok (.lreturn, 1) := by decide +kernel
theorem dX5_wokenFall_22 : decode cX5_wokenFall 22 = .ok (.aload_n 0, 1) := by decide +kernel
theorem dX5_wokenFall_23 : decode cX5_wokenFall 23 = .ok (.getfield 43, 3) := by decide +kernel
theorem dX5_wokenFall_26 : decode cX5_wokenFall 26 = .ok (.aload_n 0, 1) := by decide +kernel
theorem dX5_wokenFall_27 : decode cX5_wokenFall 27 = .ok (.getfield 26, 3) := by decide +kernel
theorem dX5_wokenFall_30 : decode cX5_wokenFall 30 = .ok (.aload_n 0, 1) := by decide +kernel
theorem dX5_wokenFall_31 : decode cX5_wokenFall 31 = .ok (.getfield 19, 3) := by decide +kernel
theorem dX5_wokenFall_34 : decode cX5_wokenFall 34 = .ok (.invokevirtual 195, 3) := by decide +kernel
theorem dX5_wokenFall_37 : decode cX5_wokenFall 37 = .ok (.aload_n 0, 1) := by decide +kernel
theorem dX5_wokenFall_38 : decode cX5_wokenFall 38 = .ok (.getfield 43, 3) := by decide +kernel
theorem dX5_wokenFall_41 : decode cX5_wokenFall 41 = .ok (.getfield 201, 3) := by decide +kernel
theorem dX5_wokenFall_44 : decode cX5_wokenFall 44 = .ok (.iconst 0, 1) := by decide +kernel
theorem dX5_wokenFall_45 : decode cX5_wokenFall 45 = .ok (.laload, 1) := by decide +kernel
theorem dX5_wokenFall_46 : decode cX5_wokenFall 46 = .ok (.aload_n 0, 1) := by decide +kernel
theorem dX5_wokenFall_47 : decode cX5_wokenFall 47 = .ok (.getfield 26, 3) := by decide +kernel
theorem dX5_wokenFall_50 : decode cX5_wokenFall 50 = .ok (.getfield 100, 3) := by decide +kernel
theorem dX5_wokenFall_53 : decode cX5_wokenFall 53 = .ok (.iload_n 1, 1) := by decide +kernel
theorem dX5_wokenFall_54 : decode cX5_wokenFall 54 = .ok (.invokestatic 104, 3) := by decide +kernel
theorem dX5_wokenFall_57 : decode cX5_wokenFall 57 = .ok (.lreturn, 1) := by decide +kernel
theorem dX5_count_0 : decode cX5_count 0 = .ok (.iload_n 1, 1) := by decide +kernel
theorem dX5_count_1 : decode cX5_count 1 = .ok (.tableswitch 95 0 5 #[39, 47, 55, 66, 74, 82], 39) := by decide +kernel
theorem dX5_count_40 : decode cX5_count 40 = .ok (.aload_n 0, 1) := by decide +kernel
theorem dX5_count_41 : decode cX5_count 41 = .ok (.getfield 10, 3) := by decide +kernel
theorem dX5_count_44 : decode cX5_count 44 = .ok (.getfield 150, 3) := by decide +kernel
theorem dX5_count_47 : decode cX5_count 47 = .ok (.ireturn, 1) := by decide +kernel
theorem dX5_count_48 : decode cX5_count 48 = .ok (.aload_n 0, 1) := by decide +kernel
theorem dX5_count_49 : decode cX5_count 49 = .ok (.getfield 10, 3) := by decide +kernel
theorem dX5_count_52 : decode cX5_count 52 = .ok (.getfield 61, 3) := by decide +kernel
theorem dX5_count_55 : decode cX5_count 55 = .ok (.ireturn, 1) := by decide +kernel
theorem dX5_count_56 : decode cX5_count 56 = .ok (.aload_n 0, 1) := by decide +kernel
theorem dX5_count_57 : decode cX5_count 57 = .ok (.getfield 10, 3) := by decide +kernel
theorem dX5_count_60 : decode cX5_count 60 = .ok (.getfield 79, 3) := by decide +kernel
theorem dX5_count_63 : decode cX5_count 63 = .ok (.invokestatic 178, 3) := by decide +kernel
theorem dX5_count_66 : decode cX5_count 66 = .ok (.ireturn, 1) := by decide +kernel
theorem dX5_count_67 : decode cX5_count 67 = .ok (.aload_n 0, 1) := by decide +kernel
theorem dX5_count_68 : decode cX5_count 68 = .ok (.getfield 19, 3) := by decide +kernel
theorem dX5_count_71 : decode cX5_count 71 = .ok (.getfield 126, 3) := by decide +kernel
theorem dX5_count_74 : decode cX5_count 74 = .ok (.ireturn, 1) := by decide +kernel
theorem dX5_count_75 : decode cX5_count 75 = .ok (.aload_n 0, 1) := by decide +kernel
theorem dX5_count_76 : decode cX5_count 76 = .ok (.getfield 19, 3) := by decide +kernel
theorem dX5_count_79 : decode cX5_count 79 = .ok (.getfield 133, 3) := by decide +kernel
theorem dX5_count_82 : decode cX5_count 82 = .ok (.ireturn, 1) := by decide +kernel
theorem dX5_count_83 : decode cX5_count 83 = .ok (.aload_n 0, 1) := by decide +kernel
theorem dX5_count_84 : decode cX5_count 84 = .ok (.invokevirtual 90, 3) := by decide +kernel
theorem dX5_count_87 : decode cX5_count 87 = .ok (.ifCond .eq 7, 3) := by decide +kernel
theorem dX5_count_90 : decode cX5_count 90 = .ok (.iconst 1, 1) := by decide +kernel
theorem dX5_count_91 : decode cX5_count 91 = .ok (.goto 4, 3) := by decide +kernel
theorem dX5_count_94 : decode cX5_count 94 = .ok (.iconst 0, 1) := by decide +kernel
theorem dX5_count_95 : decode cX5_count 95 = .ok (.ireturn, 1) := by decide +kernel
theorem dX5_count_96 : decode cX5_count 96 = .ok (.bipush (-2), 2) := by decide +kernel
theorem dX5_count_98 : decode cX5_count 98 = .ok (.ireturn, 1) := by decide +kernel
theorem dX5_digest_0 : decode cX5_digest 0 = .ok (.ldc2_w 204, 3) := by decide +kernel
theorem dX5_digest_3 : decode cX5_digest 3 = .ok (.lstore_n 1, 1) := by decide +kernel
theorem dX5_digest_4 : decode cX5_digest 4 = .ok (.iconst 0, 1) := by decide +kernel
theorem dX5_digest_5 : decode cX5_digest 5 = .ok (.istore_n 3, 1) := by decide +kernel
theorem dX5_digest_6 : decode cX5_digest 6 = .ok (.iload_n 3, 1) := by decide +kernel
theorem dX5_digest_7 : decode cX5_digest 7 = .ok (.iconst 5, 1) := by decide +kernel
theorem dX5_digest_8 : decode cX5_digest 8 = .ok (.if_icmp .gt 22, 3) := by decide +kernel
theorem dX5_digest_11 : decode cX5_digest 11 = .ok (.ldc2_w 206, 3) := by decide +kernel
theorem dX5_digest_14 : decode cX5_digest 14 = .ok (.lload_n 1, 1) := by decide +kernel
theorem dX5_digest_15 : decode cX5_digest 15 = .ok (.lmul, 1) := by decide +kernel
theorem dX5_digest_16 : decode cX5_digest 16 = .ok (.aload_n 0, 1) := by decide +kernel
theorem dX5_digest_17 : decode cX5_digest 17 = .ok (.iload_n 3, 1) := by decide +kernel
theorem dX5_digest_18 : decode cX5_digest 18 = .ok (.invokevirtual 208, 3) := by decide +kernel
theorem dX5_digest_21 : decode cX5_digest 21 = .ok (.i2l, 1) := by decide +kernel
theorem dX5_digest_22 : decode cX5_digest 22 = .ok (.ladd, 1) := by decide +kernel
theorem dX5_digest_23 : decode cX5_digest 23 = .ok (.lstore_n 1, 1) := by decide +kernel
theorem dX5_digest_24 : decode cX5_digest 24 = .ok (.iinc 3 1, 3) := by decide +kernel
theorem dX5_digest_27 : decode cX5_digest 27 = .ok (.goto (-21), 3) := by decide +kernel
theorem dX5_digest_30 : decode cX5_digest 30 = .ok (.aload_n 0, 1) := by decide +kernel
theorem dX5_digest_31 : decode cX5_digest 31 = .ok (.lload_n 1, 1) := by decide +kernel
theorem dX5_digest_32 : decode cX5_digest 32 = .ok (.invokevirtual 211, 3) := by decide +kernel
theorem dX5_digest_35 : decode cX5_digest 35 = .ok (.lstore_n 1, 1) := by decide +kernel
theorem dX5_digest_36 : decode cX5_digest 36 = .ok (.iconst 0, 1) := by decide +kernel
theorem dX5_digest_37 : decode cX5_digest 37 = .ok (.istore_n 3, 1) := by decide +kernel
theorem dX5_digest_38 : decode cX5_digest 38 = .ok (.iload_n 3, 1) := by decide +kernel
theorem dX5_digest_39 : decode cX5_digest 39 = .ok (.aload_n 0, 1) := by decide +kernel
theorem dX5_digest_40 : decode cX5_digest 40 = .ok (.getfield 10, 3) := by decide +kernel
theorem dX5_digest_43 : decode cX5_digest 43 = .ok (.getfield 61, 3) := by decide +kernel
theorem dX5_digest_46 : decode cX5_digest 46 = .ok (.if_icmp .ge 77, 3) := by decide +kernel
theorem dX5_digest_49 : decode cX5_digest 49 = .ok (.ldc2_w 206, 3) := by decide +kernel
theorem dX5_digest_52 : decode cX5_digest 52 = .ok (.lload_n 1, 1) := by decide +kernel
theorem dX5_digest_53 : decode cX5_digest 53 = .ok (.lmul, 1) := by decide +kernel
theorem dX5_digest_54 : decode cX5_digest 54 = .ok (.aload_n 0, 1) := by decide +kernel
theorem dX5_digest_55 : decode cX5_digest 55 = .ok (.getfield 10, 3) := by decide +kernel
theorem dX5_digest_58 : decode cX5_digest 58 = .ok (.getfield 116, 3) := by decide +kernel
theorem dX5_digest_61 : decode cX5_digest 61 = .ok (.iload_n 3, 1) := by decide +kernel
theorem dX5_digest_62 : decode cX5_digest 62 = .ok (.iaload, 1) := by decide +kernel
theorem dX5_digest_63 : decode cX5_digest 63 = .ok (.i2l, 1) := by decide +kernel
theorem dX5_digest_64 : decode cX5_digest 64 = .ok (.ladd, 1) := by decide +kernel
theorem dX5_digest_65 : decode cX5_digest 65 = .ok (.lstore_n 1, 1) := by decide +kernel
theorem dX5_digest_66 : decode cX5_digest 66 = .ok (.ldc2_w 206, 3) := by decide +kernel
theorem dX5_digest_69 : decode cX5_digest 69 = .ok (.lload_n 1, 1) := by decide +kernel
theorem dX5_digest_70 : decode cX5_digest 70 = .ok (.lmul, 1) := by decide +kernel
theorem dX5_digest_71 : decode cX5_digest 71 = .ok (.aload_n 0, 1) := by decide +kernel
theorem dX5_digest_72 : decode cX5_digest 72 = .ok (.getfield 10, 3) := by decide +kernel
theorem dX5_digest_75 : decode cX5_digest 75 = .ok (.getfield 119, 3) := by decide +kernel
theorem dX5_digest_78 : decode cX5_digest 78 = .ok (.iload_n 3, 1) := by decide +kernel
theorem dX5_digest_79 : decode cX5_digest 79 = .ok (.iaload, 1) := by decide +kernel
theorem dX5_digest_80 : decode cX5_digest 80 = .ok (.i2l, 1) := by decide +kernel
theorem dX5_digest_81 : decode cX5_digest 81 = .ok (.ladd, 1) := by decide +kernel
theorem dX5_digest_82 : decode cX5_digest 82 = .ok (.lstore_n 1, 1) := by decide +kernel
theorem dX5_digest_83 : decode cX5_digest 83 = .ok (.ldc2_w 206, 3) := by decide +kernel
theorem dX5_digest_86 : decode cX5_digest 86 = .ok (.lload_n 1, 1) := by decide +kernel
theorem dX5_digest_87 : decode cX5_digest 87 = .ok (.lmul, 1) := by decide +kernel
theorem dX5_digest_88 : decode cX5_digest 88 = .ok (.aload_n 0, 1) := by decide +kernel
theorem dX5_digest_89 : decode cX5_digest 89 = .ok (.getfield 10, 3) := by decide +kernel
theorem dX5_digest_92 : decode cX5_digest 92 = .ok (.getfield 72, 3) := by decide +kernel
theorem dX5_digest_95 : decode cX5_digest 95 = .ok (.iload_n 3, 1) := by decide +kernel
theorem dX5_digest_96 : decode cX5_digest 96 = .ok (.iaload, 1) := by decide +kernel
theorem dX5_digest_97 : decode cX5_digest 97 = .ok (.i2l, 1) := by decide +kernel
theorem dX5_digest_98 : decode cX5_digest 98 = .ok (.ladd, 1) := by decide +kernel
theorem dX5_digest_99 : decode cX5_digest 99 = .ok (.lstore_n 1, 1) := by decide +kernel
theorem dX5_digest_100 : decode cX5_digest 100 = .ok (.ldc2_w 206, 3) := by decide +kernel
theorem dX5_digest_103 : decode cX5_digest 103 = .ok (.lload_n 1, 1) := by decide +kernel
theorem dX5_digest_104 : decode cX5_digest 104 = .ok (.lmul, 1) := by decide +kernel
theorem dX5_digest_105 : decode cX5_digest 105 = .ok (.aload_n 0, 1) := by decide +kernel
theorem dX5_digest_106 : decode cX5_digest 106 = .ok (.getfield 10, 3) := by decide +kernel
theorem dX5_digest_109 : decode cX5_digest 109 = .ok (.getfield 215, 3) := by decide +kernel
theorem dX5_digest_112 : decode cX5_digest 112 = .ok (.iload_n 3, 1) := by decide +kernel
theorem dX5_digest_113 : decode cX5_digest 113 = .ok (.iaload, 1) := by decide +kernel
theorem dX5_digest_114 : decode cX5_digest 114 = .ok (.i2l, 1) := by decide +kernel
theorem dX5_digest_115 : decode cX5_digest 115 = .ok (.ladd, 1) := by decide +kernel
theorem dX5_digest_116 : decode cX5_digest 116 = .ok (.lstore_n 1, 1) := by decide +kernel
theorem dX5_digest_117 : decode cX5_digest 117 = .ok (.iinc 3 1, 3) := by decide +kernel
theorem dX5_digest_120 : decode cX5_digest 120 = .ok (.goto (-82), 3) := by decide +kernel
theorem dX5_digest_123 : decode cX5_digest 123 = .ok (.iconst 0, 1) := by decide +kernel
theorem dX5_digest_124 : decode cX5_digest 124 = .ok (.istore_n 3, 1) := by decide +kernel
theorem dX5_digest_125 : decode cX5_digest 125 = .ok (.iload_n 3, 1) := by decide +kernel
theorem dX5_digest_126 : decode cX5_digest 126 = .ok (.aload_n 0, 1) := by decide +kernel
theorem dX5_digest_127 : decode cX5_digest 127 = .ok (.getfield 19, 3) := by decide +kernel
theorem dX5_digest_130 : decode cX5_digest 130 = .ok (.getfield 126, 3) := by decide +kernel
theorem dX5_digest_133 : decode cX5_digest 133 = .ok (.if_icmp .ge 43, 3) := by decide +kernel
theorem dX5_digest_136 : decode cX5_digest 136 = .ok (.ldc2_w 206, 3) := by decide +kernel
theorem dX5_digest_139 : decode cX5_digest 139 = .ok (.lload_n 1, 1) := by decide +kernel
theorem dX5_digest_140 : decode cX5_digest 140 = .ok (.lmul, 1) := by decide +kernel
theorem dX5_digest_141 : decode cX5_digest 141 = .ok (.aload_n 0, 1) := by decide +kernel
theorem dX5_digest_142 : decode cX5_digest 142 = .ok (.getfield 19, 3) := by decide +kernel
theorem dX5_digest_145 : decode cX5_digest 145 = .ok (.getfield 218, 3) := by decide +kernel
theorem dX5_digest_148 : decode cX5_digest 148 = .ok (.iload_n 3, 1) := by decide +kernel
theorem dX5_digest_149 : decode cX5_digest 149 = .ok (.iaload, 1) := by decide +kernel
theorem dX5_digest_150 : decode cX5_digest 150 = .ok (.i2l, 1) := by decide +kernel
theorem dX5_digest_151 : decode cX5_digest 151 = .ok (.ladd, 1) := by decide +kernel
theorem dX5_digest_152 : decode cX5_digest 152 = .ok (.lstore_n 1, 1) := by decide +kernel
theorem dX5_digest_153 : decode cX5_digest 153 = .ok (.ldc2_w 206, 3) := by decide +kernel
theorem dX5_digest_156 : decode cX5_digest 156 = .ok (.lload_n 1, 1) := by decide +kernel
theorem dX5_digest_157 : decode cX5_digest 157 = .ok (.lmul, 1) := by decide +kernel
theorem dX5_digest_158 : decode cX5_digest 158 = .ok (.aload_n 0, 1) := by decide +kernel
theorem dX5_digest_159 : decode cX5_digest 159 = .ok (.getfield 19, 3) := by decide +kernel
theorem dX5_digest_162 : decode cX5_digest 162 = .ok (.getfield 221, 3) := by decide +kernel
theorem dX5_digest_165 : decode cX5_digest 165 = .ok (.iload_n 3, 1) := by decide +kernel
theorem dX5_digest_166 : decode cX5_digest 166 = .ok (.iaload, 1) := by decide +kernel
theorem dX5_digest_167 : decode cX5_digest 167 = .ok (.i2l, 1) := by decide +kernel
theorem dX5_digest_168 : decode cX5_digest 168 = .ok (.ladd, 1) := by decide +kernel
theorem dX5_digest_169 : decode cX5_digest 169 = .ok (.lstore_n 1, 1) := by decide +kernel
theorem dX5_digest_170 : decode cX5_digest 170 = .ok (.iinc 3 1, 3) := by decide +kernel
theorem dX5_digest_173 : decode cX5_digest 173 = .ok (.goto (-48), 3) := by decide +kernel
theorem dX5_digest_176 : decode cX5_digest 176 = .ok (.lload_n 1, 1) := by decide +kernel
theorem dX5_digest_177 : decode cX5_digest 177 = .ok (.lreturn, 1) := by decide +kernel
theorem dX5_digestOfKnots_0 : decode cX5_digestOfKnots 0 = .ok (.aload_n 0, 1) := by decide +kernel
theorem dX5_digestOfKnots_1 : decode cX5_digestOfKnots 1 = .ok (.invokevirtual 90, 3) := by decide +kernel
theorem dX5_digestOfKnots_4 : decode cX5_digestOfKnots 4 = .ok (.istore_n 3, 1) := by decide +kernel
theorem dX5_digestOfKnots_5 : decode cX5_digestOfKnots 5 = .ok (.lload_n 1, 1) := by decide +kernel
theorem dX5_digestOfKnots_6 : decode cX5_digestOfKnots 6 = .ok (.lstore 4, 2) := by decide +kernel
theorem dX5_digestOfKnots_8 : decode cX5_digestOfKnots 8 = .ok (.iconst 0, 1) := by decide +kernel
theorem dX5_digestOfKnots_9 : decode cX5_digestOfKnots 9 = .ok (.istore 6, 2) := by decide +kernel
theorem dX5_digestOfKnots_11 : decode cX5_digestOfKnots 11 = .ok (.iload 6, 2) := by decide +kernel
theorem dX5_digestOfKnots_13 : decode cX5_digestOfKnots 13 = .ok (.aload_n 0, 1) := by decide +kernel
theorem dX5_digestOfKnots_14 : decode cX5_digestOfKnots 14 = .ok (.getfield 10, 3) := by decide +kernel
theorem dX5_digestOfKnots_17 : decode cX5_digestOfKnots 17 = .ok (.getfield 150, 3) := by decide +kernel
theorem dX5_digestOfKnots_20 : decode cX5_digestOfKnots 20 = .ok (.if_icmp .ge 136, 3) := by decide +kernel
theorem dX5_digestOfKnots_23 : decode cX5_digestOfKnots 23 = .ok (.ldc2_w 206, 3) := by decide +kernel
theorem dX5_digestOfKnots_26 : decode cX5_digestOfKnots 26 = .ok (.lload 4, 2) := by decide +kernel
theorem dX5_digestOfKnots_28 : decode cX5_digestOfKnots 28 = .ok (.lmul, 1) := by decide +kernel
theorem dX5_digestOfKnots_29 : decode cX5_digestOfKnots 29 = .ok (.aload_n 0, 1) := by decide +kernel
theorem dX5_digestOfKnots_30 : decode cX5_digestOfKnots 30 = .ok (.getfield 10, 3) := by decide +kernel
theorem dX5_digestOfKnots_33 : decode cX5_digestOfKnots 33 = .ok (.getfield 82, 3) := by decide +kernel
theorem dX5_digestOfKnots_36 : decode cX5_digestOfKnots 36 = .ok (.iload 6, 2) := by decide +kernel
theorem dX5_digestOfKnots_38 : decode cX5_digestOfKnots 38 = .ok (.iaload, 1) := by decide +kernel
theorem dX5_digestOfKnots_39 : decode cX5_digestOfKnots 39 = .ok (.i2l, 1) := by decide +kernel
theorem dX5_digestOfKnots_40 : decode cX5_digestOfKnots 40 = .ok (.ladd, 1) := by decide +kernel
theorem dX5_digestOfKnots_41 : decode cX5_digestOfKnots 41 = .ok (.lstore 4, 2) := by decide +kernel
theorem dX5_digestOfKnots_43 : decode cX5_digestOfKnots 43 = .ok (.ldc2_w 206, 3) := by decide +kernel
theorem dX5_digestOfKnots_46 : decode cX5_digestOfKnots 46 = .ok (.lload 4, 2) := by decide +kernel
theorem dX5_digestOfKnots_48 : decode cX5_digestOfKnots 48 = .ok (.lmul, 1) := by decide +kernel
theorem dX5_digestOfKnots_49 : decode cX5_digestOfKnots 49 = .ok (.aload_n 0, 1) := by decide +kernel
theorem dX5_digestOfKnots_50 : decode cX5_digestOfKnots 50 = .ok (.getfield 10, 3) := by decide +kernel
theorem dX5_digestOfKnots_53 : decode cX5_digestOfKnots 53 = .ok (.iload 6, 2) := by decide +kernel
theorem dX5_digestOfKnots_55 : decode cX5_digestOfKnots 55 = .ok (.invokevirtual 76, 3) := by decide +kernel
theorem dX5_digestOfKnots_58 : decode cX5_digestOfKnots 58 = .ok (.ifCond .eq 7, 3) := by decide +kernel
theorem dX5_digestOfKnots_61 : decode cX5_digestOfKnots 61 = .ok (.iconst 1, 1) := by decide +kernel
theorem dX5_digestOfKnots_62 : decode cX5_digestOfKnots 62 = .ok (.goto 4, 3) := by decide +kernel
theorem dX5_digestOfKnots_65 : decode cX5_digestOfKnots 65 = .ok (.iconst 0, 1) := by decide +kernel
theorem dX5_digestOfKnots_66 : decode cX5_digestOfKnots 66 = .ok (.i2l, 1) := by decide +kernel
theorem dX5_digestOfKnots_67 : decode cX5_digestOfKnots 67 = .ok (.ladd, 1) := by decide +kernel
theorem dX5_digestOfKnots_68 : decode cX5_digestOfKnots 68 = .ok (.lstore 4, 2) := by decide +kernel
theorem dX5_digestOfKnots_70 : decode cX5_digestOfKnots 70 = .ok (.ldc2_w 206, 3) := by decide +kernel
theorem dX5_digestOfKnots_73 : decode cX5_digestOfKnots 73 = .ok (.lload 4, 2) := by decide +kernel
theorem dX5_digestOfKnots_75 : decode cX5_digestOfKnots 75 = .ok (.lmul, 1) := by decide +kernel
theorem dX5_digestOfKnots_76 : decode cX5_digestOfKnots 76 = .ok (.iload_n 3, 1) := by decide +kernel
theorem dX5_digestOfKnots_77 : decode cX5_digestOfKnots 77 = .ok (.ifCond .eq 27, 3) := by decide +kernel
theorem dX5_digestOfKnots_80 : decode cX5_digestOfKnots 80 = .ok (.aload_n 0, 1) := by decide +kernel
theorem dX5_digestOfKnots_81 : decode cX5_digestOfKnots 81 = .ok (.getfield 26, 3) := by decide +kernel
theorem dX5_digestOfKnots_84 : decode cX5_digestOfKnots 84 = .ok (.getfield 96, 3) := by decide +kernel
theorem dX5_digestOfKnots_87 : decode cX5_digestOfKnots 87 = .ok (.iload 6, 2) := by decide +kernel
theorem dX5_digestOfKnots_89 : decode cX5_digestOfKnots 89 = .ok (.laload, 1) := by decide +kernel
theorem dX5_digestOfKnots_90 : decode cX5_digestOfKnots 90 = .ok (.aload_n 0, 1) := by decide +kernel
theorem dX5_digestOfKnots_91 : decode cX5_digestOfKnots 91 = .ok (.getfield 26, 3) := by decide +kernel
theorem dX5_digestOfKnots_94 : decode cX5_digestOfKnots 94 = .ok (.getfield 100, 3) := by decide +kernel
theorem dX5_digestOfKnots_97 : decode cX5_digestOfKnots 97 = .ok (.iconst 0, 1) := by decide +kernel
theorem dX5_digestOfKnots_98 : decode cX5_digestOfKnots 98 = .ok (.invokestatic 104, 3) := by decide +kernel
theorem dX5_digestOfKnots_101 : decode cX5_digestOfKnots 101 = .ok (.goto 6, 3) := by decide +kernel
theorem dX5_digestOfKnots_104 : decode cX5_digestOfKnots 104 = .ok (.ldc2_w 94, 3) := by decide +kernel
theorem dX5_digestOfKnots_107 : decode cX5_digestOfKnots 107 = .ok (.ladd, 1) := by decide +kernel
theorem dX5_digestOfKnots_108 : decode cX5_digestOfKnots 108 = .ok (.lstore 4, 2) := by decide +kernel
theorem dX5_digestOfKnots_110 : decode cX5_digestOfKnots 110 = .ok (.ldc2_w 206, 3) := by decide +kernel
theorem dX5_digestOfKnots_113 : decode cX5_digestOfKnots 113 = .ok (.lload 4, 2) := by decide +kernel
theorem dX5_digestOfKnots_115 : decode cX5_digestOfKnots 115 = .ok (.lmul, 1) := by decide +kernel
theorem dX5_digestOfKnots_116 : decode cX5_digestOfKnots 116 = .ok (.iload_n 3, 1) := by decide +kernel
theorem dX5_digestOfKnots_117 : decode cX5_digestOfKnots 117 = .ok (.ifCond .eq 27, 3) := by decide +kernel
theorem dX5_digestOfKnots_120 : decode cX5_digestOfKnots 120 = .ok (.aload_n 0, 1) := by decide +kernel
theorem dX5_digestOfKnots_121 : decode cX5_digestOfKnots 121 = .ok (.getfield 26, 3) := by decide +kernel
theorem dX5_digestOfKnots_124 : decode cX5_digestOfKnots 124 = .ok (.getfield 96, 3) := by decide +kernel
theorem dX5_digestOfKnots_127 : decode cX5_digestOfKnots 127 = .ok (.iload 6, 2) := by decide +kernel
theorem dX5_digestOfKnots_129 : decode cX5_digestOfKnots 129 = .ok (.laload, 1) := by decide +kernel
theorem dX5_digestOfKnots_130 : decode cX5_digestOfKnots 130 = .ok (.aload_n 0, 1) := by decide +kernel
theorem dX5_digestOfKnots_131 : decode cX5_digestOfKnots 131 = .ok (.getfield 26, 3) := by decide +kernel
theorem dX5_digestOfKnots_134 : decode cX5_digestOfKnots 134 = .ok (.getfield 100, 3) := by decide +kernel
theorem dX5_digestOfKnots_137 : decode cX5_digestOfKnots 137 = .ok (.iconst 1, 1) := by decide +kernel
theorem dX5_digestOfKnots_138 : decode cX5_digestOfKnots 138 = .ok (.invokestatic 104, 3) := by decide +kernel
theorem dX5_digestOfKnots_141 : decode cX5_digestOfKnots 141 = .ok (.goto 6, 3) := by decide +kernel
theorem dX5_digestOfKnots_144 : decode cX5_digestOfKnots 144 = .ok (.ldc2_w 94, 3) := by decide +kernel
theorem dX5_digestOfKnots_147 : decode cX5_digestOfKnots 147 = .ok (.ladd, 1) := by decide +kernel
theorem dX5_digestOfKnots_148 : decode cX5_digestOfKnots 148 = .ok (.lstore 4, 2) := by decide +kernel
theorem dX5_digestOfKnots_150 : decode cX5_digestOfKnots 150 = .ok (.iinc 6 1, 3) := by decide +kernel
theorem dX5_digestOfKnots_153 : decode cX5_digestOfKnots 153 = .ok (.goto (-142), 3) := by decide +kernel
theorem dX5_digestOfKnots_156 : decode cX5_digestOfKnots 156 = .ok (.lload 4, 2) := by decide +kernel
theorem dX5_digestOfKnots_158 : decode cX5_digestOfKnots 158 = .ok (.lreturn, 1) := by decide +kernel
theorem dX5_settled_0 : decode cX5_settled 0 = .ok (.aload_n 0, 1) := by decide +kernel
theorem dX5_settled_1 : decode cX5_settled 1 = .ok (.getfield 26, 3) := by decide +kernel
theorem dX5_settled_4 : decode cX5_settled 4 = .ok (.aload_n 0, 1) := by decide +kernel
theorem dX5_settled_5 : decode cX5_settled 5 = .ok (.getfield 10, 3) := by decide +kernel
theorem dX5_settled_8 : decode cX5_settled 8 = .ok (.aload_n 0, 1) := by decide +kernel
theorem dX5_settled_9 : decode cX5_settled 9 = .ok (.getfield 10, 3) := by decide +kernel
theorem dX5_settled_12 : decode cX5_settled 12 = .ok (.getfield 79, 3) := by decide +kernel
theorem dX5_settled_15 : decode cX5_settled 15 = .ok (.invokevirtual 184, 3) := by decide +kernel
theorem dX5_settled_18 : decode cX5_settled 18 = .ok (.ireturn, 1) := by decide +kernel
theorem dX5_opened_0 : decode cX5_opened 0 = .ok (.aload_n 0, 1) := by decide +kernel
theorem dX5_opened_1 : decode cX5_opened 1 = .ok (.getfield 30, 3) := by decide +kernel
theorem dX5_opened_4 : decode cX5_opened 4 = .ok (.aload_n 0, 1) := by decide +kernel
theorem dX5_opened_5 : decode cX5_opened 5 = .ok (.getfield 26, 3) := by decide +kernel
theorem dX5_opened_8 : decode cX5_opened 8 = .ok (.aload_n 0, 1) := by decide +kernel
theorem dX5_opened_9 : decode cX5_opened 9 = .ok (.getfield 10, 3) := by decide +kernel
theorem dX5_opened_12 : decode cX5_opened 12 = .ok (.getfield 116, 3) := by decide +kernel
theorem dX5_opened_15 : decode cX5_opened 15 = .ok (.iload_n 1, 1) := by decide +kernel
theorem dX5_opened_16 : decode cX5_opened 16 = .ok (.iaload, 1) := by decide +kernel
theorem dX5_opened_17 : decode cX5_opened 17 = .ok (.aload_n 0, 1) := by decide +kernel
theorem dX5_opened_18 : decode cX5_opened 18 = .ok (.getfield 10, 3) := by decide +kernel
theorem dX5_opened_21 : decode cX5_opened 21 = .ok (.getfield 119, 3) := by decide +kernel
theorem dX5_opened_24 : decode cX5_opened 24 = .ok (.iload_n 1, 1) := by decide +kernel
theorem dX5_opened_25 : decode cX5_opened 25 = .ok (.iaload, 1) := by decide +kernel
theorem dX5_opened_26 : decode cX5_opened 26 = .ok (.aload_n 0, 1) := by decide +kernel
theorem dX5_opened_27 : decode cX5_opened 27 = .ok (.getfield 10, 3) := by decide +kernel
theorem dX5_opened_30 : decode cX5_opened 30 = .ok (.getfield 72, 3) := by decide +kernel
theorem dX5_opened_33 : decode cX5_opened 33 = .ok (.iload_n 1, 1) := by decide +kernel
theorem dX5_opened_34 : decode cX5_opened 34 = .ok (.iaload, 1) := by decide +kernel
theorem dX5_opened_35 : decode cX5_opened 35 = .ok (.ineg, 1) := by decide +kernel
theorem dX5_opened_36 : decode cX5_opened 36 = .ok (.invokevirtual 224, 3) := by decide +kernel
theorem dX5_opened_39 : decode cX5_opened 39 = .ok (.ireturn, 1) := by decide +kernel
theorem dX5_between_0 : decode cX5_between 0 = .ok (.iload_n 0, 1) := by decide +kernel
theorem dX5_between_1 : decode cX5_between 1 = .ok (.iload_n 1, 1) := by decide +kernel
theorem dX5_between_2 : decode cX5_between 2 = .ok (.if_icmp .lt 12, 3) := by decide +kernel
theorem dX5_between_5 : decode cX5_between 5 = .ok (.iload_n 0, 1) := by decide +kernel
theorem dX5_between_6 : decode cX5_between 6 = .ok (.iload_n 2, 1) := by decide +kernel
theorem dX5_between_7 : decode cX5_between 7 = .ok (.if_icmp .gt 7, 3) := by decide +kernel
theorem dX5_between_10 : decode cX5_between 10 = .ok (.iconst 1, 1) := by decide +kernel
theorem dX5_between_11 : decode cX5_between 11 = .ok (.goto 4, 3) := by decide +kernel
theorem dX5_between_14 : decode cX5_between 14 = .ok (.iconst 0, 1) := by decide +kernel
theorem dX5_between_15 : decode cX5_between 15 = .ok (.ireturn, 1) := by decide +kernel
theorem dX5_isPart_0 : decode cX5_isPart 0 = .ok (.iload_n 0, 1) := by decide +kernel
theorem dX5_isPart_1 : decode cX5_isPart 1 = .ok (.ifCond .eq 8, 3) := by decide +kernel
theorem dX5_isPart_4 : decode cX5_isPart 4 = .ok (.iload_n 0, 1) := by decide +kernel
theorem dX5_isPart_5 : decode cX5_isPart 5 = .ok (.iconst 1, 1) := by decide +kernel
theorem dX5_isPart_6 : decode cX5_isPart 6 = .ok (.if_icmp .ne 7, 3) := by decide +kernel
theorem dX5_isPart_9 : decode cX5_isPart 9 = .ok (.iconst 1, 1) := by decide +kernel
theorem dX5_isPart_10 : decode cX5_isPart 10 = .ok (.goto 4, 3) := by decide +kernel
theorem dX5_isPart_13 : decode cX5_isPart 13 = .ok (.iconst 0, 1) := by decide +kernel
theorem dX5_isPart_14 : decode cX5_isPart 14 = .ok (.ireturn, 1) := by decide +kernel
theorem dX5_has_0 : decode cX5_has 0 = .ok (.iload_n 0, 1) := by decide +kernel
theorem dX5_has_1 : decode cX5_has 1 = .ok (.iload_n 1, 1) := by decide +kernel
theorem dX5_has_2 : decode cX5_has 2 = .ok (.ishr, 1) := by decide +kernel
theorem dX5_has_3 : decode cX5_has 3 = .ok (.iconst 1, 1) := by decide +kernel
theorem dX5_has_4 : decode cX5_has 4 = .ok (.iand, 1) := by decide +kernel
theorem dX5_has_5 : decode cX5_has 5 = .ok (.ifCond .eq 7, 3) := by decide +kernel
theorem dX5_has_8 : decode cX5_has 8 = .ok (.iconst 1, 1) := by decide +kernel
theorem dX5_has_9 : decode cX5_has 9 = .ok (.goto 4, 3) := by decide +kernel
theorem dX5_has_12 : decode cX5_has 12 = .ok (.iconst 0, 1) := by decide +kernel
theorem dX5_has_13 : decode cX5_has 13 = .ok (.ireturn, 1) := by decide +kernel
theorem dX5_isLess_0 : decode cX5_isLess 0 = .ok (.lload_n 0, 1) := by decide +kernel
theorem dX5_isLess_1 : decode cX5_isLess 1 = .ok (.lload 6, 2) := by decide +kernel
theorem dX5_isLess_3 : decode cX5_isLess 3 = .ok (.lmul, 1) := by decide +kernel
theorem dX5_isLess_4 : decode cX5_isLess 4 = .ok (.lload 4, 2) := by decide +kernel
theorem dX5_isLess_6 : decode cX5_isLess 6 = .ok (.lload_n 2, 1) := by decide +kernel
theorem dX5_isLess_7 : decode cX5_isLess 7 = .ok (.lmul, 1) := by decide +kernel
theorem dX5_isLess_8 : decode cX5_isLess 8 = .ok (.lcmp, 1) := by decide +kernel
theorem dX5_isLess_9 : decode cX5_isLess 9 = .ok (.ifCond .ge 7, 3) := by decide +kernel
theorem dX5_isLess_12 : decode cX5_isLess 12 = .ok (.iconst 1, 1) := by decide +kernel
theorem dX5_isLess_13 : decode cX5_isLess 13 = .ok (.goto 4, 3) := by decide +kernel
theorem dX5_isLess_16 : decode cX5_isLess 16 = .ok (.iconst 0, 1) := by decide +kernel
theorem dX5_isLess_17 : decode cX5_isLess 17 = .ok (.ireturn, 1) := by decide +kernel
theorem dX5_part_0 : decode cX5_part 0 = .ok (.lload_n 0, 1) := by decide +kernel
theorem dX5_part_1 : decode cX5_part 1 = .ok (.invokestatic 228, 3) := by decide +kernel
theorem dX5_part_4 : decode cX5_part 4 = .ok (.lload_n 2, 1) := by decide +kernel
theorem dX5_part_5 : decode cX5_part 5 = .ok (.invokestatic 233, 3) := by decide +kernel
theorem dX5_part_8 : decode cX5_part 8 = .ok (.lstore 5, 2) := by decide +kernel
theorem dX5_part_10 : decode cX5_part 10 = .ok (.lload 5, 2) := by decide +kernel
theorem dX5_part_12 : decode cX5_part 12 = .ok (.lconst 0, 1) := by decide +kernel
theorem dX5_part_13 : decode cX5_part 13 = .ok (.lcmp, 1) := by decide +kernel
theorem dX5_part_14 : decode cX5_part 14 = .ok (.ifCond .gt 7, 3) := by decide +kernel
theorem dX5_part_17 : decode cX5_part 17 = .ok (.ldc2_w 94, 3) := by decide +kernel
theorem dX5_part_20 : decode cX5_part 20 = .ok (.lreturn, 1) := by decide +kernel
theorem dX5_part_21 : decode cX5_part 21 = .ok (.iload 4, 2) := by decide +kernel
theorem dX5_part_23 : decode cX5_part 23 = .ok (.ifCond .ne 7, 3) := by decide +kernel
theorem dX5_part_26 : decode cX5_part 26 = .ok (.lload_n 0, 1) := by decide +kernel
theorem dX5_part_27 : decode cX5_part 27 = .ok (.goto 4, 3) := by decide +kernel
theorem dX5_part_30 : decode cX5_part 30 = .ok (.lload_n 2, 1) := by decide +kernel
theorem dX5_part_31 : decode cX5_part 31 = .ok (.lload 5, 2) := by decide +kernel
theorem dX5_part_33 : decode cX5_part 33 = .ok (.ldiv, 1) := by decide +kernel
theorem dX5_part_34 : decode cX5_part 34 = .ok (.lreturn, 1) := by decide +kernel
theorem dX5_commonDivisor_0 : decode cX5_commonDivisor 0 = .ok (.lload_n 0, 1) := by decide +kernel
theorem dX5_commonDivisor_1 : decode cX5_commonDivisor 1 = .ok (.lstore 4, 2) := by decide +kernel
theorem dX5_commonDivisor_3 : decode cX5_commonDivisor 3 = .ok (.lload_n 2, 1) := by decide +kernel
theorem dX5_commonDivisor_4 : decode cX5_commonDivisor 4 = .ok (.lstore 6, 2) := by decide +kernel
theorem dX5_commonDivisor_6 : decode cX5_commonDivisor 6 = .ok (.iconst 0, 1) := by decide +kernel
theorem dX5_commonDivisor_7 : decode cX5_commonDivisor 7 = .ok (.istore 8, 2) := by decide +kernel
theorem dX5_commonDivisor_9 : decode cX5_commonDivisor 9 = .ok (.iload 8, 2) := by decide +kernel
theorem dX5_commonDivisor_11 : decode cX5_commonDivisor 11 = .ok (.bipush 100, 2) := by decide +kernel
theorem dX5_commonDivisor_13 : decode cX5_commonDivisor 13 = .ok (.if_icmp .ge 31, 3) := by decide +kernel
theorem dX5_commonDivisor_16 : decode cX5_commonDivisor 16 = .ok (.lload 6, 2) := by decide +kernel
theorem dX5_commonDivisor_18 : decode cX5_commonDivisor 18 = .ok (.lconst 0, 1) := by decide +kernel
theorem dX5_commonDivisor_19 : decode cX5_commonDivisor 19 = .ok (.lcmp, 1) := by decide +kernel
theorem dX5_commonDivisor_20 : decode cX5_commonDivisor 20 = .ok (.ifCond .eq 24, 3) := by decide +kernel
theorem dX5_commonDivisor_23 : decode cX5_commonDivisor 23 = .ok (.lload 4, 2) := by decide +kernel
theorem dX5_commonDivisor_25 : decode cX5_commonDivisor 25 = .ok (.lload 6, 2) := by decide +kernel
theorem dX5_commonDivisor_27 : decode cX5_commonDivisor 27 = .ok (.lrem, 1) := by decide +kernel
theorem dX5_commonDivisor_28 : decode cX5_commonDivisor 28 = .ok (.lstore 9, 2) := by decide +kernel
theorem dX5_commonDivisor_30 : decode cX5_commonDivisor 30 = .ok (.lload 6, 2) := by decide +kernel
theorem dX5_commonDivisor_32 : decode cX5_commonDivisor 32 = .ok (.lstore 4, 2) := by decide +kernel
theorem dX5_commonDivisor_34 : decode cX5_commonDivisor 34 = .ok (.lload 9, 2) := by decide +kernel
theorem dX5_commonDivisor_36 : decode cX5_commonDivisor 36 = .ok (.lstore 6, 2) := by decide +kernel
theorem dX5_commonDivisor_38 : decode cX5_commonDivisor 38 = .ok (.iinc 8 1, 3) := by decide +kernel
theorem dX5_commonDivisor_41 : decode cX5_commonDivisor 41 = .ok (.goto (-32), 3) := by decide +kernel
theorem dX5_commonDivisor_44 : decode cX5_commonDivisor 44 = .ok (.lload 4, 2) := by decide +kernel
theorem dX5_commonDivisor_46 : decode cX5_commonDivisor 46 = .ok (.lreturn, 1) := by decide +kernel
theorem dX6_init_0 : decode cX6_init 0 = .ok (.aload_n 0, 1) := by decide +kernel
theorem dX6_init_1 : decode cX6_init 1 = .ok (.invokespecial 1, 3) := by decide +kernel
theorem dX6_init_4 : decode cX6_init 4 = .ok (.aload_n 0, 1) := by decide +kernel
theorem dX6_init_5 : decode cX6_init 5 = .ok (.iconst 2, 1) := by decide +kernel
theorem dX6_init_6 : decode cX6_init 6 = .ok (.putfield 7, 3) := by decide +kernel
theorem dX6_init_9 : decode cX6_init 9 = .ok (.aload_n 0, 1) := by decide +kernel
theorem dX6_init_10 : decode cX6_init 10 = .ok (.bipush 12, 2) := by decide +kernel
theorem dX6_init_12 : decode cX6_init 12 = .ok (.newarray .int, 2) := by decide +kernel
theorem dX6_init_14 : decode cX6_init 14 = .ok (.putfield 13, 3) := by decide +kernel
theorem dX6_init_17 : decode cX6_init 17 = .ok (.aload_n 0, 1) := by decide +kernel
theorem dX6_init_18 : decode cX6_init 18 = .ok (.bipush 12, 2) := by decide +kernel
theorem dX6_init_20 : decode cX6_init 20 = .ok (.newarray .int, 2) := by decide +kernel
theorem dX6_init_22 : decode cX6_init 22 = .ok (.putfield 17, 3) := by decide +kernel
theorem dX6_init_25 : decode cX6_init 25 = .ok (.aload_n 0, 1) := by decide +kernel
theorem dX6_init_26 : decode cX6_init 26 = .ok (.bipush 12, 2) := by decide +kernel
theorem dX6_init_28 : decode cX6_init 28 = .ok (.newarray .int, 2) := by decide +kernel
theorem dX6_init_30 : decode cX6_init 30 = .ok (.putfield 20, 3) := by decide +kernel
theorem dX6_init_33 : decode cX6_init 33 = .ok (.aload_n 0, 1) := by decide +kernel
theorem dX6_init_34 : decode cX6_init 34 = .ok (.bipush 12, 2) := by decide +kernel
theorem dX6_init_36 : decode cX6_init 36 = .ok (.newarray .int, 2) := by decide +kernel
theorem dX6_init_38 : decode cX6_init 38 = .ok (.putfield 23, 3) := by decide +kernel
theorem dX6_init_41 : decode cX6_init 41 = .ok (.aload_n 0, 1) := by decide +kernel
theorem dX6_init_42 : decode cX6_init 42 = .ok (.bipush 7, 2) := by decide +kernel
theorem dX6_init_44 : decode cX6_init 44 = .ok (.newarray .int, 2) := by decide +kernel
theorem dX6_init_46 : decode cX6_init 46 = .ok (.putfield 26, 3) := by decide +kernel
theorem dX6_init_49 : decode cX6_init 49 = .ok (.aload_n 0, 1) := by decide +kernel
theorem dX6_init_50 : decode cX6_init 50 = .ok (.bipush 6, 2) := by decide +kernel
theorem dX6_init_52 : decode cX6_init 52 = .ok (.newarray .int, 2) := by decide +kernel
theorem dX6_init_54 : decode cX6_init 54 = .ok (.putfield 29, 3) := by decide +kernel
theorem dX6_init_57 : decode cX6_init 57 = .ok (.aload_n 0, 1) := by decide +kernel
theorem dX6_init_58 : decode cX6_init 58 = .ok (.bipush 6, 2) := by decide +kernel
theorem dX6_init_60 : decode cX6_init 60 = .ok (.newarray .int, 2) := by decide +kernel
theorem dX6_init_62 : decode cX6_init 62 = .ok (.putfield 32, 3) := by decide +kernel
theorem dX6_init_65 : decode cX6_init 65 = .ok (.aload_n 0, 1) := by decide +kernel
theorem dX6_init_66 : decode cX6_init 66 = .ok (.bipush 49, 2) := by decide +kernel
theorem dX6_init_68 : decode cX6_init 68 = .ok (.newarray .long, 2) := by decide +kernel
theorem dX6_init_70 : decode cX6_init 70 = .ok (.putfield 35, 3) := by decide +kernel
theorem dX6_init_73 : decode cX6_init 73 = .ok (.aload_n 0, 1) := by decide +kernel
theorem dX6_init_74 : decode cX6_init 74 = .ok (.bipush 7, 2) := by decide +kernel
theorem dX6_init_76 : decode cX6_init 76 = .ok (.newarray .int, 2) := by decide +kernel
theorem dX6_init_78 : decode cX6_init 78 = .ok (.putfield 39, 3) := by decide +kernel
theorem dX6_init_81 : decode cX6_init 81 = .ok (.aload_n 0, 1) := by decide +kernel
theorem dX6_init_82 : decode cX6_init 82 = .ok (.bipush 7, 2) := by decide +kernel
theorem dX6_init_84 : decode cX6_init 84 = .ok (.newarray .int, 2) := by decide +kernel
theorem dX6_init_86 : decode cX6_init 86 = .ok (.putfield 42, 3) := by decide +kernel
theorem dX6_init_89 : decode cX6_init 89 = .ok (.aload_n 0, 1) := by decide +kernel
theorem dX6_init_90 : decode cX6_init 90 = .ok (.bipush 49, 2) := by decide +kernel
theorem dX6_init_92 : decode cX6_init 92 = .ok (.newarray .long, 2) := by decide +kernel
theorem dX6_init_94 : decode cX6_init 94 = .ok (.putfield 45, 3) := by decide +kernel
theorem dX6_init_97 : decode cX6_init 97 = .ok (.aload_n 0, 1) := by decide +kernel
theorem dX6_init_98 : decode cX6_init 98 = .ok (.bipush 6, 2) := by decide +kernel
theorem dX6_init_100 : decode cX6_init 100 = .ok (.newarray .int, 2) := by decide +kernel
theorem dX6_init_102 : decode cX6_init 102 = .ok (.putfield 48, 3) := by decide +kernel
theorem dX6_init_105 : decode cX6_init 105 = .ok (.aload_n 0, 1) := by decide +kernel
theorem dX6_init_106 : decode cX6_init 106 = .ok (.iconst 3, 1) := by decide +kernel
theorem dX6_init_107 : decode cX6_init 107 = .ok (.newarray .int, 2) := by decide +kernel
theorem dX6_init_109 : decode cX6_init 109 = .ok (.putfield 51, 3) := by decide +kernel
theorem dX6_init_112 : decode cX6_init 112 = .ok (.aload_n 0, 1) := by decide +kernel
theorem dX6_init_113 : decode cX6_init 113 = .ok (.bipush 12, 2) := by decide +kernel
theorem dX6_init_115 : decode cX6_init 115 = .ok (.newarray .int, 2) := by decide +kernel
theorem dX6_init_117 : decode cX6_init 117 = .ok (.putfield 54, 3) := by decide +kernel
theorem dX6_init_120 : decode cX6_init 120 = .ok (.aload_n 0, 1) := by decide +kernel
theorem dX6_init_121 : decode cX6_init 121 = .ok (.bipush 12, 2) := by decide +kernel
theorem dX6_init_123 : decode cX6_init 123 = .ok (.newarray .int, 2) := by decide +kernel
theorem dX6_init_125 : decode cX6_init 125 = .ok (.putfield 57, 3) := by decide +kernel
theorem dX6_init_128 : decode cX6_init 128 = .ok (.aload_n 0, 1) := by decide +kernel
theorem dX6_init_129 : decode cX6_init 129 = .ok (.bipush 6, 2) := by decide +kernel
theorem dX6_init_131 : decode cX6_init 131 = .ok (.newarray .int, 2) := by decide +kernel
theorem dX6_init_133 : decode cX6_init 133 = .ok (.putfield 60, 3) := by decide +kernel
theorem dX6_init_136 : decode cX6_init 136 = .ok (.aload_n 0, 1) := by decide +kernel
theorem dX6_init_137 : decode cX6_init 137 = .ok (.bipush 6, 2) := by decide +kernel
theorem dX6_init_139 : decode cX6_init 139 = .ok (.newarray .int, 2) := by decide +kernel
theorem dX6_init_141 : decode cX6_init 141 = .ok (.putfield 63, 3) := by decide +kernel
theorem dX6_init_144 : decode cX6_init 144 = .ok (.aload_n 0, 1) := by decide +kernel
theorem dX6_init_145 : decode cX6_init 145 = .ok (.bipush 7, 2) := by decide +kernel
theorem dX6_init_147 : decode cX6_init 147 = .ok (.newarray .int, 2) := by decide +kernel
theorem dX6_init_149 : decode cX6_init 149 = .ok (.putfield 66, 3) := by decide +kernel
theorem dX6_init_152 : decode cX6_init 152 = .ok (.return_, 1) := by decide +kernel
theorem dX6_in_0 : decode cX6_in 0 = .ok (.iload_n 0, 1) := by decide +kernel
theorem dX6_in_1 : decode cX6_in 1 = .ok (.iload_n 1, 1) := by decide +kernel
theorem dX6_in_2 : decode cX6_in 2 = .ok (.if_icmp .lt 12, 3) := by decide +kernel
theorem dX6_in_5 : decode cX6_in 5 = .ok (.iload_n 0, 1) := by decide +kernel
theorem dX6_in_6 : decode cX6_in 6 = .ok (.iload_n 2, 1) := by decide +kernel
theorem dX6_in_7 : decode cX6_in 7 = .ok (.if_icmp .gt 7, 3) := by decide +kernel
theorem dX6_in_10 : decode cX6_in 10 = .ok (.iconst 1, 1) := by decide +kernel
theorem dX6_in_11 : decode cX6_in 11 = .ok (.goto 4, 3) := by decide +kernel
theorem dX6_in_14 : decode cX6_in 14 = .ok (.iconst 0, 1) := by decide +kernel
theorem dX6_in_15 : decode cX6_in 15 = .ok (.ireturn, 1) := by decide +kernel
theorem dX6_isKnot_0 : decode cX6_isKnot 0 = .ok (.iload_n 1, 1) := by decide +kernel
theorem dX6_isKnot_1 : decode cX6_isKnot 1 = .ok (.iconst 0, 1) := by decide +kernel
theorem dX6_isKnot_2 : decode cX6_isKnot 2 = .ok (.aload_n 0, 1) := by decide +kernel
theorem dX6_isKnot_3 : decode cX6_isKnot 3 = .ok (.getfield 7, 3) := by decide +kernel
theorem dX6_isKnot_6 : decode cX6_isKnot 6 = .ok (.iconst 1, 1) := by decide +kernel
theorem dX6_isKnot_7 : decode cX6_isKnot 7 = .ok (.isub, 1) := by decide +kernel
theorem dX6_isKnot_8 : decode cX6_isKnot 8 = .ok (.invokestatic 69, 3) := by decide +kernel
theorem dX6_isKnot_11 : decode cX6_isKnot 11 = .ok (.ireturn, 1) := by decide +kernel
theorem dX6_net_0 : decode cX6_net 0 = .ok (.iload_n 1, 1) := by decide +kernel
theorem dX6_net_1 : decode cX6_net 1 = .ok (.iconst 2, 1) := by decide +kernel
theorem dX6_net_2 : decode cX6_net 2 = .ok (.bipush 7, 2) := by decide +kernel
theorem dX6_net_4 : decode cX6_net 4 = .ok (.invokestatic 69, 3) := by decide +kernel
theorem dX6_net_7 : decode cX6_net 7 = .ok (.ifCond .ne 6, 3) := by decide +kernel
theorem dX6_net_10 : decode cX6_net 10 = .ok (.bipush (-2), 2) := by decide +kernel
theorem dX6_net_12 : decode cX6_net 12 = .ok (.ireturn, 1) := by decide +kernel
theorem dX6_net_13 : decode cX6_net 13 = .ok (.aload_n 0, 1) := by decide +kernel
theorem dX6_net_14 : decode cX6_net 14 = .ok (.iload_n 1, 1) := by decide +kernel
theorem dX6_net_15 : decode cX6_net 15 = .ok (.putfield 7, 3) := by decide +kernel
theorem dX6_net_18 : decode cX6_net 18 = .ok (.aload_n 0, 1) := by decide +kernel
theorem dX6_net_19 : decode cX6_net 19 = .ok (.iconst 0, 1) := by decide +kernel
theorem dX6_net_20 : decode cX6_net 20 = .ok (.putfield 73, 3) := by decide +kernel
theorem dX6_net_23 : decode cX6_net 23 = .ok (.aload_n 0, 1) := by decide +kernel
theorem dX6_net_24 : decode cX6_net 24 = .ok (.iconst 0, 1) := by decide +kernel
theorem dX6_net_25 : decode cX6_net 25 = .ok (.putfield 76, 3) := by decide +kernel
theorem dX6_net_28 : decode cX6_net 28 = .ok (.aload_n 0, 1) := by decide +kernel
theorem dX6_net_29 : decode cX6_net 29 = .ok (.iconst 0, 1) := by decide +kernel
theorem dX6_net_30 : decode cX6_net 30 = .ok (.putfield 79, 3) := by decide +kernel
theorem dX6_net_33 : decode cX6_net 33 = .ok (.aload_n 0, 1) := by decide +kernel
theorem dX6_net_34 : decode cX6_net 34 = .ok (.iconst 0, 1) := by decide +kernel
theorem dX6_net_35 : decode cX6_net 35 = .ok (.putfield 82, 3) := by decide +kernel
theorem dX6_net_38 : decode cX6_net 38 = .ok (.iconst 0, 1) := by decide +kernel
theorem dX6_net_39 : decode cX6_net 39 = .ok (.istore_n 2, 1) := by decide +kernel
theorem dX6_net_40 : decode cX6_net 40 = .ok (.iload_n 2, 1) := by decide +kernel
theorem dX6_net_41 : decode cX6_net 41 = .ok (.bipush 7, 2) := by decide +kernel
theorem dX6_net_43 : decode cX6_net 43 = .ok (.if_icmp .ge 16, 3) := by decide +kernel
theorem dX6_net_46 : decode cX6_net 46 = .ok (.aload_n 0, 1) := by decide +kernel
theorem dX6_net_47 : decode cX6_net 47 = .ok (.getfield 26, 3) := by decide +kernel
theorem dX6_net_50 : decode cX6_net 50 = .ok (.iload_n 2, 1) := by decide +kernel
theorem dX6_net_51 : decode cX6_net 51 = .ok (.iconst 0, 1) := by decide +kernel
theorem dX6_net_52 : decode cX6_net 52 = .ok (.iastore, 1) := by decide +kernel
theorem dX6_net_53 : decode cX6_net 53 = .ok (.iinc 2 1, 3) := by decide +kernel
theorem dX6_net_56 : decode cX6_net 56 = .ok (.goto (-16), 3) := by decide +kernel
theorem dX6_net_59 : decode cX6_net 59 = .ok (.iconst 1, 1) := by decide +kernel
theorem dX6_net_60 : decode cX6_net 60 = .ok (.ireturn, 1) := by decide +kernel
theorem dX6_wire_0 : decode cX6_wire 0 = .ok (.aload_n 0, 1) := by decide +kernel
theorem dX6_wire_1 : decode cX6_wire 1 = .ok (.iload_n 1, 1) := by decide +kernel
theorem dX6_wire_2 : decode cX6_wire 2 = .ok (.invokevirtual 85, 3) := by decide +kernel
theorem dX6_wire_5 : decode cX6_wire 5 = .ok (.ifCond .eq 37, 3) := by decide +kernel
theorem dX6_wire_8 : decode cX6_wire 8 = .ok (.aload_n 0, 1) := by decide +kernel
theorem dX6_wire_9 : decode cX6_wire 9 = .ok (.iload_n 2, 1) := by decide +kernel
theorem dX6_wire_10 : decode cX6_wire 10 = .ok (.invokevirtual 85, 3) := by decide +kernel
theorem dX6_wire_13 : decode cX6_wire 13 = .ok (.ifCond .eq 29, 3) := by decide +kernel
theorem dX6_wire_16 : decode cX6_wire 16 = .ok (.iload_n 1, 1) := by decide +kernel
theorem dX6_wire_17 : decode cX6_wire 17 = .ok (.iload_n 2, 1) := by decide +kernel
theorem dX6_wire_18 : decode cX6_wire 18 = .ok (.if_icmp .eq 24, 3) := by decide +kernel
theorem dX6_wire_21 : decode cX6_wire 21 = .ok (.iload_n 3, 1) := by decide +kernel
theorem dX6_wire_22 : decode cX6_wire 22 = .ok (.iconst 1, 1) := by decide +kernel
theorem dX6_wire_23 : decode cX6_wire 23 = .ok (.bipush 6, 2) := by decide +kernel
theorem dX6_wire_25 : decode cX6_wire 25 = .ok (.invokestatic 69, 3) := by decide +kernel
theorem dX6_wire_28 : decode cX6_wire 28 = .ok (.ifCond .eq 14, 3) := by decide +kernel
theorem dX6_wire_31 : decode cX6_wire 31 = .ok (.iload 4, 2) := by decide +kernel
theorem dX6_wire_33 : decode cX6_wire 33 = .ok (.iconst 1, 1) := by decide +kernel
theorem dX6_wire_34 : decode cX6_wire 34 = .ok (.bipush 100, 2) := by decide +kernel
theorem dX6_wire_36 : decode cX6_wire 36 = .ok (.invokestatic 69, 3) := by decide +kernel
theorem dX6_wire_39 : decode cX6_wire 39 = .ok (.ifCond .ne 6, 3) := by decide +kernel
theorem dX6_wire_42 : decode cX6_wire 42 = .ok (.bipush (-2), 2) := by decide +kernel
theorem dX6_wire_44 : decode cX6_wire 44 = .ok (.ireturn, 1) := by decide +kernel
theorem dX6_wire_45 : decode cX6_wire 45 = .ok (.aload_n 0, 1) := by decide +kernel
theorem dX6_wire_46 : decode cX6_wire 46 = .ok (.getfield 73, 3) := by decide +kernel
theorem dX6_wire_49 : decode cX6_wire 49 = .ok (.bipush 12, 2) := by decide +kernel
theorem dX6_wire_51 : decode cX6_wire 51 = .ok (.if_icmp .ne 6, 3) := by decide +kernel
theorem dX6_wire_54 : decode cX6_wire 54 = .ok (.bipush (-4), 2) := by decide +kernel
theorem dX6_wire_56 : decode cX6_wire 56 = .ok (.ireturn, 1) := by decide +kernel
theorem dX6_wire_57 : decode cX6_wire 57 = .ok (.aload_n 0, 1) := by decide +kernel
theorem dX6_wire_58 : decode cX6_wire 58 = .ok (.getfield 13, 3) := by decide +kernel
theorem dX6_wire_61 : decode cX6_wire 61 = .ok (.aload_n 0, 1) := by decide +kernel
theorem dX6_wire_62 : decode cX6_wire 62 = .ok (.getfield 73, 3) := by decide +kernel
theorem dX6_wire_65 : decode cX6_wire 65 = .ok (.iload_n 1, 1) := by decide +kernel
theorem dX6_wire_66 : decode cX6_wire 66 = .ok (.iastore, 1) := by decide +kernel
theorem dX6_wire_67 : decode cX6_wire 67 = .ok (.aload_n 0, 1) := by decide +kernel
theorem dX6_wire_68 : decode cX6_wire 68 = .ok (.getfield 17, 3) := by decide +kernel
theorem dX6_wire_71 : decode cX6_wire 71 = .ok (.aload_n 0, 1) := by decide +kernel
theorem dX6_wire_72 : decode cX6_wire 72 = .ok (.getfield 73, 3) := by decide +kernel
theorem dX6_wire_75 : decode cX6_wire 75 = .ok (.iload_n 2, 1) := by decide +kernel
theorem dX6_wire_76 : decode cX6_wire 76 = .ok (.iastore, 1) := by decide +kernel
theorem dX6_wire_77 : decode cX6_wire 77 = .ok (.aload_n 0, 1) := by decide +kernel
theorem dX6_wire_78 : decode cX6_wire 78 = .ok (.getfield 20, 3) := by decide +kernel
theorem dX6_wire_81 : decode cX6_wire 81 = .ok (.aload_n 0, 1) := by decide +kernel
theorem dX6_wire_82 : decode cX6_wire 82 = .ok (.getfield 73, 3) := by decide +kernel
theorem dX6_wire_85 : decode cX6_wire 85 = .ok (.iload_n 3, 1) := by decide +kernel
theorem dX6_wire_86 : decode cX6_wire 86 = .ok (.iastore, 1) := by decide +kernel
theorem dX6_wire_87 : decode cX6_wire 87 = .ok (.aload_n 0, 1) := by decide +kernel
theorem dX6_wire_88 : decode cX6_wire 88 = .ok (.getfield 23, 3) := by decide +kernel
theorem dX6_wire_91 : decode cX6_wire 91 = .ok (.aload_n 0, 1) := by decide +kernel
theorem dX6_wire_92 : decode cX6_wire 92 = .ok (.getfield 73, 3) := by decide +kernel
theorem dX6_wire_95 : decode cX6_wire 95 = .ok (.iload 4, 2) := by decide +kernel
theorem dX6_wire_97 : decode cX6_wire 97 = .ok (.iastore, 1) := by decide +kernel
theorem dX6_wire_98 : decode cX6_wire 98 = .ok (.aload_n 0, 1) := by decide +kernel
theorem dX6_wire_99 : decode cX6_wire 99 = .ok (.dup, 1) := by decide +kernel
theorem dX6_wire_100 : decode cX6_wire 100 = .ok (.getfield 73, 3) := by decide +kernel
theorem dX6_wire_103 : decode cX6_wire 103 = .ok (.iconst 1, 1) := by decide +kernel
theorem dX6_wire_104 : decode cX6_wire 104 = .ok (.iadd, 1) := by decide +kernel
theorem dX6_wire_105 : decode cX6_wire 105 = .ok (.putfield 73, 3) := by decide +kernel
theorem dX6_wire_108 : decode cX6_wire 108 = .ok (.aload_n 0, 1) := by decide +kernel
theorem dX6_wire_109 : decode cX6_wire 109 = .ok (.getfield 73, 3) := by decide +kernel
theorem dX6_wire_112 : decode cX6_wire 112 = .ok (.iconst 1, 1) := by decide +kernel
theorem dX6_wire_113 : decode cX6_wire 113 = .ok (.isub, 1) := by decide +kernel
theorem dX6_wire_114 : decode cX6_wire 114 = .ok (.ireturn, 1) := by decide +kernel
theorem dX6_width_0 : decode cX6_width 0 = .ok (.iload_n 1, 1) := by decide +kernel
theorem dX6_width_1 : decode cX6_width 1 = .ok (.iconst 0, 1) := by decide +kernel
theorem dX6_width_2 : decode cX6_width 2 = .ok (.aload_n 0, 1) := by decide +kernel
theorem dX6_width_3 : decode cX6_width 3 = .ok (.getfield 73, 3) := by decide +kernel
theorem dX6_width_6 : decode cX6_width 6 = .ok (.iconst 1, 1) := by decide +kernel
theorem dX6_width_7 : decode cX6_width 7 = .ok (.isub, 1) := by decide +kernel
theorem dX6_width_8 : decode cX6_width 8 = .ok (.invokestatic 69, 3) := by decide +kernel
theorem dX6_width_11 : decode cX6_width 11 = .ok (.ifCond .eq 13, 3) := by decide +kernel
theorem dX6_width_14 : decode cX6_width 14 = .ok (.iload_n 2, 1) := by decide +kernel
theorem dX6_width_15 : decode cX6_width 15 = .ok (.iconst 1, 1) := by decide +kernel
theorem dX6_width_16 : decode cX6_width 16 = .ok (.bipush 6, 2) := by decide +kernel
theorem dX6_width_18 : decode cX6_width 18 = .ok (.invokestatic 69, 3) := by decide +kernel
theorem dX6_width_21 : decode cX6_width 21 = .ok (.ifCond .ne 6, 3) := by decide +kernel
theorem dX6_width_24 : decode cX6_width 24 = .ok (.bipush (-2), 2) := by decide +kernel
theorem dX6_width_26 : decode cX6_width 26 = .ok (.ireturn, 1) := by decide +kernel
theorem dX6_width_27 : decode cX6_width 27 = .ok (.aload_n 0, 1) := by decide +kernel
theorem dX6_width_28 : decode cX6_width 28 = .ok (.getfield 20, 3) := by decide +kernel
theorem dX6_width_31 : decode cX6_width 31 = .ok (.iload_n 1, 1) := by decide +kernel
theorem dX6_width_32 : decode cX6_width 32 = .ok (.iaload, 1) := by decide +kernel
theorem dX6_width_33 : decode cX6_width 33 = .ok (.istore_n 3, 1) := by decide +kernel
theorem dX6_width_34 : decode cX6_width 34 = .ok (.aload_n 0, 1) := by decide +kernel
theorem dX6_width_35 : decode cX6_width 35 = .ok (.getfield 20, 3) := by decide +kernel
theorem dX6_width_38 : decode cX6_width 38 = .ok (.iload_n 1, 1) := by decide +kernel
theorem dX6_width_39 : decode cX6_width 39 = .ok (.iload_n 2, 1) := by decide +kernel
theorem dX6_width_40 : decode cX6_width 40 = .ok (.iastore, 1) := by decide +kernel
theorem dX6_width_41 : decode cX6_width 41 = .ok (.iload_n 3, 1) := by decide +kernel
theorem dX6_width_42 : decode cX6_width 42 = .ok (.ireturn, 1) := by decide +kernel
theorem dX6_pad_0 : decode cX6_pad 0 = .ok (.aload_n 0, 1) := by decide +kernel
theorem dX6_pad_1 : decode cX6_pad 1 = .ok (.iload_n 1, 1) := by decide +kernel
theorem dX6_pad_2 : decode cX6_pad 2 = .ok (.invokevirtual 85, 3) := by decide +kernel
theorem dX6_pad_5 : decode cX6_pad 5 = .ok (.ifCond .ne 6, 3) := by decide +kernel
theorem dX6_pad_8 : decode cX6_pad 8 = .ok (.bipush (-2), 2) := by decide +kernel
theorem dX6_pad_10 : decode cX6_pad 10 = .ok (.ireturn, 1) := by decide +kernel
theorem dX6_pad_11 : decode cX6_pad 11 = .ok (.aload_n 0, 1) := by decide +kernel
theorem dX6_pad_12 : decode cX6_pad 12 = .ok (.getfield 76, 3) := by decide +kernel
theorem dX6_pad_15 : decode cX6_pad 15 = .ok (.iload_n 1, 1) := by decide +kernel
theorem dX6_pad_16 : decode cX6_pad 16 = .ok (.ishr, 1) := by decide +kernel
theorem dX6_pad_17 : decode cX6_pad 17 = .ok (.iconst 1, 1) := by decide +kernel
theorem dX6_pad_18 : decode cX6_pad 18 = .ok (.iand, 1) := by decide +kernel
theorem dX6_pad_19 : decode cX6_pad 19 = .ok (.iconst 1, 1) := by decide +kernel
theorem dX6_pad_20 : decode cX6_pad 20 = .ok (.if_icmp .ne 7, 3) := by decide +kernel
theorem dX6_pad_23 : decode cX6_pad 23 = .ok (.iconst 1, 1) := by decide +kernel
theorem dX6_pad_24 : decode cX6_pad 24 = .ok (.goto 4, 3) := by decide +kernel
theorem dX6_pad_27 : decode cX6_pad 27 = .ok (.iconst 0, 1) := by decide +kernel
theorem dX6_pad_28 : decode cX6_pad 28 = .ok (.iload_n 2, 1) := by decide +kernel
theorem dX6_pad_29 : decode cX6_pad 29 = .ok (.if_icmp .ne 6, 3) := by decide +kernel
theorem dX6_pad_32 : decode cX6_pad 32 = .ok (.bipush (-3), 2) := by decide +kernel
theorem dX6_pad_34 : decode cX6_pad 34 = .ok (.ireturn, 1) := by decide +kernel
theorem dX6_pad_35 : decode cX6_pad 35 = .ok (.aload_n 0, 1) := by decide +kernel
theorem dX6_pad_36 : decode cX6_pad 36 = .ok (.aload_n 0, 1) := by decide +kernel
theorem dX6_pad_37 : decode cX6_pad 37 = .ok (.getfield 76, 3) := by decide +kernel
theorem dX6_pad_40 : decode cX6_pad 40 = .ok (.iconst 1, 1) := by decide +kernel
theorem dX6_pad_41 : decode cX6_pad 41 = .ok (.iload_n 1, 1) := by decide +kernel
theorem dX6_pad_42 : decode cX6_pad 42 = .ok (.ishl, 1) := by decide +kernel
theorem dX6_pad_43 : decode cX6_pad 43 = .ok (.ixor, 1) := by decide +kernel
theorem dX6_pad_44 : decode cX6_pad 44 = .ok (.putfield 76, 3) := by decide +kernel
theorem dX6_pad_47 : decode cX6_pad 47 = .ok (.iconst 1, 1) := by decide +kernel
theorem dX6_pad_48 : decode cX6_pad 48 = .ok (.ireturn, 1) := by decide +kernel
theorem dX6_pull_0 : decode cX6_pull 0 = .ok (.aload_n 0, 1) := by decide +kernel
theorem dX6_pull_1 : decode cX6_pull 1 = .ok (.iload_n 1, 1) := by decide +kernel
theorem dX6_pull_2 : decode cX6_pull 2 = .ok (.invokevirtual 85, 3) := by decide +kernel
theorem dX6_pull_5 : decode cX6_pull 5 = .ok (.ifCond .eq 13, 3) := by decide +kernel
theorem dX6_pull_8 : decode cX6_pull 8 = .ok (.iload_n 2, 1) := by decide +kernel
theorem dX6_pull_9 : decode cX6_pull 9 = .ok (.iconst 0, 1) := by decide +kernel
theorem dX6_pull_10 : decode cX6_pull 10 = .ok (.bipush 100, 2) := by decide +kernel
theorem dX6_pull_12 : decode cX6_pull 12 = .ok (.invokestatic 69, 3) := by decide +kernel
theorem dX6_pull_15 : decode cX6_pull 15 = .ok (.ifCond .ne 6, 3) := by decide +kernel
theorem dX6_pull_18 : decode cX6_pull 18 = .ok (.bipush (-2), 2) := by decide +kernel
theorem dX6_pull_20 : decode cX6_pull 20 = .ok (.ireturn, 1) := by decide +kernel
theorem dX6_pull_21 : decode cX6_pull 21 = .ok (.aload_n 0, 1) := by decide +kernel
theorem dX6_pull_22 : decode cX6_pull 22 = .ok (.getfield 26, 3) := by decide +kernel
theorem dX6_pull_25 : decode cX6_pull 25 = .ok (.iload_n 1, 1) := by decide +kernel
theorem dX6_pull_26 : decode cX6_pull 26 = .ok (.iaload, 1) := by decide +kernel
theorem dX6_pull_27 : decode cX6_pull 27 = .ok (.istore_n 3, 1) := by decide +kernel
theorem dX6_pull_28 : decode cX6_pull 28 = .ok (.aload_n 0, 1) := by decide +kernel
theorem dX6_pull_29 : decode cX6_pull 29 = .ok (.getfield 26, 3) := by decide +kernel
theorem dX6_pull_32 : decode cX6_pull 32 = .ok (.iload_n 1, 1) := by decide +kernel
theorem dX6_pull_33 : decode cX6_pull 33 = .ok (.iload_n 2, 1) := by decide +kernel
theorem dX6_pull_34 : decode cX6_pull 34 = .ok (.iastore, 1) := by decide +kernel
theorem dX6_pull_35 : decode cX6_pull 35 = .ok (.iload_n 3, 1) := by decide +kernel
theorem dX6_pull_36 : decode cX6_pull 36 = .ok (.ireturn, 1) := by decide +kernel
theorem dX6_leadsTo_0 : decode cX6_leadsTo 0 = .ok (.iload_n 1, 1) := by decide +kernel
theorem dX6_leadsTo_1 : decode cX6_leadsTo 1 = .ok (.istore_n 3, 1) := by decide +kernel
theorem dX6_leadsTo_2 : decode cX6_leadsTo 2 = .ok (.iconst 0, 1) := by decide +kernel
theorem dX6_leadsTo_3 : decode cX6_leadsTo 3 = .ok (.istore 4, 2) := by decide +kernel
theorem dX6_leadsTo_5 : decode cX6_leadsTo 5 = .ok (.iload 4, 2) := by decide +kernel
theorem dX6_leadsTo_7 : decode cX6_leadsTo 7 = .ok (.aload_n 0, 1) := by decide +kernel
theorem dX6_leadsTo_8 : decode cX6_leadsTo 8 = .ok (.getfield 7, 3) := by decide +kernel
theorem dX6_leadsTo_11 : decode cX6_leadsTo 11 = .ok (.if_icmp .ge 82, 3) := by decide +kernel
theorem dX6_leadsTo_14 : decode cX6_leadsTo 14 = .ok (.iconst 0, 1) := by decide +kernel
theorem dX6_leadsTo_15 : decode cX6_leadsTo 15 = .ok (.istore 5, 2) := by decide +kernel
theorem dX6_leadsTo_17 : decode cX6_leadsTo 17 = .ok (.iload 5, 2) := by decide +kernel
theorem dX6_leadsTo_19 : decode cX6_leadsTo 19 = .ok (.aload_n 0, 1) := by decide +kernel
theorem dX6_leadsTo_20 : decode cX6_leadsTo 20 = .ok (.getfield 73, 3) := by decide +kernel
theorem dX6_leadsTo_23 : decode cX6_leadsTo 23 = .ok (.if_icmp .ge 64, 3) := by decide +kernel
theorem dX6_leadsTo_26 : decode cX6_leadsTo 26 = .ok (.iload 5, 2) := by decide +kernel
theorem dX6_leadsTo_28 : decode cX6_leadsTo 28 = .ok (.iload_n 2, 1) := by decide +kernel
theorem dX6_leadsTo_29 : decode cX6_leadsTo 29 = .ok (.if_icmp .eq 52, 3) := by decide +kernel
theorem dX6_leadsTo_32 : decode cX6_leadsTo 32 = .ok (.iload_n 3, 1) := by decide +kernel
theorem dX6_leadsTo_33 : decode cX6_leadsTo 33 = .ok (.aload_n 0, 1) := by decide +kernel
theorem dX6_leadsTo_34 : decode cX6_leadsTo 34 = .ok (.getfield 13, 3) := by decide +kernel
theorem dX6_leadsTo_37 : decode cX6_leadsTo 37 = .ok (.iload 5, 2) := by decide +kernel
theorem dX6_leadsTo_39 : decode cX6_leadsTo 39 = .ok (.iaload, 1) := by decide +kernel
theorem dX6_leadsTo_40 : decode cX6_leadsTo 40 = .ok (.ishr, 1) := by decide +kernel
theorem dX6_leadsTo_41 : decode cX6_leadsTo 41 = .ok (.iconst 1, 1) := by decide +kernel
theorem dX6_leadsTo_42 : decode cX6_leadsTo 42 = .ok (.iand, 1) := by decide +kernel
theorem dX6_leadsTo_43 : decode cX6_leadsTo 43 = .ok (.iload_n 3, 1) := by decide +kernel
theorem dX6_leadsTo_44 : decode cX6_leadsTo 44 = .ok (.aload_n 0, 1) := by decide +kernel
theorem dX6_leadsTo_45 : decode cX6_leadsTo 45 = .ok (.getfield 17, 3) := by decide +kernel
theorem dX6_leadsTo_48 : decode cX6_leadsTo 48 = .ok (.iload 5, 2) := by decide +kernel
theorem dX6_leadsTo_50 : decode cX6_leadsTo 50 = .ok (.iaload, 1) := by decide +kernel
theorem dX6_leadsTo_51 : decode cX6_leadsTo 51 = .ok (.ishr, 1) := by decide +kernel
theorem dX6_leadsTo_52 : decode cX6_leadsTo 52 = .ok (.iconst 1, 1) := by decide +kernel
theorem dX6_leadsTo_53 : decode cX6_leadsTo 53 = .ok (.iand, 1) := by decide +kernel
theorem dX6_leadsTo_54 : decode cX6_leadsTo 54 = .ok (.ior, 1) := by decide +kernel
theorem dX6_leadsTo_55 : decode cX6_leadsTo 55 = .ok (.iconst 1, 1) := by decide +kernel
theorem dX6_leadsTo_56 : decode cX6_leadsTo 56 = .ok (.if_icmp .ne 25, 3) := by decide +kernel
theorem dX6_leadsTo_59 : decode cX6_leadsTo 59 = .ok (.iload_n 3, 1) := by decide +kernel
theorem dX6_leadsTo_60 : decode cX6_leadsTo 60 = .ok (.iconst 1, 1) := by decide +kernel
theorem dX6_leadsTo_61 : decode cX6_leadsTo 61 = .ok (.aload_n 0, 1) := by decide +kernel
theorem dX6_leadsTo_62 : decode cX6_leadsTo 62 = .ok (.getfield 13, 3) := by decide +kernel
theorem dX6_leadsTo_65 : decode cX6_leadsTo 65 = .ok (.iload 5, 2) := by decide +kernel
theorem dX6_leadsTo_67 : decode cX6_leadsTo 67 = .ok (.iaload, 1) := by decide +kernel
theorem dX6_leadsTo_68 : decode cX6_leadsTo 68 = .ok (.ishl, 1) := by decide +kernel
theorem dX6_leadsTo_69 : decode cX6_leadsTo 69 = .ok (.iconst 1, 1) := by decide +kernel
theorem dX6_leadsTo_70 : decode cX6_leadsTo 70 = .ok (.aload_n 0, 1) := by decide +kernel
theorem dX6_leadsTo_71 : decode cX6_leadsTo 71 = .ok (.getfield 17, 3) := by decide +kernel
theorem dX6_leadsTo_74 : decode cX6_leadsTo 74 = .ok (.iload 5, 2) := by decide +kernel
theorem dX6_leadsTo_76 : decode cX6_leadsTo 76 = .ok (.iaload, 1) := by decide +kernel
theorem dX6_leadsTo_77 : decode cX6_leadsTo 77 = .ok (.ishl, 1) := by decide +kernel
theorem dX6_leadsTo_78 : decode cX6_leadsTo 78 = .ok (.ior, 1) := by decide +kernel
theorem dX6_leadsTo_79 : decode cX6_leadsTo 79 = .ok (.ior, 1) := by decide +kernel
theorem dX6_leadsTo_80 : decode cX6_leadsTo 80 = .ok (.istore_n 3, 1) := by decide +kernel
theorem dX6_leadsTo_81 : decode cX6_leadsTo 81 = .ok (.iinc 5 1, 3) := by decide +kernel
theorem dX6_leadsTo_84 : decode cX6_leadsTo 84 = .ok (.goto (-67), 3) := by decide +kernel
theorem dX6_leadsTo_87 : decode cX6_leadsTo 87 = .ok (.iinc 4 1, 3) := by decide +kernel
theorem dX6_leadsTo_90 : decode cX6_leadsTo 90 = .ok (.goto (-85), 3) := by decide +kernel
theorem dX6_leadsTo_93 : decode cX6_leadsTo 93 = .ok (.iload_n 3, 1) := by decide +kernel
theorem dX6_leadsTo_94 : decode cX6_leadsTo 94 = .ok (.iconst 1, 1) := by decide +kernel
theorem dX6_leadsTo_95 : decode cX6_leadsTo 95 = .ok (.aload_n 0, 1) := by decide +kernel
theorem dX6_leadsTo_96 : decode cX6_leadsTo 96 = .ok (.getfield 7, 3) := by decide +kernel
theorem dX6_leadsTo_99 : decode cX6_leadsTo 99 = .ok (.ishl, 1) := by decide +kernel
theorem dX6_leadsTo_100 : decode cX6_leadsTo 100 = .ok (.iconst 1, 1) := by decide +kernel
theorem dX6_leadsTo_101 : decode cX6_leadsTo 101 = .ok (.isub, 1) := by decide +kernel
theorem dX6_leadsTo_102 : decode cX6_leadsTo 102 = .ok (.if_icmp .ne 7, 3) := by decide +kernel
theorem dX6_leadsTo_105 : decode cX6_leadsTo 105 = .ok (.iconst 1, 1) := by decide +kernel
theorem dX6_leadsTo_106 : decode cX6_leadsTo 106 = .ok (.goto 4, 3) := by decide +kernel
theorem dX6_leadsTo_109 : decode cX6_leadsTo 109 = .ok (.iconst 0, 1) := by decide +kernel
theorem dX6_leadsTo_110 : decode cX6_leadsTo 110 = .ok (.ireturn, 1) := by decide +kernel
theorem dX6_isFed_0 : decode cX6_isFed 0 = .ok (.aload_n 0, 1) := by decide +kernel
theorem dX6_isFed_1 : decode cX6_isFed 1 = .ok (.getfield 76, 3) := by decide +kernel
theorem dX6_isFed_4 : decode cX6_isFed 4 = .ok (.ifCond .eq 19, 3) := by decide +kernel
theorem dX6_isFed_7 : decode cX6_isFed 7 = .ok (.aload_n 0, 1) := by decide +kernel
theorem dX6_isFed_8 : decode cX6_isFed 8 = .ok (.aload_n 0, 1) := by decide +kernel
theorem dX6_isFed_9 : decode cX6_isFed 9 = .ok (.getfield 76, 3) := by decide +kernel
theorem dX6_isFed_12 : decode cX6_isFed 12 = .ok (.iconst (-1), 1) := by decide +kernel
theorem dX6_isFed_13 : decode cX6_isFed 13 = .ok (.invokevirtual 89, 3) := by decide +kernel
theorem dX6_isFed_16 : decode cX6_isFed 16 = .ok (.ifCond .eq 7, 3) := by decide +kernel
theorem dX6_isFed_19 : decode cX6_isFed 19 = .ok (.iconst 1, 1) := by decide +kernel
theorem dX6_isFed_20 : decode cX6_isFed 20 = .ok (.goto 4, 3) := by decide +kernel
theorem dX6_isFed_23 : decode cX6_isFed 23 = .ok (.iconst 0, 1) := by decide +kernel
theorem dX6_isFed_24 : decode cX6_isFed 24 = .ok (.ireturn, 1) := by decide +kernel
theorem dX6_between_0 : decode cX6_between 0 = .ok (.lconst 0, 1) := by decide +kernel
theorem dX6_between_1 : decode cX6_between 1 = .ok (.lstore 4, 2) := by decide +kernel
theorem dX6_between_3 : decode cX6_between 3 = .ok (.iconst 0, 1) := by decide +kernel
theorem dX6_between_4 : decode cX6_between 4 = .ok (.istore 6, 2) := by decide +kernel
theorem dX6_between_6 : decode cX6_between 6 = .ok (.iload 6, 2) := by decide +kernel
theorem dX6_between_8 : decode cX6_between 8 = .ok (.aload_n 0, 1) := by decide +kernel
theorem dX6_between_9 : decode cX6_between 9 = .ok (.getfield 73, 3) := by decide +kernel
theorem dX6_between_12 : decode cX6_between 12 = .ok (.if_icmp .ge 123, 3) := by decide +kernel
theorem dX6_between_15 : decode cX6_between 15 = .ok (.iload 6, 2) := by decide +kernel
theorem dX6_between_17 : decode cX6_between 17 = .ok (.iload_n 3, 1) := by decide +kernel
theorem dX6_between_18 : decode cX6_between 18 = .ok (.if_icmp .eq 111, 3) := by decide +kernel
theorem dX6_between_21 : decode cX6_between 21 = .ok (.iload_n 1, 1) := by decide +kernel
theorem dX6_between_22 : decode cX6_between 22 = .ok (.iload_n 2, 1) := by decide +kernel
theorem dX6_between_23 : decode cX6_between 23 = .ok (.if_icmp .ne 45, 3) := by decide +kernel
theorem dX6_between_26 : decode cX6_between 26 = .ok (.lload 4, 2) := by decide +kernel
theorem dX6_between_28 : decode cX6_between 28 = .ok (.aload_n 0, 1) := by decide +kernel
theorem dX6_between_29 : decode cX6_between 29 = .ok (.getfield 13, 3) := by decide +kernel
theorem dX6_between_32 : decode cX6_between 32 = .ok (.iload 6, 2) := by decide +kernel
theorem dX6_between_34 : decode cX6_between 34 = .ok (.iaload, 1) := by decide +kernel
theorem dX6_between_35 : decode cX6_between 35 = .ok (.iload_n 1, 1) := by decide +kernel
theorem dX6_between_36 : decode cX6_between 36 = .ok (.if_icmp .eq 14, 3) := by decide +kernel
theorem dX6_between_39 : decode cX6_between 39 = .ok (.aload_n 0, 1) := by decide +kernel
theorem dX6_between_40 : decode cX6_between 40 = .ok (.getfield 17, 3) := by decide +kernel
theorem dX6_between_43 : decode cX6_between 43 = .ok (.iload 6, 2) := by decide +kernel
theorem dX6_between_45 : decode cX6_between 45 = .ok (.iaload, 1) := by decide +kernel
theorem dX6_between_46 : decode cX6_between 46 = .ok (.iload_n 1, 1) := by decide +kernel
theorem dX6_between_47 : decode cX6_between 47 = .ok (.if_icmp .ne 14, 3) := by decide +kernel
theorem dX6_between_50 : decode cX6_between 50 = .ok (.aload_n 0, 1) := by decide +kernel
theorem dX6_between_51 : decode cX6_between 51 = .ok (.getfield 20, 3) := by decide +kernel
theorem dX6_between_54 : decode cX6_between 54 = .ok (.iload 6, 2) := by decide +kernel
theorem dX6_between_56 : decode cX6_between 56 = .ok (.iaload, 1) := by decide +kernel
theorem dX6_between_57 : decode cX6_between 57 = .ok (.i2l, 1) := by decide +kernel
theorem dX6_between_58 : decode cX6_between 58 = .ok (.goto 4, 3) := by decide +kernel
theorem dX6_between_61 : decode cX6_between 61 = .ok (.lconst 0, 1) := by decide +kernel
theorem dX6_between_62 : decode cX6_between 62 = .ok (.ladd, 1) := by decide +kernel
theorem dX6_between_63 : decode cX6_between 63 = .ok (.lstore 4, 2) := by decide +kernel
theorem dX6_between_65 : decode cX6_between 65 = .ok (.goto 64, 3) := by decide +kernel
theorem dX6_between_68 : decode cX6_between 68 = .ok (.lload 4, 2) := by decide +kernel
theorem dX6_between_70 : decode cX6_between 70 = .ok (.aload_n 0, 1) := by decide +kernel
theorem dX6_between_71 : decode cX6_between 71 = .ok (.getfield 13, 3) := by decide +kernel
theorem dX6_between_74 : decode cX6_between 74 = .ok (.iload 6, 2) := by decide +kernel
theorem dX6_between_76 : decode cX6_between 76 = .ok (.iaload, 1) := by decide +kernel
theorem dX6_between_77 : decode cX6_between 77 = .ok (.iload_n 1, 1) := by decide +kernel
theorem dX6_between_78 : decode cX6_between 78 = .ok (.if_icmp .ne 14, 3) := by decide +kernel
theorem dX6_between_81 : decode cX6_between 81 = .ok (.aload_n 0, 1) := by decide +kernel
theorem dX6_between_82 : decode cX6_between 82 = .ok (.getfield 17, 3) := by decide +kernel
theorem dX6_between_85 : decode cX6_between 85 = .ok (.iload 6, 2) := by decide +kernel
theorem dX6_between_87 : decode cX6_between 87 = .ok (.iaload, 1) := by decide +kernel
theorem dX6_between_88 : decode cX6_between 88 = .ok (.iload_n 2, 1) := by decide +kernel
theorem dX6_between_89 : decode cX6_between 89 = .ok (.if_icmp .eq 25, 3) := by decide +kernel
theorem dX6_between_92 : decode cX6_between 92 = .ok (.aload_n 0, 1) := by decide +kernel
theorem dX6_between_93 : decode cX6_between 93 = .ok (.getfield 13, 3) := by decide +kernel
theorem dX6_between_96 : decode cX6_between 96 = .ok (.iload 6, 2) := by decide +kernel
theorem dX6_between_98 : decode cX6_between 98 = .ok (.iaload, 1) := by decide +kernel
theorem dX6_between_99 : decode cX6_between 99 = .ok (.iload_n 2, 1) := by decide +kernel
theorem dX6_between_100 : decode cX6_between 100 = .ok (.if_icmp .ne 25, 3) := by decide +kernel
theorem dX6_between_103 : decode cX6_between 103 = .ok (.aload_n 0, 1) := by decide +kernel
theorem dX6_between_104 : decode cX6_between 104 = .ok (.getfield 17, 3) := by decide +kernel
theorem dX6_between_107 : decode cX6_between 107 = .ok (.iload 6, 2) := by decide +kernel
theorem dX6_between_109 : decode cX6_between 109 = .ok (.iaload, 1) := by decide +kernel
theorem dX6_between_110 : decode cX6_between 110 = .ok (.iload_n 1, 1) := by decide +kernel
theorem dX6_between_111 : decode cX6_between 111 = .ok (.if_icmp .ne 14, 3) := by decide +kernel
theorem dX6_between_114 : decode cX6_between 114 = .ok (.aload_n 0, 1) := by decide +kernel
theorem dX6_between_115 : decode cX6_between 115 = .ok (.getfield 20, 3) := by decide +kernel
theorem dX6_between_118 : decode cX6_between 118 = .ok (.iload 6, 2) := by decide +kernel
theorem dX6_between_120 : decode cX6_between 120 = .ok (.iaload, 1) := by decide +kernel
theorem dX6_between_121 : decode cX6_between 121 = .ok (.i2l, 1) := by decide +kernel
theorem dX6_between_122 : decode cX6_between 122 = .ok (.goto 4, 3) := by decide +kernel
theorem dX6_between_125 : decode cX6_between 125 = .ok (.lconst 0, 1) := by decide +kernel
theorem dX6_between_126 : decode cX6_between 126 = .ok (.lsub, 1) := by decide +kernel
theorem dX6_between_127 : decode cX6_between 127 = .ok (.lstore 4, 2) := by decide +kernel
theorem dX6_between_129 : decode cX6_between 129 = .ok (.iinc 6 1, 3) := by decide +kernel
theorem dX6_between_132 : decode cX6_between 132 = .ok (.goto (-126), 3) := by decide +kernel
theorem dX6_between_135 : decode cX6_between 135 = .ok (.lload 4, 2) := by decide +kernel
theorem dX6_between_137 : decode cX6_between 137 = .ok (.lreturn, 1) := by decide +kernel
theorem dX6_determinant_0 : decode cX6_determinant 0 = .ok (.lconst 1, 1) := by decide +kernel
theorem dX6_determinant_1 : decode cX6_determinant 1 = .ok (.lstore_n 1, 1) := by decide +kernel
theorem dX6_determinant_2 : decode cX6_determinant 2 = .ok (.lconst 1, 1) := by decide +kernel
theorem dX6_determinant_3 : decode cX6_determinant 3 = .ok (.lstore_n 3, 1) := by decide +kernel
theorem dX6_determinant_4 : decode cX6_determinant 4 = .ok (.iconst 0, 1) := by decide +kernel
theorem dX6_determinant_5 : decode cX6_determinant 5 = .ok (.istore 5, 2) := by decide +kernel
theorem dX6_determinant_7 : decode cX6_determinant 7 = .ok (.iload 5, 2) := by decide +kernel
theorem dX6_determinant_9 : decode cX6_determinant 9 = .ok (.iconst 1, 1) := by decide +kernel
theorem dX6_determinant_10 : decode cX6_determinant 10 = .ok (.iadd, 1) := by decide +kernel
theorem dX6_determinant_11 : decode cX6_determinant 11 = .ok (.aload_n 0, 1) := by decide +kernel
theorem dX6_determinant_12 : decode cX6_determinant 12 = .ok (.getfield 93, 3) := by decide +kernel
theorem dX6_determinant_15 : decode cX6_determinant 15 = .ok (.if_icmp .ge 267, 3) := by decide +kernel
theorem dX6_determinant_18 : decode cX6_determinant 18 = .ok (.iload 5, 2) := by decide +kernel
theorem dX6_determinant_20 : decode cX6_determinant 20 = .ok (.istore 6, 2) := by decide +kernel
theorem dX6_determinant_22 : decode cX6_determinant 22 = .ok (.iload 6, 2) := by decide +kernel
theorem dX6_determinant_24 : decode cX6_determinant 24 = .ok (.aload_n 0, 1) := by decide +kernel
theorem dX6_determinant_25 : decode cX6_determinant 25 = .ok (.getfield 93, 3) := by decide +kernel
theorem dX6_determinant_28 : decode cX6_determinant 28 = .ok (.if_icmp .ge 27, 3) := by decide +kernel
theorem dX6_determinant_31 : decode cX6_determinant 31 = .ok (.aload_n 0, 1) := by decide +kernel
theorem dX6_determinant_32 : decode cX6_determinant 32 = .ok (.getfield 35, 3) := by decide +kernel
theorem dX6_determinant_35 : decode cX6_determinant 35 = .ok (.bipush 7, 2) := by decide +kernel
theorem dX6_determinant_37 : decode cX6_determinant 37 = .ok (.iload 6, 2) := by decide +kernel
theorem dX6_determinant_39 : decode cX6_determinant 39 = .ok (.imul, 1) := by decide +kernel
theorem dX6_determinant_40 : decode cX6_determinant 40 = .ok (.iload 5, 2) := by decide +kernel
theorem dX6_determinant_42 : decode cX6_determinant 42 = .ok (.iadd, 1) := by decide +kernel
theorem dX6_determinant_43 : decode cX6_determinant 43 = .ok (.laload, 1) := by decide +kernel
theorem dX6_determinant_44 : decode cX6_determinant 44 = .ok (.lconst 0, 1) := by decide +kernel
theorem dX6_determinant_45 : decode cX6_determinant 45 = .ok (.lcmp, 1) := by decide +kernel
theorem dX6_determinant_46 : decode cX6_determinant 46 = .ok (.ifCond .ne 9, 3) := by decide +kernel
theorem dX6_determinant_49 : decode cX6_determinant 49 = .ok (.iinc 6 1, 3) := by decide +kernel
theorem dX6_determinant_52 : decode cX6_determinant 52 = .ok (.goto (-30), 3) := by decide +kernel
theorem dX6_determinant_55 : decode cX6_determinant 55 = .ok (.iload 6, 2) := by decide +kernel
theorem dX6_determinant_57 : decode cX6_determinant 57 = .ok (.aload_n 0, 1) := by decide +kernel
theorem dX6_determinant_58 : decode cX6_determinant 58 = .ok (.getfield 93, 3) := by decide +kernel
theorem dX6_determinant_61 : decode cX6_determinant 61 = .ok (.if_icmp .ne 5, 3) := by decide +kernel
theorem dX6_determinant_64 : decode cX6_determinant 64 = .ok (.lconst 0, 1) := by decide +kernel
theorem dX6_determinant_65 : decode cX6_determinant 65 = .ok (.lreturn, 1) := by decide +kernel
theorem dX6_determinant_66 : decode cX6_determinant 66 = .ok (.iload 6, 2) := by decide +kernel
theorem dX6_determinant_68 : decode cX6_determinant 68 = .ok (.iload 5, 2) := by decide +kernel
theorem dX6_determinant_70 : decode cX6_determinant 70 = .ok (.if_icmp .eq 80, 3) := by decide +kernel
theorem dX6_determinant_73 : decode cX6_determinant 73 = .ok (.lload_n 3, 1) := by decide +kernel
theorem dX6_determinant_74 : decode cX6_determinant 74 = .ok (.lneg, 1) := by decide +kernel
theorem dX6_determinant_75 : decode cX6_determinant 75 = .ok (.lstore_n 3, 1) := by decide +kernel
theorem dX6_determinant_76 : decode cX6_determinant 76 = .ok (.iconst 0, 1) := by decide +kernel
theorem dX6_determinant_77 : decode cX6_determinant 77 = .ok (.istore 7, 2) := by decide +kernel
theorem dX6_determinant_79 : decode cX6_determinant 79 = .ok (.iload 7, 2) := by decide +kernel
theorem dX6_determinant_81 : decode cX6_determinant 81 = .ok (.aload_n 0, 1) := by decide +kernel
theorem dX6_determinant_82 : decode cX6_determinant 82 = .ok (.getfield 93, 3) := by decide +kernel
theorem dX6_determinant_85 : decode cX6_determinant 85 = .ok (.if_icmp .ge 65, 3) := by decide +kernel
theorem dX6_determinant_88 : decode cX6_determinant 88 = .ok (.aload_n 0, 1) := by decide +kernel
theorem dX6_determinant_89 : decode cX6_determinant 89 = .ok (.getfield 35, 3) := by decide +kernel
theorem dX6_determinant_92 : decode cX6_determinant 92 = .ok (.bipush 7, 2) := by decide +kernel
theorem dX6_determinant_94 : decode cX6_determinant 94 = .ok (.iload 6, 2) := by decide +kernel
theorem dX6_determinant_96 : decode cX6_determinant 96 = .ok (.imul, 1) := by decide +kernel
theorem dX6_determinant_97 : decode cX6_determinant 97 = .ok (.iload 7, 2) := by decide +kernel
theorem dX6_determinant_99 : decode cX6_determinant 99 = .ok (.iadd, 1) := by decide +kernel
theorem dX6_determinant_100 : decode cX6_determinant 100 = .ok (.laload, 1) := by decide +kernel
theorem dX6_determinant_101 : decode cX6_determinant 101 = .ok (.lstore 8, 2) := by decide +kernel
theorem dX6_determinant_103 : decode cX6_determinant 103 = .ok (.aload_n 0, 1) := by decide +kernel
theorem dX6_determinant_104 : decode cX6_determinant 104 = .ok (.getfield 35, 3) := by decide +kernel
theorem dX6_determinant_107 : decode cX6_determinant 107 = .ok (.bipush 7, 2) := by decide +kernel
theorem dX6_determinant_109 : decode cX6_determinant 109 = .ok (.iload 6, 2) := by decide +kernel
theorem dX6_determinant_111 : decode cX6_determinant 111 = .ok (.imul, 1) := by decide +kernel
theorem dX6_determinant_112 : decode cX6_determinant 112 = .ok (.iload 7, 2) := by decide +kernel
theorem dX6_determinant_114 : decode cX6_determinant 114 = .ok (.iadd, 1) := by decide +kernel
theorem dX6_determinant_115 : decode cX6_determinant 115 = .ok (.aload_n 0, 1) := by decide +kernel
theorem dX6_determinant_116 : decode cX6_determinant 116 = .ok (.getfield 35, 3) := by decide +kernel
theorem dX6_determinant_119 : decode cX6_determinant 119 = .ok (.bipush 7, 2) := by decide +kernel
theorem dX6_determinant_121 : decode cX6_determinant 121 = .ok (.iload 5, 2) := by decide +kernel
theorem dX6_determinant_123 : decode cX6_determinant 123 = .ok (.imul, 1) := by decide +kernel
theorem dX6_determinant_124 : decode cX6_determinant 124 = .ok (.iload 7, 2) := by decide +kernel
theorem dX6_determinant_126 : decode cX6_determinant 126 = .ok (.iadd, 1) := by decide +kernel
theorem dX6_determinant_127 : decode cX6_determinant 127 = .ok (.laload, 1) := by decide +kernel
theorem dX6_determinant_128 : decode cX6_determinant 128 = .ok (.lastore, 1) := by decide +kernel
theorem dX6_determinant_129 : decode cX6_determinant 129 = .ok (.aload_n 0, 1) := by decide +kernel
theorem dX6_determinant_130 : decode cX6_determinant 130 = .ok (.getfield 35, 3) := by decide +kernel
theorem dX6_determinant_133 : decode cX6_determinant 133 = .ok (.bipush 7, 2) := by decide +kernel
theorem dX6_determinant_135 : decode cX6_determinant 135 = .ok (.iload 5, 2) := by decide +kernel
theorem dX6_determinant_137 : decode cX6_determinant 137 = .ok (.imul, 1) := by decide +kernel
theorem dX6_determinant_138 : decode cX6_determinant 138 = .ok (.iload 7, 2) := by decide +kernel
theorem dX6_determinant_140 : decode cX6_determinant 140 = .ok (.iadd, 1) := by decide +kernel
theorem dX6_determinant_141 : decode cX6_determinant 141 = .ok (.lload 8, 2) := by decide +kernel
theorem dX6_determinant_143 : decode cX6_determinant 143 = .ok (.lastore, 1) := by decide +kernel
theorem dX6_determinant_144 : decode cX6_determinant 144 = .ok (.iinc 7 1, 3) := by decide +kernel
theorem dX6_determinant_147 : decode cX6_determinant 147 = .ok (.goto (-68), 3) := by decide +kernel
theorem dX6_determinant_150 : decode cX6_determinant 150 = .ok (.iload 5, 2) := by decide +kernel
theorem dX6_determinant_152 : decode cX6_determinant 152 = .ok (.iconst 1, 1) := by decide +kernel
theorem dX6_determinant_153 : decode cX6_determinant 153 = .ok (.iadd, 1) := by decide +kernel
theorem dX6_determinant_154 : decode cX6_determinant 154 = .ok (.istore 7, 2) := by decide +kernel
theorem dX6_determinant_156 : decode cX6_determinant 156 = .ok (.iload 7, 2) := by decide +kernel
theorem dX6_determinant_158 : decode cX6_determinant 158 = .ok (.aload_n 0, 1) := by decide +kernel
theorem dX6_determinant_159 : decode cX6_determinant 159 = .ok (.getfield 93, 3) := by decide +kernel
theorem dX6_determinant_162 : decode cX6_determinant 162 = .ok (.if_icmp .ge 100, 3) := by decide +kernel
theorem dX6_determinant_165 : decode cX6_determinant 165 = .ok (.iload 5, 2) := by decide +kernel
theorem dX6_determinant_167 : decode cX6_determinant 167 = .ok (.iconst 1, 1) := by decide +kernel
theorem dX6_determinant_168 : decode cX6_determinant 168 = .ok (.iadd, 1) := by decide +kernel
theorem dX6_determinant_169 : decode cX6_determinant 169 = .ok (.istore 8, 2) := by decide +kernel
theorem dX6_determinant_171 : decode cX6_determinant 171 = .ok (.iload 8, 2) := by decide +kernel
theorem dX6_determinant_173 : decode cX6_determinant 173 = .ok (.aload_n 0, 1) := by decide +kernel
theorem dX6_determinant_174 : decode cX6_determinant 174 = .ok (.getfield 93, 3) := by decide +kernel
theorem dX6_determinant_177 : decode cX6_determinant 177 = .ok (.if_icmp .ge 79, 3) := by decide +kernel
theorem dX6_determinant_180 : decode cX6_determinant 180 = .ok (.aload_n 0, 1) := by decide +kernel
theorem dX6_determinant_181 : decode cX6_determinant 181 = .ok (.getfield 35, 3) := by decide +kernel
theorem dX6_determinant_184 : decode cX6_determinant 184 = .ok (.bipush 7, 2) := by decide +kernel
theorem dX6_determinant_186 : decode cX6_determinant 186 = .ok (.iload 7, 2) := by decide +kernel
theorem dX6_determinant_188 : decode cX6_determinant 188 = .ok (.imul, 1) := by decide +kernel
theorem dX6_determinant_189 : decode cX6_determinant 189 = .ok (.iload 8, 2) := by decide +kernel
theorem dX6_determinant_191 : decode cX6_determinant 191 = .ok (.iadd, 1) := by decide +kernel
theorem dX6_determinant_192 : decode cX6_determinant 192 = .ok (.aload_n 0, 1) := by decide +kernel
theorem dX6_determinant_193 : decode cX6_determinant 193 = .ok (.getfield 35, 3) := by decide +kernel
theorem dX6_determinant_196 : decode cX6_determinant 196 = .ok (.bipush 7, 2) := by decide +kernel
theorem dX6_determinant_198 : decode cX6_determinant 198 = .ok (.iload 7, 2) := by decide +kernel
theorem dX6_determinant_200 : decode cX6_determinant 200 = .ok (.imul, 1) := by decide +kernel
theorem dX6_determinant_201 : decode cX6_determinant 201 = .ok (.iload 8, 2) := by decide +kernel
theorem dX6_determinant_203 : decode cX6_determinant 203 = .ok (.iadd, 1) := by decide +kernel
theorem dX6_determinant_204 : decode cX6_determinant 204 = .ok (.laload, 1) := by decide +kernel
theorem dX6_determinant_205 : decode cX6_determinant 205 = .ok (.aload_n 0, 1) := by decide +kernel
theorem dX6_determinant_206 : decode cX6_determinant 206 = .ok (.getfield 35, 3) := by decide +kernel
theorem dX6_determinant_209 : decode cX6_determinant 209 = .ok (.bipush 7, 2) := by decide +kernel
theorem dX6_determinant_211 : decode cX6_determinant 211 = .ok (.iload 5, 2) := by decide +kernel
theorem dX6_determinant_213 : decode cX6_determinant 213 = .ok (.imul, 1) := by decide +kernel
theorem dX6_determinant_214 : decode cX6_determinant 214 = .ok (.iload 5, 2) := by decide +kernel
theorem dX6_determinant_216 : decode cX6_determinant 216 = .ok (.iadd, 1) := by decide +kernel
theorem dX6_determinant_217 : decode cX6_determinant 217 = .ok (.laload, 1) := by decide +kernel
theorem dX6_determinant_218 : decode cX6_determinant 218 = .ok (.lmul, 1) := by decide +kernel
theorem dX6_determinant_219 : decode cX6_determinant 219 = .ok (.aload_n 0, 1) := by decide +kernel
theorem dX6_determinant_220 : decode cX6_determinant 220 = .ok (.getfield 35, 3) := by decide +kernel
theorem dX6_determinant_223 : decode cX6_determinant 223 = .ok (.bipush 7, 2) := by decide +kernel
theorem dX6_determinant_225 : decode cX6_determinant 225 = .ok (.iload 7, 2) := by decide +kernel
theorem dX6_determinant_227 : decode cX6_determinant 227 = .ok (.imul, 1) := by decide +kernel
theorem dX6_determinant_228 : decode cX6_determinant 228 = .ok (.iload 5, 2) := by decide +kernel
theorem dX6_determinant_230 : decode cX6_determinant 230 = .ok (.iadd, 1) := by decide +kernel
theorem dX6_determinant_231 : decode cX6_determinant 231 = .ok (.laload, 1) := by decide +kernel
theorem dX6_determinant_232 : decode cX6_determinant 232 = .ok (.aload_n 0, 1) := by decide +kernel
theorem dX6_determinant_233 : decode cX6_determinant 233 = .ok (.getfield 35, 3) := by decide +kernel
theorem dX6_determinant_236 : decode cX6_determinant 236 = .ok (.bipush 7, 2) := by decide +kernel
theorem dX6_determinant_238 : decode cX6_determinant 238 = .ok (.iload 5, 2) := by decide +kernel
theorem dX6_determinant_240 : decode cX6_determinant 240 = .ok (.imul, 1) := by decide +kernel
theorem dX6_determinant_241 : decode cX6_determinant 241 = .ok (.iload 8, 2) := by decide +kernel
theorem dX6_determinant_243 : decode cX6_determinant 243 = .ok (.iadd, 1) := by decide +kernel
theorem dX6_determinant_244 : decode cX6_determinant 244 = .ok (.laload, 1) := by decide +kernel
theorem dX6_determinant_245 : decode cX6_determinant 245 = .ok (.lmul, 1) := by decide +kernel
theorem dX6_determinant_246 : decode cX6_determinant 246 = .ok (.lsub, 1) := by decide +kernel
theorem dX6_determinant_247 : decode cX6_determinant 247 = .ok (.lload_n 1, 1) := by decide +kernel
theorem dX6_determinant_248 : decode cX6_determinant 248 = .ok (.ldiv, 1) := by decide +kernel
theorem dX6_determinant_249 : decode cX6_determinant 249 = .ok (.lastore, 1) := by decide +kernel
theorem dX6_determinant_250 : decode cX6_determinant 250 = .ok (.iinc 8 1, 3) := by decide +kernel
theorem dX6_determinant_253 : decode cX6_determinant 253 = .ok (.goto (-82), 3) := by decide +kernel
theorem dX6_determinant_256 : decode cX6_determinant 256 = .ok (.iinc 7 1, 3) := by decide +kernel
theorem dX6_determinant_259 : decode cX6_determinant 259 = .ok (.goto (-103), 3) := by decide +kernel
theorem dX6_determinant_262 : decode cX6_determinant 262 = .ok (.aload_n 0, 1) := by decide +kernel
theorem dX6_determinant_263 : decode cX6_determinant 263 = .ok (.getfield 35, 3) := by decide +kernel
theorem dX6_determinant_266 : decode cX6_determinant 266 = .ok (.bipush 7, 2) := by decide +kernel
theorem dX6_determinant_268 : decode cX6_determinant 268 = .ok (.iload 5, 2) := by decide +kernel
theorem dX6_determinant_270 : decode cX6_determinant 270 = .ok (.imul, 1) := by decide +kernel
theorem dX6_determinant_271 : decode cX6_determinant 271 = .ok (.iload 5, 2) := by decide +kernel
theorem dX6_determinant_273 : decode cX6_determinant 273 = .ok (.iadd, 1) := by decide +kernel
theorem dX6_determinant_274 : decode cX6_determinant 274 = .ok (.laload, 1) := by decide +kernel
theorem dX6_determinant_275 : decode cX6_determinant 275 = .ok (.lstore_n 1, 1) := by decide +kernel
theorem dX6_determinant_276 : decode cX6_determinant 276 = .ok (.iinc 5 1, 3) := by decide +kernel
theorem dX6_determinant_279 : decode cX6_determinant 279 = .ok (.goto (-272), 3) := by decide +kernel
theorem dX6_determinant_282 : decode cX6_determinant 282 = .ok (.aload_n 0, 1) := by decide +kernel
theorem dX6_determinant_283 : decode cX6_determinant 283 = .ok (.getfield 93, 3) := by decide +kernel
theorem dX6_determinant_286 : decode cX6_determinant 286 = .ok (.ifCond .ne 7, 3) := by decide +kernel
theorem dX6_determinant_289 : decode cX6_determinant 289 = .ok (.lconst 1, 1) := by decide +kernel
theorem dX6_determinant_290 : decode cX6_determinant 290 = .ok (.goto 19, 3) := by decide +kernel
theorem dX6_determinant_293 : decode cX6_determinant 293 = .ok (.lload_n 3, 1) := by decide +kernel
theorem dX6_determinant_294 : decode cX6_determinant 294 = .ok (.aload_n 0, 1) := by decide +kernel
theorem dX6_determinant_295 : decode cX6_determinant 295 = .ok (.getfield 35, 3) := by decide +kernel
theorem dX6_determinant_298 : decode cX6_determinant 298 = .ok (.bipush 8, 2) := by decide +kernel
theorem dX6_determinant_300 : decode cX6_determinant 300 = .ok (.aload_n 0, 1) := by decide +kernel
theorem dX6_determinant_301 : decode cX6_determinant 301 = .ok (.getfield 93, 3) := by decide +kernel
theorem dX6_determinant_304 : decode cX6_determinant 304 = .ok (.iconst 1, 1) := by decide +kernel
theorem dX6_determinant_305 : decode cX6_determinant 305 = .ok (.isub, 1) := by decide +kernel
theorem dX6_determinant_306 : decode cX6_determinant 306 = .ok (.imul, 1) := by decide +kernel
theorem dX6_determinant_307 : decode cX6_determinant 307 = .ok (.laload, 1) := by decide +kernel
theorem dX6_determinant_308 : decode cX6_determinant 308 = .ok (.lmul, 1) := by decide +kernel
theorem dX6_determinant_309 : decode cX6_determinant 309 = .ok (.lreturn, 1) := by decide +kernel
theorem dX6_minor_0 : decode cX6_minor 0 = .ok (.aload_n 0, 1) := by decide +kernel
theorem dX6_minor_1 : decode cX6_minor 1 = .ok (.iconst 0, 1) := by decide +kernel
theorem dX6_minor_2 : decode cX6_minor 2 = .ok (.putfield 93, 3) := by decide +kernel
theorem dX6_minor_5 : decode cX6_minor 5 = .ok (.iconst 0, 1) := by decide +kernel
theorem dX6_minor_6 : decode cX6_minor 6 = .ok (.istore 5, 2) := by decide +kernel
theorem dX6_minor_8 : decode cX6_minor 8 = .ok (.iload 5, 2) := by decide +kernel
theorem dX6_minor_10 : decode cX6_minor 10 = .ok (.aload_n 0, 1) := by decide +kernel
theorem dX6_minor_11 : decode cX6_minor 11 = .ok (.getfield 7, 3) := by decide +kernel
theorem dX6_minor_14 : decode cX6_minor 14 = .ok (.if_icmp .ge 50, 3) := by decide +kernel
theorem dX6_minor_17 : decode cX6_minor 17 = .ok (.iload_n 1, 1) := by decide +kernel
theorem dX6_minor_18 : decode cX6_minor 18 = .ok (.iload 5, 2) := by decide +kernel
theorem dX6_minor_20 : decode cX6_minor 20 = .ok (.ishr, 1) := by decide +kernel
theorem dX6_minor_21 : decode cX6_minor 21 = .ok (.iconst 1, 1) := by decide +kernel
theorem dX6_minor_22 : decode cX6_minor 22 = .ok (.iand, 1) := by decide +kernel
theorem dX6_minor_23 : decode cX6_minor 23 = .ok (.ifCond .ne 35, 3) := by decide +kernel
theorem dX6_minor_26 : decode cX6_minor 26 = .ok (.aload_n 0, 1) := by decide +kernel
theorem dX6_minor_27 : decode cX6_minor 27 = .ok (.getfield 39, 3) := by decide +kernel
theorem dX6_minor_30 : decode cX6_minor 30 = .ok (.aload_n 0, 1) := by decide +kernel
theorem dX6_minor_31 : decode cX6_minor 31 = .ok (.getfield 93, 3) := by decide +kernel
theorem dX6_minor_34 : decode cX6_minor 34 = .ok (.iload 5, 2) := by decide +kernel
theorem dX6_minor_36 : decode cX6_minor 36 = .ok (.iastore, 1) := by decide +kernel
theorem dX6_minor_37 : decode cX6_minor 37 = .ok (.aload_n 0, 1) := by decide +kernel
theorem dX6_minor_38 : decode cX6_minor 38 = .ok (.getfield 42, 3) := by decide +kernel
theorem dX6_minor_41 : decode cX6_minor 41 = .ok (.aload_n 0, 1) := by decide +kernel
theorem dX6_minor_42 : decode cX6_minor 42 = .ok (.getfield 93, 3) := by decide +kernel
theorem dX6_minor_45 : decode cX6_minor 45 = .ok (.iload 5, 2) := by decide +kernel
theorem dX6_minor_47 : decode cX6_minor 47 = .ok (.iastore, 1) := by decide +kernel
theorem dX6_minor_48 : decode cX6_minor 48 = .ok (.aload_n 0, 1) := by decide +kernel
theorem dX6_minor_49 : decode cX6_minor 49 = .ok (.dup, 1) := by decide +kernel
theorem dX6_minor_50 : decode cX6_minor 50 = .ok (.getfield 93, 3) := by decide +kernel
theorem dX6_minor_53 : decode cX6_minor 53 = .ok (.iconst 1, 1) := by decide +kernel
theorem dX6_minor_54 : decode cX6_minor 54 = .ok (.iadd, 1) := by decide +kernel
theorem dX6_minor_55 : decode cX6_minor 55 = .ok (.putfield 93, 3) := by decide +kernel
theorem dX6_minor_58 : decode cX6_minor 58 = .ok (.iinc 5 1, 3) := by decide +kernel
theorem dX6_minor_61 : decode cX6_minor 61 = .ok (.goto (-53), 3) := by decide +kernel
theorem dX6_minor_64 : decode cX6_minor 64 = .ok (.iload_n 2, 1) := by decide +kernel
theorem dX6_minor_65 : decode cX6_minor 65 = .ok (.iconst (-1), 1) := by decide +kernel
theorem dX6_minor_66 : decode cX6_minor 66 = .ok (.if_icmp .eq 33, 3) := by decide +kernel
theorem dX6_minor_69 : decode cX6_minor 69 = .ok (.aload_n 0, 1) := by decide +kernel
theorem dX6_minor_70 : decode cX6_minor 70 = .ok (.getfield 39, 3) := by decide +kernel
theorem dX6_minor_73 : decode cX6_minor 73 = .ok (.aload_n 0, 1) := by decide +kernel
theorem dX6_minor_74 : decode cX6_minor 74 = .ok (.getfield 93, 3) := by decide +kernel
theorem dX6_minor_77 : decode cX6_minor 77 = .ok (.iload_n 2, 1) := by decide +kernel
theorem dX6_minor_78 : decode cX6_minor 78 = .ok (.iastore, 1) := by decide +kernel
theorem dX6_minor_79 : decode cX6_minor 79 = .ok (.aload_n 0, 1) := by decide +kernel
theorem dX6_minor_80 : decode cX6_minor 80 = .ok (.getfield 42, 3) := by decide +kernel
theorem dX6_minor_83 : decode cX6_minor 83 = .ok (.aload_n 0, 1) := by decide +kernel
theorem dX6_minor_84 : decode cX6_minor 84 = .ok (.getfield 93, 3) := by decide +kernel
theorem dX6_minor_87 : decode cX6_minor 87 = .ok (.iload_n 3, 1) := by decide +kernel
theorem dX6_minor_88 : decode cX6_minor 88 = .ok (.iastore, 1) := by decide +kernel
theorem dX6_minor_89 : decode cX6_minor 89 = .ok (.aload_n 0, 1) := by decide +kernel
theorem dX6_minor_90 : decode cX6_minor 90 = .ok (.dup, 1) := by decide +kernel
theorem dX6_minor_91 : decode cX6_minor 91 = .ok (.getfield 93, 3) := by decide +kernel
theorem dX6_minor_94 : decode cX6_minor 94 = .ok (.iconst 1, 1) := by decide +kernel
theorem dX6_minor_95 : decode cX6_minor 95 = .ok (.iadd, 1) := by decide +kernel
theorem dX6_minor_96 : decode cX6_minor 96 = .ok (.putfield 93, 3) := by decide +kernel
theorem dX6_minor_99 : decode cX6_minor 99 = .ok (.iconst 0, 1) := by decide +kernel
theorem dX6_minor_100 : decode cX6_minor 100 = .ok (.istore 5, 2) := by decide +kernel
theorem dX6_minor_102 : decode cX6_minor 102 = .ok (.iload 5, 2) := by decide +kernel
theorem dX6_minor_104 : decode cX6_minor 104 = .ok (.aload_n 0, 1) := by decide +kernel
theorem dX6_minor_105 : decode cX6_minor 105 = .ok (.getfield 93, 3) := by decide +kernel
theorem dX6_minor_108 : decode cX6_minor 108 = .ok (.if_icmp .ge 60, 3) := by decide +kernel
theorem dX6_minor_111 : decode cX6_minor 111 = .ok (.iconst 0, 1) := by decide +kernel
theorem dX6_minor_112 : decode cX6_minor 112 = .ok (.istore 6, 2) := by decide +kernel
theorem dX6_minor_114 : decode cX6_minor 114 = .ok (.iload 6, 2) := by decide +kernel
theorem dX6_minor_116 : decode cX6_minor 116 = .ok (.aload_n 0, 1) := by decide +kernel
theorem dX6_minor_117 : decode cX6_minor 117 = .ok (.getfield 93, 3) := by decide +kernel
theorem dX6_minor_120 : decode cX6_minor 120 = .ok (.if_icmp .ge 42, 3) := by decide +kernel
theorem dX6_minor_123 : decode cX6_minor 123 = .ok (.aload_n 0, 1) := by decide +kernel
theorem dX6_minor_124 : decode cX6_minor 124 = .ok (.getfield 35, 3) := by decide +kernel
theorem dX6_minor_127 : decode cX6_minor 127 = .ok (.bipush 7, 2) := by decide +kernel
theorem dX6_minor_129 : decode cX6_minor 129 = .ok (.iload 5, 2) := by decide +kernel
theorem dX6_minor_131 : decode cX6_minor 131 = .ok (.imul, 1) := by decide +kernel
theorem dX6_minor_132 : decode cX6_minor 132 = .ok (.iload 6, 2) := by decide +kernel
theorem dX6_minor_134 : decode cX6_minor 134 = .ok (.iadd, 1) := by decide +kernel
theorem dX6_minor_135 : decode cX6_minor 135 = .ok (.aload_n 0, 1) := by decide +kernel
theorem dX6_minor_136 : decode cX6_minor 136 = .ok (.aload_n 0, 1) := by decide +kernel
theorem dX6_minor_137 : decode cX6_minor 137 = .ok (.getfield 39, 3) := by decide +kernel
theorem dX6_minor_140 : decode cX6_minor 140 = .ok (.iload 5, 2) := by decide +kernel
theorem dX6_minor_142 : decode cX6_minor 142 = .ok (.iaload, 1) := by decide +kernel
theorem dX6_minor_143 : decode cX6_minor 143 = .ok (.aload_n 0, 1) := by decide +kernel
theorem dX6_minor_144 : decode cX6_minor 144 = .ok (.getfield 42, 3) := by decide +kernel
theorem dX6_minor_147 : decode cX6_minor 147 = .ok (.iload 6, 2) := by decide +kernel
theorem dX6_minor_149 : decode cX6_minor 149 = .ok (.iaload, 1) := by decide +kernel
theorem dX6_minor_150 : decode cX6_minor 150 = .ok (.iload 4, 2) := by decide +kernel
theorem dX6_minor_152 : decode cX6_minor 152 = .ok (.invokevirtual 96, 3) := by decide +kernel
theorem dX6_minor_155 : decode cX6_minor 155 = .ok (.lastore, 1) := by decide +kernel
theorem dX6_minor_156 : decode cX6_minor 156 = .ok (.iinc 6 1, 3) := by decide +kernel
theorem dX6_minor_159 : decode cX6_minor 159 = .ok (.goto (-45), 3) := by decide +kernel
theorem dX6_minor_162 : decode cX6_minor 162 = .ok (.iinc 5 1, 3) := by decide +kernel
theorem dX6_minor_165 : decode cX6_minor 165 = .ok (.goto (-63), 3) := by decide +kernel
theorem dX6_minor_168 : decode cX6_minor 168 = .ok (.aload_n 0, 1) := by decide +kernel
theorem dX6_minor_169 : decode cX6_minor 169 = .ok (.invokevirtual 100, 3) := by decide +kernel
theorem dX6_minor_172 : decode cX6_minor 172 = .ok (.lreturn, 1) := by decide +kernel
theorem dX6_findResist_0 : decode cX6_findResist 0 = .ok (.aload_n 0, 1) := by decide +kernel
theorem dX6_findResist_1 : decode cX6_findResist 1 = .ok (.aload_n 0, 1) := by decide +kernel
theorem dX6_findResist_2 : decode cX6_findResist 2 = .ok (.iload_n 1, 1) := by decide +kernel
theorem dX6_findResist_3 : decode cX6_findResist 3 = .ok (.iconst (-1), 1) := by decide +kernel
theorem dX6_findResist_4 : decode cX6_findResist 4 = .ok (.iconst (-1), 1) := by decide +kernel
theorem dX6_findResist_5 : decode cX6_findResist 5 = .ok (.iload_n 2, 1) := by decide +kernel
theorem dX6_findResist_6 : decode cX6_findResist 6 = .ok (.invokevirtual 104, 3) := by decide +kernel
theorem dX6_findResist_9 : decode cX6_findResist 9 = .ok (.putfield 108, 3) := by decide +kernel
theorem dX6_findResist_12 : decode cX6_findResist 12 = .ok (.iconst 0, 1) := by decide +kernel
theorem dX6_findResist_13 : decode cX6_findResist 13 = .ok (.istore_n 3, 1) := by decide +kernel
theorem dX6_findResist_14 : decode cX6_findResist 14 = .ok (.iload_n 3, 1) := by decide +kernel
theorem dX6_findResist_15 : decode cX6_findResist 15 = .ok (.aload_n 0, 1) := by decide +kernel
theorem dX6_findResist_16 : decode cX6_findResist 16 = .ok (.getfield 7, 3) := by decide +kernel
theorem dX6_findResist_19 : decode cX6_findResist 19 = .ok (.if_icmp .ge 68, 3) := by decide +kernel
theorem dX6_findResist_22 : decode cX6_findResist 22 = .ok (.iconst 0, 1) := by decide +kernel
theorem dX6_findResist_23 : decode cX6_findResist 23 = .ok (.istore 4, 2) := by decide +kernel
theorem dX6_findResist_25 : decode cX6_findResist 25 = .ok (.iload 4, 2) := by decide +kernel
theorem dX6_findResist_27 : decode cX6_findResist 27 = .ok (.aload_n 0, 1) := by decide +kernel
theorem dX6_findResist_28 : decode cX6_findResist 28 = .ok (.getfield 7, 3) := by decide +kernel
theorem dX6_findResist_31 : decode cX6_findResist 31 = .ok (.if_icmp .ge 50, 3) := by decide +kernel
theorem dX6_findResist_34 : decode cX6_findResist 34 = .ok (.aload_n 0, 1) := by decide +kernel
theorem dX6_findResist_35 : decode cX6_findResist 35 = .ok (.getfield 45, 3) := by decide +kernel
theorem dX6_findResist_38 : decode cX6_findResist 38 = .ok (.bipush 7, 2) := by decide +kernel
theorem dX6_findResist_40 : decode cX6_findResist 40 = .ok (.iload 4, 2) := by decide +kernel
theorem dX6_findResist_42 : decode cX6_findResist 42 = .ok (.imul, 1) := by decide +kernel
theorem dX6_findResist_43 : decode cX6_findResist 43 = .ok (.iload_n 3, 1) := by decide +kernel
theorem dX6_findResist_44 : decode cX6_findResist 44 = .ok (.iadd, 1) := by decide +kernel
theorem dX6_findResist_45 : decode cX6_findResist 45 = .ok (.iload_n 1, 1) := by decide +kernel
theorem dX6_findResist_46 : decode cX6_findResist 46 = .ok (.iload 4, 2) := by decide +kernel
theorem dX6_findResist_48 : decode cX6_findResist 48 = .ok (.ishr, 1) := by decide +kernel
theorem dX6_findResist_49 : decode cX6_findResist 49 = .ok (.iconst 1, 1) := by decide +kernel
theorem dX6_findResist_50 : decode cX6_findResist 50 = .ok (.iand, 1) := by decide +kernel
theorem dX6_findResist_51 : decode cX6_findResist 51 = .ok (.iload_n 1, 1) := by decide +kernel
theorem dX6_findResist_52 : decode cX6_findResist 52 = .ok (.iload_n 3, 1) := by decide +kernel
theorem dX6_findResist_53 : decode cX6_findResist 53 = .ok (.ishr, 1) := by decide +kernel
theorem dX6_findResist_54 : decode cX6_findResist 54 = .ok (.iconst 1, 1) := by decide +kernel
theorem dX6_findResist_55 : decode cX6_findResist 55 = .ok (.iand, 1) := by decide +kernel
theorem dX6_findResist_56 : decode cX6_findResist 56 = .ok (.ior, 1) := by decide +kernel
theorem dX6_findResist_57 : decode cX6_findResist 57 = .ok (.iconst 1, 1) := by decide +kernel
theorem dX6_findResist_58 : decode cX6_findResist 58 = .ok (.if_icmp .ne 7, 3) := by decide +kernel
theorem dX6_findResist_61 : decode cX6_findResist 61 = .ok (.lconst 0, 1) := by decide +kernel
theorem dX6_findResist_62 : decode cX6_findResist 62 = .ok (.goto 12, 3) := by decide +kernel
theorem dX6_findResist_65 : decode cX6_findResist 65 = .ok (.aload_n 0, 1) := by decide +kernel
theorem dX6_findResist_66 : decode cX6_findResist 66 = .ok (.iload_n 1, 1) := by decide +kernel
theorem dX6_findResist_67 : decode cX6_findResist 67 = .ok (.iload 4, 2) := by decide +kernel
theorem dX6_findResist_69 : decode cX6_findResist 69 = .ok (.iload_n 3, 1) := by decide +kernel
theorem dX6_findResist_70 : decode cX6_findResist 70 = .ok (.iload_n 2, 1) := by decide +kernel
theorem dX6_findResist_71 : decode cX6_findResist 71 = .ok (.invokevirtual 112, 3) := by decide +kernel
theorem dX6_findResist_74 : decode cX6_findResist 74 = .ok (.lastore, 1) := by decide +kernel
theorem dX6_findResist_75 : decode cX6_findResist 75 = .ok (.iinc 4 1, 3) := by decide +kernel
theorem dX6_findResist_78 : decode cX6_findResist 78 = .ok (.goto (-53), 3) := by decide +kernel
theorem dX6_findResist_81 : decode cX6_findResist 81 = .ok (.iinc 3 1, 3) := by decide +kernel
theorem dX6_findResist_84 : decode cX6_findResist 84 = .ok (.goto (-70), 3) := by decide +kernel
theorem dX6_findResist_87 : decode cX6_findResist 87 = .ok (.return_, 1) := by decide +kernel
theorem dX6_cramer_0 : decode cX6_cramer 0 = .ok (.aload_n 0, 1) := by decide +kernel
theorem dX6_cramer_1 : decode cX6_cramer 1 = .ok (.iconst 0, 1) := by decide +kernel
theorem dX6_cramer_2 : decode cX6_cramer 2 = .ok (.putfield 93, 3) := by decide +kernel
theorem dX6_cramer_5 : decode cX6_cramer 5 = .ok (.iconst 0, 1) := by decide +kernel
theorem dX6_cramer_6 : decode cX6_cramer 6 = .ok (.istore 5, 2) := by decide +kernel
theorem dX6_cramer_8 : decode cX6_cramer 8 = .ok (.iload 5, 2) := by decide +kernel
theorem dX6_cramer_10 : decode cX6_cramer 10 = .ok (.aload_n 0, 1) := by decide +kernel
theorem dX6_cramer_11 : decode cX6_cramer 11 = .ok (.getfield 7, 3) := by decide +kernel
theorem dX6_cramer_14 : decode cX6_cramer 14 = .ok (.if_icmp .ge 39, 3) := by decide +kernel
theorem dX6_cramer_17 : decode cX6_cramer 17 = .ok (.iload_n 1, 1) := by decide +kernel
theorem dX6_cramer_18 : decode cX6_cramer 18 = .ok (.iload 5, 2) := by decide +kernel
theorem dX6_cramer_20 : decode cX6_cramer 20 = .ok (.ishr, 1) := by decide +kernel
theorem dX6_cramer_21 : decode cX6_cramer 21 = .ok (.iconst 1, 1) := by decide +kernel
theorem dX6_cramer_22 : decode cX6_cramer 22 = .ok (.iand, 1) := by decide +kernel
theorem dX6_cramer_23 : decode cX6_cramer 23 = .ok (.ifCond .ne 24, 3) := by decide +kernel
theorem dX6_cramer_26 : decode cX6_cramer 26 = .ok (.aload_n 0, 1) := by decide +kernel
theorem dX6_cramer_27 : decode cX6_cramer 27 = .ok (.getfield 39, 3) := by decide +kernel
theorem dX6_cramer_30 : decode cX6_cramer 30 = .ok (.aload_n 0, 1) := by decide +kernel
theorem dX6_cramer_31 : decode cX6_cramer 31 = .ok (.getfield 93, 3) := by decide +kernel
theorem dX6_cramer_34 : decode cX6_cramer 34 = .ok (.iload 5, 2) := by decide +kernel
theorem dX6_cramer_36 : decode cX6_cramer 36 = .ok (.iastore, 1) := by decide +kernel
theorem dX6_cramer_37 : decode cX6_cramer 37 = .ok (.aload_n 0, 1) := by decide +kernel
theorem dX6_cramer_38 : decode cX6_cramer 38 = .ok (.dup, 1) := by decide +kernel
theorem dX6_cramer_39 : decode cX6_cramer 39 = .ok (.getfield 93, 3) := by decide +kernel
theorem dX6_cramer_42 : decode cX6_cramer 42 = .ok (.iconst 1, 1) := by decide +kernel
theorem dX6_cramer_43 : decode cX6_cramer 43 = .ok (.iadd, 1) := by decide +kernel
theorem dX6_cramer_44 : decode cX6_cramer 44 = .ok (.putfield 93, 3) := by decide +kernel
theorem dX6_cramer_47 : decode cX6_cramer 47 = .ok (.iinc 5 1, 3) := by decide +kernel
theorem dX6_cramer_50 : decode cX6_cramer 50 = .ok (.goto (-42), 3) := by decide +kernel
theorem dX6_cramer_53 : decode cX6_cramer 53 = .ok (.iconst 0, 1) := by decide +kernel
theorem dX6_cramer_54 : decode cX6_cramer 54 = .ok (.istore 5, 2) := by decide +kernel
theorem dX6_cramer_56 : decode cX6_cramer 56 = .ok (.iload 5, 2) := by decide +kernel
theorem dX6_cramer_58 : decode cX6_cramer 58 = .ok (.aload_n 0, 1) := by decide +kernel
theorem dX6_cramer_59 : decode cX6_cramer 59 = .ok (.getfield 93, 3) := by decide +kernel
theorem dX6_cramer_62 : decode cX6_cramer 62 = .ok (.if_icmp .ge 90, 3) := by decide +kernel
theorem dX6_cramer_65 : decode cX6_cramer 65 = .ok (.iconst 0, 1) := by decide +kernel
theorem dX6_cramer_66 : decode cX6_cramer 66 = .ok (.istore 6, 2) := by decide +kernel
theorem dX6_cramer_68 : decode cX6_cramer 68 = .ok (.iload 6, 2) := by decide +kernel
theorem dX6_cramer_70 : decode cX6_cramer 70 = .ok (.aload_n 0, 1) := by decide +kernel
theorem dX6_cramer_71 : decode cX6_cramer 71 = .ok (.getfield 93, 3) := by decide +kernel
theorem dX6_cramer_74 : decode cX6_cramer 74 = .ok (.if_icmp .ge 72, 3) := by decide +kernel
theorem dX6_cramer_77 : decode cX6_cramer 77 = .ok (.aload_n 0, 1) := by decide +kernel
theorem dX6_cramer_78 : decode cX6_cramer 78 = .ok (.getfield 35, 3) := by decide +kernel
theorem dX6_cramer_81 : decode cX6_cramer 81 = .ok (.bipush 7, 2) := by decide +kernel
theorem dX6_cramer_83 : decode cX6_cramer 83 = .ok (.iload 5, 2) := by decide +kernel
theorem dX6_cramer_85 : decode cX6_cramer 85 = .ok (.imul, 1) := by decide +kernel
theorem dX6_cramer_86 : decode cX6_cramer 86 = .ok (.iload 6, 2) := by decide +kernel
theorem dX6_cramer_88 : decode cX6_cramer 88 = .ok (.iadd, 1) := by decide +kernel
theorem dX6_cramer_89 : decode cX6_cramer 89 = .ok (.aload_n 0, 1) := by decide +kernel
theorem dX6_cramer_90 : decode cX6_cramer 90 = .ok (.getfield 39, 3) := by decide +kernel
theorem dX6_cramer_93 : decode cX6_cramer 93 = .ok (.iload 6, 2) := by decide +kernel
theorem dX6_cramer_95 : decode cX6_cramer 95 = .ok (.iaload, 1) := by decide +kernel
theorem dX6_cramer_96 : decode cX6_cramer 96 = .ok (.iload_n 2, 1) := by decide +kernel
theorem dX6_cramer_97 : decode cX6_cramer 97 = .ok (.if_icmp .ne 22, 3) := by decide +kernel
theorem dX6_cramer_100 : decode cX6_cramer 100 = .ok (.aload_n 0, 1) := by decide +kernel
theorem dX6_cramer_101 : decode cX6_cramer 101 = .ok (.getfield 39, 3) := by decide +kernel
theorem dX6_cramer_104 : decode cX6_cramer 104 = .ok (.iload 5, 2) := by decide +kernel
theorem dX6_cramer_106 : decode cX6_cramer 106 = .ok (.iaload, 1) := by decide +kernel
theorem dX6_cramer_107 : decode cX6_cramer 107 = .ok (.iload_n 3, 1) := by decide +kernel
theorem dX6_cramer_108 : decode cX6_cramer 108 = .ok (.if_icmp .ne 7, 3) := by decide +kernel
theorem dX6_cramer_111 : decode cX6_cramer 111 = .ok (.lconst 1, 1) := by decide +kernel
theorem dX6_cramer_112 : decode cX6_cramer 112 = .ok (.goto 27, 3) := by decide +kernel
theorem dX6_cramer_115 : decode cX6_cramer 115 = .ok (.lconst 0, 1) := by decide +kernel
theorem dX6_cramer_116 : decode cX6_cramer 116 = .ok (.goto 23, 3) := by decide +kernel
theorem dX6_cramer_119 : decode cX6_cramer 119 = .ok (.aload_n 0, 1) := by decide +kernel
theorem dX6_cramer_120 : decode cX6_cramer 120 = .ok (.aload_n 0, 1) := by decide +kernel
theorem dX6_cramer_121 : decode cX6_cramer 121 = .ok (.getfield 39, 3) := by decide +kernel
theorem dX6_cramer_124 : decode cX6_cramer 124 = .ok (.iload 5, 2) := by decide +kernel
theorem dX6_cramer_126 : decode cX6_cramer 126 = .ok (.iaload, 1) := by decide +kernel
theorem dX6_cramer_127 : decode cX6_cramer 127 = .ok (.aload_n 0, 1) := by decide +kernel
theorem dX6_cramer_128 : decode cX6_cramer 128 = .ok (.getfield 39, 3) := by decide +kernel
theorem dX6_cramer_131 : decode cX6_cramer 131 = .ok (.iload 6, 2) := by decide +kernel
theorem dX6_cramer_133 : decode cX6_cramer 133 = .ok (.iaload, 1) := by decide +kernel
theorem dX6_cramer_134 : decode cX6_cramer 134 = .ok (.iload 4, 2) := by decide +kernel
theorem dX6_cramer_136 : decode cX6_cramer 136 = .ok (.invokevirtual 96, 3) := by decide +kernel
theorem dX6_cramer_139 : decode cX6_cramer 139 = .ok (.lastore, 1) := by decide +kernel
theorem dX6_cramer_140 : decode cX6_cramer 140 = .ok (.iinc 6 1, 3) := by decide +kernel
theorem dX6_cramer_143 : decode cX6_cramer 143 = .ok (.goto (-75), 3) := by decide +kernel
theorem dX6_cramer_146 : decode cX6_cramer 146 = .ok (.iinc 5 1, 3) := by decide +kernel
theorem dX6_cramer_149 : decode cX6_cramer 149 = .ok (.goto (-93), 3) := by decide +kernel
theorem dX6_cramer_152 : decode cX6_cramer 152 = .ok (.aload_n 0, 1) := by decide +kernel
theorem dX6_cramer_153 : decode cX6_cramer 153 = .ok (.invokevirtual 100, 3) := by decide +kernel
theorem dX6_cramer_156 : decode cX6_cramer 156 = .ok (.lreturn, 1) := by decide +kernel
theorem dX6_fallBy_0 : decode cX6_fallBy 0 = .ok (.lconst 0, 1) := by decide +kernel
theorem dX6_fallBy_1 : decode cX6_fallBy 1 = .ok (.lstore_n 3, 1) := by decide +kernel
theorem dX6_fallBy_2 : decode cX6_fallBy 2 = .ok (.iconst 0, 1) := by decide +kernel
theorem dX6_fallBy_3 : decode cX6_fallBy 3 = .ok (.istore 5, 2) := by decide +kernel
theorem dX6_fallBy_5 : decode cX6_fallBy 5 = .ok (.iload 5, 2) := by decide +kernel
theorem dX6_fallBy_7 : decode cX6_fallBy 7 = .ok (.aload_n 0, 1) := by decide +kernel
theorem dX6_fallBy_8 : decode cX6_fallBy 8 = .ok (.getfield 7, 3) := by decide +kernel
theorem dX6_fallBy_11 : decode cX6_fallBy 11 = .ok (.if_icmp .ge 30, 3) := by decide +kernel
theorem dX6_fallBy_14 : decode cX6_fallBy 14 = .ok (.lload_n 3, 1) := by decide +kernel
theorem dX6_fallBy_15 : decode cX6_fallBy 15 = .ok (.aload_n 0, 1) := by decide +kernel
theorem dX6_fallBy_16 : decode cX6_fallBy 16 = .ok (.getfield 45, 3) := by decide +kernel
theorem dX6_fallBy_19 : decode cX6_fallBy 19 = .ok (.bipush 7, 2) := by decide +kernel
theorem dX6_fallBy_21 : decode cX6_fallBy 21 = .ok (.iload_n 1, 1) := by decide +kernel
theorem dX6_fallBy_22 : decode cX6_fallBy 22 = .ok (.imul, 1) := by decide +kernel
theorem dX6_fallBy_23 : decode cX6_fallBy 23 = .ok (.iload 5, 2) := by decide +kernel
theorem dX6_fallBy_25 : decode cX6_fallBy 25 = .ok (.iadd, 1) := by decide +kernel
theorem dX6_fallBy_26 : decode cX6_fallBy 26 = .ok (.laload, 1) := by decide +kernel
theorem dX6_fallBy_27 : decode cX6_fallBy 27 = .ok (.aload_n 2, 1) := by decide +kernel
theorem dX6_fallBy_28 : decode cX6_fallBy 28 = .ok (.iload 5, 2) := by decide +kernel
theorem dX6_fallBy_30 : decode cX6_fallBy 30 = .ok (.iaload, 1) := by decide +kernel
theorem dX6_fallBy_31 : decode cX6_fallBy 31 = .ok (.i2l, 1) := by decide +kernel
theorem dX6_fallBy_32 : decode cX6_fallBy 32 = .ok (.lmul, 1) := by decide +kernel
theorem dX6_fallBy_33 : decode cX6_fallBy 33 = .ok (.ladd, 1) := by decide +kernel
theorem dX6_fallBy_34 : decode cX6_fallBy 34 = .ok (.lstore_n 3, 1) := by decide +kernel
theorem dX6_fallBy_35 : decode cX6_fallBy 35 = .ok (.iinc 5 1, 3) := by decide +kernel
theorem dX6_fallBy_38 : decode cX6_fallBy 38 = .ok (.goto (-33), 3) := by decide +kernel
theorem dX6_fallBy_41 : decode cX6_fallBy 41 = .ok (.lload_n 3, 1) := by decide +kernel
theorem dX6_fallBy_42 : decode cX6_fallBy 42 = .ok (.lreturn, 1) := by decide +kernel
theorem dX6_mostFall_0 : decode cX6_mostFall 0 = .ok (.lconst 0, 1) := by decide +kernel
theorem dX6_mostFall_1 : decode cX6_mostFall 1 = .ok (.lstore_n 2, 1) := by decide +kernel
theorem dX6_mostFall_2 : decode cX6_mostFall 2 = .ok (.iconst 0, 1) := by decide +kernel
theorem dX6_mostFall_3 : decode cX6_mostFall 3 = .ok (.istore 4, 2) := by decide +kernel
theorem dX6_mostFall_5 : decode cX6_mostFall 5 = .ok (.iload 4, 2) := by decide +kernel
theorem dX6_mostFall_7 : decode cX6_mostFall 7 = .ok (.aload_n 0, 1) := by decide +kernel
theorem dX6_mostFall_8 : decode cX6_mostFall 8 = .ok (.getfield 7, 3) := by decide +kernel
theorem dX6_mostFall_11 : decode cX6_mostFall 11 = .ok (.if_icmp .ge 32, 3) := by decide +kernel
theorem dX6_mostFall_14 : decode cX6_mostFall 14 = .ok (.aload_n 0, 1) := by decide +kernel
theorem dX6_mostFall_15 : decode cX6_mostFall 15 = .ok (.iload 4, 2) := by decide +kernel
theorem dX6_mostFall_17 : decode cX6_mostFall 17 = .ok (.aload_n 1, 1) := by decide +kernel
theorem dX6_mostFall_18 : decode cX6_mostFall 18 = .ok (.invokevirtual 115, 3) := by decide +kernel
theorem dX6_mostFall_21 : decode cX6_mostFall 21 = .ok (.lstore 5, 2) := by decide +kernel
theorem dX6_mostFall_23 : decode cX6_mostFall 23 = .ok (.lload 5, 2) := by decide +kernel
theorem dX6_mostFall_25 : decode cX6_mostFall 25 = .ok (.lload_n 2, 1) := by decide +kernel
theorem dX6_mostFall_26 : decode cX6_mostFall 26 = .ok (.lcmp, 1) := by decide +kernel
theorem dX6_mostFall_27 : decode cX6_mostFall 27 = .ok (.ifCond .le 8, 3) := by decide +kernel
theorem dX6_mostFall_30 : decode cX6_mostFall 30 = .ok (.lload 5, 2) := by decide +kernel
theorem dX6_mostFall_32 : decode cX6_mostFall 32 = .ok (.goto 4, 3) := by decide +kernel
theorem dX6_mostFall_35 : decode cX6_mostFall 35 = .ok (.lload_n 2, 1) := by decide +kernel
theorem dX6_mostFall_36 : decode cX6_mostFall 36 = .ok (.lstore_n 2, 1) := by decide +kernel
theorem dX6_mostFall_37 : decode cX6_mostFall 37 = .ok (.iinc 4 1, 3) := by decide +kernel
theorem dX6_mostFall_40 : decode cX6_mostFall 40 = .ok (.goto (-35), 3) := by decide +kernel
theorem dX6_mostFall_43 : decode cX6_mostFall 43 = .ok (.lload_n 2, 1) := by decide +kernel
theorem dX6_mostFall_44 : decode cX6_mostFall 44 = .ok (.lreturn, 1) := by decide +kernel
theorem dX6_divisor_0 : decode cX6_divisor 0 = .ok (.lload_n 0, 1) := by decide +kernel
theorem dX6_divisor_1 : decode cX6_divisor 1 = .ok (.lconst 0, 1) := by decide +kernel
theorem dX6_divisor_2 : decode cX6_divisor 2 = .ok (.lcmp, 1) := by decide +kernel
theorem dX6_divisor_3 : decode cX6_divisor 3 = .ok (.ifCond .ge 8, 3) := by decide +kernel
theorem dX6_divisor_6 : decode cX6_divisor 6 = .ok (.lload_n 0, 1) := by decide +kernel
theorem dX6_divisor_7 : decode cX6_divisor 7 = .ok (.lneg, 1) := by decide +kernel
theorem dX6_divisor_8 : decode cX6_divisor 8 = .ok (.goto 4, 3) := by decide +kernel
theorem dX6_divisor_11 : decode cX6_divisor 11 = .ok (.lload_n 0, 1) := by decide +kernel
theorem dX6_divisor_12 : decode cX6_divisor 12 = .ok (.lstore 4, 2) := by decide +kernel
theorem dX6_divisor_14 : decode cX6_divisor 14 = .ok (.lload_n 2, 1) := by decide +kernel
theorem dX6_divisor_15 : decode cX6_divisor 15 = .ok (.lstore 6, 2) := by decide +kernel
theorem dX6_divisor_17 : decode cX6_divisor 17 = .ok (.lload 6, 2) := by decide +kernel
theorem dX6_divisor_19 : decode cX6_divisor 19 = .ok (.lconst 0, 1) := by decide +kernel
theorem dX6_divisor_20 : decode cX6_divisor 20 = .ok (.lcmp, 1) := by decide +kernel
theorem dX6_divisor_21 : decode cX6_divisor 21 = .ok (.ifCond .eq 21, 3) := by decide +kernel
theorem dX6_divisor_24 : decode cX6_divisor 24 = .ok (.lload 4, 2) := by decide +kernel
theorem dX6_divisor_26 : decode cX6_divisor 26 = .ok (.lload 6, 2) := by decide +kernel
theorem dX6_divisor_28 : decode cX6_divisor 28 = .ok (.lrem, 1) := by decide +kernel
theorem dX6_divisor_29 : decode cX6_divisor 29 = .ok (.lstore 8, 2) := by decide +kernel
theorem dX6_divisor_31 : decode cX6_divisor 31 = .ok (.lload 6, 2) := by decide +kernel
theorem dX6_divisor_33 : decode cX6_divisor 33 = .ok (.lstore 4, 2) := by decide +kernel
theorem dX6_divisor_35 : decode cX6_divisor 35 = .ok (.lload 8, 2) := by decide +kernel
theorem dX6_divisor_37 : decode cX6_divisor 37 = .ok (.lstore 6, 2) := by decide +kernel
theorem dX6_divisor_39 : decode cX6_divisor 39 = .ok (.goto (-22), 3) := by decide +kernel
theorem dX6_divisor_42 : decode cX6_divisor 42 = .ok (.lload 4, 2) := by decide +kernel
theorem dX6_divisor_44 : decode cX6_divisor 44 = .ok (.lreturn, 1) := by decide +kernel
theorem dX6_lowest_0 : decode cX6_lowest 0 = .ok (.lload_n 0, 1) := by decide +kernel
theorem dX6_lowest_1 : decode cX6_lowest 1 = .ok (.lload_n 2, 1) := by decide +kernel
theorem dX6_lowest_2 : decode cX6_lowest 2 = .ok (.invokestatic 119, 3) := by decide +kernel
theorem dX6_lowest_5 : decode cX6_lowest 5 = .ok (.lstore 5, 2) := by decide +kernel
theorem dX6_lowest_7 : decode cX6_lowest 7 = .ok (.iload 4, 2) := by decide +kernel
theorem dX6_lowest_9 : decode cX6_lowest 9 = .ok (.ifCond .ne 10, 3) := by decide +kernel
theorem dX6_lowest_12 : decode cX6_lowest 12 = .ok (.lload_n 0, 1) := by decide +kernel
theorem dX6_lowest_13 : decode cX6_lowest 13 = .ok (.lload 5, 2) := by decide +kernel
theorem dX6_lowest_15 : decode cX6_lowest 15 = .ok (.ldiv, 1) := by decide +kernel
theorem dX6_lowest_16 : decode cX6_lowest 16 = .ok (.goto 7, 3) := by decide +kernel
theorem dX6_lowest_19 : decode cX6_lowest 19 = .ok (.lload_n 2, 1) := by decide +kernel
theorem dX6_lowest_20 : decode cX6_lowest 20 = .ok (.lload 5, 2) := by decide +kernel
theorem dX6_lowest_22 : decode cX6_lowest 22 = .ok (.ldiv, 1) := by decide +kernel
theorem dX6_lowest_23 : decode cX6_lowest 23 = .ok (.lreturn, 1) := by decide +kernel
theorem dX6_fall_0 : decode cX6_fall 0 = .ok (.aload_n 0, 1) := by decide +kernel
theorem dX6_fall_1 : decode cX6_fall 1 = .ok (.iload_n 1, 1) := by decide +kernel
theorem dX6_fall_2 : decode cX6_fall 2 = .ok (.invokevirtual 85, 3) := by decide +kernel
theorem dX6_fall_5 : decode cX6_fall 5 = .ok (.ifCond .eq 12, 3) := by decide +kernel
theorem dX6_fall_8 : decode cX6_fall 8 = .ok (.iload_n 2, 1) := by decide +kernel
theorem dX6_fall_9 : decode cX6_fall 9 = .ok (.iconst 0, 1) := by decide +kernel
theorem dX6_fall_10 : decode cX6_fall 10 = .ok (.iconst 1, 1) := by decide +kernel
theorem dX6_fall_11 : decode cX6_fall 11 = .ok (.invokestatic 69, 3) := by decide +kernel
theorem dX6_fall_14 : decode cX6_fall 14 = .ok (.ifCond .ne 7, 3) := by decide +kernel
theorem dX6_fall_17 : decode cX6_fall 17 = .ok (.ldc2_w 123, 3) := by decide +kernel
theorem dX6_fall_20 : decode cX6_fall 20 = .ok (.lreturn, 1) := by decide +kernel
theorem dX6_fall_21 : decode cX6_fall 21 = .ok (.aload_n 0, 1) := by decide +kernel
theorem dX6_fall_22 : decode cX6_fall 22 = .ok (.invokevirtual 125, 3) := by decide +kernel
theorem dX6_fall_25 : decode cX6_fall 25 = .ok (.ifCond .ne 7, 3) := by decide +kernel
theorem dX6_fall_28 : decode cX6_fall 28 = .ok (.ldc2_w 129, 3) := by decide +kernel
theorem dX6_fall_31 : decode cX6_fall 31 = .ok (.lreturn, 1) := by decide +kernel
theorem dX6_fall_32 : decode cX6_fall 32 = .ok (.aload_n 0, 1) := by decide +kernel
theorem dX6_fall_33 : decode cX6_fall 33 = .ok (.aload_n 0, 1) := by decide +kernel
theorem dX6_fall_34 : decode cX6_fall 34 = .ok (.getfield 76, 3) := by decide +kernel
theorem dX6_fall_37 : decode cX6_fall 37 = .ok (.iconst (-1), 1) := by decide +kernel
theorem dX6_fall_38 : decode cX6_fall 38 = .ok (.invokevirtual 131, 3) := by decide +kernel
theorem dX6_fall_41 : decode cX6_fall 41 = .ok (.aload_n 0, 1) := by decide +kernel
theorem dX6_fall_42 : decode cX6_fall 42 = .ok (.iload_n 1, 1) := by decide +kernel
theorem dX6_fall_43 : decode cX6_fall 43 = .ok (.aload_n 0, 1) := by decide +kernel
theorem dX6_fall_44 : decode cX6_fall 44 = .ok (.getfield 26, 3) := by decide +kernel
theorem dX6_fall_47 : decode cX6_fall 47 = .ok (.invokevirtual 115, 3) := by decide +kernel
theorem dX6_fall_50 : decode cX6_fall 50 = .ok (.aload_n 0, 1) := by decide +kernel
theorem dX6_fall_51 : decode cX6_fall 51 = .ok (.getfield 108, 3) := by decide +kernel
theorem dX6_fall_54 : decode cX6_fall 54 = .ok (.iload_n 2, 1) := by decide +kernel
theorem dX6_fall_55 : decode cX6_fall 55 = .ok (.invokestatic 135, 3) := by decide +kernel
theorem dX6_fall_58 : decode cX6_fall 58 = .ok (.lreturn, 1) := by decide +kernel
theorem dX6_greatest_0 : decode cX6_greatest 0 = .ok (.aload_n 0, 1) := by decide +kernel
theorem dX6_greatest_1 : decode cX6_greatest 1 = .ok (.invokevirtual 125, 3) := by decide +kernel
theorem dX6_greatest_4 : decode cX6_greatest 4 = .ok (.ifCond .ne 6, 3) := by decide +kernel
theorem dX6_greatest_7 : decode cX6_greatest 7 = .ok (.bipush (-3), 2) := by decide +kernel
theorem dX6_greatest_9 : decode cX6_greatest 9 = .ok (.ireturn, 1) := by decide +kernel
theorem dX6_greatest_10 : decode cX6_greatest 10 = .ok (.aload_n 0, 1) := by decide +kernel
theorem dX6_greatest_11 : decode cX6_greatest 11 = .ok (.aload_n 0, 1) := by decide +kernel
theorem dX6_greatest_12 : decode cX6_greatest 12 = .ok (.getfield 76, 3) := by decide +kernel
theorem dX6_greatest_15 : decode cX6_greatest 15 = .ok (.iconst (-1), 1) := by decide +kernel
theorem dX6_greatest_16 : decode cX6_greatest 16 = .ok (.invokevirtual 131, 3) := by decide +kernel
theorem dX6_greatest_19 : decode cX6_greatest 19 = .ok (.iconst 0, 1) := by decide +kernel
theorem dX6_greatest_20 : decode cX6_greatest 20 = .ok (.istore_n 1, 1) := by decide +kernel
theorem dX6_greatest_21 : decode cX6_greatest 21 = .ok (.iconst 1, 1) := by decide +kernel
theorem dX6_greatest_22 : decode cX6_greatest 22 = .ok (.istore_n 2, 1) := by decide +kernel
theorem dX6_greatest_23 : decode cX6_greatest 23 = .ok (.iload_n 2, 1) := by decide +kernel
theorem dX6_greatest_24 : decode cX6_greatest 24 = .ok (.aload_n 0, 1) := by decide +kernel
theorem dX6_greatest_25 : decode cX6_greatest 25 = .ok (.getfield 7, 3) := by decide +kernel
theorem dX6_greatest_28 : decode cX6_greatest 28 = .ok (.if_icmp .ge 37, 3) := by decide +kernel
theorem dX6_greatest_31 : decode cX6_greatest 31 = .ok (.aload_n 0, 1) := by decide +kernel
theorem dX6_greatest_32 : decode cX6_greatest 32 = .ok (.iload_n 2, 1) := by decide +kernel
theorem dX6_greatest_33 : decode cX6_greatest 33 = .ok (.aload_n 0, 1) := by decide +kernel
theorem dX6_greatest_34 : decode cX6_greatest 34 = .ok (.getfield 26, 3) := by decide +kernel
theorem dX6_greatest_37 : decode cX6_greatest 37 = .ok (.invokevirtual 115, 3) := by decide +kernel
theorem dX6_greatest_40 : decode cX6_greatest 40 = .ok (.aload_n 0, 1) := by decide +kernel
theorem dX6_greatest_41 : decode cX6_greatest 41 = .ok (.iload_n 1, 1) := by decide +kernel
theorem dX6_greatest_42 : decode cX6_greatest 42 = .ok (.aload_n 0, 1) := by decide +kernel
theorem dX6_greatest_43 : decode cX6_greatest 43 = .ok (.getfield 26, 3) := by decide +kernel
theorem dX6_greatest_46 : decode cX6_greatest 46 = .ok (.invokevirtual 115, 3) := by decide +kernel
theorem dX6_greatest_49 : decode cX6_greatest 49 = .ok (.lcmp, 1) := by decide +kernel
theorem dX6_greatest_50 : decode cX6_greatest 50 = .ok (.ifCond .le 7, 3) := by decide +kernel
theorem dX6_greatest_53 : decode cX6_greatest 53 = .ok (.iload_n 2, 1) := by decide +kernel
theorem dX6_greatest_54 : decode cX6_greatest 54 = .ok (.goto 4, 3) := by decide +kernel
theorem dX6_greatest_57 : decode cX6_greatest 57 = .ok (.iload_n 1, 1) := by decide +kernel
theorem dX6_greatest_58 : decode cX6_greatest 58 = .ok (.istore_n 1, 1) := by decide +kernel
theorem dX6_greatest_59 : decode cX6_greatest 59 = .ok (.iinc 2 1, 3) := by decide +kernel
theorem dX6_greatest_62 : decode cX6_greatest 62 = .ok (.goto (-39), 3) := by decide +kernel
theorem dX6_greatest_65 : decode cX6_greatest 65 = .ok (.iload_n 1, 1) := by decide +kernel
theorem dX6_greatest_66 : decode cX6_greatest 66 = .ok (.ireturn, 1) := by decide +kernel
theorem dX6_flow_0 : decode cX6_flow 0 = .ok (.iload_n 1, 1) := by decide +kernel
theorem dX6_flow_1 : decode cX6_flow 1 = .ok (.iconst 0, 1) := by decide +kernel
theorem dX6_flow_2 : decode cX6_flow 2 = .ok (.aload_n 0, 1) := by decide +kernel
theorem dX6_flow_3 : decode cX6_flow 3 = .ok (.getfield 73, 3) := by decide +kernel
theorem dX6_flow_6 : decode cX6_flow 6 = .ok (.iconst 1, 1) := by decide +kernel
theorem dX6_flow_7 : decode cX6_flow 7 = .ok (.isub, 1) := by decide +kernel
theorem dX6_flow_8 : decode cX6_flow 8 = .ok (.invokestatic 69, 3) := by decide +kernel
theorem dX6_flow_11 : decode cX6_flow 11 = .ok (.ifCond .eq 12, 3) := by decide +kernel
theorem dX6_flow_14 : decode cX6_flow 14 = .ok (.iload_n 2, 1) := by decide +kernel
theorem dX6_flow_15 : decode cX6_flow 15 = .ok (.iconst 0, 1) := by decide +kernel
theorem dX6_flow_16 : decode cX6_flow 16 = .ok (.iconst 1, 1) := by decide +kernel
theorem dX6_flow_17 : decode cX6_flow 17 = .ok (.invokestatic 69, 3) := by decide +kernel
theorem dX6_flow_20 : decode cX6_flow 20 = .ok (.ifCond .ne 7, 3) := by decide +kernel
theorem dX6_flow_23 : decode cX6_flow 23 = .ok (.ldc2_w 139, 3) := by decide +kernel
theorem dX6_flow_26 : decode cX6_flow 26 = .ok (.lreturn, 1) := by decide +kernel
theorem dX6_flow_27 : decode cX6_flow 27 = .ok (.aload_n 0, 1) := by decide +kernel
theorem dX6_flow_28 : decode cX6_flow 28 = .ok (.invokevirtual 125, 3) := by decide +kernel
theorem dX6_flow_31 : decode cX6_flow 31 = .ok (.ifCond .ne 7, 3) := by decide +kernel
theorem dX6_flow_34 : decode cX6_flow 34 = .ok (.ldc2_w 141, 3) := by decide +kernel
theorem dX6_flow_37 : decode cX6_flow 37 = .ok (.lreturn, 1) := by decide +kernel
theorem dX6_flow_38 : decode cX6_flow 38 = .ok (.aload_n 0, 1) := by decide +kernel
theorem dX6_flow_39 : decode cX6_flow 39 = .ok (.aload_n 0, 1) := by decide +kernel
theorem dX6_flow_40 : decode cX6_flow 40 = .ok (.getfield 76, 3) := by decide +kernel
theorem dX6_flow_43 : decode cX6_flow 43 = .ok (.iconst (-1), 1) := by decide +kernel
theorem dX6_flow_44 : decode cX6_flow 44 = .ok (.invokevirtual 131, 3) := by decide +kernel
theorem dX6_flow_47 : decode cX6_flow 47 = .ok (.aload_n 0, 1) := by decide +kernel
theorem dX6_flow_48 : decode cX6_flow 48 = .ok (.getfield 20, 3) := by decide +kernel
theorem dX6_flow_51 : decode cX6_flow 51 = .ok (.iload_n 1, 1) := by decide +kernel
theorem dX6_flow_52 : decode cX6_flow 52 = .ok (.iaload, 1) := by decide +kernel
theorem dX6_flow_53 : decode cX6_flow 53 = .ok (.i2l, 1) := by decide +kernel
theorem dX6_flow_54 : decode cX6_flow 54 = .ok (.aload_n 0, 1) := by decide +kernel
theorem dX6_flow_55 : decode cX6_flow 55 = .ok (.aload_n 0, 1) := by decide +kernel
theorem dX6_flow_56 : decode cX6_flow 56 = .ok (.getfield 13, 3) := by decide +kernel
theorem dX6_flow_59 : decode cX6_flow 59 = .ok (.iload_n 1, 1) := by decide +kernel
theorem dX6_flow_60 : decode cX6_flow 60 = .ok (.iaload, 1) := by decide +kernel
theorem dX6_flow_61 : decode cX6_flow 61 = .ok (.aload_n 0, 1) := by decide +kernel
theorem dX6_flow_62 : decode cX6_flow 62 = .ok (.getfield 26, 3) := by decide +kernel
theorem dX6_flow_65 : decode cX6_flow 65 = .ok (.invokevirtual 115, 3) := by decide +kernel
theorem dX6_flow_68 : decode cX6_flow 68 = .ok (.aload_n 0, 1) := by decide +kernel
theorem dX6_flow_69 : decode cX6_flow 69 = .ok (.aload_n 0, 1) := by decide +kernel
theorem dX6_flow_70 : decode cX6_flow 70 = .ok (.getfield 17, 3) := by decide +kernel
theorem dX6_flow_73 : decode cX6_flow 73 = .ok (.iload_n 1, 1) := by decide +kernel
theorem dX6_flow_74 : decode cX6_flow 74 = .ok (.iaload, 1) := by decide +kernel
theorem dX6_flow_75 : decode cX6_flow 75 = .ok (.aload_n 0, 1) := by decide +kernel
theorem dX6_flow_76 : decode cX6_flow 76 = .ok (.getfield 26, 3) := by decide +kernel
theorem dX6_flow_79 : decode cX6_flow 79 = .ok (.invokevirtual 115, 3) := by decide +kernel
theorem dX6_flow_82 : decode cX6_flow 82 = .ok (.lsub, 1) := by decide +kernel
theorem dX6_flow_83 : decode cX6_flow 83 = .ok (.lmul, 1) := by decide +kernel
theorem dX6_flow_84 : decode cX6_flow 84 = .ok (.aload_n 0, 1) := by decide +kernel
theorem dX6_flow_85 : decode cX6_flow 85 = .ok (.getfield 108, 3) := by decide +kernel
theorem dX6_flow_88 : decode cX6_flow 88 = .ok (.iload_n 2, 1) := by decide +kernel
theorem dX6_flow_89 : decode cX6_flow 89 = .ok (.invokestatic 135, 3) := by decide +kernel
theorem dX6_flow_92 : decode cX6_flow 92 = .ok (.lreturn, 1) := by decide +kernel
theorem dX6_resist_0 : decode cX6_resist 0 = .ok (.aload_n 0, 1) := by decide +kernel
theorem dX6_resist_1 : decode cX6_resist 1 = .ok (.iload_n 1, 1) := by decide +kernel
theorem dX6_resist_2 : decode cX6_resist 2 = .ok (.invokevirtual 85, 3) := by decide +kernel
theorem dX6_resist_5 : decode cX6_resist 5 = .ok (.ifCond .eq 20, 3) := by decide +kernel
theorem dX6_resist_8 : decode cX6_resist 8 = .ok (.aload_n 0, 1) := by decide +kernel
theorem dX6_resist_9 : decode cX6_resist 9 = .ok (.iload_n 2, 1) := by decide +kernel
theorem dX6_resist_10 : decode cX6_resist 10 = .ok (.invokevirtual 85, 3) := by decide +kernel
theorem dX6_resist_13 : decode cX6_resist 13 = .ok (.ifCond .eq 12, 3) := by decide +kernel
theorem dX6_resist_16 : decode cX6_resist 16 = .ok (.iload_n 3, 1) := by decide +kernel
theorem dX6_resist_17 : decode cX6_resist 17 = .ok (.iconst 0, 1) := by decide +kernel
theorem dX6_resist_18 : decode cX6_resist 18 = .ok (.iconst 1, 1) := by decide +kernel
theorem dX6_resist_19 : decode cX6_resist 19 = .ok (.invokestatic 69, 3) := by decide +kernel
theorem dX6_resist_22 : decode cX6_resist 22 = .ok (.ifCond .ne 7, 3) := by decide +kernel
theorem dX6_resist_25 : decode cX6_resist 25 = .ok (.ldc2_w 123, 3) := by decide +kernel
theorem dX6_resist_28 : decode cX6_resist 28 = .ok (.lreturn, 1) := by decide +kernel
theorem dX6_resist_29 : decode cX6_resist 29 = .ok (.aload_n 0, 1) := by decide +kernel
theorem dX6_resist_30 : decode cX6_resist 30 = .ok (.invokevirtual 125, 3) := by decide +kernel
theorem dX6_resist_33 : decode cX6_resist 33 = .ok (.ifCond .ne 7, 3) := by decide +kernel
theorem dX6_resist_36 : decode cX6_resist 36 = .ok (.ldc2_w 129, 3) := by decide +kernel
theorem dX6_resist_39 : decode cX6_resist 39 = .ok (.lreturn, 1) := by decide +kernel
theorem dX6_resist_40 : decode cX6_resist 40 = .ok (.aload_n 0, 1) := by decide +kernel
theorem dX6_resist_41 : decode cX6_resist 41 = .ok (.aload_n 0, 1) := by decide +kernel
theorem dX6_resist_42 : decode cX6_resist 42 = .ok (.getfield 76, 3) := by decide +kernel
theorem dX6_resist_45 : decode cX6_resist 45 = .ok (.iconst (-1), 1) := by decide +kernel
theorem dX6_resist_46 : decode cX6_resist 46 = .ok (.invokevirtual 131, 3) := by decide +kernel
theorem dX6_resist_49 : decode cX6_resist 49 = .ok (.aload_n 0, 1) := by decide +kernel
theorem dX6_resist_50 : decode cX6_resist 50 = .ok (.getfield 45, 3) := by decide +kernel
theorem dX6_resist_53 : decode cX6_resist 53 = .ok (.bipush 7, 2) := by decide +kernel
theorem dX6_resist_55 : decode cX6_resist 55 = .ok (.iload_n 1, 1) := by decide +kernel
theorem dX6_resist_56 : decode cX6_resist 56 = .ok (.imul, 1) := by decide +kernel
theorem dX6_resist_57 : decode cX6_resist 57 = .ok (.iload_n 2, 1) := by decide +kernel
theorem dX6_resist_58 : decode cX6_resist 58 = .ok (.iadd, 1) := by decide +kernel
theorem dX6_resist_59 : decode cX6_resist 59 = .ok (.laload, 1) := by decide +kernel
theorem dX6_resist_60 : decode cX6_resist 60 = .ok (.aload_n 0, 1) := by decide +kernel
theorem dX6_resist_61 : decode cX6_resist 61 = .ok (.getfield 108, 3) := by decide +kernel
theorem dX6_resist_64 : decode cX6_resist 64 = .ok (.iload_n 3, 1) := by decide +kernel
theorem dX6_resist_65 : decode cX6_resist 65 = .ok (.invokestatic 135, 3) := by decide +kernel
theorem dX6_resist_68 : decode cX6_resist 68 = .ok (.lreturn, 1) := by decide +kernel
theorem dX6_block_0 : decode cX6_block 0 = .ok (.aload_n 0, 1) := by decide +kernel
theorem dX6_block_1 : decode cX6_block 1 = .ok (.iload_n 1, 1) := by decide +kernel
theorem dX6_block_2 : decode cX6_block 2 = .ok (.invokevirtual 85, 3) := by decide +kernel
theorem dX6_block_5 : decode cX6_block 5 = .ok (.ifCond .eq 13, 3) := by decide +kernel
theorem dX6_block_8 : decode cX6_block 8 = .ok (.iload_n 2, 1) := by decide +kernel
theorem dX6_block_9 : decode cX6_block 9 = .ok (.iconst 1, 1) := by decide +kernel
theorem dX6_block_10 : decode cX6_block 10 = .ok (.bipush 20, 2) := by decide +kernel
theorem dX6_block_12 : decode cX6_block 12 = .ok (.invokestatic 69, 3) := by decide +kernel
theorem dX6_block_15 : decode cX6_block 15 = .ok (.ifCond .ne 6, 3) := by decide +kernel
theorem dX6_block_18 : decode cX6_block 18 = .ok (.bipush (-2), 2) := by decide +kernel
theorem dX6_block_20 : decode cX6_block 20 = .ok (.ireturn, 1) := by decide +kernel
theorem dX6_block_21 : decode cX6_block 21 = .ok (.aload_n 0, 1) := by decide +kernel
theorem dX6_block_22 : decode cX6_block 22 = .ok (.getfield 79, 3) := by decide +kernel
theorem dX6_block_25 : decode cX6_block 25 = .ok (.bipush 6, 2) := by decide +kernel
theorem dX6_block_27 : decode cX6_block 27 = .ok (.if_icmp .ne 6, 3) := by decide +kernel
theorem dX6_block_30 : decode cX6_block 30 = .ok (.bipush (-4), 2) := by decide +kernel
theorem dX6_block_32 : decode cX6_block 32 = .ok (.ireturn, 1) := by decide +kernel
theorem dX6_block_33 : decode cX6_block 33 = .ok (.aload_n 0, 1) := by decide +kernel
theorem dX6_block_34 : decode cX6_block 34 = .ok (.getfield 29, 3) := by decide +kernel
theorem dX6_block_37 : decode cX6_block 37 = .ok (.aload_n 0, 1) := by decide +kernel
theorem dX6_block_38 : decode cX6_block 38 = .ok (.getfield 79, 3) := by decide +kernel
theorem dX6_block_41 : decode cX6_block 41 = .ok (.iload_n 1, 1) := by decide +kernel
theorem dX6_block_42 : decode cX6_block 42 = .ok (.iastore, 1) := by decide +kernel
theorem dX6_block_43 : decode cX6_block 43 = .ok (.aload_n 0, 1) := by decide +kernel
theorem dX6_block_44 : decode cX6_block 44 = .ok (.getfield 32, 3) := by decide +kernel
theorem dX6_block_47 : decode cX6_block 47 = .ok (.aload_n 0, 1) := by decide +kernel
theorem dX6_block_48 : decode cX6_block 48 = .ok (.getfield 79, 3) := by decide +kernel
theorem dX6_block_51 : decode cX6_block 51 = .ok (.iload_n 2, 1) := by decide +kernel
theorem dX6_block_52 : decode cX6_block 52 = .ok (.iastore, 1) := by decide +kernel
theorem dX6_block_53 : decode cX6_block 53 = .ok (.aload_n 0, 1) := by decide +kernel
theorem dX6_block_54 : decode cX6_block 54 = .ok (.dup, 1) := by decide +kernel
theorem dX6_block_55 : decode cX6_block 55 = .ok (.getfield 79, 3) := by decide +kernel
theorem dX6_block_58 : decode cX6_block 58 = .ok (.iconst 1, 1) := by decide +kernel
theorem dX6_block_59 : decode cX6_block 59 = .ok (.iadd, 1) := by decide +kernel
theorem dX6_block_60 : decode cX6_block 60 = .ok (.putfield 79, 3) := by decide +kernel
theorem dX6_block_63 : decode cX6_block 63 = .ok (.aload_n 0, 1) := by decide +kernel
theorem dX6_block_64 : decode cX6_block 64 = .ok (.getfield 79, 3) := by decide +kernel
theorem dX6_block_67 : decode cX6_block 67 = .ok (.iconst 1, 1) := by decide +kernel
theorem dX6_block_68 : decode cX6_block 68 = .ok (.isub, 1) := by decide +kernel
theorem dX6_block_69 : decode cX6_block 69 = .ok (.ireturn, 1) := by decide +kernel
theorem dX6_budget_0 : decode cX6_budget 0 = .ok (.iload_n 1, 1) := by decide +kernel
theorem dX6_budget_1 : decode cX6_budget 1 = .ok (.iconst 0, 1) := by decide +kernel
theorem dX6_budget_2 : decode cX6_budget 2 = .ok (.bipush 100, 2) := by decide +kernel
theorem dX6_budget_4 : decode cX6_budget 4 = .ok (.invokestatic 69, 3) := by decide +kernel
theorem dX6_budget_7 : decode cX6_budget 7 = .ok (.ifCond .ne 6, 3) := by decide +kernel
theorem dX6_budget_10 : decode cX6_budget 10 = .ok (.bipush (-2), 2) := by decide +kernel
theorem dX6_budget_12 : decode cX6_budget 12 = .ok (.ireturn, 1) := by decide +kernel
theorem dX6_budget_13 : decode cX6_budget 13 = .ok (.aload_n 0, 1) := by decide +kernel
theorem dX6_budget_14 : decode cX6_budget 14 = .ok (.getfield 82, 3) := by decide +kernel
theorem dX6_budget_17 : decode cX6_budget 17 = .ok (.istore_n 2, 1) := by decide +kernel
theorem dX6_budget_18 : decode cX6_budget 18 = .ok (.aload_n 0, 1) := by decide +kernel
theorem dX6_budget_19 : decode cX6_budget 19 = .ok (.iload_n 1, 1) := by decide +kernel
theorem dX6_budget_20 : decode cX6_budget 20 = .ok (.putfield 82, 3) := by decide +kernel
theorem dX6_budget_23 : decode cX6_budget 23 = .ok (.iload_n 2, 1) := by decide +kernel
theorem dX6_budget_24 : decode cX6_budget 24 = .ok (.ireturn, 1) := by decide +kernel
theorem dX6_findWorst_0 : decode cX6_findWorst 0 = .ok (.aload_n 0, 1) := by decide +kernel
theorem dX6_findWorst_1 : decode cX6_findWorst 1 = .ok (.getfield 82, 3) := by decide +kernel
theorem dX6_findWorst_4 : decode cX6_findWorst 4 = .ok (.istore_n 2, 1) := by decide +kernel
theorem dX6_findWorst_5 : decode cX6_findWorst 5 = .ok (.lconst 0, 1) := by decide +kernel
theorem dX6_findWorst_6 : decode cX6_findWorst 6 = .ok (.lstore_n 3, 1) := by decide +kernel
theorem dX6_findWorst_7 : decode cX6_findWorst 7 = .ok (.iconst 0, 1) := by decide +kernel
theorem dX6_findWorst_8 : decode cX6_findWorst 8 = .ok (.istore 5, 2) := by decide +kernel
theorem dX6_findWorst_10 : decode cX6_findWorst 10 = .ok (.iload 5, 2) := by decide +kernel
theorem dX6_findWorst_12 : decode cX6_findWorst 12 = .ok (.aload_n 0, 1) := by decide +kernel
theorem dX6_findWorst_13 : decode cX6_findWorst 13 = .ok (.getfield 79, 3) := by decide +kernel
theorem dX6_findWorst_16 : decode cX6_findWorst 16 = .ok (.if_icmp .ge 17, 3) := by decide +kernel
theorem dX6_findWorst_19 : decode cX6_findWorst 19 = .ok (.aload_n 0, 1) := by decide +kernel
theorem dX6_findWorst_20 : decode cX6_findWorst 20 = .ok (.getfield 48, 3) := by decide +kernel
theorem dX6_findWorst_23 : decode cX6_findWorst 23 = .ok (.iload 5, 2) := by decide +kernel
theorem dX6_findWorst_25 : decode cX6_findWorst 25 = .ok (.iconst (-1), 1) := by decide +kernel
theorem dX6_findWorst_26 : decode cX6_findWorst 26 = .ok (.iastore, 1) := by decide +kernel
theorem dX6_findWorst_27 : decode cX6_findWorst 27 = .ok (.iinc 5 1, 3) := by decide +kernel
theorem dX6_findWorst_30 : decode cX6_findWorst 30 = .ok (.goto (-20), 3) := by decide +kernel
theorem dX6_findWorst_33 : decode cX6_findWorst 33 = .ok (.iconst 0, 1) := by decide +kernel
theorem dX6_findWorst_34 : decode cX6_findWorst 34 = .ok (.istore 5, 2) := by decide +kernel
theorem dX6_findWorst_36 : decode cX6_findWorst 36 = .ok (.iload 5, 2) := by decide +kernel
theorem dX6_findWorst_38 : decode cX6_findWorst 38 = .ok (.aload_n 0, 1) := by decide +kernel
theorem dX6_findWorst_39 : decode cX6_findWorst 39 = .ok (.getfield 79, 3) := by decide +kernel
theorem dX6_findWorst_42 : decode cX6_findWorst 42 = .ok (.if_icmp .ge 157, 3) := by decide +kernel
theorem dX6_findWorst_45 : decode cX6_findWorst 45 = .ok (.iconst (-1), 1) := by decide +kernel
theorem dX6_findWorst_46 : decode cX6_findWorst 46 = .ok (.istore 6, 2) := by decide +kernel
theorem dX6_findWorst_48 : decode cX6_findWorst 48 = .ok (.iconst 0, 1) := by decide +kernel
theorem dX6_findWorst_49 : decode cX6_findWorst 49 = .ok (.istore 7, 2) := by decide +kernel
theorem dX6_findWorst_51 : decode cX6_findWorst 51 = .ok (.iload 7, 2) := by decide +kernel
theorem dX6_findWorst_53 : decode cX6_findWorst 53 = .ok (.aload_n 0, 1) := by decide +kernel
theorem dX6_findWorst_54 : decode cX6_findWorst 54 = .ok (.getfield 79, 3) := by decide +kernel
theorem dX6_findWorst_57 : decode cX6_findWorst 57 = .ok (.if_icmp .ge 68, 3) := by decide +kernel
theorem dX6_findWorst_60 : decode cX6_findWorst 60 = .ok (.aload_n 0, 1) := by decide +kernel
theorem dX6_findWorst_61 : decode cX6_findWorst 61 = .ok (.getfield 48, 3) := by decide +kernel
theorem dX6_findWorst_64 : decode cX6_findWorst 64 = .ok (.iload 7, 2) := by decide +kernel
theorem dX6_findWorst_66 : decode cX6_findWorst 66 = .ok (.iaload, 1) := by decide +kernel
theorem dX6_findWorst_67 : decode cX6_findWorst 67 = .ok (.iconst (-1), 1) := by decide +kernel
theorem dX6_findWorst_68 : decode cX6_findWorst 68 = .ok (.if_icmp .ne 51, 3) := by decide +kernel
theorem dX6_findWorst_71 : decode cX6_findWorst 71 = .ok (.iload 6, 2) := by decide +kernel
theorem dX6_findWorst_73 : decode cX6_findWorst 73 = .ok (.iconst (-1), 1) := by decide +kernel
theorem dX6_findWorst_74 : decode cX6_findWorst 74 = .ok (.if_icmp .eq 41, 3) := by decide +kernel
theorem dX6_findWorst_77 : decode cX6_findWorst 77 = .ok (.aload_n 0, 1) := by decide +kernel
theorem dX6_findWorst_78 : decode cX6_findWorst 78 = .ok (.getfield 45, 3) := by decide +kernel
theorem dX6_findWorst_81 : decode cX6_findWorst 81 = .ok (.bipush 7, 2) := by decide +kernel
theorem dX6_findWorst_83 : decode cX6_findWorst 83 = .ok (.iload_n 1, 1) := by decide +kernel
theorem dX6_findWorst_84 : decode cX6_findWorst 84 = .ok (.imul, 1) := by decide +kernel
theorem dX6_findWorst_85 : decode cX6_findWorst 85 = .ok (.aload_n 0, 1) := by decide +kernel
theorem dX6_findWorst_86 : decode cX6_findWorst 86 = .ok (.getfield 29, 3) := by decide +kernel
theorem dX6_findWorst_89 : decode cX6_findWorst 89 = .ok (.iload 7, 2) := by decide +kernel
theorem dX6_findWorst_91 : decode cX6_findWorst 91 = .ok (.iaload, 1) := by decide +kernel
theorem dX6_findWorst_92 : decode cX6_findWorst 92 = .ok (.iadd, 1) := by decide +kernel
theorem dX6_findWorst_93 : decode cX6_findWorst 93 = .ok (.laload, 1) := by decide +kernel
theorem dX6_findWorst_94 : decode cX6_findWorst 94 = .ok (.aload_n 0, 1) := by decide +kernel
theorem dX6_findWorst_95 : decode cX6_findWorst 95 = .ok (.getfield 45, 3) := by decide +kernel
theorem dX6_findWorst_98 : decode cX6_findWorst 98 = .ok (.bipush 7, 2) := by decide +kernel
theorem dX6_findWorst_100 : decode cX6_findWorst 100 = .ok (.iload_n 1, 1) := by decide +kernel
theorem dX6_findWorst_101 : decode cX6_findWorst 101 = .ok (.imul, 1) := by decide +kernel
theorem dX6_findWorst_102 : decode cX6_findWorst 102 = .ok (.aload_n 0, 1) := by decide +kernel
theorem dX6_findWorst_103 : decode cX6_findWorst 103 = .ok (.getfield 29, 3) := by decide +kernel
theorem dX6_findWorst_106 : decode cX6_findWorst 106 = .ok (.iload 6, 2) := by decide +kernel
theorem dX6_findWorst_108 : decode cX6_findWorst 108 = .ok (.iaload, 1) := by decide +kernel
theorem dX6_findWorst_109 : decode cX6_findWorst 109 = .ok (.iadd, 1) := by decide +kernel
theorem dX6_findWorst_110 : decode cX6_findWorst 110 = .ok (.laload, 1) := by decide +kernel
theorem dX6_findWorst_111 : decode cX6_findWorst 111 = .ok (.lcmp, 1) := by decide +kernel
theorem dX6_findWorst_112 : decode cX6_findWorst 112 = .ok (.ifCond .le 7, 3) := by decide +kernel
theorem dX6_findWorst_115 : decode cX6_findWorst 115 = .ok (.iload 7, 2) := by decide +kernel
theorem dX6_findWorst_117 : decode cX6_findWorst 117 = .ok (.istore 6, 2) := by decide +kernel
theorem dX6_findWorst_119 : decode cX6_findWorst 119 = .ok (.iinc 7 1, 3) := by decide +kernel
theorem dX6_findWorst_122 : decode cX6_findWorst 122 = .ok (.goto (-71), 3) := by decide +kernel
theorem dX6_findWorst_125 : decode cX6_findWorst 125 = .ok (.aload_n 0, 1) := by decide +kernel
theorem dX6_findWorst_126 : decode cX6_findWorst 126 = .ok (.getfield 48, 3) := by decide +kernel
theorem dX6_findWorst_129 : decode cX6_findWorst 129 = .ok (.iload 6, 2) := by decide +kernel
theorem dX6_findWorst_131 : decode cX6_findWorst 131 = .ok (.aload_n 0, 1) := by decide +kernel
theorem dX6_findWorst_132 : decode cX6_findWorst 132 = .ok (.getfield 32, 3) := by decide +kernel
theorem dX6_findWorst_135 : decode cX6_findWorst 135 = .ok (.iload 6, 2) := by decide +kernel
theorem dX6_findWorst_137 : decode cX6_findWorst 137 = .ok (.iaload, 1) := by decide +kernel
theorem dX6_findWorst_138 : decode cX6_findWorst 138 = .ok (.iload_n 2, 1) := by decide +kernel
theorem dX6_findWorst_139 : decode cX6_findWorst 139 = .ok (.if_icmp .ge 13, 3) := by decide +kernel
theorem dX6_findWorst_142 : decode cX6_findWorst 142 = .ok (.aload_n 0, 1) := by decide +kernel
theorem dX6_findWorst_143 : decode cX6_findWorst 143 = .ok (.getfield 32, 3) := by decide +kernel
theorem dX6_findWorst_146 : decode cX6_findWorst 146 = .ok (.iload 6, 2) := by decide +kernel
theorem dX6_findWorst_148 : decode cX6_findWorst 148 = .ok (.iaload, 1) := by decide +kernel
theorem dX6_findWorst_149 : decode cX6_findWorst 149 = .ok (.goto 4, 3) := by decide +kernel
theorem dX6_findWorst_152 : decode cX6_findWorst 152 = .ok (.iload_n 2, 1) := by decide +kernel
theorem dX6_findWorst_153 : decode cX6_findWorst 153 = .ok (.iastore, 1) := by decide +kernel
theorem dX6_findWorst_154 : decode cX6_findWorst 154 = .ok (.iload_n 2, 1) := by decide +kernel
theorem dX6_findWorst_155 : decode cX6_findWorst 155 = .ok (.aload_n 0, 1) := by decide +kernel
theorem dX6_findWorst_156 : decode cX6_findWorst 156 = .ok (.getfield 48, 3) := by decide +kernel
theorem dX6_findWorst_159 : decode cX6_findWorst 159 = .ok (.iload 6, 2) := by decide +kernel
theorem dX6_findWorst_161 : decode cX6_findWorst 161 = .ok (.iaload, 1) := by decide +kernel
theorem dX6_findWorst_162 : decode cX6_findWorst 162 = .ok (.isub, 1) := by decide +kernel
theorem dX6_findWorst_163 : decode cX6_findWorst 163 = .ok (.istore_n 2, 1) := by decide +kernel
theorem dX6_findWorst_164 : decode cX6_findWorst 164 = .ok (.lload_n 3, 1) := by decide +kernel
theorem dX6_findWorst_165 : decode cX6_findWorst 165 = .ok (.aload_n 0, 1) := by decide +kernel
theorem dX6_findWorst_166 : decode cX6_findWorst 166 = .ok (.getfield 48, 3) := by decide +kernel
theorem dX6_findWorst_169 : decode cX6_findWorst 169 = .ok (.iload 6, 2) := by decide +kernel
theorem dX6_findWorst_171 : decode cX6_findWorst 171 = .ok (.iaload, 1) := by decide +kernel
theorem dX6_findWorst_172 : decode cX6_findWorst 172 = .ok (.i2l, 1) := by decide +kernel
theorem dX6_findWorst_173 : decode cX6_findWorst 173 = .ok (.aload_n 0, 1) := by decide +kernel
theorem dX6_findWorst_174 : decode cX6_findWorst 174 = .ok (.getfield 45, 3) := by decide +kernel
theorem dX6_findWorst_177 : decode cX6_findWorst 177 = .ok (.bipush 7, 2) := by decide +kernel
theorem dX6_findWorst_179 : decode cX6_findWorst 179 = .ok (.iload_n 1, 1) := by decide +kernel
theorem dX6_findWorst_180 : decode cX6_findWorst 180 = .ok (.imul, 1) := by decide +kernel
theorem dX6_findWorst_181 : decode cX6_findWorst 181 = .ok (.aload_n 0, 1) := by decide +kernel
theorem dX6_findWorst_182 : decode cX6_findWorst 182 = .ok (.getfield 29, 3) := by decide +kernel
theorem dX6_findWorst_185 : decode cX6_findWorst 185 = .ok (.iload 6, 2) := by decide +kernel
theorem dX6_findWorst_187 : decode cX6_findWorst 187 = .ok (.iaload, 1) := by decide +kernel
theorem dX6_findWorst_188 : decode cX6_findWorst 188 = .ok (.iadd, 1) := by decide +kernel
theorem dX6_findWorst_189 : decode cX6_findWorst 189 = .ok (.laload, 1) := by decide +kernel
theorem dX6_findWorst_190 : decode cX6_findWorst 190 = .ok (.lmul, 1) := by decide +kernel
theorem dX6_findWorst_191 : decode cX6_findWorst 191 = .ok (.ladd, 1) := by decide +kernel
theorem dX6_findWorst_192 : decode cX6_findWorst 192 = .ok (.lstore_n 3, 1) := by decide +kernel
theorem dX6_findWorst_193 : decode cX6_findWorst 193 = .ok (.iinc 5 1, 3) := by decide +kernel
theorem dX6_findWorst_196 : decode cX6_findWorst 196 = .ok (.goto (-160), 3) := by decide +kernel
theorem dX6_findWorst_199 : decode cX6_findWorst 199 = .ok (.lload_n 3, 1) := by decide +kernel
theorem dX6_findWorst_200 : decode cX6_findWorst 200 = .ok (.lreturn, 1) := by decide +kernel
theorem dX6_worst_0 : decode cX6_worst 0 = .ok (.aload_n 0, 1) := by decide +kernel
theorem dX6_worst_1 : decode cX6_worst 1 = .ok (.iload_n 1, 1) := by decide +kernel
theorem dX6_worst_2 : decode cX6_worst 2 = .ok (.invokevirtual 85, 3) := by decide +kernel
theorem dX6_worst_5 : decode cX6_worst 5 = .ok (.ifCond .eq 17, 3) := by decide +kernel
theorem dX6_worst_8 : decode cX6_worst 8 = .ok (.iload_n 2, 1) := by decide +kernel
theorem dX6_worst_9 : decode cX6_worst 9 = .ok (.iconst 0, 1) := by decide +kernel
theorem dX6_worst_10 : decode cX6_worst 10 = .ok (.aload_n 0, 1) := by decide +kernel
theorem dX6_worst_11 : decode cX6_worst 11 = .ok (.getfield 79, 3) := by decide +kernel
theorem dX6_worst_14 : decode cX6_worst 14 = .ok (.iconst 1, 1) := by decide +kernel
theorem dX6_worst_15 : decode cX6_worst 15 = .ok (.isub, 1) := by decide +kernel
theorem dX6_worst_16 : decode cX6_worst 16 = .ok (.invokestatic 69, 3) := by decide +kernel
theorem dX6_worst_19 : decode cX6_worst 19 = .ok (.ifCond .ne 6, 3) := by decide +kernel
theorem dX6_worst_22 : decode cX6_worst 22 = .ok (.bipush (-2), 2) := by decide +kernel
theorem dX6_worst_24 : decode cX6_worst 24 = .ok (.ireturn, 1) := by decide +kernel
theorem dX6_worst_25 : decode cX6_worst 25 = .ok (.aload_n 0, 1) := by decide +kernel
theorem dX6_worst_26 : decode cX6_worst 26 = .ok (.invokevirtual 125, 3) := by decide +kernel
theorem dX6_worst_29 : decode cX6_worst 29 = .ok (.ifCond .ne 6, 3) := by decide +kernel
theorem dX6_worst_32 : decode cX6_worst 32 = .ok (.bipush (-3), 2) := by decide +kernel
theorem dX6_worst_34 : decode cX6_worst 34 = .ok (.ireturn, 1) := by decide +kernel
theorem dX6_worst_35 : decode cX6_worst 35 = .ok (.aload_n 0, 1) := by decide +kernel
theorem dX6_worst_36 : decode cX6_worst 36 = .ok (.aload_n 0, 1) := by decide +kernel
theorem dX6_worst_37 : decode cX6_worst 37 = .ok (.getfield 76, 3) := by decide +kernel
theorem dX6_worst_40 : decode cX6_worst 40 = .ok (.iconst (-1), 1) := by decide +kernel
theorem dX6_worst_41 : decode cX6_worst 41 = .ok (.invokevirtual 131, 3) := by decide +kernel
theorem dX6_worst_44 : decode cX6_worst 44 = .ok (.aload_n 0, 1) := by decide +kernel
theorem dX6_worst_45 : decode cX6_worst 45 = .ok (.iload_n 1, 1) := by decide +kernel
theorem dX6_worst_46 : decode cX6_worst 46 = .ok (.invokevirtual 143, 3) := by decide +kernel
theorem dX6_worst_49 : decode cX6_worst 49 = .ok (.lstore_n 3, 1) := by decide +kernel
theorem dX6_worst_50 : decode cX6_worst 50 = .ok (.aload_n 0, 1) := by decide +kernel
theorem dX6_worst_51 : decode cX6_worst 51 = .ok (.getfield 48, 3) := by decide +kernel
theorem dX6_worst_54 : decode cX6_worst 54 = .ok (.iload_n 2, 1) := by decide +kernel
theorem dX6_worst_55 : decode cX6_worst 55 = .ok (.iaload, 1) := by decide +kernel
theorem dX6_worst_56 : decode cX6_worst 56 = .ok (.ireturn, 1) := by decide +kernel
theorem dX6_worstFall_0 : decode cX6_worstFall 0 = .ok (.aload_n 0, 1) := by decide +kernel
theorem dX6_worstFall_1 : decode cX6_worstFall 1 = .ok (.iload_n 1, 1) := by decide +kernel
theorem dX6_worstFall_2 : decode cX6_worstFall 2 = .ok (.invokevirtual 85, 3) := by decide +kernel
theorem dX6_worstFall_5 : decode cX6_worstFall 5 = .ok (.ifCond .eq 12, 3) := by decide +kernel
theorem dX6_worstFall_8 : decode cX6_worstFall 8 = .ok (.iload_n 2, 1) := by decide +kernel
theorem dX6_worstFall_9 : decode cX6_worstFall 9 = .ok (.iconst 0, 1) := by decide +kernel
theorem dX6_worstFall_10 : decode cX6_worstFall 10 = .ok (.iconst 1, 1) := by decide +kernel
theorem dX6_worstFall_11 : decode cX6_worstFall 11 = .ok (.invokestatic 69, 3) := by decide +kernel
theorem dX6_worstFall_14 : decode cX6_worstFall 14 = .ok (.ifCond .ne 7, 3) := by decide +kernel
theorem dX6_worstFall_17 : decode cX6_worstFall 17 = .ok (.ldc2_w 123, 3) := by decide +kernel
theorem dX6_worstFall_20 : decode cX6_worstFall 20 = .ok (.lreturn, 1) := by decide +kernel
theorem dX6_worstFall_21 : decode cX6_worstFall 21 = .ok (.aload_n 0, 1) := by decide +kernel
theorem dX6_worstFall_22 : decode cX6_worstFall 22 = .ok (.invokevirtual 125, 3) := by decide +kernel
theorem dX6_worstFall_25 : decode cX6_worstFall 25 = .ok (.ifCond .ne 7, 3) := by decide +kernel
theorem dX6_worstFall_28 : decode cX6_worstFall 28 = .ok (.ldc2_w 129, 3) := by decide +kernel
theorem dX6_worstFall_31 : decode cX6_worstFall 31 = .ok (.lreturn, 1) := by decide +kernel
theorem dX6_worstFall_32 : decode cX6_worstFall 32 = .ok (.aload_n 0, 1) := by decide +kernel
theorem dX6_worstFall_33 : decode cX6_worstFall 33 = .ok (.aload_n 0, 1) := by decide +kernel
theorem dX6_worstFall_34 : decode cX6_worstFall 34 = .ok (.getfield 76, 3) := by decide +kernel
theorem dX6_worstFall_37 : decode cX6_worstFall 37 = .ok (.iconst (-1), 1) := by decide +kernel
theorem dX6_worstFall_38 : decode cX6_worstFall 38 = .ok (.invokevirtual 131, 3) := by decide +kernel
theorem dX6_worstFall_41 : decode cX6_worstFall 41 = .ok (.aload_n 0, 1) := by decide +kernel
theorem dX6_worstFall_42 : decode cX6_worstFall 42 = .ok (.iload_n 1, 1) := by decide +kernel
theorem dX6_worstFall_43 : decode cX6_worstFall 43 = .ok (.invokevirtual 143, 3) := by decide +kernel
theorem dX6_worstFall_46 : decode cX6_worstFall 46 = .ok (.aload_n 0, 1) := by decide +kernel
theorem dX6_worstFall_47 : decode cX6_worstFall 47 = .ok (.getfield 108, 3) := by decide +kernel
theorem dX6_worstFall_50 : decode cX6_worstFall 50 = .ok (.iload_n 2, 1) := by decide +kernel
theorem dX6_worstFall_51 : decode cX6_worstFall 51 = .ok (.invokestatic 135, 3) := by decide +kernel
theorem dX6_worstFall_54 : decode cX6_worstFall 54 = .ok (.lreturn, 1) := by decide +kernel
theorem dX6_worstKnot_0 : decode cX6_worstKnot 0 = .ok (.aload_n 0, 1) := by decide +kernel
theorem dX6_worstKnot_1 : decode cX6_worstKnot 1 = .ok (.invokevirtual 125, 3) := by decide +kernel
theorem dX6_worstKnot_4 : decode cX6_worstKnot 4 = .ok (.ifCond .ne 6, 3) := by decide +kernel
theorem dX6_worstKnot_7 : decode cX6_worstKnot 7 = .ok (.bipush (-3), 2) := by decide +kernel
theorem dX6_worstKnot_9 : decode cX6_worstKnot 9 = .ok (.ireturn, 1) := by decide +kernel
theorem dX6_worstKnot_10 : decode cX6_worstKnot 10 = .ok (.aload_n 0, 1) := by decide +kernel
theorem dX6_worstKnot_11 : decode cX6_worstKnot 11 = .ok (.aload_n 0, 1) := by decide +kernel
theorem dX6_worstKnot_12 : decode cX6_worstKnot 12 = .ok (.getfield 76, 3) := by decide +kernel
theorem dX6_worstKnot_15 : decode cX6_worstKnot 15 = .ok (.iconst (-1), 1) := by decide +kernel
theorem dX6_worstKnot_16 : decode cX6_worstKnot 16 = .ok (.invokevirtual 131, 3) := by decide +kernel
theorem dX6_worstKnot_19 : decode cX6_worstKnot 19 = .ok (.iconst 0, 1) := by decide +kernel
theorem dX6_worstKnot_20 : decode cX6_worstKnot 20 = .ok (.istore_n 1, 1) := by decide +kernel
theorem dX6_worstKnot_21 : decode cX6_worstKnot 21 = .ok (.iconst 1, 1) := by decide +kernel
theorem dX6_worstKnot_22 : decode cX6_worstKnot 22 = .ok (.istore_n 2, 1) := by decide +kernel
theorem dX6_worstKnot_23 : decode cX6_worstKnot 23 = .ok (.iload_n 2, 1) := by decide +kernel
theorem dX6_worstKnot_24 : decode cX6_worstKnot 24 = .ok (.aload_n 0, 1) := by decide +kernel
theorem dX6_worstKnot_25 : decode cX6_worstKnot 25 = .ok (.getfield 7, 3) := by decide +kernel
theorem dX6_worstKnot_28 : decode cX6_worstKnot 28 = .ok (.if_icmp .ge 29, 3) := by decide +kernel
theorem dX6_worstKnot_31 : decode cX6_worstKnot 31 = .ok (.aload_n 0, 1) := by decide +kernel
theorem dX6_worstKnot_32 : decode cX6_worstKnot 32 = .ok (.iload_n 2, 1) := by decide +kernel
theorem dX6_worstKnot_33 : decode cX6_worstKnot 33 = .ok (.invokevirtual 143, 3) := by decide +kernel
theorem dX6_worstKnot_36 : decode cX6_worstKnot 36 = .ok (.aload_n 0, 1) := by decide +kernel
theorem dX6_worstKnot_37 : decode cX6_worstKnot 37 = .ok (.iload_n 1, 1) := by decide +kernel
theorem dX6_worstKnot_38 : decode cX6_worstKnot 38 = .ok (.invokevirtual 143, 3) := by decide +kernel
theorem dX6_worstKnot_41 : decode cX6_worstKnot 41 = .ok (.lcmp, 1) := by decide +kernel
theorem dX6_worstKnot_42 : decode cX6_worstKnot 42 = .ok (.ifCond .le 7, 3) := by decide +kernel
theorem dX6_worstKnot_45 : decode cX6_worstKnot 45 = .ok (.iload_n 2, 1) := by decide +kernel
theorem dX6_worstKnot_46 : decode cX6_worstKnot 46 = .ok (.goto 4, 3) := by decide +kernel
theorem dX6_worstKnot_49 : decode cX6_worstKnot 49 = .ok (.iload_n 1, 1) := by decide +kernel
theorem dX6_worstKnot_50 : decode cX6_worstKnot 50 = .ok (.istore_n 1, 1) := by decide +kernel
theorem dX6_worstKnot_51 : decode cX6_worstKnot 51 = .ok (.iinc 2 1, 3) := by decide +kernel
theorem dX6_worstKnot_54 : decode cX6_worstKnot 54 = .ok (.goto (-31), 3) := by decide +kernel
theorem dX6_worstKnot_57 : decode cX6_worstKnot 57 = .ok (.iload_n 1, 1) := by decide +kernel
theorem dX6_worstKnot_58 : decode cX6_worstKnot 58 = .ok (.ireturn, 1) := by decide +kernel
theorem dX6_open_0 : decode cX6_open 0 = .ok (.iload_n 1, 1) := by decide +kernel
theorem dX6_open_1 : decode cX6_open 1 = .ok (.iconst 0, 1) := by decide +kernel
theorem dX6_open_2 : decode cX6_open 2 = .ok (.aload_n 0, 1) := by decide +kernel
theorem dX6_open_3 : decode cX6_open 3 = .ok (.getfield 73, 3) := by decide +kernel
theorem dX6_open_6 : decode cX6_open 6 = .ok (.iconst 1, 1) := by decide +kernel
theorem dX6_open_7 : decode cX6_open 7 = .ok (.isub, 1) := by decide +kernel
theorem dX6_open_8 : decode cX6_open 8 = .ok (.invokestatic 69, 3) := by decide +kernel
theorem dX6_open_11 : decode cX6_open 11 = .ok (.ifCond .eq 12, 3) := by decide +kernel
theorem dX6_open_14 : decode cX6_open 14 = .ok (.iload_n 2, 1) := by decide +kernel
theorem dX6_open_15 : decode cX6_open 15 = .ok (.iconst 0, 1) := by decide +kernel
theorem dX6_open_16 : decode cX6_open 16 = .ok (.iconst 1, 1) := by decide +kernel
theorem dX6_open_17 : decode cX6_open 17 = .ok (.invokestatic 69, 3) := by decide +kernel
theorem dX6_open_20 : decode cX6_open 20 = .ok (.ifCond .ne 7, 3) := by decide +kernel
theorem dX6_open_23 : decode cX6_open 23 = .ok (.ldc2_w 123, 3) := by decide +kernel
theorem dX6_open_26 : decode cX6_open 26 = .ok (.lreturn, 1) := by decide +kernel
theorem dX6_open_27 : decode cX6_open 27 = .ok (.aload_n 0, 1) := by decide +kernel
theorem dX6_open_28 : decode cX6_open 28 = .ok (.getfield 76, 3) := by decide +kernel
theorem dX6_open_31 : decode cX6_open 31 = .ok (.ifCond .eq 15, 3) := by decide +kernel
theorem dX6_open_34 : decode cX6_open 34 = .ok (.aload_n 0, 1) := by decide +kernel
theorem dX6_open_35 : decode cX6_open 35 = .ok (.aload_n 0, 1) := by decide +kernel
theorem dX6_open_36 : decode cX6_open 36 = .ok (.getfield 76, 3) := by decide +kernel
theorem dX6_open_39 : decode cX6_open 39 = .ok (.iload_n 1, 1) := by decide +kernel
theorem dX6_open_40 : decode cX6_open 40 = .ok (.invokevirtual 89, 3) := by decide +kernel
theorem dX6_open_43 : decode cX6_open 43 = .ok (.ifCond .ne 7, 3) := by decide +kernel
theorem dX6_open_46 : decode cX6_open 46 = .ok (.ldc2_w 129, 3) := by decide +kernel
theorem dX6_open_49 : decode cX6_open 49 = .ok (.lreturn, 1) := by decide +kernel
theorem dX6_open_50 : decode cX6_open 50 = .ok (.aload_n 0, 1) := by decide +kernel
theorem dX6_open_51 : decode cX6_open 51 = .ok (.aload_n 0, 1) := by decide +kernel
theorem dX6_open_52 : decode cX6_open 52 = .ok (.getfield 76, 3) := by decide +kernel
theorem dX6_open_55 : decode cX6_open 55 = .ok (.iload_n 1, 1) := by decide +kernel
theorem dX6_open_56 : decode cX6_open 56 = .ok (.invokevirtual 131, 3) := by decide +kernel
theorem dX6_open_59 : decode cX6_open 59 = .ok (.aload_n 0, 1) := by decide +kernel
theorem dX6_open_60 : decode cX6_open 60 = .ok (.aload_n 0, 1) := by decide +kernel
theorem dX6_open_61 : decode cX6_open 61 = .ok (.getfield 26, 3) := by decide +kernel
theorem dX6_open_64 : decode cX6_open 64 = .ok (.invokevirtual 147, 3) := by decide +kernel
theorem dX6_open_67 : decode cX6_open 67 = .ok (.aload_n 0, 1) := by decide +kernel
theorem dX6_open_68 : decode cX6_open 68 = .ok (.getfield 108, 3) := by decide +kernel
theorem dX6_open_71 : decode cX6_open 71 = .ok (.iload_n 2, 1) := by decide +kernel
theorem dX6_open_72 : decode cX6_open 72 = .ok (.invokestatic 135, 3) := by decide +kernel
theorem dX6_open_75 : decode cX6_open 75 = .ok (.lreturn, 1) := by decide +kernel
theorem dX6_weakest_0 : decode cX6_weakest 0 = .ok (.iconst (-1), 1) := by decide +kernel
theorem dX6_weakest_1 : decode cX6_weakest 1 = .ok (.istore_n 1, 1) := by decide +kernel
theorem dX6_weakest_2 : decode cX6_weakest 2 = .ok (.lconst 0, 1) := by decide +kernel
theorem dX6_weakest_3 : decode cX6_weakest 3 = .ok (.lstore_n 2, 1) := by decide +kernel
theorem dX6_weakest_4 : decode cX6_weakest 4 = .ok (.lconst 1, 1) := by decide +kernel
theorem dX6_weakest_5 : decode cX6_weakest 5 = .ok (.lstore 4, 2) := by decide +kernel
theorem dX6_weakest_7 : decode cX6_weakest 7 = .ok (.iconst 0, 1) := by decide +kernel
theorem dX6_weakest_8 : decode cX6_weakest 8 = .ok (.istore 6, 2) := by decide +kernel
theorem dX6_weakest_10 : decode cX6_weakest 10 = .ok (.iload 6, 2) := by decide +kernel
theorem dX6_weakest_12 : decode cX6_weakest 12 = .ok (.aload_n 0, 1) := by decide +kernel
theorem dX6_weakest_13 : decode cX6_weakest 13 = .ok (.getfield 73, 3) := by decide +kernel
theorem dX6_weakest_16 : decode cX6_weakest 16 = .ok (.if_icmp .ge 32, 3) := by decide +kernel
theorem dX6_weakest_19 : decode cX6_weakest 19 = .ok (.aload_n 0, 1) := by decide +kernel
theorem dX6_weakest_20 : decode cX6_weakest 20 = .ok (.getfield 76, 3) := by decide +kernel
theorem dX6_weakest_23 : decode cX6_weakest 23 = .ok (.ifCond .eq 16, 3) := by decide +kernel
theorem dX6_weakest_26 : decode cX6_weakest 26 = .ok (.aload_n 0, 1) := by decide +kernel
theorem dX6_weakest_27 : decode cX6_weakest 27 = .ok (.aload_n 0, 1) := by decide +kernel
theorem dX6_weakest_28 : decode cX6_weakest 28 = .ok (.getfield 76, 3) := by decide +kernel
theorem dX6_weakest_31 : decode cX6_weakest 31 = .ok (.iload 6, 2) := by decide +kernel
theorem dX6_weakest_33 : decode cX6_weakest 33 = .ok (.invokevirtual 89, 3) := by decide +kernel
theorem dX6_weakest_36 : decode cX6_weakest 36 = .ok (.ifCond .ne 6, 3) := by decide +kernel
theorem dX6_weakest_39 : decode cX6_weakest 39 = .ok (.iload 6, 2) := by decide +kernel
theorem dX6_weakest_41 : decode cX6_weakest 41 = .ok (.ireturn, 1) := by decide +kernel
theorem dX6_weakest_42 : decode cX6_weakest 42 = .ok (.iinc 6 1, 3) := by decide +kernel
theorem dX6_weakest_45 : decode cX6_weakest 45 = .ok (.goto (-35), 3) := by decide +kernel
theorem dX6_weakest_48 : decode cX6_weakest 48 = .ok (.iconst 0, 1) := by decide +kernel
theorem dX6_weakest_49 : decode cX6_weakest 49 = .ok (.istore 6, 2) := by decide +kernel
theorem dX6_weakest_51 : decode cX6_weakest 51 = .ok (.iload 6, 2) := by decide +kernel
theorem dX6_weakest_53 : decode cX6_weakest 53 = .ok (.aload_n 0, 1) := by decide +kernel
theorem dX6_weakest_54 : decode cX6_weakest 54 = .ok (.getfield 73, 3) := by decide +kernel
theorem dX6_weakest_57 : decode cX6_weakest 57 = .ok (.if_icmp .ge 61, 3) := by decide +kernel
theorem dX6_weakest_60 : decode cX6_weakest 60 = .ok (.aload_n 0, 1) := by decide +kernel
theorem dX6_weakest_61 : decode cX6_weakest 61 = .ok (.aload_n 0, 1) := by decide +kernel
theorem dX6_weakest_62 : decode cX6_weakest 62 = .ok (.getfield 76, 3) := by decide +kernel
theorem dX6_weakest_65 : decode cX6_weakest 65 = .ok (.iload 6, 2) := by decide +kernel
theorem dX6_weakest_67 : decode cX6_weakest 67 = .ok (.invokevirtual 131, 3) := by decide +kernel
theorem dX6_weakest_70 : decode cX6_weakest 70 = .ok (.aload_n 0, 1) := by decide +kernel
theorem dX6_weakest_71 : decode cX6_weakest 71 = .ok (.aload_n 0, 1) := by decide +kernel
theorem dX6_weakest_72 : decode cX6_weakest 72 = .ok (.getfield 26, 3) := by decide +kernel
theorem dX6_weakest_75 : decode cX6_weakest 75 = .ok (.invokevirtual 147, 3) := by decide +kernel
theorem dX6_weakest_78 : decode cX6_weakest 78 = .ok (.lstore 7, 2) := by decide +kernel
theorem dX6_weakest_80 : decode cX6_weakest 80 = .ok (.iload_n 1, 1) := by decide +kernel
theorem dX6_weakest_81 : decode cX6_weakest 81 = .ok (.iconst (-1), 1) := by decide +kernel
theorem dX6_weakest_82 : decode cX6_weakest 82 = .ok (.if_icmp .eq 18, 3) := by decide +kernel
theorem dX6_weakest_85 : decode cX6_weakest 85 = .ok (.lload 7, 2) := by decide +kernel
theorem dX6_weakest_87 : decode cX6_weakest 87 = .ok (.lload 4, 2) := by decide +kernel
theorem dX6_weakest_89 : decode cX6_weakest 89 = .ok (.lmul, 1) := by decide +kernel
theorem dX6_weakest_90 : decode cX6_weakest 90 = .ok (.lload_n 2, 1) := by decide +kernel
theorem dX6_weakest_91 : decode cX6_weakest 91 = .ok (.aload_n 0, 1) := by decide +kernel
theorem dX6_weakest_92 : decode cX6_weakest 92 = .ok (.getfield 108, 3) := by decide +kernel
theorem dX6_weakest_95 : decode cX6_weakest 95 = .ok (.lmul, 1) := by decide +kernel
theorem dX6_weakest_96 : decode cX6_weakest 96 = .ok (.lcmp, 1) := by decide +kernel
theorem dX6_weakest_97 : decode cX6_weakest 97 = .ok (.ifCond .le 15, 3) := by decide +kernel
theorem dX6_weakest_100 : decode cX6_weakest 100 = .ok (.iload 6, 2) := by decide +kernel
theorem dX6_weakest_102 : decode cX6_weakest 102 = .ok (.istore_n 1, 1) := by decide +kernel
theorem dX6_weakest_103 : decode cX6_weakest 103 = .ok (.lload 7, 2) := by decide +kernel
theorem dX6_weakest_105 : decode cX6_weakest 105 = .ok (.lstore_n 2, 1) := by decide +kernel
theorem dX6_weakest_106 : decode cX6_weakest 106 = .ok (.aload_n 0, 1) := by decide +kernel
theorem dX6_weakest_107 : decode cX6_weakest 107 = .ok (.getfield 108, 3) := by decide +kernel
theorem dX6_weakest_110 : decode cX6_weakest 110 = .ok (.lstore 4, 2) := by decide +kernel
theorem dX6_weakest_112 : decode cX6_weakest 112 = .ok (.iinc 6 1, 3) := by decide +kernel
theorem dX6_weakest_115 : decode cX6_weakest 115 = .ok (.goto (-64), 3) := by decide +kernel
theorem dX6_weakest_118 : decode cX6_weakest 118 = .ok (.iload_n 1, 1) := by decide +kernel
theorem dX6_weakest_119 : decode cX6_weakest 119 = .ok (.ireturn, 1) := by decide +kernel
theorem dX6_shrunk_0 : decode cX6_shrunk 0 = .ok (.iload_n 1, 1) := by decide +kernel
theorem dX6_shrunk_1 : decode cX6_shrunk 1 = .ok (.iconst 1, 1) := by decide +kernel
theorem dX6_shrunk_2 : decode cX6_shrunk 2 = .ok (.iconst 1, 1) := by decide +kernel
theorem dX6_shrunk_3 : decode cX6_shrunk 3 = .ok (.aload_n 0, 1) := by decide +kernel
theorem dX6_shrunk_4 : decode cX6_shrunk 4 = .ok (.getfield 7, 3) := by decide +kernel
theorem dX6_shrunk_7 : decode cX6_shrunk 7 = .ok (.ishl, 1) := by decide +kernel
theorem dX6_shrunk_8 : decode cX6_shrunk 8 = .ok (.iconst 1, 1) := by decide +kernel
theorem dX6_shrunk_9 : decode cX6_shrunk 9 = .ok (.isub, 1) := by decide +kernel
theorem dX6_shrunk_10 : decode cX6_shrunk 10 = .ok (.invokestatic 69, 3) := by decide +kernel
theorem dX6_shrunk_13 : decode cX6_shrunk 13 = .ok (.ifCond .eq 50, 3) := by decide +kernel
theorem dX6_shrunk_16 : decode cX6_shrunk 16 = .ok (.aload_n 0, 1) := by decide +kernel
theorem dX6_shrunk_17 : decode cX6_shrunk 17 = .ok (.iload_n 2, 1) := by decide +kernel
theorem dX6_shrunk_18 : decode cX6_shrunk 18 = .ok (.invokevirtual 85, 3) := by decide +kernel
theorem dX6_shrunk_21 : decode cX6_shrunk 21 = .ok (.ifCond .eq 42, 3) := by decide +kernel
theorem dX6_shrunk_24 : decode cX6_shrunk 24 = .ok (.aload_n 0, 1) := by decide +kernel
theorem dX6_shrunk_25 : decode cX6_shrunk 25 = .ok (.iload_n 3, 1) := by decide +kernel
theorem dX6_shrunk_26 : decode cX6_shrunk 26 = .ok (.invokevirtual 85, 3) := by decide +kernel
theorem dX6_shrunk_29 : decode cX6_shrunk 29 = .ok (.ifCond .eq 34, 3) := by decide +kernel
theorem dX6_shrunk_32 : decode cX6_shrunk 32 = .ok (.iload_n 2, 1) := by decide +kernel
theorem dX6_shrunk_33 : decode cX6_shrunk 33 = .ok (.iload_n 3, 1) := by decide +kernel
theorem dX6_shrunk_34 : decode cX6_shrunk 34 = .ok (.if_icmp .eq 29, 3) := by decide +kernel
theorem dX6_shrunk_37 : decode cX6_shrunk 37 = .ok (.iload_n 1, 1) := by decide +kernel
theorem dX6_shrunk_38 : decode cX6_shrunk 38 = .ok (.iload_n 2, 1) := by decide +kernel
theorem dX6_shrunk_39 : decode cX6_shrunk 39 = .ok (.ishr, 1) := by decide +kernel
theorem dX6_shrunk_40 : decode cX6_shrunk 40 = .ok (.iconst 1, 1) := by decide +kernel
theorem dX6_shrunk_41 : decode cX6_shrunk 41 = .ok (.iand, 1) := by decide +kernel
theorem dX6_shrunk_42 : decode cX6_shrunk 42 = .ok (.ifCond .eq 21, 3) := by decide +kernel
theorem dX6_shrunk_45 : decode cX6_shrunk 45 = .ok (.iload_n 1, 1) := by decide +kernel
theorem dX6_shrunk_46 : decode cX6_shrunk 46 = .ok (.iload_n 3, 1) := by decide +kernel
theorem dX6_shrunk_47 : decode cX6_shrunk 47 = .ok (.ishr, 1) := by decide +kernel
theorem dX6_shrunk_48 : decode cX6_shrunk 48 = .ok (.iconst 1, 1) := by decide +kernel
theorem dX6_shrunk_49 : decode cX6_shrunk 49 = .ok (.iand, 1) := by decide +kernel
theorem dX6_shrunk_50 : decode cX6_shrunk 50 = .ok (.ifCond .eq 13, 3) := by decide +kernel
theorem dX6_shrunk_53 : decode cX6_shrunk 53 = .ok (.iload 4, 2) := by decide +kernel
theorem dX6_shrunk_55 : decode cX6_shrunk 55 = .ok (.iconst 0, 1) := by decide +kernel
theorem dX6_shrunk_56 : decode cX6_shrunk 56 = .ok (.iconst 1, 1) := by decide +kernel
theorem dX6_shrunk_57 : decode cX6_shrunk 57 = .ok (.invokestatic 69, 3) := by decide +kernel
theorem dX6_shrunk_60 : decode cX6_shrunk 60 = .ok (.ifCond .ne 7, 3) := by decide +kernel
theorem dX6_shrunk_63 : decode cX6_shrunk 63 = .ok (.ldc2_w 123, 3) := by decide +kernel
theorem dX6_shrunk_66 : decode cX6_shrunk 66 = .ok (.lreturn, 1) := by decide +kernel
theorem dX6_shrunk_67 : decode cX6_shrunk 67 = .ok (.iload_n 1, 1) := by decide +kernel
theorem dX6_shrunk_68 : decode cX6_shrunk 68 = .ok (.aload_n 0, 1) := by decide +kernel
theorem dX6_shrunk_69 : decode cX6_shrunk 69 = .ok (.getfield 76, 3) := by decide +kernel
theorem dX6_shrunk_72 : decode cX6_shrunk 72 = .ok (.iand, 1) := by decide +kernel
theorem dX6_shrunk_73 : decode cX6_shrunk 73 = .ok (.aload_n 0, 1) := by decide +kernel
theorem dX6_shrunk_74 : decode cX6_shrunk 74 = .ok (.getfield 76, 3) := by decide +kernel
theorem dX6_shrunk_77 : decode cX6_shrunk 77 = .ok (.if_icmp .ne 12, 3) := by decide +kernel
theorem dX6_shrunk_80 : decode cX6_shrunk 80 = .ok (.aload_n 0, 1) := by decide +kernel
theorem dX6_shrunk_81 : decode cX6_shrunk 81 = .ok (.iload_n 1, 1) := by decide +kernel
theorem dX6_shrunk_82 : decode cX6_shrunk 82 = .ok (.iconst (-1), 1) := by decide +kernel
theorem dX6_shrunk_83 : decode cX6_shrunk 83 = .ok (.invokevirtual 89, 3) := by decide +kernel
theorem dX6_shrunk_86 : decode cX6_shrunk 86 = .ok (.ifCond .ne 7, 3) := by decide +kernel
theorem dX6_shrunk_89 : decode cX6_shrunk 89 = .ok (.ldc2_w 129, 3) := by decide +kernel
theorem dX6_shrunk_92 : decode cX6_shrunk 92 = .ok (.lreturn, 1) := by decide +kernel
theorem dX6_shrunk_93 : decode cX6_shrunk 93 = .ok (.aload_n 0, 1) := by decide +kernel
theorem dX6_shrunk_94 : decode cX6_shrunk 94 = .ok (.iload_n 1, 1) := by decide +kernel
theorem dX6_shrunk_95 : decode cX6_shrunk 95 = .ok (.iload_n 2, 1) := by decide +kernel
theorem dX6_shrunk_96 : decode cX6_shrunk 96 = .ok (.iload_n 3, 1) := by decide +kernel
theorem dX6_shrunk_97 : decode cX6_shrunk 97 = .ok (.iconst (-1), 1) := by decide +kernel
theorem dX6_shrunk_98 : decode cX6_shrunk 98 = .ok (.invokevirtual 104, 3) := by decide +kernel
theorem dX6_shrunk_101 : decode cX6_shrunk 101 = .ok (.lneg, 1) := by decide +kernel
theorem dX6_shrunk_102 : decode cX6_shrunk 102 = .ok (.lstore 5, 2) := by decide +kernel
theorem dX6_shrunk_104 : decode cX6_shrunk 104 = .ok (.lload 5, 2) := by decide +kernel
theorem dX6_shrunk_106 : decode cX6_shrunk 106 = .ok (.aload_n 0, 1) := by decide +kernel
theorem dX6_shrunk_107 : decode cX6_shrunk 107 = .ok (.iload_n 1, 1) := by decide +kernel
theorem dX6_shrunk_108 : decode cX6_shrunk 108 = .ok (.iconst (-1), 1) := by decide +kernel
theorem dX6_shrunk_109 : decode cX6_shrunk 109 = .ok (.iconst (-1), 1) := by decide +kernel
theorem dX6_shrunk_110 : decode cX6_shrunk 110 = .ok (.iconst (-1), 1) := by decide +kernel
theorem dX6_shrunk_111 : decode cX6_shrunk 111 = .ok (.invokevirtual 104, 3) := by decide +kernel
theorem dX6_shrunk_114 : decode cX6_shrunk 114 = .ok (.iload 4, 2) := by decide +kernel
theorem dX6_shrunk_116 : decode cX6_shrunk 116 = .ok (.invokestatic 135, 3) := by decide +kernel
theorem dX6_shrunk_119 : decode cX6_shrunk 119 = .ok (.lreturn, 1) := by decide +kernel
theorem dX6_bits_0 : decode cX6_bits 0 = .ok (.iconst 0, 1) := by decide +kernel
theorem dX6_bits_1 : decode cX6_bits 1 = .ok (.istore_n 1, 1) := by decide +kernel
theorem dX6_bits_2 : decode cX6_bits 2 = .ok (.iconst 0, 1) := by decide +kernel
theorem dX6_bits_3 : decode cX6_bits 3 = .ok (.istore_n 2, 1) := by decide +kernel
theorem dX6_bits_4 : decode cX6_bits 4 = .ok (.iload_n 2, 1) := by decide +kernel
theorem dX6_bits_5 : decode cX6_bits 5 = .ok (.bipush 7, 2) := by decide +kernel
theorem dX6_bits_7 : decode cX6_bits 7 = .ok (.if_icmp .ge 17, 3) := by decide +kernel
theorem dX6_bits_10 : decode cX6_bits 10 = .ok (.iload_n 1, 1) := by decide +kernel
theorem dX6_bits_11 : decode cX6_bits 11 = .ok (.iload_n 0, 1) := by decide +kernel
theorem dX6_bits_12 : decode cX6_bits 12 = .ok (.iload_n 2, 1) := by decide +kernel
theorem dX6_bits_13 : decode cX6_bits 13 = .ok (.ishr, 1) := by decide +kernel
theorem dX6_bits_14 : decode cX6_bits 14 = .ok (.iconst 1, 1) := by decide +kernel
theorem dX6_bits_15 : decode cX6_bits 15 = .ok (.iand, 1) := by decide +kernel
theorem dX6_bits_16 : decode cX6_bits 16 = .ok (.iadd, 1) := by decide +kernel
theorem dX6_bits_17 : decode cX6_bits 17 = .ok (.istore_n 1, 1) := by decide +kernel
theorem dX6_bits_18 : decode cX6_bits 18 = .ok (.iinc 2 1, 3) := by decide +kernel
theorem dX6_bits_21 : decode cX6_bits 21 = .ok (.goto (-17), 3) := by decide +kernel
theorem dX6_bits_24 : decode cX6_bits 24 = .ok (.iload_n 1, 1) := by decide +kernel
theorem dX6_bits_25 : decode cX6_bits 25 = .ok (.ireturn, 1) := by decide +kernel
theorem dX6_pads_0 : decode cX6_pads 0 = .ok (.iload_n 1, 1) := by decide +kernel
theorem dX6_pads_1 : decode cX6_pads 1 = .ok (.iconst 1, 1) := by decide +kernel
theorem dX6_pads_2 : decode cX6_pads 2 = .ok (.iconst 3, 1) := by decide +kernel
theorem dX6_pads_3 : decode cX6_pads 3 = .ok (.invokestatic 69, 3) := by decide +kernel
theorem dX6_pads_6 : decode cX6_pads 6 = .ok (.ifCond .eq 11, 3) := by decide +kernel
theorem dX6_pads_9 : decode cX6_pads 9 = .ok (.iload_n 1, 1) := by decide +kernel
theorem dX6_pads_10 : decode cX6_pads 10 = .ok (.aload_n 0, 1) := by decide +kernel
theorem dX6_pads_11 : decode cX6_pads 11 = .ok (.getfield 7, 3) := by decide +kernel
theorem dX6_pads_14 : decode cX6_pads 14 = .ok (.if_icmp .le 6, 3) := by decide +kernel
theorem dX6_pads_17 : decode cX6_pads 17 = .ok (.bipush (-2), 2) := by decide +kernel
theorem dX6_pads_19 : decode cX6_pads 19 = .ok (.ireturn, 1) := by decide +kernel
theorem dX6_pads_20 : decode cX6_pads 20 = .ok (.iconst (-1), 1) := by decide +kernel
theorem dX6_pads_21 : decode cX6_pads 21 = .ok (.istore_n 2, 1) := by decide +kernel
theorem dX6_pads_22 : decode cX6_pads 22 = .ok (.lconst 0, 1) := by decide +kernel
theorem dX6_pads_23 : decode cX6_pads 23 = .ok (.lstore_n 3, 1) := by decide +kernel
theorem dX6_pads_24 : decode cX6_pads 24 = .ok (.lconst 1, 1) := by decide +kernel
theorem dX6_pads_25 : decode cX6_pads 25 = .ok (.lstore 5, 2) := by decide +kernel
theorem dX6_pads_27 : decode cX6_pads 27 = .ok (.iconst 1, 1) := by decide +kernel
theorem dX6_pads_28 : decode cX6_pads 28 = .ok (.istore 7, 2) := by decide +kernel
theorem dX6_pads_30 : decode cX6_pads 30 = .ok (.iload 7, 2) := by decide +kernel
theorem dX6_pads_32 : decode cX6_pads 32 = .ok (.iconst 1, 1) := by decide +kernel
theorem dX6_pads_33 : decode cX6_pads 33 = .ok (.aload_n 0, 1) := by decide +kernel
theorem dX6_pads_34 : decode cX6_pads 34 = .ok (.getfield 7, 3) := by decide +kernel
theorem dX6_pads_37 : decode cX6_pads 37 = .ok (.ishl, 1) := by decide +kernel
theorem dX6_pads_38 : decode cX6_pads 38 = .ok (.if_icmp .ge 77, 3) := by decide +kernel
theorem dX6_pads_41 : decode cX6_pads 41 = .ok (.iload 7, 2) := by decide +kernel
theorem dX6_pads_43 : decode cX6_pads 43 = .ok (.invokestatic 151, 3) := by decide +kernel
theorem dX6_pads_46 : decode cX6_pads 46 = .ok (.iload_n 1, 1) := by decide +kernel
theorem dX6_pads_47 : decode cX6_pads 47 = .ok (.if_icmp .ne 62, 3) := by decide +kernel
theorem dX6_pads_50 : decode cX6_pads 50 = .ok (.aload_n 0, 1) := by decide +kernel
theorem dX6_pads_51 : decode cX6_pads 51 = .ok (.iload 7, 2) := by decide +kernel
theorem dX6_pads_53 : decode cX6_pads 53 = .ok (.iconst (-1), 1) := by decide +kernel
theorem dX6_pads_54 : decode cX6_pads 54 = .ok (.invokevirtual 89, 3) := by decide +kernel
theorem dX6_pads_57 : decode cX6_pads 57 = .ok (.ifCond .eq 52, 3) := by decide +kernel
theorem dX6_pads_60 : decode cX6_pads 60 = .ok (.aload_n 0, 1) := by decide +kernel
theorem dX6_pads_61 : decode cX6_pads 61 = .ok (.iload 7, 2) := by decide +kernel
theorem dX6_pads_63 : decode cX6_pads 63 = .ok (.iconst (-1), 1) := by decide +kernel
theorem dX6_pads_64 : decode cX6_pads 64 = .ok (.invokevirtual 131, 3) := by decide +kernel
theorem dX6_pads_67 : decode cX6_pads 67 = .ok (.aload_n 0, 1) := by decide +kernel
theorem dX6_pads_68 : decode cX6_pads 68 = .ok (.aload_n 0, 1) := by decide +kernel
theorem dX6_pads_69 : decode cX6_pads 69 = .ok (.getfield 26, 3) := by decide +kernel
theorem dX6_pads_72 : decode cX6_pads 72 = .ok (.invokevirtual 147, 3) := by decide +kernel
theorem dX6_pads_75 : decode cX6_pads 75 = .ok (.lstore 8, 2) := by decide +kernel
theorem dX6_pads_77 : decode cX6_pads 77 = .ok (.iload_n 2, 1) := by decide +kernel
theorem dX6_pads_78 : decode cX6_pads 78 = .ok (.iconst (-1), 1) := by decide +kernel
theorem dX6_pads_79 : decode cX6_pads 79 = .ok (.if_icmp .eq 18, 3) := by decide +kernel
theorem dX6_pads_82 : decode cX6_pads 82 = .ok (.lload 8, 2) := by decide +kernel
theorem dX6_pads_84 : decode cX6_pads 84 = .ok (.lload 5, 2) := by decide +kernel
theorem dX6_pads_86 : decode cX6_pads 86 = .ok (.lmul, 1) := by decide +kernel
theorem dX6_pads_87 : decode cX6_pads 87 = .ok (.lload_n 3, 1) := by decide +kernel
theorem dX6_pads_88 : decode cX6_pads 88 = .ok (.aload_n 0, 1) := by decide +kernel
theorem dX6_pads_89 : decode cX6_pads 89 = .ok (.getfield 108, 3) := by decide +kernel
theorem dX6_pads_92 : decode cX6_pads 92 = .ok (.lmul, 1) := by decide +kernel
theorem dX6_pads_93 : decode cX6_pads 93 = .ok (.lcmp, 1) := by decide +kernel
theorem dX6_pads_94 : decode cX6_pads 94 = .ok (.ifCond .ge 15, 3) := by decide +kernel
theorem dX6_pads_97 : decode cX6_pads 97 = .ok (.iload 7, 2) := by decide +kernel
theorem dX6_pads_99 : decode cX6_pads 99 = .ok (.istore_n 2, 1) := by decide +kernel
theorem dX6_pads_100 : decode cX6_pads 100 = .ok (.lload 8, 2) := by decide +kernel
theorem dX6_pads_102 : decode cX6_pads 102 = .ok (.lstore_n 3, 1) := by decide +kernel
theorem dX6_pads_103 : decode cX6_pads 103 = .ok (.aload_n 0, 1) := by decide +kernel
theorem dX6_pads_104 : decode cX6_pads 104 = .ok (.getfield 108, 3) := by decide +kernel
theorem dX6_pads_107 : decode cX6_pads 107 = .ok (.lstore 5, 2) := by decide +kernel
theorem dX6_pads_109 : decode cX6_pads 109 = .ok (.iinc 7 1, 3) := by decide +kernel
theorem dX6_pads_112 : decode cX6_pads 112 = .ok (.goto (-82), 3) := by decide +kernel
theorem dX6_pads_115 : decode cX6_pads 115 = .ok (.iload_n 2, 1) := by decide +kernel
theorem dX6_pads_116 : decode cX6_pads 116 = .ok (.iconst (-1), 1) := by decide +kernel
theorem dX6_pads_117 : decode cX6_pads 117 = .ok (.if_icmp .ne 8, 3) := by decide +kernel
theorem dX6_pads_120 : decode cX6_pads 120 = .ok (.bipush (-3), 2) := by decide +kernel
theorem dX6_pads_122 : decode cX6_pads 122 = .ok (.goto 4, 3) := by decide +kernel
theorem dX6_pads_125 : decode cX6_pads 125 = .ok (.iload_n 2, 1) := by decide +kernel
theorem dX6_pads_126 : decode cX6_pads 126 = .ok (.ireturn, 1) := by decide +kernel
theorem dX6_isAhead_0 : decode cX6_isAhead 0 = .ok (.iconst 0, 1) := by decide +kernel
theorem dX6_isAhead_1 : decode cX6_isAhead 1 = .ok (.istore_n 2, 1) := by decide +kernel
theorem dX6_isAhead_2 : decode cX6_isAhead 2 = .ok (.iconst 0, 1) := by decide +kernel
theorem dX6_isAhead_3 : decode cX6_isAhead 3 = .ok (.istore_n 3, 1) := by decide +kernel
theorem dX6_isAhead_4 : decode cX6_isAhead 4 = .ok (.iload_n 3, 1) := by decide +kernel
theorem dX6_isAhead_5 : decode cX6_isAhead 5 = .ok (.aload_n 0, 1) := by decide +kernel
theorem dX6_isAhead_6 : decode cX6_isAhead 6 = .ok (.getfield 73, 3) := by decide +kernel
theorem dX6_isAhead_9 : decode cX6_isAhead 9 = .ok (.if_icmp .ge 18, 3) := by decide +kernel
theorem dX6_isAhead_12 : decode cX6_isAhead 12 = .ok (.iload_n 2, 1) := by decide +kernel
theorem dX6_isAhead_13 : decode cX6_isAhead 13 = .ok (.aload_n 0, 1) := by decide +kernel
theorem dX6_isAhead_14 : decode cX6_isAhead 14 = .ok (.getfield 57, 3) := by decide +kernel
theorem dX6_isAhead_17 : decode cX6_isAhead 17 = .ok (.iload_n 3, 1) := by decide +kernel
theorem dX6_isAhead_18 : decode cX6_isAhead 18 = .ok (.iaload, 1) := by decide +kernel
theorem dX6_isAhead_19 : decode cX6_isAhead 19 = .ok (.iadd, 1) := by decide +kernel
theorem dX6_isAhead_20 : decode cX6_isAhead 20 = .ok (.istore_n 2, 1) := by decide +kernel
theorem dX6_isAhead_21 : decode cX6_isAhead 21 = .ok (.iinc 3 1, 3) := by decide +kernel
theorem dX6_isAhead_24 : decode cX6_isAhead 24 = .ok (.goto (-20), 3) := by decide +kernel
theorem dX6_isAhead_27 : decode cX6_isAhead 27 = .ok (.iload_n 1, 1) := by decide +kernel
theorem dX6_isAhead_28 : decode cX6_isAhead 28 = .ok (.iload_n 2, 1) := by decide +kernel
theorem dX6_isAhead_29 : decode cX6_isAhead 29 = .ok (.if_icmp .eq 14, 3) := by decide +kernel
theorem dX6_isAhead_32 : decode cX6_isAhead 32 = .ok (.iload_n 1, 1) := by decide +kernel
theorem dX6_isAhead_33 : decode cX6_isAhead 33 = .ok (.iload_n 2, 1) := by decide +kernel
theorem dX6_isAhead_34 : decode cX6_isAhead 34 = .ok (.if_icmp .ge 7, 3) := by decide +kernel
theorem dX6_isAhead_37 : decode cX6_isAhead 37 = .ok (.iconst 1, 1) := by decide +kernel
theorem dX6_isAhead_38 : decode cX6_isAhead 38 = .ok (.goto 4, 3) := by decide +kernel
theorem dX6_isAhead_41 : decode cX6_isAhead 41 = .ok (.iconst 0, 1) := by decide +kernel
theorem dX6_isAhead_42 : decode cX6_isAhead 42 = .ok (.ireturn, 1) := by decide +kernel
theorem dX6_isAhead_43 : decode cX6_isAhead 43 = .ok (.iconst 0, 1) := by decide +kernel
theorem dX6_isAhead_44 : decode cX6_isAhead 44 = .ok (.istore_n 3, 1) := by decide +kernel
theorem dX6_isAhead_45 : decode cX6_isAhead 45 = .ok (.iload_n 3, 1) := by decide +kernel
theorem dX6_isAhead_46 : decode cX6_isAhead 46 = .ok (.aload_n 0, 1) := by decide +kernel
theorem dX6_isAhead_47 : decode cX6_isAhead 47 = .ok (.getfield 73, 3) := by decide +kernel
theorem dX6_isAhead_50 : decode cX6_isAhead 50 = .ok (.if_icmp .ge 45, 3) := by decide +kernel
theorem dX6_isAhead_53 : decode cX6_isAhead 53 = .ok (.aload_n 0, 1) := by decide +kernel
theorem dX6_isAhead_54 : decode cX6_isAhead 54 = .ok (.getfield 54, 3) := by decide +kernel
theorem dX6_isAhead_57 : decode cX6_isAhead 57 = .ok (.iload_n 3, 1) := by decide +kernel
theorem dX6_isAhead_58 : decode cX6_isAhead 58 = .ok (.iaload, 1) := by decide +kernel
theorem dX6_isAhead_59 : decode cX6_isAhead 59 = .ok (.aload_n 0, 1) := by decide +kernel
theorem dX6_isAhead_60 : decode cX6_isAhead 60 = .ok (.getfield 57, 3) := by decide +kernel
theorem dX6_isAhead_63 : decode cX6_isAhead 63 = .ok (.iload_n 3, 1) := by decide +kernel
theorem dX6_isAhead_64 : decode cX6_isAhead 64 = .ok (.iaload, 1) := by decide +kernel
theorem dX6_isAhead_65 : decode cX6_isAhead 65 = .ok (.if_icmp .eq 24, 3) := by decide +kernel
theorem dX6_isAhead_68 : decode cX6_isAhead 68 = .ok (.aload_n 0, 1) := by decide +kernel
theorem dX6_isAhead_69 : decode cX6_isAhead 69 = .ok (.getfield 54, 3) := by decide +kernel
theorem dX6_isAhead_72 : decode cX6_isAhead 72 = .ok (.iload_n 3, 1) := by decide +kernel
theorem dX6_isAhead_73 : decode cX6_isAhead 73 = .ok (.iaload, 1) := by decide +kernel
theorem dX6_isAhead_74 : decode cX6_isAhead 74 = .ok (.aload_n 0, 1) := by decide +kernel
theorem dX6_isAhead_75 : decode cX6_isAhead 75 = .ok (.getfield 57, 3) := by decide +kernel
theorem dX6_isAhead_78 : decode cX6_isAhead 78 = .ok (.iload_n 3, 1) := by decide +kernel
theorem dX6_isAhead_79 : decode cX6_isAhead 79 = .ok (.iaload, 1) := by decide +kernel
theorem dX6_isAhead_80 : decode cX6_isAhead 80 = .ok (.if_icmp .le 7, 3) := by decide +kernel
theorem dX6_isAhead_83 : decode cX6_isAhead 83 = .ok (.iconst 1, 1) := by decide +kernel
theorem dX6_isAhead_84 : decode cX6_isAhead 84 = .ok (.goto 4, 3) := by decide +kernel
theorem dX6_isAhead_87 : decode cX6_isAhead 87 = .ok (.iconst 0, 1) := by decide +kernel
theorem dX6_isAhead_88 : decode cX6_isAhead 88 = .ok (.ireturn, 1) := by decide +kernel
theorem dX6_isAhead_89 : decode cX6_isAhead 89 = .ok (.iinc 3 1, 3) := by decide +kernel
theorem dX6_isAhead_92 : decode cX6_isAhead 92 = .ok (.goto (-47), 3) := by decide +kernel
theorem dX6_isAhead_95 : decode cX6_isAhead 95 = .ok (.iconst 0, 1) := by decide +kernel
theorem dX6_isAhead_96 : decode cX6_isAhead 96 = .ok (.ireturn, 1) := by decide +kernel
theorem dX6_findWiden_0 : decode cX6_findWiden 0 = .ok (.iconst (-1), 1) := by decide +kernel
theorem dX6_findWiden_1 : decode cX6_findWiden 1 = .ok (.istore_n 3, 1) := by decide +kernel
theorem dX6_findWiden_2 : decode cX6_findWiden 2 = .ok (.aload_n 0, 1) := by decide +kernel
theorem dX6_findWiden_3 : decode cX6_findWiden 3 = .ok (.getfield 73, 3) := by decide +kernel
theorem dX6_findWiden_6 : decode cX6_findWiden 6 = .ok (.iconst 1, 1) := by decide +kernel
theorem dX6_findWiden_7 : decode cX6_findWiden 7 = .ok (.iadd, 1) := by decide +kernel
theorem dX6_findWiden_8 : decode cX6_findWiden 8 = .ok (.aload_n 0, 1) := by decide +kernel
theorem dX6_findWiden_9 : decode cX6_findWiden 9 = .ok (.getfield 73, 3) := by decide +kernel
theorem dX6_findWiden_12 : decode cX6_findWiden 12 = .ok (.iconst 1, 1) := by decide +kernel
theorem dX6_findWiden_13 : decode cX6_findWiden 13 = .ok (.iadd, 1) := by decide +kernel
theorem dX6_findWiden_14 : decode cX6_findWiden 14 = .ok (.imul, 1) := by decide +kernel
theorem dX6_findWiden_15 : decode cX6_findWiden 15 = .ok (.aload_n 0, 1) := by decide +kernel
theorem dX6_findWiden_16 : decode cX6_findWiden 16 = .ok (.getfield 73, 3) := by decide +kernel
theorem dX6_findWiden_19 : decode cX6_findWiden 19 = .ok (.iconst 1, 1) := by decide +kernel
theorem dX6_findWiden_20 : decode cX6_findWiden 20 = .ok (.iadd, 1) := by decide +kernel
theorem dX6_findWiden_21 : decode cX6_findWiden 21 = .ok (.imul, 1) := by decide +kernel
theorem dX6_findWiden_22 : decode cX6_findWiden 22 = .ok (.istore 4, 2) := by decide +kernel
theorem dX6_findWiden_24 : decode cX6_findWiden 24 = .ok (.iconst 0, 1) := by decide +kernel
theorem dX6_findWiden_25 : decode cX6_findWiden 25 = .ok (.istore 5, 2) := by decide +kernel
theorem dX6_findWiden_27 : decode cX6_findWiden 27 = .ok (.iload 5, 2) := by decide +kernel
theorem dX6_findWiden_29 : decode cX6_findWiden 29 = .ok (.iload 4, 2) := by decide +kernel
theorem dX6_findWiden_31 : decode cX6_findWiden 31 = .ok (.if_icmp .ge 296, 3) := by decide +kernel
theorem dX6_findWiden_34 : decode cX6_findWiden 34 = .ok (.iload 5, 2) := by decide +kernel
theorem dX6_findWiden_36 : decode cX6_findWiden 36 = .ok (.istore 6, 2) := by decide +kernel
theorem dX6_findWiden_38 : decode cX6_findWiden 38 = .ok (.iconst 0, 1) := by decide +kernel
theorem dX6_findWiden_39 : decode cX6_findWiden 39 = .ok (.istore 7, 2) := by decide +kernel
theorem dX6_findWiden_41 : decode cX6_findWiden 41 = .ok (.iconst 0, 1) := by decide +kernel
theorem dX6_findWiden_42 : decode cX6_findWiden 42 = .ok (.istore 8, 2) := by decide +kernel
theorem dX6_findWiden_44 : decode cX6_findWiden 44 = .ok (.iconst 1, 1) := by decide +kernel
theorem dX6_findWiden_45 : decode cX6_findWiden 45 = .ok (.istore 9, 2) := by decide +kernel
theorem dX6_findWiden_47 : decode cX6_findWiden 47 = .ok (.iconst 0, 1) := by decide +kernel
theorem dX6_findWiden_48 : decode cX6_findWiden 48 = .ok (.istore 10, 2) := by decide +kernel
theorem dX6_findWiden_50 : decode cX6_findWiden 50 = .ok (.iload 10, 2) := by decide +kernel
theorem dX6_findWiden_52 : decode cX6_findWiden 52 = .ok (.aload_n 0, 1) := by decide +kernel
theorem dX6_findWiden_53 : decode cX6_findWiden 53 = .ok (.getfield 73, 3) := by decide +kernel
theorem dX6_findWiden_56 : decode cX6_findWiden 56 = .ok (.if_icmp .ge 17, 3) := by decide +kernel
theorem dX6_findWiden_59 : decode cX6_findWiden 59 = .ok (.aload_n 0, 1) := by decide +kernel
theorem dX6_findWiden_60 : decode cX6_findWiden 60 = .ok (.getfield 54, 3) := by decide +kernel
theorem dX6_findWiden_63 : decode cX6_findWiden 63 = .ok (.iload 10, 2) := by decide +kernel
theorem dX6_findWiden_65 : decode cX6_findWiden 65 = .ok (.iconst 0, 1) := by decide +kernel
theorem dX6_findWiden_66 : decode cX6_findWiden 66 = .ok (.iastore, 1) := by decide +kernel
theorem dX6_findWiden_67 : decode cX6_findWiden 67 = .ok (.iinc 10 1, 3) := by decide +kernel
theorem dX6_findWiden_70 : decode cX6_findWiden 70 = .ok (.goto (-20), 3) := by decide +kernel
theorem dX6_findWiden_73 : decode cX6_findWiden 73 = .ok (.iconst 0, 1) := by decide +kernel
theorem dX6_findWiden_74 : decode cX6_findWiden 74 = .ok (.istore 10, 2) := by decide +kernel
theorem dX6_findWiden_76 : decode cX6_findWiden 76 = .ok (.iload 10, 2) := by decide +kernel
theorem dX6_findWiden_78 : decode cX6_findWiden 78 = .ok (.iconst 3, 1) := by decide +kernel
theorem dX6_findWiden_79 : decode cX6_findWiden 79 = .ok (.if_icmp .ge 162, 3) := by decide +kernel
theorem dX6_findWiden_82 : decode cX6_findWiden 82 = .ok (.aload_n 0, 1) := by decide +kernel
theorem dX6_findWiden_83 : decode cX6_findWiden 83 = .ok (.getfield 51, 3) := by decide +kernel
theorem dX6_findWiden_86 : decode cX6_findWiden 86 = .ok (.iload 10, 2) := by decide +kernel
theorem dX6_findWiden_88 : decode cX6_findWiden 88 = .ok (.iload 6, 2) := by decide +kernel
theorem dX6_findWiden_90 : decode cX6_findWiden 90 = .ok (.aload_n 0, 1) := by decide +kernel
theorem dX6_findWiden_91 : decode cX6_findWiden 91 = .ok (.getfield 73, 3) := by decide +kernel
theorem dX6_findWiden_94 : decode cX6_findWiden 94 = .ok (.iconst 1, 1) := by decide +kernel
theorem dX6_findWiden_95 : decode cX6_findWiden 95 = .ok (.iadd, 1) := by decide +kernel
theorem dX6_findWiden_96 : decode cX6_findWiden 96 = .ok (.irem, 1) := by decide +kernel
theorem dX6_findWiden_97 : decode cX6_findWiden 97 = .ok (.iconst 1, 1) := by decide +kernel
theorem dX6_findWiden_98 : decode cX6_findWiden 98 = .ok (.isub, 1) := by decide +kernel
theorem dX6_findWiden_99 : decode cX6_findWiden 99 = .ok (.iastore, 1) := by decide +kernel
theorem dX6_findWiden_100 : decode cX6_findWiden 100 = .ok (.iload 6, 2) := by decide +kernel
theorem dX6_findWiden_102 : decode cX6_findWiden 102 = .ok (.aload_n 0, 1) := by decide +kernel
theorem dX6_findWiden_103 : decode cX6_findWiden 103 = .ok (.getfield 73, 3) := by decide +kernel
theorem dX6_findWiden_106 : decode cX6_findWiden 106 = .ok (.iconst 1, 1) := by decide +kernel
theorem dX6_findWiden_107 : decode cX6_findWiden 107 = .ok (.iadd, 1) := by decide +kernel
theorem dX6_findWiden_108 : decode cX6_findWiden 108 = .ok (.idiv, 1) := by decide +kernel
theorem dX6_findWiden_109 : decode cX6_findWiden 109 = .ok (.istore 6, 2) := by decide +kernel
theorem dX6_findWiden_111 : decode cX6_findWiden 111 = .ok (.iload 9, 2) := by decide +kernel
theorem dX6_findWiden_113 : decode cX6_findWiden 113 = .ok (.ifCond .eq 31, 3) := by decide +kernel
theorem dX6_findWiden_116 : decode cX6_findWiden 116 = .ok (.iload 10, 2) := by decide +kernel
theorem dX6_findWiden_118 : decode cX6_findWiden 118 = .ok (.ifCond .eq 22, 3) := by decide +kernel
theorem dX6_findWiden_121 : decode cX6_findWiden 121 = .ok (.aload_n 0, 1) := by decide +kernel
theorem dX6_findWiden_122 : decode cX6_findWiden 122 = .ok (.getfield 51, 3) := by decide +kernel
theorem dX6_findWiden_125 : decode cX6_findWiden 125 = .ok (.iload 10, 2) := by decide +kernel
theorem dX6_findWiden_127 : decode cX6_findWiden 127 = .ok (.iaload, 1) := by decide +kernel
theorem dX6_findWiden_128 : decode cX6_findWiden 128 = .ok (.aload_n 0, 1) := by decide +kernel
theorem dX6_findWiden_129 : decode cX6_findWiden 129 = .ok (.getfield 51, 3) := by decide +kernel
theorem dX6_findWiden_132 : decode cX6_findWiden 132 = .ok (.iload 10, 2) := by decide +kernel
theorem dX6_findWiden_134 : decode cX6_findWiden 134 = .ok (.iconst 1, 1) := by decide +kernel
theorem dX6_findWiden_135 : decode cX6_findWiden 135 = .ok (.isub, 1) := by decide +kernel
theorem dX6_findWiden_136 : decode cX6_findWiden 136 = .ok (.iaload, 1) := by decide +kernel
theorem dX6_findWiden_137 : decode cX6_findWiden 137 = .ok (.if_icmp .lt 7, 3) := by decide +kernel
theorem dX6_findWiden_140 : decode cX6_findWiden 140 = .ok (.iconst 1, 1) := by decide +kernel
theorem dX6_findWiden_141 : decode cX6_findWiden 141 = .ok (.goto 4, 3) := by decide +kernel
theorem dX6_findWiden_144 : decode cX6_findWiden 144 = .ok (.iconst 0, 1) := by decide +kernel
theorem dX6_findWiden_145 : decode cX6_findWiden 145 = .ok (.istore 9, 2) := by decide +kernel
theorem dX6_findWiden_147 : decode cX6_findWiden 147 = .ok (.aload_n 0, 1) := by decide +kernel
theorem dX6_findWiden_148 : decode cX6_findWiden 148 = .ok (.getfield 51, 3) := by decide +kernel
theorem dX6_findWiden_151 : decode cX6_findWiden 151 = .ok (.iload 10, 2) := by decide +kernel
theorem dX6_findWiden_153 : decode cX6_findWiden 153 = .ok (.iaload, 1) := by decide +kernel
theorem dX6_findWiden_154 : decode cX6_findWiden 154 = .ok (.ifCond .lt 81, 3) := by decide +kernel
theorem dX6_findWiden_157 : decode cX6_findWiden 157 = .ok (.aload_n 0, 1) := by decide +kernel
theorem dX6_findWiden_158 : decode cX6_findWiden 158 = .ok (.getfield 54, 3) := by decide +kernel
theorem dX6_findWiden_161 : decode cX6_findWiden 161 = .ok (.aload_n 0, 1) := by decide +kernel
theorem dX6_findWiden_162 : decode cX6_findWiden 162 = .ok (.getfield 51, 3) := by decide +kernel
theorem dX6_findWiden_165 : decode cX6_findWiden 165 = .ok (.iload 10, 2) := by decide +kernel
theorem dX6_findWiden_167 : decode cX6_findWiden 167 = .ok (.iaload, 1) := by decide +kernel
theorem dX6_findWiden_168 : decode cX6_findWiden 168 = .ok (.dup2, 1) := by decide +kernel
theorem dX6_findWiden_169 : decode cX6_findWiden 169 = .ok (.iaload, 1) := by decide +kernel
theorem dX6_findWiden_170 : decode cX6_findWiden 170 = .ok (.iconst 1, 1) := by decide +kernel
theorem dX6_findWiden_171 : decode cX6_findWiden 171 = .ok (.iadd, 1) := by decide +kernel
theorem dX6_findWiden_172 : decode cX6_findWiden 172 = .ok (.iastore, 1) := by decide +kernel
theorem dX6_findWiden_173 : decode cX6_findWiden 173 = .ok (.iinc 7 1, 3) := by decide +kernel
theorem dX6_findWiden_176 : decode cX6_findWiden 176 = .ok (.iload 8, 2) := by decide +kernel
theorem dX6_findWiden_178 : decode cX6_findWiden 178 = .ok (.aload_n 0, 1) := by decide +kernel
theorem dX6_findWiden_179 : decode cX6_findWiden 179 = .ok (.getfield 23, 3) := by decide +kernel
theorem dX6_findWiden_182 : decode cX6_findWiden 182 = .ok (.aload_n 0, 1) := by decide +kernel
theorem dX6_findWiden_183 : decode cX6_findWiden 183 = .ok (.getfield 51, 3) := by decide +kernel
theorem dX6_findWiden_186 : decode cX6_findWiden 186 = .ok (.iload 10, 2) := by decide +kernel
theorem dX6_findWiden_188 : decode cX6_findWiden 188 = .ok (.iaload, 1) := by decide +kernel
theorem dX6_findWiden_189 : decode cX6_findWiden 189 = .ok (.iaload, 1) := by decide +kernel
theorem dX6_findWiden_190 : decode cX6_findWiden 190 = .ok (.iadd, 1) := by decide +kernel
theorem dX6_findWiden_191 : decode cX6_findWiden 191 = .ok (.istore 8, 2) := by decide +kernel
theorem dX6_findWiden_193 : decode cX6_findWiden 193 = .ok (.iload 9, 2) := by decide +kernel
theorem dX6_findWiden_195 : decode cX6_findWiden 195 = .ok (.ifCond .eq 37, 3) := by decide +kernel
theorem dX6_findWiden_198 : decode cX6_findWiden 198 = .ok (.aload_n 0, 1) := by decide +kernel
theorem dX6_findWiden_199 : decode cX6_findWiden 199 = .ok (.getfield 20, 3) := by decide +kernel
theorem dX6_findWiden_202 : decode cX6_findWiden 202 = .ok (.aload_n 0, 1) := by decide +kernel
theorem dX6_findWiden_203 : decode cX6_findWiden 203 = .ok (.getfield 51, 3) := by decide +kernel
theorem dX6_findWiden_206 : decode cX6_findWiden 206 = .ok (.iload 10, 2) := by decide +kernel
theorem dX6_findWiden_208 : decode cX6_findWiden 208 = .ok (.iaload, 1) := by decide +kernel
theorem dX6_findWiden_209 : decode cX6_findWiden 209 = .ok (.iaload, 1) := by decide +kernel
theorem dX6_findWiden_210 : decode cX6_findWiden 210 = .ok (.aload_n 0, 1) := by decide +kernel
theorem dX6_findWiden_211 : decode cX6_findWiden 211 = .ok (.getfield 54, 3) := by decide +kernel
theorem dX6_findWiden_214 : decode cX6_findWiden 214 = .ok (.aload_n 0, 1) := by decide +kernel
theorem dX6_findWiden_215 : decode cX6_findWiden 215 = .ok (.getfield 51, 3) := by decide +kernel
theorem dX6_findWiden_218 : decode cX6_findWiden 218 = .ok (.iload 10, 2) := by decide +kernel
theorem dX6_findWiden_220 : decode cX6_findWiden 220 = .ok (.iaload, 1) := by decide +kernel
theorem dX6_findWiden_221 : decode cX6_findWiden 221 = .ok (.iaload, 1) := by decide +kernel
theorem dX6_findWiden_222 : decode cX6_findWiden 222 = .ok (.iadd, 1) := by decide +kernel
theorem dX6_findWiden_223 : decode cX6_findWiden 223 = .ok (.bipush 6, 2) := by decide +kernel
theorem dX6_findWiden_225 : decode cX6_findWiden 225 = .ok (.if_icmp .gt 7, 3) := by decide +kernel
theorem dX6_findWiden_228 : decode cX6_findWiden 228 = .ok (.iconst 1, 1) := by decide +kernel
theorem dX6_findWiden_229 : decode cX6_findWiden 229 = .ok (.goto 4, 3) := by decide +kernel
theorem dX6_findWiden_232 : decode cX6_findWiden 232 = .ok (.iconst 0, 1) := by decide +kernel
theorem dX6_findWiden_233 : decode cX6_findWiden 233 = .ok (.istore 9, 2) := by decide +kernel
theorem dX6_findWiden_235 : decode cX6_findWiden 235 = .ok (.iinc 10 1, 3) := by decide +kernel
theorem dX6_findWiden_238 : decode cX6_findWiden 238 = .ok (.goto (-162), 3) := by decide +kernel
theorem dX6_findWiden_241 : decode cX6_findWiden 241 = .ok (.iload 9, 2) := by decide +kernel
theorem dX6_findWiden_243 : decode cX6_findWiden 243 = .ok (.ifCond .eq 78, 3) := by decide +kernel
theorem dX6_findWiden_246 : decode cX6_findWiden 246 = .ok (.iload 7, 2) := by decide +kernel
theorem dX6_findWiden_248 : decode cX6_findWiden 248 = .ok (.iload_n 2, 1) := by decide +kernel
theorem dX6_findWiden_249 : decode cX6_findWiden 249 = .ok (.if_icmp .gt 72, 3) := by decide +kernel
theorem dX6_findWiden_252 : decode cX6_findWiden 252 = .ok (.iload_n 3, 1) := by decide +kernel
theorem dX6_findWiden_253 : decode cX6_findWiden 253 = .ok (.iconst (-1), 1) := by decide +kernel
theorem dX6_findWiden_254 : decode cX6_findWiden 254 = .ok (.if_icmp .eq 24, 3) := by decide +kernel
theorem dX6_findWiden_257 : decode cX6_findWiden 257 = .ok (.iload 8, 2) := by decide +kernel
theorem dX6_findWiden_259 : decode cX6_findWiden 259 = .ok (.iload_n 3, 1) := by decide +kernel
theorem dX6_findWiden_260 : decode cX6_findWiden 260 = .ok (.if_icmp .lt 18, 3) := by decide +kernel
theorem dX6_findWiden_263 : decode cX6_findWiden 263 = .ok (.iload 8, 2) := by decide +kernel
theorem dX6_findWiden_265 : decode cX6_findWiden 265 = .ok (.iload_n 3, 1) := by decide +kernel
theorem dX6_findWiden_266 : decode cX6_findWiden 266 = .ok (.if_icmp .ne 55, 3) := by decide +kernel
theorem dX6_findWiden_269 : decode cX6_findWiden 269 = .ok (.aload_n 0, 1) := by decide +kernel
theorem dX6_findWiden_270 : decode cX6_findWiden 270 = .ok (.iload 7, 2) := by decide +kernel
theorem dX6_findWiden_272 : decode cX6_findWiden 272 = .ok (.invokevirtual 155, 3) := by decide +kernel
theorem dX6_findWiden_275 : decode cX6_findWiden 275 = .ok (.ifCond .eq 46, 3) := by decide +kernel
theorem dX6_findWiden_278 : decode cX6_findWiden 278 = .ok (.aload_n 0, 1) := by decide +kernel
theorem dX6_findWiden_279 : decode cX6_findWiden 279 = .ok (.iload_n 1, 1) := by decide +kernel
theorem dX6_findWiden_280 : decode cX6_findWiden 280 = .ok (.invokevirtual 158, 3) := by decide +kernel
theorem dX6_findWiden_283 : decode cX6_findWiden 283 = .ok (.ifCond .eq 38, 3) := by decide +kernel
theorem dX6_findWiden_286 : decode cX6_findWiden 286 = .ok (.iload 8, 2) := by decide +kernel
theorem dX6_findWiden_288 : decode cX6_findWiden 288 = .ok (.istore_n 3, 1) := by decide +kernel
theorem dX6_findWiden_289 : decode cX6_findWiden 289 = .ok (.iconst 0, 1) := by decide +kernel
theorem dX6_findWiden_290 : decode cX6_findWiden 290 = .ok (.istore 10, 2) := by decide +kernel
theorem dX6_findWiden_292 : decode cX6_findWiden 292 = .ok (.iload 10, 2) := by decide +kernel
theorem dX6_findWiden_294 : decode cX6_findWiden 294 = .ok (.aload_n 0, 1) := by decide +kernel
theorem dX6_findWiden_295 : decode cX6_findWiden 295 = .ok (.getfield 73, 3) := by decide +kernel
theorem dX6_findWiden_298 : decode cX6_findWiden 298 = .ok (.if_icmp .ge 23, 3) := by decide +kernel
theorem dX6_findWiden_301 : decode cX6_findWiden 301 = .ok (.aload_n 0, 1) := by decide +kernel
theorem dX6_findWiden_302 : decode cX6_findWiden 302 = .ok (.getfield 57, 3) := by decide +kernel
theorem dX6_findWiden_305 : decode cX6_findWiden 305 = .ok (.iload 10, 2) := by decide +kernel
theorem dX6_findWiden_307 : decode cX6_findWiden 307 = .ok (.aload_n 0, 1) := by decide +kernel
theorem dX6_findWiden_308 : decode cX6_findWiden 308 = .ok (.getfield 54, 3) := by decide +kernel
theorem dX6_findWiden_311 : decode cX6_findWiden 311 = .ok (.iload 10, 2) := by decide +kernel
theorem dX6_findWiden_313 : decode cX6_findWiden 313 = .ok (.iaload, 1) := by decide +kernel
theorem dX6_findWiden_314 : decode cX6_findWiden 314 = .ok (.iastore, 1) := by decide +kernel
theorem dX6_findWiden_315 : decode cX6_findWiden 315 = .ok (.iinc 10 1, 3) := by decide +kernel
theorem dX6_findWiden_318 : decode cX6_findWiden 318 = .ok (.goto (-26), 3) := by decide +kernel
theorem dX6_findWiden_321 : decode cX6_findWiden 321 = .ok (.iinc 5 1, 3) := by decide +kernel
theorem dX6_findWiden_324 : decode cX6_findWiden 324 = .ok (.goto (-297), 3) := by decide +kernel
theorem dX6_findWiden_327 : decode cX6_findWiden 327 = .ok (.iload_n 3, 1) := by decide +kernel
theorem dX6_findWiden_328 : decode cX6_findWiden 328 = .ok (.ireturn, 1) := by decide +kernel
theorem dX6_isWithin_0 : decode cX6_isWithin 0 = .ok (.iconst 0, 1) := by decide +kernel
theorem dX6_isWithin_1 : decode cX6_isWithin 1 = .ok (.istore_n 2, 1) := by decide +kernel
theorem dX6_isWithin_2 : decode cX6_isWithin 2 = .ok (.iload_n 2, 1) := by decide +kernel
theorem dX6_isWithin_3 : decode cX6_isWithin 3 = .ok (.aload_n 0, 1) := by decide +kernel
theorem dX6_isWithin_4 : decode cX6_isWithin 4 = .ok (.getfield 73, 3) := by decide +kernel
theorem dX6_isWithin_7 : decode cX6_isWithin 7 = .ok (.if_icmp .ge 24, 3) := by decide +kernel
theorem dX6_isWithin_10 : decode cX6_isWithin 10 = .ok (.aload_n 0, 1) := by decide +kernel
theorem dX6_isWithin_11 : decode cX6_isWithin 11 = .ok (.getfield 20, 3) := by decide +kernel
theorem dX6_isWithin_14 : decode cX6_isWithin 14 = .ok (.iload_n 2, 1) := by decide +kernel
theorem dX6_isWithin_15 : decode cX6_isWithin 15 = .ok (.dup2, 1) := by decide +kernel
theorem dX6_isWithin_16 : decode cX6_isWithin 16 = .ok (.iaload, 1) := by decide +kernel
theorem dX6_isWithin_17 : decode cX6_isWithin 17 = .ok (.aload_n 0, 1) := by decide +kernel
theorem dX6_isWithin_18 : decode cX6_isWithin 18 = .ok (.getfield 54, 3) := by decide +kernel
theorem dX6_isWithin_21 : decode cX6_isWithin 21 = .ok (.iload_n 2, 1) := by decide +kernel
theorem dX6_isWithin_22 : decode cX6_isWithin 22 = .ok (.iaload, 1) := by decide +kernel
theorem dX6_isWithin_23 : decode cX6_isWithin 23 = .ok (.iadd, 1) := by decide +kernel
theorem dX6_isWithin_24 : decode cX6_isWithin 24 = .ok (.iastore, 1) := by decide +kernel
theorem dX6_isWithin_25 : decode cX6_isWithin 25 = .ok (.iinc 2 1, 3) := by decide +kernel
theorem dX6_isWithin_28 : decode cX6_isWithin 28 = .ok (.goto (-26), 3) := by decide +kernel
theorem dX6_isWithin_31 : decode cX6_isWithin 31 = .ok (.aload_n 0, 1) := by decide +kernel
theorem dX6_isWithin_32 : decode cX6_isWithin 32 = .ok (.aload_n 0, 1) := by decide +kernel
theorem dX6_isWithin_33 : decode cX6_isWithin 33 = .ok (.getfield 76, 3) := by decide +kernel
theorem dX6_isWithin_36 : decode cX6_isWithin 36 = .ok (.iconst (-1), 1) := by decide +kernel
theorem dX6_isWithin_37 : decode cX6_isWithin 37 = .ok (.invokevirtual 131, 3) := by decide +kernel
theorem dX6_isWithin_40 : decode cX6_isWithin 40 = .ok (.aload_n 0, 1) := by decide +kernel
theorem dX6_isWithin_41 : decode cX6_isWithin 41 = .ok (.aload_n 0, 1) := by decide +kernel
theorem dX6_isWithin_42 : decode cX6_isWithin 42 = .ok (.getfield 26, 3) := by decide +kernel
theorem dX6_isWithin_45 : decode cX6_isWithin 45 = .ok (.invokevirtual 147, 3) := by decide +kernel
theorem dX6_isWithin_48 : decode cX6_isWithin 48 = .ok (.iload_n 1, 1) := by decide +kernel
theorem dX6_isWithin_49 : decode cX6_isWithin 49 = .ok (.i2l, 1) := by decide +kernel
theorem dX6_isWithin_50 : decode cX6_isWithin 50 = .ok (.aload_n 0, 1) := by decide +kernel
theorem dX6_isWithin_51 : decode cX6_isWithin 51 = .ok (.getfield 108, 3) := by decide +kernel
theorem dX6_isWithin_54 : decode cX6_isWithin 54 = .ok (.lmul, 1) := by decide +kernel
theorem dX6_isWithin_55 : decode cX6_isWithin 55 = .ok (.lcmp, 1) := by decide +kernel
theorem dX6_isWithin_56 : decode cX6_isWithin 56 = .ok (.ifCond .gt 7, 3) := by decide +kernel
theorem dX6_isWithin_59 : decode cX6_isWithin 59 = .ok (.iconst 1, 1) := by decide +kernel
theorem dX6_isWithin_60 : decode cX6_isWithin 60 = .ok (.goto 4, 3) := by decide +kernel
theorem dX6_isWithin_63 : decode cX6_isWithin 63 = .ok (.iconst 0, 1) := by decide +kernel
theorem dX6_isWithin_64 : decode cX6_isWithin 64 = .ok (.istore_n 2, 1) := by decide +kernel
theorem dX6_isWithin_65 : decode cX6_isWithin 65 = .ok (.iconst 0, 1) := by decide +kernel
theorem dX6_isWithin_66 : decode cX6_isWithin 66 = .ok (.istore_n 3, 1) := by decide +kernel
theorem dX6_isWithin_67 : decode cX6_isWithin 67 = .ok (.iload_n 3, 1) := by decide +kernel
theorem dX6_isWithin_68 : decode cX6_isWithin 68 = .ok (.aload_n 0, 1) := by decide +kernel
theorem dX6_isWithin_69 : decode cX6_isWithin 69 = .ok (.getfield 73, 3) := by decide +kernel
theorem dX6_isWithin_72 : decode cX6_isWithin 72 = .ok (.if_icmp .ge 24, 3) := by decide +kernel
theorem dX6_isWithin_75 : decode cX6_isWithin 75 = .ok (.aload_n 0, 1) := by decide +kernel
theorem dX6_isWithin_76 : decode cX6_isWithin 76 = .ok (.getfield 20, 3) := by decide +kernel
theorem dX6_isWithin_79 : decode cX6_isWithin 79 = .ok (.iload_n 3, 1) := by decide +kernel
theorem dX6_isWithin_80 : decode cX6_isWithin 80 = .ok (.dup2, 1) := by decide +kernel
theorem dX6_isWithin_81 : decode cX6_isWithin 81 = .ok (.iaload, 1) := by decide +kernel
theorem dX6_isWithin_82 : decode cX6_isWithin 82 = .ok (.aload_n 0, 1) := by decide +kernel
theorem dX6_isWithin_83 : decode cX6_isWithin 83 = .ok (.getfield 54, 3) := by decide +kernel
theorem dX6_isWithin_86 : decode cX6_isWithin 86 = .ok (.iload_n 3, 1) := by decide +kernel
theorem dX6_isWithin_87 : decode cX6_isWithin 87 = .ok (.iaload, 1) := by decide +kernel
theorem dX6_isWithin_88 : decode cX6_isWithin 88 = .ok (.isub, 1) := by decide +kernel
theorem dX6_isWithin_89 : decode cX6_isWithin 89 = .ok (.iastore, 1) := by decide +kernel
theorem dX6_isWithin_90 : decode cX6_isWithin 90 = .ok (.iinc 3 1, 3) := by decide +kernel
theorem dX6_isWithin_93 : decode cX6_isWithin 93 = .ok (.goto (-26), 3) := by decide +kernel
theorem dX6_isWithin_96 : decode cX6_isWithin 96 = .ok (.iload_n 2, 1) := by decide +kernel
theorem dX6_isWithin_97 : decode cX6_isWithin 97 = .ok (.ireturn, 1) := by decide +kernel
theorem dX6_widen_0 : decode cX6_widen 0 = .ok (.iload_n 1, 1) := by decide +kernel
theorem dX6_widen_1 : decode cX6_widen 1 = .ok (.iconst 0, 1) := by decide +kernel
theorem dX6_widen_2 : decode cX6_widen 2 = .ok (.sipush 1000, 3) := by decide +kernel
theorem dX6_widen_5 : decode cX6_widen 5 = .ok (.invokestatic 69, 3) := by decide +kernel
theorem dX6_widen_8 : decode cX6_widen 8 = .ok (.ifCond .eq 12, 3) := by decide +kernel
theorem dX6_widen_11 : decode cX6_widen 11 = .ok (.iload_n 2, 1) := by decide +kernel
theorem dX6_widen_12 : decode cX6_widen 12 = .ok (.iconst 0, 1) := by decide +kernel
theorem dX6_widen_13 : decode cX6_widen 13 = .ok (.iconst 3, 1) := by decide +kernel
theorem dX6_widen_14 : decode cX6_widen 14 = .ok (.invokestatic 69, 3) := by decide +kernel
theorem dX6_widen_17 : decode cX6_widen 17 = .ok (.ifCond .ne 6, 3) := by decide +kernel
theorem dX6_widen_20 : decode cX6_widen 20 = .ok (.bipush (-2), 2) := by decide +kernel
theorem dX6_widen_22 : decode cX6_widen 22 = .ok (.ireturn, 1) := by decide +kernel
theorem dX6_widen_23 : decode cX6_widen 23 = .ok (.aload_n 0, 1) := by decide +kernel
theorem dX6_widen_24 : decode cX6_widen 24 = .ok (.invokevirtual 125, 3) := by decide +kernel
theorem dX6_widen_27 : decode cX6_widen 27 = .ok (.ifCond .eq 12, 3) := by decide +kernel
theorem dX6_widen_30 : decode cX6_widen 30 = .ok (.aload_n 0, 1) := by decide +kernel
theorem dX6_widen_31 : decode cX6_widen 31 = .ok (.iload_n 1, 1) := by decide +kernel
theorem dX6_widen_32 : decode cX6_widen 32 = .ok (.iload_n 2, 1) := by decide +kernel
theorem dX6_widen_33 : decode cX6_widen 33 = .ok (.invokevirtual 161, 3) := by decide +kernel
theorem dX6_widen_36 : decode cX6_widen 36 = .ok (.goto 5, 3) := by decide +kernel
theorem dX6_widen_39 : decode cX6_widen 39 = .ok (.bipush (-3), 2) := by decide +kernel
theorem dX6_widen_41 : decode cX6_widen 41 = .ok (.ireturn, 1) := by decide +kernel
theorem dX6_widened_0 : decode cX6_widened 0 = .ok (.iload_n 1, 1) := by decide +kernel
theorem dX6_widened_1 : decode cX6_widened 1 = .ok (.iconst 0, 1) := by decide +kernel
theorem dX6_widened_2 : decode cX6_widened 2 = .ok (.sipush 1000, 3) := by decide +kernel
theorem dX6_widened_5 : decode cX6_widened 5 = .ok (.invokestatic 69, 3) := by decide +kernel
theorem dX6_widened_8 : decode cX6_widened 8 = .ok (.ifCond .eq 26, 3) := by decide +kernel
theorem dX6_widened_11 : decode cX6_widened 11 = .ok (.iload_n 2, 1) := by decide +kernel
theorem dX6_widened_12 : decode cX6_widened 12 = .ok (.iconst 0, 1) := by decide +kernel
theorem dX6_widened_13 : decode cX6_widened 13 = .ok (.iconst 3, 1) := by decide +kernel
theorem dX6_widened_14 : decode cX6_widened 14 = .ok (.invokestatic 69, 3) := by decide +kernel
theorem dX6_widened_17 : decode cX6_widened 17 = .ok (.ifCond .eq 17, 3) := by decide +kernel
theorem dX6_widened_20 : decode cX6_widened 20 = .ok (.iload_n 3, 1) := by decide +kernel
theorem dX6_widened_21 : decode cX6_widened 21 = .ok (.iconst 0, 1) := by decide +kernel
theorem dX6_widened_22 : decode cX6_widened 22 = .ok (.aload_n 0, 1) := by decide +kernel
theorem dX6_widened_23 : decode cX6_widened 23 = .ok (.getfield 73, 3) := by decide +kernel
theorem dX6_widened_26 : decode cX6_widened 26 = .ok (.iconst 1, 1) := by decide +kernel
theorem dX6_widened_27 : decode cX6_widened 27 = .ok (.isub, 1) := by decide +kernel
theorem dX6_widened_28 : decode cX6_widened 28 = .ok (.invokestatic 69, 3) := by decide +kernel
theorem dX6_widened_31 : decode cX6_widened 31 = .ok (.ifCond .ne 6, 3) := by decide +kernel
theorem dX6_widened_34 : decode cX6_widened 34 = .ok (.bipush (-2), 2) := by decide +kernel
theorem dX6_widened_36 : decode cX6_widened 36 = .ok (.ireturn, 1) := by decide +kernel
theorem dX6_widened_37 : decode cX6_widened 37 = .ok (.aload_n 0, 1) := by decide +kernel
theorem dX6_widened_38 : decode cX6_widened 38 = .ok (.invokevirtual 125, 3) := by decide +kernel
theorem dX6_widened_41 : decode cX6_widened 41 = .ok (.ifCond .ne 6, 3) := by decide +kernel
theorem dX6_widened_44 : decode cX6_widened 44 = .ok (.bipush (-3), 2) := by decide +kernel
theorem dX6_widened_46 : decode cX6_widened 46 = .ok (.ireturn, 1) := by decide +kernel
theorem dX6_widened_47 : decode cX6_widened 47 = .ok (.aload_n 0, 1) := by decide +kernel
theorem dX6_widened_48 : decode cX6_widened 48 = .ok (.iload_n 1, 1) := by decide +kernel
theorem dX6_widened_49 : decode cX6_widened 49 = .ok (.iload_n 2, 1) := by decide +kernel
theorem dX6_widened_50 : decode cX6_widened 50 = .ok (.invokevirtual 161, 3) := by decide +kernel
theorem dX6_widened_53 : decode cX6_widened 53 = .ok (.iconst (-1), 1) := by decide +kernel
theorem dX6_widened_54 : decode cX6_widened 54 = .ok (.if_icmp .ne 7, 3) := by decide +kernel
theorem dX6_widened_57 : decode cX6_widened 57 = .ok (.iconst (-1), 1) := by decide +kernel
theorem dX6_widened_58 : decode cX6_widened 58 = .ok (.goto 9, 3) := by decide +kernel
theorem dX6_widened_61 : decode cX6_widened 61 = .ok (.aload_n 0, 1) := by decide +kernel
theorem dX6_widened_62 : decode cX6_widened 62 = .ok (.getfield 57, 3) := by decide +kernel
theorem dX6_widened_65 : decode cX6_widened 65 = .ok (.iload_n 3, 1) := by decide +kernel
theorem dX6_widened_66 : decode cX6_widened 66 = .ok (.iaload, 1) := by decide +kernel
theorem dX6_widened_67 : decode cX6_widened 67 = .ok (.ireturn, 1) := by decide +kernel
theorem dX6_fallOf_0 : decode cX6_fallOf 0 = .ok (.lconst 0, 1) := by decide +kernel
theorem dX6_fallOf_1 : decode cX6_fallOf 1 = .ok (.lstore_n 1, 1) := by decide +kernel
theorem dX6_fallOf_2 : decode cX6_fallOf 2 = .ok (.iconst 0, 1) := by decide +kernel
theorem dX6_fallOf_3 : decode cX6_fallOf 3 = .ok (.istore_n 3, 1) := by decide +kernel
theorem dX6_fallOf_4 : decode cX6_fallOf 4 = .ok (.iload_n 3, 1) := by decide +kernel
theorem dX6_fallOf_5 : decode cX6_fallOf 5 = .ok (.bipush 7, 2) := by decide +kernel
theorem dX6_fallOf_7 : decode cX6_fallOf 7 = .ok (.if_icmp .ge 16, 3) := by decide +kernel
theorem dX6_fallOf_10 : decode cX6_fallOf 10 = .ok (.aload_n 0, 1) := by decide +kernel
theorem dX6_fallOf_11 : decode cX6_fallOf 11 = .ok (.getfield 66, 3) := by decide +kernel
theorem dX6_fallOf_14 : decode cX6_fallOf 14 = .ok (.iload_n 3, 1) := by decide +kernel
theorem dX6_fallOf_15 : decode cX6_fallOf 15 = .ok (.iconst 0, 1) := by decide +kernel
theorem dX6_fallOf_16 : decode cX6_fallOf 16 = .ok (.iastore, 1) := by decide +kernel
theorem dX6_fallOf_17 : decode cX6_fallOf 17 = .ok (.iinc 3 1, 3) := by decide +kernel
theorem dX6_fallOf_20 : decode cX6_fallOf 20 = .ok (.goto (-16), 3) := by decide +kernel
theorem dX6_fallOf_23 : decode cX6_fallOf 23 = .ok (.iconst 0, 1) := by decide +kernel
theorem dX6_fallOf_24 : decode cX6_fallOf 24 = .ok (.istore_n 3, 1) := by decide +kernel
theorem dX6_fallOf_25 : decode cX6_fallOf 25 = .ok (.iload_n 3, 1) := by decide +kernel
theorem dX6_fallOf_26 : decode cX6_fallOf 26 = .ok (.aload_n 0, 1) := by decide +kernel
theorem dX6_fallOf_27 : decode cX6_fallOf 27 = .ok (.getfield 79, 3) := by decide +kernel
theorem dX6_fallOf_30 : decode cX6_fallOf 30 = .ok (.if_icmp .ge 89, 3) := by decide +kernel
theorem dX6_fallOf_33 : decode cX6_fallOf 33 = .ok (.aload_n 0, 1) := by decide +kernel
theorem dX6_fallOf_34 : decode cX6_fallOf 34 = .ok (.getfield 60, 3) := by decide +kernel
theorem dX6_fallOf_37 : decode cX6_fallOf 37 = .ok (.iload_n 3, 1) := by decide +kernel
theorem dX6_fallOf_38 : decode cX6_fallOf 38 = .ok (.iaload, 1) := by decide +kernel
theorem dX6_fallOf_39 : decode cX6_fallOf 39 = .ok (.istore 4, 2) := by decide +kernel
theorem dX6_fallOf_41 : decode cX6_fallOf 41 = .ok (.aload_n 0, 1) := by decide +kernel
theorem dX6_fallOf_42 : decode cX6_fallOf 42 = .ok (.getfield 66, 3) := by decide +kernel
theorem dX6_fallOf_45 : decode cX6_fallOf 45 = .ok (.aload_n 0, 1) := by decide +kernel
theorem dX6_fallOf_46 : decode cX6_fallOf 46 = .ok (.getfield 29, 3) := by decide +kernel
theorem dX6_fallOf_49 : decode cX6_fallOf 49 = .ok (.iload 4, 2) := by decide +kernel
theorem dX6_fallOf_51 : decode cX6_fallOf 51 = .ok (.iaload, 1) := by decide +kernel
theorem dX6_fallOf_52 : decode cX6_fallOf 52 = .ok (.dup2, 1) := by decide +kernel
theorem dX6_fallOf_53 : decode cX6_fallOf 53 = .ok (.iaload, 1) := by decide +kernel
theorem dX6_fallOf_54 : decode cX6_fallOf 54 = .ok (.iconst 3, 1) := by decide +kernel
theorem dX6_fallOf_55 : decode cX6_fallOf 55 = .ok (.aload_n 0, 1) := by decide +kernel
theorem dX6_fallOf_56 : decode cX6_fallOf 56 = .ok (.getfield 32, 3) := by decide +kernel
theorem dX6_fallOf_59 : decode cX6_fallOf 59 = .ok (.iload 4, 2) := by decide +kernel
theorem dX6_fallOf_61 : decode cX6_fallOf 61 = .ok (.iaload, 1) := by decide +kernel
theorem dX6_fallOf_62 : decode cX6_fallOf 62 = .ok (.imul, 1) := by decide +kernel
theorem dX6_fallOf_63 : decode cX6_fallOf 63 = .ok (.iadd, 1) := by decide +kernel
theorem dX6_fallOf_64 : decode cX6_fallOf 64 = .ok (.iastore, 1) := by decide +kernel
theorem dX6_fallOf_65 : decode cX6_fallOf 65 = .ok (.aload_n 0, 1) := by decide +kernel
theorem dX6_fallOf_66 : decode cX6_fallOf 66 = .ok (.aload_n 0, 1) := by decide +kernel
theorem dX6_fallOf_67 : decode cX6_fallOf 67 = .ok (.getfield 66, 3) := by decide +kernel
theorem dX6_fallOf_70 : decode cX6_fallOf 70 = .ok (.invokevirtual 147, 3) := by decide +kernel
theorem dX6_fallOf_73 : decode cX6_fallOf 73 = .ok (.lstore 5, 2) := by decide +kernel
theorem dX6_fallOf_75 : decode cX6_fallOf 75 = .ok (.lload 5, 2) := by decide +kernel
theorem dX6_fallOf_77 : decode cX6_fallOf 77 = .ok (.lload_n 1, 1) := by decide +kernel
theorem dX6_fallOf_78 : decode cX6_fallOf 78 = .ok (.lcmp, 1) := by decide +kernel
theorem dX6_fallOf_79 : decode cX6_fallOf 79 = .ok (.ifCond .le 8, 3) := by decide +kernel
theorem dX6_fallOf_82 : decode cX6_fallOf 82 = .ok (.lload 5, 2) := by decide +kernel
theorem dX6_fallOf_84 : decode cX6_fallOf 84 = .ok (.goto 4, 3) := by decide +kernel
theorem dX6_fallOf_87 : decode cX6_fallOf 87 = .ok (.lload_n 1, 1) := by decide +kernel
theorem dX6_fallOf_88 : decode cX6_fallOf 88 = .ok (.lstore_n 1, 1) := by decide +kernel
theorem dX6_fallOf_89 : decode cX6_fallOf 89 = .ok (.aload_n 0, 1) := by decide +kernel
theorem dX6_fallOf_90 : decode cX6_fallOf 90 = .ok (.getfield 66, 3) := by decide +kernel
theorem dX6_fallOf_93 : decode cX6_fallOf 93 = .ok (.aload_n 0, 1) := by decide +kernel
theorem dX6_fallOf_94 : decode cX6_fallOf 94 = .ok (.getfield 29, 3) := by decide +kernel
theorem dX6_fallOf_97 : decode cX6_fallOf 97 = .ok (.iload 4, 2) := by decide +kernel
theorem dX6_fallOf_99 : decode cX6_fallOf 99 = .ok (.iaload, 1) := by decide +kernel
theorem dX6_fallOf_100 : decode cX6_fallOf 100 = .ok (.dup2, 1) := by decide +kernel
theorem dX6_fallOf_101 : decode cX6_fallOf 101 = .ok (.iaload, 1) := by decide +kernel
theorem dX6_fallOf_102 : decode cX6_fallOf 102 = .ok (.iconst 2, 1) := by decide +kernel
theorem dX6_fallOf_103 : decode cX6_fallOf 103 = .ok (.aload_n 0, 1) := by decide +kernel
theorem dX6_fallOf_104 : decode cX6_fallOf 104 = .ok (.getfield 32, 3) := by decide +kernel
theorem dX6_fallOf_107 : decode cX6_fallOf 107 = .ok (.iload 4, 2) := by decide +kernel
theorem dX6_fallOf_109 : decode cX6_fallOf 109 = .ok (.iaload, 1) := by decide +kernel
theorem dX6_fallOf_110 : decode cX6_fallOf 110 = .ok (.imul, 1) := by decide +kernel
theorem dX6_fallOf_111 : decode cX6_fallOf 111 = .ok (.isub, 1) := by decide +kernel
theorem dX6_fallOf_112 : decode cX6_fallOf 112 = .ok (.iastore, 1) := by decide +kernel
theorem dX6_fallOf_113 : decode cX6_fallOf 113 = .ok (.iinc 3 1, 3) := by decide +kernel
theorem dX6_fallOf_116 : decode cX6_fallOf 116 = .ok (.goto (-91), 3) := by decide +kernel
theorem dX6_fallOf_119 : decode cX6_fallOf 119 = .ok (.lload_n 1, 1) := by decide +kernel
theorem dX6_fallOf_120 : decode cX6_fallOf 120 = .ok (.lreturn, 1) := by decide +kernel
theorem dX6_nextOrder_0 : decode cX6_nextOrder 0 = .ok (.aload_n 0, 1) := by decide +kernel
theorem dX6_nextOrder_1 : decode cX6_nextOrder 1 = .ok (.getfield 79, 3) := by decide +kernel
theorem dX6_nextOrder_4 : decode cX6_nextOrder 4 = .ok (.iconst 2, 1) := by decide +kernel
theorem dX6_nextOrder_5 : decode cX6_nextOrder 5 = .ok (.isub, 1) := by decide +kernel
theorem dX6_nextOrder_6 : decode cX6_nextOrder 6 = .ok (.istore_n 1, 1) := by decide +kernel
theorem dX6_nextOrder_7 : decode cX6_nextOrder 7 = .ok (.iload_n 1, 1) := by decide +kernel
theorem dX6_nextOrder_8 : decode cX6_nextOrder 8 = .ok (.ifCond .lt 26, 3) := by decide +kernel
theorem dX6_nextOrder_11 : decode cX6_nextOrder 11 = .ok (.aload_n 0, 1) := by decide +kernel
theorem dX6_nextOrder_12 : decode cX6_nextOrder 12 = .ok (.getfield 60, 3) := by decide +kernel
theorem dX6_nextOrder_15 : decode cX6_nextOrder 15 = .ok (.iload_n 1, 1) := by decide +kernel
theorem dX6_nextOrder_16 : decode cX6_nextOrder 16 = .ok (.iaload, 1) := by decide +kernel
theorem dX6_nextOrder_17 : decode cX6_nextOrder 17 = .ok (.aload_n 0, 1) := by decide +kernel
theorem dX6_nextOrder_18 : decode cX6_nextOrder 18 = .ok (.getfield 60, 3) := by decide +kernel
theorem dX6_nextOrder_21 : decode cX6_nextOrder 21 = .ok (.iload_n 1, 1) := by decide +kernel
theorem dX6_nextOrder_22 : decode cX6_nextOrder 22 = .ok (.iconst 1, 1) := by decide +kernel
theorem dX6_nextOrder_23 : decode cX6_nextOrder 23 = .ok (.iadd, 1) := by decide +kernel
theorem dX6_nextOrder_24 : decode cX6_nextOrder 24 = .ok (.iaload, 1) := by decide +kernel
theorem dX6_nextOrder_25 : decode cX6_nextOrder 25 = .ok (.if_icmp .le 9, 3) := by decide +kernel
theorem dX6_nextOrder_28 : decode cX6_nextOrder 28 = .ok (.iinc 1 (-1), 3) := by decide +kernel
theorem dX6_nextOrder_31 : decode cX6_nextOrder 31 = .ok (.goto (-24), 3) := by decide +kernel
theorem dX6_nextOrder_34 : decode cX6_nextOrder 34 = .ok (.iload_n 1, 1) := by decide +kernel
theorem dX6_nextOrder_35 : decode cX6_nextOrder 35 = .ok (.ifCond .ge 5, 3) := by decide +kernel
theorem dX6_nextOrder_38 : decode cX6_nextOrder 38 = .ok (.iconst 0, 1) := by decide +kernel
theorem dX6_nextOrder_39 : decode cX6_nextOrder 39 = .ok (.ireturn, 1) := by decide +kernel
theorem dX6_nextOrder_40 : decode cX6_nextOrder 40 = .ok (.aload_n 0, 1) := by decide +kernel
theorem dX6_nextOrder_41 : decode cX6_nextOrder 41 = .ok (.getfield 79, 3) := by decide +kernel
theorem dX6_nextOrder_44 : decode cX6_nextOrder 44 = .ok (.iconst 1, 1) := by decide +kernel
theorem dX6_nextOrder_45 : decode cX6_nextOrder 45 = .ok (.isub, 1) := by decide +kernel
theorem dX6_nextOrder_46 : decode cX6_nextOrder 46 = .ok (.istore_n 2, 1) := by decide +kernel
theorem dX6_nextOrder_47 : decode cX6_nextOrder 47 = .ok (.aload_n 0, 1) := by decide +kernel
theorem dX6_nextOrder_48 : decode cX6_nextOrder 48 = .ok (.getfield 60, 3) := by decide +kernel
theorem dX6_nextOrder_51 : decode cX6_nextOrder 51 = .ok (.iload_n 2, 1) := by decide +kernel
theorem dX6_nextOrder_52 : decode cX6_nextOrder 52 = .ok (.iaload, 1) := by decide +kernel
theorem dX6_nextOrder_53 : decode cX6_nextOrder 53 = .ok (.aload_n 0, 1) := by decide +kernel
theorem dX6_nextOrder_54 : decode cX6_nextOrder 54 = .ok (.getfield 60, 3) := by decide +kernel
theorem dX6_nextOrder_57 : decode cX6_nextOrder 57 = .ok (.iload_n 1, 1) := by decide +kernel
theorem dX6_nextOrder_58 : decode cX6_nextOrder 58 = .ok (.iaload, 1) := by decide +kernel
theorem dX6_nextOrder_59 : decode cX6_nextOrder 59 = .ok (.if_icmp .ge 9, 3) := by decide +kernel
theorem dX6_nextOrder_62 : decode cX6_nextOrder 62 = .ok (.iinc 2 (-1), 3) := by decide +kernel
theorem dX6_nextOrder_65 : decode cX6_nextOrder 65 = .ok (.goto (-18), 3) := by decide +kernel
theorem dX6_nextOrder_68 : decode cX6_nextOrder 68 = .ok (.aload_n 0, 1) := by decide +kernel
theorem dX6_nextOrder_69 : decode cX6_nextOrder 69 = .ok (.iload_n 1, 1) := by decide +kernel
theorem dX6_nextOrder_70 : decode cX6_nextOrder 70 = .ok (.iload_n 2, 1) := by decide +kernel
theorem dX6_nextOrder_71 : decode cX6_nextOrder 71 = .ok (.invokevirtual 165, 3) := by decide +kernel
theorem dX6_nextOrder_74 : decode cX6_nextOrder 74 = .ok (.iload_n 1, 1) := by decide +kernel
theorem dX6_nextOrder_75 : decode cX6_nextOrder 75 = .ok (.iconst 1, 1) := by decide +kernel
theorem dX6_nextOrder_76 : decode cX6_nextOrder 76 = .ok (.iadd, 1) := by decide +kernel
theorem dX6_nextOrder_77 : decode cX6_nextOrder 77 = .ok (.istore_n 3, 1) := by decide +kernel
theorem dX6_nextOrder_78 : decode cX6_nextOrder 78 = .ok (.aload_n 0, 1) := by decide +kernel
theorem dX6_nextOrder_79 : decode cX6_nextOrder 79 = .ok (.getfield 79, 3) := by decide +kernel
theorem dX6_nextOrder_82 : decode cX6_nextOrder 82 = .ok (.iconst 1, 1) := by decide +kernel
theorem dX6_nextOrder_83 : decode cX6_nextOrder 83 = .ok (.isub, 1) := by decide +kernel
theorem dX6_nextOrder_84 : decode cX6_nextOrder 84 = .ok (.istore 4, 2) := by decide +kernel
theorem dX6_nextOrder_86 : decode cX6_nextOrder 86 = .ok (.iload_n 3, 1) := by decide +kernel
theorem dX6_nextOrder_87 : decode cX6_nextOrder 87 = .ok (.iload 4, 2) := by decide +kernel
theorem dX6_nextOrder_89 : decode cX6_nextOrder 89 = .ok (.if_icmp .ge 19, 3) := by decide +kernel
theorem dX6_nextOrder_92 : decode cX6_nextOrder 92 = .ok (.aload_n 0, 1) := by decide +kernel
theorem dX6_nextOrder_93 : decode cX6_nextOrder 93 = .ok (.iload_n 3, 1) := by decide +kernel
theorem dX6_nextOrder_94 : decode cX6_nextOrder 94 = .ok (.iload 4, 2) := by decide +kernel
theorem dX6_nextOrder_96 : decode cX6_nextOrder 96 = .ok (.invokevirtual 165, 3) := by decide +kernel
theorem dX6_nextOrder_99 : decode cX6_nextOrder 99 = .ok (.iinc 3 1, 3) := by decide +kernel
theorem dX6_nextOrder_102 : decode cX6_nextOrder 102 = .ok (.iinc 4 (-1), 3) := by decide +kernel
theorem dX6_nextOrder_105 : decode cX6_nextOrder 105 = .ok (.goto (-19), 3) := by decide +kernel
theorem dX6_nextOrder_108 : decode cX6_nextOrder 108 = .ok (.iconst 1, 1) := by decide +kernel
theorem dX6_nextOrder_109 : decode cX6_nextOrder 109 = .ok (.ireturn, 1) := by decide +kernel
theorem dX6_exchange_0 : decode cX6_exchange 0 = .ok (.aload_n 0, 1) := by decide +kernel
theorem dX6_exchange_1 : decode cX6_exchange 1 = .ok (.getfield 60, 3) := by decide +kernel
theorem dX6_exchange_4 : decode cX6_exchange 4 = .ok (.iload_n 1, 1) := by decide +kernel
theorem dX6_exchange_5 : decode cX6_exchange 5 = .ok (.iaload, 1) := by decide +kernel
theorem dX6_exchange_6 : decode cX6_exchange 6 = .ok (.istore_n 3, 1) := by decide +kernel
theorem dX6_exchange_7 : decode cX6_exchange 7 = .ok (.aload_n 0, 1) := by decide +kernel
theorem dX6_exchange_8 : decode cX6_exchange 8 = .ok (.getfield 60, 3) := by decide +kernel
theorem dX6_exchange_11 : decode cX6_exchange 11 = .ok (.iload_n 1, 1) := by decide +kernel
theorem dX6_exchange_12 : decode cX6_exchange 12 = .ok (.aload_n 0, 1) := by decide +kernel
theorem dX6_exchange_13 : decode cX6_exchange 13 = .ok (.getfield 60, 3) := by decide +kernel
theorem dX6_exchange_16 : decode cX6_exchange 16 = .ok (.iload_n 2, 1) := by decide +kernel
theorem dX6_exchange_17 : decode cX6_exchange 17 = .ok (.iaload, 1) := by decide +kernel
theorem dX6_exchange_18 : decode cX6_exchange 18 = .ok (.iastore, 1) := by decide +kernel
theorem dX6_exchange_19 : decode cX6_exchange 19 = .ok (.aload_n 0, 1) := by decide +kernel
theorem dX6_exchange_20 : decode cX6_exchange 20 = .ok (.getfield 60, 3) := by decide +kernel
theorem dX6_exchange_23 : decode cX6_exchange 23 = .ok (.iload_n 2, 1) := by decide +kernel
theorem dX6_exchange_24 : decode cX6_exchange 24 = .ok (.iload_n 3, 1) := by decide +kernel
theorem dX6_exchange_25 : decode cX6_exchange 25 = .ok (.iastore, 1) := by decide +kernel
theorem dX6_exchange_26 : decode cX6_exchange 26 = .ok (.return_, 1) := by decide +kernel
theorem dX6_findWoken_0 : decode cX6_findWoken 0 = .ok (.aload_n 0, 1) := by decide +kernel
theorem dX6_findWoken_1 : decode cX6_findWoken 1 = .ok (.aload_n 0, 1) := by decide +kernel
theorem dX6_findWoken_2 : decode cX6_findWoken 2 = .ok (.getfield 76, 3) := by decide +kernel
theorem dX6_findWoken_5 : decode cX6_findWoken 5 = .ok (.iconst (-1), 1) := by decide +kernel
theorem dX6_findWoken_6 : decode cX6_findWoken 6 = .ok (.invokevirtual 131, 3) := by decide +kernel
theorem dX6_findWoken_9 : decode cX6_findWoken 9 = .ok (.iconst 0, 1) := by decide +kernel
theorem dX6_findWoken_10 : decode cX6_findWoken 10 = .ok (.istore_n 1, 1) := by decide +kernel
theorem dX6_findWoken_11 : decode cX6_findWoken 11 = .ok (.iload_n 1, 1) := by decide +kernel
theorem dX6_findWoken_12 : decode cX6_findWoken 12 = .ok (.aload_n 0, 1) := by decide +kernel
theorem dX6_findWoken_13 : decode cX6_findWoken 13 = .ok (.getfield 79, 3) := by decide +kernel
theorem dX6_findWoken_16 : decode cX6_findWoken 16 = .ok (.if_icmp .ge 16, 3) := by decide +kernel
theorem dX6_findWoken_19 : decode cX6_findWoken 19 = .ok (.aload_n 0, 1) := by decide +kernel
theorem dX6_findWoken_20 : decode cX6_findWoken 20 = .ok (.getfield 60, 3) := by decide +kernel
theorem dX6_findWoken_23 : decode cX6_findWoken 23 = .ok (.iload_n 1, 1) := by decide +kernel
theorem dX6_findWoken_24 : decode cX6_findWoken 24 = .ok (.iload_n 1, 1) := by decide +kernel
theorem dX6_findWoken_25 : decode cX6_findWoken 25 = .ok (.iastore, 1) := by decide +kernel
theorem dX6_findWoken_26 : decode cX6_findWoken 26 = .ok (.iinc 1 1, 3) := by decide +kernel
theorem dX6_findWoken_29 : decode cX6_findWoken 29 = .ok (.goto (-18), 3) := by decide +kernel
theorem dX6_findWoken_32 : decode cX6_findWoken 32 = .ok (.aload_n 0, 1) := by decide +kernel
theorem dX6_findWoken_33 : decode cX6_findWoken 33 = .ok (.ldc2_w 168, 3) := by decide +kernel
theorem dX6_findWoken_36 : decode cX6_findWoken 36 = .ok (.putfield 170, 3) := by decide +kernel
theorem dX6_findWoken_39 : decode cX6_findWoken 39 = .ok (.iconst 1, 1) := by decide +kernel
theorem dX6_findWoken_40 : decode cX6_findWoken 40 = .ok (.istore_n 1, 1) := by decide +kernel
theorem dX6_findWoken_41 : decode cX6_findWoken 41 = .ok (.iload_n 1, 1) := by decide +kernel
theorem dX6_findWoken_42 : decode cX6_findWoken 42 = .ok (.ifCond .eq 71, 3) := by decide +kernel
theorem dX6_findWoken_45 : decode cX6_findWoken 45 = .ok (.aload_n 0, 1) := by decide +kernel
theorem dX6_findWoken_46 : decode cX6_findWoken 46 = .ok (.invokevirtual 173, 3) := by decide +kernel
theorem dX6_findWoken_49 : decode cX6_findWoken 49 = .ok (.lstore_n 2, 1) := by decide +kernel
theorem dX6_findWoken_50 : decode cX6_findWoken 50 = .ok (.aload_n 0, 1) := by decide +kernel
theorem dX6_findWoken_51 : decode cX6_findWoken 51 = .ok (.getfield 170, 3) := by decide +kernel
theorem dX6_findWoken_54 : decode cX6_findWoken 54 = .ok (.lconst 0, 1) := by decide +kernel
theorem dX6_findWoken_55 : decode cX6_findWoken 55 = .ok (.lcmp, 1) := by decide +kernel
theorem dX6_findWoken_56 : decode cX6_findWoken 56 = .ok (.ifCond .lt 12, 3) := by decide +kernel
theorem dX6_findWoken_59 : decode cX6_findWoken 59 = .ok (.lload_n 2, 1) := by decide +kernel
theorem dX6_findWoken_60 : decode cX6_findWoken 60 = .ok (.aload_n 0, 1) := by decide +kernel
theorem dX6_findWoken_61 : decode cX6_findWoken 61 = .ok (.getfield 170, 3) := by decide +kernel
theorem dX6_findWoken_64 : decode cX6_findWoken 64 = .ok (.lcmp, 1) := by decide +kernel
theorem dX6_findWoken_65 : decode cX6_findWoken 65 = .ok (.ifCond .ge 40, 3) := by decide +kernel
theorem dX6_findWoken_68 : decode cX6_findWoken 68 = .ok (.aload_n 0, 1) := by decide +kernel
theorem dX6_findWoken_69 : decode cX6_findWoken 69 = .ok (.lload_n 2, 1) := by decide +kernel
theorem dX6_findWoken_70 : decode cX6_findWoken 70 = .ok (.putfield 170, 3) := by decide +kernel
theorem dX6_findWoken_73 : decode cX6_findWoken 73 = .ok (.iconst 0, 1) := by decide +kernel
theorem dX6_findWoken_74 : decode cX6_findWoken 74 = .ok (.istore 4, 2) := by decide +kernel
theorem dX6_findWoken_76 : decode cX6_findWoken 76 = .ok (.iload 4, 2) := by decide +kernel
theorem dX6_findWoken_78 : decode cX6_findWoken 78 = .ok (.aload_n 0, 1) := by decide +kernel
theorem dX6_findWoken_79 : decode cX6_findWoken 79 = .ok (.getfield 79, 3) := by decide +kernel
theorem dX6_findWoken_82 : decode cX6_findWoken 82 = .ok (.if_icmp .ge 23, 3) := by decide +kernel
theorem dX6_findWoken_85 : decode cX6_findWoken 85 = .ok (.aload_n 0, 1) := by decide +kernel
theorem dX6_findWoken_86 : decode cX6_findWoken 86 = .ok (.getfield 63, 3) := by decide +kernel
theorem dX6_findWoken_89 : decode cX6_findWoken 89 = .ok (.iload 4, 2) := by decide +kernel
theorem dX6_findWoken_91 : decode cX6_findWoken 91 = .ok (.aload_n 0, 1) := by decide +kernel
theorem dX6_findWoken_92 : decode cX6_findWoken 92 = .ok (.getfield 60, 3) := by decide +kernel
theorem dX6_findWoken_95 : decode cX6_findWoken 95 = .ok (.iload 4, 2) := by decide +kernel
theorem dX6_findWoken_97 : decode cX6_findWoken 97 = .ok (.iaload, 1) := by decide +kernel
theorem dX6_findWoken_98 : decode cX6_findWoken 98 = .ok (.iastore, 1) := by decide +kernel
theorem dX6_findWoken_99 : decode cX6_findWoken 99 = .ok (.iinc 4 1, 3) := by decide +kernel
theorem dX6_findWoken_102 : decode cX6_findWoken 102 = .ok (.goto (-26), 3) := by decide +kernel
theorem dX6_findWoken_105 : decode cX6_findWoken 105 = .ok (.aload_n 0, 1) := by decide +kernel
theorem dX6_findWoken_106 : decode cX6_findWoken 106 = .ok (.invokevirtual 176, 3) := by decide +kernel
theorem dX6_findWoken_109 : decode cX6_findWoken 109 = .ok (.istore_n 1, 1) := by decide +kernel
theorem dX6_findWoken_110 : decode cX6_findWoken 110 = .ok (.goto (-69), 3) := by decide +kernel
theorem dX6_findWoken_113 : decode cX6_findWoken 113 = .ok (.return_, 1) := by decide +kernel
theorem dX6_woken_0 : decode cX6_woken 0 = .ok (.aload_n 0, 1) := by decide +kernel
theorem dX6_woken_1 : decode cX6_woken 1 = .ok (.invokevirtual 125, 3) := by decide +kernel
theorem dX6_woken_4 : decode cX6_woken 4 = .ok (.ifCond .ne 6, 3) := by decide +kernel
theorem dX6_woken_7 : decode cX6_woken 7 = .ok (.bipush (-3), 2) := by decide +kernel
theorem dX6_woken_9 : decode cX6_woken 9 = .ok (.ireturn, 1) := by decide +kernel
theorem dX6_woken_10 : decode cX6_woken 10 = .ok (.aload_n 0, 1) := by decide +kernel
theorem dX6_woken_11 : decode cX6_woken 11 = .ok (.invokevirtual 179, 3) := by decide +kernel
theorem dX6_woken_14 : decode cX6_woken 14 = .ok (.iload_n 1, 1) := by decide +kernel
theorem dX6_woken_15 : decode cX6_woken 15 = .ok (.iconst 0, 1) := by decide +kernel
theorem dX6_woken_16 : decode cX6_woken 16 = .ok (.aload_n 0, 1) := by decide +kernel
theorem dX6_woken_17 : decode cX6_woken 17 = .ok (.getfield 79, 3) := by decide +kernel
theorem dX6_woken_20 : decode cX6_woken 20 = .ok (.iconst 1, 1) := by decide +kernel
theorem dX6_woken_21 : decode cX6_woken 21 = .ok (.isub, 1) := by decide +kernel
theorem dX6_woken_22 : decode cX6_woken 22 = .ok (.invokestatic 69, 3) := by decide +kernel
theorem dX6_woken_25 : decode cX6_woken 25 = .ok (.ifCond .eq 12, 3) := by decide +kernel
theorem dX6_woken_28 : decode cX6_woken 28 = .ok (.aload_n 0, 1) := by decide +kernel
theorem dX6_woken_29 : decode cX6_woken 29 = .ok (.getfield 63, 3) := by decide +kernel
theorem dX6_woken_32 : decode cX6_woken 32 = .ok (.iload_n 1, 1) := by decide +kernel
theorem dX6_woken_33 : decode cX6_woken 33 = .ok (.iaload, 1) := by decide +kernel
theorem dX6_woken_34 : decode cX6_woken 34 = .ok (.goto 4, 3) := by decide +kernel
theorem dX6_woken_37 : decode cX6_woken 37 = .ok (.iconst (-1), 1) := by decide +kernel
theorem dX6_woken_38 : decode cX6_woken 38 = .ok (.ireturn, 1) := by decide +kernel
theorem dX6_wokenFall_0 : decode cX6_wokenFall 0 = .ok (.iload_n 1, 1) := by decide +kernel
theorem dX6_wokenFall_1 : decode cX6_wokenFall 1 = .ok (.iconst 0, 1) := by decide +kernel
theorem dX6_wokenFall_2 : decode cX6_wokenFall 2 = .ok (.iconst 1, 1) := by decide +kernel
theorem dX6_wokenFall_3 : decode cX6_wokenFall 3 = .ok (.invokestatic 69, 3) := by decide +kernel
theorem dX6_wokenFall_6 : decode cX6_wokenFall 6 = .ok (.ifCond .ne 7, 3) := by decide +kernel
theorem dX6_wokenFall_9 : decode cX6_wokenFall 9 = .ok (.ldc2_w 123, 3) := by decide +kernel
theorem dX6_wokenFall_12 : decode cX6_wokenFall 12 = .ok (.lreturn, 1) := by decide +kernel
theorem dX6_wokenFall_13 : decode cX6_wokenFall 13 = .ok (.aload_n 0, 1) := by decide +kernel
theorem dX6_wokenFall_14 : decode cX6_wokenFall 14 = .ok (.invokevirtual 125, 3) := by decide +kernel
theorem dX6_wokenFall_17 : decode cX6_wokenFall 17 = .ok (.ifCond .ne 7, 3) := by decide +kernel
theorem dX6_wokenFall_20 : decode cX6_wokenFall 20 = .ok (.ldc2_w 129, 3) := by decide +kernel
theorem dX6_wokenFall_23 : decode cX6_wokenFall 23 = .ok (.lreturn, 1) := by decide +kernel
theorem dX6_wokenFall_24 : decode cX6_wokenFall 24 = .ok (.aload_n 0, 1) := by decide +kernel
theorem dX6_wokenFall_25 : decode cX6_wokenFall 25 = .ok (.invokevirtual 179, 3) := by decide +kernel
theorem dX6_wokenFall_28 : decode cX6_wokenFall 28 = .ok (.aload_n 0, 1) := by decide +kernel
theorem dX6_wokenFall_29 : decode cX6_wokenFall 29 = .ok (.getfield 170, 3) := by decide +kernel
theorem dX6_wokenFall_32 : decode cX6_wokenFall 32 = .ok (.aload_n 0, 1) := by decide +kernel
theorem dX6_wokenFall_33 : decode cX6_wokenFall 33 = .ok (.getfield 108, 3) := by decide +kernel
theorem dX6_wokenFall_36 : decode cX6_wokenFall 36 = .ok (.iload_n 1, 1) := by decide +kernel
theorem dX6_wokenFall_37 : decode cX6_wokenFall 37 = .ok (.invokestatic 135, 3) := by decide +kernel
theorem dX6_wokenFall_40 : decode cX6_wokenFall 40 = .ok (.lreturn, 1) := by decide +kernel
theorem dX6_count_0 : decode cX6_count 0 = .ok (.iload_n 1, 1) := by decide +kernel
theorem dX6_count_1 : decode cX6_count 1 = .ok (.tableswitch 80 0 5 #[39, 44, 49, 57, 62, 67], 39) := by decide +kernel
theorem dX6_count_40 : decode cX6_count 40 = .ok (.aload_n 0, 1) := by decide +kernel
theorem dX6_count_41 : decode cX6_count 41 = .ok (.getfield 7, 3) := by decide +kernel
theorem dX6_count_44 : decode cX6_count 44 = .ok (.ireturn, 1) := by decide +kernel
theorem dX6_count_45 : decode cX6_count 45 = .ok (.aload_n 0, 1) := by decide +kernel
theorem dX6_count_46 : decode cX6_count 46 = .ok (.getfield 73, 3) := by decide +kernel
theorem dX6_count_49 : decode cX6_count 49 = .ok (.ireturn, 1) := by decide +kernel
theorem dX6_count_50 : decode cX6_count 50 = .ok (.aload_n 0, 1) := by decide +kernel
theorem dX6_count_51 : decode cX6_count 51 = .ok (.getfield 76, 3) := by decide +kernel
theorem dX6_count_54 : decode cX6_count 54 = .ok (.invokestatic 151, 3) := by decide +kernel
theorem dX6_count_57 : decode cX6_count 57 = .ok (.ireturn, 1) := by decide +kernel
theorem dX6_count_58 : decode cX6_count 58 = .ok (.aload_n 0, 1) := by decide +kernel
theorem dX6_count_59 : decode cX6_count 59 = .ok (.getfield 79, 3) := by decide +kernel
theorem dX6_count_62 : decode cX6_count 62 = .ok (.ireturn, 1) := by decide +kernel
theorem dX6_count_63 : decode cX6_count 63 = .ok (.aload_n 0, 1) := by decide +kernel
theorem dX6_count_64 : decode cX6_count 64 = .ok (.getfield 82, 3) := by decide +kernel
theorem dX6_count_67 : decode cX6_count 67 = .ok (.ireturn, 1) := by decide +kernel
theorem dX6_count_68 : decode cX6_count 68 = .ok (.aload_n 0, 1) := by decide +kernel
theorem dX6_count_69 : decode cX6_count 69 = .ok (.invokevirtual 125, 3) := by decide +kernel
theorem dX6_count_72 : decode cX6_count 72 = .ok (.ifCond .eq 7, 3) := by decide +kernel
theorem dX6_count_75 : decode cX6_count 75 = .ok (.iconst 1, 1) := by decide +kernel
theorem dX6_count_76 : decode cX6_count 76 = .ok (.goto 4, 3) := by decide +kernel
theorem dX6_count_79 : decode cX6_count 79 = .ok (.iconst 0, 1) := by decide +kernel
theorem dX6_count_80 : decode cX6_count 80 = .ok (.ireturn, 1) := by decide +kernel
theorem dX6_count_81 : decode cX6_count 81 = .ok (.bipush (-2), 2) := by decide +kernel
theorem dX6_count_83 : decode cX6_count 83 = .ok (.ireturn, 1) := by decide +kernel
theorem dX6_digest_0 : decode cX6_digest 0 = .ok (.ldc2_w 182, 3) := by decide +kernel
theorem dX6_digest_3 : decode cX6_digest 3 = .ok (.lstore_n 1, 1) := by decide +kernel
theorem dX6_digest_4 : decode cX6_digest 4 = .ok (.iconst 0, 1) := by decide +kernel
theorem dX6_digest_5 : decode cX6_digest 5 = .ok (.istore_n 3, 1) := by decide +kernel
theorem dX6_digest_6 : decode cX6_digest 6 = .ok (.iload_n 3, 1) := by decide +kernel
theorem dX6_digest_7 : decode cX6_digest 7 = .ok (.bipush 6, 2) := by decide +kernel
theorem dX6_digest_9 : decode cX6_digest 9 = .ok (.if_icmp .ge 22, 3) := by decide +kernel
theorem dX6_digest_12 : decode cX6_digest 12 = .ok (.ldc2_w 184, 3) := by decide +kernel
theorem dX6_digest_15 : decode cX6_digest 15 = .ok (.lload_n 1, 1) := by decide +kernel
theorem dX6_digest_16 : decode cX6_digest 16 = .ok (.lmul, 1) := by decide +kernel
theorem dX6_digest_17 : decode cX6_digest 17 = .ok (.aload_n 0, 1) := by decide +kernel
theorem dX6_digest_18 : decode cX6_digest 18 = .ok (.iload_n 3, 1) := by decide +kernel
theorem dX6_digest_19 : decode cX6_digest 19 = .ok (.invokevirtual 186, 3) := by decide +kernel
theorem dX6_digest_22 : decode cX6_digest 22 = .ok (.i2l, 1) := by decide +kernel
theorem dX6_digest_23 : decode cX6_digest 23 = .ok (.ladd, 1) := by decide +kernel
theorem dX6_digest_24 : decode cX6_digest 24 = .ok (.lstore_n 1, 1) := by decide +kernel
theorem dX6_digest_25 : decode cX6_digest 25 = .ok (.iinc 3 1, 3) := by decide +kernel
theorem dX6_digest_28 : decode cX6_digest 28 = .ok (.goto (-22), 3) := by decide +kernel
theorem dX6_digest_31 : decode cX6_digest 31 = .ok (.iconst 0, 1) := by decide +kernel
theorem dX6_digest_32 : decode cX6_digest 32 = .ok (.istore_n 3, 1) := by decide +kernel
theorem dX6_digest_33 : decode cX6_digest 33 = .ok (.iload_n 3, 1) := by decide +kernel
theorem dX6_digest_34 : decode cX6_digest 34 = .ok (.aload_n 0, 1) := by decide +kernel
theorem dX6_digest_35 : decode cX6_digest 35 = .ok (.getfield 7, 3) := by decide +kernel
theorem dX6_digest_38 : decode cX6_digest 38 = .ok (.if_icmp .ge 59, 3) := by decide +kernel
theorem dX6_digest_41 : decode cX6_digest 41 = .ok (.ldc2_w 184, 3) := by decide +kernel
theorem dX6_digest_44 : decode cX6_digest 44 = .ok (.ldc2_w 184, 3) := by decide +kernel
theorem dX6_digest_47 : decode cX6_digest 47 = .ok (.ldc2_w 184, 3) := by decide +kernel
theorem dX6_digest_50 : decode cX6_digest 50 = .ok (.ldc2_w 184, 3) := by decide +kernel
theorem dX6_digest_53 : decode cX6_digest 53 = .ok (.lload_n 1, 1) := by decide +kernel
theorem dX6_digest_54 : decode cX6_digest 54 = .ok (.lmul, 1) := by decide +kernel
theorem dX6_digest_55 : decode cX6_digest 55 = .ok (.aload_n 0, 1) := by decide +kernel
theorem dX6_digest_56 : decode cX6_digest 56 = .ok (.getfield 26, 3) := by decide +kernel
theorem dX6_digest_59 : decode cX6_digest 59 = .ok (.iload_n 3, 1) := by decide +kernel
theorem dX6_digest_60 : decode cX6_digest 60 = .ok (.iaload, 1) := by decide +kernel
theorem dX6_digest_61 : decode cX6_digest 61 = .ok (.i2l, 1) := by decide +kernel
theorem dX6_digest_62 : decode cX6_digest 62 = .ok (.ladd, 1) := by decide +kernel
theorem dX6_digest_63 : decode cX6_digest 63 = .ok (.lmul, 1) := by decide +kernel
theorem dX6_digest_64 : decode cX6_digest 64 = .ok (.aload_n 0, 1) := by decide +kernel
theorem dX6_digest_65 : decode cX6_digest 65 = .ok (.getfield 76, 3) := by decide +kernel
theorem dX6_digest_68 : decode cX6_digest 68 = .ok (.iload_n 3, 1) := by decide +kernel
theorem dX6_digest_69 : decode cX6_digest 69 = .ok (.ishr, 1) := by decide +kernel
theorem dX6_digest_70 : decode cX6_digest 70 = .ok (.iconst 1, 1) := by decide +kernel
theorem dX6_digest_71 : decode cX6_digest 71 = .ok (.iand, 1) := by decide +kernel
theorem dX6_digest_72 : decode cX6_digest 72 = .ok (.i2l, 1) := by decide +kernel
theorem dX6_digest_73 : decode cX6_digest 73 = .ok (.ladd, 1) := by decide +kernel
theorem dX6_digest_74 : decode cX6_digest 74 = .ok (.lmul, 1) := by decide +kernel
theorem dX6_digest_75 : decode cX6_digest 75 = .ok (.aload_n 0, 1) := by decide +kernel
theorem dX6_digest_76 : decode cX6_digest 76 = .ok (.iload_n 3, 1) := by decide +kernel
theorem dX6_digest_77 : decode cX6_digest 77 = .ok (.iconst 0, 1) := by decide +kernel
theorem dX6_digest_78 : decode cX6_digest 78 = .ok (.invokevirtual 189, 3) := by decide +kernel
theorem dX6_digest_81 : decode cX6_digest 81 = .ok (.ladd, 1) := by decide +kernel
theorem dX6_digest_82 : decode cX6_digest 82 = .ok (.lmul, 1) := by decide +kernel
theorem dX6_digest_83 : decode cX6_digest 83 = .ok (.aload_n 0, 1) := by decide +kernel
theorem dX6_digest_84 : decode cX6_digest 84 = .ok (.iload_n 3, 1) := by decide +kernel
theorem dX6_digest_85 : decode cX6_digest 85 = .ok (.iconst 1, 1) := by decide +kernel
theorem dX6_digest_86 : decode cX6_digest 86 = .ok (.invokevirtual 189, 3) := by decide +kernel
theorem dX6_digest_89 : decode cX6_digest 89 = .ok (.ladd, 1) := by decide +kernel
theorem dX6_digest_90 : decode cX6_digest 90 = .ok (.lstore_n 1, 1) := by decide +kernel
theorem dX6_digest_91 : decode cX6_digest 91 = .ok (.iinc 3 1, 3) := by decide +kernel
theorem dX6_digest_94 : decode cX6_digest 94 = .ok (.goto (-61), 3) := by decide +kernel
theorem dX6_digest_97 : decode cX6_digest 97 = .ok (.iconst 0, 1) := by decide +kernel
theorem dX6_digest_98 : decode cX6_digest 98 = .ok (.istore_n 3, 1) := by decide +kernel
theorem dX6_digest_99 : decode cX6_digest 99 = .ok (.iload_n 3, 1) := by decide +kernel
theorem dX6_digest_100 : decode cX6_digest 100 = .ok (.aload_n 0, 1) := by decide +kernel
theorem dX6_digest_101 : decode cX6_digest 101 = .ok (.getfield 73, 3) := by decide +kernel
theorem dX6_digest_104 : decode cX6_digest 104 = .ok (.if_icmp .ge 59, 3) := by decide +kernel
theorem dX6_digest_107 : decode cX6_digest 107 = .ok (.ldc2_w 184, 3) := by decide +kernel
theorem dX6_digest_110 : decode cX6_digest 110 = .ok (.ldc2_w 184, 3) := by decide +kernel
theorem dX6_digest_113 : decode cX6_digest 113 = .ok (.ldc2_w 184, 3) := by decide +kernel
theorem dX6_digest_116 : decode cX6_digest 116 = .ok (.ldc2_w 184, 3) := by decide +kernel
theorem dX6_digest_119 : decode cX6_digest 119 = .ok (.lload_n 1, 1) := by decide +kernel
theorem dX6_digest_120 : decode cX6_digest 120 = .ok (.lmul, 1) := by decide +kernel
theorem dX6_digest_121 : decode cX6_digest 121 = .ok (.aload_n 0, 1) := by decide +kernel
theorem dX6_digest_122 : decode cX6_digest 122 = .ok (.getfield 13, 3) := by decide +kernel
theorem dX6_digest_125 : decode cX6_digest 125 = .ok (.iload_n 3, 1) := by decide +kernel
theorem dX6_digest_126 : decode cX6_digest 126 = .ok (.iaload, 1) := by decide +kernel
theorem dX6_digest_127 : decode cX6_digest 127 = .ok (.i2l, 1) := by decide +kernel
theorem dX6_digest_128 : decode cX6_digest 128 = .ok (.ladd, 1) := by decide +kernel
theorem dX6_digest_129 : decode cX6_digest 129 = .ok (.lmul, 1) := by decide +kernel
theorem dX6_digest_130 : decode cX6_digest 130 = .ok (.aload_n 0, 1) := by decide +kernel
theorem dX6_digest_131 : decode cX6_digest 131 = .ok (.getfield 17, 3) := by decide +kernel
theorem dX6_digest_134 : decode cX6_digest 134 = .ok (.iload_n 3, 1) := by decide +kernel
theorem dX6_digest_135 : decode cX6_digest 135 = .ok (.iaload, 1) := by decide +kernel
theorem dX6_digest_136 : decode cX6_digest 136 = .ok (.i2l, 1) := by decide +kernel
theorem dX6_digest_137 : decode cX6_digest 137 = .ok (.ladd, 1) := by decide +kernel
theorem dX6_digest_138 : decode cX6_digest 138 = .ok (.lmul, 1) := by decide +kernel
theorem dX6_digest_139 : decode cX6_digest 139 = .ok (.aload_n 0, 1) := by decide +kernel
theorem dX6_digest_140 : decode cX6_digest 140 = .ok (.getfield 20, 3) := by decide +kernel
theorem dX6_digest_143 : decode cX6_digest 143 = .ok (.iload_n 3, 1) := by decide +kernel
theorem dX6_digest_144 : decode cX6_digest 144 = .ok (.iaload, 1) := by decide +kernel
theorem dX6_digest_145 : decode cX6_digest 145 = .ok (.i2l, 1) := by decide +kernel
theorem dX6_digest_146 : decode cX6_digest 146 = .ok (.ladd, 1) := by decide +kernel
theorem dX6_digest_147 : decode cX6_digest 147 = .ok (.lmul, 1) := by decide +kernel
theorem dX6_digest_148 : decode cX6_digest 148 = .ok (.aload_n 0, 1) := by decide +kernel
theorem dX6_digest_149 : decode cX6_digest 149 = .ok (.getfield 23, 3) := by decide +kernel
theorem dX6_digest_152 : decode cX6_digest 152 = .ok (.iload_n 3, 1) := by decide +kernel
theorem dX6_digest_153 : decode cX6_digest 153 = .ok (.iaload, 1) := by decide +kernel
theorem dX6_digest_154 : decode cX6_digest 154 = .ok (.i2l, 1) := by decide +kernel
theorem dX6_digest_155 : decode cX6_digest 155 = .ok (.ladd, 1) := by decide +kernel
theorem dX6_digest_156 : decode cX6_digest 156 = .ok (.lstore_n 1, 1) := by decide +kernel
theorem dX6_digest_157 : decode cX6_digest 157 = .ok (.iinc 3 1, 3) := by decide +kernel
theorem dX6_digest_160 : decode cX6_digest 160 = .ok (.goto (-61), 3) := by decide +kernel
theorem dX6_digest_163 : decode cX6_digest 163 = .ok (.iconst 0, 1) := by decide +kernel
theorem dX6_digest_164 : decode cX6_digest 164 = .ok (.istore_n 3, 1) := by decide +kernel
theorem dX6_digest_165 : decode cX6_digest 165 = .ok (.iload_n 3, 1) := by decide +kernel
theorem dX6_digest_166 : decode cX6_digest 166 = .ok (.aload_n 0, 1) := by decide +kernel
theorem dX6_digest_167 : decode cX6_digest 167 = .ok (.getfield 79, 3) := by decide +kernel
theorem dX6_digest_170 : decode cX6_digest 170 = .ok (.if_icmp .ge 35, 3) := by decide +kernel
theorem dX6_digest_173 : decode cX6_digest 173 = .ok (.ldc2_w 184, 3) := by decide +kernel
theorem dX6_digest_176 : decode cX6_digest 176 = .ok (.ldc2_w 184, 3) := by decide +kernel
theorem dX6_digest_179 : decode cX6_digest 179 = .ok (.lload_n 1, 1) := by decide +kernel
theorem dX6_digest_180 : decode cX6_digest 180 = .ok (.lmul, 1) := by decide +kernel
theorem dX6_digest_181 : decode cX6_digest 181 = .ok (.aload_n 0, 1) := by decide +kernel
theorem dX6_digest_182 : decode cX6_digest 182 = .ok (.getfield 29, 3) := by decide +kernel
theorem dX6_digest_185 : decode cX6_digest 185 = .ok (.iload_n 3, 1) := by decide +kernel
theorem dX6_digest_186 : decode cX6_digest 186 = .ok (.iaload, 1) := by decide +kernel
theorem dX6_digest_187 : decode cX6_digest 187 = .ok (.i2l, 1) := by decide +kernel
theorem dX6_digest_188 : decode cX6_digest 188 = .ok (.ladd, 1) := by decide +kernel
theorem dX6_digest_189 : decode cX6_digest 189 = .ok (.lmul, 1) := by decide +kernel
theorem dX6_digest_190 : decode cX6_digest 190 = .ok (.aload_n 0, 1) := by decide +kernel
theorem dX6_digest_191 : decode cX6_digest 191 = .ok (.getfield 32, 3) := by decide +kernel
theorem dX6_digest_194 : decode cX6_digest 194 = .ok (.iload_n 3, 1) := by decide +kernel
theorem dX6_digest_195 : decode cX6_digest 195 = .ok (.iaload, 1) := by decide +kernel
theorem dX6_digest_196 : decode cX6_digest 196 = .ok (.i2l, 1) := by decide +kernel
theorem dX6_digest_197 : decode cX6_digest 197 = .ok (.ladd, 1) := by decide +kernel
theorem dX6_digest_198 : decode cX6_digest 198 = .ok (.lstore_n 1, 1) := by decide +kernel
theorem dX6_digest_199 : decode cX6_digest 199 = .ok (.iinc 3 1, 3) := by decide +kernel
theorem dX6_digest_202 : decode cX6_digest 202 = .ok (.goto (-37), 3) := by decide +kernel
theorem dX6_digest_205 : decode cX6_digest 205 = .ok (.lload_n 1, 1) := by decide +kernel
theorem dX6_digest_206 : decode cX6_digest 206 = .ok (.lreturn, 1) := by decide +kernel
theorem dJ6_bitCount_0f7a4_0 : decode cJ6_bitCount_0f7a4 0 = .ok (.iload_n 0, 1) := by decide +kernel
theorem dJ6_bitCount_0f7a4_1 : decode cJ6_bitCount_0f7a4 1 = .ok (.iload_n 0, 1) := by decide +kernel
theorem dJ6_bitCount_0f7a4_2 : decode cJ6_bitCount_0f7a4 2 = .ok (.iconst 1, 1) := by decide +kernel
theorem dJ6_bitCount_0f7a4_3 : decode cJ6_bitCount_0f7a4 3 = .ok (.iushr, 1) := by decide +kernel
theorem dJ6_bitCount_0f7a4_4 : decode cJ6_bitCount_0f7a4 4 = .ok (.ldc_w 265, 3) := by decide +kernel
theorem dJ6_bitCount_0f7a4_7 : decode cJ6_bitCount_0f7a4 7 = .ok (.iand, 1) := by decide +kernel
theorem dJ6_bitCount_0f7a4_8 : decode cJ6_bitCount_0f7a4 8 = .ok (.isub, 1) := by decide +kernel
theorem dJ6_bitCount_0f7a4_9 : decode cJ6_bitCount_0f7a4 9 = .ok (.istore_n 0, 1) := by decide +kernel
theorem dJ6_bitCount_0f7a4_10 : decode cJ6_bitCount_0f7a4 10 = .ok (.iload_n 0, 1) := by decide +kernel
theorem dJ6_bitCount_0f7a4_11 : decode cJ6_bitCount_0f7a4 11 = .ok (.ldc_w 266, 3) := by decide +kernel
theorem dJ6_bitCount_0f7a4_14 : decode cJ6_bitCount_0f7a4 14 = .ok (.iand, 1) := by decide +kernel
theorem dJ6_bitCount_0f7a4_15 : decode cJ6_bitCount_0f7a4 15 = .ok (.iload_n 0, 1) := by decide +kernel
theorem dJ6_bitCount_0f7a4_16 : decode cJ6_bitCount_0f7a4 16 = .ok (.iconst 2, 1) := by decide +kernel
theorem dJ6_bitCount_0f7a4_17 : decode cJ6_bitCount_0f7a4 17 = .ok (.iushr, 1) := by decide +kernel
theorem dJ6_bitCount_0f7a4_18 : decode cJ6_bitCount_0f7a4 18 = .ok (.ldc_w 266, 3) := by decide +kernel
theorem dJ6_bitCount_0f7a4_21 : decode cJ6_bitCount_0f7a4 21 = .ok (.iand, 1) := by decide +kernel
theorem dJ6_bitCount_0f7a4_22 : decode cJ6_bitCount_0f7a4 22 = .ok (.iadd, 1) := by decide +kernel
theorem dJ6_bitCount_0f7a4_23 : decode cJ6_bitCount_0f7a4 23 = .ok (.istore_n 0, 1) := by decide +kernel
theorem dJ6_bitCount_0f7a4_24 : decode cJ6_bitCount_0f7a4 24 = .ok (.iload_n 0, 1) := by decide +kernel
theorem dJ6_bitCount_0f7a4_25 : decode cJ6_bitCount_0f7a4 25 = .ok (.iload_n 0, 1) := by decide +kernel
theorem dJ6_bitCount_0f7a4_26 : decode cJ6_bitCount_0f7a4 26 = .ok (.iconst 4, 1) := by decide +kernel
theorem dJ6_bitCount_0f7a4_27 : decode cJ6_bitCount_0f7a4 27 = .ok (.iushr, 1) := by decide +kernel
theorem dJ6_bitCount_0f7a4_28 : decode cJ6_bitCount_0f7a4 28 = .ok (.iadd, 1) := by decide +kernel
theorem dJ6_bitCount_0f7a4_29 : decode cJ6_bitCount_0f7a4 29 = .ok (.ldc_w 267, 3) := by decide +kernel
theorem dJ6_bitCount_0f7a4_32 : decode cJ6_bitCount_0f7a4 32 = .ok (.iand, 1) := by decide +kernel
theorem dJ6_bitCount_0f7a4_33 : decode cJ6_bitCount_0f7a4 33 = .ok (.istore_n 0, 1) := by decide +kernel
theorem dJ6_bitCount_0f7a4_34 : decode cJ6_bitCount_0f7a4 34 = .ok (.iload_n 0, 1) := by decide +kernel
theorem dJ6_bitCount_0f7a4_35 : decode cJ6_bitCount_0f7a4 35 = .ok (.iload_n 0, 1) := by decide +kernel
theorem dJ6_bitCount_0f7a4_36 : decode cJ6_bitCount_0f7a4 36 = .ok (.bipush 8, 2) := by decide +kernel
theorem dJ6_bitCount_0f7a4_38 : decode cJ6_bitCount_0f7a4 38 = .ok (.iushr, 1) := by decide +kernel
theorem dJ6_bitCount_0f7a4_39 : decode cJ6_bitCount_0f7a4 39 = .ok (.iadd, 1) := by decide +kernel
theorem dJ6_bitCount_0f7a4_40 : decode cJ6_bitCount_0f7a4 40 = .ok (.istore_n 0, 1) := by decide +kernel
theorem dJ6_bitCount_0f7a4_41 : decode cJ6_bitCount_0f7a4 41 = .ok (.iload_n 0, 1) := by decide +kernel
theorem dJ6_bitCount_0f7a4_42 : decode cJ6_bitCount_0f7a4 42 = .ok (.iload_n 0, 1) := by decide +kernel
theorem dJ6_bitCount_0f7a4_43 : decode cJ6_bitCount_0f7a4 43 = .ok (.bipush 16, 2) := by decide +kernel
theorem dJ6_bitCount_0f7a4_45 : decode cJ6_bitCount_0f7a4 45 = .ok (.iushr, 1) := by decide +kernel
theorem dJ6_bitCount_0f7a4_46 : decode cJ6_bitCount_0f7a4 46 = .ok (.iadd, 1) := by decide +kernel
theorem dJ6_bitCount_0f7a4_47 : decode cJ6_bitCount_0f7a4 47 = .ok (.istore_n 0, 1) := by decide +kernel
theorem dJ6_bitCount_0f7a4_48 : decode cJ6_bitCount_0f7a4 48 = .ok (.iload_n 0, 1) := by decide +kernel
theorem dJ6_bitCount_0f7a4_49 : decode cJ6_bitCount_0f7a4 49 = .ok (.bipush 63, 2) := by decide +kernel
theorem dJ6_bitCount_0f7a4_51 : decode cJ6_bitCount_0f7a4 51 = .ok (.iand, 1) := by decide +kernel
theorem dJ6_bitCount_0f7a4_52 : decode cJ6_bitCount_0f7a4 52 = .ok (.ireturn, 1) := by decide +kernel
theorem dJ9_abs_067f4_0 : decode cJ9_abs_067f4 0 = .ok (.lload_n 0, 1) := by decide +kernel
theorem dJ9_abs_067f4_1 : decode cJ9_abs_067f4 1 = .ok (.lconst 0, 1) := by decide +kernel
theorem dJ9_abs_067f4_2 : decode cJ9_abs_067f4 2 = .ok (.lcmp, 1) := by decide +kernel
theorem dJ9_abs_067f4_3 : decode cJ9_abs_067f4 3 = .ok (.ifCond .ge 8, 3) := by decide +kernel
theorem dJ9_abs_067f4_6 : decode cJ9_abs_067f4 6 = .ok (.lload_n 0, 1) := by decide +kernel
theorem dJ9_abs_067f4_7 : decode cJ9_abs_067f4 7 = .ok (.lneg, 1) := by decide +kernel
theorem dJ9_abs_067f4_8 : decode cJ9_abs_067f4 8 = .ok (.goto 4, 3) := by decide +kernel
theorem dJ9_abs_067f4_11 : decode cJ9_abs_067f4 11 = .ok (.lload_n 0, 1) := by decide +kernel
theorem dJ9_abs_067f4_12 : decode cJ9_abs_067f4 12 = .ok (.lreturn, 1) := by decide +kernel
theorem dJ9_max_f86c9_0 : decode cJ9_max_f86c9 0 = .ok (.lload_n 0, 1) := by decide +kernel
theorem dJ9_max_f86c9_1 : decode cJ9_max_f86c9 1 = .ok (.lload_n 2, 1) := by decide +kernel
theorem dJ9_max_f86c9_2 : decode cJ9_max_f86c9 2 = .ok (.lcmp, 1) := by decide +kernel
theorem dJ9_max_f86c9_3 : decode cJ9_max_f86c9 3 = .ok (.ifCond .lt 7, 3) := by decide +kernel
theorem dJ9_max_f86c9_6 : decode cJ9_max_f86c9 6 = .ok (.lload_n 0, 1) := by decide +kernel
theorem dJ9_max_f86c9_7 : decode cJ9_max_f86c9 7 = .ok (.goto 4, 3) := by decide +kernel
theorem dJ9_max_f86c9_10 : decode cJ9_max_f86c9 10 = .ok (.lload_n 2, 1) := by decide +kernel
theorem dJ9_max_f86c9_11 : decode cJ9_max_f86c9 11 = .ok (.lreturn, 1) := by decide +kernel
theorem dJ9_min_7cf53_0 : decode cJ9_min_7cf53 0 = .ok (.iload_n 0, 1) := by decide +kernel
theorem dJ9_min_7cf53_1 : decode cJ9_min_7cf53 1 = .ok (.iload_n 1, 1) := by decide +kernel
theorem dJ9_min_7cf53_2 : decode cJ9_min_7cf53 2 = .ok (.if_icmp .gt 7, 3) := by decide +kernel
theorem dJ9_min_7cf53_5 : decode cJ9_min_7cf53 5 = .ok (.iload_n 0, 1) := by decide +kernel
theorem dJ9_min_7cf53_6 : decode cJ9_min_7cf53 6 = .ok (.goto 4, 3) := by decide +kernel
theorem dJ9_min_7cf53_9 : decode cJ9_min_7cf53 9 = .ok (.iload_n 1, 1) := by decide +kernel
theorem dJ9_min_7cf53_10 : decode cJ9_min_7cf53 10 = .ok (.ireturn, 1) := by decide +kernel
theorem dJ9_min_f86c9_0 : decode cJ9_min_f86c9 0 = .ok (.lload_n 0, 1) := by decide +kernel
theorem dJ9_min_f86c9_1 : decode cJ9_min_f86c9 1 = .ok (.lload_n 2, 1) := by decide +kernel
theorem dJ9_min_f86c9_2 : decode cJ9_min_f86c9 2 = .ok (.lcmp, 1) := by decide +kernel
theorem dJ9_min_f86c9_3 : decode cJ9_min_f86c9 3 = .ok (.ifCond .gt 7, 3) := by decide +kernel
theorem dJ9_min_f86c9_6 : decode cJ9_min_f86c9 6 = .ok (.lload_n 0, 1) := by decide +kernel
theorem dJ9_min_f86c9_7 : decode cJ9_min_f86c9 7 = .ok (.goto 4, 3) := by decide +kernel
theorem dJ9_min_f86c9_10 : decode cJ9_min_f86c9 10 = .ok (.lload_n 2, 1) := by decide +kernel
theorem dJ9_min_f86c9_11 : decode cJ9_min_f86c9 11 = .ok (.lreturn, 1) := by decide +kernel
theorem dL_law_0 : decode cL_law 0 = .ok (.new 7, 3) := by decide +kernel
theorem dL_law_3 : decode cL_law 3 = .ok (.dup, 1) := by decide +kernel
theorem dL_law_4 : decode cL_law 4 = .ok (.invokespecial 9, 3) := by decide +kernel
theorem dL_law_7 : decode cL_law 7 = .ok (.astore_n 1, 1) := by decide +kernel
theorem dL_law_8 : decode cL_law 8 = .ok (.new 10, 3) := by decide +kernel
theorem dL_law_11 : decode cL_law 11 = .ok (.dup, 1) := by decide +kernel
theorem dL_law_12 : decode cL_law 12 = .ok (.invokespecial 12, 3) := by decide +kernel
theorem dL_law_15 : decode cL_law 15 = .ok (.astore_n 2, 1) := by decide +kernel
theorem dL_law_16 : decode cL_law 16 = .ok (.iconst 0, 1) := by decide +kernel
theorem dL_law_17 : decode cL_law 17 = .ok (.istore_n 3, 1) := by decide +kernel
theorem dL_law_18 : decode cL_law 18 = .ok (.iload_n 3, 1) := by decide +kernel
theorem dL_law_19 : decode cL_law 19 = .ok (.aload_n 0, 1) := by decide +kernel
theorem dL_law_20 : decode cL_law 20 = .ok (.arraylength, 1) := by decide +kernel
theorem dL_law_21 : decode cL_law 21 = .ok (.iconst 5, 1) := by decide +kernel
theorem dL_law_22 : decode cL_law 22 = .ok (.isub, 1) := by decide +kernel
theorem dL_law_23 : decode cL_law 23 = .ok (.if_icmp .gt 863, 3) := by decide +kernel
theorem dL_law_26 : decode cL_law 26 = .ok (.aload_n 0, 1) := by decide +kernel
theorem dL_law_27 : decode cL_law 27 = .ok (.iload_n 3, 1) := by decide +kernel
theorem dL_law_28 : decode cL_law 28 = .ok (.iaload, 1) := by decide +kernel
theorem dL_law_29 : decode cL_law 29 = .ok (.bipush 31, 2) := by decide +kernel
theorem dL_law_31 : decode cL_law 31 = .ok (.iand, 1) := by decide +kernel
theorem dL_law_32 : decode cL_law 32 = .ok (.tableswitch 848 0 23 #[112, 135, 188, 221, 270, 303, 337, 350, 384, 428, 461, 484, 517, 551, 564, 598, 611, 665, 688, 721, 764, 787, 811, 834], 112) := by decide +kernel
theorem dL_law_144 : decode cL_law 144 = .ok (.aload_n 1, 1) := by decide +kernel
theorem dL_law_145 : decode cL_law 145 = .ok (.aload_n 0, 1) := by decide +kernel
theorem dL_law_146 : decode cL_law 146 = .ok (.iload_n 3, 1) := by decide +kernel
theorem dL_law_147 : decode cL_law 147 = .ok (.iconst 1, 1) := by decide +kernel
theorem dL_law_148 : decode cL_law 148 = .ok (.iadd, 1) := by decide +kernel
theorem dL_law_149 : decode cL_law 149 = .ok (.iaload, 1) := by decide +kernel
theorem dL_law_150 : decode cL_law 150 = .ok (.invokevirtual 13, 3) := by decide +kernel
theorem dL_law_153 : decode cL_law 153 = .ok (.aload_n 2, 1) := by decide +kernel
theorem dL_law_154 : decode cL_law 154 = .ok (.aload_n 0, 1) := by decide +kernel
theorem dL_law_155 : decode cL_law 155 = .ok (.iload_n 3, 1) := by decide +kernel
theorem dL_law_156 : decode cL_law 156 = .ok (.iconst 1, 1) := by decide +kernel
theorem dL_law_157 : decode cL_law 157 = .ok (.iadd, 1) := by decide +kernel
theorem dL_law_158 : decode cL_law 158 = .ok (.iaload, 1) := by decide +kernel
theorem dL_law_159 : decode cL_law 159 = .ok (.invokevirtual 17, 3) := by decide +kernel
theorem dL_law_162 : decode cL_law 162 = .ok (.if_icmp .eq 718, 3) := by decide +kernel
theorem dL_law_165 : decode cL_law 165 = .ok (.iconst 0, 1) := by decide +kernel
theorem dL_law_166 : decode cL_law 166 = .ok (.ireturn, 1) := by decide +kernel
theorem dL_law_167 : decode cL_law 167 = .ok (.aload_n 1, 1) := by decide +kernel
theorem dL_law_168 : decode cL_law 168 = .ok (.aload_n 0, 1) := by decide +kernel
theorem dL_law_169 : decode cL_law 169 = .ok (.iload_n 3, 1) := by decide +kernel
theorem dL_law_170 : decode cL_law 170 = .ok (.iconst 1, 1) := by decide +kernel
theorem dL_law_171 : decode cL_law 171 = .ok (.iadd, 1) := by decide +kernel
theorem dL_law_172 : decode cL_law 172 = .ok (.iaload, 1) := by decide +kernel
theorem dL_law_173 : decode cL_law 173 = .ok (.aload_n 0, 1) := by decide +kernel
theorem dL_law_174 : decode cL_law 174 = .ok (.iload_n 3, 1) := by decide +kernel
theorem dL_law_175 : decode cL_law 175 = .ok (.iconst 2, 1) := by decide +kernel
theorem dL_law_176 : decode cL_law 176 = .ok (.iadd, 1) := by decide +kernel
theorem dL_law_177 : decode cL_law 177 = .ok (.iaload, 1) := by decide +kernel
theorem dL_law_178 : decode cL_law 178 = .ok (.aload_n 0, 1) := by decide +kernel
theorem dL_law_179 : decode cL_law 179 = .ok (.iload_n 3, 1) := by decide +kernel
theorem dL_law_180 : decode cL_law 180 = .ok (.iconst 3, 1) := by decide +kernel
theorem dL_law_181 : decode cL_law 181 = .ok (.iadd, 1) := by decide +kernel
theorem dL_law_182 : decode cL_law 182 = .ok (.iaload, 1) := by decide +kernel
theorem dL_law_183 : decode cL_law 183 = .ok (.aload_n 0, 1) := by decide +kernel
theorem dL_law_184 : decode cL_law 184 = .ok (.iload_n 3, 1) := by decide +kernel
theorem dL_law_185 : decode cL_law 185 = .ok (.iconst 4, 1) := by decide +kernel
theorem dL_law_186 : decode cL_law 186 = .ok (.iadd, 1) := by decide +kernel
theorem dL_law_187 : decode cL_law 187 = .ok (.iaload, 1) := by decide +kernel
theorem dL_law_188 : decode cL_law 188 = .ok (.invokevirtual 18, 3) := by decide +kernel
theorem dL_law_191 : decode cL_law 191 = .ok (.aload_n 2, 1) := by decide +kernel
theorem dL_law_192 : decode cL_law 192 = .ok (.aload_n 0, 1) := by decide +kernel
theorem dL_law_193 : decode cL_law 193 = .ok (.iload_n 3, 1) := by decide +kernel
theorem dL_law_194 : decode cL_law 194 = .ok (.iconst 1, 1) := by decide +kernel
theorem dL_law_195 : decode cL_law 195 = .ok (.iadd, 1) := by decide +kernel
theorem dL_law_196 : decode cL_law 196 = .ok (.iaload, 1) := by decide +kernel
theorem dL_law_197 : decode cL_law 197 = .ok (.aload_n 0, 1) := by decide +kernel
theorem dL_law_198 : decode cL_law 198 = .ok (.iload_n 3, 1) := by decide +kernel
theorem dL_law_199 : decode cL_law 199 = .ok (.iconst 2, 1) := by decide +kernel
theorem dL_law_200 : decode cL_law 200 = .ok (.iadd, 1) := by decide +kernel
theorem dL_law_201 : decode cL_law 201 = .ok (.iaload, 1) := by decide +kernel
theorem dL_law_202 : decode cL_law 202 = .ok (.aload_n 0, 1) := by decide +kernel
theorem dL_law_203 : decode cL_law 203 = .ok (.iload_n 3, 1) := by decide +kernel
theorem dL_law_204 : decode cL_law 204 = .ok (.iconst 3, 1) := by decide +kernel
theorem dL_law_205 : decode cL_law 205 = .ok (.iadd, 1) := by decide +kernel
theorem dL_law_206 : decode cL_law 206 = .ok (.iaload, 1) := by decide +kernel
theorem dL_law_207 : decode cL_law 207 = .ok (.aload_n 0, 1) := by decide +kernel
theorem dL_law_208 : decode cL_law 208 = .ok (.iload_n 3, 1) := by decide +kernel
theorem dL_law_209 : decode cL_law 209 = .ok (.iconst 4, 1) := by decide +kernel
theorem dL_law_210 : decode cL_law 210 = .ok (.iadd, 1) := by decide +kernel
theorem dL_law_211 : decode cL_law 211 = .ok (.iaload, 1) := by decide +kernel
theorem dL_law_212 : decode cL_law 212 = .ok (.invokevirtual 22, 3) := by decide +kernel
theorem dL_law_215 : decode cL_law 215 = .ok (.if_icmp .eq 665, 3) := by decide +kernel
theorem dL_law_218 : decode cL_law 218 = .ok (.iconst 0, 1) := by decide +kernel
theorem dL_law_219 : decode cL_law 219 = .ok (.ireturn, 1) := by decide +kernel
theorem dL_law_220 : decode cL_law 220 = .ok (.aload_n 1, 1) := by decide +kernel
theorem dL_law_221 : decode cL_law 221 = .ok (.aload_n 0, 1) := by decide +kernel
theorem dL_law_222 : decode cL_law 222 = .ok (.iload_n 3, 1) := by decide +kernel
theorem dL_law_223 : decode cL_law 223 = .ok (.iconst 1, 1) := by decide +kernel
theorem dL_law_224 : decode cL_law 224 = .ok (.iadd, 1) := by decide +kernel
theorem dL_law_225 : decode cL_law 225 = .ok (.iaload, 1) := by decide +kernel
theorem dL_law_226 : decode cL_law 226 = .ok (.aload_n 0, 1) := by decide +kernel
theorem dL_law_227 : decode cL_law 227 = .ok (.iload_n 3, 1) := by decide +kernel
theorem dL_law_228 : decode cL_law 228 = .ok (.iconst 2, 1) := by decide +kernel
theorem dL_law_229 : decode cL_law 229 = .ok (.iadd, 1) := by decide +kernel
theorem dL_law_230 : decode cL_law 230 = .ok (.iaload, 1) := by decide +kernel
theorem dL_law_231 : decode cL_law 231 = .ok (.invokevirtual 23, 3) := by decide +kernel
theorem dL_law_234 : decode cL_law 234 = .ok (.aload_n 2, 1) := by decide +kernel
theorem dL_law_235 : decode cL_law 235 = .ok (.aload_n 0, 1) := by decide +kernel
theorem dL_law_236 : decode cL_law 236 = .ok (.iload_n 3, 1) := by decide +kernel
theorem dL_law_237 : decode cL_law 237 = .ok (.iconst 1, 1) := by decide +kernel
theorem dL_law_238 : decode cL_law 238 = .ok (.iadd, 1) := by decide +kernel
theorem dL_law_239 : decode cL_law 239 = .ok (.iaload, 1) := by decide +kernel
theorem dL_law_240 : decode cL_law 240 = .ok (.aload_n 0, 1) := by decide +kernel
theorem dL_law_241 : decode cL_law 241 = .ok (.iload_n 3, 1) := by decide +kernel
theorem dL_law_242 : decode cL_law 242 = .ok (.iconst 2, 1) := by decide +kernel
theorem dL_law_243 : decode cL_law 243 = .ok (.iadd, 1) := by decide +kernel
theorem dL_law_244 : decode cL_law 244 = .ok (.iaload, 1) := by decide +kernel
theorem dL_law_245 : decode cL_law 245 = .ok (.invokevirtual 27, 3) := by decide +kernel
theorem dL_law_248 : decode cL_law 248 = .ok (.if_icmp .eq 632, 3) := by decide +kernel
theorem dL_law_251 : decode cL_law 251 = .ok (.iconst 0, 1) := by decide +kernel
theorem dL_law_252 : decode cL_law 252 = .ok (.ireturn, 1) := by decide +kernel
theorem dL_law_253 : decode cL_law 253 = .ok (.aload_n 1, 1) := by decide +kernel
theorem dL_law_254 : decode cL_law 254 = .ok (.aload_n 0, 1) := by decide +kernel
theorem dL_law_255 : decode cL_law 255 = .ok (.iload_n 3, 1) := by decide +kernel
theorem dL_law_256 : decode cL_law 256 = .ok (.iconst 1, 1) := by decide +kernel
theorem dL_law_257 : decode cL_law 257 = .ok (.iadd, 1) := by decide +kernel
theorem dL_law_258 : decode cL_law 258 = .ok (.iaload, 1) := by decide +kernel
theorem dL_law_259 : decode cL_law 259 = .ok (.aload_n 0, 1) := by decide +kernel
theorem dL_law_260 : decode cL_law 260 = .ok (.iload_n 3, 1) := by decide +kernel
theorem dL_law_261 : decode cL_law 261 = .ok (.iconst 2, 1) := by decide +kernel
theorem dL_law_262 : decode cL_law 262 = .ok (.iadd, 1) := by decide +kernel
theorem dL_law_263 : decode cL_law 263 = .ok (.iaload, 1) := by decide +kernel
theorem dL_law_264 : decode cL_law 264 = .ok (.ifCond .eq 7, 3) := by decide +kernel
theorem dL_law_267 : decode cL_law 267 = .ok (.iconst 1, 1) := by decide +kernel
theorem dL_law_268 : decode cL_law 268 = .ok (.goto 4, 3) := by decide +kernel
theorem dL_law_271 : decode cL_law 271 = .ok (.iconst 0, 1) := by decide +kernel
theorem dL_law_272 : decode cL_law 272 = .ok (.invokevirtual 28, 3) := by decide +kernel
theorem dL_law_275 : decode cL_law 275 = .ok (.aload_n 2, 1) := by decide +kernel
theorem dL_law_276 : decode cL_law 276 = .ok (.aload_n 0, 1) := by decide +kernel
theorem dL_law_277 : decode cL_law 277 = .ok (.iload_n 3, 1) := by decide +kernel
theorem dL_law_278 : decode cL_law 278 = .ok (.iconst 1, 1) := by decide +kernel
theorem dL_law_279 : decode cL_law 279 = .ok (.iadd, 1) := by decide +kernel
theorem dL_law_280 : decode cL_law 280 = .ok (.iaload, 1) := by decide +kernel
theorem dL_law_281 : decode cL_law 281 = .ok (.aload_n 0, 1) := by decide +kernel
theorem dL_law_282 : decode cL_law 282 = .ok (.iload_n 3, 1) := by decide +kernel
theorem dL_law_283 : decode cL_law 283 = .ok (.iconst 2, 1) := by decide +kernel
theorem dL_law_284 : decode cL_law 284 = .ok (.iadd, 1) := by decide +kernel
theorem dL_law_285 : decode cL_law 285 = .ok (.iaload, 1) := by decide +kernel
theorem dL_law_286 : decode cL_law 286 = .ok (.ifCond .eq 7, 3) := by decide +kernel
theorem dL_law_289 : decode cL_law 289 = .ok (.iconst 1, 1) := by decide +kernel
theorem dL_law_290 : decode cL_law 290 = .ok (.goto 4, 3) := by decide +kernel
theorem dL_law_293 : decode cL_law 293 = .ok (.iconst 0, 1) := by decide +kernel
theorem dL_law_294 : decode cL_law 294 = .ok (.invokevirtual 32, 3) := by decide +kernel
theorem dL_law_297 : decode cL_law 297 = .ok (.if_icmp .eq 583, 3) := by decide +kernel
theorem dL_law_300 : decode cL_law 300 = .ok (.iconst 0, 1) := by decide +kernel
theorem dL_law_301 : decode cL_law 301 = .ok (.ireturn, 1) := by decide +kernel
theorem dL_law_302 : decode cL_law 302 = .ok (.aload_n 1, 1) := by decide +kernel
theorem dL_law_303 : decode cL_law 303 = .ok (.aload_n 0, 1) := by decide +kernel
theorem dL_law_304 : decode cL_law 304 = .ok (.iload_n 3, 1) := by decide +kernel
theorem dL_law_305 : decode cL_law 305 = .ok (.iconst 1, 1) := by decide +kernel
theorem dL_law_306 : decode cL_law 306 = .ok (.iadd, 1) := by decide +kernel
theorem dL_law_307 : decode cL_law 307 = .ok (.iaload, 1) := by decide +kernel
theorem dL_law_308 : decode cL_law 308 = .ok (.aload_n 0, 1) := by decide +kernel
theorem dL_law_309 : decode cL_law 309 = .ok (.iload_n 3, 1) := by decide +kernel
theorem dL_law_310 : decode cL_law 310 = .ok (.iconst 2, 1) := by decide +kernel
theorem dL_law_311 : decode cL_law 311 = .ok (.iadd, 1) := by decide +kernel
theorem dL_law_312 : decode cL_law 312 = .ok (.iaload, 1) := by decide +kernel
theorem dL_law_313 : decode cL_law 313 = .ok (.invokevirtual 33, 3) := by decide +kernel
theorem dL_law_316 : decode cL_law 316 = .ok (.aload_n 2, 1) := by decide +kernel
theorem dL_law_317 : decode cL_law 317 = .ok (.aload_n 0, 1) := by decide +kernel
theorem dL_law_318 : decode cL_law 318 = .ok (.iload_n 3, 1) := by decide +kernel
theorem dL_law_319 : decode cL_law 319 = .ok (.iconst 1, 1) := by decide +kernel
theorem dL_law_320 : decode cL_law 320 = .ok (.iadd, 1) := by decide +kernel
theorem dL_law_321 : decode cL_law 321 = .ok (.iaload, 1) := by decide +kernel
theorem dL_law_322 : decode cL_law 322 = .ok (.aload_n 0, 1) := by decide +kernel
theorem dL_law_323 : decode cL_law 323 = .ok (.iload_n 3, 1) := by decide +kernel
theorem dL_law_324 : decode cL_law 324 = .ok (.iconst 2, 1) := by decide +kernel
theorem dL_law_325 : decode cL_law 325 = .ok (.iadd, 1) := by decide +kernel
theorem dL_law_326 : decode cL_law 326 = .ok (.iaload, 1) := by decide +kernel
theorem dL_law_327 : decode cL_law 327 = .ok (.invokevirtual 36, 3) := by decide +kernel
theorem dL_law_330 : decode cL_law 330 = .ok (.if_icmp .eq 550, 3) := by decide +kernel
theorem dL_law_333 : decode cL_law 333 = .ok (.iconst 0, 1) := by decide +kernel
theorem dL_law_334 : decode cL_law 334 = .ok (.ireturn, 1) := by decide +kernel
theorem dL_law_335 : decode cL_law 335 = .ok (.aload_n 1, 1) := by decide +kernel
theorem dL_law_336 : decode cL_law 336 = .ok (.aload_n 0, 1) := by decide +kernel
theorem dL_law_337 : decode cL_law 337 = .ok (.iload_n 3, 1) := by decide +kernel
theorem dL_law_338 : decode cL_law 338 = .ok (.iconst 1, 1) := by decide +kernel
theorem dL_law_339 : decode cL_law 339 = .ok (.iadd, 1) := by decide +kernel
theorem dL_law_340 : decode cL_law 340 = .ok (.iaload, 1) := by decide +kernel
theorem dL_law_341 : decode cL_law 341 = .ok (.aload_n 0, 1) := by decide +kernel
theorem dL_law_342 : decode cL_law 342 = .ok (.iload_n 3, 1) := by decide +kernel
theorem dL_law_343 : decode cL_law 343 = .ok (.iconst 2, 1) := by decide +kernel
theorem dL_law_344 : decode cL_law 344 = .ok (.iadd, 1) := by decide +kernel
theorem dL_law_345 : decode cL_law 345 = .ok (.iaload, 1) := by decide +kernel
theorem dL_law_346 : decode cL_law 346 = .ok (.invokevirtual 37, 3) := by decide +kernel
theorem dL_law_349 : decode cL_law 349 = .ok (.aload_n 2, 1) := by decide +kernel
theorem dL_law_350 : decode cL_law 350 = .ok (.aload_n 0, 1) := by decide +kernel
theorem dL_law_351 : decode cL_law 351 = .ok (.iload_n 3, 1) := by decide +kernel
theorem dL_law_352 : decode cL_law 352 = .ok (.iconst 1, 1) := by decide +kernel
theorem dL_law_353 : decode cL_law 353 = .ok (.iadd, 1) := by decide +kernel
theorem dL_law_354 : decode cL_law 354 = .ok (.iaload, 1) := by decide +kernel
theorem dL_law_355 : decode cL_law 355 = .ok (.aload_n 0, 1) := by decide +kernel
theorem dL_law_356 : decode cL_law 356 = .ok (.iload_n 3, 1) := by decide +kernel
theorem dL_law_357 : decode cL_law 357 = .ok (.iconst 2, 1) := by decide +kernel
theorem dL_law_358 : decode cL_law 358 = .ok (.iadd, 1) := by decide +kernel
theorem dL_law_359 : decode cL_law 359 = .ok (.iaload, 1) := by decide +kernel
theorem dL_law_360 : decode cL_law 360 = .ok (.invokevirtual 41, 3) := by decide +kernel
theorem dL_law_363 : decode cL_law 363 = .ok (.lcmp, 1) := by decide +kernel
theorem dL_law_364 : decode cL_law 364 = .ok (.ifCond .eq 516, 3) := by decide +kernel
theorem dL_law_367 : decode cL_law 367 = .ok (.iconst 0, 1) := by decide +kernel
theorem dL_law_368 : decode cL_law 368 = .ok (.ireturn, 1) := by decide +kernel
theorem dL_law_369 : decode cL_law 369 = .ok (.aload_n 1, 1) := by decide +kernel
theorem dL_law_370 : decode cL_law 370 = .ok (.invokevirtual 42, 3) := by decide +kernel
theorem dL_law_373 : decode cL_law 373 = .ok (.aload_n 2, 1) := by decide +kernel
theorem dL_law_374 : decode cL_law 374 = .ok (.invokevirtual 46, 3) := by decide +kernel
theorem dL_law_377 : decode cL_law 377 = .ok (.if_icmp .eq 503, 3) := by decide +kernel
theorem dL_law_380 : decode cL_law 380 = .ok (.iconst 0, 1) := by decide +kernel
theorem dL_law_381 : decode cL_law 381 = .ok (.ireturn, 1) := by decide +kernel
theorem dL_law_382 : decode cL_law 382 = .ok (.aload_n 1, 1) := by decide +kernel
theorem dL_law_383 : decode cL_law 383 = .ok (.aload_n 0, 1) := by decide +kernel
theorem dL_law_384 : decode cL_law 384 = .ok (.iload_n 3, 1) := by decide +kernel
theorem dL_law_385 : decode cL_law 385 = .ok (.iconst 1, 1) := by decide +kernel
theorem dL_law_386 : decode cL_law 386 = .ok (.iadd, 1) := by decide +kernel
theorem dL_law_387 : decode cL_law 387 = .ok (.iaload, 1) := by decide +kernel
theorem dL_law_388 : decode cL_law 388 = .ok (.aload_n 0, 1) := by decide +kernel
theorem dL_law_389 : decode cL_law 389 = .ok (.iload_n 3, 1) := by decide +kernel
theorem dL_law_390 : decode cL_law 390 = .ok (.iconst 2, 1) := by decide +kernel
theorem dL_law_391 : decode cL_law 391 = .ok (.iadd, 1) := by decide +kernel
theorem dL_law_392 : decode cL_law 392 = .ok (.iaload, 1) := by decide +kernel
theorem dL_law_393 : decode cL_law 393 = .ok (.invokevirtual 47, 3) := by decide +kernel
theorem dL_law_396 : decode cL_law 396 = .ok (.aload_n 2, 1) := by decide +kernel
theorem dL_law_397 : decode cL_law 397 = .ok (.aload_n 0, 1) := by decide +kernel
theorem dL_law_398 : decode cL_law 398 = .ok (.iload_n 3, 1) := by decide +kernel
theorem dL_law_399 : decode cL_law 399 = .ok (.iconst 1, 1) := by decide +kernel
theorem dL_law_400 : decode cL_law 400 = .ok (.iadd, 1) := by decide +kernel
theorem dL_law_401 : decode cL_law 401 = .ok (.iaload, 1) := by decide +kernel
theorem dL_law_402 : decode cL_law 402 = .ok (.aload_n 0, 1) := by decide +kernel
theorem dL_law_403 : decode cL_law 403 = .ok (.iload_n 3, 1) := by decide +kernel
theorem dL_law_404 : decode cL_law 404 = .ok (.iconst 2, 1) := by decide +kernel
theorem dL_law_405 : decode cL_law 405 = .ok (.iadd, 1) := by decide +kernel
theorem dL_law_406 : decode cL_law 406 = .ok (.iaload, 1) := by decide +kernel
theorem dL_law_407 : decode cL_law 407 = .ok (.invokevirtual 50, 3) := by decide +kernel
theorem dL_law_410 : decode cL_law 410 = .ok (.lcmp, 1) := by decide +kernel
theorem dL_law_411 : decode cL_law 411 = .ok (.ifCond .eq 469, 3) := by decide +kernel
theorem dL_law_414 : decode cL_law 414 = .ok (.iconst 0, 1) := by decide +kernel
theorem dL_law_415 : decode cL_law 415 = .ok (.ireturn, 1) := by decide +kernel
theorem dL_law_416 : decode cL_law 416 = .ok (.aload_n 1, 1) := by decide +kernel
theorem dL_law_417 : decode cL_law 417 = .ok (.aload_n 0, 1) := by decide +kernel
theorem dL_law_418 : decode cL_law 418 = .ok (.iload_n 3, 1) := by decide +kernel
theorem dL_law_419 : decode cL_law 419 = .ok (.iconst 1, 1) := by decide +kernel
theorem dL_law_420 : decode cL_law 420 = .ok (.iadd, 1) := by decide +kernel
theorem dL_law_421 : decode cL_law 421 = .ok (.iaload, 1) := by decide +kernel
theorem dL_law_422 : decode cL_law 422 = .ok (.aload_n 0, 1) := by decide +kernel
theorem dL_law_423 : decode cL_law 423 = .ok (.iload_n 3, 1) := by decide +kernel
theorem dL_law_424 : decode cL_law 424 = .ok (.iconst 2, 1) := by decide +kernel
theorem dL_law_425 : decode cL_law 425 = .ok (.iadd, 1) := by decide +kernel
theorem dL_law_426 : decode cL_law 426 = .ok (.iaload, 1) := by decide +kernel
theorem dL_law_427 : decode cL_law 427 = .ok (.aload_n 0, 1) := by decide +kernel
theorem dL_law_428 : decode cL_law 428 = .ok (.iload_n 3, 1) := by decide +kernel
theorem dL_law_429 : decode cL_law 429 = .ok (.iconst 3, 1) := by decide +kernel
theorem dL_law_430 : decode cL_law 430 = .ok (.iadd, 1) := by decide +kernel
theorem dL_law_431 : decode cL_law 431 = .ok (.iaload, 1) := by decide +kernel
theorem dL_law_432 : decode cL_law 432 = .ok (.invokevirtual 51, 3) := by decide +kernel
theorem dL_law_435 : decode cL_law 435 = .ok (.aload_n 2, 1) := by decide +kernel
theorem dL_law_436 : decode cL_law 436 = .ok (.aload_n 0, 1) := by decide +kernel
theorem dL_law_437 : decode cL_law 437 = .ok (.iload_n 3, 1) := by decide +kernel
theorem dL_law_438 : decode cL_law 438 = .ok (.iconst 1, 1) := by decide +kernel
theorem dL_law_439 : decode cL_law 439 = .ok (.iadd, 1) := by decide +kernel
theorem dL_law_440 : decode cL_law 440 = .ok (.iaload, 1) := by decide +kernel
theorem dL_law_441 : decode cL_law 441 = .ok (.aload_n 0, 1) := by decide +kernel
theorem dL_law_442 : decode cL_law 442 = .ok (.iload_n 3, 1) := by decide +kernel
theorem dL_law_443 : decode cL_law 443 = .ok (.iconst 2, 1) := by decide +kernel
theorem dL_law_444 : decode cL_law 444 = .ok (.iadd, 1) := by decide +kernel
theorem dL_law_445 : decode cL_law 445 = .ok (.iaload, 1) := by decide +kernel
theorem dL_law_446 : decode cL_law 446 = .ok (.aload_n 0, 1) := by decide +kernel
theorem dL_law_447 : decode cL_law 447 = .ok (.iload_n 3, 1) := by decide +kernel
theorem dL_law_448 : decode cL_law 448 = .ok (.iconst 3, 1) := by decide +kernel
theorem dL_law_449 : decode cL_law 449 = .ok (.iadd, 1) := by decide +kernel
theorem dL_law_450 : decode cL_law 450 = .ok (.iaload, 1) := by decide +kernel
theorem dL_law_451 : decode cL_law 451 = .ok (.invokevirtual 55, 3) := by decide +kernel
theorem dL_law_454 : decode cL_law 454 = .ok (.lcmp, 1) := by decide +kernel
theorem dL_law_455 : decode cL_law 455 = .ok (.ifCond .eq 425, 3) := by decide +kernel
theorem dL_law_458 : decode cL_law 458 = .ok (.iconst 0, 1) := by decide +kernel
theorem dL_law_459 : decode cL_law 459 = .ok (.ireturn, 1) := by decide +kernel
theorem dL_law_460 : decode cL_law 460 = .ok (.aload_n 1, 1) := by decide +kernel
theorem dL_law_461 : decode cL_law 461 = .ok (.aload_n 0, 1) := by decide +kernel
theorem dL_law_462 : decode cL_law 462 = .ok (.iload_n 3, 1) := by decide +kernel
theorem dL_law_463 : decode cL_law 463 = .ok (.iconst 1, 1) := by decide +kernel
theorem dL_law_464 : decode cL_law 464 = .ok (.iadd, 1) := by decide +kernel
theorem dL_law_465 : decode cL_law 465 = .ok (.iaload, 1) := by decide +kernel
theorem dL_law_466 : decode cL_law 466 = .ok (.aload_n 0, 1) := by decide +kernel
theorem dL_law_467 : decode cL_law 467 = .ok (.iload_n 3, 1) := by decide +kernel
theorem dL_law_468 : decode cL_law 468 = .ok (.iconst 2, 1) := by decide +kernel
theorem dL_law_469 : decode cL_law 469 = .ok (.iadd, 1) := by decide +kernel
theorem dL_law_470 : decode cL_law 470 = .ok (.iaload, 1) := by decide +kernel
theorem dL_law_471 : decode cL_law 471 = .ok (.invokevirtual 56, 3) := by decide +kernel
theorem dL_law_474 : decode cL_law 474 = .ok (.aload_n 2, 1) := by decide +kernel
theorem dL_law_475 : decode cL_law 475 = .ok (.aload_n 0, 1) := by decide +kernel
theorem dL_law_476 : decode cL_law 476 = .ok (.iload_n 3, 1) := by decide +kernel
theorem dL_law_477 : decode cL_law 477 = .ok (.iconst 1, 1) := by decide +kernel
theorem dL_law_478 : decode cL_law 478 = .ok (.iadd, 1) := by decide +kernel
theorem dL_law_479 : decode cL_law 479 = .ok (.iaload, 1) := by decide +kernel
theorem dL_law_480 : decode cL_law 480 = .ok (.aload_n 0, 1) := by decide +kernel
theorem dL_law_481 : decode cL_law 481 = .ok (.iload_n 3, 1) := by decide +kernel
theorem dL_law_482 : decode cL_law 482 = .ok (.iconst 2, 1) := by decide +kernel
theorem dL_law_483 : decode cL_law 483 = .ok (.iadd, 1) := by decide +kernel
theorem dL_law_484 : decode cL_law 484 = .ok (.iaload, 1) := by decide +kernel
theorem dL_law_485 : decode cL_law 485 = .ok (.invokevirtual 59, 3) := by decide +kernel
theorem dL_law_488 : decode cL_law 488 = .ok (.if_icmp .eq 392, 3) := by decide +kernel
theorem dL_law_491 : decode cL_law 491 = .ok (.iconst 0, 1) := by decide +kernel
theorem dL_law_492 : decode cL_law 492 = .ok (.ireturn, 1) := by decide +kernel
theorem dL_law_493 : decode cL_law 493 = .ok (.aload_n 1, 1) := by decide +kernel
theorem dL_law_494 : decode cL_law 494 = .ok (.aload_n 0, 1) := by decide +kernel
theorem dL_law_495 : decode cL_law 495 = .ok (.iload_n 3, 1) := by decide +kernel
theorem dL_law_496 : decode cL_law 496 = .ok (.iconst 1, 1) := by decide +kernel
theorem dL_law_497 : decode cL_law 497 = .ok (.iadd, 1) := by decide +kernel
theorem dL_law_498 : decode cL_law 498 = .ok (.iaload, 1) := by decide +kernel
theorem dL_law_499 : decode cL_law 499 = .ok (.invokevirtual 60, 3) := by decide +kernel
theorem dL_law_502 : decode cL_law 502 = .ok (.aload_n 2, 1) := by decide +kernel
theorem dL_law_503 : decode cL_law 503 = .ok (.aload_n 0, 1) := by decide +kernel
theorem dL_law_504 : decode cL_law 504 = .ok (.iload_n 3, 1) := by decide +kernel
theorem dL_law_505 : decode cL_law 505 = .ok (.iconst 1, 1) := by decide +kernel
theorem dL_law_506 : decode cL_law 506 = .ok (.iadd, 1) := by decide +kernel
theorem dL_law_507 : decode cL_law 507 = .ok (.iaload, 1) := by decide +kernel
theorem dL_law_508 : decode cL_law 508 = .ok (.invokevirtual 63, 3) := by decide +kernel
theorem dL_law_511 : decode cL_law 511 = .ok (.if_icmp .eq 369, 3) := by decide +kernel
theorem dL_law_514 : decode cL_law 514 = .ok (.iconst 0, 1) := by decide +kernel
theorem dL_law_515 : decode cL_law 515 = .ok (.ireturn, 1) := by decide +kernel
theorem dL_law_516 : decode cL_law 516 = .ok (.aload_n 1, 1) := by decide +kernel
theorem dL_law_517 : decode cL_law 517 = .ok (.aload_n 0, 1) := by decide +kernel
theorem dL_law_518 : decode cL_law 518 = .ok (.iload_n 3, 1) := by decide +kernel
theorem dL_law_519 : decode cL_law 519 = .ok (.iconst 1, 1) := by decide +kernel
theorem dL_law_520 : decode cL_law 520 = .ok (.iadd, 1) := by decide +kernel
theorem dL_law_521 : decode cL_law 521 = .ok (.iaload, 1) := by decide +kernel
theorem dL_law_522 : decode cL_law 522 = .ok (.aload_n 0, 1) := by decide +kernel
theorem dL_law_523 : decode cL_law 523 = .ok (.iload_n 3, 1) := by decide +kernel
theorem dL_law_524 : decode cL_law 524 = .ok (.iconst 2, 1) := by decide +kernel
theorem dL_law_525 : decode cL_law 525 = .ok (.iadd, 1) := by decide +kernel
theorem dL_law_526 : decode cL_law 526 = .ok (.iaload, 1) := by decide +kernel
theorem dL_law_527 : decode cL_law 527 = .ok (.invokevirtual 64, 3) := by decide +kernel
theorem dL_law_530 : decode cL_law 530 = .ok (.aload_n 2, 1) := by decide +kernel
theorem dL_law_531 : decode cL_law 531 = .ok (.aload_n 0, 1) := by decide +kernel
theorem dL_law_532 : decode cL_law 532 = .ok (.iload_n 3, 1) := by decide +kernel
theorem dL_law_533 : decode cL_law 533 = .ok (.iconst 1, 1) := by decide +kernel
theorem dL_law_534 : decode cL_law 534 = .ok (.iadd, 1) := by decide +kernel
theorem dL_law_535 : decode cL_law 535 = .ok (.iaload, 1) := by decide +kernel
theorem dL_law_536 : decode cL_law 536 = .ok (.aload_n 0, 1) := by decide +kernel
theorem dL_law_537 : decode cL_law 537 = .ok (.iload_n 3, 1) := by decide +kernel
theorem dL_law_538 : decode cL_law 538 = .ok (.iconst 2, 1) := by decide +kernel
theorem dL_law_539 : decode cL_law 539 = .ok (.iadd, 1) := by decide +kernel
theorem dL_law_540 : decode cL_law 540 = .ok (.iaload, 1) := by decide +kernel
theorem dL_law_541 : decode cL_law 541 = .ok (.invokevirtual 67, 3) := by decide +kernel
theorem dL_law_544 : decode cL_law 544 = .ok (.if_icmp .eq 336, 3) := by decide +kernel
theorem dL_law_547 : decode cL_law 547 = .ok (.iconst 0, 1) := by decide +kernel
theorem dL_law_548 : decode cL_law 548 = .ok (.ireturn, 1) := by decide +kernel
theorem dL_law_549 : decode cL_law 549 = .ok (.aload_n 1, 1) := by decide +kernel
theorem dL_law_550 : decode cL_law 550 = .ok (.aload_n 0, 1) := by decide +kernel
theorem dL_law_551 : decode cL_law 551 = .ok (.iload_n 3, 1) := by decide +kernel
theorem dL_law_552 : decode cL_law 552 = .ok (.iconst 1, 1) := by decide +kernel
theorem dL_law_553 : decode cL_law 553 = .ok (.iadd, 1) := by decide +kernel
theorem dL_law_554 : decode cL_law 554 = .ok (.iaload, 1) := by decide +kernel
theorem dL_law_555 : decode cL_law 555 = .ok (.aload_n 0, 1) := by decide +kernel
theorem dL_law_556 : decode cL_law 556 = .ok (.iload_n 3, 1) := by decide +kernel
theorem dL_law_557 : decode cL_law 557 = .ok (.iconst 2, 1) := by decide +kernel
theorem dL_law_558 : decode cL_law 558 = .ok (.iadd, 1) := by decide +kernel
theorem dL_law_559 : decode cL_law 559 = .ok (.iaload, 1) := by decide +kernel
theorem dL_law_560 : decode cL_law 560 = .ok (.invokevirtual 68, 3) := by decide +kernel
theorem dL_law_563 : decode cL_law 563 = .ok (.aload_n 2, 1) := by decide +kernel
theorem dL_law_564 : decode cL_law 564 = .ok (.aload_n 0, 1) := by decide +kernel
theorem dL_law_565 : decode cL_law 565 = .ok (.iload_n 3, 1) := by decide +kernel
theorem dL_law_566 : decode cL_law 566 = .ok (.iconst 1, 1) := by decide +kernel
theorem dL_law_567 : decode cL_law 567 = .ok (.iadd, 1) := by decide +kernel
theorem dL_law_568 : decode cL_law 568 = .ok (.iaload, 1) := by decide +kernel
theorem dL_law_569 : decode cL_law 569 = .ok (.aload_n 0, 1) := by decide +kernel
theorem dL_law_570 : decode cL_law 570 = .ok (.iload_n 3, 1) := by decide +kernel
theorem dL_law_571 : decode cL_law 571 = .ok (.iconst 2, 1) := by decide +kernel
theorem dL_law_572 : decode cL_law 572 = .ok (.iadd, 1) := by decide +kernel
theorem dL_law_573 : decode cL_law 573 = .ok (.iaload, 1) := by decide +kernel
theorem dL_law_574 : decode cL_law 574 = .ok (.invokevirtual 71, 3) := by decide +kernel
theorem dL_law_577 : decode cL_law 577 = .ok (.lcmp, 1) := by decide +kernel
theorem dL_law_578 : decode cL_law 578 = .ok (.ifCond .eq 302, 3) := by decide +kernel
theorem dL_law_581 : decode cL_law 581 = .ok (.iconst 0, 1) := by decide +kernel
theorem dL_law_582 : decode cL_law 582 = .ok (.ireturn, 1) := by decide +kernel
theorem dL_law_583 : decode cL_law 583 = .ok (.aload_n 1, 1) := by decide +kernel
theorem dL_law_584 : decode cL_law 584 = .ok (.invokevirtual 72, 3) := by decide +kernel
theorem dL_law_587 : decode cL_law 587 = .ok (.aload_n 2, 1) := by decide +kernel
theorem dL_law_588 : decode cL_law 588 = .ok (.invokevirtual 75, 3) := by decide +kernel
theorem dL_law_591 : decode cL_law 591 = .ok (.if_icmp .eq 289, 3) := by decide +kernel
theorem dL_law_594 : decode cL_law 594 = .ok (.iconst 0, 1) := by decide +kernel
theorem dL_law_595 : decode cL_law 595 = .ok (.ireturn, 1) := by decide +kernel
theorem dL_law_596 : decode cL_law 596 = .ok (.aload_n 1, 1) := by decide +kernel
theorem dL_law_597 : decode cL_law 597 = .ok (.aload_n 0, 1) := by decide +kernel
theorem dL_law_598 : decode cL_law 598 = .ok (.iload_n 3, 1) := by decide +kernel
theorem dL_law_599 : decode cL_law 599 = .ok (.iconst 1, 1) := by decide +kernel
theorem dL_law_600 : decode cL_law 600 = .ok (.iadd, 1) := by decide +kernel
theorem dL_law_601 : decode cL_law 601 = .ok (.iaload, 1) := by decide +kernel
theorem dL_law_602 : decode cL_law 602 = .ok (.aload_n 0, 1) := by decide +kernel
theorem dL_law_603 : decode cL_law 603 = .ok (.iload_n 3, 1) := by decide +kernel
theorem dL_law_604 : decode cL_law 604 = .ok (.iconst 2, 1) := by decide +kernel
theorem dL_law_605 : decode cL_law 605 = .ok (.iadd, 1) := by decide +kernel
theorem dL_law_606 : decode cL_law 606 = .ok (.iaload, 1) := by decide +kernel
theorem dL_law_607 : decode cL_law 607 = .ok (.invokevirtual 76, 3) := by decide +kernel
theorem dL_law_610 : decode cL_law 610 = .ok (.aload_n 2, 1) := by decide +kernel
theorem dL_law_611 : decode cL_law 611 = .ok (.aload_n 0, 1) := by decide +kernel
theorem dL_law_612 : decode cL_law 612 = .ok (.iload_n 3, 1) := by decide +kernel
theorem dL_law_613 : decode cL_law 613 = .ok (.iconst 1, 1) := by decide +kernel
theorem dL_law_614 : decode cL_law 614 = .ok (.iadd, 1) := by decide +kernel
theorem dL_law_615 : decode cL_law 615 = .ok (.iaload, 1) := by decide +kernel
theorem dL_law_616 : decode cL_law 616 = .ok (.aload_n 0, 1) := by decide +kernel
theorem dL_law_617 : decode cL_law 617 = .ok (.iload_n 3, 1) := by decide +kernel
theorem dL_law_618 : decode cL_law 618 = .ok (.iconst 2, 1) := by decide +kernel
theorem dL_law_619 : decode cL_law 619 = .ok (.iadd, 1) := by decide +kernel
theorem dL_law_620 : decode cL_law 620 = .ok (.iaload, 1) := by decide +kernel
theorem dL_law_621 : decode cL_law 621 = .ok (.invokevirtual 79, 3) := by decide +kernel
theorem dL_law_624 : decode cL_law 624 = .ok (.lcmp, 1) := by decide +kernel
theorem dL_law_625 : decode cL_law 625 = .ok (.ifCond .eq 255, 3) := by decide +kernel
theorem dL_law_628 : decode cL_law 628 = .ok (.iconst 0, 1) := by decide +kernel
theorem dL_law_629 : decode cL_law 629 = .ok (.ireturn, 1) := by decide +kernel
theorem dL_law_630 : decode cL_law 630 = .ok (.aload_n 1, 1) := by decide +kernel
theorem dL_law_631 : decode cL_law 631 = .ok (.invokevirtual 80, 3) := by decide +kernel
theorem dL_law_634 : decode cL_law 634 = .ok (.aload_n 2, 1) := by decide +kernel
theorem dL_law_635 : decode cL_law 635 = .ok (.invokevirtual 83, 3) := by decide +kernel
theorem dL_law_638 : decode cL_law 638 = .ok (.if_icmp .eq 242, 3) := by decide +kernel
theorem dL_law_641 : decode cL_law 641 = .ok (.iconst 0, 1) := by decide +kernel
theorem dL_law_642 : decode cL_law 642 = .ok (.ireturn, 1) := by decide +kernel
theorem dL_law_643 : decode cL_law 643 = .ok (.aload_n 1, 1) := by decide +kernel
theorem dL_law_644 : decode cL_law 644 = .ok (.aload_n 0, 1) := by decide +kernel
theorem dL_law_645 : decode cL_law 645 = .ok (.iload_n 3, 1) := by decide +kernel
theorem dL_law_646 : decode cL_law 646 = .ok (.iconst 1, 1) := by decide +kernel
theorem dL_law_647 : decode cL_law 647 = .ok (.iadd, 1) := by decide +kernel
theorem dL_law_648 : decode cL_law 648 = .ok (.iaload, 1) := by decide +kernel
theorem dL_law_649 : decode cL_law 649 = .ok (.aload_n 0, 1) := by decide +kernel
theorem dL_law_650 : decode cL_law 650 = .ok (.iload_n 3, 1) := by decide +kernel
theorem dL_law_651 : decode cL_law 651 = .ok (.iconst 2, 1) := by decide +kernel
theorem dL_law_652 : decode cL_law 652 = .ok (.iadd, 1) := by decide +kernel
theorem dL_law_653 : decode cL_law 653 = .ok (.iaload, 1) := by decide +kernel
theorem dL_law_654 : decode cL_law 654 = .ok (.aload_n 0, 1) := by decide +kernel
theorem dL_law_655 : decode cL_law 655 = .ok (.iload_n 3, 1) := by decide +kernel
theorem dL_law_656 : decode cL_law 656 = .ok (.iconst 3, 1) := by decide +kernel
theorem dL_law_657 : decode cL_law 657 = .ok (.iadd, 1) := by decide +kernel
theorem dL_law_658 : decode cL_law 658 = .ok (.iaload, 1) := by decide +kernel
theorem dL_law_659 : decode cL_law 659 = .ok (.aload_n 0, 1) := by decide +kernel
theorem dL_law_660 : decode cL_law 660 = .ok (.iload_n 3, 1) := by decide +kernel
theorem dL_law_661 : decode cL_law 661 = .ok (.iconst 4, 1) := by decide +kernel
theorem dL_law_662 : decode cL_law 662 = .ok (.iadd, 1) := by decide +kernel
theorem dL_law_663 : decode cL_law 663 = .ok (.iaload, 1) := by decide +kernel
theorem dL_law_664 : decode cL_law 664 = .ok (.invokevirtual 84, 3) := by decide +kernel
theorem dL_law_667 : decode cL_law 667 = .ok (.aload_n 2, 1) := by decide +kernel
theorem dL_law_668 : decode cL_law 668 = .ok (.aload_n 0, 1) := by decide +kernel
theorem dL_law_669 : decode cL_law 669 = .ok (.iload_n 3, 1) := by decide +kernel
theorem dL_law_670 : decode cL_law 670 = .ok (.iconst 1, 1) := by decide +kernel
theorem dL_law_671 : decode cL_law 671 = .ok (.iadd, 1) := by decide +kernel
theorem dL_law_672 : decode cL_law 672 = .ok (.iaload, 1) := by decide +kernel
theorem dL_law_673 : decode cL_law 673 = .ok (.aload_n 0, 1) := by decide +kernel
theorem dL_law_674 : decode cL_law 674 = .ok (.iload_n 3, 1) := by decide +kernel
theorem dL_law_675 : decode cL_law 675 = .ok (.iconst 2, 1) := by decide +kernel
theorem dL_law_676 : decode cL_law 676 = .ok (.iadd, 1) := by decide +kernel
theorem dL_law_677 : decode cL_law 677 = .ok (.iaload, 1) := by decide +kernel
theorem dL_law_678 : decode cL_law 678 = .ok (.aload_n 0, 1) := by decide +kernel
theorem dL_law_679 : decode cL_law 679 = .ok (.iload_n 3, 1) := by decide +kernel
theorem dL_law_680 : decode cL_law 680 = .ok (.iconst 3, 1) := by decide +kernel
theorem dL_law_681 : decode cL_law 681 = .ok (.iadd, 1) := by decide +kernel
theorem dL_law_682 : decode cL_law 682 = .ok (.iaload, 1) := by decide +kernel
theorem dL_law_683 : decode cL_law 683 = .ok (.aload_n 0, 1) := by decide +kernel
theorem dL_law_684 : decode cL_law 684 = .ok (.iload_n 3, 1) := by decide +kernel
theorem dL_law_685 : decode cL_law 685 = .ok (.iconst 4, 1) := by decide +kernel
theorem dL_law_686 : decode cL_law 686 = .ok (.iadd, 1) := by decide +kernel
theorem dL_law_687 : decode cL_law 687 = .ok (.iaload, 1) := by decide +kernel
theorem dL_law_688 : decode cL_law 688 = .ok (.invokevirtual 88, 3) := by decide +kernel
theorem dL_law_691 : decode cL_law 691 = .ok (.lcmp, 1) := by decide +kernel
theorem dL_law_692 : decode cL_law 692 = .ok (.ifCond .eq 188, 3) := by decide +kernel
theorem dL_law_695 : decode cL_law 695 = .ok (.iconst 0, 1) := by decide +kernel
theorem dL_law_696 : decode cL_law 696 = .ok (.ireturn, 1) := by decide +kernel
theorem dL_law_697 : decode cL_law 697 = .ok (.aload_n 1, 1) := by decide +kernel
theorem dL_law_698 : decode cL_law 698 = .ok (.aload_n 0, 1) := by decide +kernel
theorem dL_law_699 : decode cL_law 699 = .ok (.iload_n 3, 1) := by decide +kernel
theorem dL_law_700 : decode cL_law 700 = .ok (.iconst 1, 1) := by decide +kernel
theorem dL_law_701 : decode cL_law 701 = .ok (.iadd, 1) := by decide +kernel
theorem dL_law_702 : decode cL_law 702 = .ok (.iaload, 1) := by decide +kernel
theorem dL_law_703 : decode cL_law 703 = .ok (.invokevirtual 89, 3) := by decide +kernel
theorem dL_law_706 : decode cL_law 706 = .ok (.aload_n 2, 1) := by decide +kernel
theorem dL_law_707 : decode cL_law 707 = .ok (.aload_n 0, 1) := by decide +kernel
theorem dL_law_708 : decode cL_law 708 = .ok (.iload_n 3, 1) := by decide +kernel
theorem dL_law_709 : decode cL_law 709 = .ok (.iconst 1, 1) := by decide +kernel
theorem dL_law_710 : decode cL_law 710 = .ok (.iadd, 1) := by decide +kernel
theorem dL_law_711 : decode cL_law 711 = .ok (.iaload, 1) := by decide +kernel
theorem dL_law_712 : decode cL_law 712 = .ok (.invokevirtual 92, 3) := by decide +kernel
theorem dL_law_715 : decode cL_law 715 = .ok (.if_icmp .eq 165, 3) := by decide +kernel
theorem dL_law_718 : decode cL_law 718 = .ok (.iconst 0, 1) := by decide +kernel
theorem dL_law_719 : decode cL_law 719 = .ok (.ireturn, 1) := by decide +kernel
theorem dL_law_720 : decode cL_law 720 = .ok (.aload_n 1, 1) := by decide +kernel
theorem dL_law_721 : decode cL_law 721 = .ok (.aload_n 0, 1) := by decide +kernel
theorem dL_law_722 : decode cL_law 722 = .ok (.iload_n 3, 1) := by decide +kernel
theorem dL_law_723 : decode cL_law 723 = .ok (.iconst 1, 1) := by decide +kernel
theorem dL_law_724 : decode cL_law 724 = .ok (.iadd, 1) := by decide +kernel
theorem dL_law_725 : decode cL_law 725 = .ok (.iaload, 1) := by decide +kernel
theorem dL_law_726 : decode cL_law 726 = .ok (.aload_n 0, 1) := by decide +kernel
theorem dL_law_727 : decode cL_law 727 = .ok (.iload_n 3, 1) := by decide +kernel
theorem dL_law_728 : decode cL_law 728 = .ok (.iconst 2, 1) := by decide +kernel
theorem dL_law_729 : decode cL_law 729 = .ok (.iadd, 1) := by decide +kernel
theorem dL_law_730 : decode cL_law 730 = .ok (.iaload, 1) := by decide +kernel
theorem dL_law_731 : decode cL_law 731 = .ok (.invokevirtual 93, 3) := by decide +kernel
theorem dL_law_734 : decode cL_law 734 = .ok (.aload_n 2, 1) := by decide +kernel
theorem dL_law_735 : decode cL_law 735 = .ok (.aload_n 0, 1) := by decide +kernel
theorem dL_law_736 : decode cL_law 736 = .ok (.iload_n 3, 1) := by decide +kernel
theorem dL_law_737 : decode cL_law 737 = .ok (.iconst 1, 1) := by decide +kernel
theorem dL_law_738 : decode cL_law 738 = .ok (.iadd, 1) := by decide +kernel
theorem dL_law_739 : decode cL_law 739 = .ok (.iaload, 1) := by decide +kernel
theorem dL_law_740 : decode cL_law 740 = .ok (.aload_n 0, 1) := by decide +kernel
theorem dL_law_741 : decode cL_law 741 = .ok (.iload_n 3, 1) := by decide +kernel
theorem dL_law_742 : decode cL_law 742 = .ok (.iconst 2, 1) := by decide +kernel
theorem dL_law_743 : decode cL_law 743 = .ok (.iadd, 1) := by decide +kernel
theorem dL_law_744 : decode cL_law 744 = .ok (.iaload, 1) := by decide +kernel
theorem dL_law_745 : decode cL_law 745 = .ok (.invokevirtual 96, 3) := by decide +kernel
theorem dL_law_748 : decode cL_law 748 = .ok (.if_icmp .eq 132, 3) := by decide +kernel
theorem dL_law_751 : decode cL_law 751 = .ok (.iconst 0, 1) := by decide +kernel
theorem dL_law_752 : decode cL_law 752 = .ok (.ireturn, 1) := by decide +kernel
theorem dL_law_753 : decode cL_law 753 = .ok (.aload_n 1, 1) := by decide +kernel
theorem dL_law_754 : decode cL_law 754 = .ok (.aload_n 0, 1) := by decide +kernel
theorem dL_law_755 : decode cL_law 755 = .ok (.iload_n 3, 1) := by decide +kernel
theorem dL_law_756 : decode cL_law 756 = .ok (.iconst 1, 1) := by decide +kernel
theorem dL_law_757 : decode cL_law 757 = .ok (.iadd, 1) := by decide +kernel
theorem dL_law_758 : decode cL_law 758 = .ok (.iaload, 1) := by decide +kernel
theorem dL_law_759 : decode cL_law 759 = .ok (.aload_n 0, 1) := by decide +kernel
theorem dL_law_760 : decode cL_law 760 = .ok (.iload_n 3, 1) := by decide +kernel
theorem dL_law_761 : decode cL_law 761 = .ok (.iconst 2, 1) := by decide +kernel
theorem dL_law_762 : decode cL_law 762 = .ok (.iadd, 1) := by decide +kernel
theorem dL_law_763 : decode cL_law 763 = .ok (.iaload, 1) := by decide +kernel
theorem dL_law_764 : decode cL_law 764 = .ok (.aload_n 0, 1) := by decide +kernel
theorem dL_law_765 : decode cL_law 765 = .ok (.iload_n 3, 1) := by decide +kernel
theorem dL_law_766 : decode cL_law 766 = .ok (.iconst 3, 1) := by decide +kernel
theorem dL_law_767 : decode cL_law 767 = .ok (.iadd, 1) := by decide +kernel
theorem dL_law_768 : decode cL_law 768 = .ok (.iaload, 1) := by decide +kernel
theorem dL_law_769 : decode cL_law 769 = .ok (.invokevirtual 97, 3) := by decide +kernel
theorem dL_law_772 : decode cL_law 772 = .ok (.aload_n 2, 1) := by decide +kernel
theorem dL_law_773 : decode cL_law 773 = .ok (.aload_n 0, 1) := by decide +kernel
theorem dL_law_774 : decode cL_law 774 = .ok (.iload_n 3, 1) := by decide +kernel
theorem dL_law_775 : decode cL_law 775 = .ok (.iconst 1, 1) := by decide +kernel
theorem dL_law_776 : decode cL_law 776 = .ok (.iadd, 1) := by decide +kernel
theorem dL_law_777 : decode cL_law 777 = .ok (.iaload, 1) := by decide +kernel
theorem dL_law_778 : decode cL_law 778 = .ok (.aload_n 0, 1) := by decide +kernel
theorem dL_law_779 : decode cL_law 779 = .ok (.iload_n 3, 1) := by decide +kernel
theorem dL_law_780 : decode cL_law 780 = .ok (.iconst 2, 1) := by decide +kernel
theorem dL_law_781 : decode cL_law 781 = .ok (.iadd, 1) := by decide +kernel
theorem dL_law_782 : decode cL_law 782 = .ok (.iaload, 1) := by decide +kernel
theorem dL_law_783 : decode cL_law 783 = .ok (.aload_n 0, 1) := by decide +kernel
theorem dL_law_784 : decode cL_law 784 = .ok (.iload_n 3, 1) := by decide +kernel
theorem dL_law_785 : decode cL_law 785 = .ok (.iconst 3, 1) := by decide +kernel
theorem dL_law_786 : decode cL_law 786 = .ok (.iadd, 1) := by decide +kernel
theorem dL_law_787 : decode cL_law 787 = .ok (.iaload, 1) := by decide +kernel
theorem dL_law_788 : decode cL_law 788 = .ok (.invokevirtual 101, 3) := by decide +kernel
theorem dL_law_791 : decode cL_law 791 = .ok (.if_icmp .eq 89, 3) := by decide +kernel
theorem dL_law_794 : decode cL_law 794 = .ok (.iconst 0, 1) := by decide +kernel
theorem dL_law_795 : decode cL_law 795 = .ok (.ireturn, 1) := by decide +kernel
theorem dL_law_796 : decode cL_law 796 = .ok (.aload_n 1, 1) := by decide +kernel
theorem dL_law_797 : decode cL_law 797 = .ok (.aload_n 0, 1) := by decide +kernel
theorem dL_law_798 : decode cL_law 798 = .ok (.iload_n 3, 1) := by decide +kernel
theorem dL_law_799 : decode cL_law 799 = .ok (.iconst 1, 1) := by decide +kernel
theorem dL_law_800 : decode cL_law 800 = .ok (.iadd, 1) := by decide +kernel
theorem dL_law_801 : decode cL_law 801 = .ok (.iaload, 1) := by decide +kernel
theorem dL_law_802 : decode cL_law 802 = .ok (.invokevirtual 102, 3) := by decide +kernel
theorem dL_law_805 : decode cL_law 805 = .ok (.aload_n 2, 1) := by decide +kernel
theorem dL_law_806 : decode cL_law 806 = .ok (.aload_n 0, 1) := by decide +kernel
theorem dL_law_807 : decode cL_law 807 = .ok (.iload_n 3, 1) := by decide +kernel
theorem dL_law_808 : decode cL_law 808 = .ok (.iconst 1, 1) := by decide +kernel
theorem dL_law_809 : decode cL_law 809 = .ok (.iadd, 1) := by decide +kernel
theorem dL_law_810 : decode cL_law 810 = .ok (.iaload, 1) := by decide +kernel
theorem dL_law_811 : decode cL_law 811 = .ok (.invokevirtual 105, 3) := by decide +kernel
theorem dL_law_814 : decode cL_law 814 = .ok (.if_icmp .eq 66, 3) := by decide +kernel
theorem dL_law_817 : decode cL_law 817 = .ok (.iconst 0, 1) := by decide +kernel
theorem dL_law_818 : decode cL_law 818 = .ok (.ireturn, 1) := by decide +kernel
theorem dL_law_819 : decode cL_law 819 = .ok (.aload_n 1, 1) := by decide +kernel
theorem dL_law_820 : decode cL_law 820 = .ok (.aload_n 0, 1) := by decide +kernel
theorem dL_law_821 : decode cL_law 821 = .ok (.iload_n 3, 1) := by decide +kernel
theorem dL_law_822 : decode cL_law 822 = .ok (.iconst 1, 1) := by decide +kernel
theorem dL_law_823 : decode cL_law 823 = .ok (.iadd, 1) := by decide +kernel
theorem dL_law_824 : decode cL_law 824 = .ok (.iaload, 1) := by decide +kernel
theorem dL_law_825 : decode cL_law 825 = .ok (.invokevirtual 106, 3) := by decide +kernel
theorem dL_law_828 : decode cL_law 828 = .ok (.aload_n 2, 1) := by decide +kernel
theorem dL_law_829 : decode cL_law 829 = .ok (.aload_n 0, 1) := by decide +kernel
theorem dL_law_830 : decode cL_law 830 = .ok (.iload_n 3, 1) := by decide +kernel
theorem dL_law_831 : decode cL_law 831 = .ok (.iconst 1, 1) := by decide +kernel
theorem dL_law_832 : decode cL_law 832 = .ok (.iadd, 1) := by decide +kernel
theorem dL_law_833 : decode cL_law 833 = .ok (.iaload, 1) := by decide +kernel
theorem dL_law_834 : decode cL_law 834 = .ok (.invokevirtual 110, 3) := by decide +kernel
theorem dL_law_837 : decode cL_law 837 = .ok (.lcmp, 1) := by decide +kernel
theorem dL_law_838 : decode cL_law 838 = .ok (.ifCond .eq 42, 3) := by decide +kernel
theorem dL_law_841 : decode cL_law 841 = .ok (.iconst 0, 1) := by decide +kernel
theorem dL_law_842 : decode cL_law 842 = .ok (.ireturn, 1) := by decide +kernel
theorem dL_law_843 : decode cL_law 843 = .ok (.aload_n 1, 1) := by decide +kernel
theorem dL_law_844 : decode cL_law 844 = .ok (.aload_n 0, 1) := by decide +kernel
theorem dL_law_845 : decode cL_law 845 = .ok (.iload_n 3, 1) := by decide +kernel
theorem dL_law_846 : decode cL_law 846 = .ok (.iconst 1, 1) := by decide +kernel
theorem dL_law_847 : decode cL_law 847 = .ok (.iadd, 1) := by decide +kernel
theorem dL_law_848 : decode cL_law 848 = .ok (.iaload, 1) := by decide +kernel
theorem dL_law_849 : decode cL_law 849 = .ok (.invokevirtual 111, 3) := by decide +kernel
theorem dL_law_852 : decode cL_law 852 = .ok (.aload_n 2, 1) := by decide +kernel
theorem dL_law_853 : decode cL_law 853 = .ok (.aload_n 0, 1) := by decide +kernel
theorem dL_law_854 : decode cL_law 854 = .ok (.iload_n 3, 1) := by decide +kernel
theorem dL_law_855 : decode cL_law 855 = .ok (.iconst 1, 1) := by decide +kernel
theorem dL_law_856 : decode cL_law 856 = .ok (.iadd, 1) := by decide +kernel
theorem dL_law_857 : decode cL_law 857 = .ok (.iaload, 1) := by decide +kernel
theorem dL_law_858 : decode cL_law 858 = .ok (.invokevirtual 114, 3) := by decide +kernel
theorem dL_law_861 : decode cL_law 861 = .ok (.if_icmp .eq 19, 3) := by decide +kernel
theorem dL_law_864 : decode cL_law 864 = .ok (.iconst 0, 1) := by decide +kernel
theorem dL_law_865 : decode cL_law 865 = .ok (.ireturn, 1) := by decide +kernel
theorem dL_law_866 : decode cL_law 866 = .ok (.aload_n 1, 1) := by decide +kernel
theorem dL_law_867 : decode cL_law 867 = .ok (.invokevirtual 115, 3) := by decide +kernel
theorem dL_law_870 : decode cL_law 870 = .ok (.aload_n 2, 1) := by decide +kernel
theorem dL_law_871 : decode cL_law 871 = .ok (.invokevirtual 119, 3) := by decide +kernel
theorem dL_law_874 : decode cL_law 874 = .ok (.lcmp, 1) := by decide +kernel
theorem dL_law_875 : decode cL_law 875 = .ok (.ifCond .eq 5, 3) := by decide +kernel
theorem dL_law_878 : decode cL_law 878 = .ok (.iconst 0, 1) := by decide +kernel
theorem dL_law_879 : decode cL_law 879 = .ok (.ireturn, 1) := by decide +kernel
theorem dL_law_880 : decode cL_law 880 = .ok (.iinc 3 5, 3) := by decide +kernel
theorem dL_law_883 : decode cL_law 883 = .ok (.goto (-865), 3) := by decide +kernel
theorem dL_law_886 : decode cL_law 886 = .ok (.iconst 1, 1) := by decide +kernel
theorem dL_law_887 : decode cL_law 887 = .ok (.ireturn, 1) := by decide +kernel
end
section
/-! THE LAYER BETWEEN THE MACHINE AND PURE WORLDS: a world is a function from cell numbers to pure cells; references are cell numbers; 'ad' lays them. -/
def xB : List Cond := lw_tbl.filter goodWord
theorem xB_in {w : Cond} (h : w ∈ lw_tbl) (g : goodWord w = true) : w ∈ xB := List.mem_filter.mpr ⟨h, g⟩
theorem xB_tbl {w : Cond} (h : w ∈ xB) : w ∈ lw_tbl := (List.mem_filter.mp h).1
theorem xB_good : GoodIn xB xB := fun _ h => ⟨h, good_of_word (List.mem_filter.mp h).2⟩
def xIsNest : Cond → Bool
  | .fieldLinkNest _ _ _ _ _ _ => true
  | .methodLinkNest _ _ _ _ => true
  | _ => false
def xNest : List Cond := tables_1.filter xIsNest
theorem xNest_in {w : Cond} (h : w ∈ tables_1) (g : xIsNest w = true) : w ∈ xNest := List.mem_filter.mpr ⟨h, g⟩
theorem xNest_warm {w : Cond} (hw : w ∈ xNest) {s U : State} (hW : s.WarmedH U.vm) (h : va_Nw w s) : va_Nw w U := by
  have g := (List.mem_filter.mp hw).2
  cases w <;> simp only [xIsNest] at g <;> first | exact absurd g (by decide) | exact va_Nw.warmF hW h | exact va_Nw.warmM hW h
theorem xNest_tabs {w : Cond} (hw : w ∈ xNest) : w.onTables = true := by
  have g := (List.mem_filter.mp hw).2
  cases w <;> simp only [xIsNest] at g <;> first | exact absurd g (by decide) | rfl
def xw (y : MethodName) (cc : ByteArray) (mL : Nat) (ret : Option FieldType) : List Cond := Cond.code y cc mL ret :: xB
theorem xw_good {y : MethodName} {cc : ByteArray} {mL : Nat} {ret : Option FieldType} (h : Cond.code y cc mL ret ∈ xB) : GoodIn xB (xw y cc mL ret) := fun w hw => by
  rcases List.mem_cons.mp hw with e | e
  · rw [e]; exact xB_good _ h
  · exact xB_good _ e
def xrm (d : Nat) : Room := { frames := d, cells := 0, slots := 0, locals := 40 * d }
/-- a pure cell: ints, longs, references, an object of a class -/
abbrev xC : Type := (Nat × (Nat → Int32)) ⊕ (Nat × (Nat → Int64)) ⊕ (Nat × (Nat → Option Nat)) ⊕ (Nat × List Value)
abbrev xI (n : Nat) (f : Nat → Int32) : xC := .inl (n, f)
abbrev xJ (n : Nat) (f : Nat → Int64) : xC := .inr (.inl (n, f))
abbrev xR (n : Nat) (f : Nat → Option Nat) : xC := .inr (.inr (.inl (n, f)))
abbrev xO (ci : Nat) (fs : List Value) : xC := .inr (.inr (.inr (ci, fs)))
abbrev xWd : Type := Nat → xC
def xv (ad : Nat → Nat) : Value → Value
  | .ref k => .ref (ad k)
  | v => v
theorem xv_cat (ad : Nat → Nat) (v : Value) : (xv ad v).category = v.category := by cases v <;> rfl
def xe (ad : Nat → Nat) (cA : Nat → ClassId) (k : Nat) : xC → va_E
  | .inl (n, f) => .inl (cA k, n, .inl f)
  | .inr (.inl (n, f)) => .inl (cA k, n, .inr (.inl f))
  | .inr (.inr (.inl (n, f))) => .inl (cA k, n, .inr (.inr (.inr (.inr (fun j => (f j).map ad)))))
  | .inr (.inr (.inr (ci, fs))) => .inr (ci, fs.map (xv ad))
/-- kinds of a world: how many cells, what the arrays hold -/
abbrev xKd : Type := Nat × (Nat → Option FieldType)
def xW (ad : Nat → Nat) (cA : Nat → ClassId) (N : Nat) (ω : xWd) : va_W := (List.range N).map (fun k => (ad k, xe ad cA k (ω k)))
theorem xW_get {ad : Nat → Nat} {cA : Nat → ClassId} {N : Nat} {ω : xWd} {k : Nat} (h : k < N) : (xW ad cA N ω)[k]? = some (ad k, xe ad cA k (ω k)) := by
  simp [xW, h]
theorem xW_some {ad : Nat → Nat} {cA : Nat → ClassId} {N : Nat} {ω : xWd} {k : Nat} {q : Nat × va_E} (h : (xW ad cA N ω)[k]? = some q) : k < N ∧ q.1 = ad k := by
  have hk : k < N := by
    have := (List.getElem?_eq_some_iff.mp h).1
    simpa [xW] using this
  rw [xW_get hk] at h
  exact ⟨hk, by rw [← Option.some.inj h]⟩
theorem xW_set {ad : Nat → Nat} {cA : Nat → ClassId} {N : Nat} {ω : xWd} {k : Nat} {c : xC} : (xW ad cA N ω).set k (ad k, xe ad cA k c) = xW ad cA N (va_up ω k c) := by
  apply List.ext_getElem?
  intro i
  rw [List.getElem?_set]
  by_cases hi : i < N
  · by_cases e : k = i
    · subst e
      have hl : k < (xW ad cA N ω).length := by simpa [xW] using hi
      simp [hl, xW_get hi, va_up]
    · simp [e, xW_get hi, va_up, Ne.symm e]
  · have h1 : (xW ad cA N ω)[i]? = none := List.getElem?_eq_none (by simpa [xW] using Nat.not_lt.mp hi)
    have h2 : (xW ad cA N (va_up ω k c))[i]? = none := List.getElem?_eq_none (by simpa [xW] using Nat.not_lt.mp hi)
    rw [h2]
    by_cases e : k = i
    · subst e
      have hl : ¬ k < (xW ad cA N ω).length := by simpa [xW] using hi
      simp [hl]
    · simp [e, h1]
theorem xD_any {A : Nat → Prop} {ad : Nat → Nat} {cA : Nat → ClassId} {N : Nat} {ω ω' : xWd} (h : va_D A (xW ad cA N ω)) : va_D A (xW ad cA N ω') := by
  refine ⟨fun i j p q hi hj e => ?_, fun k q hk => ?_⟩
  · obtain ⟨a1, a2⟩ := xW_some hi
    obtain ⟨b1, b2⟩ := xW_some hj
    exact h.1 i j _ _ (xW_get a1) (xW_get b1) (by show ad i = ad j; rw [← a2, ← b2]; exact e)
  · obtain ⟨a1, a2⟩ := xW_some hk
    rw [a2]
    exact h.2 k _ (xW_get a1)
/-- the cells of a world, and what is made later -/
def xA (ad : Nat → Nat) (N sz : Nat) : Nat → Prop := fun q => (∃ k, k < N ∧ ad k = q) ∨ sz ≤ q
theorem xA_D {A : Nat → Prop} {ad : Nat → Nat} {cA : Nat → ClassId} {N : Nat} {ω : xWd} (h : va_D A (xW ad cA N ω)) {k : Nat} (hk : k < N) : A (ad k) := h.2 k _ (xW_get hk)
/-- what is known of the classes and arrays -/
def xKs (T : xKd) (D : va_G) (cA : Nat → ClassId) (U : State) : Prop :=
  (∀ (c : Nat) (q : vw_C), vwCl[c]? = some q → u_Kn U q.1 q.2.1 q.2.2 (D.1 c) (D.2 c)) ∧ (∀ (k : Nat) (ty : FieldType), k < T.1 → T.2 k = some ty → ArrOfT U (cA k) ty ∧ va_RA U (cA k) ty) ∧ ∀ w ∈ xNest, va_Nw w U
theorem xKs.tys {T : xKd} {D : va_G} {cA : Nat → ClassId} {U : State} (h : xKs T D cA U) {k : Nat} {ty : FieldType} (hk : k < T.1) (ht : T.2 k = some ty) : va_K D vwCl [(cA k, ty)] U := ⟨h.1, fun j q hj => by
  match j, hj with
  | 0, hj => cases hj; exact h.2.1 k ty hk ht
  | j + 1, hj => simp at hj⟩
theorem xKs.nil {T : xKd} {D : va_G} {cA : Nat → ClassId} {U : State} (h : xKs T D cA U) : va_K D vwCl [] U := ⟨h.1, fun j q hj => by simp at hj⟩
theorem xKs.warm {T : xKd} {D : va_G} {cA : Nat → ClassId} {s U : State} (hW : s.WarmedH U.vm) (h : xKs T D cA s) : xKs T D cA U :=
  ⟨fun c q hq => u_Kn_moved hW.alike (h.1 c q hq), fun k ty hk ht => ⟨arrOfT_moved hW.alike (h.2.1 k ty hk ht).1, (h.2.1 k ty hk ht).2.moved hW.alike⟩, fun w hw => xNest_warm hw hW (h.2.2 w hw)⟩
theorem xKs.calling {T : xKd} {D : va_G} {cA : Nat → ClassId} {U : State} {g : JFrame} {mk : MethodId} {a : Array Value} (h : xKs T D cA U) : xKs T D cA (U.calling g mk a) :=
  ⟨fun c q hq => u_Kn_moved (u := U) (U := U.calling g mk a) (Vm.Alike.refl U.vm) (h.1 c q hq), fun k ty hk ht => ⟨arrOfT_moved (E := U.calling g mk a) (Vm.Alike.refl U.vm) (h.2.1 k ty hk ht).1, (h.2.1 k ty hk ht).2.moved (u := U) (U := U.calling g mk a) (Vm.Alike.refl U.vm)⟩, fun w hw => va_Nw.same (xNest_tabs hw) (u := U) (U := U.calling g mk a) rfl (h.2.2 w hw)⟩
/-- a method's end, in worlds -/
def xQ (T : xKd) (D : va_G) (ad : Nat → Nat) (cA : Nat → ClassId) (A : Nat → Prop) (K : Option Value → xWd → Prop) : Array Value → State → Outcome → State → Prop := fun _ st oc t =>
  (∃ (v : Option Value) (ω' : xWd), oc = .returned (v.map (xv ad)) ∧ K v ω' ∧ va_P D vwCl (xW ad cA T.1 ω') t.heap) ∧ va_F A st t
/-- A METHOD'S CONTRACT IN WORLDS: called with these, it returns, and K holds of what it answers and of the world then -/
def XM (l : Launch) (T : xKd) (y : MethodName) (cc : ByteArray) (mL : Nat) (ret : Option FieldType) (d : Nat) (as : List Value) (ω : xWd) (K : Option Value → xWd → Prop) : Prop :=
  ∀ (D : va_G) (ad : Nat → Nat) (cA : Nat → ClassId) (sz : Nat), Met l y (xw y cc mL ret) (xrm d) (va_Pc (as.map (xv ad)) (fun U => U.heap.size = sz ∧ va_P D vwCl (xW ad cA T.1 ω) U.heap ∧ xKs T D cA U ∧ va_D (fun _ => True) (xW ad cA T.1 ω))) (xQ T D ad cA (xA ad T.1 sz) K) 0 0 (xA ad T.1 sz)
theorem XM.mono {l : Launch} {T : xKd} {y : MethodName} {cc : ByteArray} {mL : Nat} {ret : Option FieldType} {d : Nat} {as : List Value} {ω : xWd} {K K' : Option Value → xWd → Prop} (h : XM l T y cc mL ret d as ω K) (hk : ∀ v ω', K v ω' → K' v ω') : XM l T y cc mL ret d as ω K' := by
  intro D ad cA sz p e ha hc hkk s m args below hf hx hP hK
  obtain ⟨n, o, h1, h2, h3, ⟨⟨⟨v, ω', q1, q2, q3⟩, q4⟩, q5⟩⟩ := h D ad cA sz p e ha hc hkk s m args below hf hx hP hK
  exact ⟨n, o, h1, h2, h3, ⟨⟨⟨v, ω', q1, hk _ _ q2, q3⟩, q4⟩, q5⟩⟩
-- what a frame stands in: the machine's parts, and the lay of the world
abbrev xRaw : Type := (Program × Env × Room) × (State × MethodId × Array Value × List Frame) × (Method × Code × Nat × Nat) × ((State → Prop) × (Nat → Prop)) × (va_G × (Nat → Nat) × (Nat → ClassId))
def xok (l : Launch) (T : xKd) (cc : ByteArray) (own : String) (nL : Nat) (ret : Option FieldType) (d : Nat) (q : xRaw) : Prop := match q with
  | ((p, _, R), (s, m, args, _), (meth, c, cells, slots), (_, A), (D, _, cA)) =>
    (p.tables.exec = Jvm.exec ∧ c.code = cc ∧ c.maxLocals = nL ∧ meth.sig.returnType = ret ∧ (∀ w ∈ xB, w.before args s = true) ∧ s.vm.findClass own = some m.cls ∧ meth.locks = false) ∧ xKs T D cA s ∧ (∀ q, s.heap.size ≤ q → A q) ∧ (d ≤ R.frames ∧ 40 * d ≤ R.locals ∧ cells ≤ R.cells ∧ slots ≤ R.slots)
def XC (l : Launch) (T : xKd) (cc : ByteArray) (own : String) (nL : Nat) (ret : Option FieldType) (d : Nat) : Type := { q : xRaw // xok l T cc own nL ret d q }
/-- THE GOAL IN WORLDS: from this place of the code, with these locals, this stack and this world, the method comes to its end -/
def Wat {l : Launch} {T : xKd} {cc : ByteArray} {own : String} {nL : Nat} {ret : Option FieldType} {d : Nat} (κ : XC l T cc own nL ret d) (pc : Nat) (lv : List (Nat × Value)) (st : List Value) (ω : xWd) : Prop := match κ.1 with
  | ((p, e, R), (s, m, args, below), (meth, c, cells, slots), (Q, A), (D, ad, cA)) =>
    ∀ (H : Heap) (locs : List Loc) (ls : Array Slot), va_P D vwCl (xW ad cA T.1 ω) H → va_D A (xW ad cA T.1 ω) → va_S A s.heap H locs → lv_has ls nL (lv.map (fun q => (q.1, xv ad q.2))) → W p l e R s m args below meth c H locs cells slots Q (F0 m pc ls (st.map (xv ad)))
/-- what a return gives -/
def xRet {l : Launch} {T : xKd} {cc : ByteArray} {own : String} {nL : Nat} {ret : Option FieldType} {d : Nat} (κ : XC l T cc own nL ret d) (K : Option Value → xWd → Prop) : Prop := match κ.1 with
  | ((_, _, _), (s, _, args, below), (_, _, cells, slots), (Q, A), (D, ad, cA)) => Q = MQ below (xQ T D ad cA A K) args s cells slots A
theorem lv_args_map (ad : Nat → Nat) : ∀ (as : List Value) (i : Nat), lv_args i (as.map (xv ad)) = (lv_args i as).map (fun q => (q.1, xv ad q.2))
  | [], _ => rfl
  | v :: vs, i => by
    show (i, xv ad v) :: lv_args (if (xv ad v).category = 2 then i + 2 else i + 1) (vs.map (xv ad)) = (i, xv ad v) :: (lv_args (if v.category = 2 then i + 2 else i + 1) vs).map _
    rw [xv_cat, lv_args_map ad vs]
theorem lg_sl_len (ad : Nat → Nat) : ∀ (as : List Value), (lg_sl (as.map (xv ad))).length = (lg_sl as).length
  | [] => rfl
  | v :: vs => by
    have ih := lg_sl_len ad vs
    cases v <;> simp_all [lg_sl, xv, Value.category]
/-- FROM A WALK TO A CONTRACT -/
theorem XM.of {l : Launch} {T : xKd} {y : MethodName} {cc : ByteArray} {mL : Nat} {ret : Option FieldType} {d : Nat} {as : List Value} {ω : xWd} {K : Option Value → xWd → Prop} (hy : plainName y.cls = true) (hlen : (lg_sl as).length ≤ mL)
    (h : ∀ κ : XC l T cc y.cls mL ret d, xRet κ K → Wat κ 0 (lv_args 0 as) [] ω) : XM l T y cc mL ret d as ω K := by
  intro D ad cA sz
  refine Met.ofW (cc := cc) (maxL := mL) (ret := ret) hy rfl ?_
  intro p e s m args below meth c s₁ B hml hv
  obtain ⟨rfl, hsz, hP, hK, hD0⟩ := hv
  have hts := atoms_spec (ws := xw y cc mL ret) B.pre
  subst hsz
  have hA : ∀ q : Nat, s.heap.size ≤ q → xA ad T.1 s.heap.size q := fun q h => Or.inr h
  have hD : va_D (xA ad T.1 s.heap.size) (xW ad cA T.1 ω) := ⟨hD0.1, fun k q hk => by
    obtain ⟨a1, a2⟩ := xW_some hk
    exact Or.inl ⟨k, a1, a2.symm⟩⟩
  have k0 : xok l T cc y.cls mL ret d ((p, e, (headSpec (xw y cc mL ret) (xrm d)).room), (s, m, (as.map (xv ad)).toArray, below), (meth, c, 0, 0), (MQ below (xQ T D ad cA (xA ad T.1 s.heap.size) K) (as.map (xv ad)).toArray s 0 0 (xA ad T.1 s.heap.size), xA ad T.1 s.heap.size), (D, ad, cA)) :=
    ⟨⟨B.exec, B.bytes, hml, B.returns, fun w hw => hts w (List.mem_cons_of_mem _ hw), findClass_of_methodNamed B.named, B.notSynchronized⟩, hK, hA, ⟨Nat.le_refl _, Nat.le_refl _, Nat.le_refl _, Nat.le_refl _⟩⟩
  have W0 := h ⟨_, k0⟩ rfl
  have hl := lv_entry (as.map (xv ad)) (n := mL) (by rw [lg_sl_len]; exact hlen)
  rw [lg_entry_eq]
  rw [lv_args_map] at hl
  exact W0 s.heap [] _ hP hD va_S.rf hl
end
section
theorem xlv_at {ad : Nat → Nat} {ls : Array Slot} {nL : Nat} {lv : List (Nat × Value)} (h : lv_has ls nL (lv.map (fun q => (q.1, xv ad q.2)))) (j : Nat) {i : Nat} {v : Value} (hj : lv[j]? = some (i, v)) : ls[i]? = some (.val (xv ad v)) := lv_at h j (by rw [List.getElem?_map, hj]; rfl)
theorem xpickm (ad : Nat → Nat) (lv : List (Nat × Value)) : ∀ ks : List Nat, lv_pick (lv.map (fun q => (q.1, xv ad q.2))) ks = (lv_pick lv ks).map (fun q => (q.1, xv ad q.2))
  | [] => rfl
  | a :: t => by
    have ih := xpickm ad lv t
    unfold lv_pick at ih ⊢
    rw [List.filterMap_cons, List.filterMap_cons, List.getElem?_map, ih]
    cases lv[a]? <;> rfl
theorem xlv_pick {ad : Nat → Nat} {ls : Array Slot} {nL : Nat} {lv lv' : List (Nat × Value)} (h : lv_has ls nL (lv.map (fun q => (q.1, xv ad q.2)))) (ks : List Nat) (hl : lv_pick lv ks = lv') : lv_has ls nL (lv'.map (fun q => (q.1, xv ad q.2))) := lv_sub h ks (by rw [xpickm, hl])
theorem xflt (P : Nat × Value → Bool) {ad : Nat → Nat} (hP : ∀ q, P (q.1, xv ad q.2) = P q) : ∀ lv : List (Nat × Value), (lv.map (fun q => (q.1, xv ad q.2))).filter P = (lv.filter P).map (fun q => (q.1, xv ad q.2))
  | [] => rfl
  | q :: t => by
    rw [List.map_cons, List.filter_cons, List.filter_cons, hP, xflt P hP t]
    split <;> rfl
theorem xst1 {ad : Nat → Nat} {ls : Array Slot} {nL i : Nat} {v : Value} {lv lv' : List (Nat × Value)} (ks : List Nat) (h : lv_has ls nL ((i, xv ad v) :: (lv.map (fun q => (q.1, xv ad q.2))).filter (fun q => !(q.1 == i) && !(q.1 + 1 == i && q.2.category == 2)))) (hl : lv_pick ((i, v) :: lv.filter (fun q => !(q.1 == i) && !(q.1 + 1 == i && q.2.category == 2))) ks = lv') : lv_has ls nL (lv'.map (fun q => (q.1, xv ad q.2))) := by
  rw [xflt _ (fun q => by rw [xv_cat])] at h
  exact xlv_pick (lv := (i, v) :: lv.filter _) h ks hl
theorem xst2 {ad : Nat → Nat} {ls : Array Slot} {nL i : Nat} {v : Value} {lv lv' : List (Nat × Value)} (ks : List Nat) (h : lv_has ls nL ((i, xv ad v) :: (lv.map (fun q => (q.1, xv ad q.2))).filter (fun q => !(q.1 == i) && (!(q.1 == i + 1) && !(q.1 + 1 == i && q.2.category == 2))))) (hl : lv_pick ((i, v) :: lv.filter (fun q => !(q.1 == i) && (!(q.1 == i + 1) && !(q.1 + 1 == i && q.2.category == 2)))) ks = lv') : lv_has ls nL (lv'.map (fun q => (q.1, xv ad q.2))) := by
  rw [xflt _ (fun q => by rw [xv_cat])] at h
  exact xlv_pick (lv := (i, v) :: lv.filter _) h ks hl
set_option maxHeartbeats 1000000 in
theorem xr_sub {l : Launch} {T : xKd} {cc : ByteArray} {own : String} {nL : Nat} {ret : Option FieldType} {d : Nat} (κ : XC l T cc own nL ret d) {pc : Nat} {lv : List (Nat × Value)} {st : List Value} {ω : xWd} (ks : List Nat) {lv' : List (Nat × Value)} (hlv : lv_pick lv ks = lv') (k : Wat κ pc lv' st ω) : Wat κ pc lv st ω := by
  obtain ⟨⟨⟨p, e, R⟩, ⟨s, m, args, below⟩, ⟨meth, c, cells, slots⟩, ⟨Q, A⟩, ⟨D, ad, cA⟩⟩, ⟨hx, hb, hml, hr, hts, hown, hlocks⟩, hK, hA, hroom⟩ := κ
  intro H locs ls hP hD hS hl
  exact k H locs ls hP hD hS (xlv_pick hl ks hlv)
set_option maxHeartbeats 1000000 in
theorem xr_iconst {l : Launch} {T : xKd} {cc : ByteArray} {own : String} {nL : Nat} {ret : Option FieldType} {d : Nat} (κ : XC l T cc own nL ret d) {pc : Nat} {lv : List (Nat × Value)} {st : List Value} {ω : xWd} {n : Int} {v : Int32} (hd : decode cc pc = .ok (.iconst n, 1)) (hv : Int32.ofInt n = v) (k : Wat κ (pc + 1) lv (.int v :: st) ω) : Wat κ pc lv st ω := by
  obtain ⟨⟨⟨p, e, R⟩, ⟨s, m, args, below⟩, ⟨meth, c, cells, slots⟩, ⟨Q, A⟩, ⟨D, ad, cA⟩⟩, ⟨hx, hb, hml, hr, hts, hown, hlocks⟩, hK, hA, hroom⟩ := κ
  intro H locs ls hP hD hS hl
  exact lv_iconst hx hb hd hv (k H locs ls hP hD hS hl)
set_option maxHeartbeats 1000000 in
theorem xr_bipush {l : Launch} {T : xKd} {cc : ByteArray} {own : String} {nL : Nat} {ret : Option FieldType} {d : Nat} (κ : XC l T cc own nL ret d) {pc : Nat} {lv : List (Nat × Value)} {st : List Value} {ω : xWd} {n : Int} {v : Int32} (hd : decode cc pc = .ok (.bipush n, 2)) (hv : (Int8.ofInt n).toInt32 = v) (k : Wat κ (pc + 2) lv (.int v :: st) ω) : Wat κ pc lv st ω := by
  obtain ⟨⟨⟨p, e, R⟩, ⟨s, m, args, below⟩, ⟨meth, c, cells, slots⟩, ⟨Q, A⟩, ⟨D, ad, cA⟩⟩, ⟨hx, hb, hml, hr, hts, hown, hlocks⟩, hK, hA, hroom⟩ := κ
  intro H locs ls hP hD hS hl
  exact lv_bipush hx hb hd hv (k H locs ls hP hD hS hl)
set_option maxHeartbeats 1000000 in
theorem xr_sipush {l : Launch} {T : xKd} {cc : ByteArray} {own : String} {nL : Nat} {ret : Option FieldType} {d : Nat} (κ : XC l T cc own nL ret d) {pc : Nat} {lv : List (Nat × Value)} {st : List Value} {ω : xWd} {n : Int} {v : Int32} (hd : decode cc pc = .ok (.sipush n, 3)) (hv : (Int16.ofInt n).toInt32 = v) (k : Wat κ (pc + 3) lv (.int v :: st) ω) : Wat κ pc lv st ω := by
  obtain ⟨⟨⟨p, e, R⟩, ⟨s, m, args, below⟩, ⟨meth, c, cells, slots⟩, ⟨Q, A⟩, ⟨D, ad, cA⟩⟩, ⟨hx, hb, hml, hr, hts, hown, hlocks⟩, hK, hA, hroom⟩ := κ
  intro H locs ls hP hD hS hl
  exact lv_sipush hx hb hd hv (k H locs ls hP hD hS hl)
set_option maxHeartbeats 1000000 in
theorem xr_lconst {l : Launch} {T : xKd} {cc : ByteArray} {own : String} {nL : Nat} {ret : Option FieldType} {d : Nat} (κ : XC l T cc own nL ret d) {pc : Nat} {lv : List (Nat × Value)} {st : List Value} {ω : xWd} {n : Fin 2} {v : Int64} (hd : decode cc pc = .ok (.lconst n, 1)) (hv : Int64.ofNat (n : Nat) = v) (k : Wat κ (pc + 1) lv (.long v :: st) ω) : Wat κ pc lv st ω := by
  obtain ⟨⟨⟨p, e, R⟩, ⟨s, m, args, below⟩, ⟨meth, c, cells, slots⟩, ⟨Q, A⟩, ⟨D, ad, cA⟩⟩, ⟨hx, hb, hml, hr, hts, hown, hlocks⟩, hK, hA, hroom⟩ := κ
  intro H locs ls hP hD hS hl
  exact lv_lconst hx hb hd hv (k H locs ls hP hD hS hl)
set_option maxHeartbeats 1000000 in
theorem xr_ldc2 {l : Launch} {T : xKd} {cc : ByteArray} {own : String} {nL : Nat} {ret : Option FieldType} {d : Nat} (κ : XC l T cc own nL ret d) {pc : Nat} {lv : List (Nat × Value)} {st : List Value} {ω : xWd} {ix : Nat} {v : Int64} (hc : Cond.constantLong own ix v ∈ xB) (hd : decode cc pc = .ok (.ldc2_w ix, 3)) (k : Wat κ (pc + 3) lv (.long v :: st) ω) : Wat κ pc lv st ω := by
  obtain ⟨⟨⟨p, e, R⟩, ⟨s, m, args, below⟩, ⟨meth, c, cells, slots⟩, ⟨Q, A⟩, ⟨D, ad, cA⟩⟩, ⟨hx, hb, hml, hr, hts, hown, hlocks⟩, hK, hA, hroom⟩ := κ
  intro H locs ls hP hD hS hl
  exact lv_ldc2 hx hb hown (hts _ hc) hd (k H locs ls hP hD hS hl)
set_option maxHeartbeats 1000000 in
theorem xr_ldcw {l : Launch} {T : xKd} {cc : ByteArray} {own : String} {nL : Nat} {ret : Option FieldType} {d : Nat} (κ : XC l T cc own nL ret d) {pc : Nat} {lv : List (Nat × Value)} {st : List Value} {ω : xWd} {ix : Nat} {v : Int32} (hc : Cond.constant own ix v ∈ xB) (hd : decode cc pc = .ok (.ldc_w ix, 3)) (k : Wat κ (pc + 3) lv (.int v :: st) ω) : Wat κ pc lv st ω := by
  obtain ⟨⟨⟨p, e, R⟩, ⟨s, m, args, below⟩, ⟨meth, c, cells, slots⟩, ⟨Q, A⟩, ⟨D, ad, cA⟩⟩, ⟨hx, hb, hml, hr, hts, hown, hlocks⟩, hK, hA, hroom⟩ := κ
  intro H locs ls hP hD hS hl
  exact lv_ldcw hx hb hown (hts _ hc) hd (k H locs ls hP hD hS hl)
set_option maxHeartbeats 1000000 in
theorem xr_ldc {l : Launch} {T : xKd} {cc : ByteArray} {own : String} {nL : Nat} {ret : Option FieldType} {d : Nat} (κ : XC l T cc own nL ret d) {pc : Nat} {lv : List (Nat × Value)} {st : List Value} {ω : xWd} {ix : Nat} {v : Int32} (hc : Cond.constant own ix v ∈ xB) (hd : decode cc pc = .ok (.ldc ix, 2)) (k : Wat κ (pc + 2) lv (.int v :: st) ω) : Wat κ pc lv st ω := by
  obtain ⟨⟨⟨p, e, R⟩, ⟨s, m, args, below⟩, ⟨meth, c, cells, slots⟩, ⟨Q, A⟩, ⟨D, ad, cA⟩⟩, ⟨hx, hb, hml, hr, hts, hown, hlocks⟩, hK, hA, hroom⟩ := κ
  intro H locs ls hP hD hS hl
  exact lv_ldc hx hb hown (hts _ hc) hd (k H locs ls hP hD hS hl)
set_option maxHeartbeats 1000000 in
theorem xr_iload_n {l : Launch} {T : xKd} {cc : ByteArray} {own : String} {nL : Nat} {ret : Option FieldType} {d : Nat} (κ : XC l T cc own nL ret d) {pc : Nat} {lv : List (Nat × Value)} {st : List Value} {ω : xWd} (j : Nat) {n : Fin 4} {i : Nat} {x : Int32} (hd : decode cc pc = .ok (.iload_n n, 1)) (hi : (n : Nat) = i) (hj : lv[j]? = some (i, .int x)) (k : Wat κ (pc + 1) lv (.int x :: st) ω) : Wat κ pc lv st ω := by
  obtain ⟨⟨⟨p, e, R⟩, ⟨s, m, args, below⟩, ⟨meth, c, cells, slots⟩, ⟨Q, A⟩, ⟨D, ad, cA⟩⟩, ⟨hx, hb, hml, hr, hts, hown, hlocks⟩, hK, hA, hroom⟩ := κ
  intro H locs ls hP hD hS hl
  exact lv_iload_n hx hb hd hi (xlv_at hl j hj) (k H locs ls hP hD hS hl)
set_option maxHeartbeats 1000000 in
theorem xr_iload {l : Launch} {T : xKd} {cc : ByteArray} {own : String} {nL : Nat} {ret : Option FieldType} {d : Nat} (κ : XC l T cc own nL ret d) {pc : Nat} {lv : List (Nat × Value)} {st : List Value} {ω : xWd} (j : Nat) {i : Nat} {x : Int32} (hd : decode cc pc = .ok (.iload i, 2)) (hj : lv[j]? = some (i, .int x)) (k : Wat κ (pc + 2) lv (.int x :: st) ω) : Wat κ pc lv st ω := by
  obtain ⟨⟨⟨p, e, R⟩, ⟨s, m, args, below⟩, ⟨meth, c, cells, slots⟩, ⟨Q, A⟩, ⟨D, ad, cA⟩⟩, ⟨hx, hb, hml, hr, hts, hown, hlocks⟩, hK, hA, hroom⟩ := κ
  intro H locs ls hP hD hS hl
  exact lv_iload hx hb hd (xlv_at hl j hj) (k H locs ls hP hD hS hl)
set_option maxHeartbeats 1000000 in
theorem xr_istore_n {l : Launch} {T : xKd} {cc : ByteArray} {own : String} {nL : Nat} {ret : Option FieldType} {d : Nat} (κ : XC l T cc own nL ret d) {pc : Nat} {lv : List (Nat × Value)} {st : List Value} {ω : xWd} (ks : List Nat) {lv' : List (Nat × Value)} {n : Fin 4} {i : Nat} {x : Int32} (hd : decode cc pc = .ok (.istore_n n, 1)) (hi : (n : Nat) = i) (hn : i < nL) (hlv : lv_pick ((i, .int x) :: lv.filter (fun q => !(q.1 == i) && !(q.1 + 1 == i && q.2.category == 2))) ks = lv') (k : Wat κ (pc + 1) lv' (st) ω) : Wat κ pc lv (.int x :: st) ω := by
  obtain ⟨⟨⟨p, e, R⟩, ⟨s, m, args, below⟩, ⟨meth, c, cells, slots⟩, ⟨Q, A⟩, ⟨D, ad, cA⟩⟩, ⟨hx, hb, hml, hr, hts, hown, hlocks⟩, hK, hA, hroom⟩ := κ
  intro H locs ls hP hD hS hl
  exact lv_istore_n hx hb hd hi hl hn rfl (fun ls1 hl1 => k H locs ls1 hP hD hS (xst1 (v := .int x) ks hl1 hlv))
set_option maxHeartbeats 1000000 in
theorem xr_istore {l : Launch} {T : xKd} {cc : ByteArray} {own : String} {nL : Nat} {ret : Option FieldType} {d : Nat} (κ : XC l T cc own nL ret d) {pc : Nat} {lv : List (Nat × Value)} {st : List Value} {ω : xWd} (ks : List Nat) {lv' : List (Nat × Value)} {i : Nat} {x : Int32} (hd : decode cc pc = .ok (.istore i, 2)) (hn : i < nL) (hlv : lv_pick ((i, .int x) :: lv.filter (fun q => !(q.1 == i) && !(q.1 + 1 == i && q.2.category == 2))) ks = lv') (k : Wat κ (pc + 2) lv' (st) ω) : Wat κ pc lv (.int x :: st) ω := by
  obtain ⟨⟨⟨p, e, R⟩, ⟨s, m, args, below⟩, ⟨meth, c, cells, slots⟩, ⟨Q, A⟩, ⟨D, ad, cA⟩⟩, ⟨hx, hb, hml, hr, hts, hown, hlocks⟩, hK, hA, hroom⟩ := κ
  intro H locs ls hP hD hS hl
  exact lv_istore hx hb hd hl hn rfl (fun ls1 hl1 => k H locs ls1 hP hD hS (xst1 (v := .int x) ks hl1 hlv))
set_option maxHeartbeats 1000000 in
theorem xr_lload_n {l : Launch} {T : xKd} {cc : ByteArray} {own : String} {nL : Nat} {ret : Option FieldType} {d : Nat} (κ : XC l T cc own nL ret d) {pc : Nat} {lv : List (Nat × Value)} {st : List Value} {ω : xWd} (j : Nat) {n : Fin 4} {i : Nat} {x : Int64} (hd : decode cc pc = .ok (.lload_n n, 1)) (hi : (n : Nat) = i) (hj : lv[j]? = some (i, .long x)) (k : Wat κ (pc + 1) lv (.long x :: st) ω) : Wat κ pc lv st ω := by
  obtain ⟨⟨⟨p, e, R⟩, ⟨s, m, args, below⟩, ⟨meth, c, cells, slots⟩, ⟨Q, A⟩, ⟨D, ad, cA⟩⟩, ⟨hx, hb, hml, hr, hts, hown, hlocks⟩, hK, hA, hroom⟩ := κ
  intro H locs ls hP hD hS hl
  exact lv_lload_n hx hb hd hi (xlv_at hl j hj) (k H locs ls hP hD hS hl)
set_option maxHeartbeats 1000000 in
theorem xr_lload {l : Launch} {T : xKd} {cc : ByteArray} {own : String} {nL : Nat} {ret : Option FieldType} {d : Nat} (κ : XC l T cc own nL ret d) {pc : Nat} {lv : List (Nat × Value)} {st : List Value} {ω : xWd} (j : Nat) {i : Nat} {x : Int64} (hd : decode cc pc = .ok (.lload i, 2)) (hj : lv[j]? = some (i, .long x)) (k : Wat κ (pc + 2) lv (.long x :: st) ω) : Wat κ pc lv st ω := by
  obtain ⟨⟨⟨p, e, R⟩, ⟨s, m, args, below⟩, ⟨meth, c, cells, slots⟩, ⟨Q, A⟩, ⟨D, ad, cA⟩⟩, ⟨hx, hb, hml, hr, hts, hown, hlocks⟩, hK, hA, hroom⟩ := κ
  intro H locs ls hP hD hS hl
  exact lv_lload hx hb hd (xlv_at hl j hj) (k H locs ls hP hD hS hl)
set_option maxHeartbeats 1000000 in
theorem xr_lstore_n {l : Launch} {T : xKd} {cc : ByteArray} {own : String} {nL : Nat} {ret : Option FieldType} {d : Nat} (κ : XC l T cc own nL ret d) {pc : Nat} {lv : List (Nat × Value)} {st : List Value} {ω : xWd} (ks : List Nat) {lv' : List (Nat × Value)} {n : Fin 4} {i : Nat} {x : Int64} (hd : decode cc pc = .ok (.lstore_n n, 1)) (hi : (n : Nat) = i) (hn : i + 1 < nL) (hlv : lv_pick ((i, .long x) :: lv.filter (fun q => !(q.1 == i) && (!(q.1 == i + 1) && !(q.1 + 1 == i && q.2.category == 2)))) ks = lv') (k : Wat κ (pc + 1) lv' (st) ω) : Wat κ pc lv (.long x :: st) ω := by
  obtain ⟨⟨⟨p, e, R⟩, ⟨s, m, args, below⟩, ⟨meth, c, cells, slots⟩, ⟨Q, A⟩, ⟨D, ad, cA⟩⟩, ⟨hx, hb, hml, hr, hts, hown, hlocks⟩, hK, hA, hroom⟩ := κ
  intro H locs ls hP hD hS hl
  exact lv_lstore_n hx hb hd hi hl hn rfl (fun ls1 hl1 => k H locs ls1 hP hD hS (xst2 (v := .long x) ks hl1 hlv))
set_option maxHeartbeats 1000000 in
theorem xr_lstore {l : Launch} {T : xKd} {cc : ByteArray} {own : String} {nL : Nat} {ret : Option FieldType} {d : Nat} (κ : XC l T cc own nL ret d) {pc : Nat} {lv : List (Nat × Value)} {st : List Value} {ω : xWd} (ks : List Nat) {lv' : List (Nat × Value)} {i : Nat} {x : Int64} (hd : decode cc pc = .ok (.lstore i, 2)) (hn : i + 1 < nL) (hlv : lv_pick ((i, .long x) :: lv.filter (fun q => !(q.1 == i) && (!(q.1 == i + 1) && !(q.1 + 1 == i && q.2.category == 2)))) ks = lv') (k : Wat κ (pc + 2) lv' (st) ω) : Wat κ pc lv (.long x :: st) ω := by
  obtain ⟨⟨⟨p, e, R⟩, ⟨s, m, args, below⟩, ⟨meth, c, cells, slots⟩, ⟨Q, A⟩, ⟨D, ad, cA⟩⟩, ⟨hx, hb, hml, hr, hts, hown, hlocks⟩, hK, hA, hroom⟩ := κ
  intro H locs ls hP hD hS hl
  exact lv_lstore hx hb hd hl hn rfl (fun ls1 hl1 => k H locs ls1 hP hD hS (xst2 (v := .long x) ks hl1 hlv))
set_option maxHeartbeats 1000000 in
theorem xr_aload_n {l : Launch} {T : xKd} {cc : ByteArray} {own : String} {nL : Nat} {ret : Option FieldType} {d : Nat} (κ : XC l T cc own nL ret d) {pc : Nat} {lv : List (Nat × Value)} {st : List Value} {ω : xWd} (j : Nat) {n : Fin 4} {i : Nat} {x : Nat} (hd : decode cc pc = .ok (.aload_n n, 1)) (hi : (n : Nat) = i) (hj : lv[j]? = some (i, .ref x)) (k : Wat κ (pc + 1) lv (.ref x :: st) ω) : Wat κ pc lv st ω := by
  obtain ⟨⟨⟨p, e, R⟩, ⟨s, m, args, below⟩, ⟨meth, c, cells, slots⟩, ⟨Q, A⟩, ⟨D, ad, cA⟩⟩, ⟨hx, hb, hml, hr, hts, hown, hlocks⟩, hK, hA, hroom⟩ := κ
  intro H locs ls hP hD hS hl
  exact lv_aload_n hx hb hd hi (xlv_at hl j hj) (k H locs ls hP hD hS hl)
set_option maxHeartbeats 1000000 in
theorem xr_aload {l : Launch} {T : xKd} {cc : ByteArray} {own : String} {nL : Nat} {ret : Option FieldType} {d : Nat} (κ : XC l T cc own nL ret d) {pc : Nat} {lv : List (Nat × Value)} {st : List Value} {ω : xWd} (j : Nat) {i : Nat} {x : Nat} (hd : decode cc pc = .ok (.aload i, 2)) (hj : lv[j]? = some (i, .ref x)) (k : Wat κ (pc + 2) lv (.ref x :: st) ω) : Wat κ pc lv st ω := by
  obtain ⟨⟨⟨p, e, R⟩, ⟨s, m, args, below⟩, ⟨meth, c, cells, slots⟩, ⟨Q, A⟩, ⟨D, ad, cA⟩⟩, ⟨hx, hb, hml, hr, hts, hown, hlocks⟩, hK, hA, hroom⟩ := κ
  intro H locs ls hP hD hS hl
  exact lv_aload hx hb hd (xlv_at hl j hj) (k H locs ls hP hD hS hl)
set_option maxHeartbeats 1000000 in
theorem xr_astore_n {l : Launch} {T : xKd} {cc : ByteArray} {own : String} {nL : Nat} {ret : Option FieldType} {d : Nat} (κ : XC l T cc own nL ret d) {pc : Nat} {lv : List (Nat × Value)} {st : List Value} {ω : xWd} (ks : List Nat) {lv' : List (Nat × Value)} {n : Fin 4} {i : Nat} {x : Nat} (hd : decode cc pc = .ok (.astore_n n, 1)) (hi : (n : Nat) = i) (hn : i < nL) (hlv : lv_pick ((i, .ref x) :: lv.filter (fun q => !(q.1 == i) && !(q.1 + 1 == i && q.2.category == 2))) ks = lv') (k : Wat κ (pc + 1) lv' (st) ω) : Wat κ pc lv (.ref x :: st) ω := by
  obtain ⟨⟨⟨p, e, R⟩, ⟨s, m, args, below⟩, ⟨meth, c, cells, slots⟩, ⟨Q, A⟩, ⟨D, ad, cA⟩⟩, ⟨hx, hb, hml, hr, hts, hown, hlocks⟩, hK, hA, hroom⟩ := κ
  intro H locs ls hP hD hS hl
  exact lv_astore_n hx hb hd hi hl hn rfl (fun ls1 hl1 => k H locs ls1 hP hD hS (xst1 (v := .ref x) ks hl1 hlv))
set_option maxHeartbeats 1000000 in
theorem xr_astore {l : Launch} {T : xKd} {cc : ByteArray} {own : String} {nL : Nat} {ret : Option FieldType} {d : Nat} (κ : XC l T cc own nL ret d) {pc : Nat} {lv : List (Nat × Value)} {st : List Value} {ω : xWd} (ks : List Nat) {lv' : List (Nat × Value)} {i : Nat} {x : Nat} (hd : decode cc pc = .ok (.astore i, 2)) (hn : i < nL) (hlv : lv_pick ((i, .ref x) :: lv.filter (fun q => !(q.1 == i) && !(q.1 + 1 == i && q.2.category == 2))) ks = lv') (k : Wat κ (pc + 2) lv' (st) ω) : Wat κ pc lv (.ref x :: st) ω := by
  obtain ⟨⟨⟨p, e, R⟩, ⟨s, m, args, below⟩, ⟨meth, c, cells, slots⟩, ⟨Q, A⟩, ⟨D, ad, cA⟩⟩, ⟨hx, hb, hml, hr, hts, hown, hlocks⟩, hK, hA, hroom⟩ := κ
  intro H locs ls hP hD hS hl
  exact lv_astore hx hb hd hl hn rfl (fun ls1 hl1 => k H locs ls1 hP hD hS (xst1 (v := .ref x) ks hl1 hlv))
set_option maxHeartbeats 1000000 in
theorem xr_iinc {l : Launch} {T : xKd} {cc : ByteArray} {own : String} {nL : Nat} {ret : Option FieldType} {d : Nat} (κ : XC l T cc own nL ret d) {pc : Nat} {lv : List (Nat × Value)} {st : List Value} {ω : xWd} (j : Nat) (ks : List Nat) {lv' : List (Nat × Value)} {i : Nat} {n : Int} {x v : Int32} (hd : decode cc pc = .ok (.iinc i n, 3)) (hj : lv[j]? = some (i, .int x)) (hv : x + Int32.ofInt n = v) (hn : i < nL) (hlv : lv_pick ((i, .int v) :: lv.filter (fun q => !(q.1 == i) && !(q.1 + 1 == i && q.2.category == 2))) ks = lv') (k : Wat κ (pc + 3) lv' (st) ω) : Wat κ pc lv st ω := by
  obtain ⟨⟨⟨p, e, R⟩, ⟨s, m, args, below⟩, ⟨meth, c, cells, slots⟩, ⟨Q, A⟩, ⟨D, ad, cA⟩⟩, ⟨hx, hb, hml, hr, hts, hown, hlocks⟩, hK, hA, hroom⟩ := κ
  intro H locs ls hP hD hS hl
  exact lv_iinc (k := j) (x := x) hx hb hd hl (by rw [List.getElem?_map, hj]; rfl) hv hn rfl (fun ls1 hl1 => k H locs ls1 hP hD hS (xst1 (v := .int v) ks hl1 hlv))
set_option maxHeartbeats 1000000 in
theorem xr_iadd {l : Launch} {T : xKd} {cc : ByteArray} {own : String} {nL : Nat} {ret : Option FieldType} {d : Nat} (κ : XC l T cc own nL ret d) {pc : Nat} {lv : List (Nat × Value)} {st : List Value} {ω : xWd} {x y : Int32} (hd : decode cc pc = .ok (.iadd, 1)) (k : Wat κ (pc + 1) lv (.int (x + y) :: st) ω) : Wat κ pc lv (.int y :: .int x :: st) ω := by
  obtain ⟨⟨⟨p, e, R⟩, ⟨s, m, args, below⟩, ⟨meth, c, cells, slots⟩, ⟨Q, A⟩, ⟨D, ad, cA⟩⟩, ⟨hx, hb, hml, hr, hts, hown, hlocks⟩, hK, hA, hroom⟩ := κ
  intro H locs ls hP hD hS hl
  exact lv_iadd hx hb hd (k H locs ls hP hD hS hl)
set_option maxHeartbeats 1000000 in
theorem xr_isub {l : Launch} {T : xKd} {cc : ByteArray} {own : String} {nL : Nat} {ret : Option FieldType} {d : Nat} (κ : XC l T cc own nL ret d) {pc : Nat} {lv : List (Nat × Value)} {st : List Value} {ω : xWd} {x y : Int32} (hd : decode cc pc = .ok (.isub, 1)) (k : Wat κ (pc + 1) lv (.int (x - y) :: st) ω) : Wat κ pc lv (.int y :: .int x :: st) ω := by
  obtain ⟨⟨⟨p, e, R⟩, ⟨s, m, args, below⟩, ⟨meth, c, cells, slots⟩, ⟨Q, A⟩, ⟨D, ad, cA⟩⟩, ⟨hx, hb, hml, hr, hts, hown, hlocks⟩, hK, hA, hroom⟩ := κ
  intro H locs ls hP hD hS hl
  exact lv_isub hx hb hd (k H locs ls hP hD hS hl)
set_option maxHeartbeats 1000000 in
theorem xr_imul {l : Launch} {T : xKd} {cc : ByteArray} {own : String} {nL : Nat} {ret : Option FieldType} {d : Nat} (κ : XC l T cc own nL ret d) {pc : Nat} {lv : List (Nat × Value)} {st : List Value} {ω : xWd} {x y : Int32} (hd : decode cc pc = .ok (.imul, 1)) (k : Wat κ (pc + 1) lv (.int (x * y) :: st) ω) : Wat κ pc lv (.int y :: .int x :: st) ω := by
  obtain ⟨⟨⟨p, e, R⟩, ⟨s, m, args, below⟩, ⟨meth, c, cells, slots⟩, ⟨Q, A⟩, ⟨D, ad, cA⟩⟩, ⟨hx, hb, hml, hr, hts, hown, hlocks⟩, hK, hA, hroom⟩ := κ
  intro H locs ls hP hD hS hl
  exact lv_imul hx hb hd (k H locs ls hP hD hS hl)
set_option maxHeartbeats 1000000 in
theorem xr_iand {l : Launch} {T : xKd} {cc : ByteArray} {own : String} {nL : Nat} {ret : Option FieldType} {d : Nat} (κ : XC l T cc own nL ret d) {pc : Nat} {lv : List (Nat × Value)} {st : List Value} {ω : xWd} {x y : Int32} (hd : decode cc pc = .ok (.iand, 1)) (k : Wat κ (pc + 1) lv (.int (x &&& y) :: st) ω) : Wat κ pc lv (.int y :: .int x :: st) ω := by
  obtain ⟨⟨⟨p, e, R⟩, ⟨s, m, args, below⟩, ⟨meth, c, cells, slots⟩, ⟨Q, A⟩, ⟨D, ad, cA⟩⟩, ⟨hx, hb, hml, hr, hts, hown, hlocks⟩, hK, hA, hroom⟩ := κ
  intro H locs ls hP hD hS hl
  exact lv_iand hx hb hd (k H locs ls hP hD hS hl)
set_option maxHeartbeats 1000000 in
theorem xr_ior {l : Launch} {T : xKd} {cc : ByteArray} {own : String} {nL : Nat} {ret : Option FieldType} {d : Nat} (κ : XC l T cc own nL ret d) {pc : Nat} {lv : List (Nat × Value)} {st : List Value} {ω : xWd} {x y : Int32} (hd : decode cc pc = .ok (.ior, 1)) (k : Wat κ (pc + 1) lv (.int (x ||| y) :: st) ω) : Wat κ pc lv (.int y :: .int x :: st) ω := by
  obtain ⟨⟨⟨p, e, R⟩, ⟨s, m, args, below⟩, ⟨meth, c, cells, slots⟩, ⟨Q, A⟩, ⟨D, ad, cA⟩⟩, ⟨hx, hb, hml, hr, hts, hown, hlocks⟩, hK, hA, hroom⟩ := κ
  intro H locs ls hP hD hS hl
  exact lv_ior hx hb hd (k H locs ls hP hD hS hl)
set_option maxHeartbeats 1000000 in
theorem xr_ixor {l : Launch} {T : xKd} {cc : ByteArray} {own : String} {nL : Nat} {ret : Option FieldType} {d : Nat} (κ : XC l T cc own nL ret d) {pc : Nat} {lv : List (Nat × Value)} {st : List Value} {ω : xWd} {x y : Int32} (hd : decode cc pc = .ok (.ixor, 1)) (k : Wat κ (pc + 1) lv (.int (x ^^^ y) :: st) ω) : Wat κ pc lv (.int y :: .int x :: st) ω := by
  obtain ⟨⟨⟨p, e, R⟩, ⟨s, m, args, below⟩, ⟨meth, c, cells, slots⟩, ⟨Q, A⟩, ⟨D, ad, cA⟩⟩, ⟨hx, hb, hml, hr, hts, hown, hlocks⟩, hK, hA, hroom⟩ := κ
  intro H locs ls hP hD hS hl
  exact lv_ixor hx hb hd (k H locs ls hP hD hS hl)
set_option maxHeartbeats 1000000 in
theorem xr_ishl {l : Launch} {T : xKd} {cc : ByteArray} {own : String} {nL : Nat} {ret : Option FieldType} {d : Nat} (κ : XC l T cc own nL ret d) {pc : Nat} {lv : List (Nat × Value)} {st : List Value} {ω : xWd} {x y : Int32} (hd : decode cc pc = .ok (.ishl, 1)) (k : Wat κ (pc + 1) lv (.int (x <<< (y &&& 31)) :: st) ω) : Wat κ pc lv (.int y :: .int x :: st) ω := by
  obtain ⟨⟨⟨p, e, R⟩, ⟨s, m, args, below⟩, ⟨meth, c, cells, slots⟩, ⟨Q, A⟩, ⟨D, ad, cA⟩⟩, ⟨hx, hb, hml, hr, hts, hown, hlocks⟩, hK, hA, hroom⟩ := κ
  intro H locs ls hP hD hS hl
  exact lv_ishl hx hb hd (k H locs ls hP hD hS hl)
set_option maxHeartbeats 1000000 in
theorem xr_ishr {l : Launch} {T : xKd} {cc : ByteArray} {own : String} {nL : Nat} {ret : Option FieldType} {d : Nat} (κ : XC l T cc own nL ret d) {pc : Nat} {lv : List (Nat × Value)} {st : List Value} {ω : xWd} {x y : Int32} (hd : decode cc pc = .ok (.ishr, 1)) (k : Wat κ (pc + 1) lv (.int (x >>> (y &&& 31)) :: st) ω) : Wat κ pc lv (.int y :: .int x :: st) ω := by
  obtain ⟨⟨⟨p, e, R⟩, ⟨s, m, args, below⟩, ⟨meth, c, cells, slots⟩, ⟨Q, A⟩, ⟨D, ad, cA⟩⟩, ⟨hx, hb, hml, hr, hts, hown, hlocks⟩, hK, hA, hroom⟩ := κ
  intro H locs ls hP hD hS hl
  exact lv_ishr hx hb hd (k H locs ls hP hD hS hl)
set_option maxHeartbeats 1000000 in
theorem xr_ladd {l : Launch} {T : xKd} {cc : ByteArray} {own : String} {nL : Nat} {ret : Option FieldType} {d : Nat} (κ : XC l T cc own nL ret d) {pc : Nat} {lv : List (Nat × Value)} {st : List Value} {ω : xWd} {x y : Int64} (hd : decode cc pc = .ok (.ladd, 1)) (k : Wat κ (pc + 1) lv (.long (x + y) :: st) ω) : Wat κ pc lv (.long y :: .long x :: st) ω := by
  obtain ⟨⟨⟨p, e, R⟩, ⟨s, m, args, below⟩, ⟨meth, c, cells, slots⟩, ⟨Q, A⟩, ⟨D, ad, cA⟩⟩, ⟨hx, hb, hml, hr, hts, hown, hlocks⟩, hK, hA, hroom⟩ := κ
  intro H locs ls hP hD hS hl
  exact lv_ladd hx hb hd (k H locs ls hP hD hS hl)
set_option maxHeartbeats 1000000 in
theorem xr_lsub {l : Launch} {T : xKd} {cc : ByteArray} {own : String} {nL : Nat} {ret : Option FieldType} {d : Nat} (κ : XC l T cc own nL ret d) {pc : Nat} {lv : List (Nat × Value)} {st : List Value} {ω : xWd} {x y : Int64} (hd : decode cc pc = .ok (.lsub, 1)) (k : Wat κ (pc + 1) lv (.long (x - y) :: st) ω) : Wat κ pc lv (.long y :: .long x :: st) ω := by
  obtain ⟨⟨⟨p, e, R⟩, ⟨s, m, args, below⟩, ⟨meth, c, cells, slots⟩, ⟨Q, A⟩, ⟨D, ad, cA⟩⟩, ⟨hx, hb, hml, hr, hts, hown, hlocks⟩, hK, hA, hroom⟩ := κ
  intro H locs ls hP hD hS hl
  exact lv_lsub hx hb hd (k H locs ls hP hD hS hl)
set_option maxHeartbeats 1000000 in
theorem xr_lmul {l : Launch} {T : xKd} {cc : ByteArray} {own : String} {nL : Nat} {ret : Option FieldType} {d : Nat} (κ : XC l T cc own nL ret d) {pc : Nat} {lv : List (Nat × Value)} {st : List Value} {ω : xWd} {x y : Int64} (hd : decode cc pc = .ok (.lmul, 1)) (k : Wat κ (pc + 1) lv (.long (x * y) :: st) ω) : Wat κ pc lv (.long y :: .long x :: st) ω := by
  obtain ⟨⟨⟨p, e, R⟩, ⟨s, m, args, below⟩, ⟨meth, c, cells, slots⟩, ⟨Q, A⟩, ⟨D, ad, cA⟩⟩, ⟨hx, hb, hml, hr, hts, hown, hlocks⟩, hK, hA, hroom⟩ := κ
  intro H locs ls hP hD hS hl
  exact lv_lmul hx hb hd (k H locs ls hP hD hS hl)
set_option maxHeartbeats 1000000 in
theorem xr_idiv {l : Launch} {T : xKd} {cc : ByteArray} {own : String} {nL : Nat} {ret : Option FieldType} {d : Nat} (κ : XC l T cc own nL ret d) {pc : Nat} {lv : List (Nat × Value)} {st : List Value} {ω : xWd} {x y : Int32} (hne : ¬ y = 0) (hd : decode cc pc = .ok (.idiv, 1)) (k : Wat κ (pc + 1) lv (.int (x / y) :: st) ω) : Wat κ pc lv (.int y :: .int x :: st) ω := by
  obtain ⟨⟨⟨p, e, R⟩, ⟨s, m, args, below⟩, ⟨meth, c, cells, slots⟩, ⟨Q, A⟩, ⟨D, ad, cA⟩⟩, ⟨hx, hb, hml, hr, hts, hown, hlocks⟩, hK, hA, hroom⟩ := κ
  intro H locs ls hP hD hS hl
  exact lv_idiv hx hb hd hne (k H locs ls hP hD hS hl)
set_option maxHeartbeats 1000000 in
theorem xr_irem {l : Launch} {T : xKd} {cc : ByteArray} {own : String} {nL : Nat} {ret : Option FieldType} {d : Nat} (κ : XC l T cc own nL ret d) {pc : Nat} {lv : List (Nat × Value)} {st : List Value} {ω : xWd} {x y : Int32} (hne : ¬ y = 0) (hd : decode cc pc = .ok (.irem, 1)) (k : Wat κ (pc + 1) lv (.int (x - x / y * y) :: st) ω) : Wat κ pc lv (.int y :: .int x :: st) ω := by
  obtain ⟨⟨⟨p, e, R⟩, ⟨s, m, args, below⟩, ⟨meth, c, cells, slots⟩, ⟨Q, A⟩, ⟨D, ad, cA⟩⟩, ⟨hx, hb, hml, hr, hts, hown, hlocks⟩, hK, hA, hroom⟩ := κ
  intro H locs ls hP hD hS hl
  exact lv_irem hx hb hd hne (k H locs ls hP hD hS hl)
set_option maxHeartbeats 1000000 in
theorem xr_ldiv {l : Launch} {T : xKd} {cc : ByteArray} {own : String} {nL : Nat} {ret : Option FieldType} {d : Nat} (κ : XC l T cc own nL ret d) {pc : Nat} {lv : List (Nat × Value)} {st : List Value} {ω : xWd} {x y : Int64} (hne : ¬ y = 0) (hd : decode cc pc = .ok (.ldiv, 1)) (k : Wat κ (pc + 1) lv (.long (x / y) :: st) ω) : Wat κ pc lv (.long y :: .long x :: st) ω := by
  obtain ⟨⟨⟨p, e, R⟩, ⟨s, m, args, below⟩, ⟨meth, c, cells, slots⟩, ⟨Q, A⟩, ⟨D, ad, cA⟩⟩, ⟨hx, hb, hml, hr, hts, hown, hlocks⟩, hK, hA, hroom⟩ := κ
  intro H locs ls hP hD hS hl
  exact lv_ldiv hx hb hd hne (k H locs ls hP hD hS hl)
set_option maxHeartbeats 1000000 in
theorem xr_lrem {l : Launch} {T : xKd} {cc : ByteArray} {own : String} {nL : Nat} {ret : Option FieldType} {d : Nat} (κ : XC l T cc own nL ret d) {pc : Nat} {lv : List (Nat × Value)} {st : List Value} {ω : xWd} {x y : Int64} (hne : ¬ y = 0) (hd : decode cc pc = .ok (.lrem, 1)) (k : Wat κ (pc + 1) lv (.long (x - x / y * y) :: st) ω) : Wat κ pc lv (.long y :: .long x :: st) ω := by
  obtain ⟨⟨⟨p, e, R⟩, ⟨s, m, args, below⟩, ⟨meth, c, cells, slots⟩, ⟨Q, A⟩, ⟨D, ad, cA⟩⟩, ⟨hx, hb, hml, hr, hts, hown, hlocks⟩, hK, hA, hroom⟩ := κ
  intro H locs ls hP hD hS hl
  exact lv_lrem hx hb hd hne (k H locs ls hP hD hS hl)
set_option maxHeartbeats 1000000 in
theorem xr_iushr {l : Launch} {T : xKd} {cc : ByteArray} {own : String} {nL : Nat} {ret : Option FieldType} {d : Nat} (κ : XC l T cc own nL ret d) {pc : Nat} {lv : List (Nat × Value)} {st : List Value} {ω : xWd} {x y : Int32} (hd : decode cc pc = .ok (.iushr, 1)) (k : Wat κ (pc + 1) lv (.int ((x.toUInt32 >>> (y.toUInt32 &&& Int32.toUInt32 31)).toInt32) :: st) ω) : Wat κ pc lv (.int y :: .int x :: st) ω := by
  obtain ⟨⟨⟨p, e, R⟩, ⟨s, m, args, below⟩, ⟨meth, c, cells, slots⟩, ⟨Q, A⟩, ⟨D, ad, cA⟩⟩, ⟨hx, hb, hml, hr, hts, hown, hlocks⟩, hK, hA, hroom⟩ := κ
  intro H locs ls hP hD hS hl
  exact lv_iushr hx hb hd rfl (k H locs ls hP hD hS hl)
set_option maxHeartbeats 1000000 in
theorem xr_ineg {l : Launch} {T : xKd} {cc : ByteArray} {own : String} {nL : Nat} {ret : Option FieldType} {d : Nat} (κ : XC l T cc own nL ret d) {pc : Nat} {lv : List (Nat × Value)} {st : List Value} {ω : xWd} {x : Int32} (hd : decode cc pc = .ok (.ineg, 1)) (k : Wat κ (pc + 1) lv (.int (-x) :: st) ω) : Wat κ pc lv (.int x :: st) ω := by
  obtain ⟨⟨⟨p, e, R⟩, ⟨s, m, args, below⟩, ⟨meth, c, cells, slots⟩, ⟨Q, A⟩, ⟨D, ad, cA⟩⟩, ⟨hx, hb, hml, hr, hts, hown, hlocks⟩, hK, hA, hroom⟩ := κ
  intro H locs ls hP hD hS hl
  exact lv_ineg hx hb hd (k H locs ls hP hD hS hl)
set_option maxHeartbeats 1000000 in
theorem xr_lneg {l : Launch} {T : xKd} {cc : ByteArray} {own : String} {nL : Nat} {ret : Option FieldType} {d : Nat} (κ : XC l T cc own nL ret d) {pc : Nat} {lv : List (Nat × Value)} {st : List Value} {ω : xWd} {x : Int64} (hd : decode cc pc = .ok (.lneg, 1)) (k : Wat κ (pc + 1) lv (.long (-x) :: st) ω) : Wat κ pc lv (.long x :: st) ω := by
  obtain ⟨⟨⟨p, e, R⟩, ⟨s, m, args, below⟩, ⟨meth, c, cells, slots⟩, ⟨Q, A⟩, ⟨D, ad, cA⟩⟩, ⟨hx, hb, hml, hr, hts, hown, hlocks⟩, hK, hA, hroom⟩ := κ
  intro H locs ls hP hD hS hl
  exact lv_lneg hx hb hd (k H locs ls hP hD hS hl)
set_option maxHeartbeats 1000000 in
theorem xr_i2l {l : Launch} {T : xKd} {cc : ByteArray} {own : String} {nL : Nat} {ret : Option FieldType} {d : Nat} (κ : XC l T cc own nL ret d) {pc : Nat} {lv : List (Nat × Value)} {st : List Value} {ω : xWd} {x : Int32} (hd : decode cc pc = .ok (.i2l, 1)) (k : Wat κ (pc + 1) lv (.long x.toInt64 :: st) ω) : Wat κ pc lv (.int x :: st) ω := by
  obtain ⟨⟨⟨p, e, R⟩, ⟨s, m, args, below⟩, ⟨meth, c, cells, slots⟩, ⟨Q, A⟩, ⟨D, ad, cA⟩⟩, ⟨hx, hb, hml, hr, hts, hown, hlocks⟩, hK, hA, hroom⟩ := κ
  intro H locs ls hP hD hS hl
  exact lv_i2l hx hb hd rfl (k H locs ls hP hD hS hl)
set_option maxHeartbeats 1000000 in
theorem xr_dup {l : Launch} {T : xKd} {cc : ByteArray} {own : String} {nL : Nat} {ret : Option FieldType} {d : Nat} (κ : XC l T cc own nL ret d) {pc : Nat} {lv : List (Nat × Value)} {st : List Value} {ω : xWd} {v : Value} (hc : v.category = 1) (hd : decode cc pc = .ok (.dup, 1)) (k : Wat κ (pc + 1) lv (v :: v :: st) ω) : Wat κ pc lv (v :: st) ω := by
  obtain ⟨⟨⟨p, e, R⟩, ⟨s, m, args, below⟩, ⟨meth, c, cells, slots⟩, ⟨Q, A⟩, ⟨D, ad, cA⟩⟩, ⟨hx, hb, hml, hr, hts, hown, hlocks⟩, hK, hA, hroom⟩ := κ
  intro H locs ls hP hD hS hl
  exact lv_dup hx hb hd (by rw [xv_cat]; exact hc) (k H locs ls hP hD hS hl)
set_option maxHeartbeats 1000000 in
theorem xr_dup2 {l : Launch} {T : xKd} {cc : ByteArray} {own : String} {nL : Nat} {ret : Option FieldType} {d : Nat} (κ : XC l T cc own nL ret d) {pc : Nat} {lv : List (Nat × Value)} {st : List Value} {ω : xWd} {v w : Value} (hc : v.category = 1) (hc2 : w.category = 1) (hd : decode cc pc = .ok (.dup2, 1)) (k : Wat κ (pc + 1) lv (v :: w :: v :: w :: st) ω) : Wat κ pc lv (v :: w :: st) ω := by
  obtain ⟨⟨⟨p, e, R⟩, ⟨s, m, args, below⟩, ⟨meth, c, cells, slots⟩, ⟨Q, A⟩, ⟨D, ad, cA⟩⟩, ⟨hx, hb, hml, hr, hts, hown, hlocks⟩, hK, hA, hroom⟩ := κ
  intro H locs ls hP hD hS hl
  exact lv_dup2_11 hx hb hd (by rw [xv_cat]; exact hc) (by rw [xv_cat]; exact hc2) (k H locs ls hP hD hS hl)
set_option maxHeartbeats 1000000 in
theorem xr_goto {l : Launch} {T : xKd} {cc : ByteArray} {own : String} {nL : Nat} {ret : Option FieldType} {d : Nat} (κ : XC l T cc own nL ret d) {pc : Nat} {lv : List (Nat × Value)} {st : List Value} {ω : xWd} {off : Int} {tgt : Nat} (hd : decode cc pc = .ok (.goto off, 3)) (ht : (pc : Int) + off = (tgt : Int)) (k : Wat κ tgt lv st ω) : Wat κ pc lv st ω := by
  obtain ⟨⟨⟨p, e, R⟩, ⟨s, m, args, below⟩, ⟨meth, c, cells, slots⟩, ⟨Q, A⟩, ⟨D, ad, cA⟩⟩, ⟨hx, hb, hml, hr, hts, hown, hlocks⟩, hK, hA, hroom⟩ := κ
  intro H locs ls hP hD hS hl
  exact lv_goto hx hb hd ht (k H locs ls hP hD hS hl)
set_option maxHeartbeats 1000000 in
theorem xr_if_eq {l : Launch} {T : xKd} {cc : ByteArray} {own : String} {nL : Nat} {ret : Option FieldType} {d : Nat} (κ : XC l T cc own nL ret d) {pc : Nat} {lv : List (Nat × Value)} {st : List Value} {ω : xWd} {x : Int32} {off : Int} {tgt : Nat} (hd : decode cc pc = .ok (.ifCond .eq off, 3)) (ht : (pc : Int) + off = (tgt : Int)) (kt : x = 0 → Wat κ tgt lv st ω) (kf : ¬ x = 0 → Wat κ (pc + 3) lv st ω) : Wat κ pc lv (.int x :: st) ω := by
  obtain ⟨⟨⟨p, e, R⟩, ⟨s, m, args, below⟩, ⟨meth, c, cells, slots⟩, ⟨Q, A⟩, ⟨D, ad, cA⟩⟩, ⟨hx, hb, hml, hr, hts, hown, hlocks⟩, hK, hA, hroom⟩ := κ
  intro H locs ls hP hD hS hl
  exact lv_if_eq hx hb hd ht (fun h => kt h H locs ls hP hD hS hl) (fun h => kf h H locs ls hP hD hS hl)
set_option maxHeartbeats 1000000 in
theorem xr_icmp_eq {l : Launch} {T : xKd} {cc : ByteArray} {own : String} {nL : Nat} {ret : Option FieldType} {d : Nat} (κ : XC l T cc own nL ret d) {pc : Nat} {lv : List (Nat × Value)} {st : List Value} {ω : xWd} {x y : Int32} {off : Int} {tgt : Nat} (hd : decode cc pc = .ok (.if_icmp .eq off, 3)) (ht : (pc : Int) + off = (tgt : Int)) (kt : x = y → Wat κ tgt lv st ω) (kf : ¬ x = y → Wat κ (pc + 3) lv st ω) : Wat κ pc lv (.int y :: .int x :: st) ω := by
  obtain ⟨⟨⟨p, e, R⟩, ⟨s, m, args, below⟩, ⟨meth, c, cells, slots⟩, ⟨Q, A⟩, ⟨D, ad, cA⟩⟩, ⟨hx, hb, hml, hr, hts, hown, hlocks⟩, hK, hA, hroom⟩ := κ
  intro H locs ls hP hD hS hl
  exact lv_icmp_eq hx hb hd ht (fun h => kt h H locs ls hP hD hS hl) (fun h => kf h H locs ls hP hD hS hl)
set_option maxHeartbeats 1000000 in
theorem xr_lcmp_eq {l : Launch} {T : xKd} {cc : ByteArray} {own : String} {nL : Nat} {ret : Option FieldType} {d : Nat} (κ : XC l T cc own nL ret d) {pc : Nat} {lv : List (Nat × Value)} {st : List Value} {ω : xWd} {x y : Int64} {off : Int} {tgt : Nat} (hd0 : decode cc pc = .ok (.lcmp, 1)) (hd : decode cc (pc + 1) = .ok (.ifCond .eq off, 3)) (ht : ((pc + 1 : Nat) : Int) + off = (tgt : Int)) (kt : x = y → Wat κ tgt lv st ω) (kf : ¬ x = y → Wat κ (pc + 1 + 3) lv st ω) : Wat κ pc lv (.long y :: .long x :: st) ω := by
  obtain ⟨⟨⟨p, e, R⟩, ⟨s, m, args, below⟩, ⟨meth, c, cells, slots⟩, ⟨Q, A⟩, ⟨D, ad, cA⟩⟩, ⟨hx, hb, hml, hr, hts, hown, hlocks⟩, hK, hA, hroom⟩ := κ
  intro H locs ls hP hD hS hl
  exact W.lcmp hx hb hd0 (lv_if_eq hx hb hd ht (fun h => kt ((lg_cmp_eq x y).mp h) H locs ls hP hD hS hl) (fun h => kf (fun q => h ((lg_cmp_eq x y).mpr q)) H locs ls hP hD hS hl))
set_option maxHeartbeats 1000000 in
theorem xr_if_ne {l : Launch} {T : xKd} {cc : ByteArray} {own : String} {nL : Nat} {ret : Option FieldType} {d : Nat} (κ : XC l T cc own nL ret d) {pc : Nat} {lv : List (Nat × Value)} {st : List Value} {ω : xWd} {x : Int32} {off : Int} {tgt : Nat} (hd : decode cc pc = .ok (.ifCond .ne off, 3)) (ht : (pc : Int) + off = (tgt : Int)) (kt : ¬ x = 0 → Wat κ tgt lv st ω) (kf : x = 0 → Wat κ (pc + 3) lv st ω) : Wat κ pc lv (.int x :: st) ω := by
  obtain ⟨⟨⟨p, e, R⟩, ⟨s, m, args, below⟩, ⟨meth, c, cells, slots⟩, ⟨Q, A⟩, ⟨D, ad, cA⟩⟩, ⟨hx, hb, hml, hr, hts, hown, hlocks⟩, hK, hA, hroom⟩ := κ
  intro H locs ls hP hD hS hl
  exact lv_if_ne hx hb hd ht (fun h => kt h H locs ls hP hD hS hl) (fun h => kf h H locs ls hP hD hS hl)
set_option maxHeartbeats 1000000 in
theorem xr_icmp_ne {l : Launch} {T : xKd} {cc : ByteArray} {own : String} {nL : Nat} {ret : Option FieldType} {d : Nat} (κ : XC l T cc own nL ret d) {pc : Nat} {lv : List (Nat × Value)} {st : List Value} {ω : xWd} {x y : Int32} {off : Int} {tgt : Nat} (hd : decode cc pc = .ok (.if_icmp .ne off, 3)) (ht : (pc : Int) + off = (tgt : Int)) (kt : ¬ x = y → Wat κ tgt lv st ω) (kf : x = y → Wat κ (pc + 3) lv st ω) : Wat κ pc lv (.int y :: .int x :: st) ω := by
  obtain ⟨⟨⟨p, e, R⟩, ⟨s, m, args, below⟩, ⟨meth, c, cells, slots⟩, ⟨Q, A⟩, ⟨D, ad, cA⟩⟩, ⟨hx, hb, hml, hr, hts, hown, hlocks⟩, hK, hA, hroom⟩ := κ
  intro H locs ls hP hD hS hl
  exact lv_icmp_ne hx hb hd ht (fun h => kt h H locs ls hP hD hS hl) (fun h => kf h H locs ls hP hD hS hl)
set_option maxHeartbeats 1000000 in
theorem xr_lcmp_ne {l : Launch} {T : xKd} {cc : ByteArray} {own : String} {nL : Nat} {ret : Option FieldType} {d : Nat} (κ : XC l T cc own nL ret d) {pc : Nat} {lv : List (Nat × Value)} {st : List Value} {ω : xWd} {x y : Int64} {off : Int} {tgt : Nat} (hd0 : decode cc pc = .ok (.lcmp, 1)) (hd : decode cc (pc + 1) = .ok (.ifCond .ne off, 3)) (ht : ((pc + 1 : Nat) : Int) + off = (tgt : Int)) (kt : ¬ x = y → Wat κ tgt lv st ω) (kf : x = y → Wat κ (pc + 1 + 3) lv st ω) : Wat κ pc lv (.long y :: .long x :: st) ω := by
  obtain ⟨⟨⟨p, e, R⟩, ⟨s, m, args, below⟩, ⟨meth, c, cells, slots⟩, ⟨Q, A⟩, ⟨D, ad, cA⟩⟩, ⟨hx, hb, hml, hr, hts, hown, hlocks⟩, hK, hA, hroom⟩ := κ
  intro H locs ls hP hD hS hl
  exact W.lcmp hx hb hd0 (lv_if_ne hx hb hd ht (fun h => kt (fun q => h ((lg_cmp_eq x y).mpr q)) H locs ls hP hD hS hl) (fun h => kf ((lg_cmp_eq x y).mp h) H locs ls hP hD hS hl))
set_option maxHeartbeats 1000000 in
theorem xr_if_lt {l : Launch} {T : xKd} {cc : ByteArray} {own : String} {nL : Nat} {ret : Option FieldType} {d : Nat} (κ : XC l T cc own nL ret d) {pc : Nat} {lv : List (Nat × Value)} {st : List Value} {ω : xWd} {x : Int32} {off : Int} {tgt : Nat} (hd : decode cc pc = .ok (.ifCond .lt off, 3)) (ht : (pc : Int) + off = (tgt : Int)) (kt : x < 0 → Wat κ tgt lv st ω) (kf : ¬ x < 0 → Wat κ (pc + 3) lv st ω) : Wat κ pc lv (.int x :: st) ω := by
  obtain ⟨⟨⟨p, e, R⟩, ⟨s, m, args, below⟩, ⟨meth, c, cells, slots⟩, ⟨Q, A⟩, ⟨D, ad, cA⟩⟩, ⟨hx, hb, hml, hr, hts, hown, hlocks⟩, hK, hA, hroom⟩ := κ
  intro H locs ls hP hD hS hl
  exact lv_if_lt hx hb hd ht (fun h => kt h H locs ls hP hD hS hl) (fun h => kf h H locs ls hP hD hS hl)
set_option maxHeartbeats 1000000 in
theorem xr_icmp_lt {l : Launch} {T : xKd} {cc : ByteArray} {own : String} {nL : Nat} {ret : Option FieldType} {d : Nat} (κ : XC l T cc own nL ret d) {pc : Nat} {lv : List (Nat × Value)} {st : List Value} {ω : xWd} {x y : Int32} {off : Int} {tgt : Nat} (hd : decode cc pc = .ok (.if_icmp .lt off, 3)) (ht : (pc : Int) + off = (tgt : Int)) (kt : x < y → Wat κ tgt lv st ω) (kf : ¬ x < y → Wat κ (pc + 3) lv st ω) : Wat κ pc lv (.int y :: .int x :: st) ω := by
  obtain ⟨⟨⟨p, e, R⟩, ⟨s, m, args, below⟩, ⟨meth, c, cells, slots⟩, ⟨Q, A⟩, ⟨D, ad, cA⟩⟩, ⟨hx, hb, hml, hr, hts, hown, hlocks⟩, hK, hA, hroom⟩ := κ
  intro H locs ls hP hD hS hl
  exact lv_icmp_lt hx hb hd ht (fun h => kt h H locs ls hP hD hS hl) (fun h => kf h H locs ls hP hD hS hl)
set_option maxHeartbeats 1000000 in
theorem xr_lcmp_lt {l : Launch} {T : xKd} {cc : ByteArray} {own : String} {nL : Nat} {ret : Option FieldType} {d : Nat} (κ : XC l T cc own nL ret d) {pc : Nat} {lv : List (Nat × Value)} {st : List Value} {ω : xWd} {x y : Int64} {off : Int} {tgt : Nat} (hd0 : decode cc pc = .ok (.lcmp, 1)) (hd : decode cc (pc + 1) = .ok (.ifCond .lt off, 3)) (ht : ((pc + 1 : Nat) : Int) + off = (tgt : Int)) (kt : x < y → Wat κ tgt lv st ω) (kf : ¬ x < y → Wat κ (pc + 1 + 3) lv st ω) : Wat κ pc lv (.long y :: .long x :: st) ω := by
  obtain ⟨⟨⟨p, e, R⟩, ⟨s, m, args, below⟩, ⟨meth, c, cells, slots⟩, ⟨Q, A⟩, ⟨D, ad, cA⟩⟩, ⟨hx, hb, hml, hr, hts, hown, hlocks⟩, hK, hA, hroom⟩ := κ
  intro H locs ls hP hD hS hl
  exact W.lcmp hx hb hd0 (lv_if_lt hx hb hd ht (fun h => kt ((lg_cmp_lt x y).mp h) H locs ls hP hD hS hl) (fun h => kf (fun q => h ((lg_cmp_lt x y).mpr q)) H locs ls hP hD hS hl))
set_option maxHeartbeats 1000000 in
theorem xr_if_ge {l : Launch} {T : xKd} {cc : ByteArray} {own : String} {nL : Nat} {ret : Option FieldType} {d : Nat} (κ : XC l T cc own nL ret d) {pc : Nat} {lv : List (Nat × Value)} {st : List Value} {ω : xWd} {x : Int32} {off : Int} {tgt : Nat} (hd : decode cc pc = .ok (.ifCond .ge off, 3)) (ht : (pc : Int) + off = (tgt : Int)) (kt : 0 ≤ x → Wat κ tgt lv st ω) (kf : ¬ 0 ≤ x → Wat κ (pc + 3) lv st ω) : Wat κ pc lv (.int x :: st) ω := by
  obtain ⟨⟨⟨p, e, R⟩, ⟨s, m, args, below⟩, ⟨meth, c, cells, slots⟩, ⟨Q, A⟩, ⟨D, ad, cA⟩⟩, ⟨hx, hb, hml, hr, hts, hown, hlocks⟩, hK, hA, hroom⟩ := κ
  intro H locs ls hP hD hS hl
  exact lv_if_ge hx hb hd ht (fun h => kt h H locs ls hP hD hS hl) (fun h => kf h H locs ls hP hD hS hl)
set_option maxHeartbeats 1000000 in
theorem xr_icmp_ge {l : Launch} {T : xKd} {cc : ByteArray} {own : String} {nL : Nat} {ret : Option FieldType} {d : Nat} (κ : XC l T cc own nL ret d) {pc : Nat} {lv : List (Nat × Value)} {st : List Value} {ω : xWd} {x y : Int32} {off : Int} {tgt : Nat} (hd : decode cc pc = .ok (.if_icmp .ge off, 3)) (ht : (pc : Int) + off = (tgt : Int)) (kt : y ≤ x → Wat κ tgt lv st ω) (kf : ¬ y ≤ x → Wat κ (pc + 3) lv st ω) : Wat κ pc lv (.int y :: .int x :: st) ω := by
  obtain ⟨⟨⟨p, e, R⟩, ⟨s, m, args, below⟩, ⟨meth, c, cells, slots⟩, ⟨Q, A⟩, ⟨D, ad, cA⟩⟩, ⟨hx, hb, hml, hr, hts, hown, hlocks⟩, hK, hA, hroom⟩ := κ
  intro H locs ls hP hD hS hl
  exact lv_icmp_ge hx hb hd ht (fun h => kt h H locs ls hP hD hS hl) (fun h => kf h H locs ls hP hD hS hl)
set_option maxHeartbeats 1000000 in
theorem xr_lcmp_ge {l : Launch} {T : xKd} {cc : ByteArray} {own : String} {nL : Nat} {ret : Option FieldType} {d : Nat} (κ : XC l T cc own nL ret d) {pc : Nat} {lv : List (Nat × Value)} {st : List Value} {ω : xWd} {x y : Int64} {off : Int} {tgt : Nat} (hd0 : decode cc pc = .ok (.lcmp, 1)) (hd : decode cc (pc + 1) = .ok (.ifCond .ge off, 3)) (ht : ((pc + 1 : Nat) : Int) + off = (tgt : Int)) (kt : y ≤ x → Wat κ tgt lv st ω) (kf : ¬ y ≤ x → Wat κ (pc + 1 + 3) lv st ω) : Wat κ pc lv (.long y :: .long x :: st) ω := by
  obtain ⟨⟨⟨p, e, R⟩, ⟨s, m, args, below⟩, ⟨meth, c, cells, slots⟩, ⟨Q, A⟩, ⟨D, ad, cA⟩⟩, ⟨hx, hb, hml, hr, hts, hown, hlocks⟩, hK, hA, hroom⟩ := κ
  intro H locs ls hP hD hS hl
  exact W.lcmp hx hb hd0 (lv_if_ge hx hb hd ht (fun h => kt ((lg_cmp_ge x y).mp h) H locs ls hP hD hS hl) (fun h => kf (fun q => h ((lg_cmp_ge x y).mpr q)) H locs ls hP hD hS hl))
set_option maxHeartbeats 1000000 in
theorem xr_if_gt {l : Launch} {T : xKd} {cc : ByteArray} {own : String} {nL : Nat} {ret : Option FieldType} {d : Nat} (κ : XC l T cc own nL ret d) {pc : Nat} {lv : List (Nat × Value)} {st : List Value} {ω : xWd} {x : Int32} {off : Int} {tgt : Nat} (hd : decode cc pc = .ok (.ifCond .gt off, 3)) (ht : (pc : Int) + off = (tgt : Int)) (kt : 0 < x → Wat κ tgt lv st ω) (kf : ¬ 0 < x → Wat κ (pc + 3) lv st ω) : Wat κ pc lv (.int x :: st) ω := by
  obtain ⟨⟨⟨p, e, R⟩, ⟨s, m, args, below⟩, ⟨meth, c, cells, slots⟩, ⟨Q, A⟩, ⟨D, ad, cA⟩⟩, ⟨hx, hb, hml, hr, hts, hown, hlocks⟩, hK, hA, hroom⟩ := κ
  intro H locs ls hP hD hS hl
  exact lv_if_gt hx hb hd ht (fun h => kt h H locs ls hP hD hS hl) (fun h => kf h H locs ls hP hD hS hl)
set_option maxHeartbeats 1000000 in
theorem xr_icmp_gt {l : Launch} {T : xKd} {cc : ByteArray} {own : String} {nL : Nat} {ret : Option FieldType} {d : Nat} (κ : XC l T cc own nL ret d) {pc : Nat} {lv : List (Nat × Value)} {st : List Value} {ω : xWd} {x y : Int32} {off : Int} {tgt : Nat} (hd : decode cc pc = .ok (.if_icmp .gt off, 3)) (ht : (pc : Int) + off = (tgt : Int)) (kt : y < x → Wat κ tgt lv st ω) (kf : ¬ y < x → Wat κ (pc + 3) lv st ω) : Wat κ pc lv (.int y :: .int x :: st) ω := by
  obtain ⟨⟨⟨p, e, R⟩, ⟨s, m, args, below⟩, ⟨meth, c, cells, slots⟩, ⟨Q, A⟩, ⟨D, ad, cA⟩⟩, ⟨hx, hb, hml, hr, hts, hown, hlocks⟩, hK, hA, hroom⟩ := κ
  intro H locs ls hP hD hS hl
  exact lv_icmp_gt hx hb hd ht (fun h => kt h H locs ls hP hD hS hl) (fun h => kf h H locs ls hP hD hS hl)
set_option maxHeartbeats 1000000 in
theorem xr_lcmp_gt {l : Launch} {T : xKd} {cc : ByteArray} {own : String} {nL : Nat} {ret : Option FieldType} {d : Nat} (κ : XC l T cc own nL ret d) {pc : Nat} {lv : List (Nat × Value)} {st : List Value} {ω : xWd} {x y : Int64} {off : Int} {tgt : Nat} (hd0 : decode cc pc = .ok (.lcmp, 1)) (hd : decode cc (pc + 1) = .ok (.ifCond .gt off, 3)) (ht : ((pc + 1 : Nat) : Int) + off = (tgt : Int)) (kt : y < x → Wat κ tgt lv st ω) (kf : ¬ y < x → Wat κ (pc + 1 + 3) lv st ω) : Wat κ pc lv (.long y :: .long x :: st) ω := by
  obtain ⟨⟨⟨p, e, R⟩, ⟨s, m, args, below⟩, ⟨meth, c, cells, slots⟩, ⟨Q, A⟩, ⟨D, ad, cA⟩⟩, ⟨hx, hb, hml, hr, hts, hown, hlocks⟩, hK, hA, hroom⟩ := κ
  intro H locs ls hP hD hS hl
  exact W.lcmp hx hb hd0 (lv_if_gt hx hb hd ht (fun h => kt ((lg_cmp_gt x y).mp h) H locs ls hP hD hS hl) (fun h => kf (fun q => h ((lg_cmp_gt x y).mpr q)) H locs ls hP hD hS hl))
set_option maxHeartbeats 1000000 in
theorem xr_if_le {l : Launch} {T : xKd} {cc : ByteArray} {own : String} {nL : Nat} {ret : Option FieldType} {d : Nat} (κ : XC l T cc own nL ret d) {pc : Nat} {lv : List (Nat × Value)} {st : List Value} {ω : xWd} {x : Int32} {off : Int} {tgt : Nat} (hd : decode cc pc = .ok (.ifCond .le off, 3)) (ht : (pc : Int) + off = (tgt : Int)) (kt : x ≤ 0 → Wat κ tgt lv st ω) (kf : ¬ x ≤ 0 → Wat κ (pc + 3) lv st ω) : Wat κ pc lv (.int x :: st) ω := by
  obtain ⟨⟨⟨p, e, R⟩, ⟨s, m, args, below⟩, ⟨meth, c, cells, slots⟩, ⟨Q, A⟩, ⟨D, ad, cA⟩⟩, ⟨hx, hb, hml, hr, hts, hown, hlocks⟩, hK, hA, hroom⟩ := κ
  intro H locs ls hP hD hS hl
  exact lv_if_le hx hb hd ht (fun h => kt h H locs ls hP hD hS hl) (fun h => kf h H locs ls hP hD hS hl)
set_option maxHeartbeats 1000000 in
theorem xr_icmp_le {l : Launch} {T : xKd} {cc : ByteArray} {own : String} {nL : Nat} {ret : Option FieldType} {d : Nat} (κ : XC l T cc own nL ret d) {pc : Nat} {lv : List (Nat × Value)} {st : List Value} {ω : xWd} {x y : Int32} {off : Int} {tgt : Nat} (hd : decode cc pc = .ok (.if_icmp .le off, 3)) (ht : (pc : Int) + off = (tgt : Int)) (kt : x ≤ y → Wat κ tgt lv st ω) (kf : ¬ x ≤ y → Wat κ (pc + 3) lv st ω) : Wat κ pc lv (.int y :: .int x :: st) ω := by
  obtain ⟨⟨⟨p, e, R⟩, ⟨s, m, args, below⟩, ⟨meth, c, cells, slots⟩, ⟨Q, A⟩, ⟨D, ad, cA⟩⟩, ⟨hx, hb, hml, hr, hts, hown, hlocks⟩, hK, hA, hroom⟩ := κ
  intro H locs ls hP hD hS hl
  exact lv_icmp_le hx hb hd ht (fun h => kt h H locs ls hP hD hS hl) (fun h => kf h H locs ls hP hD hS hl)
set_option maxHeartbeats 1000000 in
theorem xr_lcmp_le {l : Launch} {T : xKd} {cc : ByteArray} {own : String} {nL : Nat} {ret : Option FieldType} {d : Nat} (κ : XC l T cc own nL ret d) {pc : Nat} {lv : List (Nat × Value)} {st : List Value} {ω : xWd} {x y : Int64} {off : Int} {tgt : Nat} (hd0 : decode cc pc = .ok (.lcmp, 1)) (hd : decode cc (pc + 1) = .ok (.ifCond .le off, 3)) (ht : ((pc + 1 : Nat) : Int) + off = (tgt : Int)) (kt : x ≤ y → Wat κ tgt lv st ω) (kf : ¬ x ≤ y → Wat κ (pc + 1 + 3) lv st ω) : Wat κ pc lv (.long y :: .long x :: st) ω := by
  obtain ⟨⟨⟨p, e, R⟩, ⟨s, m, args, below⟩, ⟨meth, c, cells, slots⟩, ⟨Q, A⟩, ⟨D, ad, cA⟩⟩, ⟨hx, hb, hml, hr, hts, hown, hlocks⟩, hK, hA, hroom⟩ := κ
  intro H locs ls hP hD hS hl
  exact W.lcmp hx hb hd0 (lv_if_le hx hb hd ht (fun h => kt ((lg_cmp_le x y).mp h) H locs ls hP hD hS hl) (fun h => kf (fun q => h ((lg_cmp_le x y).mpr q)) H locs ls hP hD hS hl))
/-- a class: its number, name, fields, how many, their types; its words are good -/
def xCls (ci : Nat) (C : String) (Tt : u_T) (N : Nat) (ty0 : Nat → FieldType) : Prop := vwCl[ci]? = some (C, Tt, N) ∧ (∀ w ∈ u_ws C Tt N, w ∈ xB) ∧ (∀ k, k < N → parseFieldDescriptor (Tt k).2.2.1 = some (ty0 k)) ∧ (∀ a, a < N → ∀ b, b < N → a ≠ b → (Tt a).2.1 ≠ (Tt b).2.1)
set_option maxHeartbeats 1000000 in
theorem xr_get {l : Launch} {T : xKd} {cc : ByteArray} {own : String} {nL : Nat} {ret : Option FieldType} {d : Nat} (κ : XC l T cc own nL ret d) {pc : Nat} {lv : List (Nat × Value)} {st : List Value} {ω : xWd} {ci : Nat} {C : String} {Tt : u_T} {N : Nat} {ty0 : Nat → FieldType} (hc : xCls ci C Tt N ty0) {k f ix : Nat} {fs : List Value} {v : Value} (hlink : Cond.fieldLink own ix (Tt f).1 (Tt f).2.1 (Tt f).2.2.1 ∈ xB) (hk : k < T.1) (hω : ω k = xO ci fs) (hf : f < N) (hv : fs[f]? = some v) (hd : decode cc pc = .ok (.getfield ix, 3)) (kk : Wat κ (pc + 3) lv (v :: st) ω) : Wat κ pc lv (.ref k :: st) ω := by
  obtain ⟨⟨⟨p, e, R⟩, ⟨s, m, args, below⟩, ⟨meth, c, cells, slots⟩, ⟨Q, A⟩, ⟨D, ad, cA⟩⟩, ⟨hx, hb, hml, hr, hts, hown, hlocks⟩, hK, hA, hroom⟩ := κ
  intro H locs ls hP hD hS hl
  exact va_get (D := D) (cl := vwCl) (ci := ci) (C := C) (T := Tt) (N := N) hx hb hts hc.2.1 hown hK.nil hP k (by rw [xW_get hk, hω]; rfl) hc.1 f hf (hts _ hlink) (fun _ h9 => h9) (v := xv ad v) (by rw [List.getElem?_map, hv]; rfl) hd (kk H locs ls hP hD hS hl)
set_option maxHeartbeats 1000000 in
theorem xr_put {l : Launch} {T : xKd} {cc : ByteArray} {own : String} {nL : Nat} {ret : Option FieldType} {d : Nat} (κ : XC l T cc own nL ret d) {pc : Nat} {lv : List (Nat × Value)} {st : List Value} {ω : xWd} {ci : Nat} {C : String} {Tt : u_T} {N : Nat} {ty0 : Nat → FieldType} (hc : xCls ci C Tt N ty0) {k f ix : Nat} {fs : List Value} {v : Value} {ω' : xWd} (hlink : Cond.fieldLink own ix (Tt f).1 (Tt f).2.1 (Tt f).2.2.1 ∈ xB) (hk : k < T.1) (hω : ω k = xO ci fs) (hf : f < N) (hfin : (Tt f).2.2.2 = false) (hnr : ∀ ad, narrow (ty0 f) (xv ad v) = xv ad v) (hft : ∀ ad, fits (ty0 f) (xv ad v) = true) (hlen : f < fs.length) (hw : va_up ω k (xO ci (fs.set f v)) = ω') (hd : decode cc pc = .ok (.putfield ix, 3)) (kk : Wat κ (pc + 3) lv (st) ω') : Wat κ pc lv (v :: .ref k :: st) ω := by
  obtain ⟨⟨⟨p, e, R⟩, ⟨s, m, args, below⟩, ⟨meth, c, cells, slots⟩, ⟨Q, A⟩, ⟨D, ad, cA⟩⟩, ⟨hx, hb, hml, hr, hts, hown, hlocks⟩, hK, hA, hroom⟩ := κ
  intro H locs ls hP hD hS hl
  refine va_put (D := D) (cl := vwCl) (ci := ci) (C := C) (T := Tt) (N := N) (a := ad k) (fs := fs.map (xv ad)) hx hb hts hc.2.1 ty0 hc.2.2.1 hc.2.2.2 hown hK.nil hP hD hS k (by rw [xW_get hk, hω]; rfl) hc.1 f hf (hts _ hlink) (fun _ h9 => h9) hfin (v := xv ad v) (hc.2.2.1 f hf) (hnr ad) (hft ad) (by rw [List.length_map]; exact hlen) hd (fun H1 locs1 hP1 hD1 hS1 => ?_)
  have e : (xW ad cA T.1 ω).set k (ad k, .inr (ci, (fs.map (xv ad)).set f (xv ad v))) = xW ad cA T.1 ω' := by
    rw [← hw, ← xW_set, ← List.map_set]; rfl
  rw [e] at hP1 hD1
  exact kk H1 locs1 ls hP1 hD1 hS1 hl
set_option maxHeartbeats 1000000 in
theorem xr_getN {l : Launch} {T : xKd} {cc : ByteArray} {own : String} {nL : Nat} {ret : Option FieldType} {d : Nat} (κ : XC l T cc own nL ret d) {pc : Nat} {lv : List (Nat × Value)} {st : List Value} {ω : xWd} {ci : Nat} {C : String} {Tt : u_T} {N : Nat} {ty0 : Nat → FieldType} (hc : xCls ci C Tt N ty0) {k f ix : Nat} {fs : List Value} {v : Value} {host : String} (hlink : Cond.fieldLinkNest own ix (Tt f).1 (Tt f).2.1 (Tt f).2.2.1 host ∈ xNest) (hk : k < T.1) (hω : ω k = xO ci fs) (hf : f < N) (hv : fs[f]? = some v) (hd : decode cc pc = .ok (.getfield ix, 3)) (kk : Wat κ (pc + 3) lv (v :: st) ω) : Wat κ pc lv (.ref k :: st) ω := by
  obtain ⟨⟨⟨p, e, R⟩, ⟨s, m, args, below⟩, ⟨meth, c, cells, slots⟩, ⟨Q, A⟩, ⟨D, ad, cA⟩⟩, ⟨hx, hb, hml, hr, hts, hown, hlocks⟩, hK, hA, hroom⟩ := κ
  intro H locs ls hP hD hS hl
  exact va_getN (D := D) (cl := vwCl) (ci := ci) (C := C) (T := Tt) (N := N) hx hb hts hc.2.1 hown hK.nil hP k (by rw [xW_get hk, hω]; rfl) hc.1 f hf ((hK.2.2 _ hlink).use rfl) (fun _ h9 => h9) (v := xv ad v) (by rw [List.getElem?_map, hv]; rfl) hd (kk H locs ls hP hD hS hl)
set_option maxHeartbeats 1000000 in
theorem xr_putN {l : Launch} {T : xKd} {cc : ByteArray} {own : String} {nL : Nat} {ret : Option FieldType} {d : Nat} (κ : XC l T cc own nL ret d) {pc : Nat} {lv : List (Nat × Value)} {st : List Value} {ω : xWd} {ci : Nat} {C : String} {Tt : u_T} {N : Nat} {ty0 : Nat → FieldType} (hc : xCls ci C Tt N ty0) {k f ix : Nat} {fs : List Value} {v : Value} {ω' : xWd} {host : String} (hlink : Cond.fieldLinkNest own ix (Tt f).1 (Tt f).2.1 (Tt f).2.2.1 host ∈ xNest) (hk : k < T.1) (hω : ω k = xO ci fs) (hf : f < N) (hfin : (Tt f).2.2.2 = false) (hnr : ∀ ad, narrow (ty0 f) (xv ad v) = xv ad v) (hft : ∀ ad, fits (ty0 f) (xv ad v) = true) (hlen : f < fs.length) (hw : va_up ω k (xO ci (fs.set f v)) = ω') (hd : decode cc pc = .ok (.putfield ix, 3)) (kk : Wat κ (pc + 3) lv (st) ω') : Wat κ pc lv (v :: .ref k :: st) ω := by
  obtain ⟨⟨⟨p, e, R⟩, ⟨s, m, args, below⟩, ⟨meth, c, cells, slots⟩, ⟨Q, A⟩, ⟨D, ad, cA⟩⟩, ⟨hx, hb, hml, hr, hts, hown, hlocks⟩, hK, hA, hroom⟩ := κ
  intro H locs ls hP hD hS hl
  refine va_putN (D := D) (cl := vwCl) (ci := ci) (C := C) (T := Tt) (N := N) (a := ad k) (fs := fs.map (xv ad)) hx hb hts hc.2.1 ty0 hc.2.2.1 hc.2.2.2 hown hK.nil hP hD hS k (by rw [xW_get hk, hω]; rfl) hc.1 f hf ((hK.2.2 _ hlink).use rfl) (fun _ h9 => h9) hfin (v := xv ad v) (hc.2.2.1 f hf) (hnr ad) (hft ad) (by rw [List.length_map]; exact hlen) hd (fun H1 locs1 hP1 hD1 hS1 => ?_)
  have e : (xW ad cA T.1 ω).set k (ad k, .inr (ci, (fs.map (xv ad)).set f (xv ad v))) = xW ad cA T.1 ω' := by
    rw [← hw, ← xW_set, ← List.map_set]; rfl
  rw [e] at hP1 hD1
  exact kk H1 locs1 ls hP1 hD1 hS1 hl
set_option maxHeartbeats 1000000 in
theorem xr_iald {l : Launch} {T : xKd} {cc : ByteArray} {own : String} {nL : Nat} {ret : Option FieldType} {d : Nat} (κ : XC l T cc own nL ret d) {pc : Nat} {lv : List (Nat × Value)} {st : List Value} {ω : xWd} {k n : Nat} {f : Nat → Int32} {i : Int32} (hk : k < T.1) (ht : T.2 k = some .int) (hω : ω k = xI n f) (hin : vp_in i n) (hd : decode cc pc = .ok (.iaload, 1)) (kk : Wat κ (pc + 1) lv (.int (f i.toNatClampNeg) :: st) ω) : Wat κ pc lv (.int i :: .ref k :: st) ω := by
  obtain ⟨⟨⟨p, e, R⟩, ⟨s, m, args, below⟩, ⟨meth, c, cells, slots⟩, ⟨Q, A⟩, ⟨D, ad, cA⟩⟩, ⟨hx, hb, hml, hr, hts, hown, hlocks⟩, hK, hA, hroom⟩ := κ
  intro H locs ls hP hD hS hl
  exact va_iald hx hb (hK.tys hk ht) hP k 0 (by rw [xW_get hk, hω]; rfl) rfl hin hd (kk H locs ls hP hD hS hl)
set_option maxHeartbeats 1000000 in
theorem xr_lald {l : Launch} {T : xKd} {cc : ByteArray} {own : String} {nL : Nat} {ret : Option FieldType} {d : Nat} (κ : XC l T cc own nL ret d) {pc : Nat} {lv : List (Nat × Value)} {st : List Value} {ω : xWd} {k n : Nat} {f : Nat → Int64} {i : Int32} (hk : k < T.1) (ht : T.2 k = some .long) (hω : ω k = xJ n f) (hin : vp_in i n) (hd : decode cc pc = .ok (.laload, 1)) (kk : Wat κ (pc + 1) lv (.long (f i.toNatClampNeg) :: st) ω) : Wat κ pc lv (.int i :: .ref k :: st) ω := by
  obtain ⟨⟨⟨p, e, R⟩, ⟨s, m, args, below⟩, ⟨meth, c, cells, slots⟩, ⟨Q, A⟩, ⟨D, ad, cA⟩⟩, ⟨hx, hb, hml, hr, hts, hown, hlocks⟩, hK, hA, hroom⟩ := κ
  intro H locs ls hP hD hS hl
  exact va_lald hx hb (hK.tys hk ht) hP k 0 (by rw [xW_get hk, hω]; rfl) rfl hin hd (kk H locs ls hP hD hS hl)
set_option maxHeartbeats 1000000 in
theorem xr_iast {l : Launch} {T : xKd} {cc : ByteArray} {own : String} {nL : Nat} {ret : Option FieldType} {d : Nat} (κ : XC l T cc own nL ret d) {pc : Nat} {lv : List (Nat × Value)} {st : List Value} {ω : xWd} {k n : Nat} {f : Nat → Int32} {i : Int32} {x : Int32} {ω' : xWd} (hk : k < T.1) (ht : T.2 k = some .int) (hω : ω k = xI n f) (hin : vp_in i n) (hw : va_up ω k (xI n (upd f i.toNatClampNeg x)) = ω') (hd : decode cc pc = .ok (.iastore, 1)) (kk : Wat κ (pc + 1) lv (st) ω') : Wat κ pc lv (.int x :: .int i :: .ref k :: st) ω := by
  obtain ⟨⟨⟨p, e, R⟩, ⟨s, m, args, below⟩, ⟨meth, c, cells, slots⟩, ⟨Q, A⟩, ⟨D, ad, cA⟩⟩, ⟨hx, hb, hml, hr, hts, hown, hlocks⟩, hK, hA, hroom⟩ := κ
  intro H locs ls hP hD hS hl
  refine va_iast (a := ad k) (cA := cA k) (n := n) (f := f) hx hb (hK.tys hk ht) hP hD hS k 0 (by rw [xW_get hk, hω]; rfl) rfl hin hd (fun H1 locs1 hP1 hD1 hS1 => ?_)
  have e : (xW ad cA T.1 ω).set k (ad k, xe ad cA k (xI n (upd f i.toNatClampNeg x))) = xW ad cA T.1 ω' := by
    rw [xW_set, hw]
  have hP2 : va_P D vwCl ((xW ad cA T.1 ω).set k (ad k, xe ad cA k (xI n (upd f i.toNatClampNeg x)))) H1 := hP1
  have hD2 : va_D A ((xW ad cA T.1 ω).set k (ad k, xe ad cA k (xI n (upd f i.toNatClampNeg x)))) := hD1
  rw [e] at hP2 hD2
  exact kk H1 locs1 ls hP2 hD2 hS1 hl
set_option maxHeartbeats 1000000 in
theorem xr_last {l : Launch} {T : xKd} {cc : ByteArray} {own : String} {nL : Nat} {ret : Option FieldType} {d : Nat} (κ : XC l T cc own nL ret d) {pc : Nat} {lv : List (Nat × Value)} {st : List Value} {ω : xWd} {k n : Nat} {f : Nat → Int64} {i : Int32} {x : Int64} {ω' : xWd} (hk : k < T.1) (ht : T.2 k = some .long) (hω : ω k = xJ n f) (hin : vp_in i n) (hw : va_up ω k (xJ n (vp_updL f i.toNatClampNeg x)) = ω') (hd : decode cc pc = .ok (.lastore, 1)) (kk : Wat κ (pc + 1) lv (st) ω') : Wat κ pc lv (.long x :: .int i :: .ref k :: st) ω := by
  obtain ⟨⟨⟨p, e, R⟩, ⟨s, m, args, below⟩, ⟨meth, c, cells, slots⟩, ⟨Q, A⟩, ⟨D, ad, cA⟩⟩, ⟨hx, hb, hml, hr, hts, hown, hlocks⟩, hK, hA, hroom⟩ := κ
  intro H locs ls hP hD hS hl
  refine va_last (a := ad k) (cA := cA k) (n := n) (f := f) hx hb (hK.tys hk ht) hP hD hS k 0 (by rw [xW_get hk, hω]; rfl) rfl hin hd (fun H1 locs1 hP1 hD1 hS1 => ?_)
  have e : (xW ad cA T.1 ω).set k (ad k, xe ad cA k (xJ n (vp_updL f i.toNatClampNeg x))) = xW ad cA T.1 ω' := by
    rw [xW_set, hw]
  have hP2 : va_P D vwCl ((xW ad cA T.1 ω).set k (ad k, xe ad cA k (xJ n (vp_updL f i.toNatClampNeg x)))) H1 := hP1
  have hD2 : va_D A ((xW ad cA T.1 ω).set k (ad k, xe ad cA k (xJ n (vp_updL f i.toNatClampNeg x)))) := hD1
  rw [e] at hP2 hD2
  exact kk H1 locs1 ls hP2 hD2 hS1 hl
set_option maxHeartbeats 1000000 in
theorem xr_aald {l : Launch} {T : xKd} {cc : ByteArray} {own : String} {nL : Nat} {ret : Option FieldType} {d : Nat} (κ : XC l T cc own nL ret d) {pc : Nat} {lv : List (Nat × Value)} {st : List Value} {ω : xWd} {k n j : Nat} {f : Nat → Option Nat} {i : Int32} {ety : FieldType} (hk : k < T.1) (ht : T.2 k = some ety) (hr9 : ety.isReference = true) (hω : ω k = xR n f) (hin : vp_in i n) (hj : f i.toNatClampNeg = some j) (hd : decode cc pc = .ok (.aaload, 1)) (kk : Wat κ (pc + 1) lv (.ref j :: st) ω) : Wat κ pc lv (.int i :: .ref k :: st) ω := by
  obtain ⟨⟨⟨p, e, R⟩, ⟨s, m, args, below⟩, ⟨meth, c, cells, slots⟩, ⟨Q, A⟩, ⟨D, ad, cA⟩⟩, ⟨hx, hb, hml, hr, hts, hown, hlocks⟩, hK, hA, hroom⟩ := κ
  intro H locs ls hP hD hS hl
  have hlt : i.toNatClampNeg < n := Nat.not_le.mp fun q => hin (Or.inr q)
  have ha : (xW ad cA T.1 ω)[k]? = some (ad k, .inl (cA k, n, .inr (.inr (.inr (.inr (fun j => (f j).map ad)))))) := by rw [xW_get hk, hω]; rfl
  have hv : va_rf ((f i.toNatClampNeg).map ad) = .ref (ad j) := by rw [hj]; rfl
  exact W.aald (v := .ref (ad j)) (ty := ety) hx hb (hP k _ ha) (((hK.tys hk ht).2 0 _ rfl).1 n (fun j => va_rf ((f j).map ad))) hr9 (fun q => by cases q) (by show ¬ (i < 0 ∨ (arrV _ _ _).slots.size ≤ _); rw [arrV_size]; exact hin) (by show (arrV _ _ _).slots[_]? = _; rw [arrV_read _ _ hlt, hv]) rfl rfl hd (kk H locs ls hP hD hS hl)
set_option maxHeartbeats 1000000 in
theorem xr_iret {l : Launch} {T : xKd} {cc : ByteArray} {own : String} {nL : Nat} {d : Nat} (κ : XC l T cc own nL (some .int) d) {pc : Nat} {lv : List (Nat × Value)} {ω : xWd} (K : Option Value → xWd → Prop) (hQ : xRet κ K) {x : Int32} (hd : decode cc pc = .ok (.ireturn, 1)) (hk : K (some (.int x)) ω) : Wat κ pc lv [.int x] ω := by
  obtain ⟨⟨⟨p, e, R⟩, ⟨s, m, args, below⟩, ⟨meth, c, cells, slots⟩, ⟨Q, A⟩, ⟨D, ad, cA⟩⟩, ⟨hx, hb, hml, hr, hts, hown, hlocks⟩, hK, hA, hroom⟩ := κ
  have hQ : Q = MQ below (xQ T D ad cA A K) args s cells slots A := hQ
  subst hQ
  intro H locs ls hP hD hS hl
  exact W.iret hx hb hr (fun t ht hW => ⟨⟨(some (.int x)), ω, rfl, hk, by rw [ht]; exact hP⟩, hS.F ht⟩) hS.2.2 hd hlocks
set_option maxHeartbeats 1000000 in
theorem xr_zret {l : Launch} {T : xKd} {cc : ByteArray} {own : String} {nL : Nat} {d : Nat} (κ : XC l T cc own nL (some .boolean) d) {pc : Nat} {lv : List (Nat × Value)} {ω : xWd} (K : Option Value → xWd → Prop) (hQ : xRet κ K) {x : Int32} (hn : narrow .boolean (.int x) = .int x) (hd : decode cc pc = .ok (.ireturn, 1)) (hk : K (some (.int x)) ω) : Wat κ pc lv [.int x] ω := by
  obtain ⟨⟨⟨p, e, R⟩, ⟨s, m, args, below⟩, ⟨meth, c, cells, slots⟩, ⟨Q, A⟩, ⟨D, ad, cA⟩⟩, ⟨hx, hb, hml, hr, hts, hown, hlocks⟩, hK, hA, hroom⟩ := κ
  have hQ : Q = MQ below (xQ T D ad cA A K) args s cells slots A := hQ
  subst hQ
  intro H locs ls hP hD hS hl
  exact W.zret hx hb hr hn (fun t ht hW => ⟨⟨(some (.int x)), ω, rfl, hk, by rw [ht]; exact hP⟩, hS.F ht⟩) hS.2.2 hd hlocks
set_option maxHeartbeats 1000000 in
theorem xr_lret {l : Launch} {T : xKd} {cc : ByteArray} {own : String} {nL : Nat} {d : Nat} (κ : XC l T cc own nL (some .long) d) {pc : Nat} {lv : List (Nat × Value)} {ω : xWd} (K : Option Value → xWd → Prop) (hQ : xRet κ K) {x : Int64} (hd : decode cc pc = .ok (.lreturn, 1)) (hk : K (some (.long x)) ω) : Wat κ pc lv [.long x] ω := by
  obtain ⟨⟨⟨p, e, R⟩, ⟨s, m, args, below⟩, ⟨meth, c, cells, slots⟩, ⟨Q, A⟩, ⟨D, ad, cA⟩⟩, ⟨hx, hb, hml, hr, hts, hown, hlocks⟩, hK, hA, hroom⟩ := κ
  have hQ : Q = MQ below (xQ T D ad cA A K) args s cells slots A := hQ
  subst hQ
  intro H locs ls hP hD hS hl
  exact W.lret hx hb hr (fun t ht hW => ⟨⟨(some (.long x)), ω, rfl, hk, by rw [ht]; exact hP⟩, hS.F ht⟩) hS.2.2 hd hlocks
set_option maxHeartbeats 1000000 in
theorem xr_vret {l : Launch} {T : xKd} {cc : ByteArray} {own : String} {nL : Nat} {d : Nat} (κ : XC l T cc own nL none d) {pc : Nat} {lv : List (Nat × Value)} {ω : xWd} (K : Option Value → xWd → Prop) (hQ : xRet κ K)  (hd : decode cc pc = .ok (.return_, 1)) (hk : K none ω) : Wat κ pc lv [] ω := by
  obtain ⟨⟨⟨p, e, R⟩, ⟨s, m, args, below⟩, ⟨meth, c, cells, slots⟩, ⟨Q, A⟩, ⟨D, ad, cA⟩⟩, ⟨hx, hb, hml, hr, hts, hown, hlocks⟩, hK, hA, hroom⟩ := κ
  have hQ : Q = MQ below (xQ T D ad cA A K) args s cells slots A := hQ
  subst hQ
  intro H locs ls hP hD hS hl
  exact W.vret hx hb hr (fun t ht hW => ⟨⟨none, ω, rfl, hk, by rw [ht]; exact hP⟩, hS.F ht⟩) hS.2.2 hd hlocks
/-- after a call -/
theorem xr_after {l : Launch} {T : xKd} {p : Program} {e : Env} {R : Room} {s : State} {m : MethodId} {args : Array Value} {below : List Frame} {meth : Method} {c : Code} {cells slots : Nat} {Q : State → Prop} {A : Nat → Prop} {D : va_G} {ad : Nat → Nat} {cA : Nat → ClassId} {H : Heap} {locs : List Loc} {ls : Array Slot} {pc : Nat} {st0 rest : List Value} {a : Array Value} {K : Option Value → xWd → Prop} {ω : xWd} (hA : ∀ q, s.heap.size ≤ q → A q)
    (hr : va_Run p l e R s m args below meth c H locs cells slots 0 0 (F0 m pc ls st0) (rest.map (xv ad)) (xQ T D ad cA (xA ad T.1 H.size) K a) (xA ad T.1 H.size)) (hD : va_D A (xW ad cA T.1 ω)) (hS : va_S A s.heap H locs)
    (kk : ∀ (v : Option Value) (ω' : xWd), K v ω' → ∀ (H1 : Heap) (locs1 : List Loc), va_P D vwCl (xW ad cA T.1 ω') H1 → va_D A (xW ad cA T.1 ω') → va_S A s.heap H1 locs1 → W p l e R s m args below meth c H1 locs1 cells slots Q (F0 m (pc + 3) ls ((v.toList ++ rest).map (xv ad)))) : W p l e R s m args below meth c H locs cells slots Q (F0 m pc ls st0) := by
  have hAA : ∀ q, xA ad T.1 H.size q → A q := fun q h => by
    rcases h with ⟨k, hk, rfl⟩ | h
    · exact xA_D hD hk
    · exact hA q (Nat.le_trans hS.1 h)
  intro X0 hT X
  obtain ⟨v, st₀, t, T', L, h0, X', hL, e1, e2, ⟨⟨v1, ω', hv, hk, hP1⟩, hz, hkp⟩, st⟩ := hr X0 hT X
  cases hv
  rw [h0] at hz hkp
  obtain ⟨t2, a1, b1⟩ := kk v1 ω' hk T'.heap (locs ++ L) (by rw [e1]; exact hP1) (xD_any hD)
    ⟨Nat.le_trans hS.1 (by rw [e1]; exact hz), fun q h1 h2 => by rw [e1, hkp q (Nat.lt_of_lt_of_le h1 hS.1) (fun z => h2 (hAA q z))]; exact hS.2.1 q h1 h2, fun q hq => by
      rcases List.mem_append.mp hq with h | h
      · exact hS.2.2 q h
      · exact hAA _ (hL q h)⟩ T' rfl X'
  refine ⟨t2, st t2 ?_, b1⟩
  have e3 : (v1.map (xv ad)).toList ++ rest.map (xv ad) = (v1.toList ++ rest).map (xv ad) := by cases v1 <;> rfl
  rw [e3]
  exact a1
def xArg (y : MethodName) (n : Nat) : Prop := y.cls ≠ "java/lang/invoke/MethodHandle" ∧ y.cls ≠ "java/lang/invoke/VarHandle" ∧ (parseMethodDescriptor y.desc).map (fun d => d.parameters.length) = some n
/-- what a method's own words are, wherever it is called -/
def xTgt (y : MethodName) (cc : ByteArray) (mL : Nat) (ret : Option FieldType) (n : Nat) : Prop := Cond.initialized y.cls ∈ xB ∧ Cond.code y cc mL ret ∈ xB ∧ xArg y n
def xTgtV (y : MethodName) (cc : ByteArray) (mL : Nat) (ret : Option FieldType) (n : Nat) : Prop := xTgt y cc mL ret n ∧ Cond.instanceMethod y ∈ xB ∧ Cond.selects y.cls y y ∈ xB
def xTgtS (y : MethodName) (cc : ByteArray) (mL : Nat) (ret : Option FieldType) (n : Nat) : Prop := xTgt y cc mL ret n ∧ Cond.static y ∈ xB
theorem xPc_blind {T : xKd} {D : va_G} {ad : Nat → Nat} {cA : Nat → ClassId} {as : List Value} {sz : Nat} {ω : xWd} : FrameBlind (va_Pc as (fun U => U.heap.size = sz ∧ va_P D vwCl (xW ad cA T.1 ω) U.heap ∧ xKs T D cA U ∧ va_D (fun _ => True) (xW ad cA T.1 ω))) := fun a U g mk q => by
  obtain ⟨q0, q1, qP, qK, qD⟩ := q
  exact ⟨q0, q1, qP, qK.calling, qD⟩
theorem goodIn_app2 {a b c : Cond} {ws : List Cond} (h1 : a ∈ xB ∧ ((a.onTables && a.keeps) = true ∨ ∃ ty, a = .arrayClass ty)) (h2 : b ∈ xB ∧ ((b.onTables && b.keeps) = true ∨ ∃ ty, b = .arrayClass ty)) (h3 : c ∈ xB ∧ ((c.onTables && c.keeps) = true ∨ ∃ ty, c = .arrayClass ty)) (h : GoodIn xB ws) : GoodIn xB ([a, b, c] ++ ws) := fun w hw => by
  rcases List.mem_append.mp hw with q | q
  · rcases List.mem_cons.mp q with e | q
    · rw [e]; exact h1
    rcases List.mem_cons.mp q with e | q
    · rw [e]; exact h2
    rcases List.mem_cons.mp q with e | q
    · rw [e]; exact h3
    exact absurd q List.not_mem_nil
  · exact h w q
theorem xgoodS {own : String} {ix : Nat} {y : MethodName} {ws : List Cond} (h1 : Cond.methodLink own ix y ∈ xB) (h2 : Cond.static y ∈ xB) (h3 : Cond.initialized y.cls ∈ xB) (h : GoodIn xB ws) : GoodIn xB (va_wsS own ix y ws) := goodIn_app2 (xB_good _ h1) (xB_good _ h2) (xB_good _ h3) h

set_option maxHeartbeats 1000000 in
theorem xr_callV {l : Launch} {T : xKd} {cc : ByteArray} {own : String} {nL : Nat} {ret : Option FieldType} {d : Nat} (κ : XC l T cc own nL ret d) {pc : Nat} {lv : List (Nat × Value)} {st : List Value} {ω : xWd} (as : List Value) {y : MethodName} {bytes : ByteArray} {mL n dc ix : Nat} {ret' : Option FieldType} {K : Option Value → xWd → Prop} {kr ci : Nat} {fs : List Value} {q : vw_C} (hlk : Cond.methodLink own ix y ∈ xB) (hL : xTgtV y bytes mL ret' n) (hM : XM l T y bytes mL ret' dc (.ref kr :: as) ω K) (hn : as.length = n) (hdc : dc + 1 ≤ d) (hmL : mL ≤ 21) (hk : kr < T.1) (hω : ω kr = xO ci fs) (hci : vwCl[ci]? = some q) (hq : q.1 = y.cls) (hcat : (st.map fun v => v.category).sum ≤ 8) (hd : decode cc pc = .ok (.invokevirtual ix, 3)) (kk : ∀ v ω', K v ω' → Wat κ (pc + 3) lv (v.toList ++ st) ω') : Wat κ pc lv (as.reverse ++ .ref kr :: st) ω := by
  obtain ⟨⟨⟨p, e, R⟩, ⟨s, m, args, below⟩, ⟨meth, c, cells, slots⟩, ⟨Q, A⟩, ⟨D, ad, cA⟩⟩, ⟨hx, hb, hml, hr, hts, hown, hlocks⟩, hK, hA, hroom⟩ := κ
  intro H locs ls hP hD hS hl
  refine xr_after hA (va_runV (b := ad kr) (As := as.map (xv ad)) (rest := st.map (xv ad)) ⟨hx, hb, hml, hown, hts⟩ (hM D ad cA H.size) ⟨callB_of n hts (xw_good hL.1.2.1) rfl rfl rfl (hts _ hL.1.1) (hts _ hlk) hL.1.2.2 ⟨Nat.le_trans hdc hroom.1, Nat.le_trans (by show 8 + (mL + 11) + 40 * dc ≤ 40 * d; omega) hroom.2.1⟩, hts _ hL.2.1, hts _ hL.2.2⟩ ⟨xPc_blind, ?_, fun U hU hW => ⟨rfl, by rw [hU], by rw [hU]; exact hP, hK.warm hW, ⟨hD.1, fun _ _ _ => trivial⟩⟩⟩ rfl (by rw [List.length_map]; exact hn) hl.1 (by show (List.map (xv ad) (as.reverse ++ .ref kr :: st)) = _; rw [List.map_append, List.map_reverse]; rfl) (lv_room (by rw [List.map_map]; rw [show ((fun v : Value => v.category) ∘ xv ad) = (fun v => v.category) from funext fun v => xv_cat ad v]; exact hcat)) hd ⟨hroom.2.2.1, hroom.2.2.2⟩) hD hS (fun v ω1 hk1 H1 locs1 hP1 hD1 hS1 => kk v ω1 hk1 H1 locs1 ls hP1 hD1 hS1 hl)
  have h := va_recv hK.nil hP (ci := ci) (q0 := kr) (a := ad kr) (fs := fs.map (xv ad)) hci (by rw [xW_get hk, hω]; rfl)
  rw [hq] at h
  exact h
set_option maxHeartbeats 1000000 in
theorem xr_callVN {l : Launch} {T : xKd} {cc : ByteArray} {own : String} {nL : Nat} {ret : Option FieldType} {d : Nat} (κ : XC l T cc own nL ret d) {pc : Nat} {lv : List (Nat × Value)} {st : List Value} {ω : xWd} (as : List Value) {y : MethodName} {bytes : ByteArray} {mL n dc ix : Nat} {ret' : Option FieldType} {K : Option Value → xWd → Prop} {kr ci : Nat} {fs : List Value} {q : vw_C} {host : String} (hlk : Cond.methodLinkNest own ix y host ∈ xNest) (hL : xTgtV y bytes mL ret' n) (hM : XM l T y bytes mL ret' dc (.ref kr :: as) ω K) (hn : as.length = n) (hdc : dc + 1 ≤ d) (hmL : mL ≤ 21) (hk : kr < T.1) (hω : ω kr = xO ci fs) (hci : vwCl[ci]? = some q) (hq : q.1 = y.cls) (hcat : (st.map fun v => v.category).sum ≤ 8) (hd : decode cc pc = .ok (.invokevirtual ix, 3)) (kk : ∀ v ω', K v ω' → Wat κ (pc + 3) lv (v.toList ++ st) ω') : Wat κ pc lv (as.reverse ++ .ref kr :: st) ω := by
  obtain ⟨⟨⟨p, e, R⟩, ⟨s, m, args, below⟩, ⟨meth, c, cells, slots⟩, ⟨Q, A⟩, ⟨D, ad, cA⟩⟩, ⟨hx, hb, hml, hr, hts, hown, hlocks⟩, hK, hA, hroom⟩ := κ
  intro H locs ls hP hD hS hl
  refine xr_after hA (va_runVN (b := ad kr) (As := as.map (xv ad)) (rest := st.map (xv ad)) ⟨hx, hb, hml, hown, hts⟩ (hM D ad cA H.size) ⟨va_cnB n hts (xw_good hL.1.2.1) rfl rfl rfl (hK.2.2 _ hlk) (hts _ hL.1.1) hL.1.2.2 ⟨Nat.le_trans hdc hroom.1, Nat.le_trans (by show 8 + (mL + 11) + 40 * dc ≤ 40 * d; omega) hroom.2.1⟩, hts _ hL.2.1, hts _ hL.2.2⟩ ⟨xPc_blind, ?_, fun U hU hW => ⟨rfl, by rw [hU], by rw [hU]; exact hP, hK.warm hW, ⟨hD.1, fun _ _ _ => trivial⟩⟩⟩ rfl (by rw [List.length_map]; exact hn) hl.1 (by show (List.map (xv ad) (as.reverse ++ .ref kr :: st)) = _; rw [List.map_append, List.map_reverse]; rfl) (lv_room (by rw [List.map_map]; rw [show ((fun v : Value => v.category) ∘ xv ad) = (fun v => v.category) from funext fun v => xv_cat ad v]; exact hcat)) hd ⟨hroom.2.2.1, hroom.2.2.2⟩) hD hS (fun v ω1 hk1 H1 locs1 hP1 hD1 hS1 => kk v ω1 hk1 H1 locs1 ls hP1 hD1 hS1 hl)
  have h := va_recv hK.nil hP (ci := ci) (q0 := kr) (a := ad kr) (fs := fs.map (xv ad)) hci (by rw [xW_get hk, hω]; rfl)
  rw [hq] at h
  exact h
set_option maxHeartbeats 1000000 in
theorem xr_callS {l : Launch} {T : xKd} {cc : ByteArray} {own : String} {nL : Nat} {ret : Option FieldType} {d : Nat} (κ : XC l T cc own nL ret d) {pc : Nat} {lv : List (Nat × Value)} {st : List Value} {ω : xWd} (as : List Value) {y : MethodName} {bytes : ByteArray} {mL n dc ix : Nat} {ret' : Option FieldType} {K : Option Value → xWd → Prop} (hlk : Cond.methodLink own ix y ∈ xB) (hL : xTgtS y bytes mL ret' n) (hM : XM l T y bytes mL ret' dc as ω K) (hn : as.length = n) (hdc : dc + 1 ≤ d) (hmL : mL ≤ 21) (hcat : (st.map fun v => v.category).sum ≤ 8) (hd : decode cc pc = .ok (.invokestatic ix, 3)) (kk : ∀ v ω', K v ω' → Wat κ (pc + 3) lv (v.toList ++ st) ω') : Wat κ pc lv (as.reverse ++ st) ω := by
  obtain ⟨⟨⟨p, e, R⟩, ⟨s, m, args, below⟩, ⟨meth, c, cells, slots⟩, ⟨Q, A⟩, ⟨D, ad, cA⟩⟩, ⟨hx, hb, hml, hr, hts, hown, hlocks⟩, hK, hA, hroom⟩ := κ
  intro H locs ls hP hD hS hl
  exact xr_after hA (va_runS (As := as.map (xv ad)) (rest := st.map (xv ad)) ⟨hx, hb, hml, hown, hts⟩ (hM D ad cA H.size) ⟨callB_of n hts (xw_good hL.1.2.1) rfl rfl rfl (hts _ hL.1.1) (hts _ hlk) hL.1.2.2 ⟨Nat.le_trans hdc hroom.1, Nat.le_trans (by show 8 + (mL + 11) + 40 * dc ≤ 40 * d; omega) hroom.2.1⟩, hts _ hL.2⟩ ⟨xPc_blind, fun U hU hW => ⟨rfl, by rw [hU], by rw [hU]; exact hP, hK.warm hW, ⟨hD.1, fun _ _ _ => trivial⟩⟩⟩ rfl (by rw [List.length_map]; exact hn) hl.1 (by show (List.map (xv ad) (as.reverse ++ st)) = _; rw [List.map_append, List.map_reverse]) (lv_room (by rw [List.map_map]; rw [show ((fun v : Value => v.category) ∘ xv ad) = (fun v => v.category) from funext fun v => xv_cat ad v]; exact hcat)) hd ⟨hroom.2.2.1, hroom.2.2.2⟩) hD hS (fun v ω1 hk1 H1 locs1 hP1 hD1 hS1 => kk v ω1 hk1 H1 locs1 ls hP1 hD1 hS1 hl)
set_option maxHeartbeats 1000000 in
theorem xr_callSN {l : Launch} {T : xKd} {cc : ByteArray} {own : String} {nL : Nat} {ret : Option FieldType} {d : Nat} (κ : XC l T cc own nL ret d) {pc : Nat} {lv : List (Nat × Value)} {st : List Value} {ω : xWd} (as : List Value) {y : MethodName} {bytes : ByteArray} {mL n dc ix : Nat} {ret' : Option FieldType} {K : Option Value → xWd → Prop} {host : String} (hlk : Cond.methodLinkNest own ix y host ∈ xNest) (hL : xTgtS y bytes mL ret' n) (hM : XM l T y bytes mL ret' dc as ω K) (hn : as.length = n) (hdc : dc + 1 ≤ d) (hmL : mL ≤ 21) (hcat : (st.map fun v => v.category).sum ≤ 8) (hd : decode cc pc = .ok (.invokestatic ix, 3)) (kk : ∀ v ω', K v ω' → Wat κ (pc + 3) lv (v.toList ++ st) ω') : Wat κ pc lv (as.reverse ++ st) ω := by
  obtain ⟨⟨⟨p, e, R⟩, ⟨s, m, args, below⟩, ⟨meth, c, cells, slots⟩, ⟨Q, A⟩, ⟨D, ad, cA⟩⟩, ⟨hx, hb, hml, hr, hts, hown, hlocks⟩, hK, hA, hroom⟩ := κ
  intro H locs ls hP hD hS hl
  exact xr_after hA (va_runSN (As := as.map (xv ad)) (rest := st.map (xv ad)) ⟨hx, hb, hml, hown, hts⟩ (hM D ad cA H.size) ⟨va_cnB n hts (xw_good hL.1.2.1) rfl rfl rfl (hK.2.2 _ hlk) (hts _ hL.1.1) hL.1.2.2 ⟨Nat.le_trans hdc hroom.1, Nat.le_trans (by show 8 + (mL + 11) + 40 * dc ≤ 40 * d; omega) hroom.2.1⟩, hts _ hL.2, trivial⟩ ⟨xPc_blind, fun U hU hW => ⟨rfl, by rw [hU], by rw [hU]; exact hP, hK.warm hW, ⟨hD.1, fun _ _ _ => trivial⟩⟩⟩ rfl (by rw [List.length_map]; exact hn) hl.1 (by show (List.map (xv ad) (as.reverse ++ st)) = _; rw [List.map_append, List.map_reverse]) (lv_room (by rw [List.map_map]; rw [show ((fun v : Value => v.category) ∘ xv ad) = (fun v => v.category) from funext fun v => xv_cat ad v]; exact hcat)) hd ⟨hroom.2.2.1, hroom.2.2.2⟩) hD hS (fun v ω1 hk1 H1 locs1 hP1 hD1 hS1 => kk v ω1 hk1 H1 locs1 ls hP1 hD1 hS1 hl)
set_option maxHeartbeats 1000000 in
theorem xr_mmin {l : Launch} {T : xKd} {cc : ByteArray} {own : String} {nL : Nat} {ret : Option FieldType} {d : Nat} (κ : XC l T cc own nL ret d) {pc : Nat} {lv : List (Nat × Value)} {st : List Value} {ω : xWd} {ix : Nat} {x y : Int32} (hlk : Cond.methodLink own ix Lib.Math.min.name ∈ xB) (h2 : Cond.static Lib.Math.min.name ∈ xB) (h3 : Cond.initialized "java/lang/Math" ∈ xB) (h4 : Cond.code Lib.Math.min.name Lib.Math.min.code 2 (some .int) ∈ xB) (hdd : 1 ≤ d) (hcat : (st.map fun v => v.category).sum ≤ 8) (hd : decode cc pc = .ok (.invokestatic ix, 3)) (kk : Wat κ (pc + 3) lv (.int (if y < x then y else x) :: st) ω) : Wat κ pc lv (.int y :: .int x :: st) ω := by
  obtain ⟨⟨⟨p, e, R⟩, ⟨s, m, args, below⟩, ⟨meth, c, cells, slots⟩, ⟨Q, A⟩, ⟨D, ad, cA⟩⟩, ⟨hx, hb, hml, hr, hts, hown, hlocks⟩, hK, hA, hroom⟩ := κ
  intro H locs ls hP hD hS hl
  have hlo := hroom.2.1
  exact va_mmin hx hb (by rw [hml]; exact hl.1.symm) hown (hts _ hlk) (hts _ h2) (hts _ h3) (hts _ h4) (Nat.le_trans hdd hroom.1) (by rw [List.map_map]; rw [show ((fun v : Value => v.category) ∘ xv ad) = (fun v => v.category) from funext fun v => xv_cat ad v]; omega) hroom.2.2.1 hroom.2.2.2 hd (kk H locs ls hP hD hS hl)
set_option maxHeartbeats 1000000 in
theorem xr_mmaxL {l : Launch} {T : xKd} {cc : ByteArray} {own : String} {nL : Nat} {ret : Option FieldType} {d : Nat} (κ : XC l T cc own nL ret d) {pc : Nat} {lv : List (Nat × Value)} {st : List Value} {ω : xWd} {ix : Nat} {x y : Int64} (hlk : Cond.methodLink own ix Lib.MathLoose.max_long.x ∈ xB) (h2 : Cond.static Lib.MathLoose.max_long.x ∈ xB) (h3 : Cond.initialized "java/lang/Math" ∈ xB) (h4 : Cond.code Lib.MathLoose.max_long.x Lib.MathLoose.max_long.code 4 (some .long) ∈ xB) (hdd : 1 ≤ d) (hcat : (st.map fun v => v.category).sum ≤ 8) (hd : decode cc pc = .ok (.invokestatic ix, 3)) (kk : Wat κ (pc + 3) lv (.long (if y < x then x else y) :: st) ω) : Wat κ pc lv (.long y :: .long x :: st) ω := by
  obtain ⟨⟨⟨p, e, R⟩, ⟨s, m, args, below⟩, ⟨meth, c, cells, slots⟩, ⟨Q, A⟩, ⟨D, ad, cA⟩⟩, ⟨hx, hb, hml, hr, hts, hown, hlocks⟩, hK, hA, hroom⟩ := κ
  intro H locs ls hP hD hS hl
  have hlo := hroom.2.1
  exact va_mmax_long hx hb (by rw [hml]; exact hl.1.symm) hown (hts _ hlk) (hts _ h2) (hts _ h3) (hts _ h4) (Nat.le_trans hdd hroom.1) (by rw [List.map_map]; rw [show ((fun v : Value => v.category) ∘ xv ad) = (fun v => v.category) from funext fun v => xv_cat ad v]; omega) hroom.2.2.1 hroom.2.2.2 hd (kk H locs ls hP hD hS hl)
set_option maxHeartbeats 1000000 in
theorem xr_mminL {l : Launch} {T : xKd} {cc : ByteArray} {own : String} {nL : Nat} {ret : Option FieldType} {d : Nat} (κ : XC l T cc own nL ret d) {pc : Nat} {lv : List (Nat × Value)} {st : List Value} {ω : xWd} {ix : Nat} {x y : Int64} (hlk : Cond.methodLink own ix Lib.MathLoose.min_long.x ∈ xB) (h2 : Cond.static Lib.MathLoose.min_long.x ∈ xB) (h3 : Cond.initialized "java/lang/Math" ∈ xB) (h4 : Cond.code Lib.MathLoose.min_long.x Lib.MathLoose.min_long.code 4 (some .long) ∈ xB) (hdd : 1 ≤ d) (hcat : (st.map fun v => v.category).sum ≤ 8) (hd : decode cc pc = .ok (.invokestatic ix, 3)) (kk : Wat κ (pc + 3) lv (.long (if y < x then y else x) :: st) ω) : Wat κ pc lv (.long y :: .long x :: st) ω := by
  obtain ⟨⟨⟨p, e, R⟩, ⟨s, m, args, below⟩, ⟨meth, c, cells, slots⟩, ⟨Q, A⟩, ⟨D, ad, cA⟩⟩, ⟨hx, hb, hml, hr, hts, hown, hlocks⟩, hK, hA, hroom⟩ := κ
  intro H locs ls hP hD hS hl
  have hlo := hroom.2.1
  exact va_mmin_long hx hb (by rw [hml]; exact hl.1.symm) hown (hts _ hlk) (hts _ h2) (hts _ h3) (hts _ h4) (Nat.le_trans hdd hroom.1) (by rw [List.map_map]; rw [show ((fun v : Value => v.category) ∘ xv ad) = (fun v => v.category) from funext fun v => xv_cat ad v]; omega) hroom.2.2.1 hroom.2.2.2 hd (kk H locs ls hP hD hS hl)
set_option maxHeartbeats 1000000 in
theorem xr_mabsL {l : Launch} {T : xKd} {cc : ByteArray} {own : String} {nL : Nat} {ret : Option FieldType} {d : Nat} (κ : XC l T cc own nL ret d) {pc : Nat} {lv : List (Nat × Value)} {st : List Value} {ω : xWd} {ix : Nat} {x : Int64} (hlk : Cond.methodLink own ix Lib.MathLoose.abs_long.x ∈ xB) (h2 : Cond.static Lib.MathLoose.abs_long.x ∈ xB) (h3 : Cond.initialized "java/lang/Math" ∈ xB) (h4 : Cond.code Lib.MathLoose.abs_long.x Lib.MathLoose.abs_long.code 2 (some .long) ∈ xB) (hdd : 1 ≤ d) (hcat : (st.map fun v => v.category).sum ≤ 8) (hd : decode cc pc = .ok (.invokestatic ix, 3)) (kk : Wat κ (pc + 3) lv (.long (if 0 < x then x else -x) :: st) ω) : Wat κ pc lv (.long x :: st) ω := by
  obtain ⟨⟨⟨p, e, R⟩, ⟨s, m, args, below⟩, ⟨meth, c, cells, slots⟩, ⟨Q, A⟩, ⟨D, ad, cA⟩⟩, ⟨hx, hb, hml, hr, hts, hown, hlocks⟩, hK, hA, hroom⟩ := κ
  intro H locs ls hP hD hS hl
  have hlo := hroom.2.1
  exact va_mabs_long hx hb (by rw [hml]; exact hl.1.symm) hown (hts _ hlk) (hts _ h2) (hts _ h3) (hts _ h4) (Nat.le_trans hdd hroom.1) (by rw [List.map_map]; rw [show ((fun v : Value => v.category) ∘ xv ad) = (fun v => v.category) from funext fun v => xv_cat ad v]; omega) hroom.2.2.1 hroom.2.2.2 hd (kk H locs ls hP hD hS hl)
set_option maxHeartbeats 1000000 in
theorem xr_tsw {l : Launch} {T : xKd} {cc : ByteArray} {own : String} {nL : Nat} {ret : Option FieldType} {d : Nat} (κ : XC l T cc own nL ret d) {pc : Nat} {lv : List (Nat × Value)} {st : List Value} {ω : xWd} {dflt hi : Int} {offs : Array Int} {len : Nat} {x : Int32} (N : Nat) (tg : Nat → Nat) (dt : Nat) (hd : decode cc pc = .ok (.tableswitch dflt 0 hi offs, len)) (hhi : hi = (N : Int) - 1) (hN : N < 2 ^ 31) (hof : ∀ j, j < N → ∃ off, offs[j]? = some off ∧ (pc : Int) + off = (tg j : Int)) (hdt : (pc : Int) + dflt = (dt : Int))
    (kt : ∀ j : Nat, j < N → x = nI j → Wat κ (tg j) lv st ω) (kf : (∀ j : Nat, j < N → ¬ x = nI j) → Wat κ dt lv st ω) : Wat κ pc lv (.int x :: st) ω := by
  obtain ⟨⟨⟨p, e, R⟩, ⟨s, m, args, below⟩, ⟨meth, c, cells, slots⟩, ⟨Q, A⟩, ⟨D, ad, cA⟩⟩, ⟨hx, hb, hml, hr, hts, hown, hlocks⟩, hK, hA, hroom⟩ := κ
  intro H locs ls hP hD hS hl
  by_cases hin : 0 ≤ x.toInt ∧ x.toInt < N
  · have hj : x.toInt.toNat < N := by omega
    have hxe : x = nI x.toInt.toNat := Int32.toInt_inj.mp (by rw [nI_toInt (by omega)]; omega)
    obtain ⟨off, ho, ht⟩ := hof _ hj
    exact lv_tableIn hx hb hd (by omega) (by omega) (by rw [show (x.toInt - 0).toNat = x.toInt.toNat by omega]; exact ho) ht (kt _ hj hxe H locs ls hP hD hS hl)
  · refine lv_tableOut hx hb hd (by omega) hdt (kf (fun j hj hxe => ?_) H locs ls hP hD hS hl)
    rw [hxe, nI_toInt (by omega)] at hin
    omega
end
section
/-! THE WORLDS: c : CS, what both hold alike (knots, wires, pads, pulls, wires' ends, widths, prices, blocks, budget); t : MT, the reference's scratch; x : XT, the class's scratch; its six balances BS: here, trial, steps 0 to 3 -/
abbrev CS : Type := Int32 × Int32 × Int32 × (Nat → Int32) × (Nat → Int32) × (Nat → Int32) × (Nat → Int32) × (Nat → Int32) × Int32 × Int32 × (Nat → Int32) × (Nat → Int32)
abbrev c_n (z : CS) : Int32 := z.1
abbrev c_wires (z : CS) : Int32 := z.2.1
abbrev c_pads (z : CS) : Int32 := z.2.2.1
abbrev c_pulls (z : CS) : (Nat → Int32) := z.2.2.2.1
abbrev c_from (z : CS) : (Nat → Int32) := z.2.2.2.2.1
abbrev c_to (z : CS) : (Nat → Int32) := z.2.2.2.2.2.1
abbrev c_wide (z : CS) : (Nat → Int32) := z.2.2.2.2.2.2.1
abbrev c_price (z : CS) : (Nat → Int32) := z.2.2.2.2.2.2.2.1
abbrev c_nb (z : CS) : Int32 := z.2.2.2.2.2.2.2.2.1
abbrev c_budget (z : CS) : Int32 := z.2.2.2.2.2.2.2.2.2.1
abbrev c_sits (z : CS) : (Nat → Int32) := z.2.2.2.2.2.2.2.2.2.2.1
abbrev c_most (z : CS) : (Nat → Int32) := z.2.2.2.2.2.2.2.2.2.2.2
abbrev cs_n (z : CS) (v : Int32) : CS := (v, z.2)
abbrev cs_wires (z : CS) (v : Int32) : CS := (z.1, v, z.2.2)
abbrev cs_pads (z : CS) (v : Int32) : CS := (z.1, z.2.1, v, z.2.2.2)
abbrev cs_pulls (z : CS) (v : (Nat → Int32)) : CS := (z.1, z.2.1, z.2.2.1, v, z.2.2.2.2)
abbrev cs_from (z : CS) (v : (Nat → Int32)) : CS := (z.1, z.2.1, z.2.2.1, z.2.2.2.1, v, z.2.2.2.2.2)
abbrev cs_to (z : CS) (v : (Nat → Int32)) : CS := (z.1, z.2.1, z.2.2.1, z.2.2.2.1, z.2.2.2.2.1, v, z.2.2.2.2.2.2)
abbrev cs_wide (z : CS) (v : (Nat → Int32)) : CS := (z.1, z.2.1, z.2.2.1, z.2.2.2.1, z.2.2.2.2.1, z.2.2.2.2.2.1, v, z.2.2.2.2.2.2.2)
abbrev cs_price (z : CS) (v : (Nat → Int32)) : CS := (z.1, z.2.1, z.2.2.1, z.2.2.2.1, z.2.2.2.2.1, z.2.2.2.2.2.1, z.2.2.2.2.2.2.1, v, z.2.2.2.2.2.2.2.2)
abbrev cs_nb (z : CS) (v : Int32) : CS := (z.1, z.2.1, z.2.2.1, z.2.2.2.1, z.2.2.2.2.1, z.2.2.2.2.2.1, z.2.2.2.2.2.2.1, z.2.2.2.2.2.2.2.1, v, z.2.2.2.2.2.2.2.2.2)
abbrev cs_budget (z : CS) (v : Int32) : CS := (z.1, z.2.1, z.2.2.1, z.2.2.2.1, z.2.2.2.2.1, z.2.2.2.2.2.1, z.2.2.2.2.2.2.1, z.2.2.2.2.2.2.2.1, z.2.2.2.2.2.2.2.2.1, v, z.2.2.2.2.2.2.2.2.2.2)
abbrev cs_sits (z : CS) (v : (Nat → Int32)) : CS := (z.1, z.2.1, z.2.2.1, z.2.2.2.1, z.2.2.2.2.1, z.2.2.2.2.2.1, z.2.2.2.2.2.2.1, z.2.2.2.2.2.2.2.1, z.2.2.2.2.2.2.2.2.1, z.2.2.2.2.2.2.2.2.2.1, v, z.2.2.2.2.2.2.2.2.2.2.2)
abbrev cs_most (z : CS) (v : (Nat → Int32)) : CS := (z.1, z.2.1, z.2.2.1, z.2.2.2.1, z.2.2.2.2.1, z.2.2.2.2.2.1, z.2.2.2.2.2.2.1, z.2.2.2.2.2.2.2.1, z.2.2.2.2.2.2.2.2.1, z.2.2.2.2.2.2.2.2.2.1, z.2.2.2.2.2.2.2.2.2.2.1, v)
abbrev MT : Type := Int32 × Int64 × Int64 × (Nat → Int64) × (Nat → Int32) × (Nat → Int32) × (Nat → Int64) × (Nat → Int32) × (Nat → Int32) × (Nat → Int32) × (Nat → Int32) × (Nat → Int32) × (Nat → Int32) × (Nat → Int32)
abbrev m_side (z : MT) : Int32 := z.1
abbrev m_under (z : MT) : Int64 := z.2.1
abbrev m_woken (z : MT) : Int64 := z.2.2.1
abbrev m_square (z : MT) : (Nat → Int64) := z.2.2.2.1
abbrev m_rows (z : MT) : (Nat → Int32) := z.2.2.2.2.1
abbrev m_columns (z : MT) : (Nat → Int32) := z.2.2.2.2.2.1
abbrev m_resist (z : MT) : (Nat → Int64) := z.2.2.2.2.2.2.1
abbrev m_gets (z : MT) : (Nat → Int32) := z.2.2.2.2.2.2.2.1
abbrev m_picked (z : MT) : (Nat → Int32) := z.2.2.2.2.2.2.2.2.1
abbrev m_more (z : MT) : (Nat → Int32) := z.2.2.2.2.2.2.2.2.2.1
abbrev m_bestMore (z : MT) : (Nat → Int32) := z.2.2.2.2.2.2.2.2.2.2.1
abbrev m_order (z : MT) : (Nat → Int32) := z.2.2.2.2.2.2.2.2.2.2.2.1
abbrev m_bestOrder (z : MT) : (Nat → Int32) := z.2.2.2.2.2.2.2.2.2.2.2.2.1
abbrev m_now (z : MT) : (Nat → Int32) := z.2.2.2.2.2.2.2.2.2.2.2.2.2
abbrev ms_side (z : MT) (v : Int32) : MT := (v, z.2)
abbrev ms_under (z : MT) (v : Int64) : MT := (z.1, v, z.2.2)
abbrev ms_woken (z : MT) (v : Int64) : MT := (z.1, z.2.1, v, z.2.2.2)
abbrev ms_square (z : MT) (v : (Nat → Int64)) : MT := (z.1, z.2.1, z.2.2.1, v, z.2.2.2.2)
abbrev ms_rows (z : MT) (v : (Nat → Int32)) : MT := (z.1, z.2.1, z.2.2.1, z.2.2.2.1, v, z.2.2.2.2.2)
abbrev ms_columns (z : MT) (v : (Nat → Int32)) : MT := (z.1, z.2.1, z.2.2.1, z.2.2.2.1, z.2.2.2.2.1, v, z.2.2.2.2.2.2)
abbrev ms_resist (z : MT) (v : (Nat → Int64)) : MT := (z.1, z.2.1, z.2.2.1, z.2.2.2.1, z.2.2.2.2.1, z.2.2.2.2.2.1, v, z.2.2.2.2.2.2.2)
abbrev ms_gets (z : MT) (v : (Nat → Int32)) : MT := (z.1, z.2.1, z.2.2.1, z.2.2.2.1, z.2.2.2.2.1, z.2.2.2.2.2.1, z.2.2.2.2.2.2.1, v, z.2.2.2.2.2.2.2.2)
abbrev ms_picked (z : MT) (v : (Nat → Int32)) : MT := (z.1, z.2.1, z.2.2.1, z.2.2.2.1, z.2.2.2.2.1, z.2.2.2.2.2.1, z.2.2.2.2.2.2.1, z.2.2.2.2.2.2.2.1, v, z.2.2.2.2.2.2.2.2.2)
abbrev ms_more (z : MT) (v : (Nat → Int32)) : MT := (z.1, z.2.1, z.2.2.1, z.2.2.2.1, z.2.2.2.2.1, z.2.2.2.2.2.1, z.2.2.2.2.2.2.1, z.2.2.2.2.2.2.2.1, z.2.2.2.2.2.2.2.2.1, v, z.2.2.2.2.2.2.2.2.2.2)
abbrev ms_bestMore (z : MT) (v : (Nat → Int32)) : MT := (z.1, z.2.1, z.2.2.1, z.2.2.2.1, z.2.2.2.2.1, z.2.2.2.2.2.1, z.2.2.2.2.2.2.1, z.2.2.2.2.2.2.2.1, z.2.2.2.2.2.2.2.2.1, z.2.2.2.2.2.2.2.2.2.1, v, z.2.2.2.2.2.2.2.2.2.2.2)
abbrev ms_order (z : MT) (v : (Nat → Int32)) : MT := (z.1, z.2.1, z.2.2.1, z.2.2.2.1, z.2.2.2.2.1, z.2.2.2.2.2.1, z.2.2.2.2.2.2.1, z.2.2.2.2.2.2.2.1, z.2.2.2.2.2.2.2.2.1, z.2.2.2.2.2.2.2.2.2.1, z.2.2.2.2.2.2.2.2.2.2.1, v, z.2.2.2.2.2.2.2.2.2.2.2.2)
abbrev ms_bestOrder (z : MT) (v : (Nat → Int32)) : MT := (z.1, z.2.1, z.2.2.1, z.2.2.2.1, z.2.2.2.2.1, z.2.2.2.2.2.1, z.2.2.2.2.2.2.1, z.2.2.2.2.2.2.2.1, z.2.2.2.2.2.2.2.2.1, z.2.2.2.2.2.2.2.2.2.1, z.2.2.2.2.2.2.2.2.2.2.1, z.2.2.2.2.2.2.2.2.2.2.2.1, v, z.2.2.2.2.2.2.2.2.2.2.2.2.2)
abbrev ms_now (z : MT) (v : (Nat → Int32)) : MT := (z.1, z.2.1, z.2.2.1, z.2.2.2.1, z.2.2.2.2.1, z.2.2.2.2.2.1, z.2.2.2.2.2.2.1, z.2.2.2.2.2.2.2.1, z.2.2.2.2.2.2.2.2.1, z.2.2.2.2.2.2.2.2.2.1, z.2.2.2.2.2.2.2.2.2.2.1, z.2.2.2.2.2.2.2.2.2.2.2.1, z.2.2.2.2.2.2.2.2.2.2.2.2.1, v)
abbrev BS : Type := Int32 × Int64 × (Nat → Nat → Int64) × (Nat → Int64) × (Nat → Int64)
abbrev b_knots (z : BS) : Int32 := z.1
abbrev b_below (z : BS) : Int64 := z.2.1
abbrev b_cell (z : BS) : (Nat → Nat → Int64) := z.2.2.1
abbrev b_above (z : BS) : (Nat → Int64) := z.2.2.2.1
abbrev b_spread (z : BS) : (Nat → Int64) := z.2.2.2.2
abbrev bs_knots (z : BS) (v : Int32) : BS := (v, z.2)
abbrev bs_below (z : BS) (v : Int64) : BS := (z.1, v, z.2.2)
abbrev bs_cell (z : BS) (v : (Nat → Nat → Int64)) : BS := (z.1, z.2.1, v, z.2.2.2)
abbrev bs_above (z : BS) (v : (Nat → Int64)) : BS := (z.1, z.2.1, z.2.2.1, v, z.2.2.2.2)
abbrev bs_spread (z : BS) (v : (Nat → Int64)) : BS := (z.1, z.2.1, z.2.2.1, z.2.2.2.1, v)
abbrev XT : Type := (Nat → Int32) × (Nat → BS) × (Nat → Int32) × (Nat → Int32) × Int32 × Int32 × Int32 × Int32 × (Nat → Int64) × (Nat → Int64) × (Nat → Int32)
abbrev x_gets (z : XT) : (Nat → Int32) := z.1
abbrev x_bal (z : XT) : (Nat → BS) := z.2.1
abbrev x_row (z : XT) : (Nat → Int32) := z.2.2.1
abbrev x_bestRow (z : XT) : (Nat → Int32) := z.2.2.2.1
abbrev x_bestPrice (z : XT) : Int32 := z.2.2.2.2.1
abbrev x_bestMore (z : XT) : Int32 := z.2.2.2.2.2.1
abbrev x_limit (z : XT) : Int32 := z.2.2.2.2.2.2.1
abbrev x_umost (z : XT) : Int32 := z.2.2.2.2.2.2.2.1
abbrev x_least (z : XT) : (Nat → Int64) := z.2.2.2.2.2.2.2.2.1
abbrev x_awake (z : XT) : (Nat → Int64) := z.2.2.2.2.2.2.2.2.2.1
abbrev x_order (z : XT) : (Nat → Int32) := z.2.2.2.2.2.2.2.2.2.2
abbrev xs_gets (z : XT) (v : (Nat → Int32)) : XT := (v, z.2)
abbrev xs_bal (z : XT) (v : (Nat → BS)) : XT := (z.1, v, z.2.2)
abbrev xs_row (z : XT) (v : (Nat → Int32)) : XT := (z.1, z.2.1, v, z.2.2.2)
abbrev xs_bestRow (z : XT) (v : (Nat → Int32)) : XT := (z.1, z.2.1, z.2.2.1, v, z.2.2.2.2)
abbrev xs_bestPrice (z : XT) (v : Int32) : XT := (z.1, z.2.1, z.2.2.1, z.2.2.2.1, v, z.2.2.2.2.2)
abbrev xs_bestMore (z : XT) (v : Int32) : XT := (z.1, z.2.1, z.2.2.1, z.2.2.2.1, z.2.2.2.2.1, v, z.2.2.2.2.2.2)
abbrev xs_limit (z : XT) (v : Int32) : XT := (z.1, z.2.1, z.2.2.1, z.2.2.2.1, z.2.2.2.2.1, z.2.2.2.2.2.1, v, z.2.2.2.2.2.2.2)
abbrev xs_umost (z : XT) (v : Int32) : XT := (z.1, z.2.1, z.2.2.1, z.2.2.2.1, z.2.2.2.2.1, z.2.2.2.2.2.1, z.2.2.2.2.2.2.1, v, z.2.2.2.2.2.2.2.2)
abbrev xs_least (z : XT) (v : (Nat → Int64)) : XT := (z.1, z.2.1, z.2.2.1, z.2.2.2.1, z.2.2.2.2.1, z.2.2.2.2.2.1, z.2.2.2.2.2.2.1, z.2.2.2.2.2.2.2.1, v, z.2.2.2.2.2.2.2.2.2)
abbrev xs_awake (z : XT) (v : (Nat → Int64)) : XT := (z.1, z.2.1, z.2.2.1, z.2.2.2.1, z.2.2.2.2.1, z.2.2.2.2.2.1, z.2.2.2.2.2.2.1, z.2.2.2.2.2.2.2.1, z.2.2.2.2.2.2.2.2.1, v, z.2.2.2.2.2.2.2.2.2.2)
abbrev xs_order (z : XT) (v : (Nat → Int32)) : XT := (z.1, z.2.1, z.2.2.1, z.2.2.2.1, z.2.2.2.2.1, z.2.2.2.2.2.1, z.2.2.2.2.2.2.1, z.2.2.2.2.2.2.2.1, z.2.2.2.2.2.2.2.2.1, z.2.2.2.2.2.2.2.2.2.1, v)
def mFs (c : CS) (t : MT) : List Value := [.int (c_n c), .int (c_wires c), .ref 1, .ref 2, .ref 3, .ref 4, .int (c_pads c), .ref 5, .int (c_nb c), .ref 6, .ref 7, .int (c_budget c), .ref 8, .int (m_side t), .ref 9, .ref 10, .ref 11, .long (m_under t), .ref 12, .ref 13, .ref 14, .ref 15, .ref 16, .ref 17, .ref 18, .long (m_woken t)]
def wM (c : CS) (t : MT) : xWd := fun k => match k with
  | 0 => xO 6 (mFs c t)
  | 1 => xI 12 (c_from c)
  | 2 => xI 12 (c_to c)
  | 3 => xI 12 (c_wide c)
  | 4 => xI 12 (c_price c)
  | 5 => xI 7 (c_pulls c)
  | 6 => xI 6 (c_sits c)
  | 7 => xI 6 (c_most c)
  | 8 => xJ 49 (m_square t)
  | 9 => xI 7 (m_rows t)
  | 10 => xI 7 (m_columns t)
  | 11 => xJ 49 (m_resist t)
  | 12 => xI 6 (m_gets t)
  | 13 => xI 3 (m_picked t)
  | 14 => xI 12 (m_more t)
  | 15 => xI 12 (m_bestMore t)
  | 16 => xI 6 (m_order t)
  | 17 => xI 6 (m_bestOrder t)
  | 18 => xI 7 (m_now t)
  | _ => xI 0 (fun _ => 0)
def xTM : xKd := (19, fun k => match k with
  | 0 => none
  | 1 => some .int
  | 2 => some .int
  | 3 => some .int
  | 4 => some .int
  | 5 => some .int
  | 6 => some .int
  | 7 => some .int
  | 8 => some .long
  | 9 => some .int
  | 10 => some .int
  | 11 => some .long
  | 12 => some .int
  | 13 => some .int
  | 14 => some .int
  | 15 => some .int
  | 16 => some .int
  | 17 => some .int
  | 18 => some .int
  | _ => none)
theorem wMf_n (c : CS) (t : MT) (v : Int32) : va_up (wM c t) 0 (xO 6 ((mFs c t).set 0 (.int v))) = wM (cs_n c v) t := by
  funext k
  match k with
  | 0 => rfl
  | 1 => rfl
  | 2 => rfl
  | 3 => rfl
  | 4 => rfl
  | 5 => rfl
  | 6 => rfl
  | 7 => rfl
  | 8 => rfl
  | 9 => rfl
  | 10 => rfl
  | 11 => rfl
  | 12 => rfl
  | 13 => rfl
  | 14 => rfl
  | 15 => rfl
  | 16 => rfl
  | 17 => rfl
  | 18 => rfl
  | n + 19 => rfl
theorem wMf_wires (c : CS) (t : MT) (v : Int32) : va_up (wM c t) 0 (xO 6 ((mFs c t).set 1 (.int v))) = wM (cs_wires c v) t := by
  funext k
  match k with
  | 0 => rfl
  | 1 => rfl
  | 2 => rfl
  | 3 => rfl
  | 4 => rfl
  | 5 => rfl
  | 6 => rfl
  | 7 => rfl
  | 8 => rfl
  | 9 => rfl
  | 10 => rfl
  | 11 => rfl
  | 12 => rfl
  | 13 => rfl
  | 14 => rfl
  | 15 => rfl
  | 16 => rfl
  | 17 => rfl
  | 18 => rfl
  | n + 19 => rfl
theorem wMa_from (c : CS) (t : MT) (v : (Nat → Int32)) : va_up (wM c t) 1 (xI 12 v) = wM (cs_from c v) t := by
  funext k
  match k with
  | 0 => rfl
  | 1 => rfl
  | 2 => rfl
  | 3 => rfl
  | 4 => rfl
  | 5 => rfl
  | 6 => rfl
  | 7 => rfl
  | 8 => rfl
  | 9 => rfl
  | 10 => rfl
  | 11 => rfl
  | 12 => rfl
  | 13 => rfl
  | 14 => rfl
  | 15 => rfl
  | 16 => rfl
  | 17 => rfl
  | 18 => rfl
  | n + 19 => rfl
theorem wMa_to (c : CS) (t : MT) (v : (Nat → Int32)) : va_up (wM c t) 2 (xI 12 v) = wM (cs_to c v) t := by
  funext k
  match k with
  | 0 => rfl
  | 1 => rfl
  | 2 => rfl
  | 3 => rfl
  | 4 => rfl
  | 5 => rfl
  | 6 => rfl
  | 7 => rfl
  | 8 => rfl
  | 9 => rfl
  | 10 => rfl
  | 11 => rfl
  | 12 => rfl
  | 13 => rfl
  | 14 => rfl
  | 15 => rfl
  | 16 => rfl
  | 17 => rfl
  | 18 => rfl
  | n + 19 => rfl
theorem wMa_wide (c : CS) (t : MT) (v : (Nat → Int32)) : va_up (wM c t) 3 (xI 12 v) = wM (cs_wide c v) t := by
  funext k
  match k with
  | 0 => rfl
  | 1 => rfl
  | 2 => rfl
  | 3 => rfl
  | 4 => rfl
  | 5 => rfl
  | 6 => rfl
  | 7 => rfl
  | 8 => rfl
  | 9 => rfl
  | 10 => rfl
  | 11 => rfl
  | 12 => rfl
  | 13 => rfl
  | 14 => rfl
  | 15 => rfl
  | 16 => rfl
  | 17 => rfl
  | 18 => rfl
  | n + 19 => rfl
theorem wMa_price (c : CS) (t : MT) (v : (Nat → Int32)) : va_up (wM c t) 4 (xI 12 v) = wM (cs_price c v) t := by
  funext k
  match k with
  | 0 => rfl
  | 1 => rfl
  | 2 => rfl
  | 3 => rfl
  | 4 => rfl
  | 5 => rfl
  | 6 => rfl
  | 7 => rfl
  | 8 => rfl
  | 9 => rfl
  | 10 => rfl
  | 11 => rfl
  | 12 => rfl
  | 13 => rfl
  | 14 => rfl
  | 15 => rfl
  | 16 => rfl
  | 17 => rfl
  | 18 => rfl
  | n + 19 => rfl
theorem wMf_pads (c : CS) (t : MT) (v : Int32) : va_up (wM c t) 0 (xO 6 ((mFs c t).set 6 (.int v))) = wM (cs_pads c v) t := by
  funext k
  match k with
  | 0 => rfl
  | 1 => rfl
  | 2 => rfl
  | 3 => rfl
  | 4 => rfl
  | 5 => rfl
  | 6 => rfl
  | 7 => rfl
  | 8 => rfl
  | 9 => rfl
  | 10 => rfl
  | 11 => rfl
  | 12 => rfl
  | 13 => rfl
  | 14 => rfl
  | 15 => rfl
  | 16 => rfl
  | 17 => rfl
  | 18 => rfl
  | n + 19 => rfl
theorem wMa_pulls (c : CS) (t : MT) (v : (Nat → Int32)) : va_up (wM c t) 5 (xI 7 v) = wM (cs_pulls c v) t := by
  funext k
  match k with
  | 0 => rfl
  | 1 => rfl
  | 2 => rfl
  | 3 => rfl
  | 4 => rfl
  | 5 => rfl
  | 6 => rfl
  | 7 => rfl
  | 8 => rfl
  | 9 => rfl
  | 10 => rfl
  | 11 => rfl
  | 12 => rfl
  | 13 => rfl
  | 14 => rfl
  | 15 => rfl
  | 16 => rfl
  | 17 => rfl
  | 18 => rfl
  | n + 19 => rfl
theorem wMf_nb (c : CS) (t : MT) (v : Int32) : va_up (wM c t) 0 (xO 6 ((mFs c t).set 8 (.int v))) = wM (cs_nb c v) t := by
  funext k
  match k with
  | 0 => rfl
  | 1 => rfl
  | 2 => rfl
  | 3 => rfl
  | 4 => rfl
  | 5 => rfl
  | 6 => rfl
  | 7 => rfl
  | 8 => rfl
  | 9 => rfl
  | 10 => rfl
  | 11 => rfl
  | 12 => rfl
  | 13 => rfl
  | 14 => rfl
  | 15 => rfl
  | 16 => rfl
  | 17 => rfl
  | 18 => rfl
  | n + 19 => rfl
theorem wMa_sits (c : CS) (t : MT) (v : (Nat → Int32)) : va_up (wM c t) 6 (xI 6 v) = wM (cs_sits c v) t := by
  funext k
  match k with
  | 0 => rfl
  | 1 => rfl
  | 2 => rfl
  | 3 => rfl
  | 4 => rfl
  | 5 => rfl
  | 6 => rfl
  | 7 => rfl
  | 8 => rfl
  | 9 => rfl
  | 10 => rfl
  | 11 => rfl
  | 12 => rfl
  | 13 => rfl
  | 14 => rfl
  | 15 => rfl
  | 16 => rfl
  | 17 => rfl
  | 18 => rfl
  | n + 19 => rfl
theorem wMa_most (c : CS) (t : MT) (v : (Nat → Int32)) : va_up (wM c t) 7 (xI 6 v) = wM (cs_most c v) t := by
  funext k
  match k with
  | 0 => rfl
  | 1 => rfl
  | 2 => rfl
  | 3 => rfl
  | 4 => rfl
  | 5 => rfl
  | 6 => rfl
  | 7 => rfl
  | 8 => rfl
  | 9 => rfl
  | 10 => rfl
  | 11 => rfl
  | 12 => rfl
  | 13 => rfl
  | 14 => rfl
  | 15 => rfl
  | 16 => rfl
  | 17 => rfl
  | 18 => rfl
  | n + 19 => rfl
theorem wMf_budget (c : CS) (t : MT) (v : Int32) : va_up (wM c t) 0 (xO 6 ((mFs c t).set 11 (.int v))) = wM (cs_budget c v) t := by
  funext k
  match k with
  | 0 => rfl
  | 1 => rfl
  | 2 => rfl
  | 3 => rfl
  | 4 => rfl
  | 5 => rfl
  | 6 => rfl
  | 7 => rfl
  | 8 => rfl
  | 9 => rfl
  | 10 => rfl
  | 11 => rfl
  | 12 => rfl
  | 13 => rfl
  | 14 => rfl
  | 15 => rfl
  | 16 => rfl
  | 17 => rfl
  | 18 => rfl
  | n + 19 => rfl
theorem wMa_square (c : CS) (t : MT) (v : (Nat → Int64)) : va_up (wM c t) 8 (xJ 49 v) = wM c (ms_square t v) := by
  funext k
  match k with
  | 0 => rfl
  | 1 => rfl
  | 2 => rfl
  | 3 => rfl
  | 4 => rfl
  | 5 => rfl
  | 6 => rfl
  | 7 => rfl
  | 8 => rfl
  | 9 => rfl
  | 10 => rfl
  | 11 => rfl
  | 12 => rfl
  | 13 => rfl
  | 14 => rfl
  | 15 => rfl
  | 16 => rfl
  | 17 => rfl
  | 18 => rfl
  | n + 19 => rfl
theorem wMf_side (c : CS) (t : MT) (v : Int32) : va_up (wM c t) 0 (xO 6 ((mFs c t).set 13 (.int v))) = wM c (ms_side t v) := by
  funext k
  match k with
  | 0 => rfl
  | 1 => rfl
  | 2 => rfl
  | 3 => rfl
  | 4 => rfl
  | 5 => rfl
  | 6 => rfl
  | 7 => rfl
  | 8 => rfl
  | 9 => rfl
  | 10 => rfl
  | 11 => rfl
  | 12 => rfl
  | 13 => rfl
  | 14 => rfl
  | 15 => rfl
  | 16 => rfl
  | 17 => rfl
  | 18 => rfl
  | n + 19 => rfl
theorem wMa_rows (c : CS) (t : MT) (v : (Nat → Int32)) : va_up (wM c t) 9 (xI 7 v) = wM c (ms_rows t v) := by
  funext k
  match k with
  | 0 => rfl
  | 1 => rfl
  | 2 => rfl
  | 3 => rfl
  | 4 => rfl
  | 5 => rfl
  | 6 => rfl
  | 7 => rfl
  | 8 => rfl
  | 9 => rfl
  | 10 => rfl
  | 11 => rfl
  | 12 => rfl
  | 13 => rfl
  | 14 => rfl
  | 15 => rfl
  | 16 => rfl
  | 17 => rfl
  | 18 => rfl
  | n + 19 => rfl
theorem wMa_columns (c : CS) (t : MT) (v : (Nat → Int32)) : va_up (wM c t) 10 (xI 7 v) = wM c (ms_columns t v) := by
  funext k
  match k with
  | 0 => rfl
  | 1 => rfl
  | 2 => rfl
  | 3 => rfl
  | 4 => rfl
  | 5 => rfl
  | 6 => rfl
  | 7 => rfl
  | 8 => rfl
  | 9 => rfl
  | 10 => rfl
  | 11 => rfl
  | 12 => rfl
  | 13 => rfl
  | 14 => rfl
  | 15 => rfl
  | 16 => rfl
  | 17 => rfl
  | 18 => rfl
  | n + 19 => rfl
theorem wMa_resist (c : CS) (t : MT) (v : (Nat → Int64)) : va_up (wM c t) 11 (xJ 49 v) = wM c (ms_resist t v) := by
  funext k
  match k with
  | 0 => rfl
  | 1 => rfl
  | 2 => rfl
  | 3 => rfl
  | 4 => rfl
  | 5 => rfl
  | 6 => rfl
  | 7 => rfl
  | 8 => rfl
  | 9 => rfl
  | 10 => rfl
  | 11 => rfl
  | 12 => rfl
  | 13 => rfl
  | 14 => rfl
  | 15 => rfl
  | 16 => rfl
  | 17 => rfl
  | 18 => rfl
  | n + 19 => rfl
theorem wMf_under (c : CS) (t : MT) (v : Int64) : va_up (wM c t) 0 (xO 6 ((mFs c t).set 17 (.long v))) = wM c (ms_under t v) := by
  funext k
  match k with
  | 0 => rfl
  | 1 => rfl
  | 2 => rfl
  | 3 => rfl
  | 4 => rfl
  | 5 => rfl
  | 6 => rfl
  | 7 => rfl
  | 8 => rfl
  | 9 => rfl
  | 10 => rfl
  | 11 => rfl
  | 12 => rfl
  | 13 => rfl
  | 14 => rfl
  | 15 => rfl
  | 16 => rfl
  | 17 => rfl
  | 18 => rfl
  | n + 19 => rfl
theorem wMa_gets (c : CS) (t : MT) (v : (Nat → Int32)) : va_up (wM c t) 12 (xI 6 v) = wM c (ms_gets t v) := by
  funext k
  match k with
  | 0 => rfl
  | 1 => rfl
  | 2 => rfl
  | 3 => rfl
  | 4 => rfl
  | 5 => rfl
  | 6 => rfl
  | 7 => rfl
  | 8 => rfl
  | 9 => rfl
  | 10 => rfl
  | 11 => rfl
  | 12 => rfl
  | 13 => rfl
  | 14 => rfl
  | 15 => rfl
  | 16 => rfl
  | 17 => rfl
  | 18 => rfl
  | n + 19 => rfl
theorem wMa_picked (c : CS) (t : MT) (v : (Nat → Int32)) : va_up (wM c t) 13 (xI 3 v) = wM c (ms_picked t v) := by
  funext k
  match k with
  | 0 => rfl
  | 1 => rfl
  | 2 => rfl
  | 3 => rfl
  | 4 => rfl
  | 5 => rfl
  | 6 => rfl
  | 7 => rfl
  | 8 => rfl
  | 9 => rfl
  | 10 => rfl
  | 11 => rfl
  | 12 => rfl
  | 13 => rfl
  | 14 => rfl
  | 15 => rfl
  | 16 => rfl
  | 17 => rfl
  | 18 => rfl
  | n + 19 => rfl
theorem wMa_more (c : CS) (t : MT) (v : (Nat → Int32)) : va_up (wM c t) 14 (xI 12 v) = wM c (ms_more t v) := by
  funext k
  match k with
  | 0 => rfl
  | 1 => rfl
  | 2 => rfl
  | 3 => rfl
  | 4 => rfl
  | 5 => rfl
  | 6 => rfl
  | 7 => rfl
  | 8 => rfl
  | 9 => rfl
  | 10 => rfl
  | 11 => rfl
  | 12 => rfl
  | 13 => rfl
  | 14 => rfl
  | 15 => rfl
  | 16 => rfl
  | 17 => rfl
  | 18 => rfl
  | n + 19 => rfl
theorem wMa_bestMore (c : CS) (t : MT) (v : (Nat → Int32)) : va_up (wM c t) 15 (xI 12 v) = wM c (ms_bestMore t v) := by
  funext k
  match k with
  | 0 => rfl
  | 1 => rfl
  | 2 => rfl
  | 3 => rfl
  | 4 => rfl
  | 5 => rfl
  | 6 => rfl
  | 7 => rfl
  | 8 => rfl
  | 9 => rfl
  | 10 => rfl
  | 11 => rfl
  | 12 => rfl
  | 13 => rfl
  | 14 => rfl
  | 15 => rfl
  | 16 => rfl
  | 17 => rfl
  | 18 => rfl
  | n + 19 => rfl
theorem wMa_order (c : CS) (t : MT) (v : (Nat → Int32)) : va_up (wM c t) 16 (xI 6 v) = wM c (ms_order t v) := by
  funext k
  match k with
  | 0 => rfl
  | 1 => rfl
  | 2 => rfl
  | 3 => rfl
  | 4 => rfl
  | 5 => rfl
  | 6 => rfl
  | 7 => rfl
  | 8 => rfl
  | 9 => rfl
  | 10 => rfl
  | 11 => rfl
  | 12 => rfl
  | 13 => rfl
  | 14 => rfl
  | 15 => rfl
  | 16 => rfl
  | 17 => rfl
  | 18 => rfl
  | n + 19 => rfl
theorem wMa_bestOrder (c : CS) (t : MT) (v : (Nat → Int32)) : va_up (wM c t) 17 (xI 6 v) = wM c (ms_bestOrder t v) := by
  funext k
  match k with
  | 0 => rfl
  | 1 => rfl
  | 2 => rfl
  | 3 => rfl
  | 4 => rfl
  | 5 => rfl
  | 6 => rfl
  | 7 => rfl
  | 8 => rfl
  | 9 => rfl
  | 10 => rfl
  | 11 => rfl
  | 12 => rfl
  | 13 => rfl
  | 14 => rfl
  | 15 => rfl
  | 16 => rfl
  | 17 => rfl
  | 18 => rfl
  | n + 19 => rfl
theorem wMa_now (c : CS) (t : MT) (v : (Nat → Int32)) : va_up (wM c t) 18 (xI 7 v) = wM c (ms_now t v) := by
  funext k
  match k with
  | 0 => rfl
  | 1 => rfl
  | 2 => rfl
  | 3 => rfl
  | 4 => rfl
  | 5 => rfl
  | 6 => rfl
  | 7 => rfl
  | 8 => rfl
  | 9 => rfl
  | 10 => rfl
  | 11 => rfl
  | 12 => rfl
  | 13 => rfl
  | 14 => rfl
  | 15 => rfl
  | 16 => rfl
  | 17 => rfl
  | 18 => rfl
  | n + 19 => rfl
theorem wMf_woken (c : CS) (t : MT) (v : Int64) : va_up (wM c t) 0 (xO 6 ((mFs c t).set 25 (.long v))) = wM c (ms_woken t v) := by
  funext k
  match k with
  | 0 => rfl
  | 1 => rfl
  | 2 => rfl
  | 3 => rfl
  | 4 => rfl
  | 5 => rfl
  | 6 => rfl
  | 7 => rfl
  | 8 => rfl
  | 9 => rfl
  | 10 => rfl
  | 11 => rfl
  | 12 => rfl
  | 13 => rfl
  | 14 => rfl
  | 15 => rfl
  | 16 => rfl
  | 17 => rfl
  | 18 => rfl
  | n + 19 => rfl
def xb (t : Nat) : Nat := 11 + 11 * t + 2 * ((t + 4) / 6)
def bFs (t : Nat) (b : BS) : List Value := [.int (b_knots b), .long (b_below b), .ref (xb t + 1), .ref (xb t + 9), .ref (xb t + 10)]
def xbC (t j : Nat) (b : BS) : xC := if j = 0 then xO 0 (bFs t b) else if j = 1 then xR 7 (fun i => if i < 7 then some (xb t + 2 + i) else none) else if j = 9 then xJ 7 (b_above b) else if j = 10 then xJ 7 (b_spread b) else xJ 7 (b_cell b (j - 2))
def xFs : List Value := [.ref 1, .ref 7, .ref (xb 0), .ref (xb 1), .ref 33, .ref 81]
def nFs (c : CS) : List Value := [.int (c_n c), .int (c_wires c), .int (c_pads c), .ref 2, .ref 3, .ref 4, .ref 5, .ref 6]
def kFs (c : CS) : List Value := [.int (c_nb c), .int (c_budget c), .ref 8, .ref 9, .ref 10]
def wFs (x : XT) : List Value := [.ref 34, .ref 79, .ref 80, .int (x_bestPrice x), .int (x_bestMore x), .int (x_limit x), .int (x_umost x)]
def aFs : List Value := [.ref 82, .ref 83, .ref 84]
def wX1 (c : CS) (x : XT) (k : Nat) : xC := match k with
  | 0 => xO 5 xFs
  | 1 => xO 2 (nFs c)
  | 2 => xI 7 (c_pulls c)
  | 3 => xI 12 (c_from c)
  | 4 => xI 12 (c_to c)
  | 5 => xI 12 (c_wide c)
  | 6 => xI 12 (c_price c)
  | 7 => xO 1 (kFs c)
  | 8 => xI 6 (c_sits c)
  | 9 => xI 6 (c_most c)
  | _ => xI 6 (x_gets x)
def wX2 (x : XT) (k : Nat) : xC := match k with
  | 0 => xI 12 (x_row x)
  | 1 => xI 12 (x_bestRow x)
  | 2 => xO 3 aFs
  | 3 => xJ 64 (x_least x)
  | 4 => xJ 7 (x_awake x)
  | 5 => xI 6 (x_order x)
  | _ => xI 0 (fun _ => 0)
def wX (c : CS) (x : XT) : xWd := fun k => if k < 11 then wX1 c x k else if k < 33 then xbC ((k - 11) / 11) ((k - 11) % 11) (x_bal x ((k - 11) / 11)) else if k = 33 then xO 4 (wFs x) else if k = 34 then xR 4 (fun i => if i < 4 then some (xb (2 + i)) else none) else if k < 79 then xbC ((k - 13) / 11) ((k - 13) % 11) (x_bal x ((k - 13) / 11)) else wX2 x (k - 79)
def xTX : xKd := (85, fun k => if k < 11 then (if k = 0 ∨ k = 1 ∨ k = 7 then none else some .int) else if k < 33 then (if (k - 11) % 11 = 0 then none else if (k - 11) % 11 = 1 then some (.array .long) else some .long) else if k = 33 then none else if k = 34 then some (.object "ChipVolts$Balance") else if k < 79 then (if (k - 13) % 11 = 0 then none else if (k - 13) % 11 = 1 then some (.array .long) else some .long) else if k = 79 ∨ k = 80 ∨ k = 84 then some .int else if k = 82 ∨ k = 83 then some .long else none)
theorem wX2_big (x : XT) : ∀ {j : Nat}, 6 ≤ j → wX2 x j = xI 0 (fun _ => 0)
  | n + 6, _ => rfl
/-- one balance anew -/
abbrev xsb (x : XT) (t : Nat) (b : BS) : XT := xs_bal x (va_up (x_bal x) t b)
theorem xb_cases {t : Nat} (ht : t < 6) : (t < 2 ∧ xb t = 11 + 11 * t) ∨ (2 ≤ t ∧ xb t = 13 + 11 * t) := by
  rcases (show t = 0 ∨ t = 1 ∨ t = 2 ∨ t = 3 ∨ t = 4 ∨ t = 5 by omega) with rfl | rfl | rfl | rfl | rfl | rfl <;> decide
theorem xb_lt {t j : Nat} (ht : t < 6) (hj : j < 11) : xb t + j < 85 := by rcases xb_cases ht with ⟨h, e⟩ | ⟨h, e⟩ <;> omega
theorem wXb (c : CS) (x : XT) {t j : Nat} (ht : t < 6) (hj : j < 11) : wX c x (xb t + j) = xbC t j (x_bal x t) := by
  unfold wX
  rcases xb_cases ht with ⟨h, e⟩ | ⟨h, e⟩
  · rw [if_neg (by omega), if_pos (by omega), show (xb t + j - 11) / 11 = t by omega, show (xb t + j - 11) % 11 = j by omega]
  · rw [if_neg (by omega), if_neg (by omega), if_neg (by omega), if_neg (by omega), if_pos (by omega), show (xb t + j - 13) / 11 = t by omega, show (xb t + j - 13) % 11 = j by omega]
theorem wXb_obj (c : CS) (x : XT) {t : Nat} (ht : t < 6) : wX c x (xb t) = xO 0 (bFs t (x_bal x t)) := wXb c x (j := 0) ht (by decide)
theorem wXb_out (c : CS) (x : XT) {t : Nat} (ht : t < 6) : wX c x (xb t + 1) = xR 7 (fun i => if i < 7 then some (xb t + 2 + i) else none) := wXb c x (j := 1) ht (by decide)
theorem wXb_above (c : CS) (x : XT) {t : Nat} (ht : t < 6) : wX c x (xb t + 9) = xJ 7 (b_above (x_bal x t)) := wXb c x (j := 9) ht (by decide)
theorem wXb_spread (c : CS) (x : XT) {t : Nat} (ht : t < 6) : wX c x (xb t + 10) = xJ 7 (b_spread (x_bal x t)) := wXb c x (j := 10) ht (by decide)
theorem wXb_row (c : CS) (x : XT) {t i : Nat} (ht : t < 6) (hi : i < 7) : wX c x (xb t + 2 + i) = xJ 7 (b_cell (x_bal x t) i) := by
  rw [Nat.add_assoc, wXb c x ht (show 2 + i < 11 by omega)]
  unfold xbC
  rw [if_neg (by omega), if_neg (by omega), if_neg (by omega), if_neg (by omega), show 2 + i - 2 = i by omega]
theorem wXb_set (c : CS) (x : XT) {t j : Nat} (ht : t < 6) (hj : j < 11) {cell : xC} (b' : BS) (h : ∀ i, i < 11 → xbC t i b' = if i = j then cell else xbC t i (x_bal x t)) : va_up (wX c x) (xb t + j) cell = wX c (xsb x t b') := by
  funext k
  have hx := xb_cases ht
  show (if k = xb t + j then cell else wX c x k) = wX c (xsb x t b') k
  unfold wX
  by_cases h1 : k < 11
  · simp only [if_pos h1]
    rw [if_neg (by omega)]
    rfl
  by_cases h2 : k < 33
  · simp only [if_neg h1, if_pos h2]
    show _ = xbC ((k - 11) / 11) ((k - 11) % 11) (if (k - 11) / 11 = t then b' else x_bal x ((k - 11) / 11))
    by_cases e : (k - 11) / 11 = t
    · rw [if_pos e, e, h _ (by omega)]
      by_cases e2 : (k - 11) % 11 = j
      · rw [if_pos (by omega), if_pos e2]
      · rw [if_neg (by omega), if_neg e2]
    · rw [if_neg e, if_neg (by omega)]
  by_cases h3 : k = 33
  · simp only [if_neg h1, if_neg h2, if_pos h3]
    rw [if_neg (by omega)]
    rfl
  by_cases h4 : k = 34
  · simp only [if_neg h1, if_neg h2, if_neg h3, if_pos h4]
    rw [if_neg (by omega)]
  by_cases h5 : k < 79
  · simp only [if_neg h1, if_neg h2, if_neg h3, if_neg h4, if_pos h5]
    show _ = xbC ((k - 13) / 11) ((k - 13) % 11) (if (k - 13) / 11 = t then b' else x_bal x ((k - 13) / 11))
    by_cases e : (k - 13) / 11 = t
    · rw [if_pos e, e, h _ (by omega)]
      by_cases e2 : (k - 13) % 11 = j
      · rw [if_pos (by omega), if_pos e2]
      · rw [if_neg (by omega), if_neg e2]
    · rw [if_neg e, if_neg (by omega)]
  · simp only [if_neg h1, if_neg h2, if_neg h3, if_neg h4, if_neg h5]
    rw [if_neg (by omega)]
    rfl
theorem wXb_knots (c : CS) (x : XT) {t : Nat} (ht : t < 6) (v : Int32) : va_up (wX c x) (xb t) (xO 0 ((bFs t (x_bal x t)).set 0 (.int v))) = wX c (xsb x t (bs_knots (x_bal x t) v)) := wXb_set c x (j := 0) ht (by decide) _ (fun i _ => by
  by_cases e : i = 0
  · subst e; rfl
  · simp only [xbC, if_neg e])
theorem wXb_below (c : CS) (x : XT) {t : Nat} (ht : t < 6) (v : Int64) : va_up (wX c x) (xb t) (xO 0 ((bFs t (x_bal x t)).set 1 (.long v))) = wX c (xsb x t (bs_below (x_bal x t) v)) := wXb_set c x (j := 0) ht (by decide) _ (fun i _ => by
  by_cases e : i = 0
  · subst e; rfl
  · simp only [xbC, if_neg e])
theorem wXb_sabove (c : CS) (x : XT) {t : Nat} (ht : t < 6) (v : Nat → Int64) : va_up (wX c x) (xb t + 9) (xJ 7 v) = wX c (xsb x t (bs_above (x_bal x t) v)) := wXb_set c x (j := 9) ht (by decide) _ (fun i _ => by
  by_cases e : i = 9
  · subst e; rfl
  · simp only [xbC, if_neg e]; rfl)
theorem wXb_sspread (c : CS) (x : XT) {t : Nat} (ht : t < 6) (v : Nat → Int64) : va_up (wX c x) (xb t + 10) (xJ 7 v) = wX c (xsb x t (bs_spread (x_bal x t) v)) := wXb_set c x (j := 10) ht (by decide) _ (fun i _ => by
  by_cases e : i = 10
  · subst e; rfl
  · simp only [xbC, if_neg e]; rfl)
/-- one place of a square -/
def upM (f : Nat → Nat → Int64) (i j : Nat) (v : Int64) : Nat → Nat → Int64 := fun a => if a = i then vp_updL (f i) j v else f a
theorem wXb_srow (c : CS) (x : XT) {t i : Nat} (ht : t < 6) (hi : i < 7) (j : Nat) (v : Int64) : va_up (wX c x) (xb t + 2 + i) (xJ 7 (vp_updL (b_cell (x_bal x t) i) j v)) = wX c (xsb x t (bs_cell (x_bal x t) (upM (b_cell (x_bal x t)) i j v))) := by
  rw [Nat.add_assoc]
  refine wXb_set c x (j := 2 + i) ht (by omega) _ (fun a ha => ?_)
  unfold xbC
  by_cases e0 : a = 0
  · rw [if_pos e0, if_pos e0, if_neg (by omega)]; rfl
  by_cases e1 : a = 1
  · rw [if_neg e0, if_neg e0, if_pos e1, if_pos e1, if_neg (by omega)]
  by_cases e9 : a = 9
  · rw [if_neg e0, if_neg e0, if_neg e1, if_neg e1, if_pos e9, if_pos e9, if_neg (by omega)]
  by_cases e10 : a = 10
  · rw [if_neg e0, if_neg e0, if_neg e1, if_neg e1, if_neg e9, if_neg e9, if_pos e10, if_pos e10, if_neg (by omega)]
  rw [if_neg e0, if_neg e0, if_neg e1, if_neg e1, if_neg e9, if_neg e9, if_neg e10, if_neg e10]
  by_cases e : a = 2 + i
  · subst e
    rw [if_pos rfl, show 2 + i - 2 = i by omega]
    show xJ 7 (if i = i then vp_updL (b_cell (x_bal x t) i) j v else _) = _
    rw [if_pos rfl]
  · rw [if_neg e]
    show xJ 7 (if a - 2 = i then _ else b_cell (x_bal x t) (a - 2)) = _
    rw [if_neg (by omega)]
theorem xTX_out {t : Nat} (ht : t < 6) : xTX.2 (xb t + 1) = some (.array .long) := by
  show (if xb t + 1 < 11 then _ else _) = _
  rcases xb_cases ht with ⟨h, e⟩ | ⟨h, e⟩
  · rw [if_neg (by omega), if_pos (by omega), if_neg (by omega), if_pos (by omega)]
  · rw [if_neg (by omega), if_neg (by omega), if_neg (by omega), if_neg (by omega), if_pos (by omega), if_neg (by omega), if_pos (by omega)]
theorem xTX_long {t j : Nat} (ht : t < 6) (hj : j < 11) (h2 : 2 ≤ j) : xTX.2 (xb t + j) = some .long := by
  show (if xb t + j < 11 then _ else _) = _
  rcases xb_cases ht with ⟨h, e⟩ | ⟨h, e⟩
  · rw [if_neg (by omega), if_pos (by omega), if_neg (by omega), if_neg (by omega)]
  · rw [if_neg (by omega), if_neg (by omega), if_neg (by omega), if_neg (by omega), if_pos (by omega), if_neg (by omega), if_neg (by omega)]
theorem xTX_row {t i : Nat} (ht : t < 6) (hi : i < 7) : xTX.2 (xb t + 2 + i) = some .long := by
  rw [Nat.add_assoc]; exact xTX_long ht (by omega) (by omega)
theorem xb_row_lt {t i : Nat} (ht : t < 6) (hi : i < 7) : xb t + 2 + i < xTX.1 := by
  show xb t + 2 + i < 85
  have hx := xb_cases ht
  omega
theorem vp_lt {i : Int32} {n : Nat} (h : vp_in i n) : i.toNatClampNeg < n := Nat.not_le.mp fun q => h (Or.inr q)
theorem wXf_n (c : CS) (x : XT) (v : Int32) : va_up (wX c x) 1 (xO 2 ((nFs c).set 0 (.int v))) = wX (cs_n c v) x := by
  funext k
  show (if k = 1 then _ else wX c x k) = _
  by_cases h1 : k < 11
  · rcases (show k = 0 ∨ k = 1 ∨ k = 2 ∨ k = 3 ∨ k = 4 ∨ k = 5 ∨ k = 6 ∨ k = 7 ∨ k = 8 ∨ k = 9 ∨ k = 10 by omega) with rfl | rfl | rfl | rfl | rfl | rfl | rfl | rfl | rfl | rfl | rfl <;> rfl
  by_cases h2 : k < 33
  · rw [if_neg (by omega)]
    simp only [wX, if_neg h1, if_pos h2]
  by_cases h3 : k = 33 ∨ k = 34 ∨ k = 79 ∨ k = 80 ∨ k = 81 ∨ k = 82 ∨ k = 83 ∨ k = 84
  · rcases h3 with rfl | rfl | rfl | rfl | rfl | rfl | rfl | rfl <;> rfl
  rw [if_neg (by omega)]
  have h33 : ¬ k = 33 := by omega
  have h34 : ¬ k = 34 := by omega
  by_cases h4 : k < 79
  · simp only [wX, if_neg h1, if_neg h2, if_neg h33, if_neg h34, if_pos h4]
  · simp only [wX, if_neg h1, if_neg h2, if_neg h33, if_neg h34, if_neg h4, wX2_big _ (show 6 ≤ k - 79 by omega)]
theorem wXf_wires (c : CS) (x : XT) (v : Int32) : va_up (wX c x) 1 (xO 2 ((nFs c).set 1 (.int v))) = wX (cs_wires c v) x := by
  funext k
  show (if k = 1 then _ else wX c x k) = _
  by_cases h1 : k < 11
  · rcases (show k = 0 ∨ k = 1 ∨ k = 2 ∨ k = 3 ∨ k = 4 ∨ k = 5 ∨ k = 6 ∨ k = 7 ∨ k = 8 ∨ k = 9 ∨ k = 10 by omega) with rfl | rfl | rfl | rfl | rfl | rfl | rfl | rfl | rfl | rfl | rfl <;> rfl
  by_cases h2 : k < 33
  · rw [if_neg (by omega)]
    simp only [wX, if_neg h1, if_pos h2]
  by_cases h3 : k = 33 ∨ k = 34 ∨ k = 79 ∨ k = 80 ∨ k = 81 ∨ k = 82 ∨ k = 83 ∨ k = 84
  · rcases h3 with rfl | rfl | rfl | rfl | rfl | rfl | rfl | rfl <;> rfl
  rw [if_neg (by omega)]
  have h33 : ¬ k = 33 := by omega
  have h34 : ¬ k = 34 := by omega
  by_cases h4 : k < 79
  · simp only [wX, if_neg h1, if_neg h2, if_neg h33, if_neg h34, if_pos h4]
  · simp only [wX, if_neg h1, if_neg h2, if_neg h33, if_neg h34, if_neg h4, wX2_big _ (show 6 ≤ k - 79 by omega)]
theorem wXf_pads (c : CS) (x : XT) (v : Int32) : va_up (wX c x) 1 (xO 2 ((nFs c).set 2 (.int v))) = wX (cs_pads c v) x := by
  funext k
  show (if k = 1 then _ else wX c x k) = _
  by_cases h1 : k < 11
  · rcases (show k = 0 ∨ k = 1 ∨ k = 2 ∨ k = 3 ∨ k = 4 ∨ k = 5 ∨ k = 6 ∨ k = 7 ∨ k = 8 ∨ k = 9 ∨ k = 10 by omega) with rfl | rfl | rfl | rfl | rfl | rfl | rfl | rfl | rfl | rfl | rfl <;> rfl
  by_cases h2 : k < 33
  · rw [if_neg (by omega)]
    simp only [wX, if_neg h1, if_pos h2]
  by_cases h3 : k = 33 ∨ k = 34 ∨ k = 79 ∨ k = 80 ∨ k = 81 ∨ k = 82 ∨ k = 83 ∨ k = 84
  · rcases h3 with rfl | rfl | rfl | rfl | rfl | rfl | rfl | rfl <;> rfl
  rw [if_neg (by omega)]
  have h33 : ¬ k = 33 := by omega
  have h34 : ¬ k = 34 := by omega
  by_cases h4 : k < 79
  · simp only [wX, if_neg h1, if_neg h2, if_neg h33, if_neg h34, if_pos h4]
  · simp only [wX, if_neg h1, if_neg h2, if_neg h33, if_neg h34, if_neg h4, wX2_big _ (show 6 ≤ k - 79 by omega)]
theorem wXf_nb (c : CS) (x : XT) (v : Int32) : va_up (wX c x) 7 (xO 1 ((kFs c).set 0 (.int v))) = wX (cs_nb c v) x := by
  funext k
  show (if k = 7 then _ else wX c x k) = _
  by_cases h1 : k < 11
  · rcases (show k = 0 ∨ k = 1 ∨ k = 2 ∨ k = 3 ∨ k = 4 ∨ k = 5 ∨ k = 6 ∨ k = 7 ∨ k = 8 ∨ k = 9 ∨ k = 10 by omega) with rfl | rfl | rfl | rfl | rfl | rfl | rfl | rfl | rfl | rfl | rfl <;> rfl
  by_cases h2 : k < 33
  · rw [if_neg (by omega)]
    simp only [wX, if_neg h1, if_pos h2]
  by_cases h3 : k = 33 ∨ k = 34 ∨ k = 79 ∨ k = 80 ∨ k = 81 ∨ k = 82 ∨ k = 83 ∨ k = 84
  · rcases h3 with rfl | rfl | rfl | rfl | rfl | rfl | rfl | rfl <;> rfl
  rw [if_neg (by omega)]
  have h33 : ¬ k = 33 := by omega
  have h34 : ¬ k = 34 := by omega
  by_cases h4 : k < 79
  · simp only [wX, if_neg h1, if_neg h2, if_neg h33, if_neg h34, if_pos h4]
  · simp only [wX, if_neg h1, if_neg h2, if_neg h33, if_neg h34, if_neg h4, wX2_big _ (show 6 ≤ k - 79 by omega)]
theorem wXf_budget (c : CS) (x : XT) (v : Int32) : va_up (wX c x) 7 (xO 1 ((kFs c).set 1 (.int v))) = wX (cs_budget c v) x := by
  funext k
  show (if k = 7 then _ else wX c x k) = _
  by_cases h1 : k < 11
  · rcases (show k = 0 ∨ k = 1 ∨ k = 2 ∨ k = 3 ∨ k = 4 ∨ k = 5 ∨ k = 6 ∨ k = 7 ∨ k = 8 ∨ k = 9 ∨ k = 10 by omega) with rfl | rfl | rfl | rfl | rfl | rfl | rfl | rfl | rfl | rfl | rfl <;> rfl
  by_cases h2 : k < 33
  · rw [if_neg (by omega)]
    simp only [wX, if_neg h1, if_pos h2]
  by_cases h3 : k = 33 ∨ k = 34 ∨ k = 79 ∨ k = 80 ∨ k = 81 ∨ k = 82 ∨ k = 83 ∨ k = 84
  · rcases h3 with rfl | rfl | rfl | rfl | rfl | rfl | rfl | rfl <;> rfl
  rw [if_neg (by omega)]
  have h33 : ¬ k = 33 := by omega
  have h34 : ¬ k = 34 := by omega
  by_cases h4 : k < 79
  · simp only [wX, if_neg h1, if_neg h2, if_neg h33, if_neg h34, if_pos h4]
  · simp only [wX, if_neg h1, if_neg h2, if_neg h33, if_neg h34, if_neg h4, wX2_big _ (show 6 ≤ k - 79 by omega)]
theorem wXa_pulls (c : CS) (x : XT) (v : Nat → Int32) : va_up (wX c x) 2 (xI 7 v) = wX (cs_pulls c v) x := by
  funext k
  show (if k = 2 then _ else wX c x k) = _
  by_cases h1 : k < 11
  · rcases (show k = 0 ∨ k = 1 ∨ k = 2 ∨ k = 3 ∨ k = 4 ∨ k = 5 ∨ k = 6 ∨ k = 7 ∨ k = 8 ∨ k = 9 ∨ k = 10 by omega) with rfl | rfl | rfl | rfl | rfl | rfl | rfl | rfl | rfl | rfl | rfl <;> rfl
  by_cases h2 : k < 33
  · rw [if_neg (by omega)]
    simp only [wX, if_neg h1, if_pos h2]
  by_cases h3 : k = 33 ∨ k = 34 ∨ k = 79 ∨ k = 80 ∨ k = 81 ∨ k = 82 ∨ k = 83 ∨ k = 84
  · rcases h3 with rfl | rfl | rfl | rfl | rfl | rfl | rfl | rfl <;> rfl
  rw [if_neg (by omega)]
  have h33 : ¬ k = 33 := by omega
  have h34 : ¬ k = 34 := by omega
  by_cases h4 : k < 79
  · simp only [wX, if_neg h1, if_neg h2, if_neg h33, if_neg h34, if_pos h4]
  · simp only [wX, if_neg h1, if_neg h2, if_neg h33, if_neg h34, if_neg h4, wX2_big _ (show 6 ≤ k - 79 by omega)]
theorem wXa_from (c : CS) (x : XT) (v : Nat → Int32) : va_up (wX c x) 3 (xI 12 v) = wX (cs_from c v) x := by
  funext k
  show (if k = 3 then _ else wX c x k) = _
  by_cases h1 : k < 11
  · rcases (show k = 0 ∨ k = 1 ∨ k = 2 ∨ k = 3 ∨ k = 4 ∨ k = 5 ∨ k = 6 ∨ k = 7 ∨ k = 8 ∨ k = 9 ∨ k = 10 by omega) with rfl | rfl | rfl | rfl | rfl | rfl | rfl | rfl | rfl | rfl | rfl <;> rfl
  by_cases h2 : k < 33
  · rw [if_neg (by omega)]
    simp only [wX, if_neg h1, if_pos h2]
  by_cases h3 : k = 33 ∨ k = 34 ∨ k = 79 ∨ k = 80 ∨ k = 81 ∨ k = 82 ∨ k = 83 ∨ k = 84
  · rcases h3 with rfl | rfl | rfl | rfl | rfl | rfl | rfl | rfl <;> rfl
  rw [if_neg (by omega)]
  have h33 : ¬ k = 33 := by omega
  have h34 : ¬ k = 34 := by omega
  by_cases h4 : k < 79
  · simp only [wX, if_neg h1, if_neg h2, if_neg h33, if_neg h34, if_pos h4]
  · simp only [wX, if_neg h1, if_neg h2, if_neg h33, if_neg h34, if_neg h4, wX2_big _ (show 6 ≤ k - 79 by omega)]
theorem wXa_to (c : CS) (x : XT) (v : Nat → Int32) : va_up (wX c x) 4 (xI 12 v) = wX (cs_to c v) x := by
  funext k
  show (if k = 4 then _ else wX c x k) = _
  by_cases h1 : k < 11
  · rcases (show k = 0 ∨ k = 1 ∨ k = 2 ∨ k = 3 ∨ k = 4 ∨ k = 5 ∨ k = 6 ∨ k = 7 ∨ k = 8 ∨ k = 9 ∨ k = 10 by omega) with rfl | rfl | rfl | rfl | rfl | rfl | rfl | rfl | rfl | rfl | rfl <;> rfl
  by_cases h2 : k < 33
  · rw [if_neg (by omega)]
    simp only [wX, if_neg h1, if_pos h2]
  by_cases h3 : k = 33 ∨ k = 34 ∨ k = 79 ∨ k = 80 ∨ k = 81 ∨ k = 82 ∨ k = 83 ∨ k = 84
  · rcases h3 with rfl | rfl | rfl | rfl | rfl | rfl | rfl | rfl <;> rfl
  rw [if_neg (by omega)]
  have h33 : ¬ k = 33 := by omega
  have h34 : ¬ k = 34 := by omega
  by_cases h4 : k < 79
  · simp only [wX, if_neg h1, if_neg h2, if_neg h33, if_neg h34, if_pos h4]
  · simp only [wX, if_neg h1, if_neg h2, if_neg h33, if_neg h34, if_neg h4, wX2_big _ (show 6 ≤ k - 79 by omega)]
theorem wXa_wide (c : CS) (x : XT) (v : Nat → Int32) : va_up (wX c x) 5 (xI 12 v) = wX (cs_wide c v) x := by
  funext k
  show (if k = 5 then _ else wX c x k) = _
  by_cases h1 : k < 11
  · rcases (show k = 0 ∨ k = 1 ∨ k = 2 ∨ k = 3 ∨ k = 4 ∨ k = 5 ∨ k = 6 ∨ k = 7 ∨ k = 8 ∨ k = 9 ∨ k = 10 by omega) with rfl | rfl | rfl | rfl | rfl | rfl | rfl | rfl | rfl | rfl | rfl <;> rfl
  by_cases h2 : k < 33
  · rw [if_neg (by omega)]
    simp only [wX, if_neg h1, if_pos h2]
  by_cases h3 : k = 33 ∨ k = 34 ∨ k = 79 ∨ k = 80 ∨ k = 81 ∨ k = 82 ∨ k = 83 ∨ k = 84
  · rcases h3 with rfl | rfl | rfl | rfl | rfl | rfl | rfl | rfl <;> rfl
  rw [if_neg (by omega)]
  have h33 : ¬ k = 33 := by omega
  have h34 : ¬ k = 34 := by omega
  by_cases h4 : k < 79
  · simp only [wX, if_neg h1, if_neg h2, if_neg h33, if_neg h34, if_pos h4]
  · simp only [wX, if_neg h1, if_neg h2, if_neg h33, if_neg h34, if_neg h4, wX2_big _ (show 6 ≤ k - 79 by omega)]
theorem wXa_price (c : CS) (x : XT) (v : Nat → Int32) : va_up (wX c x) 6 (xI 12 v) = wX (cs_price c v) x := by
  funext k
  show (if k = 6 then _ else wX c x k) = _
  by_cases h1 : k < 11
  · rcases (show k = 0 ∨ k = 1 ∨ k = 2 ∨ k = 3 ∨ k = 4 ∨ k = 5 ∨ k = 6 ∨ k = 7 ∨ k = 8 ∨ k = 9 ∨ k = 10 by omega) with rfl | rfl | rfl | rfl | rfl | rfl | rfl | rfl | rfl | rfl | rfl <;> rfl
  by_cases h2 : k < 33
  · rw [if_neg (by omega)]
    simp only [wX, if_neg h1, if_pos h2]
  by_cases h3 : k = 33 ∨ k = 34 ∨ k = 79 ∨ k = 80 ∨ k = 81 ∨ k = 82 ∨ k = 83 ∨ k = 84
  · rcases h3 with rfl | rfl | rfl | rfl | rfl | rfl | rfl | rfl <;> rfl
  rw [if_neg (by omega)]
  have h33 : ¬ k = 33 := by omega
  have h34 : ¬ k = 34 := by omega
  by_cases h4 : k < 79
  · simp only [wX, if_neg h1, if_neg h2, if_neg h33, if_neg h34, if_pos h4]
  · simp only [wX, if_neg h1, if_neg h2, if_neg h33, if_neg h34, if_neg h4, wX2_big _ (show 6 ≤ k - 79 by omega)]
theorem wXa_sits (c : CS) (x : XT) (v : Nat → Int32) : va_up (wX c x) 8 (xI 6 v) = wX (cs_sits c v) x := by
  funext k
  show (if k = 8 then _ else wX c x k) = _
  by_cases h1 : k < 11
  · rcases (show k = 0 ∨ k = 1 ∨ k = 2 ∨ k = 3 ∨ k = 4 ∨ k = 5 ∨ k = 6 ∨ k = 7 ∨ k = 8 ∨ k = 9 ∨ k = 10 by omega) with rfl | rfl | rfl | rfl | rfl | rfl | rfl | rfl | rfl | rfl | rfl <;> rfl
  by_cases h2 : k < 33
  · rw [if_neg (by omega)]
    simp only [wX, if_neg h1, if_pos h2]
  by_cases h3 : k = 33 ∨ k = 34 ∨ k = 79 ∨ k = 80 ∨ k = 81 ∨ k = 82 ∨ k = 83 ∨ k = 84
  · rcases h3 with rfl | rfl | rfl | rfl | rfl | rfl | rfl | rfl <;> rfl
  rw [if_neg (by omega)]
  have h33 : ¬ k = 33 := by omega
  have h34 : ¬ k = 34 := by omega
  by_cases h4 : k < 79
  · simp only [wX, if_neg h1, if_neg h2, if_neg h33, if_neg h34, if_pos h4]
  · simp only [wX, if_neg h1, if_neg h2, if_neg h33, if_neg h34, if_neg h4, wX2_big _ (show 6 ≤ k - 79 by omega)]
theorem wXa_most (c : CS) (x : XT) (v : Nat → Int32) : va_up (wX c x) 9 (xI 6 v) = wX (cs_most c v) x := by
  funext k
  show (if k = 9 then _ else wX c x k) = _
  by_cases h1 : k < 11
  · rcases (show k = 0 ∨ k = 1 ∨ k = 2 ∨ k = 3 ∨ k = 4 ∨ k = 5 ∨ k = 6 ∨ k = 7 ∨ k = 8 ∨ k = 9 ∨ k = 10 by omega) with rfl | rfl | rfl | rfl | rfl | rfl | rfl | rfl | rfl | rfl | rfl <;> rfl
  by_cases h2 : k < 33
  · rw [if_neg (by omega)]
    simp only [wX, if_neg h1, if_pos h2]
  by_cases h3 : k = 33 ∨ k = 34 ∨ k = 79 ∨ k = 80 ∨ k = 81 ∨ k = 82 ∨ k = 83 ∨ k = 84
  · rcases h3 with rfl | rfl | rfl | rfl | rfl | rfl | rfl | rfl <;> rfl
  rw [if_neg (by omega)]
  have h33 : ¬ k = 33 := by omega
  have h34 : ¬ k = 34 := by omega
  by_cases h4 : k < 79
  · simp only [wX, if_neg h1, if_neg h2, if_neg h33, if_neg h34, if_pos h4]
  · simp only [wX, if_neg h1, if_neg h2, if_neg h33, if_neg h34, if_neg h4, wX2_big _ (show 6 ≤ k - 79 by omega)]
theorem wXa_gets (c : CS) (x : XT) (v : Nat → Int32) : va_up (wX c x) 10 (xI 6 v) = wX c (xs_gets x v) := by
  funext k
  show (if k = 10 then _ else wX c x k) = _
  by_cases h1 : k < 11
  · rcases (show k = 0 ∨ k = 1 ∨ k = 2 ∨ k = 3 ∨ k = 4 ∨ k = 5 ∨ k = 6 ∨ k = 7 ∨ k = 8 ∨ k = 9 ∨ k = 10 by omega) with rfl | rfl | rfl | rfl | rfl | rfl | rfl | rfl | rfl | rfl | rfl <;> rfl
  by_cases h2 : k < 33
  · rw [if_neg (by omega)]
    simp only [wX, if_neg h1, if_pos h2]
  by_cases h3 : k = 33 ∨ k = 34 ∨ k = 79 ∨ k = 80 ∨ k = 81 ∨ k = 82 ∨ k = 83 ∨ k = 84
  · rcases h3 with rfl | rfl | rfl | rfl | rfl | rfl | rfl | rfl <;> rfl
  rw [if_neg (by omega)]
  have h33 : ¬ k = 33 := by omega
  have h34 : ¬ k = 34 := by omega
  by_cases h4 : k < 79
  · simp only [wX, if_neg h1, if_neg h2, if_neg h33, if_neg h34, if_pos h4]
  · simp only [wX, if_neg h1, if_neg h2, if_neg h33, if_neg h34, if_neg h4, wX2_big _ (show 6 ≤ k - 79 by omega)]
theorem wXf_bestPrice (c : CS) (x : XT) (v : Int32) : va_up (wX c x) 33 (xO 4 ((wFs x).set 3 (.int v))) = wX c (xs_bestPrice x v) := by
  funext k
  show (if k = 33 then _ else wX c x k) = _
  by_cases h1 : k < 11
  · rcases (show k = 0 ∨ k = 1 ∨ k = 2 ∨ k = 3 ∨ k = 4 ∨ k = 5 ∨ k = 6 ∨ k = 7 ∨ k = 8 ∨ k = 9 ∨ k = 10 by omega) with rfl | rfl | rfl | rfl | rfl | rfl | rfl | rfl | rfl | rfl | rfl <;> rfl
  by_cases h2 : k < 33
  · rw [if_neg (by omega)]
    simp only [wX, if_neg h1, if_pos h2]
  by_cases h3 : k = 33 ∨ k = 34 ∨ k = 79 ∨ k = 80 ∨ k = 81 ∨ k = 82 ∨ k = 83 ∨ k = 84
  · rcases h3 with rfl | rfl | rfl | rfl | rfl | rfl | rfl | rfl <;> rfl
  rw [if_neg (by omega)]
  have h33 : ¬ k = 33 := by omega
  have h34 : ¬ k = 34 := by omega
  by_cases h4 : k < 79
  · simp only [wX, if_neg h1, if_neg h2, if_neg h33, if_neg h34, if_pos h4]
  · simp only [wX, if_neg h1, if_neg h2, if_neg h33, if_neg h34, if_neg h4, wX2_big _ (show 6 ≤ k - 79 by omega)]
theorem wXf_bestMore (c : CS) (x : XT) (v : Int32) : va_up (wX c x) 33 (xO 4 ((wFs x).set 4 (.int v))) = wX c (xs_bestMore x v) := by
  funext k
  show (if k = 33 then _ else wX c x k) = _
  by_cases h1 : k < 11
  · rcases (show k = 0 ∨ k = 1 ∨ k = 2 ∨ k = 3 ∨ k = 4 ∨ k = 5 ∨ k = 6 ∨ k = 7 ∨ k = 8 ∨ k = 9 ∨ k = 10 by omega) with rfl | rfl | rfl | rfl | rfl | rfl | rfl | rfl | rfl | rfl | rfl <;> rfl
  by_cases h2 : k < 33
  · rw [if_neg (by omega)]
    simp only [wX, if_neg h1, if_pos h2]
  by_cases h3 : k = 33 ∨ k = 34 ∨ k = 79 ∨ k = 80 ∨ k = 81 ∨ k = 82 ∨ k = 83 ∨ k = 84
  · rcases h3 with rfl | rfl | rfl | rfl | rfl | rfl | rfl | rfl <;> rfl
  rw [if_neg (by omega)]
  have h33 : ¬ k = 33 := by omega
  have h34 : ¬ k = 34 := by omega
  by_cases h4 : k < 79
  · simp only [wX, if_neg h1, if_neg h2, if_neg h33, if_neg h34, if_pos h4]
  · simp only [wX, if_neg h1, if_neg h2, if_neg h33, if_neg h34, if_neg h4, wX2_big _ (show 6 ≤ k - 79 by omega)]
theorem wXf_limit (c : CS) (x : XT) (v : Int32) : va_up (wX c x) 33 (xO 4 ((wFs x).set 5 (.int v))) = wX c (xs_limit x v) := by
  funext k
  show (if k = 33 then _ else wX c x k) = _
  by_cases h1 : k < 11
  · rcases (show k = 0 ∨ k = 1 ∨ k = 2 ∨ k = 3 ∨ k = 4 ∨ k = 5 ∨ k = 6 ∨ k = 7 ∨ k = 8 ∨ k = 9 ∨ k = 10 by omega) with rfl | rfl | rfl | rfl | rfl | rfl | rfl | rfl | rfl | rfl | rfl <;> rfl
  by_cases h2 : k < 33
  · rw [if_neg (by omega)]
    simp only [wX, if_neg h1, if_pos h2]
  by_cases h3 : k = 33 ∨ k = 34 ∨ k = 79 ∨ k = 80 ∨ k = 81 ∨ k = 82 ∨ k = 83 ∨ k = 84
  · rcases h3 with rfl | rfl | rfl | rfl | rfl | rfl | rfl | rfl <;> rfl
  rw [if_neg (by omega)]
  have h33 : ¬ k = 33 := by omega
  have h34 : ¬ k = 34 := by omega
  by_cases h4 : k < 79
  · simp only [wX, if_neg h1, if_neg h2, if_neg h33, if_neg h34, if_pos h4]
  · simp only [wX, if_neg h1, if_neg h2, if_neg h33, if_neg h34, if_neg h4, wX2_big _ (show 6 ≤ k - 79 by omega)]
theorem wXf_umost (c : CS) (x : XT) (v : Int32) : va_up (wX c x) 33 (xO 4 ((wFs x).set 6 (.int v))) = wX c (xs_umost x v) := by
  funext k
  show (if k = 33 then _ else wX c x k) = _
  by_cases h1 : k < 11
  · rcases (show k = 0 ∨ k = 1 ∨ k = 2 ∨ k = 3 ∨ k = 4 ∨ k = 5 ∨ k = 6 ∨ k = 7 ∨ k = 8 ∨ k = 9 ∨ k = 10 by omega) with rfl | rfl | rfl | rfl | rfl | rfl | rfl | rfl | rfl | rfl | rfl <;> rfl
  by_cases h2 : k < 33
  · rw [if_neg (by omega)]
    simp only [wX, if_neg h1, if_pos h2]
  by_cases h3 : k = 33 ∨ k = 34 ∨ k = 79 ∨ k = 80 ∨ k = 81 ∨ k = 82 ∨ k = 83 ∨ k = 84
  · rcases h3 with rfl | rfl | rfl | rfl | rfl | rfl | rfl | rfl <;> rfl
  rw [if_neg (by omega)]
  have h33 : ¬ k = 33 := by omega
  have h34 : ¬ k = 34 := by omega
  by_cases h4 : k < 79
  · simp only [wX, if_neg h1, if_neg h2, if_neg h33, if_neg h34, if_pos h4]
  · simp only [wX, if_neg h1, if_neg h2, if_neg h33, if_neg h34, if_neg h4, wX2_big _ (show 6 ≤ k - 79 by omega)]
theorem wXa_row (c : CS) (x : XT) (v : Nat → Int32) : va_up (wX c x) 79 (xI 12 v) = wX c (xs_row x v) := by
  funext k
  show (if k = 79 then _ else wX c x k) = _
  by_cases h1 : k < 11
  · rcases (show k = 0 ∨ k = 1 ∨ k = 2 ∨ k = 3 ∨ k = 4 ∨ k = 5 ∨ k = 6 ∨ k = 7 ∨ k = 8 ∨ k = 9 ∨ k = 10 by omega) with rfl | rfl | rfl | rfl | rfl | rfl | rfl | rfl | rfl | rfl | rfl <;> rfl
  by_cases h2 : k < 33
  · rw [if_neg (by omega)]
    simp only [wX, if_neg h1, if_pos h2]
  by_cases h3 : k = 33 ∨ k = 34 ∨ k = 79 ∨ k = 80 ∨ k = 81 ∨ k = 82 ∨ k = 83 ∨ k = 84
  · rcases h3 with rfl | rfl | rfl | rfl | rfl | rfl | rfl | rfl <;> rfl
  rw [if_neg (by omega)]
  have h33 : ¬ k = 33 := by omega
  have h34 : ¬ k = 34 := by omega
  by_cases h4 : k < 79
  · simp only [wX, if_neg h1, if_neg h2, if_neg h33, if_neg h34, if_pos h4]
  · simp only [wX, if_neg h1, if_neg h2, if_neg h33, if_neg h34, if_neg h4, wX2_big _ (show 6 ≤ k - 79 by omega)]
theorem wXa_bestRow (c : CS) (x : XT) (v : Nat → Int32) : va_up (wX c x) 80 (xI 12 v) = wX c (xs_bestRow x v) := by
  funext k
  show (if k = 80 then _ else wX c x k) = _
  by_cases h1 : k < 11
  · rcases (show k = 0 ∨ k = 1 ∨ k = 2 ∨ k = 3 ∨ k = 4 ∨ k = 5 ∨ k = 6 ∨ k = 7 ∨ k = 8 ∨ k = 9 ∨ k = 10 by omega) with rfl | rfl | rfl | rfl | rfl | rfl | rfl | rfl | rfl | rfl | rfl <;> rfl
  by_cases h2 : k < 33
  · rw [if_neg (by omega)]
    simp only [wX, if_neg h1, if_pos h2]
  by_cases h3 : k = 33 ∨ k = 34 ∨ k = 79 ∨ k = 80 ∨ k = 81 ∨ k = 82 ∨ k = 83 ∨ k = 84
  · rcases h3 with rfl | rfl | rfl | rfl | rfl | rfl | rfl | rfl <;> rfl
  rw [if_neg (by omega)]
  have h33 : ¬ k = 33 := by omega
  have h34 : ¬ k = 34 := by omega
  by_cases h4 : k < 79
  · simp only [wX, if_neg h1, if_neg h2, if_neg h33, if_neg h34, if_pos h4]
  · simp only [wX, if_neg h1, if_neg h2, if_neg h33, if_neg h34, if_neg h4, wX2_big _ (show 6 ≤ k - 79 by omega)]
theorem wXa_least (c : CS) (x : XT) (v : Nat → Int64) : va_up (wX c x) 82 (xJ 64 v) = wX c (xs_least x v) := by
  funext k
  show (if k = 82 then _ else wX c x k) = _
  by_cases h1 : k < 11
  · rcases (show k = 0 ∨ k = 1 ∨ k = 2 ∨ k = 3 ∨ k = 4 ∨ k = 5 ∨ k = 6 ∨ k = 7 ∨ k = 8 ∨ k = 9 ∨ k = 10 by omega) with rfl | rfl | rfl | rfl | rfl | rfl | rfl | rfl | rfl | rfl | rfl <;> rfl
  by_cases h2 : k < 33
  · rw [if_neg (by omega)]
    simp only [wX, if_neg h1, if_pos h2]
  by_cases h3 : k = 33 ∨ k = 34 ∨ k = 79 ∨ k = 80 ∨ k = 81 ∨ k = 82 ∨ k = 83 ∨ k = 84
  · rcases h3 with rfl | rfl | rfl | rfl | rfl | rfl | rfl | rfl <;> rfl
  rw [if_neg (by omega)]
  have h33 : ¬ k = 33 := by omega
  have h34 : ¬ k = 34 := by omega
  by_cases h4 : k < 79
  · simp only [wX, if_neg h1, if_neg h2, if_neg h33, if_neg h34, if_pos h4]
  · simp only [wX, if_neg h1, if_neg h2, if_neg h33, if_neg h34, if_neg h4, wX2_big _ (show 6 ≤ k - 79 by omega)]
theorem wXa_awake (c : CS) (x : XT) (v : Nat → Int64) : va_up (wX c x) 83 (xJ 7 v) = wX c (xs_awake x v) := by
  funext k
  show (if k = 83 then _ else wX c x k) = _
  by_cases h1 : k < 11
  · rcases (show k = 0 ∨ k = 1 ∨ k = 2 ∨ k = 3 ∨ k = 4 ∨ k = 5 ∨ k = 6 ∨ k = 7 ∨ k = 8 ∨ k = 9 ∨ k = 10 by omega) with rfl | rfl | rfl | rfl | rfl | rfl | rfl | rfl | rfl | rfl | rfl <;> rfl
  by_cases h2 : k < 33
  · rw [if_neg (by omega)]
    simp only [wX, if_neg h1, if_pos h2]
  by_cases h3 : k = 33 ∨ k = 34 ∨ k = 79 ∨ k = 80 ∨ k = 81 ∨ k = 82 ∨ k = 83 ∨ k = 84
  · rcases h3 with rfl | rfl | rfl | rfl | rfl | rfl | rfl | rfl <;> rfl
  rw [if_neg (by omega)]
  have h33 : ¬ k = 33 := by omega
  have h34 : ¬ k = 34 := by omega
  by_cases h4 : k < 79
  · simp only [wX, if_neg h1, if_neg h2, if_neg h33, if_neg h34, if_pos h4]
  · simp only [wX, if_neg h1, if_neg h2, if_neg h33, if_neg h34, if_neg h4, wX2_big _ (show 6 ≤ k - 79 by omega)]
theorem wXa_order (c : CS) (x : XT) (v : Nat → Int32) : va_up (wX c x) 84 (xI 6 v) = wX c (xs_order x v) := by
  funext k
  show (if k = 84 then _ else wX c x k) = _
  by_cases h1 : k < 11
  · rcases (show k = 0 ∨ k = 1 ∨ k = 2 ∨ k = 3 ∨ k = 4 ∨ k = 5 ∨ k = 6 ∨ k = 7 ∨ k = 8 ∨ k = 9 ∨ k = 10 by omega) with rfl | rfl | rfl | rfl | rfl | rfl | rfl | rfl | rfl | rfl | rfl <;> rfl
  by_cases h2 : k < 33
  · rw [if_neg (by omega)]
    simp only [wX, if_neg h1, if_pos h2]
  by_cases h3 : k = 33 ∨ k = 34 ∨ k = 79 ∨ k = 80 ∨ k = 81 ∨ k = 82 ∨ k = 83 ∨ k = 84
  · rcases h3 with rfl | rfl | rfl | rfl | rfl | rfl | rfl | rfl <;> rfl
  rw [if_neg (by omega)]
  have h33 : ¬ k = 33 := by omega
  have h34 : ¬ k = 34 := by omega
  by_cases h4 : k < 79
  · simp only [wX, if_neg h1, if_neg h2, if_neg h33, if_neg h34, if_pos h4]
  · simp only [wX, if_neg h1, if_neg h2, if_neg h33, if_neg h34, if_neg h4, wX2_big _ (show 6 ≤ k - 79 by omega)]
theorem xsb_get (x : XT) (t : Nat) (b : BS) : x_bal (xsb x t b) t = b := if_pos rfl
theorem xsb_ne (x : XT) {t u : Nat} (b : BS) (h : u ≠ t) : x_bal (xsb x t b) u = x_bal x u := if_neg h
theorem xsb_xsb (x : XT) (t : Nat) (b b' : BS) : xsb (xsb x t b) t b' = xsb x t b' := by
  show xs_bal (xs_bal x _) _ = xs_bal x _
  have e : va_up (x_bal (xsb x t b)) t b' = va_up (x_bal x) t b' := by
    funext j
    show (if j = t then b' else if j = t then b else x_bal x j) = if j = t then b' else x_bal x j
    split <;> rfl
  rw [e]
theorem xsb_self (x : XT) (t : Nat) : xsb x t (x_bal x t) = x := by
  have e : va_up (x_bal x) t (x_bal x t) = x_bal x := by
    funext j
    show (if j = t then x_bal x t else x_bal x j) = x_bal x j
    split
    · rename_i h; rw [h]
    · rfl
  show xs_bal x (va_up (x_bal x) t (x_bal x t)) = x
  rw [e]
theorem wXbo_obj (c : CS) (x : XT) {t : Nat} (b : BS) (ht : t < 6) : wX c (xsb x t b) (xb t) = xO 0 (bFs t b) := by rw [wXb_obj _ _ ht, xsb_get]
theorem wXbo_above (c : CS) (x : XT) {t : Nat} (b : BS) (ht : t < 6) : wX c (xsb x t b) (xb t + 9) = xJ 7 (b_above b) := by rw [wXb_above _ _ ht, xsb_get]
theorem wXbo_spread (c : CS) (x : XT) {t : Nat} (b : BS) (ht : t < 6) : wX c (xsb x t b) (xb t + 10) = xJ 7 (b_spread b) := by rw [wXb_spread _ _ ht, xsb_get]
theorem wXbo_row (c : CS) (x : XT) {t i : Nat} (b : BS) (ht : t < 6) (hi : i < 7) : wX c (xsb x t b) (xb t + 2 + i) = xJ 7 (b_cell b i) := by rw [wXb_row _ _ ht hi, xsb_get]
theorem wXbd_obj (c : CS) (x : XT) {t u : Nat} (b : BS) (hu : u < 6) (h : u ≠ t) : wX c (xsb x t b) (xb u) = xO 0 (bFs u (x_bal x u)) := by rw [wXb_obj _ _ hu, xsb_ne _ _ h]
theorem wXbd_above (c : CS) (x : XT) {t u : Nat} (b : BS) (hu : u < 6) (h : u ≠ t) : wX c (xsb x t b) (xb u + 9) = xJ 7 (b_above (x_bal x u)) := by rw [wXb_above _ _ hu, xsb_ne _ _ h]
theorem wXbd_spread (c : CS) (x : XT) {t u : Nat} (b : BS) (hu : u < 6) (h : u ≠ t) : wX c (xsb x t b) (xb u + 10) = xJ 7 (b_spread (x_bal x u)) := by rw [wXb_spread _ _ hu, xsb_ne _ _ h]
theorem wXbd_row (c : CS) (x : XT) {t u i : Nat} (b : BS) (hu : u < 6) (h : u ≠ t) (hi : i < 7) : wX c (xsb x t b) (xb u + 2 + i) = xJ 7 (b_cell (x_bal x u) i) := by rw [wXb_row _ _ hu hi, xsb_ne _ _ h]
theorem wXbo_knots (c : CS) (x : XT) {t : Nat} (b : BS) (ht : t < 6) (v : Int32) : va_up (wX c (xsb x t b)) (xb t) (xO 0 ((bFs t b).set 0 (.int v))) = wX c (xsb x t (bs_knots b v)) := by
  have h := wXb_knots c (xsb x t b) ht v
  rw [xsb_get, xsb_xsb] at h
  exact h
theorem wXbo_below (c : CS) (x : XT) {t : Nat} (b : BS) (ht : t < 6) (v : Int64) : va_up (wX c (xsb x t b)) (xb t) (xO 0 ((bFs t b).set 1 (.long v))) = wX c (xsb x t (bs_below b v)) := by
  have h := wXb_below c (xsb x t b) ht v
  rw [xsb_get, xsb_xsb] at h
  exact h
theorem wXbo_sabove (c : CS) (x : XT) {t : Nat} (b : BS) (ht : t < 6) (v : Nat → Int64) : va_up (wX c (xsb x t b)) (xb t + 9) (xJ 7 v) = wX c (xsb x t (bs_above b v)) := by
  have h := wXb_sabove c (xsb x t b) ht v
  rw [xsb_get, xsb_xsb] at h
  exact h
theorem wXbo_sspread (c : CS) (x : XT) {t : Nat} (b : BS) (ht : t < 6) (v : Nat → Int64) : va_up (wX c (xsb x t b)) (xb t + 10) (xJ 7 v) = wX c (xsb x t (bs_spread b v)) := by
  have h := wXb_sspread c (xsb x t b) ht v
  rw [xsb_get, xsb_xsb] at h
  exact h
theorem wXbo_srow (c : CS) (x : XT) {t i : Nat} (b : BS) (ht : t < 6) (hi : i < 7) (j : Nat) (v : Int64) : va_up (wX c (xsb x t b)) (xb t + 2 + i) (xJ 7 (vp_updL (b_cell b i) j v)) = wX c (xsb x t (bs_cell b (upM (b_cell b) i j v))) := by
  have h := wXb_srow c (xsb x t b) ht hi j v
  rw [xsb_get, xsb_xsb] at h
  exact h
set_option maxHeartbeats 1000000 in
theorem xr_copyrow {l : Launch} {cc : ByteArray} {own : String} {nL : Nat} {ret : Option FieldType} {d : Nat} (κ : XC l xTX cc own nL ret d) {pc : Nat} {lv : List (Nat × Value)} {ω ω' : xWd} {ix : Nat} {f g : Nat → Int32} (hlk : Cond.methodLink own ix arraycopyName ∈ xB) (h2 : Cond.static arraycopyName ∈ xB) (h3 : Cond.native arraycopyName ∈ xB) (h4 : Cond.initialized "java/lang/System" ∈ xB) (hdd : 1 ≤ d) (hf : ω 79 = xI 12 f) (hg : ω 80 = xI 12 g) (hw : va_up ω 80 (xI 12 (va_cpy f g 0 0 12)) = ω') (hd : decode cc pc = .ok (.invokestatic ix, 3)) (kk : Wat κ (pc + 3) lv [] ω') : Wat κ pc lv [.int 12, .int 0, .ref 80, .int 0, .ref 79] ω := by
  obtain ⟨⟨⟨p, e, R⟩, ⟨s, m, args, below⟩, ⟨meth, c, cells, slots⟩, ⟨Q, A⟩, ⟨D, ad, cA⟩⟩, ⟨hx, hb, hml, hr, hts, hown, hlocks⟩, hK, hA, hroom⟩ := κ
  intro H locs ls hP hD hS hl
  have hK2 : va_K D vwCl [(cA 79, .int), (cA 80, .int)] s := ⟨hK.1, fun j q hj => by
    match j, hj with
    | 0, hj => cases hj; exact hK.2.1 79 _ (by decide) rfl
    | 1, hj => cases hj; exact hK.2.1 80 _ (by decide) rfl
    | j + 2, hj => simp at hj⟩
  have hlo := hroom.2.1
  refine va_copyi (a := ad 80) (a0 := ad 79) (n := 12) (sp := 0) (dp := 0) (c0 := cA 79) (c1 := cA 80) (n0 := 12) (n1 := 12) (f := f) (g := g) (ty := .int) hx hb (by rw [hml]; exact hl.1.symm) hown (hts _ hlk) (hts _ h3) (hts _ h2) (hts _ h4) hK2 hP hD hS 79 80 0 1 (by rw [xW_get (by decide), hf]; rfl) (by rw [xW_get (by decide), hg]; rfl) rfl rfl rfl (by decide) (by decide) (by decide) (by decide) (by decide) (fun _ _ => rfl) (Nat.le_trans hdd hroom.1) (Nat.le_trans (show 0 + (nativeFrameWords "java/lang/System" "arraycopy" 5 + 11) ≤ 40 * 1 by decide) (Nat.le_trans (Nat.mul_le_mul_left 40 hdd) hlo)) hd (fun H1 locs1 hP1 hD1 hS1 => ?_)
  have e9 : (xW ad cA xTX.1 ω).set 80 (ad 80, xe ad cA 80 (xI 12 (va_cpy f g 0 0 12))) = xW ad cA xTX.1 ω' := by rw [xW_set, hw]
  have hP2 : va_P D vwCl ((xW ad cA xTX.1 ω).set 80 (ad 80, xe ad cA 80 (xI 12 (va_cpy f g 0 0 12)))) H1 := hP1
  have hD2 : va_D A ((xW ad cA xTX.1 ω).set 80 (ad 80, xe ad cA 80 (xI 12 (va_cpy f g 0 0 12)))) := hD1
  rw [e9] at hP2 hD2
  exact kk H1 locs1 ls hP2 hD2 hS1 hl
end
