section
-- ===== PART A: goes FIRST, ahead of the names: the tables' words, and 'selects' of the private methods out of them =====
/-- a private method of a class that the tables say can be made, by its rows of tables_1 -/
def lw_okq (q : MethodName × Nat) : Prop := (q.1.cls ≠ "java/lang/invoke/MethodHandle" ∧ q.1.cls ≠ "java/lang/invoke/VarHandle") ∧ Cond.instantiable q.1.cls q.2 ∈ tables_1 ∧ Cond.privateMethod q.1 ∈ tables_1 ∧ Cond.instanceMethod q.1 ∈ tables_1
theorem lw_p0 : lw_okq (⟨"RetiredCells$Memory", "hasCell", "(I)Z"⟩, 17) := ⟨⟨by decide +kernel, by decide +kernel⟩, List.mem_of_getElem? (i := 17) (by decide +kernel), List.mem_of_getElem? (i := 187) (by decide +kernel), List.mem_of_getElem? (i := 188) (by decide +kernel)⟩
theorem lw_p1 : lw_okq (⟨"RetiredCells$Memory", "isGivable", "(I)Z"⟩, 17) := ⟨⟨by decide +kernel, by decide +kernel⟩, List.mem_of_getElem? (i := 17) (by decide +kernel), List.mem_of_getElem? (i := 195) (by decide +kernel), List.mem_of_getElem? (i := 196) (by decide +kernel)⟩
theorem lw_p2 : lw_okq (⟨"RetiredCells$Memory", "give", "(II)V"⟩, 17) := ⟨⟨by decide +kernel, by decide +kernel⟩, List.mem_of_getElem? (i := 17) (by decide +kernel), List.mem_of_getElem? (i := 199) (by decide +kernel), List.mem_of_getElem? (i := 200) (by decide +kernel)⟩
theorem lw_p3 : lw_okq (⟨"RetiredCells$Memory", "waits", "(I)Z"⟩, 17) := ⟨⟨by decide +kernel, by decide +kernel⟩, List.mem_of_getElem? (i := 17) (by decide +kernel), List.mem_of_getElem? (i := 207) (by decide +kernel), List.mem_of_getElem? (i := 208) (by decide +kernel)⟩
theorem lw_p4 : lw_okq (⟨"RetiredCells$Memory", "isBad", "(I)Z"⟩, 17) := ⟨⟨by decide +kernel, by decide +kernel⟩, List.mem_of_getElem? (i := 17) (by decide +kernel), List.mem_of_getElem? (i := 211) (by decide +kernel), List.mem_of_getElem? (i := 212) (by decide +kernel)⟩
theorem lw_p5 : lw_okq (⟨"RetiredCells$Memory", "canRetire", "(I)Z"⟩, 17) := ⟨⟨by decide +kernel, by decide +kernel⟩, List.mem_of_getElem? (i := 17) (by decide +kernel), List.mem_of_getElem? (i := 215) (by decide +kernel), List.mem_of_getElem? (i := 216) (by decide +kernel)⟩
theorem lw_p6 : lw_okq (⟨"RetiredCells$Memory", "moveAwayFrom", "(I)V"⟩, 17) := ⟨⟨by decide +kernel, by decide +kernel⟩, List.mem_of_getElem? (i := 17) (by decide +kernel), List.mem_of_getElem? (i := 219) (by decide +kernel), List.mem_of_getElem? (i := 220) (by decide +kernel)⟩
theorem lw_p7 : lw_okq (⟨"RetiredCells$Memory", "retire", "(I)V"⟩, 17) := ⟨⟨by decide +kernel, by decide +kernel⟩, List.mem_of_getElem? (i := 17) (by decide +kernel), List.mem_of_getElem? (i := 223) (by decide +kernel), List.mem_of_getElem? (i := 224) (by decide +kernel)⟩
theorem lw_p8 : lw_okq (⟨"RetiredCells", "recorded", "(I)I"⟩, 9) := ⟨⟨by decide +kernel, by decide +kernel⟩, List.mem_of_getElem? (i := 9) (by decide +kernel), List.mem_of_getElem? (i := 227) (by decide +kernel), List.mem_of_getElem? (i := 228) (by decide +kernel)⟩
theorem lw_p9 : lw_okq (⟨"RetiredCells$Memory", "release", "(I)V"⟩, 17) := ⟨⟨by decide +kernel, by decide +kernel⟩, List.mem_of_getElem? (i := 17) (by decide +kernel), List.mem_of_getElem? (i := 244) (by decide +kernel), List.mem_of_getElem? (i := 245) (by decide +kernel)⟩
theorem lw_p10 : lw_okq (⟨"RetiredCells$Memory", "pinnedPages", "()I"⟩, 17) := ⟨⟨by decide +kernel, by decide +kernel⟩, List.mem_of_getElem? (i := 17) (by decide +kernel), List.mem_of_getElem? (i := 256) (by decide +kernel), List.mem_of_getElem? (i := 257) (by decide +kernel)⟩
theorem lw_p11 : lw_okq (⟨"RetiredCells$Memory", "pinnedPagesOf", "(I)I"⟩, 17) := ⟨⟨by decide +kernel, by decide +kernel⟩, List.mem_of_getElem? (i := 17) (by decide +kernel), List.mem_of_getElem? (i := 260) (by decide +kernel), List.mem_of_getElem? (i := 261) (by decide +kernel)⟩
theorem lw_p12 : lw_okq (⟨"RetiredCells$Memory", "loseWhatLiesIn", "(I)I"⟩, 17) := ⟨⟨by decide +kernel, by decide +kernel⟩, List.mem_of_getElem? (i := 17) (by decide +kernel), List.mem_of_getElem? (i := 284) (by decide +kernel), List.mem_of_getElem? (i := 285) (by decide +kernel)⟩
theorem lw_p13 : lw_okq (⟨"RetiredCells$Memory", "placeOnList", "(I)I"⟩, 17) := ⟨⟨by decide +kernel, by decide +kernel⟩, List.mem_of_getElem? (i := 17) (by decide +kernel), List.mem_of_getElem? (i := 296) (by decide +kernel), List.mem_of_getElem? (i := 297) (by decide +kernel)⟩
theorem lw_p14 : lw_okq (⟨"RetiredCells$Memory", "freeCells", "()I"⟩, 17) := ⟨⟨by decide +kernel, by decide +kernel⟩, List.mem_of_getElem? (i := 17) (by decide +kernel), List.mem_of_getElem? (i := 300) (by decide +kernel), List.mem_of_getElem? (i := 301) (by decide +kernel)⟩
theorem lw_p15 : lw_okq (⟨"RetiredCells$Memory", "cellsThatAre", "(I)I"⟩, 17) := ⟨⟨by decide +kernel, by decide +kernel⟩, List.mem_of_getElem? (i := 17) (by decide +kernel), List.mem_of_getElem? (i := 304) (by decide +kernel), List.mem_of_getElem? (i := 305) (by decide +kernel)⟩
def lw_privs_1 : List (MethodName × Nat) := [(⟨"RetiredCells$Memory", "hasCell", "(I)Z"⟩, 17), (⟨"RetiredCells$Memory", "isGivable", "(I)Z"⟩, 17), (⟨"RetiredCells$Memory", "give", "(II)V"⟩, 17), (⟨"RetiredCells$Memory", "waits", "(I)Z"⟩, 17), (⟨"RetiredCells$Memory", "isBad", "(I)Z"⟩, 17), (⟨"RetiredCells$Memory", "canRetire", "(I)Z"⟩, 17), (⟨"RetiredCells$Memory", "moveAwayFrom", "(I)V"⟩, 17), (⟨"RetiredCells$Memory", "retire", "(I)V"⟩, 17), (⟨"RetiredCells", "recorded", "(I)I"⟩, 9), (⟨"RetiredCells$Memory", "release", "(I)V"⟩, 17), (⟨"RetiredCells$Memory", "pinnedPages", "()I"⟩, 17), (⟨"RetiredCells$Memory", "pinnedPagesOf", "(I)I"⟩, 17), (⟨"RetiredCells$Memory", "loseWhatLiesIn", "(I)I"⟩, 17), (⟨"RetiredCells$Memory", "placeOnList", "(I)I"⟩, 17), (⟨"RetiredCells$Memory", "freeCells", "()I"⟩, 17), (⟨"RetiredCells$Memory", "cellsThatAre", "(I)I"⟩, 17)]
theorem lw_r1 : ∀ q ∈ lw_privs_1, lw_okq q := List.forall_mem_cons.mpr ⟨lw_p0, List.forall_mem_cons.mpr ⟨lw_p1, List.forall_mem_cons.mpr ⟨lw_p2, List.forall_mem_cons.mpr ⟨lw_p3, List.forall_mem_cons.mpr ⟨lw_p4, List.forall_mem_cons.mpr ⟨lw_p5, List.forall_mem_cons.mpr ⟨lw_p6, List.forall_mem_cons.mpr ⟨lw_p7, List.forall_mem_cons.mpr ⟨lw_p8, List.forall_mem_cons.mpr ⟨lw_p9, List.forall_mem_cons.mpr ⟨lw_p10, List.forall_mem_cons.mpr ⟨lw_p11, List.forall_mem_cons.mpr ⟨lw_p12, List.forall_mem_cons.mpr ⟨lw_p13, List.forall_mem_cons.mpr ⟨lw_p14, List.forall_mem_cons.mpr ⟨lw_p15, fun _ h => absurd h List.not_mem_nil⟩⟩⟩⟩⟩⟩⟩⟩⟩⟩⟩⟩⟩⟩⟩⟩
theorem lw_p16 : lw_okq (⟨"RetiredCells$Memory", "howCellIs", "(I)I"⟩, 17) := ⟨⟨by decide +kernel, by decide +kernel⟩, List.mem_of_getElem? (i := 17) (by decide +kernel), List.mem_of_getElem? (i := 308) (by decide +kernel), List.mem_of_getElem? (i := 309) (by decide +kernel)⟩
theorem lw_p17 : lw_okq (⟨"RetiredCells$Memory", "isForgettingDay", "()Z"⟩, 17) := ⟨⟨by decide +kernel, by decide +kernel⟩, List.mem_of_getElem? (i := 17) (by decide +kernel), List.mem_of_getElem? (i := 320) (by decide +kernel), List.mem_of_getElem? (i := 321) (by decide +kernel)⟩
theorem lw_p18 : lw_okq (⟨"RetiredCells$Memory", "forgetErrors", "()V"⟩, 17) := ⟨⟨by decide +kernel, by decide +kernel⟩, List.mem_of_getElem? (i := 17) (by decide +kernel), List.mem_of_getElem? (i := 324) (by decide +kernel), List.mem_of_getElem? (i := 325) (by decide +kernel)⟩
theorem lw_p19 : lw_okq (⟨"RetiredCells$Memory", "waitingCells", "()I"⟩, 17) := ⟨⟨by decide +kernel, by decide +kernel⟩, List.mem_of_getElem? (i := 17) (by decide +kernel), List.mem_of_getElem? (i := 328) (by decide +kernel), List.mem_of_getElem? (i := 329) (by decide +kernel)⟩
theorem lw_p20 : lw_okq (⟨"RetiredCells$Plan", "readThing", "(I)Z"⟩, 6) := ⟨⟨by decide +kernel, by decide +kernel⟩, List.mem_of_getElem? (i := 110) (by decide +kernel), List.mem_of_getElem? (i := 370) (by decide +kernel), List.mem_of_getElem? (i := 371) (by decide +kernel)⟩
theorem lw_p21 : lw_okq (⟨"RetiredCells$Plan", "readKind", "(IC)Z"⟩, 6) := ⟨⟨by decide +kernel, by decide +kernel⟩, List.mem_of_getElem? (i := 110) (by decide +kernel), List.mem_of_getElem? (i := 378) (by decide +kernel), List.mem_of_getElem? (i := 379) (by decide +kernel)⟩
theorem lw_p22 : lw_okq (⟨"RetiredCells$Plan", "readSign", "(C)Z"⟩, 6) := ⟨⟨by decide +kernel, by decide +kernel⟩, List.mem_of_getElem? (i := 110) (by decide +kernel), List.mem_of_getElem? (i := 382) (by decide +kernel), List.mem_of_getElem? (i := 383) (by decide +kernel)⟩
theorem lw_p23 : lw_okq (⟨"RetiredCells$Plan", "readPage", "(I)Z"⟩, 6) := ⟨⟨by decide +kernel, by decide +kernel⟩, List.mem_of_getElem? (i := 110) (by decide +kernel), List.mem_of_getElem? (i := 386) (by decide +kernel), List.mem_of_getElem? (i := 387) (by decide +kernel)⟩
theorem lw_p24 : lw_okq (⟨"RetiredCells$Plan", "digitAt", "(I)I"⟩, 6) := ⟨⟨by decide +kernel, by decide +kernel⟩, List.mem_of_getElem? (i := 110) (by decide +kernel), List.mem_of_getElem? (i := 390) (by decide +kernel), List.mem_of_getElem? (i := 391) (by decide +kernel)⟩
theorem lw_p25 : lw_okq (⟨"RetiredCells$Plan", "readNumber", "(III)Z"⟩, 6) := ⟨⟨by decide +kernel, by decide +kernel⟩, List.mem_of_getElem? (i := 110) (by decide +kernel), List.mem_of_getElem? (i := 396) (by decide +kernel), List.mem_of_getElem? (i := 397) (by decide +kernel)⟩
theorem lw_p26 : lw_okq (⟨"RetiredCells", "doThing", "(I)I"⟩, 9) := ⟨⟨by decide +kernel, by decide +kernel⟩, List.mem_of_getElem? (i := 9) (by decide +kernel), List.mem_of_getElem? (i := 408) (by decide +kernel), List.mem_of_getElem? (i := 409) (by decide +kernel)⟩
theorem lw_p27 : lw_okq (⟨"RetiredCells$Memory", "pagesWithCells", "(I)I"⟩, 17) := ⟨⟨by decide +kernel, by decide +kernel⟩, List.mem_of_getElem? (i := 17) (by decide +kernel), List.mem_of_getElem? (i := 469) (by decide +kernel), List.mem_of_getElem? (i := 470) (by decide +kernel)⟩
theorem lw_p28 : lw_okq (⟨"RetiredCells$Memory", "usedCells", "()I"⟩, 17) := ⟨⟨by decide +kernel, by decide +kernel⟩, List.mem_of_getElem? (i := 17) (by decide +kernel), List.mem_of_getElem? (i := 539) (by decide +kernel), List.mem_of_getElem? (i := 540) (by decide +kernel)⟩
theorem lw_p29 : lw_okq (⟨"RetiredCellsModel", "empty", "(I)V"⟩, 13) := ⟨⟨by decide +kernel, by decide +kernel⟩, List.mem_of_getElem? (i := 547) (by decide +kernel), List.mem_of_getElem? (i := 553) (by decide +kernel), List.mem_of_getElem? (i := 554) (by decide +kernel)⟩
theorem lw_p30 : lw_okq (⟨"RetiredCellsModel", "lay", "(III)V"⟩, 13) := ⟨⟨by decide +kernel, by decide +kernel⟩, List.mem_of_getElem? (i := 547) (by decide +kernel), List.mem_of_getElem? (i := 557) (by decide +kernel), List.mem_of_getElem? (i := 558) (by decide +kernel)⟩
theorem lw_p31 : lw_okq (⟨"RetiredCellsModel", "cells", "(I)I"⟩, 13) := ⟨⟨by decide +kernel, by decide +kernel⟩, List.mem_of_getElem? (i := 547) (by decide +kernel), List.mem_of_getElem? (i := 612) (by decide +kernel), List.mem_of_getElem? (i := 613) (by decide +kernel)⟩
def lw_privs_2 : List (MethodName × Nat) := [(⟨"RetiredCells$Memory", "howCellIs", "(I)I"⟩, 17), (⟨"RetiredCells$Memory", "isForgettingDay", "()Z"⟩, 17), (⟨"RetiredCells$Memory", "forgetErrors", "()V"⟩, 17), (⟨"RetiredCells$Memory", "waitingCells", "()I"⟩, 17), (⟨"RetiredCells$Plan", "readThing", "(I)Z"⟩, 6), (⟨"RetiredCells$Plan", "readKind", "(IC)Z"⟩, 6), (⟨"RetiredCells$Plan", "readSign", "(C)Z"⟩, 6), (⟨"RetiredCells$Plan", "readPage", "(I)Z"⟩, 6), (⟨"RetiredCells$Plan", "digitAt", "(I)I"⟩, 6), (⟨"RetiredCells$Plan", "readNumber", "(III)Z"⟩, 6), (⟨"RetiredCells", "doThing", "(I)I"⟩, 9), (⟨"RetiredCells$Memory", "pagesWithCells", "(I)I"⟩, 17), (⟨"RetiredCells$Memory", "usedCells", "()I"⟩, 17), (⟨"RetiredCellsModel", "empty", "(I)V"⟩, 13), (⟨"RetiredCellsModel", "lay", "(III)V"⟩, 13), (⟨"RetiredCellsModel", "cells", "(I)I"⟩, 13)]
theorem lw_r2 : ∀ q ∈ lw_privs_2, lw_okq q := List.forall_mem_cons.mpr ⟨lw_p16, List.forall_mem_cons.mpr ⟨lw_p17, List.forall_mem_cons.mpr ⟨lw_p18, List.forall_mem_cons.mpr ⟨lw_p19, List.forall_mem_cons.mpr ⟨lw_p20, List.forall_mem_cons.mpr ⟨lw_p21, List.forall_mem_cons.mpr ⟨lw_p22, List.forall_mem_cons.mpr ⟨lw_p23, List.forall_mem_cons.mpr ⟨lw_p24, List.forall_mem_cons.mpr ⟨lw_p25, List.forall_mem_cons.mpr ⟨lw_p26, List.forall_mem_cons.mpr ⟨lw_p27, List.forall_mem_cons.mpr ⟨lw_p28, List.forall_mem_cons.mpr ⟨lw_p29, List.forall_mem_cons.mpr ⟨lw_p30, List.forall_mem_cons.mpr ⟨lw_p31, fun _ h => absurd h List.not_mem_nil⟩⟩⟩⟩⟩⟩⟩⟩⟩⟩⟩⟩⟩⟩⟩⟩
theorem lw_p32 : lw_okq (⟨"RetiredCellsModel", "record", "()V"⟩, 13) := ⟨⟨by decide +kernel, by decide +kernel⟩, List.mem_of_getElem? (i := 547) (by decide +kernel), List.mem_of_getElem? (i := 620) (by decide +kernel), List.mem_of_getElem? (i := 621) (by decide +kernel)⟩
theorem lw_p33 : lw_okq (⟨"RetiredCellsModel", "recordRow", "([I)V"⟩, 13) := ⟨⟨by decide +kernel, by decide +kernel⟩, List.mem_of_getElem? (i := 547) (by decide +kernel), List.mem_of_getElem? (i := 624) (by decide +kernel), List.mem_of_getElem? (i := 625) (by decide +kernel)⟩
theorem lw_p34 : lw_okq (⟨"RetiredCellsModel", "look", "()V"⟩, 13) := ⟨⟨by decide +kernel, by decide +kernel⟩, List.mem_of_getElem? (i := 547) (by decide +kernel), List.mem_of_getElem? (i := 628) (by decide +kernel), List.mem_of_getElem? (i := 629) (by decide +kernel)⟩
theorem lw_p35 : lw_okq (⟨"RetiredCellsModel", "isBad", "(I)Z"⟩, 13) := ⟨⟨by decide +kernel, by decide +kernel⟩, List.mem_of_getElem? (i := 547) (by decide +kernel), List.mem_of_getElem? (i := 632) (by decide +kernel), List.mem_of_getElem? (i := 633) (by decide +kernel)⟩
theorem lw_p36 : lw_okq (⟨"RetiredCellsModel", "pageIn", "(I)I"⟩, 13) := ⟨⟨by decide +kernel, by decide +kernel⟩, List.mem_of_getElem? (i := 547) (by decide +kernel), List.mem_of_getElem? (i := 636) (by decide +kernel), List.mem_of_getElem? (i := 637) (by decide +kernel)⟩
theorem lw_p37 : lw_okq (⟨"RetiredCellsModel", "of", "(II)I"⟩, 13) := ⟨⟨by decide +kernel, by decide +kernel⟩, List.mem_of_getElem? (i := 547) (by decide +kernel), List.mem_of_getElem? (i := 640) (by decide +kernel), List.mem_of_getElem? (i := 641) (by decide +kernel)⟩
theorem lw_p38 : lw_okq (⟨"RetiredCellsModel", "given", "(ZI)I"⟩, 13) := ⟨⟨by decide +kernel, by decide +kernel⟩, List.mem_of_getElem? (i := 547) (by decide +kernel), List.mem_of_getElem? (i := 644) (by decide +kernel), List.mem_of_getElem? (i := 645) (by decide +kernel)⟩
theorem lw_p39 : lw_okq (⟨"RetiredCellsModel", "retire", "(I)V"⟩, 13) := ⟨⟨by decide +kernel, by decide +kernel⟩, List.mem_of_getElem? (i := 547) (by decide +kernel), List.mem_of_getElem? (i := 648) (by decide +kernel), List.mem_of_getElem? (i := 649) (by decide +kernel)⟩
theorem lw_p40 : lw_okq (⟨"RetiredCellsModel", "give", "(II)V"⟩, 13) := ⟨⟨by decide +kernel, by decide +kernel⟩, List.mem_of_getElem? (i := 547) (by decide +kernel), List.mem_of_getElem? (i := 652) (by decide +kernel), List.mem_of_getElem? (i := 653) (by decide +kernel)⟩
theorem lw_p41 : lw_okq (⟨"RetiredCellsModel", "whyNotWrite", "(I)I"⟩, 13) := ⟨⟨by decide +kernel, by decide +kernel⟩, List.mem_of_getElem? (i := 547) (by decide +kernel), List.mem_of_getElem? (i := 666) (by decide +kernel), List.mem_of_getElem? (i := 667) (by decide +kernel)⟩
theorem lw_p42 : lw_okq (⟨"RetiredCellsModel", "writeNow", "(II)I"⟩, 13) := ⟨⟨by decide +kernel, by decide +kernel⟩, List.mem_of_getElem? (i := 547) (by decide +kernel), List.mem_of_getElem? (i := 670) (by decide +kernel), List.mem_of_getElem? (i := 671) (by decide +kernel)⟩
theorem lw_p43 : lw_okq (⟨"RetiredCellsModel", "giveBackNow", "(I)V"⟩, 13) := ⟨⟨by decide +kernel, by decide +kernel⟩, List.mem_of_getElem? (i := 547) (by decide +kernel), List.mem_of_getElem? (i := 678) (by decide +kernel), List.mem_of_getElem? (i := 679) (by decide +kernel)⟩
theorem lw_p44 : lw_okq (⟨"RetiredCellsModel", "pinNow", "(II)V"⟩, 13) := ⟨⟨by decide +kernel, by decide +kernel⟩, List.mem_of_getElem? (i := 547) (by decide +kernel), List.mem_of_getElem? (i := 686) (by decide +kernel), List.mem_of_getElem? (i := 687) (by decide +kernel)⟩
theorem lw_p45 : lw_okq (⟨"RetiredCellsModel", "pinned", "(II)I"⟩, 13) := ⟨⟨by decide +kernel, by decide +kernel⟩, List.mem_of_getElem? (i := 547) (by decide +kernel), List.mem_of_getElem? (i := 690) (by decide +kernel), List.mem_of_getElem? (i := 691) (by decide +kernel)⟩
theorem lw_p46 : lw_okq (⟨"RetiredCellsModel", "whyNotError", "(I)I"⟩, 13) := ⟨⟨by decide +kernel, by decide +kernel⟩, List.mem_of_getElem? (i := 547) (by decide +kernel), List.mem_of_getElem? (i := 698) (by decide +kernel), List.mem_of_getElem? (i := 699) (by decide +kernel)⟩
theorem lw_p47 : lw_okq (⟨"RetiredCellsModel", "errorNow", "(I)I"⟩, 13) := ⟨⟨by decide +kernel, by decide +kernel⟩, List.mem_of_getElem? (i := 547) (by decide +kernel), List.mem_of_getElem? (i := 705) (by decide +kernel), List.mem_of_getElem? (i := 706) (by decide +kernel)⟩
def lw_privs_3 : List (MethodName × Nat) := [(⟨"RetiredCellsModel", "record", "()V"⟩, 13), (⟨"RetiredCellsModel", "recordRow", "([I)V"⟩, 13), (⟨"RetiredCellsModel", "look", "()V"⟩, 13), (⟨"RetiredCellsModel", "isBad", "(I)Z"⟩, 13), (⟨"RetiredCellsModel", "pageIn", "(I)I"⟩, 13), (⟨"RetiredCellsModel", "of", "(II)I"⟩, 13), (⟨"RetiredCellsModel", "given", "(ZI)I"⟩, 13), (⟨"RetiredCellsModel", "retire", "(I)V"⟩, 13), (⟨"RetiredCellsModel", "give", "(II)V"⟩, 13), (⟨"RetiredCellsModel", "whyNotWrite", "(I)I"⟩, 13), (⟨"RetiredCellsModel", "writeNow", "(II)I"⟩, 13), (⟨"RetiredCellsModel", "giveBackNow", "(I)V"⟩, 13), (⟨"RetiredCellsModel", "pinNow", "(II)V"⟩, 13), (⟨"RetiredCellsModel", "pinned", "(II)I"⟩, 13), (⟨"RetiredCellsModel", "whyNotError", "(I)I"⟩, 13), (⟨"RetiredCellsModel", "errorNow", "(I)I"⟩, 13)]
theorem lw_r3 : ∀ q ∈ lw_privs_3, lw_okq q := List.forall_mem_cons.mpr ⟨lw_p32, List.forall_mem_cons.mpr ⟨lw_p33, List.forall_mem_cons.mpr ⟨lw_p34, List.forall_mem_cons.mpr ⟨lw_p35, List.forall_mem_cons.mpr ⟨lw_p36, List.forall_mem_cons.mpr ⟨lw_p37, List.forall_mem_cons.mpr ⟨lw_p38, List.forall_mem_cons.mpr ⟨lw_p39, List.forall_mem_cons.mpr ⟨lw_p40, List.forall_mem_cons.mpr ⟨lw_p41, List.forall_mem_cons.mpr ⟨lw_p42, List.forall_mem_cons.mpr ⟨lw_p43, List.forall_mem_cons.mpr ⟨lw_p44, List.forall_mem_cons.mpr ⟨lw_p45, List.forall_mem_cons.mpr ⟨lw_p46, List.forall_mem_cons.mpr ⟨lw_p47, fun _ h => absurd h List.not_mem_nil⟩⟩⟩⟩⟩⟩⟩⟩⟩⟩⟩⟩⟩⟩⟩⟩
theorem lw_p48 : lw_okq (⟨"RetiredCellsModel", "hardNow", "(I)I"⟩, 13) := ⟨⟨by decide +kernel, by decide +kernel⟩, List.mem_of_getElem? (i := 547) (by decide +kernel), List.mem_of_getElem? (i := 713) (by decide +kernel), List.mem_of_getElem? (i := 714) (by decide +kernel)⟩
theorem lw_p49 : lw_okq (⟨"RetiredCellsModel", "startNow", "()V"⟩, 13) := ⟨⟨by decide +kernel, by decide +kernel⟩, List.mem_of_getElem? (i := 547) (by decide +kernel), List.mem_of_getElem? (i := 721) (by decide +kernel), List.mem_of_getElem? (i := 722) (by decide +kernel)⟩
theorem lw_p50 : lw_okq (⟨"RetiredCellsModel", "whyNotPass", "(I)I"⟩, 13) := ⟨⟨by decide +kernel, by decide +kernel⟩, List.mem_of_getElem? (i := 547) (by decide +kernel), List.mem_of_getElem? (i := 729) (by decide +kernel), List.mem_of_getElem? (i := 730) (by decide +kernel)⟩
theorem lw_p51 : lw_okq (⟨"RetiredCellsModel", "passNow", "(I)I"⟩, 13) := ⟨⟨by decide +kernel, by decide +kernel⟩, List.mem_of_getElem? (i := 547) (by decide +kernel), List.mem_of_getElem? (i := 733) (by decide +kernel), List.mem_of_getElem? (i := 734) (by decide +kernel)⟩
theorem lw_p52 : lw_okq (⟨"RetiredCellsModel", "waiting", "()I"⟩, 13) := ⟨⟨by decide +kernel, by decide +kernel⟩, List.mem_of_getElem? (i := 547) (by decide +kernel), List.mem_of_getElem? (i := 737) (by decide +kernel), List.mem_of_getElem? (i := 738) (by decide +kernel)⟩
theorem lw_p53 : lw_okq (⟨"RetiredCellsModel", "readText", "()Z"⟩, 13) := ⟨⟨by decide +kernel, by decide +kernel⟩, List.mem_of_getElem? (i := 547) (by decide +kernel), List.mem_of_getElem? (i := 757) (by decide +kernel), List.mem_of_getElem? (i := 758) (by decide +kernel)⟩
theorem lw_p54 : lw_okq (⟨"RetiredCellsModel", "readThing", "()Z"⟩, 13) := ⟨⟨by decide +kernel, by decide +kernel⟩, List.mem_of_getElem? (i := 547) (by decide +kernel), List.mem_of_getElem? (i := 761) (by decide +kernel), List.mem_of_getElem? (i := 762) (by decide +kernel)⟩
theorem lw_p55 : lw_okq (⟨"RetiredCellsModel", "readPage", "()I"⟩, 13) := ⟨⟨by decide +kernel, by decide +kernel⟩, List.mem_of_getElem? (i := 547) (by decide +kernel), List.mem_of_getElem? (i := 765) (by decide +kernel), List.mem_of_getElem? (i := 766) (by decide +kernel)⟩
theorem lw_p56 : lw_okq (⟨"RetiredCellsModel", "number", "(II)I"⟩, 13) := ⟨⟨by decide +kernel, by decide +kernel⟩, List.mem_of_getElem? (i := 547) (by decide +kernel), List.mem_of_getElem? (i := 769) (by decide +kernel), List.mem_of_getElem? (i := 770) (by decide +kernel)⟩
theorem lw_p57 : lw_okq (⟨"RetiredCellsModel", "sees", "(II)Z"⟩, 13) := ⟨⟨by decide +kernel, by decide +kernel⟩, List.mem_of_getElem? (i := 547) (by decide +kernel), List.mem_of_getElem? (i := 773) (by decide +kernel), List.mem_of_getElem? (i := 774) (by decide +kernel)⟩
theorem lw_p58 : lw_okq (⟨"RetiredCellsModel", "takes", "(I)Z"⟩, 13) := ⟨⟨by decide +kernel, by decide +kernel⟩, List.mem_of_getElem? (i := 547) (by decide +kernel), List.mem_of_getElem? (i := 777) (by decide +kernel), List.mem_of_getElem? (i := 778) (by decide +kernel)⟩
theorem lw_p59 : lw_okq (⟨"RetiredCellsModel", "whyNot", "(I)I"⟩, 13) := ⟨⟨by decide +kernel, by decide +kernel⟩, List.mem_of_getElem? (i := 547) (by decide +kernel), List.mem_of_getElem? (i := 781) (by decide +kernel), List.mem_of_getElem? (i := 782) (by decide +kernel)⟩
theorem lw_p60 : lw_okq (⟨"RetiredCellsModel", "doThing", "(I)V"⟩, 13) := ⟨⟨by decide +kernel, by decide +kernel⟩, List.mem_of_getElem? (i := 547) (by decide +kernel), List.mem_of_getElem? (i := 785) (by decide +kernel), List.mem_of_getElem? (i := 786) (by decide +kernel)⟩
theorem lw_p61 : lw_okq (⟨"RetiredCellsModel", "withCells", "(II)I"⟩, 13) := ⟨⟨by decide +kernel, by decide +kernel⟩, List.mem_of_getElem? (i := 547) (by decide +kernel), List.mem_of_getElem? (i := 801) (by decide +kernel), List.mem_of_getElem? (i := 802) (by decide +kernel)⟩
theorem lw_p62 : lw_okq (⟨"RetiredCellsModel", "placeOnList", "(I)I"⟩, 13) := ⟨⟨by decide +kernel, by decide +kernel⟩, List.mem_of_getElem? (i := 547) (by decide +kernel), List.mem_of_getElem? (i := 809) (by decide +kernel), List.mem_of_getElem? (i := 810) (by decide +kernel)⟩
def lw_privs_4 : List (MethodName × Nat) := [(⟨"RetiredCellsModel", "hardNow", "(I)I"⟩, 13), (⟨"RetiredCellsModel", "startNow", "()V"⟩, 13), (⟨"RetiredCellsModel", "whyNotPass", "(I)I"⟩, 13), (⟨"RetiredCellsModel", "passNow", "(I)I"⟩, 13), (⟨"RetiredCellsModel", "waiting", "()I"⟩, 13), (⟨"RetiredCellsModel", "readText", "()Z"⟩, 13), (⟨"RetiredCellsModel", "readThing", "()Z"⟩, 13), (⟨"RetiredCellsModel", "readPage", "()I"⟩, 13), (⟨"RetiredCellsModel", "number", "(II)I"⟩, 13), (⟨"RetiredCellsModel", "sees", "(II)Z"⟩, 13), (⟨"RetiredCellsModel", "takes", "(I)Z"⟩, 13), (⟨"RetiredCellsModel", "whyNot", "(I)I"⟩, 13), (⟨"RetiredCellsModel", "doThing", "(I)V"⟩, 13), (⟨"RetiredCellsModel", "withCells", "(II)I"⟩, 13), (⟨"RetiredCellsModel", "placeOnList", "(I)I"⟩, 13)]
theorem lw_r4 : ∀ q ∈ lw_privs_4, lw_okq q := List.forall_mem_cons.mpr ⟨lw_p48, List.forall_mem_cons.mpr ⟨lw_p49, List.forall_mem_cons.mpr ⟨lw_p50, List.forall_mem_cons.mpr ⟨lw_p51, List.forall_mem_cons.mpr ⟨lw_p52, List.forall_mem_cons.mpr ⟨lw_p53, List.forall_mem_cons.mpr ⟨lw_p54, List.forall_mem_cons.mpr ⟨lw_p55, List.forall_mem_cons.mpr ⟨lw_p56, List.forall_mem_cons.mpr ⟨lw_p57, List.forall_mem_cons.mpr ⟨lw_p58, List.forall_mem_cons.mpr ⟨lw_p59, List.forall_mem_cons.mpr ⟨lw_p60, List.forall_mem_cons.mpr ⟨lw_p61, List.forall_mem_cons.mpr ⟨lw_p62, fun _ h => absurd h List.not_mem_nil⟩⟩⟩⟩⟩⟩⟩⟩⟩⟩⟩⟩⟩⟩⟩
def lw_privs : List (MethodName × Nat) := lw_privs_1 ++ (lw_privs_2 ++ (lw_privs_3 ++ (lw_privs_4)))
def lw_tbl : List Cond := k2_sels lw_privs ++ tables_1
theorem lw_privs_ok : ∀ q ∈ lw_privs, lw_okq q := by
  show ∀ q ∈ lw_privs_1 ++ (lw_privs_2 ++ (lw_privs_3 ++ (lw_privs_4))), lw_okq q
  exact List.forall_mem_append.mpr ⟨lw_r1, List.forall_mem_append.mpr ⟨lw_r2, List.forall_mem_append.mpr ⟨lw_r3, lw_r4⟩⟩⟩
end
section
def RX0 : String := "RetiredCells$History"
def TX0 : u_T := fun k => match k with
  | 0 => ("RetiredCells$History", "states", "[LRetiredCells$Memory;", true)
  | 1 => ("RetiredCells$History", "oldest", "I", false)
  | _ => ("RetiredCells$History", "size", "I", false)
def tyX0 : Nat → FieldType := fun k => match k with
  | 0 => .array (.object "RetiredCells$Memory")
  | 1 => .int
  | _ => .int
abbrev wsX00 : List Cond := u_ws RX0 TX0 3
theorem nmX0 : ∀ a, a < 3 → ∀ b, b < 3 → a ≠ b → (TX0 a).2.1 ≠ (TX0 b).2.1 := by decide +kernel
theorem tyX0_ok : ∀ k, k < 3 → parseFieldDescriptor (TX0 k).2.2.1 = some (tyX0 k) := by decide +kernel
abbrev cX0_init : ByteArray := prog_2_method_1_code
def yX0_init : MethodName := ⟨RX0, "<init>", "()V"⟩
abbrev cX0_size : ByteArray := prog_2_method_2_code
def yX0_size : MethodName := ⟨RX0, "size", "()I"⟩
abbrev cX0_add : ByteArray := prog_2_method_3_code
def yX0_add : MethodName := ⟨RX0, "add", "(LRetiredCells$Memory;)V"⟩
abbrev cX0_takeLatest : ByteArray := prog_2_method_4_code
def yX0_takeLatest : MethodName := ⟨RX0, "takeLatest", "(LRetiredCells$Memory;)I"⟩
def RX1 : String := "RetiredCells$Memory"
def TX1 : u_T := fun k => match k with
  | 0 => ("RetiredCells$Memory", "retired", "[Z", true)
  | 1 => ("RetiredCells$Memory", "errors", "[I", true)
  | 2 => ("RetiredCells$Memory", "owner", "[I", true)
  | 3 => ("RetiredCells$Memory", "cellOf", "[I", true)
  | 4 => ("RetiredCells$Memory", "valueOf", "[I", true)
  | 5 => ("RetiredCells$Memory", "pinned", "[Z", true)
  | 6 => ("RetiredCells$Memory", "movesOf", "[I", true)
  | 7 => ("RetiredCells$Memory", "lostBy", "[I", true)
  | 8 => ("RetiredCells$Memory", "movesBy", "[I", true)
  | 9 => ("RetiredCells$Memory", "listed", "[I", true)
  | 10 => ("RetiredCells$Memory", "listLength", "I", false)
  | 11 => ("RetiredCells$Memory", "settings", "[I", true)
  | 12 => ("RetiredCells$Memory", "day", "I", false)
  | 13 => ("RetiredCells$Memory", "lastGiven", "I", false)
  | 14 => ("RetiredCells$Memory", "errorsSoFar", "I", false)
  | 15 => ("RetiredCells$Memory", "hardErrorsSoFar", "I", false)
  | _ => ("RetiredCells$Memory", "startsSoFar", "I", false)
def tyX1 : Nat → FieldType := fun k => match k with
  | 0 => .array .boolean
  | 1 => .array .int
  | 2 => .array .int
  | 3 => .array .int
  | 4 => .array .int
  | 5 => .array .boolean
  | 6 => .array .int
  | 7 => .array .int
  | 8 => .array .int
  | 9 => .array .int
  | 10 => .int
  | 11 => .array .int
  | 12 => .int
  | 13 => .int
  | 14 => .int
  | 15 => .int
  | _ => .int
abbrev wsX10 : List Cond := u_ws RX1 TX1 17
theorem nmX1 : ∀ a, a < 17 → ∀ b, b < 17 → a ≠ b → (TX1 a).2.1 ≠ (TX1 b).2.1 := by decide +kernel
theorem tyX1_ok : ∀ k, k < 17 → parseFieldDescriptor (TX1 k).2.2.1 = some (tyX1 k) := by decide +kernel
abbrev cX1_init : ByteArray := prog_3_method_1_code
def yX1_init : MethodName := ⟨RX1, "<init>", "()V"⟩
abbrev cX1_copyFrom : ByteArray := prog_3_method_2_code
def yX1_copyFrom : MethodName := ⟨RX1, "copyFrom", "(LRetiredCells$Memory;)V"⟩
abbrev cX1_put : ByteArray := prog_3_method_3_code
def yX1_put : MethodName := ⟨RX1, "put", "(II)I"⟩
abbrev cX1_takeBack : ByteArray := prog_3_method_4_code
def yX1_takeBack : MethodName := ⟨RX1, "takeBack", "(I)I"⟩
abbrev cX1_changePin : ByteArray := prog_3_method_5_code
def yX1_changePin : MethodName := ⟨RX1, "changePin", "(IZ)I"⟩
abbrev cX1_meetError : ByteArray := prog_3_method_6_code
def yX1_meetError : MethodName := ⟨RX1, "meetError", "(I)I"⟩
abbrev cX1_meetHardError : ByteArray := prog_3_method_7_code
def yX1_meetHardError : MethodName := ⟨RX1, "meetHardError", "(I)I"⟩
abbrev cX1_startAnew : ByteArray := prog_3_method_8_code
def yX1_startAnew : MethodName := ⟨RX1, "startAnew", "()I"⟩
abbrev cX1_letPass : ByteArray := prog_3_method_9_code
def yX1_letPass : MethodName := ⟨RX1, "letPass", "(I)I"⟩
abbrev cX1_changeSetting : ByteArray := prog_3_method_10_code
def yX1_changeSetting : MethodName := ⟨RX1, "changeSetting", "(II)I"⟩
abbrev cX1_cellToGive : ByteArray := prog_3_method_11_code
def yX1_cellToGive : MethodName := ⟨RX1, "cellToGive", "()I"⟩
abbrev cX1_give : ByteArray := prog_3_method_12_code
def yX1_give : MethodName := ⟨RX1, "give", "(II)V"⟩
abbrev cX1_release : ByteArray := prog_3_method_13_code
def yX1_release : MethodName := ⟨RX1, "release", "(I)V"⟩
abbrev cX1_loseWhatLiesIn : ByteArray := prog_3_method_14_code
def yX1_loseWhatLiesIn : MethodName := ⟨RX1, "loseWhatLiesIn", "(I)I"⟩
abbrev cX1_retireWhatCan : ByteArray := prog_3_method_15_code
def yX1_retireWhatCan : MethodName := ⟨RX1, "retireWhatCan", "()I"⟩
abbrev cX1_canRetire : ByteArray := prog_3_method_16_code
def yX1_canRetire : MethodName := ⟨RX1, "canRetire", "(I)Z"⟩
abbrev cX1_moveAwayFrom : ByteArray := prog_3_method_17_code
def yX1_moveAwayFrom : MethodName := ⟨RX1, "moveAwayFrom", "(I)V"⟩
abbrev cX1_retire : ByteArray := prog_3_method_18_code
def yX1_retire : MethodName := ⟨RX1, "retire", "(I)V"⟩
abbrev cX1_isForgettingDay : ByteArray := prog_3_method_19_code
def yX1_isForgettingDay : MethodName := ⟨RX1, "isForgettingDay", "()Z"⟩
abbrev cX1_forgetErrors : ByteArray := prog_3_method_20_code
def yX1_forgetErrors : MethodName := ⟨RX1, "forgetErrors", "()V"⟩
abbrev cX1_tellPage : ByteArray := prog_3_method_21_code
def yX1_tellPage : MethodName := ⟨RX1, "tellPage", "(II)I"⟩
abbrev cX1_tellProgram : ByteArray := prog_3_method_22_code
def yX1_tellProgram : MethodName := ⟨RX1, "tellProgram", "(II)I"⟩
abbrev cX1_tellCell : ByteArray := prog_3_method_23_code
def yX1_tellCell : MethodName := ⟨RX1, "tellCell", "(II)I"⟩
abbrev cX1_tellCount : ByteArray := prog_3_method_24_code
def yX1_tellCount : MethodName := ⟨RX1, "tellCount", "(I)I"⟩
abbrev cX1_listedAt : ByteArray := prog_3_method_25_code
def yX1_listedAt : MethodName := ⟨RX1, "listedAt", "(I)I"⟩
abbrev cX1_whyNotRetired : ByteArray := prog_3_method_26_code
def yX1_whyNotRetired : MethodName := ⟨RX1, "whyNotRetired", "(I)I"⟩
abbrev cX1_errorsUntilRetired : ByteArray := prog_3_method_27_code
def yX1_errorsUntilRetired : MethodName := ⟨RX1, "errorsUntilRetired", "(I)I"⟩
abbrev cX1_cellWithMostErrors : ByteArray := prog_3_method_28_code
def yX1_cellWithMostErrors : MethodName := ⟨RX1, "cellWithMostErrors", "()I"⟩
abbrev cX1_freeBehindStart : ByteArray := prog_3_method_29_code
def yX1_freeBehindStart : MethodName := ⟨RX1, "freeBehindStart", "()I"⟩
abbrev cX1_isPinned : ByteArray := prog_3_method_30_code
def yX1_isPinned : MethodName := ⟨RX1, "isPinned", "(I)Z"⟩
abbrev cX1_hasCell : ByteArray := prog_3_method_31_code
def yX1_hasCell : MethodName := ⟨RX1, "hasCell", "(I)Z"⟩
abbrev cX1_isBad : ByteArray := prog_3_method_32_code
def yX1_isBad : MethodName := ⟨RX1, "isBad", "(I)Z"⟩
abbrev cX1_isGivable : ByteArray := prog_3_method_33_code
def yX1_isGivable : MethodName := ⟨RX1, "isGivable", "(I)Z"⟩
abbrev cX1_waits : ByteArray := prog_3_method_34_code
def yX1_waits : MethodName := ⟨RX1, "waits", "(I)Z"⟩
abbrev cX1_howCellIs : ByteArray := prog_3_method_35_code
def yX1_howCellIs : MethodName := ⟨RX1, "howCellIs", "(I)I"⟩
abbrev cX1_placeOnList : ByteArray := prog_3_method_36_code
def yX1_placeOnList : MethodName := ⟨RX1, "placeOnList", "(I)I"⟩
abbrev cX1_retiredCells : ByteArray := prog_3_method_37_code
def yX1_retiredCells : MethodName := ⟨RX1, "retiredCells", "()I"⟩
abbrev cX1_freeCells : ByteArray := prog_3_method_38_code
def yX1_freeCells : MethodName := ⟨RX1, "freeCells", "()I"⟩
abbrev cX1_usedCells : ByteArray := prog_3_method_39_code
def yX1_usedCells : MethodName := ⟨RX1, "usedCells", "()I"⟩
abbrev cX1_cellsThatAre : ByteArray := prog_3_method_40_code
def yX1_cellsThatAre : MethodName := ⟨RX1, "cellsThatAre", "(I)I"⟩
abbrev cX1_waitingCells : ByteArray := prog_3_method_41_code
def yX1_waitingCells : MethodName := ⟨RX1, "waitingCells", "()I"⟩
abbrev cX1_pinnedPages : ByteArray := prog_3_method_42_code
def yX1_pinnedPages : MethodName := ⟨RX1, "pinnedPages", "()I"⟩
abbrev cX1_pinnedPagesOf : ByteArray := prog_3_method_43_code
def yX1_pinnedPagesOf : MethodName := ⟨RX1, "pinnedPagesOf", "(I)I"⟩
abbrev cX1_pagesWithCells : ByteArray := prog_3_method_44_code
def yX1_pagesWithCells : MethodName := ⟨RX1, "pagesWithCells", "(I)I"⟩
abbrev cX1_sum : ByteArray := prog_3_method_45_code
def yX1_sum : MethodName := ⟨RX1, "sum", "([I)I"⟩
def RX2 : String := "RetiredCells$Plan"
def TX2 : u_T := fun k => match k with
  | 0 => ("RetiredCells$Plan", "text", "LRetiredCells$Text;", true)
  | 1 => ("RetiredCells$Plan", "kinds", "[C", true)
  | 2 => ("RetiredCells$Plan", "pages", "[I", true)
  | 3 => ("RetiredCells$Plan", "numbers", "[I", true)
  | 4 => ("RetiredCells$Plan", "size", "I", false)
  | _ => ("RetiredCells$Plan", "position", "I", false)
def tyX2 : Nat → FieldType := fun k => match k with
  | 0 => .object "RetiredCells$Text"
  | 1 => .array .char
  | 2 => .array .int
  | 3 => .array .int
  | 4 => .int
  | _ => .int
abbrev wsX20 : List Cond := u_ws RX2 TX2 6
theorem nmX2 : ∀ a, a < 6 → ∀ b, b < 6 → a ≠ b → (TX2 a).2.1 ≠ (TX2 b).2.1 := by decide +kernel
theorem tyX2_ok : ∀ k, k < 6 → parseFieldDescriptor (TX2 k).2.2.1 = some (tyX2 k) := by decide +kernel
abbrev cX2_init : ByteArray := prog_4_method_1_code
def yX2_init : MethodName := ⟨RX2, "<init>", "(LRetiredCells$Text;)V"⟩
abbrev cX2_size : ByteArray := prog_4_method_2_code
def yX2_size : MethodName := ⟨RX2, "size", "()I"⟩
abbrev cX2_kindOf : ByteArray := prog_4_method_3_code
def yX2_kindOf : MethodName := ⟨RX2, "kindOf", "(I)C"⟩
abbrev cX2_pageOf : ByteArray := prog_4_method_4_code
def yX2_pageOf : MethodName := ⟨RX2, "pageOf", "(I)I"⟩
abbrev cX2_numberOf : ByteArray := prog_4_method_5_code
def yX2_numberOf : MethodName := ⟨RX2, "numberOf", "(I)I"⟩
abbrev cX2_readAll : ByteArray := prog_4_method_6_code
def yX2_readAll : MethodName := ⟨RX2, "readAll", "()I"⟩
abbrev cX2_readThing : ByteArray := prog_4_method_7_code
def yX2_readThing : MethodName := ⟨RX2, "readThing", "(I)Z"⟩
abbrev cX2_readKind : ByteArray := prog_4_method_8_code
def yX2_readKind : MethodName := ⟨RX2, "readKind", "(IC)Z"⟩
abbrev cX2_readSign : ByteArray := prog_4_method_9_code
def yX2_readSign : MethodName := ⟨RX2, "readSign", "(C)Z"⟩
abbrev cX2_readPage : ByteArray := prog_4_method_10_code
def yX2_readPage : MethodName := ⟨RX2, "readPage", "(I)Z"⟩
abbrev cX2_readNumber : ByteArray := prog_4_method_11_code
def yX2_readNumber : MethodName := ⟨RX2, "readNumber", "(III)Z"⟩
abbrev cX2_digitAt : ByteArray := prog_4_method_12_code
def yX2_digitAt : MethodName := ⟨RX2, "digitAt", "(I)I"⟩
def RX3 : String := "RetiredCells$Text"
def TX3 : u_T := fun k => match k with
  | 0 => ("RetiredCells$Text", "characters", "[C", true)
  | _ => ("RetiredCells$Text", "length", "I", false)
def tyX3 : Nat → FieldType := fun k => match k with
  | 0 => .array .char
  | _ => .int
abbrev wsX30 : List Cond := u_ws RX3 TX3 2
theorem nmX3 : ∀ a, a < 2 → ∀ b, b < 2 → a ≠ b → (TX3 a).2.1 ≠ (TX3 b).2.1 := by decide +kernel
theorem tyX3_ok : ∀ k, k < 2 → parseFieldDescriptor (TX3 k).2.2.1 = some (tyX3 k) := by decide +kernel
abbrev cX3_init : ByteArray := prog_5_method_1_code
def yX3_init : MethodName := ⟨RX3, "<init>", "()V"⟩
abbrev cX3_length : ByteArray := prog_5_method_2_code
def yX3_length : MethodName := ⟨RX3, "length", "()I"⟩
abbrev cX3_append : ByteArray := prog_5_method_3_code
def yX3_append : MethodName := ⟨RX3, "append", "(C)I"⟩
abbrev cX3_empty : ByteArray := prog_5_method_4_code
def yX3_empty : MethodName := ⟨RX3, "empty", "()I"⟩
abbrev cX3_at : ByteArray := prog_5_method_5_code
def yX3_at : MethodName := ⟨RX3, "at", "(I)I"⟩
def RX4 : String := "RetiredCells"
def TX4 : u_T := fun k => match k with
  | 0 => ("RetiredCells", "memory", "LRetiredCells$Memory;", true)
  | 1 => ("RetiredCells", "before", "LRetiredCells$Memory;", true)
  | 2 => ("RetiredCells", "snapshot", "LRetiredCells$Memory;", true)
  | 3 => ("RetiredCells", "hasSnapshot", "Z", false)
  | 4 => ("RetiredCells", "history", "LRetiredCells$History;", true)
  | 5 => ("RetiredCells", "text", "LRetiredCells$Text;", true)
  | 6 => ("RetiredCells", "plan", "LRetiredCells$Plan;", true)
  | 7 => ("RetiredCells", "stoppedThing", "I", false)
  | _ => ("RetiredCells", "stoppedError", "I", false)
def tyX4 : Nat → FieldType := fun k => match k with
  | 0 => .object "RetiredCells$Memory"
  | 1 => .object "RetiredCells$Memory"
  | 2 => .object "RetiredCells$Memory"
  | 3 => .boolean
  | 4 => .object "RetiredCells$History"
  | 5 => .object "RetiredCells$Text"
  | 6 => .object "RetiredCells$Plan"
  | 7 => .int
  | _ => .int
abbrev wsX40 : List Cond := u_ws RX4 TX4 9
theorem nmX4 : ∀ a, a < 9 → ∀ b, b < 9 → a ≠ b → (TX4 a).2.1 ≠ (TX4 b).2.1 := by decide +kernel
theorem tyX4_ok : ∀ k, k < 9 → parseFieldDescriptor (TX4 k).2.2.1 = some (tyX4 k) := by decide +kernel
abbrev cX4_init : ByteArray := prog_1_method_1_code
def yX4_init : MethodName := ⟨RX4, "<init>", "()V"⟩
abbrev cX4_write : ByteArray := prog_1_method_2_code
def yX4_write : MethodName := ⟨RX4, "write", "(III)I"⟩
abbrev cX4_giveBack : ByteArray := prog_1_method_3_code
def yX4_giveBack : MethodName := ⟨RX4, "giveBack", "(II)I"⟩
abbrev cX4_pin : ByteArray := prog_1_method_4_code
def yX4_pin : MethodName := ⟨RX4, "pin", "(IIZ)I"⟩
abbrev cX4_error : ByteArray := prog_1_method_5_code
def yX4_error : MethodName := ⟨RX4, "error", "(I)I"⟩
abbrev cX4_hardError : ByteArray := prog_1_method_6_code
def yX4_hardError : MethodName := ⟨RX4, "hardError", "(I)I"⟩
abbrev cX4_start : ByteArray := prog_1_method_7_code
def yX4_start : MethodName := ⟨RX4, "start", "()I"⟩
abbrev cX4_pass : ByteArray := prog_1_method_8_code
def yX4_pass : MethodName := ⟨RX4, "pass", "(I)I"⟩
abbrev cX4_set : ByteArray := prog_1_method_9_code
def yX4_set : MethodName := ⟨RX4, "set", "(II)I"⟩
abbrev cX4_type : ByteArray := prog_1_method_10_code
def yX4_type : MethodName := ⟨RX4, "type", "(C)I"⟩
abbrev cX4_clearText : ByteArray := prog_1_method_11_code
def yX4_clearText : MethodName := ⟨RX4, "clearText", "()I"⟩
abbrev cX4_perform : ByteArray := prog_1_method_12_code
def yX4_perform : MethodName := ⟨RX4, "perform", "()I"⟩
abbrev cX4_stopped : ByteArray := prog_1_method_13_code
def yX4_stopped : MethodName := ⟨RX4, "stopped", "(I)I"⟩
abbrev cX4_undo : ByteArray := prog_1_method_14_code
def yX4_undo : MethodName := ⟨RX4, "undo", "()I"⟩
abbrev cX4_keep : ByteArray := prog_1_method_15_code
def yX4_keep : MethodName := ⟨RX4, "keep", "()I"⟩
abbrev cX4_restore : ByteArray := prog_1_method_16_code
def yX4_restore : MethodName := ⟨RX4, "restore", "()I"⟩
abbrev cX4_page : ByteArray := prog_1_method_17_code
def yX4_page : MethodName := ⟨RX4, "page", "(III)I"⟩
abbrev cX4_program : ByteArray := prog_1_method_18_code
def yX4_program : MethodName := ⟨RX4, "program", "(II)I"⟩
abbrev cX4_cell : ByteArray := prog_1_method_19_code
def yX4_cell : MethodName := ⟨RX4, "cell", "(II)I"⟩
abbrev cX4_list : ByteArray := prog_1_method_20_code
def yX4_list : MethodName := ⟨RX4, "list", "(I)I"⟩
abbrev cX4_next : ByteArray := prog_1_method_21_code
def yX4_next : MethodName := ⟨RX4, "next", "()I"⟩
abbrev cX4_reason : ByteArray := prog_1_method_22_code
def yX4_reason : MethodName := ⟨RX4, "reason", "(I)I"⟩
abbrev cX4_errorsLeft : ByteArray := prog_1_method_23_code
def yX4_errorsLeft : MethodName := ⟨RX4, "errorsLeft", "(I)I"⟩
abbrev cX4_worst : ByteArray := prog_1_method_24_code
def yX4_worst : MethodName := ⟨RX4, "worst", "()I"⟩
abbrev cX4_ifStarted : ByteArray := prog_1_method_25_code
def yX4_ifStarted : MethodName := ⟨RX4, "ifStarted", "()I"⟩
abbrev cX4_count : ByteArray := prog_1_method_26_code
def yX4_count : MethodName := ⟨RX4, "count", "(I)I"⟩
abbrev cX4_recorded : ByteArray := prog_1_method_27_code
def yX4_recorded : MethodName := ⟨RX4, "recorded", "(I)I"⟩
abbrev cX4_doThing : ByteArray := prog_1_method_28_code
def yX4_doThing : MethodName := ⟨RX4, "doThing", "(I)I"⟩
abbrev cX4_isWithin : ByteArray := prog_1_method_29_code
def yX4_isWithin : MethodName := ⟨RX4, "isWithin", "(III)Z"⟩
abbrev cX4_isCell : ByteArray := prog_1_method_30_code
def yX4_isCell : MethodName := ⟨RX4, "isCell", "(I)Z"⟩
abbrev cX4_isPage : ByteArray := prog_1_method_31_code
def yX4_isPage : MethodName := ⟨RX4, "isPage", "(II)Z"⟩
abbrev cX4_pageIndex : ByteArray := prog_1_method_32_code
def yX4_pageIndex : MethodName := ⟨RX4, "pageIndex", "(II)I"⟩
abbrev cX4_lowestSetting : ByteArray := prog_1_method_33_code
def yX4_lowestSetting : MethodName := ⟨RX4, "lowestSetting", "(I)I"⟩
abbrev cX4_highestSetting : ByteArray := prog_1_method_34_code
def yX4_highestSetting : MethodName := ⟨RX4, "highestSetting", "(I)I"⟩
def RX5 : String := "RetiredCellsModel"
def TX5 : u_T := fun k => match k with
  | 0 => ("RetiredCellsModel", "z", "[I", true)
  | 1 => ("RetiredCellsModel", "spare", "[I", true)
  | 2 => ("RetiredCellsModel", "past", "[I", true)
  | 3 => ("RetiredCellsModel", "states", "I", false)
  | 4 => ("RetiredCellsModel", "kept", "[I", true)
  | 5 => ("RetiredCellsModel", "isKept", "Z", false)
  | 6 => ("RetiredCellsModel", "text", "[I", true)
  | 7 => ("RetiredCellsModel", "length", "I", false)
  | 8 => ("RetiredCellsModel", "stopNumber", "I", false)
  | 9 => ("RetiredCellsModel", "stopError", "I", false)
  | 10 => ("RetiredCellsModel", "told", "[I", true)
  | 11 => ("RetiredCellsModel", "toldMany", "I", false)
  | _ => ("RetiredCellsModel", "spot", "I", false)
def tyX5 : Nat → FieldType := fun k => match k with
  | 0 => .array .int
  | 1 => .array .int
  | 2 => .array .int
  | 3 => .int
  | 4 => .array .int
  | 5 => .boolean
  | 6 => .array .int
  | 7 => .int
  | 8 => .int
  | 9 => .int
  | 10 => .array .int
  | 11 => .int
  | _ => .int
abbrev wsX50 : List Cond := u_ws RX5 TX5 13
theorem nmX5 : ∀ a, a < 13 → ∀ b, b < 13 → a ≠ b → (TX5 a).2.1 ≠ (TX5 b).2.1 := by decide +kernel
theorem tyX5_ok : ∀ k, k < 13 → parseFieldDescriptor (TX5 k).2.2.1 = some (tyX5 k) := by decide +kernel
abbrev cX5_init : ByteArray := prog_7_method_1_code
def yX5_init : MethodName := ⟨RX5, "<init>", "()V"⟩
abbrev cX5_in : ByteArray := prog_7_method_2_code
def yX5_in : MethodName := ⟨RX5, "in", "(III)Z"⟩
abbrev cX5_of : ByteArray := prog_7_method_3_code
def yX5_of : MethodName := ⟨RX5, "of", "(II)I"⟩
abbrev cX5_lay : ByteArray := prog_7_method_4_code
def yX5_lay : MethodName := ⟨RX5, "lay", "(III)V"⟩
abbrev cX5_empty : ByteArray := prog_7_method_5_code
def yX5_empty : MethodName := ⟨RX5, "empty", "(I)V"⟩
abbrev cX5_isCell : ByteArray := prog_7_method_6_code
def yX5_isCell : MethodName := ⟨RX5, "isCell", "(I)Z"⟩
abbrev cX5_isPage : ByteArray := prog_7_method_7_code
def yX5_isPage : MethodName := ⟨RX5, "isPage", "(II)Z"⟩
abbrev cX5_pageIn : ByteArray := prog_7_method_8_code
def yX5_pageIn : MethodName := ⟨RX5, "pageIn", "(I)I"⟩
abbrev cX5_cells : ByteArray := prog_7_method_9_code
def yX5_cells : MethodName := ⟨RX5, "cells", "(I)I"⟩
abbrev cX5_copyState : ByteArray := prog_7_method_10_code
def yX5_copyState : MethodName := ⟨RX5, "copyState", "([II[II)V"⟩
abbrev cX5_recordRow : ByteArray := prog_7_method_11_code
def yX5_recordRow : MethodName := ⟨RX5, "recordRow", "([I)V"⟩
abbrev cX5_record : ByteArray := prog_7_method_12_code
def yX5_record : MethodName := ⟨RX5, "record", "()V"⟩
abbrev cX5_undo : ByteArray := prog_7_method_13_code
def yX5_undo : MethodName := ⟨RX5, "undo", "()I"⟩
abbrev cX5_keep : ByteArray := prog_7_method_14_code
def yX5_keep : MethodName := ⟨RX5, "keep", "()I"⟩
abbrev cX5_restore : ByteArray := prog_7_method_15_code
def yX5_restore : MethodName := ⟨RX5, "restore", "()I"⟩
abbrev cX5_isBad : ByteArray := prog_7_method_16_code
def yX5_isBad : MethodName := ⟨RX5, "isBad", "(I)Z"⟩
abbrev cX5_given : ByteArray := prog_7_method_17_code
def yX5_given : MethodName := ⟨RX5, "given", "(ZI)I"⟩
abbrev cX5_give : ByteArray := prog_7_method_18_code
def yX5_give : MethodName := ⟨RX5, "give", "(II)V"⟩
abbrev cX5_retire : ByteArray := prog_7_method_19_code
def yX5_retire : MethodName := ⟨RX5, "retire", "(I)V"⟩
abbrev cX5_look : ByteArray := prog_7_method_20_code
def yX5_look : MethodName := ⟨RX5, "look", "()V"⟩
abbrev cX5_whyNotWrite : ByteArray := prog_7_method_21_code
def yX5_whyNotWrite : MethodName := ⟨RX5, "whyNotWrite", "(I)I"⟩
abbrev cX5_writeNow : ByteArray := prog_7_method_22_code
def yX5_writeNow : MethodName := ⟨RX5, "writeNow", "(II)I"⟩
abbrev cX5_write : ByteArray := prog_7_method_23_code
def yX5_write : MethodName := ⟨RX5, "write", "(III)I"⟩
abbrev cX5_giveBackNow : ByteArray := prog_7_method_24_code
def yX5_giveBackNow : MethodName := ⟨RX5, "giveBackNow", "(I)V"⟩
abbrev cX5_giveBack : ByteArray := prog_7_method_25_code
def yX5_giveBack : MethodName := ⟨RX5, "giveBack", "(II)I"⟩
abbrev cX5_pinned : ByteArray := prog_7_method_26_code
def yX5_pinned : MethodName := ⟨RX5, "pinned", "(II)I"⟩
abbrev cX5_pinNow : ByteArray := prog_7_method_27_code
def yX5_pinNow : MethodName := ⟨RX5, "pinNow", "(II)V"⟩
abbrev cX5_pin : ByteArray := prog_7_method_28_code
def yX5_pin : MethodName := ⟨RX5, "pin", "(IIZ)I"⟩
abbrev cX5_whyNotError : ByteArray := prog_7_method_29_code
def yX5_whyNotError : MethodName := ⟨RX5, "whyNotError", "(I)I"⟩
abbrev cX5_errorNow : ByteArray := prog_7_method_30_code
def yX5_errorNow : MethodName := ⟨RX5, "errorNow", "(I)I"⟩
abbrev cX5_error : ByteArray := prog_7_method_31_code
def yX5_error : MethodName := ⟨RX5, "error", "(I)I"⟩
abbrev cX5_hardNow : ByteArray := prog_7_method_32_code
def yX5_hardNow : MethodName := ⟨RX5, "hardNow", "(I)I"⟩
abbrev cX5_hardError : ByteArray := prog_7_method_33_code
def yX5_hardError : MethodName := ⟨RX5, "hardError", "(I)I"⟩
abbrev cX5_startNow : ByteArray := prog_7_method_34_code
def yX5_startNow : MethodName := ⟨RX5, "startNow", "()V"⟩
abbrev cX5_start : ByteArray := prog_7_method_35_code
def yX5_start : MethodName := ⟨RX5, "start", "()I"⟩
abbrev cX5_waiting : ByteArray := prog_7_method_36_code
def yX5_waiting : MethodName := ⟨RX5, "waiting", "()I"⟩
abbrev cX5_whyNotPass : ByteArray := prog_7_method_37_code
def yX5_whyNotPass : MethodName := ⟨RX5, "whyNotPass", "(I)I"⟩
abbrev cX5_passNow : ByteArray := prog_7_method_38_code
def yX5_passNow : MethodName := ⟨RX5, "passNow", "(I)I"⟩
abbrev cX5_pass : ByteArray := prog_7_method_39_code
def yX5_pass : MethodName := ⟨RX5, "pass", "(I)I"⟩
abbrev cX5_set : ByteArray := prog_7_method_40_code
def yX5_set : MethodName := ⟨RX5, "set", "(II)I"⟩
abbrev cX5_type : ByteArray := prog_7_method_41_code
def yX5_type : MethodName := ⟨RX5, "type", "(C)I"⟩
abbrev cX5_clearText : ByteArray := prog_7_method_42_code
def yX5_clearText : MethodName := ⟨RX5, "clearText", "()I"⟩
abbrev cX5_sees : ByteArray := prog_7_method_43_code
def yX5_sees : MethodName := ⟨RX5, "sees", "(II)Z"⟩
abbrev cX5_takes : ByteArray := prog_7_method_44_code
def yX5_takes : MethodName := ⟨RX5, "takes", "(I)Z"⟩
abbrev cX5_number : ByteArray := prog_7_method_45_code
def yX5_number : MethodName := ⟨RX5, "number", "(II)I"⟩
abbrev cX5_readPage : ByteArray := prog_7_method_46_code
def yX5_readPage : MethodName := ⟨RX5, "readPage", "()I"⟩
abbrev cX5_readThing : ByteArray := prog_7_method_47_code
def yX5_readThing : MethodName := ⟨RX5, "readThing", "()Z"⟩
abbrev cX5_readText : ByteArray := prog_7_method_48_code
def yX5_readText : MethodName := ⟨RX5, "readText", "()Z"⟩
abbrev cX5_whyNot : ByteArray := prog_7_method_49_code
def yX5_whyNot : MethodName := ⟨RX5, "whyNot", "(I)I"⟩
abbrev cX5_doThing : ByteArray := prog_7_method_50_code
def yX5_doThing : MethodName := ⟨RX5, "doThing", "(I)V"⟩
abbrev cX5_perform : ByteArray := prog_7_method_51_code
def yX5_perform : MethodName := ⟨RX5, "perform", "()I"⟩
abbrev cX5_stopped : ByteArray := prog_7_method_52_code
def yX5_stopped : MethodName := ⟨RX5, "stopped", "(I)I"⟩
abbrev cX5_page : ByteArray := prog_7_method_53_code
def yX5_page : MethodName := ⟨RX5, "page", "(III)I"⟩
abbrev cX5_withCells : ByteArray := prog_7_method_54_code
def yX5_withCells : MethodName := ⟨RX5, "withCells", "(II)I"⟩
abbrev cX5_program : ByteArray := prog_7_method_55_code
def yX5_program : MethodName := ⟨RX5, "program", "(II)I"⟩
abbrev cX5_placeOnList : ByteArray := prog_7_method_56_code
def yX5_placeOnList : MethodName := ⟨RX5, "placeOnList", "(I)I"⟩
abbrev cX5_cell : ByteArray := prog_7_method_57_code
def yX5_cell : MethodName := ⟨RX5, "cell", "(II)I"⟩
abbrev cX5_list : ByteArray := prog_7_method_58_code
def yX5_list : MethodName := ⟨RX5, "list", "(I)I"⟩
abbrev cX5_next : ByteArray := prog_7_method_59_code
def yX5_next : MethodName := ⟨RX5, "next", "()I"⟩
abbrev cX5_reason : ByteArray := prog_7_method_60_code
def yX5_reason : MethodName := ⟨RX5, "reason", "(I)I"⟩
abbrev cX5_errorsLeft : ByteArray := prog_7_method_61_code
def yX5_errorsLeft : MethodName := ⟨RX5, "errorsLeft", "(I)I"⟩
abbrev cX5_worst : ByteArray := prog_7_method_62_code
def yX5_worst : MethodName := ⟨RX5, "worst", "()I"⟩
abbrev cX5_ifStarted : ByteArray := prog_7_method_63_code
def yX5_ifStarted : MethodName := ⟨RX5, "ifStarted", "()I"⟩
abbrev cX5_count : ByteArray := prog_7_method_64_code
def yX5_count : MethodName := ⟨RX5, "count", "(I)I"⟩
def RL : String := "RetiredCellsLaw"
abbrev cL_law : ByteArray := code
def yL_law : MethodName := ⟨RL, "law", "([I)Z"⟩
/-! the words: those of the tables that a contract may carry -/
def AW : List Cond := lw_tbl.filter goodWord
theorem aw_in {w : Cond} (h : w ∈ lw_tbl) (hg : goodWord w = true) : w ∈ AW := List.mem_filter.mpr ⟨h, hg⟩
theorem aw_good {w : Cond} (h : w ∈ AW) : goodWord w = true := (List.mem_filter.mp h).2
theorem aw_tbl {w : Cond} (h : w ∈ AW) : w ∈ lw_tbl := (List.mem_filter.mp h).1
theorem aw_t {w : Cond} (i : Nat) (h : tables_1[i]? = some w) (hg : goodWord w = true) : w ∈ AW := aw_in (List.mem_append_right _ (List.mem_of_getElem? h)) hg
theorem aw_t0 {w : Cond} (i : Nat) (h : tables_1_1[i]? = some w) (hg : goodWord w = true) : w ∈ AW := aw_in (List.mem_append_right _ (List.mem_append_left _ (List.mem_of_getElem? h))) hg
theorem aw_t1 {w : Cond} (i : Nat) (h : tables_1_2[i]? = some w) (hg : goodWord w = true) : w ∈ AW := aw_in (List.mem_append_right _ (List.mem_append_right _ (List.mem_append_left _ (List.mem_of_getElem? h)))) hg
theorem aw_t2 {w : Cond} (i : Nat) (h : tables_1_3[i]? = some w) (hg : goodWord w = true) : w ∈ AW := aw_in (List.mem_append_right _ (List.mem_append_right _ (List.mem_append_right _ (List.mem_append_left _ (List.mem_of_getElem? h))))) hg
theorem aw_t3 {w : Cond} (i : Nat) (h : tables_1_4[i]? = some w) (hg : goodWord w = true) : w ∈ AW := aw_in (List.mem_append_right _ (List.mem_append_right _ (List.mem_append_right _ (List.mem_append_right _ (List.mem_of_getElem? h))))) hg
theorem aw_p {q : MethodName × Nat} (i : Nat) (h : lw_privs[i]? = some q) : Cond.selects q.1.cls q.1 q.1 ∈ AW := aw_in (List.mem_append_left _ (List.mem_map.mpr ⟨q, List.mem_of_getElem? h, rfl⟩)) rfl
theorem ini_RL : Cond.initialized RL ∈ AW := aw_t0 0 rfl rfl
theorem ini_RX4 : Cond.initialized RX4 ∈ AW := aw_t0 1 rfl rfl
theorem ini_RX1 : Cond.initialized RX1 ∈ AW := aw_t0 2 rfl rfl
theorem ini_RX0 : Cond.initialized RX0 ∈ AW := aw_t0 3 rfl rfl
theorem ini_RX3 : Cond.initialized RX3 ∈ AW := aw_t0 4 rfl rfl
theorem ini_RX2 : Cond.initialized RX2 ∈ AW := aw_t0 5 rfl rfl
theorem ini_RX5 : Cond.initialized RX5 ∈ AW := aw_t0 6 rfl rfl
theorem ini_System : Cond.initialized "java/lang/System" ∈ AW := aw_t0 7 rfl rfl
theorem cl_RL_7 : Cond.classLink RL 7 RX4 ∈ AW := aw_t0 8 rfl rfl
theorem ins_RX4 : Cond.instantiable RX4 9 ∈ AW := aw_t0 9 rfl rfl
theorem ml_RL_9 : Cond.methodLink RL 9 yX4_init ∈ AW := aw_t0 10 rfl rfl
theorem im_X4_init : Cond.instanceMethod yX4_init ∈ AW := aw_t0 11 rfl rfl
theorem co_X4_init : Cond.code yX4_init cX4_init 1 (none) ∈ AW := aw_t0 12 rfl rfl
theorem ml_RX4_3 : Cond.methodLink RX4 3 objectInit ∈ AW := aw_t0 13 rfl rfl
theorem im_objectInit : Cond.instanceMethod objectInit ∈ AW := aw_t0 14 rfl rfl
theorem co_objectInit : Cond.code objectInit ⟨#[0xb1]⟩ 1 none ∈ AW := aw_t0 15 rfl rfl
theorem cl_RX4_9 : Cond.classLink RX4 9 RX1 ∈ AW := aw_t0 16 rfl rfl
theorem ins_RX1 : Cond.instantiable RX1 17 ∈ AW := aw_t0 17 rfl rfl
theorem ml_RX4_11 : Cond.methodLink RX4 11 yX1_init ∈ AW := aw_t0 18 rfl rfl
theorem im_X1_init : Cond.instanceMethod yX1_init ∈ AW := aw_t0 19 rfl rfl
theorem co_X1_init : Cond.code yX1_init cX1_init 2 (none) ∈ AW := aw_t0 20 rfl rfl
theorem ml_RX1_3 : Cond.methodLink RX1 3 objectInit ∈ AW := aw_t0 21 rfl rfl
theorem fl_RX1_9 : Cond.fieldLink RX1 9 RX1 "retired" "[Z" ∈ AW := aw_t0 22 rfl rfl
theorem fl_RX1_15 : Cond.fieldLink RX1 15 RX1 "errors" "[I" ∈ AW := aw_t0 23 rfl rfl
theorem fl_RX1_19 : Cond.fieldLink RX1 19 RX1 "owner" "[I" ∈ AW := aw_t0 24 rfl rfl
theorem fl_RX1_22 : Cond.fieldLink RX1 22 RX1 "cellOf" "[I" ∈ AW := aw_t0 25 rfl rfl
theorem fl_RX1_25 : Cond.fieldLink RX1 25 RX1 "valueOf" "[I" ∈ AW := aw_t0 26 rfl rfl
theorem fl_RX1_28 : Cond.fieldLink RX1 28 RX1 "pinned" "[Z" ∈ AW := aw_t0 27 rfl rfl
theorem fl_RX1_31 : Cond.fieldLink RX1 31 RX1 "movesOf" "[I" ∈ AW := aw_t0 28 rfl rfl
theorem fl_RX1_34 : Cond.fieldLink RX1 34 RX1 "lostBy" "[I" ∈ AW := aw_t0 29 rfl rfl
theorem fl_RX1_37 : Cond.fieldLink RX1 37 RX1 "movesBy" "[I" ∈ AW := aw_t0 30 rfl rfl
theorem fl_RX1_40 : Cond.fieldLink RX1 40 RX1 "listed" "[I" ∈ AW := aw_t0 31 rfl rfl
theorem fl_RX1_56 : Cond.fieldLink RX1 56 RX1 "listLength" "I" ∈ AW := aw_t0 32 rfl rfl
theorem fl_RX1_43 : Cond.fieldLink RX1 43 RX1 "settings" "[I" ∈ AW := aw_t0 33 rfl rfl
theorem fl_RX1_59 : Cond.fieldLink RX1 59 RX1 "day" "I" ∈ AW := aw_t0 34 rfl rfl
theorem fl_RX1_46 : Cond.fieldLink RX1 46 RX1 "lastGiven" "I" ∈ AW := aw_t0 35 rfl rfl
theorem fl_RX1_62 : Cond.fieldLink RX1 62 RX1 "errorsSoFar" "I" ∈ AW := aw_t0 36 rfl rfl
theorem fl_RX1_65 : Cond.fieldLink RX1 65 RX1 "hardErrorsSoFar" "I" ∈ AW := aw_t0 37 rfl rfl
theorem fl_RX1_68 : Cond.fieldLink RX1 68 RX1 "startsSoFar" "I" ∈ AW := aw_t0 38 rfl rfl
theorem ac_boolean : Cond.arrayClass .boolean ∈ AW := aw_t0 74 rfl rfl
theorem ac_int : Cond.arrayClass .int ∈ AW := aw_t0 75 rfl rfl
theorem cl_RX4_26 : Cond.classLink RX4 26 RX0 ∈ AW := aw_t0 76 rfl rfl
theorem ins_RX0 : Cond.instantiable RX0 3 ∈ AW := aw_t0 77 rfl rfl
theorem ml_RX4_28 : Cond.methodLink RX4 28 yX0_init ∈ AW := aw_t0 78 rfl rfl
theorem im_X0_init : Cond.instanceMethod yX0_init ∈ AW := aw_t0 79 rfl rfl
theorem co_X0_init : Cond.code yX0_init cX0_init 2 (none) ∈ AW := aw_t0 80 rfl rfl
theorem ml_RX0_3 : Cond.methodLink RX0 3 objectInit ∈ AW := aw_t0 81 rfl rfl
theorem cl_RX0_9 : Cond.classLink RX0 9 RX1 ∈ AW := aw_t0 82 rfl rfl
theorem ml_RX0_17 : Cond.methodLink RX0 17 yX1_init ∈ AW := aw_t0 84 rfl rfl
theorem fl_RX0_11 : Cond.fieldLink RX0 11 RX0 "states" "[LRetiredCells$Memory;" ∈ AW := aw_t0 85 rfl rfl
theorem fl_RX0_18 : Cond.fieldLink RX0 18 RX0 "oldest" "I" ∈ AW := aw_t0 86 rfl rfl
theorem fl_RX0_22 : Cond.fieldLink RX0 22 RX0 "size" "I" ∈ AW := aw_t0 87 rfl rfl
theorem cl_RX4_33 : Cond.classLink RX4 33 RX3 ∈ AW := aw_t0 95 rfl rfl
theorem ins_RX3 : Cond.instantiable RX3 2 ∈ AW := aw_t0 96 rfl rfl
theorem ml_RX4_35 : Cond.methodLink RX4 35 yX3_init ∈ AW := aw_t0 97 rfl rfl
theorem im_X3_init : Cond.instanceMethod yX3_init ∈ AW := aw_t0 98 rfl rfl
theorem co_X3_init : Cond.code yX3_init cX3_init 1 (none) ∈ AW := aw_t0 99 rfl rfl
theorem ml_RX3_3 : Cond.methodLink RX3 3 objectInit ∈ AW := aw_t0 100 rfl rfl
theorem fl_RX3_9 : Cond.fieldLink RX3 9 RX3 "characters" "[C" ∈ AW := aw_t0 101 rfl rfl
theorem fl_RX3_15 : Cond.fieldLink RX3 15 RX3 "length" "I" ∈ AW := aw_t0 102 rfl rfl
theorem ac_char : Cond.arrayClass .char ∈ AW := aw_t0 108 rfl rfl
theorem cl_RX4_40 : Cond.classLink RX4 40 RX2 ∈ AW := aw_t0 109 rfl rfl
theorem ins_RX2 : Cond.instantiable RX2 6 ∈ AW := aw_t0 110 rfl rfl
theorem ml_RX4_42 : Cond.methodLink RX4 42 yX2_init ∈ AW := aw_t0 111 rfl rfl
theorem im_X2_init : Cond.instanceMethod yX2_init ∈ AW := aw_t0 112 rfl rfl
theorem co_X2_init : Cond.code yX2_init cX2_init 2 (none) ∈ AW := aw_t0 113 rfl rfl
theorem ml_RX2_3 : Cond.methodLink RX2 3 objectInit ∈ AW := aw_t0 114 rfl rfl
theorem fl_RX2_9 : Cond.fieldLink RX2 9 RX2 "text" "LRetiredCells$Text;" ∈ AW := aw_t0 115 rfl rfl
theorem fl_RX2_15 : Cond.fieldLink RX2 15 RX2 "kinds" "[C" ∈ AW := aw_t0 116 rfl rfl
theorem fl_RX2_19 : Cond.fieldLink RX2 19 RX2 "pages" "[I" ∈ AW := aw_t0 117 rfl rfl
theorem fl_RX2_23 : Cond.fieldLink RX2 23 RX2 "numbers" "[I" ∈ AW := aw_t0 118 rfl rfl
theorem fl_RX2_26 : Cond.fieldLink RX2 26 RX2 "size" "I" ∈ AW := aw_t0 119 rfl rfl
theorem fl_RX2_30 : Cond.fieldLink RX2 30 RX2 "position" "I" ∈ AW := aw_t0 120 rfl rfl
theorem fl_RX4_12 : Cond.fieldLink RX4 12 RX4 "memory" "LRetiredCells$Memory;" ∈ AW := aw_t0 134 rfl rfl
theorem fl_RX4_16 : Cond.fieldLink RX4 16 RX4 "before" "LRetiredCells$Memory;" ∈ AW := aw_t0 135 rfl rfl
theorem fl_RX4_19 : Cond.fieldLink RX4 19 RX4 "snapshot" "LRetiredCells$Memory;" ∈ AW := aw_t0 136 rfl rfl
theorem fl_RX4_22 : Cond.fieldLink RX4 22 RX4 "hasSnapshot" "Z" ∈ AW := aw_t0 137 rfl rfl
theorem fl_RX4_29 : Cond.fieldLink RX4 29 RX4 "history" "LRetiredCells$History;" ∈ AW := aw_t0 138 rfl rfl
theorem fl_RX4_36 : Cond.fieldLink RX4 36 RX4 "text" "LRetiredCells$Text;" ∈ AW := aw_t0 139 rfl rfl
theorem fl_RX4_45 : Cond.fieldLink RX4 45 RX4 "plan" "LRetiredCells$Plan;" ∈ AW := aw_t0 140 rfl rfl
theorem fl_RX4_49 : Cond.fieldLink RX4 49 RX4 "stoppedThing" "I" ∈ AW := aw_t0 141 rfl rfl
theorem fl_RX4_53 : Cond.fieldLink RX4 53 RX4 "stoppedError" "I" ∈ AW := aw_t0 142 rfl rfl
theorem ml_RL_13 : Cond.methodLink RL 13 yX4_write ∈ AW := aw_t0 162 rfl rfl
theorem im_X4_write : Cond.instanceMethod yX4_write ∈ AW := aw_t0 163 rfl rfl
theorem se_X4_write : Cond.selects RX4 yX4_write yX4_write ∈ AW := aw_t0 164 rfl rfl
theorem co_X4_write : Cond.code yX4_write cX4_write 4 (some .int) ∈ AW := aw_t0 165 rfl rfl
theorem ml_RX4_56 : Cond.methodLink RX4 56 yX4_isPage ∈ AW := aw_t0 166 rfl rfl
theorem st_X4_isPage : Cond.static yX4_isPage ∈ AW := aw_t0 167 rfl rfl
theorem co_X4_isPage : Cond.code yX4_isPage cX4_isPage 2 (some .boolean) ∈ AW := aw_t0 168 rfl rfl
theorem ml_RX4_60 : Cond.methodLink RX4 60 yX4_isWithin ∈ AW := aw_t0 169 rfl rfl
theorem st_X4_isWithin : Cond.static yX4_isWithin ∈ AW := aw_t0 170 rfl rfl
theorem co_X4_isWithin : Cond.code yX4_isWithin cX4_isWithin 3 (some .boolean) ∈ AW := aw_t0 171 rfl rfl
theorem ml_RX4_64 : Cond.methodLink RX4 64 yX1_copyFrom ∈ AW := aw_t0 172 rfl rfl
theorem im_X1_copyFrom : Cond.instanceMethod yX1_copyFrom ∈ AW := aw_t0 173 rfl rfl
theorem se_X1_copyFrom : Cond.selects RX1 yX1_copyFrom yX1_copyFrom ∈ AW := aw_t0 174 rfl rfl
theorem co_X1_copyFrom : Cond.code yX1_copyFrom cX1_copyFrom 2 (none) ∈ AW := aw_t0 175 rfl rfl
theorem ml_RX1_50 : Cond.methodLink RX1 50 arraycopyName ∈ AW := aw_t0 176 rfl rfl
theorem st_arraycopyName : Cond.static arraycopyName ∈ AW := aw_t0 177 rfl rfl
theorem na_arraycopyName : Cond.native arraycopyName ∈ AW := aw_t0 178 rfl rfl
theorem ml_RX4_68 : Cond.methodLink RX4 68 yX4_pageIndex ∈ AW := aw_t0 179 rfl rfl
theorem st_X4_pageIndex : Cond.static yX4_pageIndex ∈ AW := aw_t0 180 rfl rfl
theorem co_X4_pageIndex : Cond.code yX4_pageIndex cX4_pageIndex 2 (some .int) ∈ AW := aw_t0 181 rfl rfl
theorem ml_RX4_72 : Cond.methodLink RX4 72 yX1_put ∈ AW := aw_t0 182 rfl rfl
theorem im_X1_put : Cond.instanceMethod yX1_put ∈ AW := aw_t0 183 rfl rfl
theorem se_X1_put : Cond.selects RX1 yX1_put yX1_put ∈ AW := aw_t0 184 rfl rfl
theorem co_X1_put : Cond.code yX1_put cX1_put 4 (some .int) ∈ AW := aw_t0 185 rfl rfl
theorem ml_RX1_71 : Cond.methodLink RX1 71 yX1_hasCell ∈ AW := aw_t0 186 rfl rfl
theorem im_X1_hasCell : Cond.instanceMethod yX1_hasCell ∈ AW := aw_t0 188 rfl rfl
theorem co_X1_hasCell : Cond.code yX1_hasCell cX1_hasCell 2 (some .boolean) ∈ AW := aw_t0 189 rfl rfl
theorem ml_RX1_75 : Cond.methodLink RX1 75 yX1_cellToGive ∈ AW := aw_t0 190 rfl rfl
theorem im_X1_cellToGive : Cond.instanceMethod yX1_cellToGive ∈ AW := aw_t0 191 rfl rfl
theorem se_X1_cellToGive : Cond.selects RX1 yX1_cellToGive yX1_cellToGive ∈ AW := aw_t0 192 rfl rfl
theorem co_X1_cellToGive : Cond.code yX1_cellToGive cX1_cellToGive 6 (some .int) ∈ AW := aw_t0 193 rfl rfl
theorem ml_RX1_116 : Cond.methodLink RX1 116 yX1_isGivable ∈ AW := aw_t0 194 rfl rfl
theorem im_X1_isGivable : Cond.instanceMethod yX1_isGivable ∈ AW := aw_t0 196 rfl rfl
theorem co_X1_isGivable : Cond.code yX1_isGivable cX1_isGivable 2 (some .boolean) ∈ AW := aw_t0 197 rfl rfl
theorem ml_RX1_79 : Cond.methodLink RX1 79 yX1_give ∈ AW := aw_t0 198 rfl rfl
theorem im_X1_give : Cond.instanceMethod yX1_give ∈ AW := aw_t0 200 rfl rfl
theorem co_X1_give : Cond.code yX1_give cX1_give 3 (none) ∈ AW := aw_t0 201 rfl rfl
theorem ml_RX1_83 : Cond.methodLink RX1 83 yX1_retireWhatCan ∈ AW := aw_t0 202 rfl rfl
theorem im_X1_retireWhatCan : Cond.instanceMethod yX1_retireWhatCan ∈ AW := aw_t0 203 rfl rfl
theorem se_X1_retireWhatCan : Cond.selects RX1 yX1_retireWhatCan yX1_retireWhatCan ∈ AW := aw_t0 204 rfl rfl
theorem co_X1_retireWhatCan : Cond.code yX1_retireWhatCan cX1_retireWhatCan 3 (some .int) ∈ AW := aw_t0 205 rfl rfl
theorem ml_RX1_119 : Cond.methodLink RX1 119 yX1_waits ∈ AW := aw_t0 206 rfl rfl
theorem im_X1_waits : Cond.instanceMethod yX1_waits ∈ AW := aw_t0 208 rfl rfl
theorem co_X1_waits : Cond.code yX1_waits cX1_waits 2 (some .boolean) ∈ AW := aw_t0 209 rfl rfl
theorem ml_RX1_147 : Cond.methodLink RX1 147 yX1_isBad ∈ AW := aw_t0 210 rfl rfl
theorem im_X1_isBad : Cond.instanceMethod yX1_isBad ∈ AW := aw_t0 212 rfl rfl
theorem co_X1_isBad : Cond.code yX1_isBad cX1_isBad 2 (some .boolean) ∈ AW := aw_t0 213 rfl rfl
theorem ml_RX1_122 : Cond.methodLink RX1 122 yX1_canRetire ∈ AW := aw_t0 214 rfl rfl
theorem im_X1_canRetire : Cond.instanceMethod yX1_canRetire ∈ AW := aw_t0 216 rfl rfl
theorem co_X1_canRetire : Cond.code yX1_canRetire cX1_canRetire 3 (some .boolean) ∈ AW := aw_t0 217 rfl rfl
theorem ml_RX1_125 : Cond.methodLink RX1 125 yX1_moveAwayFrom ∈ AW := aw_t0 218 rfl rfl
theorem im_X1_moveAwayFrom : Cond.instanceMethod yX1_moveAwayFrom ∈ AW := aw_t0 220 rfl rfl
theorem co_X1_moveAwayFrom : Cond.code yX1_moveAwayFrom cX1_moveAwayFrom 4 (none) ∈ AW := aw_t0 221 rfl rfl
theorem ml_RX1_97 : Cond.methodLink RX1 97 yX1_retire ∈ AW := aw_t0 222 rfl rfl
theorem im_X1_retire : Cond.instanceMethod yX1_retire ∈ AW := aw_t0 224 rfl rfl
theorem co_X1_retire : Cond.code yX1_retire cX1_retire 2 (none) ∈ AW := aw_t0 225 rfl rfl
theorem ml_RX4_75 : Cond.methodLink RX4 75 yX4_recorded ∈ AW := aw_t0 226 rfl rfl
theorem im_X4_recorded : Cond.instanceMethod yX4_recorded ∈ AW := aw_t0 228 rfl rfl
theorem co_X4_recorded : Cond.code yX4_recorded cX4_recorded 2 (some .int) ∈ AW := aw_t0 229 rfl rfl
theorem ml_RX4_172 : Cond.methodLink RX4 172 yX0_add ∈ AW := aw_t0 230 rfl rfl
theorem im_X0_add : Cond.instanceMethod yX0_add ∈ AW := aw_t0 231 rfl rfl
theorem se_X0_add : Cond.selects RX0 yX0_add yX0_add ∈ AW := aw_t0 232 rfl rfl
theorem co_X0_add : Cond.code yX0_add cX0_add 2 (none) ∈ AW := aw_t0 233 rfl rfl
theorem ml_RX0_25 : Cond.methodLink RX0 25 yX1_copyFrom ∈ AW := aw_t0 234 rfl rfl
theorem ml_RL_18 : Cond.methodLink RL 18 yX4_giveBack ∈ AW := aw_t0 235 rfl rfl
theorem im_X4_giveBack : Cond.instanceMethod yX4_giveBack ∈ AW := aw_t0 236 rfl rfl
theorem se_X4_giveBack : Cond.selects RX4 yX4_giveBack yX4_giveBack ∈ AW := aw_t0 237 rfl rfl
theorem co_X4_giveBack : Cond.code yX4_giveBack cX4_giveBack 3 (some .int) ∈ AW := aw_t0 238 rfl rfl
theorem ml_RX4_79 : Cond.methodLink RX4 79 yX1_takeBack ∈ AW := aw_t0 239 rfl rfl
theorem im_X1_takeBack : Cond.instanceMethod yX1_takeBack ∈ AW := aw_t1 0 rfl rfl
theorem se_X1_takeBack : Cond.selects RX1 yX1_takeBack yX1_takeBack ∈ AW := aw_t1 1 rfl rfl
theorem co_X1_takeBack : Cond.code yX1_takeBack cX1_takeBack 3 (some .int) ∈ AW := aw_t1 2 rfl rfl
theorem ml_RX1_86 : Cond.methodLink RX1 86 yX1_release ∈ AW := aw_t1 3 rfl rfl
theorem im_X1_release : Cond.instanceMethod yX1_release ∈ AW := aw_t1 5 rfl rfl
theorem co_X1_release : Cond.code yX1_release cX1_release 3 (none) ∈ AW := aw_t1 6 rfl rfl
theorem ml_RL_23 : Cond.methodLink RL 23 yX4_pin ∈ AW := aw_t1 7 rfl rfl
theorem im_X4_pin : Cond.instanceMethod yX4_pin ∈ AW := aw_t1 8 rfl rfl
theorem se_X4_pin : Cond.selects RX4 yX4_pin yX4_pin ∈ AW := aw_t1 9 rfl rfl
theorem co_X4_pin : Cond.code yX4_pin cX4_pin 4 (some .int) ∈ AW := aw_t1 10 rfl rfl
theorem ml_RX4_82 : Cond.methodLink RX4 82 yX1_changePin ∈ AW := aw_t1 11 rfl rfl
theorem im_X1_changePin : Cond.instanceMethod yX1_changePin ∈ AW := aw_t1 12 rfl rfl
theorem se_X1_changePin : Cond.selects RX1 yX1_changePin yX1_changePin ∈ AW := aw_t1 13 rfl rfl
theorem co_X1_changePin : Cond.code yX1_changePin cX1_changePin 3 (some .int) ∈ AW := aw_t1 14 rfl rfl
theorem ml_RX1_90 : Cond.methodLink RX1 90 yX1_pinnedPages ∈ AW := aw_t1 15 rfl rfl
theorem im_X1_pinnedPages : Cond.instanceMethod yX1_pinnedPages ∈ AW := aw_t1 17 rfl rfl
theorem co_X1_pinnedPages : Cond.code yX1_pinnedPages cX1_pinnedPages 3 (some .int) ∈ AW := aw_t1 18 rfl rfl
theorem ml_RX1_131 : Cond.methodLink RX1 131 yX1_pinnedPagesOf ∈ AW := aw_t1 19 rfl rfl
theorem im_X1_pinnedPagesOf : Cond.instanceMethod yX1_pinnedPagesOf ∈ AW := aw_t1 21 rfl rfl
theorem co_X1_pinnedPagesOf : Cond.code yX1_pinnedPagesOf cX1_pinnedPagesOf 4 (some .int) ∈ AW := aw_t1 22 rfl rfl
theorem nl_RX1_153 : Cond.methodLinkNest RX1 153 yX4_pageIndex "RetiredCells" ∈ lw_tbl := List.mem_append_right _ (List.mem_of_getElem? (i := 263) (by decide +kernel))
theorem ml_RL_28 : Cond.methodLink RL 28 yX4_error ∈ AW := aw_t1 24 rfl rfl
theorem im_X4_error : Cond.instanceMethod yX4_error ∈ AW := aw_t1 25 rfl rfl
theorem se_X4_error : Cond.selects RX4 yX4_error yX4_error ∈ AW := aw_t1 26 rfl rfl
theorem co_X4_error : Cond.code yX4_error cX4_error 2 (some .int) ∈ AW := aw_t1 27 rfl rfl
theorem ml_RX4_86 : Cond.methodLink RX4 86 yX4_isCell ∈ AW := aw_t1 28 rfl rfl
theorem st_X4_isCell : Cond.static yX4_isCell ∈ AW := aw_t1 29 rfl rfl
theorem co_X4_isCell : Cond.code yX4_isCell cX4_isCell 1 (some .boolean) ∈ AW := aw_t1 30 rfl rfl
theorem ml_RX4_90 : Cond.methodLink RX4 90 yX1_meetError ∈ AW := aw_t1 31 rfl rfl
theorem im_X1_meetError : Cond.instanceMethod yX1_meetError ∈ AW := aw_t1 32 rfl rfl
theorem se_X1_meetError : Cond.selects RX1 yX1_meetError yX1_meetError ∈ AW := aw_t1 33 rfl rfl
theorem co_X1_meetError : Cond.code yX1_meetError cX1_meetError 2 (some .int) ∈ AW := aw_t1 34 rfl rfl
theorem ml_RL_33 : Cond.methodLink RL 33 yX4_hardError ∈ AW := aw_t1 35 rfl rfl
theorem im_X4_hardError : Cond.instanceMethod yX4_hardError ∈ AW := aw_t1 36 rfl rfl
theorem se_X4_hardError : Cond.selects RX4 yX4_hardError yX4_hardError ∈ AW := aw_t1 37 rfl rfl
theorem co_X4_hardError : Cond.code yX4_hardError cX4_hardError 2 (some .int) ∈ AW := aw_t1 38 rfl rfl
theorem ml_RX4_93 : Cond.methodLink RX4 93 yX1_meetHardError ∈ AW := aw_t1 39 rfl rfl
theorem im_X1_meetHardError : Cond.instanceMethod yX1_meetHardError ∈ AW := aw_t1 40 rfl rfl
theorem se_X1_meetHardError : Cond.selects RX1 yX1_meetHardError yX1_meetHardError ∈ AW := aw_t1 41 rfl rfl
theorem co_X1_meetHardError : Cond.code yX1_meetHardError cX1_meetHardError 3 (some .int) ∈ AW := aw_t1 42 rfl rfl
theorem ml_RX1_93 : Cond.methodLink RX1 93 yX1_loseWhatLiesIn ∈ AW := aw_t1 43 rfl rfl
theorem im_X1_loseWhatLiesIn : Cond.instanceMethod yX1_loseWhatLiesIn ∈ AW := aw_t1 45 rfl rfl
theorem co_X1_loseWhatLiesIn : Cond.code yX1_loseWhatLiesIn cX1_loseWhatLiesIn 3 (some .int) ∈ AW := aw_t1 46 rfl rfl
theorem ml_RL_37 : Cond.methodLink RL 37 yX4_start ∈ AW := aw_t1 47 rfl rfl
theorem im_X4_start : Cond.instanceMethod yX4_start ∈ AW := aw_t1 48 rfl rfl
theorem se_X4_start : Cond.selects RX4 yX4_start yX4_start ∈ AW := aw_t1 49 rfl rfl
theorem co_X4_start : Cond.code yX4_start cX4_start 1 (some .int) ∈ AW := aw_t1 50 rfl rfl
theorem ml_RX4_96 : Cond.methodLink RX4 96 yX1_startAnew ∈ AW := aw_t1 51 rfl rfl
theorem im_X1_startAnew : Cond.instanceMethod yX1_startAnew ∈ AW := aw_t1 52 rfl rfl
theorem se_X1_startAnew : Cond.selects RX1 yX1_startAnew yX1_startAnew ∈ AW := aw_t1 53 rfl rfl
theorem co_X1_startAnew : Cond.code yX1_startAnew cX1_startAnew 2 (some .int) ∈ AW := aw_t1 54 rfl rfl
theorem ml_RX1_100 : Cond.methodLink RX1 100 yX1_placeOnList ∈ AW := aw_t1 55 rfl rfl
theorem im_X1_placeOnList : Cond.instanceMethod yX1_placeOnList ∈ AW := aw_t1 57 rfl rfl
theorem co_X1_placeOnList : Cond.code yX1_placeOnList cX1_placeOnList 3 (some .int) ∈ AW := aw_t1 58 rfl rfl
theorem ml_RX1_103 : Cond.methodLink RX1 103 yX1_freeCells ∈ AW := aw_t1 59 rfl rfl
theorem im_X1_freeCells : Cond.instanceMethod yX1_freeCells ∈ AW := aw_t1 61 rfl rfl
theorem co_X1_freeCells : Cond.code yX1_freeCells cX1_freeCells 1 (some .int) ∈ AW := aw_t1 62 rfl rfl
theorem ml_RX1_150 : Cond.methodLink RX1 150 yX1_cellsThatAre ∈ AW := aw_t1 63 rfl rfl
theorem im_X1_cellsThatAre : Cond.instanceMethod yX1_cellsThatAre ∈ AW := aw_t1 65 rfl rfl
theorem co_X1_cellsThatAre : Cond.code yX1_cellsThatAre cX1_cellsThatAre 4 (some .int) ∈ AW := aw_t1 66 rfl rfl
theorem ml_RX1_134 : Cond.methodLink RX1 134 yX1_howCellIs ∈ AW := aw_t1 67 rfl rfl
theorem im_X1_howCellIs : Cond.instanceMethod yX1_howCellIs ∈ AW := aw_t1 69 rfl rfl
theorem co_X1_howCellIs : Cond.code yX1_howCellIs cX1_howCellIs 2 (some .int) ∈ AW := aw_t1 70 rfl rfl
theorem ml_RL_42 : Cond.methodLink RL 42 yX4_pass ∈ AW := aw_t1 71 rfl rfl
theorem im_X4_pass : Cond.instanceMethod yX4_pass ∈ AW := aw_t1 72 rfl rfl
theorem se_X4_pass : Cond.selects RX4 yX4_pass yX4_pass ∈ AW := aw_t1 73 rfl rfl
theorem co_X4_pass : Cond.code yX4_pass cX4_pass 2 (some .int) ∈ AW := aw_t1 74 rfl rfl
theorem ml_RX4_100 : Cond.methodLink RX4 100 yX1_letPass ∈ AW := aw_t1 75 rfl rfl
theorem im_X1_letPass : Cond.instanceMethod yX1_letPass ∈ AW := aw_t1 76 rfl rfl
theorem se_X1_letPass : Cond.selects RX1 yX1_letPass yX1_letPass ∈ AW := aw_t1 77 rfl rfl
theorem co_X1_letPass : Cond.code yX1_letPass cX1_letPass 3 (some .int) ∈ AW := aw_t1 78 rfl rfl
theorem ml_RX1_106 : Cond.methodLink RX1 106 yX1_isForgettingDay ∈ AW := aw_t1 79 rfl rfl
theorem im_X1_isForgettingDay : Cond.instanceMethod yX1_isForgettingDay ∈ AW := aw_t1 81 rfl rfl
theorem co_X1_isForgettingDay : Cond.code yX1_isForgettingDay cX1_isForgettingDay 2 (some .boolean) ∈ AW := aw_t1 82 rfl rfl
theorem ml_RX1_110 : Cond.methodLink RX1 110 yX1_forgetErrors ∈ AW := aw_t1 83 rfl rfl
theorem im_X1_forgetErrors : Cond.instanceMethod yX1_forgetErrors ∈ AW := aw_t1 85 rfl rfl
theorem co_X1_forgetErrors : Cond.code yX1_forgetErrors cX1_forgetErrors 2 (none) ∈ AW := aw_t1 86 rfl rfl
theorem ml_RX1_113 : Cond.methodLink RX1 113 yX1_waitingCells ∈ AW := aw_t1 87 rfl rfl
theorem im_X1_waitingCells : Cond.instanceMethod yX1_waitingCells ∈ AW := aw_t1 89 rfl rfl
theorem co_X1_waitingCells : Cond.code yX1_waitingCells cX1_waitingCells 3 (some .int) ∈ AW := aw_t1 90 rfl rfl
theorem ml_RL_46 : Cond.methodLink RL 46 yX4_set ∈ AW := aw_t1 91 rfl rfl
theorem im_X4_set : Cond.instanceMethod yX4_set ∈ AW := aw_t1 92 rfl rfl
theorem se_X4_set : Cond.selects RX4 yX4_set yX4_set ∈ AW := aw_t1 93 rfl rfl
theorem co_X4_set : Cond.code yX4_set cX4_set 3 (some .int) ∈ AW := aw_t1 94 rfl rfl
theorem ml_RX4_103 : Cond.methodLink RX4 103 yX4_lowestSetting ∈ AW := aw_t1 95 rfl rfl
theorem st_X4_lowestSetting : Cond.static yX4_lowestSetting ∈ AW := aw_t1 96 rfl rfl
theorem co_X4_lowestSetting : Cond.code yX4_lowestSetting cX4_lowestSetting 1 (some .int) ∈ AW := aw_t1 97 rfl rfl
theorem ml_RX4_106 : Cond.methodLink RX4 106 yX4_highestSetting ∈ AW := aw_t1 98 rfl rfl
theorem st_X4_highestSetting : Cond.static yX4_highestSetting ∈ AW := aw_t1 99 rfl rfl
theorem co_X4_highestSetting : Cond.code yX4_highestSetting cX4_highestSetting 1 (some .int) ∈ AW := aw_t1 100 rfl rfl
theorem ml_RX4_109 : Cond.methodLink RX4 109 yX1_changeSetting ∈ AW := aw_t1 101 rfl rfl
theorem im_X1_changeSetting : Cond.instanceMethod yX1_changeSetting ∈ AW := aw_t1 102 rfl rfl
theorem se_X1_changeSetting : Cond.selects RX1 yX1_changeSetting yX1_changeSetting ∈ AW := aw_t1 103 rfl rfl
theorem co_X1_changeSetting : Cond.code yX1_changeSetting cX1_changeSetting 4 (some .int) ∈ AW := aw_t1 104 rfl rfl
theorem ml_RL_50 : Cond.methodLink RL 50 yX4_type ∈ AW := aw_t1 105 rfl rfl
theorem im_X4_type : Cond.instanceMethod yX4_type ∈ AW := aw_t1 106 rfl rfl
theorem se_X4_type : Cond.selects RX4 yX4_type yX4_type ∈ AW := aw_t1 107 rfl rfl
theorem co_X4_type : Cond.code yX4_type cX4_type 2 (some .int) ∈ AW := aw_t1 108 rfl rfl
theorem ml_RX4_112 : Cond.methodLink RX4 112 yX3_append ∈ AW := aw_t1 109 rfl rfl
theorem im_X3_append : Cond.instanceMethod yX3_append ∈ AW := aw_t1 110 rfl rfl
theorem se_X3_append : Cond.selects RX3 yX3_append yX3_append ∈ AW := aw_t1 111 rfl rfl
theorem co_X3_append : Cond.code yX3_append cX3_append 2 (some .int) ∈ AW := aw_t1 112 rfl rfl
theorem ml_RL_55 : Cond.methodLink RL 55 yX4_clearText ∈ AW := aw_t1 113 rfl rfl
theorem im_X4_clearText : Cond.instanceMethod yX4_clearText ∈ AW := aw_t1 114 rfl rfl
theorem se_X4_clearText : Cond.selects RX4 yX4_clearText yX4_clearText ∈ AW := aw_t1 115 rfl rfl
theorem co_X4_clearText : Cond.code yX4_clearText cX4_clearText 1 (some .int) ∈ AW := aw_t1 116 rfl rfl
theorem ml_RX4_116 : Cond.methodLink RX4 116 yX3_empty ∈ AW := aw_t1 117 rfl rfl
theorem im_X3_empty : Cond.instanceMethod yX3_empty ∈ AW := aw_t1 118 rfl rfl
theorem se_X3_empty : Cond.selects RX3 yX3_empty yX3_empty ∈ AW := aw_t1 119 rfl rfl
theorem co_X3_empty : Cond.code yX3_empty cX3_empty 2 (some .int) ∈ AW := aw_t1 120 rfl rfl
theorem ml_RL_59 : Cond.methodLink RL 59 yX4_perform ∈ AW := aw_t1 121 rfl rfl
theorem im_X4_perform : Cond.instanceMethod yX4_perform ∈ AW := aw_t1 122 rfl rfl
theorem se_X4_perform : Cond.selects RX4 yX4_perform yX4_perform ∈ AW := aw_t1 123 rfl rfl
theorem co_X4_perform : Cond.code yX4_perform cX4_perform 5 (some .int) ∈ AW := aw_t1 124 rfl rfl
theorem ml_RX4_119 : Cond.methodLink RX4 119 yX2_readAll ∈ AW := aw_t1 125 rfl rfl
theorem im_X2_readAll : Cond.instanceMethod yX2_readAll ∈ AW := aw_t1 126 rfl rfl
theorem se_X2_readAll : Cond.selects RX2 yX2_readAll yX2_readAll ∈ AW := aw_t1 127 rfl rfl
theorem co_X2_readAll : Cond.code yX2_readAll cX2_readAll 2 (some .int) ∈ AW := aw_t1 128 rfl rfl
theorem ml_RX2_33 : Cond.methodLink RX2 33 yX2_readThing ∈ AW := aw_t1 129 rfl rfl
theorem im_X2_readThing : Cond.instanceMethod yX2_readThing ∈ AW := aw_t1 131 rfl rfl
theorem co_X2_readThing : Cond.code yX2_readThing cX2_readThing 3 (some .boolean) ∈ AW := aw_t1 132 rfl rfl
theorem ml_RX2_47 : Cond.methodLink RX2 47 yX3_at ∈ AW := aw_t1 133 rfl rfl
theorem im_X3_at : Cond.instanceMethod yX3_at ∈ AW := aw_t1 134 rfl rfl
theorem se_X3_at : Cond.selects RX3 yX3_at yX3_at ∈ AW := aw_t1 135 rfl rfl
theorem co_X3_at : Cond.code yX3_at cX3_at 2 (some .int) ∈ AW := aw_t1 136 rfl rfl
theorem ml_RX2_51 : Cond.methodLink RX2 51 yX2_readKind ∈ AW := aw_t1 137 rfl rfl
theorem im_X2_readKind : Cond.instanceMethod yX2_readKind ∈ AW := aw_t1 139 rfl rfl
theorem co_X2_readKind : Cond.code yX2_readKind cX2_readKind 3 (some .boolean) ∈ AW := aw_t1 140 rfl rfl
theorem ml_RX2_43 : Cond.methodLink RX2 43 yX2_readSign ∈ AW := aw_t1 141 rfl rfl
theorem im_X2_readSign : Cond.instanceMethod yX2_readSign ∈ AW := aw_t1 143 rfl rfl
theorem co_X2_readSign : Cond.code yX2_readSign cX2_readSign 2 (some .boolean) ∈ AW := aw_t1 144 rfl rfl
theorem ml_RX2_55 : Cond.methodLink RX2 55 yX2_readPage ∈ AW := aw_t1 145 rfl rfl
theorem im_X2_readPage : Cond.instanceMethod yX2_readPage ∈ AW := aw_t1 147 rfl rfl
theorem co_X2_readPage : Cond.code yX2_readPage cX2_readPage 4 (some .boolean) ∈ AW := aw_t1 148 rfl rfl
theorem ml_RX2_62 : Cond.methodLink RX2 62 yX2_digitAt ∈ AW := aw_t1 149 rfl rfl
theorem im_X2_digitAt : Cond.instanceMethod yX2_digitAt ∈ AW := aw_t1 151 rfl rfl
theorem co_X2_digitAt : Cond.code yX2_digitAt cX2_digitAt 3 (some .int) ∈ AW := aw_t1 152 rfl rfl
theorem nl_RX2_65 : Cond.methodLinkNest RX2 65 yX4_isWithin "RetiredCells" ∈ lw_tbl := List.mem_append_right _ (List.mem_of_getElem? (i := 393) (by decide +kernel))
theorem nl_RX2_68 : Cond.methodLinkNest RX2 68 yX4_pageIndex "RetiredCells" ∈ lw_tbl := List.mem_append_right _ (List.mem_of_getElem? (i := 394) (by decide +kernel))
theorem ml_RX2_58 : Cond.methodLink RX2 58 yX2_readNumber ∈ AW := aw_t1 155 rfl rfl
theorem im_X2_readNumber : Cond.instanceMethod yX2_readNumber ∈ AW := aw_t1 157 rfl rfl
theorem co_X2_readNumber : Cond.code yX2_readNumber cX2_readNumber 7 (some .boolean) ∈ AW := aw_t1 158 rfl rfl
theorem ml_RX2_37 : Cond.methodLink RX2 37 yX3_length ∈ AW := aw_t1 159 rfl rfl
theorem im_X3_length : Cond.instanceMethod yX3_length ∈ AW := aw_t1 160 rfl rfl
theorem se_X3_length : Cond.selects RX3 yX3_length yX3_length ∈ AW := aw_t1 161 rfl rfl
theorem co_X3_length : Cond.code yX3_length cX3_length 1 (some .int) ∈ AW := aw_t1 162 rfl rfl
theorem ml_RX4_122 : Cond.methodLink RX4 122 yX2_size ∈ AW := aw_t1 163 rfl rfl
theorem im_X2_size : Cond.instanceMethod yX2_size ∈ AW := aw_t1 164 rfl rfl
theorem se_X2_size : Cond.selects RX2 yX2_size yX2_size ∈ AW := aw_t1 165 rfl rfl
theorem co_X2_size : Cond.code yX2_size cX2_size 1 (some .int) ∈ AW := aw_t1 166 rfl rfl
theorem ml_RX4_125 : Cond.methodLink RX4 125 yX4_doThing ∈ AW := aw_t1 167 rfl rfl
theorem im_X4_doThing : Cond.instanceMethod yX4_doThing ∈ AW := aw_t1 169 rfl rfl
theorem co_X4_doThing : Cond.code yX4_doThing cX4_doThing 4 (some .int) ∈ AW := aw_t1 170 rfl rfl
theorem ml_RX4_175 : Cond.methodLink RX4 175 yX2_pageOf ∈ AW := aw_t1 171 rfl rfl
theorem im_X2_pageOf : Cond.instanceMethod yX2_pageOf ∈ AW := aw_t1 172 rfl rfl
theorem se_X2_pageOf : Cond.selects RX2 yX2_pageOf yX2_pageOf ∈ AW := aw_t1 173 rfl rfl
theorem co_X2_pageOf : Cond.code yX2_pageOf cX2_pageOf 2 (some .int) ∈ AW := aw_t1 174 rfl rfl
theorem ml_RX4_178 : Cond.methodLink RX4 178 yX2_numberOf ∈ AW := aw_t1 175 rfl rfl
theorem im_X2_numberOf : Cond.instanceMethod yX2_numberOf ∈ AW := aw_t1 176 rfl rfl
theorem se_X2_numberOf : Cond.selects RX2 yX2_numberOf yX2_numberOf ∈ AW := aw_t1 177 rfl rfl
theorem co_X2_numberOf : Cond.code yX2_numberOf cX2_numberOf 2 (some .int) ∈ AW := aw_t1 178 rfl rfl
theorem ml_RX4_181 : Cond.methodLink RX4 181 yX2_kindOf ∈ AW := aw_t1 179 rfl rfl
theorem im_X2_kindOf : Cond.instanceMethod yX2_kindOf ∈ AW := aw_t1 180 rfl rfl
theorem se_X2_kindOf : Cond.selects RX2 yX2_kindOf yX2_kindOf ∈ AW := aw_t1 181 rfl rfl
theorem co_X2_kindOf : Cond.code yX2_kindOf cX2_kindOf 2 (some .char) ∈ AW := aw_t1 182 rfl rfl
theorem ml_RX4_185 : Cond.methodLink RX4 185 yX1_isPinned ∈ AW := aw_t1 183 rfl rfl
theorem im_X1_isPinned : Cond.instanceMethod yX1_isPinned ∈ AW := aw_t1 184 rfl rfl
theorem se_X1_isPinned : Cond.selects RX1 yX1_isPinned yX1_isPinned ∈ AW := aw_t1 185 rfl rfl
theorem co_X1_isPinned : Cond.code yX1_isPinned cX1_isPinned 2 (some .boolean) ∈ AW := aw_t1 186 rfl rfl
theorem ml_RL_63 : Cond.methodLink RL 63 yX4_stopped ∈ AW := aw_t1 187 rfl rfl
theorem im_X4_stopped : Cond.instanceMethod yX4_stopped ∈ AW := aw_t1 188 rfl rfl
theorem se_X4_stopped : Cond.selects RX4 yX4_stopped yX4_stopped ∈ AW := aw_t1 189 rfl rfl
theorem co_X4_stopped : Cond.code yX4_stopped cX4_stopped 2 (some .int) ∈ AW := aw_t1 190 rfl rfl
theorem ml_RL_67 : Cond.methodLink RL 67 yX4_undo ∈ AW := aw_t1 191 rfl rfl
theorem im_X4_undo : Cond.instanceMethod yX4_undo ∈ AW := aw_t1 192 rfl rfl
theorem se_X4_undo : Cond.selects RX4 yX4_undo yX4_undo ∈ AW := aw_t1 193 rfl rfl
theorem co_X4_undo : Cond.code yX4_undo cX4_undo 1 (some .int) ∈ AW := aw_t1 194 rfl rfl
theorem ml_RX4_128 : Cond.methodLink RX4 128 yX0_takeLatest ∈ AW := aw_t1 195 rfl rfl
theorem im_X0_takeLatest : Cond.instanceMethod yX0_takeLatest ∈ AW := aw_t1 196 rfl rfl
theorem se_X0_takeLatest : Cond.selects RX0 yX0_takeLatest yX0_takeLatest ∈ AW := aw_t1 197 rfl rfl
theorem co_X0_takeLatest : Cond.code yX0_takeLatest cX0_takeLatest 2 (some .int) ∈ AW := aw_t1 198 rfl rfl
theorem ml_RL_71 : Cond.methodLink RL 71 yX4_keep ∈ AW := aw_t1 199 rfl rfl
theorem im_X4_keep : Cond.instanceMethod yX4_keep ∈ AW := aw_t1 200 rfl rfl
theorem se_X4_keep : Cond.selects RX4 yX4_keep yX4_keep ∈ AW := aw_t1 201 rfl rfl
theorem co_X4_keep : Cond.code yX4_keep cX4_keep 1 (some .int) ∈ AW := aw_t1 202 rfl rfl
theorem ml_RX4_132 : Cond.methodLink RX4 132 yX1_retiredCells ∈ AW := aw_t1 203 rfl rfl
theorem im_X1_retiredCells : Cond.instanceMethod yX1_retiredCells ∈ AW := aw_t1 204 rfl rfl
theorem se_X1_retiredCells : Cond.selects RX1 yX1_retiredCells yX1_retiredCells ∈ AW := aw_t1 205 rfl rfl
theorem co_X1_retiredCells : Cond.code yX1_retiredCells cX1_retiredCells 1 (some .int) ∈ AW := aw_t1 206 rfl rfl
theorem ml_RL_75 : Cond.methodLink RL 75 yX4_restore ∈ AW := aw_t1 207 rfl rfl
theorem im_X4_restore : Cond.instanceMethod yX4_restore ∈ AW := aw_t1 208 rfl rfl
theorem se_X4_restore : Cond.selects RX4 yX4_restore yX4_restore ∈ AW := aw_t1 209 rfl rfl
theorem co_X4_restore : Cond.code yX4_restore cX4_restore 1 (some .int) ∈ AW := aw_t1 210 rfl rfl
theorem ml_RX4_135 : Cond.methodLink RX4 135 yX1_retireWhatCan ∈ AW := aw_t1 211 rfl rfl
theorem ml_RL_79 : Cond.methodLink RL 79 yX4_page ∈ AW := aw_t1 212 rfl rfl
theorem im_X4_page : Cond.instanceMethod yX4_page ∈ AW := aw_t1 213 rfl rfl
theorem se_X4_page : Cond.selects RX4 yX4_page yX4_page ∈ AW := aw_t1 214 rfl rfl
theorem co_X4_page : Cond.code yX4_page cX4_page 4 (some .int) ∈ AW := aw_t1 215 rfl rfl
theorem ml_RX4_138 : Cond.methodLink RX4 138 yX1_tellPage ∈ AW := aw_t1 216 rfl rfl
theorem im_X1_tellPage : Cond.instanceMethod yX1_tellPage ∈ AW := aw_t1 217 rfl rfl
theorem se_X1_tellPage : Cond.selects RX1 yX1_tellPage yX1_tellPage ∈ AW := aw_t1 218 rfl rfl
theorem co_X1_tellPage : Cond.code yX1_tellPage cX1_tellPage 3 (some .int) ∈ AW := aw_t1 219 rfl rfl
theorem ml_RL_83 : Cond.methodLink RL 83 yX4_program ∈ AW := aw_t1 220 rfl rfl
theorem im_X4_program : Cond.instanceMethod yX4_program ∈ AW := aw_t1 221 rfl rfl
theorem se_X4_program : Cond.selects RX4 yX4_program yX4_program ∈ AW := aw_t1 222 rfl rfl
theorem co_X4_program : Cond.code yX4_program cX4_program 3 (some .int) ∈ AW := aw_t1 223 rfl rfl
theorem ml_RX4_141 : Cond.methodLink RX4 141 yX1_tellProgram ∈ AW := aw_t1 224 rfl rfl
theorem im_X1_tellProgram : Cond.instanceMethod yX1_tellProgram ∈ AW := aw_t1 225 rfl rfl
theorem se_X1_tellProgram : Cond.selects RX1 yX1_tellProgram yX1_tellProgram ∈ AW := aw_t1 226 rfl rfl
theorem co_X1_tellProgram : Cond.code yX1_tellProgram cX1_tellProgram 3 (some .int) ∈ AW := aw_t1 227 rfl rfl
theorem ml_RX1_128 : Cond.methodLink RX1 128 yX1_pagesWithCells ∈ AW := aw_t1 228 rfl rfl
theorem im_X1_pagesWithCells : Cond.instanceMethod yX1_pagesWithCells ∈ AW := aw_t1 230 rfl rfl
theorem co_X1_pagesWithCells : Cond.code yX1_pagesWithCells cX1_pagesWithCells 4 (some .int) ∈ AW := aw_t1 231 rfl rfl
theorem ml_RL_87 : Cond.methodLink RL 87 yX4_cell ∈ AW := aw_t1 232 rfl rfl
theorem im_X4_cell : Cond.instanceMethod yX4_cell ∈ AW := aw_t1 233 rfl rfl
theorem se_X4_cell : Cond.selects RX4 yX4_cell yX4_cell ∈ AW := aw_t1 234 rfl rfl
theorem co_X4_cell : Cond.code yX4_cell cX4_cell 3 (some .int) ∈ AW := aw_t1 235 rfl rfl
theorem ml_RX4_144 : Cond.methodLink RX4 144 yX1_tellCell ∈ AW := aw_t1 236 rfl rfl
theorem im_X1_tellCell : Cond.instanceMethod yX1_tellCell ∈ AW := aw_t1 237 rfl rfl
theorem se_X1_tellCell : Cond.selects RX1 yX1_tellCell yX1_tellCell ∈ AW := aw_t1 238 rfl rfl
theorem co_X1_tellCell : Cond.code yX1_tellCell cX1_tellCell 4 (some .int) ∈ AW := aw_t1 239 rfl rfl
theorem ml_RL_91 : Cond.methodLink RL 91 yX4_list ∈ AW := aw_t2 0 rfl rfl
theorem im_X4_list : Cond.instanceMethod yX4_list ∈ AW := aw_t2 1 rfl rfl
theorem se_X4_list : Cond.selects RX4 yX4_list yX4_list ∈ AW := aw_t2 2 rfl rfl
theorem co_X4_list : Cond.code yX4_list cX4_list 2 (some .int) ∈ AW := aw_t2 3 rfl rfl
theorem ml_RX4_147 : Cond.methodLink RX4 147 yX1_listedAt ∈ AW := aw_t2 4 rfl rfl
theorem im_X1_listedAt : Cond.instanceMethod yX1_listedAt ∈ AW := aw_t2 5 rfl rfl
theorem se_X1_listedAt : Cond.selects RX1 yX1_listedAt yX1_listedAt ∈ AW := aw_t2 6 rfl rfl
theorem co_X1_listedAt : Cond.code yX1_listedAt cX1_listedAt 2 (some .int) ∈ AW := aw_t2 7 rfl rfl
theorem ml_RL_95 : Cond.methodLink RL 95 yX4_next ∈ AW := aw_t2 8 rfl rfl
theorem im_X4_next : Cond.instanceMethod yX4_next ∈ AW := aw_t2 9 rfl rfl
theorem se_X4_next : Cond.selects RX4 yX4_next yX4_next ∈ AW := aw_t2 10 rfl rfl
theorem co_X4_next : Cond.code yX4_next cX4_next 1 (some .int) ∈ AW := aw_t2 11 rfl rfl
theorem ml_RX4_150 : Cond.methodLink RX4 150 yX1_cellToGive ∈ AW := aw_t2 12 rfl rfl
theorem ml_RL_99 : Cond.methodLink RL 99 yX4_reason ∈ AW := aw_t2 13 rfl rfl
theorem im_X4_reason : Cond.instanceMethod yX4_reason ∈ AW := aw_t2 14 rfl rfl
theorem se_X4_reason : Cond.selects RX4 yX4_reason yX4_reason ∈ AW := aw_t2 15 rfl rfl
theorem co_X4_reason : Cond.code yX4_reason cX4_reason 2 (some .int) ∈ AW := aw_t2 16 rfl rfl
theorem ml_RX4_153 : Cond.methodLink RX4 153 yX1_whyNotRetired ∈ AW := aw_t2 17 rfl rfl
theorem im_X1_whyNotRetired : Cond.instanceMethod yX1_whyNotRetired ∈ AW := aw_t2 18 rfl rfl
theorem se_X1_whyNotRetired : Cond.selects RX1 yX1_whyNotRetired yX1_whyNotRetired ∈ AW := aw_t2 19 rfl rfl
theorem co_X1_whyNotRetired : Cond.code yX1_whyNotRetired cX1_whyNotRetired 3 (some .int) ∈ AW := aw_t2 20 rfl rfl
theorem ml_RL_103 : Cond.methodLink RL 103 yX4_errorsLeft ∈ AW := aw_t2 21 rfl rfl
theorem im_X4_errorsLeft : Cond.instanceMethod yX4_errorsLeft ∈ AW := aw_t2 22 rfl rfl
theorem se_X4_errorsLeft : Cond.selects RX4 yX4_errorsLeft yX4_errorsLeft ∈ AW := aw_t2 23 rfl rfl
theorem co_X4_errorsLeft : Cond.code yX4_errorsLeft cX4_errorsLeft 2 (some .int) ∈ AW := aw_t2 24 rfl rfl
theorem ml_RX4_156 : Cond.methodLink RX4 156 yX1_errorsUntilRetired ∈ AW := aw_t2 25 rfl rfl
theorem im_X1_errorsUntilRetired : Cond.instanceMethod yX1_errorsUntilRetired ∈ AW := aw_t2 26 rfl rfl
theorem se_X1_errorsUntilRetired : Cond.selects RX1 yX1_errorsUntilRetired yX1_errorsUntilRetired ∈ AW := aw_t2 27 rfl rfl
theorem co_X1_errorsUntilRetired : Cond.code yX1_errorsUntilRetired cX1_errorsUntilRetired 2 (some .int) ∈ AW := aw_t2 28 rfl rfl
theorem ml_RL_107 : Cond.methodLink RL 107 yX4_worst ∈ AW := aw_t2 29 rfl rfl
theorem im_X4_worst : Cond.instanceMethod yX4_worst ∈ AW := aw_t2 30 rfl rfl
theorem se_X4_worst : Cond.selects RX4 yX4_worst yX4_worst ∈ AW := aw_t2 31 rfl rfl
theorem co_X4_worst : Cond.code yX4_worst cX4_worst 1 (some .int) ∈ AW := aw_t2 32 rfl rfl
theorem ml_RX4_159 : Cond.methodLink RX4 159 yX1_cellWithMostErrors ∈ AW := aw_t2 33 rfl rfl
theorem im_X1_cellWithMostErrors : Cond.instanceMethod yX1_cellWithMostErrors ∈ AW := aw_t2 34 rfl rfl
theorem se_X1_cellWithMostErrors : Cond.selects RX1 yX1_cellWithMostErrors yX1_cellWithMostErrors ∈ AW := aw_t2 35 rfl rfl
theorem co_X1_cellWithMostErrors : Cond.code yX1_cellWithMostErrors cX1_cellWithMostErrors 4 (some .int) ∈ AW := aw_t2 36 rfl rfl
theorem ml_RL_111 : Cond.methodLink RL 111 yX4_ifStarted ∈ AW := aw_t2 37 rfl rfl
theorem im_X4_ifStarted : Cond.instanceMethod yX4_ifStarted ∈ AW := aw_t2 38 rfl rfl
theorem se_X4_ifStarted : Cond.selects RX4 yX4_ifStarted yX4_ifStarted ∈ AW := aw_t2 39 rfl rfl
theorem co_X4_ifStarted : Cond.code yX4_ifStarted cX4_ifStarted 1 (some .int) ∈ AW := aw_t2 40 rfl rfl
theorem ml_RX4_162 : Cond.methodLink RX4 162 yX1_freeBehindStart ∈ AW := aw_t2 41 rfl rfl
theorem im_X1_freeBehindStart : Cond.instanceMethod yX1_freeBehindStart ∈ AW := aw_t2 42 rfl rfl
theorem se_X1_freeBehindStart : Cond.selects RX1 yX1_freeBehindStart yX1_freeBehindStart ∈ AW := aw_t2 43 rfl rfl
theorem co_X1_freeBehindStart : Cond.code yX1_freeBehindStart cX1_freeBehindStart 1 (some .int) ∈ AW := aw_t2 44 rfl rfl
theorem ml_RL_115 : Cond.methodLink RL 115 yX4_count ∈ AW := aw_t2 45 rfl rfl
theorem im_X4_count : Cond.instanceMethod yX4_count ∈ AW := aw_t2 46 rfl rfl
theorem se_X4_count : Cond.selects RX4 yX4_count yX4_count ∈ AW := aw_t2 47 rfl rfl
theorem co_X4_count : Cond.code yX4_count cX4_count 2 (some .int) ∈ AW := aw_t2 48 rfl rfl
theorem ml_RX4_165 : Cond.methodLink RX4 165 yX0_size ∈ AW := aw_t2 49 rfl rfl
theorem im_X0_size : Cond.instanceMethod yX0_size ∈ AW := aw_t2 50 rfl rfl
theorem se_X0_size : Cond.selects RX0 yX0_size yX0_size ∈ AW := aw_t2 51 rfl rfl
theorem co_X0_size : Cond.code yX0_size cX0_size 1 (some .int) ∈ AW := aw_t2 52 rfl rfl
theorem ml_RX4_166 : Cond.methodLink RX4 166 yX3_length ∈ AW := aw_t2 53 rfl rfl
theorem ml_RX4_169 : Cond.methodLink RX4 169 yX1_tellCount ∈ AW := aw_t2 54 rfl rfl
theorem im_X1_tellCount : Cond.instanceMethod yX1_tellCount ∈ AW := aw_t2 55 rfl rfl
theorem se_X1_tellCount : Cond.selects RX1 yX1_tellCount yX1_tellCount ∈ AW := aw_t2 56 rfl rfl
theorem co_X1_tellCount : Cond.code yX1_tellCount cX1_tellCount 2 (some .int) ∈ AW := aw_t2 57 rfl rfl
theorem ml_RX1_137 : Cond.methodLink RX1 137 yX1_usedCells ∈ AW := aw_t2 58 rfl rfl
theorem im_X1_usedCells : Cond.instanceMethod yX1_usedCells ∈ AW := aw_t2 60 rfl rfl
theorem co_X1_usedCells : Cond.code yX1_usedCells cX1_usedCells 1 (some .int) ∈ AW := aw_t2 61 rfl rfl
theorem ml_RX1_140 : Cond.methodLink RX1 140 yX1_retiredCells ∈ AW := aw_t2 62 rfl rfl
theorem ml_RX1_143 : Cond.methodLink RX1 143 yX1_sum ∈ AW := aw_t2 63 rfl rfl
theorem st_X1_sum : Cond.static yX1_sum ∈ AW := aw_t2 64 rfl rfl
theorem co_X1_sum : Cond.code yX1_sum cX1_sum 3 (some .int) ∈ AW := aw_t2 65 rfl rfl
theorem cl_RL_10 : Cond.classLink RL 10 RX5 ∈ AW := aw_t2 66 rfl rfl
theorem ins_RX5 : Cond.instantiable RX5 13 ∈ AW := aw_t2 67 rfl rfl
theorem ml_RL_12 : Cond.methodLink RL 12 yX5_init ∈ AW := aw_t2 68 rfl rfl
theorem im_X5_init : Cond.instanceMethod yX5_init ∈ AW := aw_t2 69 rfl rfl
theorem co_X5_init : Cond.code yX5_init cX5_init 2 (none) ∈ AW := aw_t2 70 rfl rfl
theorem ml_RX5_1 : Cond.methodLink RX5 1 objectInit ∈ AW := aw_t2 71 rfl rfl
theorem ml_RX5_28 : Cond.methodLink RX5 28 yX5_empty ∈ AW := aw_t2 72 rfl rfl
theorem im_X5_empty : Cond.instanceMethod yX5_empty ∈ AW := aw_t2 74 rfl rfl
theorem co_X5_empty : Cond.code yX5_empty cX5_empty 2 (none) ∈ AW := aw_t2 75 rfl rfl
theorem ml_RX5_32 : Cond.methodLink RX5 32 yX5_lay ∈ AW := aw_t2 76 rfl rfl
theorem im_X5_lay : Cond.instanceMethod yX5_lay ∈ AW := aw_t2 78 rfl rfl
theorem co_X5_lay : Cond.code yX5_lay cX5_lay 4 (none) ∈ AW := aw_t2 79 rfl rfl
theorem fl_RX5_7 : Cond.fieldLink RX5 7 RX5 "z" "[I" ∈ AW := aw_t2 80 rfl rfl
theorem fl_RX5_13 : Cond.fieldLink RX5 13 RX5 "spare" "[I" ∈ AW := aw_t2 81 rfl rfl
theorem fl_RX5_16 : Cond.fieldLink RX5 16 RX5 "past" "[I" ∈ AW := aw_t2 82 rfl rfl
theorem fl_RX5_44 : Cond.fieldLink RX5 44 RX5 "states" "I" ∈ AW := aw_t2 83 rfl rfl
theorem fl_RX5_19 : Cond.fieldLink RX5 19 RX5 "kept" "[I" ∈ AW := aw_t2 84 rfl rfl
theorem fl_RX5_56 : Cond.fieldLink RX5 56 RX5 "isKept" "Z" ∈ AW := aw_t2 85 rfl rfl
theorem fl_RX5_22 : Cond.fieldLink RX5 22 RX5 "text" "[I" ∈ AW := aw_t2 86 rfl rfl
theorem fl_RX5_132 : Cond.fieldLink RX5 132 RX5 "length" "I" ∈ AW := aw_t2 87 rfl rfl
theorem fl_RX5_163 : Cond.fieldLink RX5 163 RX5 "stopNumber" "I" ∈ AW := aw_t2 88 rfl rfl
theorem fl_RX5_166 : Cond.fieldLink RX5 166 RX5 "stopError" "I" ∈ AW := aw_t2 89 rfl rfl
theorem fl_RX5_25 : Cond.fieldLink RX5 25 RX5 "told" "[I" ∈ AW := aw_t2 90 rfl rfl
theorem fl_RX5_144 : Cond.fieldLink RX5 144 RX5 "toldMany" "I" ∈ AW := aw_t2 91 rfl rfl
theorem fl_RX5_135 : Cond.fieldLink RX5 135 RX5 "spot" "I" ∈ AW := aw_t2 92 rfl rfl
theorem ml_RL_70 : Cond.methodLink RL 70 yX5_undo ∈ AW := aw_t2 120 rfl rfl
theorem im_X5_undo : Cond.instanceMethod yX5_undo ∈ AW := aw_t2 121 rfl rfl
theorem se_X5_undo : Cond.selects RX5 yX5_undo yX5_undo ∈ AW := aw_t2 122 rfl rfl
theorem co_X5_undo : Cond.code yX5_undo cX5_undo 1 (some .int) ∈ AW := aw_t2 123 rfl rfl
theorem ml_RX5_48 : Cond.methodLink RX5 48 yX5_copyState ∈ AW := aw_t2 124 rfl rfl
theorem st_X5_copyState : Cond.static yX5_copyState ∈ AW := aw_t2 125 rfl rfl
theorem co_X5_copyState : Cond.code yX5_copyState cX5_copyState 5 (none) ∈ AW := aw_t2 126 rfl rfl
theorem ml_RL_74 : Cond.methodLink RL 74 yX5_keep ∈ AW := aw_t2 127 rfl rfl
theorem im_X5_keep : Cond.instanceMethod yX5_keep ∈ AW := aw_t2 128 rfl rfl
theorem se_X5_keep : Cond.selects RX5 yX5_keep yX5_keep ∈ AW := aw_t2 129 rfl rfl
theorem co_X5_keep : Cond.code yX5_keep cX5_keep 1 (some .int) ∈ AW := aw_t2 130 rfl rfl
theorem ml_RX5_60 : Cond.methodLink RX5 60 yX5_cells ∈ AW := aw_t2 131 rfl rfl
theorem im_X5_cells : Cond.instanceMethod yX5_cells ∈ AW := aw_t2 133 rfl rfl
theorem co_X5_cells : Cond.code yX5_cells cX5_cells 4 (some .int) ∈ AW := aw_t2 134 rfl rfl
theorem ml_RL_78 : Cond.methodLink RL 78 yX5_restore ∈ AW := aw_t2 135 rfl rfl
theorem im_X5_restore : Cond.instanceMethod yX5_restore ∈ AW := aw_t2 136 rfl rfl
theorem se_X5_restore : Cond.selects RX5 yX5_restore yX5_restore ∈ AW := aw_t2 137 rfl rfl
theorem co_X5_restore : Cond.code yX5_restore cX5_restore 1 (some .int) ∈ AW := aw_t2 138 rfl rfl
theorem ml_RX5_64 : Cond.methodLink RX5 64 yX5_record ∈ AW := aw_t2 139 rfl rfl
theorem im_X5_record : Cond.instanceMethod yX5_record ∈ AW := aw_t2 141 rfl rfl
theorem co_X5_record : Cond.code yX5_record cX5_record 1 (none) ∈ AW := aw_t2 142 rfl rfl
theorem ml_RX5_52 : Cond.methodLink RX5 52 yX5_recordRow ∈ AW := aw_t2 143 rfl rfl
theorem im_X5_recordRow : Cond.instanceMethod yX5_recordRow ∈ AW := aw_t2 145 rfl rfl
theorem co_X5_recordRow : Cond.code yX5_recordRow cX5_recordRow 3 (none) ∈ AW := aw_t2 146 rfl rfl
theorem ml_RX5_67 : Cond.methodLink RX5 67 yX5_look ∈ AW := aw_t2 147 rfl rfl
theorem im_X5_look : Cond.instanceMethod yX5_look ∈ AW := aw_t2 149 rfl rfl
theorem co_X5_look : Cond.code yX5_look cX5_look 4 (none) ∈ AW := aw_t2 150 rfl rfl
theorem ml_RX5_70 : Cond.methodLink RX5 70 yX5_isBad ∈ AW := aw_t2 151 rfl rfl
theorem im_X5_isBad : Cond.instanceMethod yX5_isBad ∈ AW := aw_t2 153 rfl rfl
theorem co_X5_isBad : Cond.code yX5_isBad cX5_isBad 2 (some .boolean) ∈ AW := aw_t2 154 rfl rfl
theorem ml_RX5_74 : Cond.methodLink RX5 74 yX5_pageIn ∈ AW := aw_t2 155 rfl rfl
theorem im_X5_pageIn : Cond.instanceMethod yX5_pageIn ∈ AW := aw_t2 157 rfl rfl
theorem co_X5_pageIn : Cond.code yX5_pageIn cX5_pageIn 4 (some .int) ∈ AW := aw_t2 158 rfl rfl
theorem ml_RX5_40 : Cond.methodLink RX5 40 yX5_of ∈ AW := aw_t2 159 rfl rfl
theorem im_X5_of : Cond.instanceMethod yX5_of ∈ AW := aw_t2 161 rfl rfl
theorem co_X5_of : Cond.code yX5_of cX5_of 3 (some .int) ∈ AW := aw_t2 162 rfl rfl
theorem ml_RX5_77 : Cond.methodLink RX5 77 yX5_given ∈ AW := aw_t2 163 rfl rfl
theorem im_X5_given : Cond.instanceMethod yX5_given ∈ AW := aw_t2 165 rfl rfl
theorem co_X5_given : Cond.code yX5_given cX5_given 8 (some .int) ∈ AW := aw_t2 166 rfl rfl
theorem ml_RX5_81 : Cond.methodLink RX5 81 yX5_retire ∈ AW := aw_t2 167 rfl rfl
theorem im_X5_retire : Cond.instanceMethod yX5_retire ∈ AW := aw_t2 169 rfl rfl
theorem co_X5_retire : Cond.code yX5_retire cX5_retire 2 (none) ∈ AW := aw_t2 170 rfl rfl
theorem ml_RX5_84 : Cond.methodLink RX5 84 yX5_give ∈ AW := aw_t2 171 rfl rfl
theorem im_X5_give : Cond.instanceMethod yX5_give ∈ AW := aw_t2 173 rfl rfl
theorem co_X5_give : Cond.code yX5_give cX5_give 3 (none) ∈ AW := aw_t2 174 rfl rfl
theorem ml_RL_17 : Cond.methodLink RL 17 yX5_write ∈ AW := aw_t2 175 rfl rfl
theorem im_X5_write : Cond.instanceMethod yX5_write ∈ AW := aw_t2 176 rfl rfl
theorem se_X5_write : Cond.selects RX5 yX5_write yX5_write ∈ AW := aw_t2 177 rfl rfl
theorem co_X5_write : Cond.code yX5_write cX5_write 5 (some .int) ∈ AW := aw_t2 178 rfl rfl
theorem ml_RX5_88 : Cond.methodLink RX5 88 yX5_isPage ∈ AW := aw_t2 179 rfl rfl
theorem st_X5_isPage : Cond.static yX5_isPage ∈ AW := aw_t2 180 rfl rfl
theorem co_X5_isPage : Cond.code yX5_isPage cX5_isPage 2 (some .boolean) ∈ AW := aw_t2 181 rfl rfl
theorem ml_RX5_36 : Cond.methodLink RX5 36 yX5_in ∈ AW := aw_t2 182 rfl rfl
theorem st_X5_in : Cond.static yX5_in ∈ AW := aw_t2 183 rfl rfl
theorem co_X5_in : Cond.code yX5_in cX5_in 3 (some .boolean) ∈ AW := aw_t2 184 rfl rfl
theorem ml_RX5_92 : Cond.methodLink RX5 92 yX5_whyNotWrite ∈ AW := aw_t2 185 rfl rfl
theorem im_X5_whyNotWrite : Cond.instanceMethod yX5_whyNotWrite ∈ AW := aw_t2 187 rfl rfl
theorem co_X5_whyNotWrite : Cond.code yX5_whyNotWrite cX5_whyNotWrite 2 (some .int) ∈ AW := aw_t2 188 rfl rfl
theorem ml_RX5_95 : Cond.methodLink RX5 95 yX5_writeNow ∈ AW := aw_t2 189 rfl rfl
theorem im_X5_writeNow : Cond.instanceMethod yX5_writeNow ∈ AW := aw_t2 191 rfl rfl
theorem co_X5_writeNow : Cond.code yX5_writeNow cX5_writeNow 3 (some .int) ∈ AW := aw_t2 192 rfl rfl
theorem ml_RL_22 : Cond.methodLink RL 22 yX5_giveBack ∈ AW := aw_t2 193 rfl rfl
theorem im_X5_giveBack : Cond.instanceMethod yX5_giveBack ∈ AW := aw_t2 194 rfl rfl
theorem se_X5_giveBack : Cond.selects RX5 yX5_giveBack yX5_giveBack ∈ AW := aw_t2 195 rfl rfl
theorem co_X5_giveBack : Cond.code yX5_giveBack cX5_giveBack 4 (some .int) ∈ AW := aw_t2 196 rfl rfl
theorem ml_RX5_98 : Cond.methodLink RX5 98 yX5_giveBackNow ∈ AW := aw_t2 197 rfl rfl
theorem im_X5_giveBackNow : Cond.instanceMethod yX5_giveBackNow ∈ AW := aw_t2 199 rfl rfl
theorem co_X5_giveBackNow : Cond.code yX5_giveBackNow cX5_giveBackNow 2 (none) ∈ AW := aw_t2 200 rfl rfl
theorem ml_RL_27 : Cond.methodLink RL 27 yX5_pin ∈ AW := aw_t2 201 rfl rfl
theorem im_X5_pin : Cond.instanceMethod yX5_pin ∈ AW := aw_t2 202 rfl rfl
theorem se_X5_pin : Cond.selects RX5 yX5_pin yX5_pin ∈ AW := aw_t2 203 rfl rfl
theorem co_X5_pin : Cond.code yX5_pin cX5_pin 6 (some .int) ∈ AW := aw_t2 204 rfl rfl
theorem ml_RX5_101 : Cond.methodLink RX5 101 yX5_pinNow ∈ AW := aw_t2 205 rfl rfl
theorem im_X5_pinNow : Cond.instanceMethod yX5_pinNow ∈ AW := aw_t2 207 rfl rfl
theorem co_X5_pinNow : Cond.code yX5_pinNow cX5_pinNow 3 (none) ∈ AW := aw_t2 208 rfl rfl
theorem ml_RX5_104 : Cond.methodLink RX5 104 yX5_pinned ∈ AW := aw_t2 209 rfl rfl
theorem im_X5_pinned : Cond.instanceMethod yX5_pinned ∈ AW := aw_t2 211 rfl rfl
theorem co_X5_pinned : Cond.code yX5_pinned cX5_pinned 5 (some .int) ∈ AW := aw_t2 212 rfl rfl
theorem ml_RL_32 : Cond.methodLink RL 32 yX5_error ∈ AW := aw_t2 213 rfl rfl
theorem im_X5_error : Cond.instanceMethod yX5_error ∈ AW := aw_t2 214 rfl rfl
theorem se_X5_error : Cond.selects RX5 yX5_error yX5_error ∈ AW := aw_t2 215 rfl rfl
theorem co_X5_error : Cond.code yX5_error cX5_error 3 (some .int) ∈ AW := aw_t2 216 rfl rfl
theorem ml_RX5_110 : Cond.methodLink RX5 110 yX5_whyNotError ∈ AW := aw_t2 217 rfl rfl
theorem im_X5_whyNotError : Cond.instanceMethod yX5_whyNotError ∈ AW := aw_t2 219 rfl rfl
theorem co_X5_whyNotError : Cond.code yX5_whyNotError cX5_whyNotError 2 (some .int) ∈ AW := aw_t2 220 rfl rfl
theorem ml_RX5_107 : Cond.methodLink RX5 107 yX5_isCell ∈ AW := aw_t2 221 rfl rfl
theorem st_X5_isCell : Cond.static yX5_isCell ∈ AW := aw_t2 222 rfl rfl
theorem co_X5_isCell : Cond.code yX5_isCell cX5_isCell 1 (some .boolean) ∈ AW := aw_t2 223 rfl rfl
theorem ml_RX5_113 : Cond.methodLink RX5 113 yX5_errorNow ∈ AW := aw_t2 224 rfl rfl
theorem im_X5_errorNow : Cond.instanceMethod yX5_errorNow ∈ AW := aw_t2 226 rfl rfl
theorem co_X5_errorNow : Cond.code yX5_errorNow cX5_errorNow 3 (some .int) ∈ AW := aw_t2 227 rfl rfl
theorem ml_RL_36 : Cond.methodLink RL 36 yX5_hardError ∈ AW := aw_t2 228 rfl rfl
theorem im_X5_hardError : Cond.instanceMethod yX5_hardError ∈ AW := aw_t2 229 rfl rfl
theorem se_X5_hardError : Cond.selects RX5 yX5_hardError yX5_hardError ∈ AW := aw_t2 230 rfl rfl
theorem co_X5_hardError : Cond.code yX5_hardError cX5_hardError 3 (some .int) ∈ AW := aw_t2 231 rfl rfl
theorem ml_RX5_116 : Cond.methodLink RX5 116 yX5_hardNow ∈ AW := aw_t2 232 rfl rfl
theorem im_X5_hardNow : Cond.instanceMethod yX5_hardNow ∈ AW := aw_t2 234 rfl rfl
theorem co_X5_hardNow : Cond.code yX5_hardNow cX5_hardNow 4 (some .int) ∈ AW := aw_t2 235 rfl rfl
theorem ml_RL_41 : Cond.methodLink RL 41 yX5_start ∈ AW := aw_t2 236 rfl rfl
theorem im_X5_start : Cond.instanceMethod yX5_start ∈ AW := aw_t2 237 rfl rfl
theorem se_X5_start : Cond.selects RX5 yX5_start yX5_start ∈ AW := aw_t2 238 rfl rfl
theorem co_X5_start : Cond.code yX5_start cX5_start 1 (some .int) ∈ AW := aw_t2 239 rfl rfl
theorem ml_RX5_119 : Cond.methodLink RX5 119 yX5_startNow ∈ AW := aw_t3 0 rfl rfl
theorem im_X5_startNow : Cond.instanceMethod yX5_startNow ∈ AW := aw_t3 2 rfl rfl
theorem co_X5_startNow : Cond.code yX5_startNow cX5_startNow 2 (none) ∈ AW := aw_t3 3 rfl rfl
theorem ml_RL_45 : Cond.methodLink RL 45 yX5_pass ∈ AW := aw_t3 4 rfl rfl
theorem im_X5_pass : Cond.instanceMethod yX5_pass ∈ AW := aw_t3 5 rfl rfl
theorem se_X5_pass : Cond.selects RX5 yX5_pass yX5_pass ∈ AW := aw_t3 6 rfl rfl
theorem co_X5_pass : Cond.code yX5_pass cX5_pass 3 (some .int) ∈ AW := aw_t3 7 rfl rfl
theorem ml_RX5_126 : Cond.methodLink RX5 126 yX5_whyNotPass ∈ AW := aw_t3 8 rfl rfl
theorem im_X5_whyNotPass : Cond.instanceMethod yX5_whyNotPass ∈ AW := aw_t3 10 rfl rfl
theorem co_X5_whyNotPass : Cond.code yX5_whyNotPass cX5_whyNotPass 2 (some .int) ∈ AW := aw_t3 11 rfl rfl
theorem ml_RX5_129 : Cond.methodLink RX5 129 yX5_passNow ∈ AW := aw_t3 12 rfl rfl
theorem im_X5_passNow : Cond.instanceMethod yX5_passNow ∈ AW := aw_t3 14 rfl rfl
theorem co_X5_passNow : Cond.code yX5_passNow cX5_passNow 4 (some .int) ∈ AW := aw_t3 15 rfl rfl
theorem ml_RX5_122 : Cond.methodLink RX5 122 yX5_waiting ∈ AW := aw_t3 16 rfl rfl
theorem im_X5_waiting : Cond.instanceMethod yX5_waiting ∈ AW := aw_t3 18 rfl rfl
theorem co_X5_waiting : Cond.code yX5_waiting cX5_waiting 3 (some .int) ∈ AW := aw_t3 19 rfl rfl
theorem ml_RL_49 : Cond.methodLink RL 49 yX5_set ∈ AW := aw_t3 20 rfl rfl
theorem im_X5_set : Cond.instanceMethod yX5_set ∈ AW := aw_t3 21 rfl rfl
theorem se_X5_set : Cond.selects RX5 yX5_set yX5_set ∈ AW := aw_t3 22 rfl rfl
theorem co_X5_set : Cond.code yX5_set cX5_set 4 (some .int) ∈ AW := aw_t3 23 rfl rfl
theorem ml_RL_54 : Cond.methodLink RL 54 yX5_type ∈ AW := aw_t3 24 rfl rfl
theorem im_X5_type : Cond.instanceMethod yX5_type ∈ AW := aw_t3 25 rfl rfl
theorem se_X5_type : Cond.selects RX5 yX5_type yX5_type ∈ AW := aw_t3 26 rfl rfl
theorem co_X5_type : Cond.code yX5_type cX5_type 2 (some .int) ∈ AW := aw_t3 27 rfl rfl
theorem ml_RL_58 : Cond.methodLink RL 58 yX5_clearText ∈ AW := aw_t3 28 rfl rfl
theorem im_X5_clearText : Cond.instanceMethod yX5_clearText ∈ AW := aw_t3 29 rfl rfl
theorem se_X5_clearText : Cond.selects RX5 yX5_clearText yX5_clearText ∈ AW := aw_t3 30 rfl rfl
theorem co_X5_clearText : Cond.code yX5_clearText cX5_clearText 2 (some .int) ∈ AW := aw_t3 31 rfl rfl
theorem ml_RL_62 : Cond.methodLink RL 62 yX5_perform ∈ AW := aw_t3 32 rfl rfl
theorem im_X5_perform : Cond.instanceMethod yX5_perform ∈ AW := aw_t3 33 rfl rfl
theorem se_X5_perform : Cond.selects RX5 yX5_perform yX5_perform ∈ AW := aw_t3 34 rfl rfl
theorem co_X5_perform : Cond.code yX5_perform cX5_perform 3 (some .int) ∈ AW := aw_t3 35 rfl rfl
theorem ml_RX5_157 : Cond.methodLink RX5 157 yX5_readText ∈ AW := aw_t3 36 rfl rfl
theorem im_X5_readText : Cond.instanceMethod yX5_readText ∈ AW := aw_t3 38 rfl rfl
theorem co_X5_readText : Cond.code yX5_readText cX5_readText 2 (some .boolean) ∈ AW := aw_t3 39 rfl rfl
theorem ml_RX5_153 : Cond.methodLink RX5 153 yX5_readThing ∈ AW := aw_t3 40 rfl rfl
theorem im_X5_readThing : Cond.instanceMethod yX5_readThing ∈ AW := aw_t3 42 rfl rfl
theorem co_X5_readThing : Cond.code yX5_readThing cX5_readThing 5 (some .boolean) ∈ AW := aw_t3 43 rfl rfl
theorem ml_RX5_147 : Cond.methodLink RX5 147 yX5_readPage ∈ AW := aw_t3 44 rfl rfl
theorem im_X5_readPage : Cond.instanceMethod yX5_readPage ∈ AW := aw_t3 46 rfl rfl
theorem co_X5_readPage : Cond.code yX5_readPage cX5_readPage 3 (some .int) ∈ AW := aw_t3 47 rfl rfl
theorem ml_RX5_141 : Cond.methodLink RX5 141 yX5_number ∈ AW := aw_t3 48 rfl rfl
theorem im_X5_number : Cond.instanceMethod yX5_number ∈ AW := aw_t3 50 rfl rfl
theorem co_X5_number : Cond.code yX5_number cX5_number 4 (some .int) ∈ AW := aw_t3 51 rfl rfl
theorem ml_RX5_138 : Cond.methodLink RX5 138 yX5_sees ∈ AW := aw_t3 52 rfl rfl
theorem im_X5_sees : Cond.instanceMethod yX5_sees ∈ AW := aw_t3 54 rfl rfl
theorem co_X5_sees : Cond.code yX5_sees cX5_sees 3 (some .boolean) ∈ AW := aw_t3 55 rfl rfl
theorem ml_RX5_150 : Cond.methodLink RX5 150 yX5_takes ∈ AW := aw_t3 56 rfl rfl
theorem im_X5_takes : Cond.instanceMethod yX5_takes ∈ AW := aw_t3 58 rfl rfl
theorem co_X5_takes : Cond.code yX5_takes cX5_takes 3 (some .boolean) ∈ AW := aw_t3 59 rfl rfl
theorem ml_RX5_160 : Cond.methodLink RX5 160 yX5_whyNot ∈ AW := aw_t3 60 rfl rfl
theorem im_X5_whyNot : Cond.instanceMethod yX5_whyNot ∈ AW := aw_t3 62 rfl rfl
theorem co_X5_whyNot : Cond.code yX5_whyNot cX5_whyNot 3 (some .int) ∈ AW := aw_t3 63 rfl rfl
theorem ml_RX5_169 : Cond.methodLink RX5 169 yX5_doThing ∈ AW := aw_t3 64 rfl rfl
theorem im_X5_doThing : Cond.instanceMethod yX5_doThing ∈ AW := aw_t3 66 rfl rfl
theorem co_X5_doThing : Cond.code yX5_doThing cX5_doThing 3 (none) ∈ AW := aw_t3 67 rfl rfl
theorem ml_RL_66 : Cond.methodLink RL 66 yX5_stopped ∈ AW := aw_t3 68 rfl rfl
theorem im_X5_stopped : Cond.instanceMethod yX5_stopped ∈ AW := aw_t3 69 rfl rfl
theorem se_X5_stopped : Cond.selects RX5 yX5_stopped yX5_stopped ∈ AW := aw_t3 70 rfl rfl
theorem co_X5_stopped : Cond.code yX5_stopped cX5_stopped 2 (some .int) ∈ AW := aw_t3 71 rfl rfl
theorem ml_RL_82 : Cond.methodLink RL 82 yX5_page ∈ AW := aw_t3 72 rfl rfl
theorem im_X5_page : Cond.instanceMethod yX5_page ∈ AW := aw_t3 73 rfl rfl
theorem se_X5_page : Cond.selects RX5 yX5_page yX5_page ∈ AW := aw_t3 74 rfl rfl
theorem co_X5_page : Cond.code yX5_page cX5_page 4 (some .int) ∈ AW := aw_t3 75 rfl rfl
theorem ml_RL_86 : Cond.methodLink RL 86 yX5_program ∈ AW := aw_t3 76 rfl rfl
theorem im_X5_program : Cond.instanceMethod yX5_program ∈ AW := aw_t3 77 rfl rfl
theorem se_X5_program : Cond.selects RX5 yX5_program yX5_program ∈ AW := aw_t3 78 rfl rfl
theorem co_X5_program : Cond.code yX5_program cX5_program 3 (some .int) ∈ AW := aw_t3 79 rfl rfl
theorem ml_RX5_172 : Cond.methodLink RX5 172 yX5_withCells ∈ AW := aw_t3 80 rfl rfl
theorem im_X5_withCells : Cond.instanceMethod yX5_withCells ∈ AW := aw_t3 82 rfl rfl
theorem co_X5_withCells : Cond.code yX5_withCells cX5_withCells 5 (some .int) ∈ AW := aw_t3 83 rfl rfl
theorem ml_RL_90 : Cond.methodLink RL 90 yX5_cell ∈ AW := aw_t3 84 rfl rfl
theorem im_X5_cell : Cond.instanceMethod yX5_cell ∈ AW := aw_t3 85 rfl rfl
theorem se_X5_cell : Cond.selects RX5 yX5_cell yX5_cell ∈ AW := aw_t3 86 rfl rfl
theorem co_X5_cell : Cond.code yX5_cell cX5_cell 4 (some .int) ∈ AW := aw_t3 87 rfl rfl
theorem ml_RX5_175 : Cond.methodLink RX5 175 yX5_placeOnList ∈ AW := aw_t3 88 rfl rfl
theorem im_X5_placeOnList : Cond.instanceMethod yX5_placeOnList ∈ AW := aw_t3 90 rfl rfl
theorem co_X5_placeOnList : Cond.code yX5_placeOnList cX5_placeOnList 4 (some .int) ∈ AW := aw_t3 91 rfl rfl
theorem ml_RL_94 : Cond.methodLink RL 94 yX5_list ∈ AW := aw_t3 92 rfl rfl
theorem im_X5_list : Cond.instanceMethod yX5_list ∈ AW := aw_t3 93 rfl rfl
theorem se_X5_list : Cond.selects RX5 yX5_list yX5_list ∈ AW := aw_t3 94 rfl rfl
theorem co_X5_list : Cond.code yX5_list cX5_list 2 (some .int) ∈ AW := aw_t3 95 rfl rfl
theorem ml_RL_98 : Cond.methodLink RL 98 yX5_next ∈ AW := aw_t3 96 rfl rfl
theorem im_X5_next : Cond.instanceMethod yX5_next ∈ AW := aw_t3 97 rfl rfl
theorem se_X5_next : Cond.selects RX5 yX5_next yX5_next ∈ AW := aw_t3 98 rfl rfl
theorem co_X5_next : Cond.code yX5_next cX5_next 1 (some .int) ∈ AW := aw_t3 99 rfl rfl
theorem ml_RL_102 : Cond.methodLink RL 102 yX5_reason ∈ AW := aw_t3 100 rfl rfl
theorem im_X5_reason : Cond.instanceMethod yX5_reason ∈ AW := aw_t3 101 rfl rfl
theorem se_X5_reason : Cond.selects RX5 yX5_reason yX5_reason ∈ AW := aw_t3 102 rfl rfl
theorem co_X5_reason : Cond.code yX5_reason cX5_reason 3 (some .int) ∈ AW := aw_t3 103 rfl rfl
theorem ml_RL_106 : Cond.methodLink RL 106 yX5_errorsLeft ∈ AW := aw_t3 104 rfl rfl
theorem im_X5_errorsLeft : Cond.instanceMethod yX5_errorsLeft ∈ AW := aw_t3 105 rfl rfl
theorem se_X5_errorsLeft : Cond.selects RX5 yX5_errorsLeft yX5_errorsLeft ∈ AW := aw_t3 106 rfl rfl
theorem co_X5_errorsLeft : Cond.code yX5_errorsLeft cX5_errorsLeft 5 (some .int) ∈ AW := aw_t3 107 rfl rfl
theorem ml_RL_110 : Cond.methodLink RL 110 yX5_worst ∈ AW := aw_t3 108 rfl rfl
theorem im_X5_worst : Cond.instanceMethod yX5_worst ∈ AW := aw_t3 109 rfl rfl
theorem se_X5_worst : Cond.selects RX5 yX5_worst yX5_worst ∈ AW := aw_t3 110 rfl rfl
theorem co_X5_worst : Cond.code yX5_worst cX5_worst 4 (some .int) ∈ AW := aw_t3 111 rfl rfl
theorem ml_RL_114 : Cond.methodLink RL 114 yX5_ifStarted ∈ AW := aw_t3 112 rfl rfl
theorem im_X5_ifStarted : Cond.instanceMethod yX5_ifStarted ∈ AW := aw_t3 113 rfl rfl
theorem se_X5_ifStarted : Cond.selects RX5 yX5_ifStarted yX5_ifStarted ∈ AW := aw_t3 114 rfl rfl
theorem co_X5_ifStarted : Cond.code yX5_ifStarted cX5_ifStarted 1 (some .int) ∈ AW := aw_t3 115 rfl rfl
theorem ml_RL_118 : Cond.methodLink RL 118 yX5_count ∈ AW := aw_t3 116 rfl rfl
theorem im_X5_count : Cond.instanceMethod yX5_count ∈ AW := aw_t3 117 rfl rfl
theorem se_X5_count : Cond.selects RX5 yX5_count yX5_count ∈ AW := aw_t3 118 rfl rfl
theorem co_X5_count : Cond.code yX5_count cX5_count 2 (some .int) ∈ AW := aw_t3 119 rfl rfl
theorem se_X1_hasCell : Cond.selects RX1 yX1_hasCell yX1_hasCell ∈ AW := aw_p (q := (yX1_hasCell, 17)) 0 (by decide +kernel)
theorem se_X1_isGivable : Cond.selects RX1 yX1_isGivable yX1_isGivable ∈ AW := aw_p (q := (yX1_isGivable, 17)) 1 (by decide +kernel)
theorem se_X1_give : Cond.selects RX1 yX1_give yX1_give ∈ AW := aw_p (q := (yX1_give, 17)) 2 (by decide +kernel)
theorem se_X1_waits : Cond.selects RX1 yX1_waits yX1_waits ∈ AW := aw_p (q := (yX1_waits, 17)) 3 (by decide +kernel)
theorem se_X1_isBad : Cond.selects RX1 yX1_isBad yX1_isBad ∈ AW := aw_p (q := (yX1_isBad, 17)) 4 (by decide +kernel)
theorem se_X1_canRetire : Cond.selects RX1 yX1_canRetire yX1_canRetire ∈ AW := aw_p (q := (yX1_canRetire, 17)) 5 (by decide +kernel)
theorem se_X1_moveAwayFrom : Cond.selects RX1 yX1_moveAwayFrom yX1_moveAwayFrom ∈ AW := aw_p (q := (yX1_moveAwayFrom, 17)) 6 (by decide +kernel)
theorem se_X1_retire : Cond.selects RX1 yX1_retire yX1_retire ∈ AW := aw_p (q := (yX1_retire, 17)) 7 (by decide +kernel)
theorem se_X4_recorded : Cond.selects RX4 yX4_recorded yX4_recorded ∈ AW := aw_p (q := (yX4_recorded, 9)) 8 (by decide +kernel)
theorem se_X1_release : Cond.selects RX1 yX1_release yX1_release ∈ AW := aw_p (q := (yX1_release, 17)) 9 (by decide +kernel)
theorem se_X1_pinnedPages : Cond.selects RX1 yX1_pinnedPages yX1_pinnedPages ∈ AW := aw_p (q := (yX1_pinnedPages, 17)) 10 (by decide +kernel)
theorem se_X1_pinnedPagesOf : Cond.selects RX1 yX1_pinnedPagesOf yX1_pinnedPagesOf ∈ AW := aw_p (q := (yX1_pinnedPagesOf, 17)) 11 (by decide +kernel)
theorem se_X1_loseWhatLiesIn : Cond.selects RX1 yX1_loseWhatLiesIn yX1_loseWhatLiesIn ∈ AW := aw_p (q := (yX1_loseWhatLiesIn, 17)) 12 (by decide +kernel)
theorem se_X1_placeOnList : Cond.selects RX1 yX1_placeOnList yX1_placeOnList ∈ AW := aw_p (q := (yX1_placeOnList, 17)) 13 (by decide +kernel)
theorem se_X1_freeCells : Cond.selects RX1 yX1_freeCells yX1_freeCells ∈ AW := aw_p (q := (yX1_freeCells, 17)) 14 (by decide +kernel)
theorem se_X1_cellsThatAre : Cond.selects RX1 yX1_cellsThatAre yX1_cellsThatAre ∈ AW := aw_p (q := (yX1_cellsThatAre, 17)) 15 (by decide +kernel)
theorem se_X1_howCellIs : Cond.selects RX1 yX1_howCellIs yX1_howCellIs ∈ AW := aw_p (q := (yX1_howCellIs, 17)) 16 (by decide +kernel)
theorem se_X1_isForgettingDay : Cond.selects RX1 yX1_isForgettingDay yX1_isForgettingDay ∈ AW := aw_p (q := (yX1_isForgettingDay, 17)) 17 (by decide +kernel)
theorem se_X1_forgetErrors : Cond.selects RX1 yX1_forgetErrors yX1_forgetErrors ∈ AW := aw_p (q := (yX1_forgetErrors, 17)) 18 (by decide +kernel)
theorem se_X1_waitingCells : Cond.selects RX1 yX1_waitingCells yX1_waitingCells ∈ AW := aw_p (q := (yX1_waitingCells, 17)) 19 (by decide +kernel)
theorem se_X2_readThing : Cond.selects RX2 yX2_readThing yX2_readThing ∈ AW := aw_p (q := (yX2_readThing, 6)) 20 (by decide +kernel)
theorem se_X2_readKind : Cond.selects RX2 yX2_readKind yX2_readKind ∈ AW := aw_p (q := (yX2_readKind, 6)) 21 (by decide +kernel)
theorem se_X2_readSign : Cond.selects RX2 yX2_readSign yX2_readSign ∈ AW := aw_p (q := (yX2_readSign, 6)) 22 (by decide +kernel)
theorem se_X2_readPage : Cond.selects RX2 yX2_readPage yX2_readPage ∈ AW := aw_p (q := (yX2_readPage, 6)) 23 (by decide +kernel)
theorem se_X2_digitAt : Cond.selects RX2 yX2_digitAt yX2_digitAt ∈ AW := aw_p (q := (yX2_digitAt, 6)) 24 (by decide +kernel)
theorem se_X2_readNumber : Cond.selects RX2 yX2_readNumber yX2_readNumber ∈ AW := aw_p (q := (yX2_readNumber, 6)) 25 (by decide +kernel)
theorem se_X4_doThing : Cond.selects RX4 yX4_doThing yX4_doThing ∈ AW := aw_p (q := (yX4_doThing, 9)) 26 (by decide +kernel)
theorem se_X1_pagesWithCells : Cond.selects RX1 yX1_pagesWithCells yX1_pagesWithCells ∈ AW := aw_p (q := (yX1_pagesWithCells, 17)) 27 (by decide +kernel)
theorem se_X1_usedCells : Cond.selects RX1 yX1_usedCells yX1_usedCells ∈ AW := aw_p (q := (yX1_usedCells, 17)) 28 (by decide +kernel)
theorem se_X5_empty : Cond.selects RX5 yX5_empty yX5_empty ∈ AW := aw_p (q := (yX5_empty, 13)) 29 (by decide +kernel)
theorem se_X5_lay : Cond.selects RX5 yX5_lay yX5_lay ∈ AW := aw_p (q := (yX5_lay, 13)) 30 (by decide +kernel)
theorem se_X5_cells : Cond.selects RX5 yX5_cells yX5_cells ∈ AW := aw_p (q := (yX5_cells, 13)) 31 (by decide +kernel)
theorem se_X5_record : Cond.selects RX5 yX5_record yX5_record ∈ AW := aw_p (q := (yX5_record, 13)) 32 (by decide +kernel)
theorem se_X5_recordRow : Cond.selects RX5 yX5_recordRow yX5_recordRow ∈ AW := aw_p (q := (yX5_recordRow, 13)) 33 (by decide +kernel)
theorem se_X5_look : Cond.selects RX5 yX5_look yX5_look ∈ AW := aw_p (q := (yX5_look, 13)) 34 (by decide +kernel)
theorem se_X5_isBad : Cond.selects RX5 yX5_isBad yX5_isBad ∈ AW := aw_p (q := (yX5_isBad, 13)) 35 (by decide +kernel)
theorem se_X5_pageIn : Cond.selects RX5 yX5_pageIn yX5_pageIn ∈ AW := aw_p (q := (yX5_pageIn, 13)) 36 (by decide +kernel)
theorem se_X5_of : Cond.selects RX5 yX5_of yX5_of ∈ AW := aw_p (q := (yX5_of, 13)) 37 (by decide +kernel)
theorem se_X5_given : Cond.selects RX5 yX5_given yX5_given ∈ AW := aw_p (q := (yX5_given, 13)) 38 (by decide +kernel)
theorem se_X5_retire : Cond.selects RX5 yX5_retire yX5_retire ∈ AW := aw_p (q := (yX5_retire, 13)) 39 (by decide +kernel)
theorem se_X5_give : Cond.selects RX5 yX5_give yX5_give ∈ AW := aw_p (q := (yX5_give, 13)) 40 (by decide +kernel)
theorem se_X5_whyNotWrite : Cond.selects RX5 yX5_whyNotWrite yX5_whyNotWrite ∈ AW := aw_p (q := (yX5_whyNotWrite, 13)) 41 (by decide +kernel)
theorem se_X5_writeNow : Cond.selects RX5 yX5_writeNow yX5_writeNow ∈ AW := aw_p (q := (yX5_writeNow, 13)) 42 (by decide +kernel)
theorem se_X5_giveBackNow : Cond.selects RX5 yX5_giveBackNow yX5_giveBackNow ∈ AW := aw_p (q := (yX5_giveBackNow, 13)) 43 (by decide +kernel)
theorem se_X5_pinNow : Cond.selects RX5 yX5_pinNow yX5_pinNow ∈ AW := aw_p (q := (yX5_pinNow, 13)) 44 (by decide +kernel)
theorem se_X5_pinned : Cond.selects RX5 yX5_pinned yX5_pinned ∈ AW := aw_p (q := (yX5_pinned, 13)) 45 (by decide +kernel)
theorem se_X5_whyNotError : Cond.selects RX5 yX5_whyNotError yX5_whyNotError ∈ AW := aw_p (q := (yX5_whyNotError, 13)) 46 (by decide +kernel)
theorem se_X5_errorNow : Cond.selects RX5 yX5_errorNow yX5_errorNow ∈ AW := aw_p (q := (yX5_errorNow, 13)) 47 (by decide +kernel)
theorem se_X5_hardNow : Cond.selects RX5 yX5_hardNow yX5_hardNow ∈ AW := aw_p (q := (yX5_hardNow, 13)) 48 (by decide +kernel)
theorem se_X5_startNow : Cond.selects RX5 yX5_startNow yX5_startNow ∈ AW := aw_p (q := (yX5_startNow, 13)) 49 (by decide +kernel)
theorem se_X5_whyNotPass : Cond.selects RX5 yX5_whyNotPass yX5_whyNotPass ∈ AW := aw_p (q := (yX5_whyNotPass, 13)) 50 (by decide +kernel)
theorem se_X5_passNow : Cond.selects RX5 yX5_passNow yX5_passNow ∈ AW := aw_p (q := (yX5_passNow, 13)) 51 (by decide +kernel)
theorem se_X5_waiting : Cond.selects RX5 yX5_waiting yX5_waiting ∈ AW := aw_p (q := (yX5_waiting, 13)) 52 (by decide +kernel)
theorem se_X5_readText : Cond.selects RX5 yX5_readText yX5_readText ∈ AW := aw_p (q := (yX5_readText, 13)) 53 (by decide +kernel)
theorem se_X5_readThing : Cond.selects RX5 yX5_readThing yX5_readThing ∈ AW := aw_p (q := (yX5_readThing, 13)) 54 (by decide +kernel)
theorem se_X5_readPage : Cond.selects RX5 yX5_readPage yX5_readPage ∈ AW := aw_p (q := (yX5_readPage, 13)) 55 (by decide +kernel)
theorem se_X5_number : Cond.selects RX5 yX5_number yX5_number ∈ AW := aw_p (q := (yX5_number, 13)) 56 (by decide +kernel)
theorem se_X5_sees : Cond.selects RX5 yX5_sees yX5_sees ∈ AW := aw_p (q := (yX5_sees, 13)) 57 (by decide +kernel)
theorem se_X5_takes : Cond.selects RX5 yX5_takes yX5_takes ∈ AW := aw_p (q := (yX5_takes, 13)) 58 (by decide +kernel)
theorem se_X5_whyNot : Cond.selects RX5 yX5_whyNot yX5_whyNot ∈ AW := aw_p (q := (yX5_whyNot, 13)) 59 (by decide +kernel)
theorem se_X5_doThing : Cond.selects RX5 yX5_doThing yX5_doThing ∈ AW := aw_p (q := (yX5_doThing, 13)) 60 (by decide +kernel)
theorem se_X5_withCells : Cond.selects RX5 yX5_withCells yX5_withCells ∈ AW := aw_p (q := (yX5_withCells, 13)) 61 (by decide +kernel)
theorem se_X5_placeOnList : Cond.selects RX5 yX5_placeOnList yX5_placeOnList ∈ AW := aw_p (q := (yX5_placeOnList, 13)) 62 (by decide +kernel)
theorem inlX0 : ∀ w ∈ wsX00, w ∈ AW := by
  have h : ∀ k, k < 3 → (tables_1[([88, 90, 92] : List Nat).getD k 0]? = some (u_lay RX0 TX0 k) ∧ goodWord (u_lay RX0 TX0 k) = true) := by decide +kernel
  intro w hw
  obtain ⟨k, hk, rfl⟩ := List.mem_map.mp hw
  exact aw_t _ (h k (List.mem_range.mp hk)).1 (h k (List.mem_range.mp hk)).2
theorem inlX1 : ∀ w ∈ wsX10, w ∈ AW := by
  have h : ∀ k, k < 17 → (tables_1[([39, 41, 43, 45, 47, 49, 51, 53, 55, 57, 59, 61, 63, 65, 67, 69, 71] : List Nat).getD k 0]? = some (u_lay RX1 TX1 k) ∧ goodWord (u_lay RX1 TX1 k) = true) := by decide +kernel
  intro w hw
  obtain ⟨k, hk, rfl⟩ := List.mem_map.mp hw
  exact aw_t _ (h k (List.mem_range.mp hk)).1 (h k (List.mem_range.mp hk)).2
theorem inlX2 : ∀ w ∈ wsX20, w ∈ AW := by
  have h : ∀ k, k < 6 → (tables_1[([121, 123, 125, 127, 129, 131] : List Nat).getD k 0]? = some (u_lay RX2 TX2 k) ∧ goodWord (u_lay RX2 TX2 k) = true) := by decide +kernel
  intro w hw
  obtain ⟨k, hk, rfl⟩ := List.mem_map.mp hw
  exact aw_t _ (h k (List.mem_range.mp hk)).1 (h k (List.mem_range.mp hk)).2
theorem inlX3 : ∀ w ∈ wsX30, w ∈ AW := by
  have h : ∀ k, k < 2 → (tables_1[([103, 105] : List Nat).getD k 0]? = some (u_lay RX3 TX3 k) ∧ goodWord (u_lay RX3 TX3 k) = true) := by decide +kernel
  intro w hw
  obtain ⟨k, hk, rfl⟩ := List.mem_map.mp hw
  exact aw_t _ (h k (List.mem_range.mp hk)).1 (h k (List.mem_range.mp hk)).2
theorem inlX4 : ∀ w ∈ wsX40, w ∈ AW := by
  have h : ∀ k, k < 9 → (tables_1[([143, 145, 147, 149, 151, 153, 155, 157, 159] : List Nat).getD k 0]? = some (u_lay RX4 TX4 k) ∧ goodWord (u_lay RX4 TX4 k) = true) := by decide +kernel
  intro w hw
  obtain ⟨k, hk, rfl⟩ := List.mem_map.mp hw
  exact aw_t _ (h k (List.mem_range.mp hk)).1 (h k (List.mem_range.mp hk)).2
theorem inlX5 : ∀ w ∈ wsX50, w ∈ AW := by
  have h : ∀ k, k < 13 → (tables_1[([573, 575, 577, 579, 581, 583, 585, 587, 589, 591, 593, 595, 597] : List Nat).getD k 0]? = some (u_lay RX5 TX5 k) ∧ goodWord (u_lay RX5 TX5 k) = true) := by decide +kernel
  intro w hw
  obtain ⟨k, hk, rfl⟩ := List.mem_map.mp hw
  exact aw_t _ (h k (List.mem_range.mp hk)).1 (h k (List.mem_range.mp hk)).2
end
section
/-! THE WORLD: a hundred cells at fixed addresses; what changes in them are ints: by cell and place -/
abbrev Mem : Type := Nat → Nat → Int32
def up2 (σ : Mem) (k i : Nat) (v : Int32) : Mem := fun a => if a = k then upd (σ k) i v else σ a
def cpA (σ : Mem) (a b n : Nat) : Mem := fun k => if k = b then va_cpy (σ a) (σ b) 0 0 n else σ k
abbrev EV : Type := va_G × (ClassId × ClassId × ClassId × ClassId) × (Nat → Nat)
def ad (V : EV) : Nat → Nat := V.2.2
abbrev clv : List vw_C := [(RX0, TX0, 3), (RX1, TX1, 17), (RX2, TX2, 6), (RX3, TX3, 2), (RX4, TX4, 9), (RX5, TX5, 13)]
abbrev tyv (V : EV) : List (ClassId × FieldType) := [(V.2.1.1, .int), (V.2.1.2.1, .boolean), (V.2.1.2.2.1, .char), (V.2.1.2.2.2, .object RX1)]
/-- a memory's cells: the object at b, its arrays behind it -/
def memE (V : EV) (σ : Mem) (b j : Nat) : va_E := match j with
  | 0 => .inr (1, [.ref (ad V (b + 1)), .ref (ad V (b + 2)), .ref (ad V (b + 3)), .ref (ad V (b + 4)), .ref (ad V (b + 5)), .ref (ad V (b + 6)), .ref (ad V (b + 7)), .ref (ad V (b + 8)), .ref (ad V (b + 9)), .ref (ad V (b + 10)), .int (σ b 10), .ref (ad V (b + 11)), .int (σ b 12), .int (σ b 13), .int (σ b 14), .int (σ b 15), .int (σ b 16)])
  | 1 => .inl (V.2.1.2.1, 40, .inl (σ (b + 1)))
  | 2 => .inl (V.2.1.1, 40, .inl (σ (b + 2)))
  | 3 => .inl (V.2.1.1, 40, .inl (σ (b + 3)))
  | 4 => .inl (V.2.1.1, 50, .inl (σ (b + 4)))
  | 5 => .inl (V.2.1.1, 50, .inl (σ (b + 5)))
  | 6 => .inl (V.2.1.2.1, 50, .inl (σ (b + 6)))
  | 7 => .inl (V.2.1.1, 50, .inl (σ (b + 7)))
  | 8 => .inl (V.2.1.1, 5, .inl (σ (b + 8)))
  | 9 => .inl (V.2.1.1, 5, .inl (σ (b + 9)))
  | 10 => .inl (V.2.1.1, 12, .inl (σ (b + 10)))
  | _ => .inl (V.2.1.1, 3, .inl (σ (b + 11)))
def othE (V : EV) (σ : Mem) (k : Nat) : va_E := match k with
  | 0 => .inr (4, [.ref (ad V 0), .ref (ad V 12), .ref (ad V 24), .int (σ 84 3), .ref (ad V 85), .ref (ad V 87), .ref (ad V 89), .int (σ 84 7), .int (σ 84 8)])
  | 1 => .inr (0, [.ref (ad V 86), .int (σ 85 1), .int (σ 85 2)])
  | 2 => .inl (V.2.1.2.2.2, 4, .inr (.inr (.inr (.inr (fun i => some (ad V (36 + 12 * i)))))))
  | 3 => .inr (3, [.ref (ad V 88), .int (σ 87 1)])
  | 4 => .inl (V.2.1.2.2.1, 60, .inl (σ 88))
  | 5 => .inr (2, [.ref (ad V 87), .ref (ad V 90), .ref (ad V 91), .ref (ad V 92), .int (σ 89 4), .int (σ 89 5)])
  | 6 => .inl (V.2.1.2.2.1, 30, .inl (σ 90))
  | 7 => .inl (V.2.1.1, 30, .inl (σ 91))
  | 8 => .inl (V.2.1.1, 30, .inl (σ 92))
  | 9 => .inr (5, [.ref (ad V 94), .ref (ad V 95), .ref (ad V 96), .int (σ 93 3), .ref (ad V 97), .int (σ 93 5), .ref (ad V 98), .int (σ 93 7), .int (σ 93 8), .int (σ 93 9), .ref (ad V 99), .int (σ 93 11), .int (σ 93 12)])
  | 10 => .inl (V.2.1.1, 313, .inl (σ 94))
  | 11 => .inl (V.2.1.1, 313, .inl (σ 95))
  | 12 => .inl (V.2.1.1, 1252, .inl (σ 96))
  | 13 => .inl (V.2.1.1, 313, .inl (σ 97))
  | 14 => .inl (V.2.1.1, 60, .inl (σ 98))
  | 15 => .inl (V.2.1.1, 93, .inl (σ 99))
  | _ => .inr (0, [])
def ent (V : EV) (σ : Mem) (k : Nat) : va_E := if k < 84 then memE V σ (12 * (k / 12)) (k % 12) else othE V σ (k - 84)
def wsOf (V : EV) (σ : Mem) : va_W := (List.range 100).map (fun k => (ad V k, ent V σ k))
theorem ws_at (V : EV) (σ : Mem) {k : Nat} (hk : k < 100) : (wsOf V σ)[k]? = some (ad V k, ent V σ k) := by
  simp [wsOf, hk]
theorem ws_inv {V : EV} {σ : Mem} {k : Nat} {q : Nat × va_E} (h : (wsOf V σ)[k]? = some q) : k < 100 ∧ q = (ad V k, ent V σ k) := by
  have hk : k < 100 := by
    have := (List.getElem?_eq_some_iff.mp h).1
    simpa [wsOf] using this
  rw [ws_at V σ hk] at h
  exact ⟨hk, (Option.some.inj h).symm⟩
theorem ent_mem (V : EV) (σ : Mem) {b j : Nat} (hb : b % 12 = 0) (h84 : b < 84) (hj : j < 12) : ent V σ (b + j) = memE V σ b j := by
  have h1 : 12 * ((b + j) / 12) = b := by omega
  have h2 : (b + j) % 12 = j := by omega
  unfold ent
  rw [if_pos (by omega), h1, h2]
theorem ent_oth (V : EV) (σ : Mem) {k : Nat} (hk : 84 ≤ k) : ent V σ k = othE V σ (k - 84) := by
  unfold ent
  rw [if_neg (by omega)]
theorem ent_congr (V : EV) {σ τ : Mem} {k : Nat} (hk : k < 100) (h : σ k = τ k) : ent V σ k = ent V τ k := by
  by_cases h84 : k < 84
  · obtain ⟨b, j, hb, hb84, hj, rfl⟩ : ∃ b j, b % 12 = 0 ∧ b < 84 ∧ j < 12 ∧ k = b + j := ⟨12 * (k / 12), k % 12, by omega, by omega, by omega, by omega⟩
    rw [ent_mem V σ hb hb84 hj, ent_mem V τ hb hb84 hj]
    rcases (show j = 0 ∨ j = 1 ∨ j = 2 ∨ j = 3 ∨ j = 4 ∨ j = 5 ∨ j = 6 ∨ j = 7 ∨ j = 8 ∨ j = 9 ∨ j = 10 ∨ j = 11 by omega) with rfl | rfl | rfl | rfl | rfl | rfl | rfl | rfl | rfl | rfl | rfl | rfl <;> simp only [memE] <;> (try simp only [Nat.add_zero] at h) <;> rw [h]
  · rw [ent_oth V σ (by omega), ent_oth V τ (by omega)]
    obtain ⟨j, hj, rfl⟩ : ∃ j, j < 16 ∧ k = 84 + j := ⟨k - 84, by omega, by omega⟩
    rcases (show j = 0 ∨ j = 1 ∨ j = 2 ∨ j = 3 ∨ j = 4 ∨ j = 5 ∨ j = 6 ∨ j = 7 ∨ j = 8 ∨ j = 9 ∨ j = 10 ∨ j = 11 ∨ j = 12 ∨ j = 13 ∨ j = 14 ∨ j = 15 by omega) with rfl | rfl | rfl | rfl | rfl | rfl | rfl | rfl | rfl | rfl | rfl | rfl | rfl | rfl | rfl | rfl <;> simp only [othE] <;> (try simp only [Nat.reduceAdd, Nat.add_zero] at h) <;> (try rw [h])
theorem up2_ne (σ : Mem) {k i : Nat} {v : Int32} {a : Nat} (h : a ≠ k) : up2 σ k i v a = σ a := by simp [up2, h]
theorem up2_eq (σ : Mem) (k i : Nat) (v : Int32) : up2 σ k i v k = upd (σ k) i v := by simp [up2]
theorem cpA_ne (σ : Mem) {a b n k : Nat} (h : k ≠ b) : cpA σ a b n k = σ k := by simp [cpA, h]
theorem cpA_eq (σ : Mem) (a b n : Nat) : cpA σ a b n b = va_cpy (σ a) (σ b) 0 0 n := by simp [cpA]
theorem ws_set (V : EV) {σ τ : Mem} {k : Nat} {e : va_E} (hk : k < 100) (he : ent V τ k = e) (ho : ∀ j, j ≠ k → τ j = σ j) : (wsOf V σ).set k (ad V k, e) = wsOf V τ := by
  apply List.ext_getElem?
  intro j
  by_cases hj : j < 100
  · by_cases hjk : j = k
    · subst hjk
      rw [List.getElem?_set_self (by simpa [wsOf] using hj), ws_at V τ hj, he]
    · rw [List.getElem?_set_ne (Ne.symm hjk), ws_at V σ hj, ws_at V τ hj, ent_congr V hj (ho j hjk)]
  · rw [List.getElem?_eq_none (by simpa [wsOf] using hj), List.getElem?_eq_none (by simpa [wsOf] using hj)]
/-! the locals: a list, a place a local; none where nothing is known -/
def lh (ls : Array Slot) (L : List (Option Value)) : Prop := ls.size = L.length ∧ lv_wf ls ∧ ∀ (i : Nat) (v : Value), L[i]? = some (some v) → ls[i]? = some (.val v) ∧ v.category = 1
theorem lh_store {ls : Array Slot} {L : List (Option Value)} {i : Nat} {v : Value} (h : lh ls L) (hi : i < L.length) (hc : v.category = 1) : ∃ ls', storeLocals ls i v = some ls' ∧ lh ls' (L.set i (some v)) := by
  obtain ⟨hs, hw, hl⟩ := h
  let l : List (Nat × Value) := (List.range L.length).filterMap (fun j => match L[j]? with | some (some w) => some (j, w) | _ => none)
  have hmem : ∀ j w, (j, w) ∈ l ↔ L[j]? = some (some w) := by
    intro j w
    constructor
    · intro hm
      obtain ⟨k, -, hk⟩ := List.mem_filterMap.mp hm
      split at hk
      · next w' hw' =>
        cases hk
        exact hw'
      · cases hk
    · intro hj
      refine List.mem_filterMap.mpr ⟨j, List.mem_range.mpr (List.getElem?_eq_some_iff.mp hj).1, ?_⟩
      rw [hj]
  obtain ⟨ls', e, h1, h2, h3⟩ := lv_store1 (v := v) (l := l) ⟨rfl, hw, fun q hq => (hl q.1 q.2 ((hmem q.1 q.2).mp hq)).1⟩ (by rw [hs]; exact hi) hc
  refine ⟨ls', e, by rw [h1, hs, List.length_set], h2, fun j w hj => ?_⟩
  by_cases hji : j = i
  · subst hji
    rw [List.getElem?_set_self hi] at hj
    cases hj
    exact ⟨h3 (j, v) List.mem_cons_self, hc⟩
  · rw [List.getElem?_set_ne (Ne.symm hji)] at hj
    have hcw := (hl j w hj).2
    refine ⟨h3 (j, w) (List.mem_cons_of_mem _ (List.mem_filter.mpr ⟨(hmem j w).mpr hj, ?_⟩)), hcw⟩
    simp [hji, hcw]
theorem lv_args_at : ∀ (vs : List Value) (k : Nat), (∀ v ∈ vs, v.category = 1) → ∀ (i : Nat) (v : Value), vs[i]? = some v → (k + i, v) ∈ lv_args k vs
  | [], k, _, i, v, h => by simp at h
  | w :: vs, k, hc, i, v, h => by
    have hw : ¬ w.category = 2 := by rw [hc w List.mem_cons_self]; decide
    simp only [lv_args, if_neg hw]
    cases i with
    | zero => cases h; exact List.mem_cons_self
    | succ i =>
      rw [show k + (i + 1) = (k + 1) + i by omega]
      exact List.mem_cons_of_mem _ (lv_args_at vs (k + 1) (fun v hv => hc v (List.mem_cons_of_mem _ hv)) i v h)
theorem lg_sl_len : ∀ (vs : List Value), (∀ v ∈ vs, v.category = 1) → (lg_sl vs).length = vs.length
  | [], _ => rfl
  | w :: vs, hc => by
    have hw : ¬ w.category = 2 := by rw [hc w List.mem_cons_self]; decide
    have ih := lg_sl_len vs (fun v hv => hc v (List.mem_cons_of_mem _ hv))
    simp only [lg_sl, List.flatMap_cons, if_neg hw, List.length_append, List.length_cons, List.length_nil]
    simp only [lg_sl] at ih
    rw [ih]
    omega
theorem lh_entry (vs : List Value) {n : Nat} (hc : ∀ v ∈ vs, v.category = 1) (h : vs.length ≤ n) : lh ((lg_sl vs ++ List.replicate (n - (lg_sl vs).length) Slot.unset).toArray) (vs.map some ++ List.replicate (n - vs.length) none) := by
  have h2 := lv_entry vs (n := n) (by rw [lg_sl_len vs hc]; exact h)
  refine ⟨by rw [h2.1]; simp; omega, h2.2.1, fun i v hv => ?_⟩
  have hi : vs[i]? = some v := by
    by_cases hl : i < (vs.map some).length
    · rw [List.getElem?_append_left hl, List.getElem?_map] at hv
      cases hq : vs[i]? with
      | none => rw [hq] at hv; cases hv
      | some w => rw [hq] at hv; cases hv; rfl
    · rw [List.getElem?_append_right (by omega)] at hv
      have := List.mem_of_getElem? hv
      have := List.eq_of_mem_replicate this
      cases this
  refine ⟨h2.2.2 (i, v) ?_, hc v (List.mem_of_getElem? hi)⟩
  have := lv_args_at vs 0 hc i v hi
  rwa [Nat.zero_add] at this
/-! THE JUDGEMENT: whatever heap holds the world, the machine at this place comes to its end -/
abbrev CX : Type := Program × Launch × Env × Room × State × MethodId × Array Value × List Frame × Method × Code × (Nat → Prop) × Nat × Nat × (State → Prop)
def GG (V : EV) (X : CX) (σ : Mem) (pc : Nat) (L : List (Option Value)) (st : List Value) : Prop := match X with
  | (p, l, e, R, s, m, args, below, meth, c, A, kc, ks, Q) => ∀ (H : Heap) (locs : List Loc) (ls : Array Slot), va_P V.1 clv (wsOf V σ) H → va_S A s.heap H locs → lh ls L → W p l e R s m args below meth c H locs kc ks Q (F0 m pc ls st)
/-- what the tables say of the classes, and the nest mates -/
def TK (V : EV) (U : State) : Prop := va_K V.1 clv (tyv V) U ∧ va_Nw (.methodLinkNest RX1 153 yX4_pageIndex "RetiredCells") U ∧ va_Nw (.methodLinkNest RX2 65 yX4_isWithin "RetiredCells") U ∧ va_Nw (.methodLinkNest RX2 68 yX4_pageIndex "RetiredCells") U
theorem TK.warm {V : EV} {s U : State} (h : TK V s) (hW : s.WarmedH U.vm) : TK V U := ⟨va_K.moved hW.alike h.1, va_Nw.warmM hW h.2.1, va_Nw.warmM hW h.2.2.1, va_Nw.warmM hW h.2.2.2⟩
theorem TK.same {V : EV} {s U : State} (h : TK V s) (hv : s.vm = U.vm) : TK V U := ⟨va_K.moved (by rw [hv]; exact Vm.Alike.refl _) h.1, va_Nw.same rfl hv h.2.1, va_Nw.same rfl hv h.2.2.1, va_Nw.same rfl hv h.2.2.2⟩
def INJ (V : EV) : Prop := ∀ i j, i < 100 → j < 100 → ad V i = ad V j → i = j
def AA (V : EV) : Nat → Prop := fun q => ∃ k, k < 100 ∧ q = ad V k
def wP (V : EV) (σ : Mem) (U : State) : Prop := va_P V.1 clv (wsOf V σ) U.heap ∧ TK V U ∧ INJ V
def wB (V : EV) (σ : Mem) (t : State) : Prop := va_P V.1 clv (wsOf V σ) t.heap
def OK (V : EV) (X : CX) (own : String) (cc : ByteArray) (nL : Nat) (R : Room) : Prop := match X with
  | (p, l, e, R', s, m, args, below, meth, c, A, kc, ks, Q) => R' = R ∧ p.tables.exec = Jvm.exec ∧ c.code = cc ∧ c.maxLocals = nL ∧ s.vm.findClass own = some m.cls ∧ (∀ w ∈ AW, w.before args s = true) ∧ TK V s ∧ INJ V ∧ (∀ k, k < 100 → A (ad V k)) ∧ kc ≤ R'.cells ∧ ks ≤ R'.slots
def RI (V : EV) (X : CX) (ret : Option FieldType) (P : Int32 → Mem → Prop) : Prop := match X with
  | (p, l, e, R', s, m, args, below, meth, c, A, kc, ks, Q) => meth.sig.returnType = ret ∧ meth.locks = false ∧ A = AA V ∧ kc = 0 ∧ ks = 0 ∧ Q = MQ below (va_Qi P (wB V) (AA V)) args s 0 0 (AA V)
def RV (V : EV) (X : CX) (P : Mem → Prop) : Prop := match X with
  | (p, l, e, R', s, m, args, below, meth, c, A, kc, ks, Q) => meth.sig.returnType = none ∧ meth.locks = false ∧ A = AA V ∧ kc = 0 ∧ ks = 0 ∧ Q = MQ below (va_Qv P (wB V) (AA V)) args s 0 0 (AA V)
theorem ws_D {V : EV} {A : Nat → Prop} (hi : INJ V) (hA : ∀ k, k < 100 → A (ad V k)) (σ : Mem) : va_D A (wsOf V σ) := by
  refine ⟨fun i j p q h1 h2 h => ?_, fun k q h => ?_⟩
  · obtain ⟨a1, rfl⟩ := ws_inv h1
    obtain ⟨a2, rfl⟩ := ws_inv h2
    exact hi i j a1 a2 h
  · obtain ⟨a1, rfl⟩ := ws_inv h
    exact hA k a1
end
section
/-! what a method needs and gives, as a statement: a named value, a place that is reached by two roads, loops (the least of all that are closed) -/
def bm {A : Type} (x : A) (f : A → Prop) : Prop := f x
def jn {A : Type} (k : A) (b : A → Prop) : Prop := b k
theorem jn_go {A : Type} {k : A} {b : A → Prop} {G : Prop} (h : jn k b) (R : A → Prop) (h1 : R k) (h2 : ∀ J, R J → b J → G) : G := h2 k h1 h
def lq1 {A : Type} (F : (A → Prop) → A → Prop) (a : A) : Prop := ∀ P : A → Prop, (∀ a, F P a → P a) → P a
def lq2 {A B : Type} (F : (A → B → Prop) → A → B → Prop) (a : A) (b : B) : Prop := ∀ P : A → B → Prop, (∀ a b, F P a b → P a b) → P a b
def lq3 {A B C : Type} (F : (A → B → C → Prop) → A → B → C → Prop) (a : A) (b : B) (c : C) : Prop := ∀ P : A → B → C → Prop, (∀ a b c, F P a b c → P a b c) → P a b c
def lq4 {A B C D : Type} (F : (A → B → C → D → Prop) → A → B → C → D → Prop) (a : A) (b : B) (c : C) (d : D) : Prop := ∀ P : A → B → C → D → Prop, (∀ a b c d, F P a b c d → P a b c d) → P a b c d
theorem g_iconst {V : EV} {X : CX} {own : String} {cc : ByteArray} {nL : Nat} {R : Room} (C : OK V X own cc nL R) {σ : Mem} {pc pc' : Nat} {L : List (Option Value)} {st : List Value} {n : Int} {v : Int32} (d : decode cc pc = .ok (.iconst n, 1)) (hv : Int32.ofInt n = v) (hp : pc + 1 = pc') (k : GG V X σ pc' L (.int v :: st)) : GG V X σ pc L (st) := by
  obtain ⟨p, l, e, R', s, m, args, below, meth, c, A, kc, ks, Q⟩ := X
  obtain ⟨rfl, hx, hb, hml, hown, hts, hT, hI, hA, hk1, hk2⟩ := C
  subst hp
  intro H locs ls hP hS hL
  exact lv_iconst hx hb d hv (k H locs ls hP hS hL)
theorem g_bipush {V : EV} {X : CX} {own : String} {cc : ByteArray} {nL : Nat} {R : Room} (C : OK V X own cc nL R) {σ : Mem} {pc pc' : Nat} {L : List (Option Value)} {st : List Value} {n : Int} {v : Int32} (d : decode cc pc = .ok (.bipush n, 2)) (hv : (Int8.ofInt n).toInt32 = v) (hp : pc + 2 = pc') (k : GG V X σ pc' L (.int v :: st)) : GG V X σ pc L (st) := by
  obtain ⟨p, l, e, R', s, m, args, below, meth, c, A, kc, ks, Q⟩ := X
  obtain ⟨rfl, hx, hb, hml, hown, hts, hT, hI, hA, hk1, hk2⟩ := C
  subst hp
  intro H locs ls hP hS hL
  exact lv_bipush hx hb d hv (k H locs ls hP hS hL)
theorem g_sipush {V : EV} {X : CX} {own : String} {cc : ByteArray} {nL : Nat} {R : Room} (C : OK V X own cc nL R) {σ : Mem} {pc pc' : Nat} {L : List (Option Value)} {st : List Value} {n : Int} {v : Int32} (d : decode cc pc = .ok (.sipush n, 3)) (hv : (Int16.ofInt n).toInt32 = v) (hp : pc + 3 = pc') (k : GG V X σ pc' L (.int v :: st)) : GG V X σ pc L (st) := by
  obtain ⟨p, l, e, R', s, m, args, below, meth, c, A, kc, ks, Q⟩ := X
  obtain ⟨rfl, hx, hb, hml, hown, hts, hT, hI, hA, hk1, hk2⟩ := C
  subst hp
  intro H locs ls hP hS hL
  exact lv_sipush hx hb d hv (k H locs ls hP hS hL)
theorem g_iload_n {V : EV} {X : CX} {own : String} {cc : ByteArray} {nL : Nat} {R : Room} (C : OK V X own cc nL R) {σ : Mem} {pc pc' : Nat} {L : List (Option Value)} {st : List Value} {j : Fin 4} {i : Nat} {x : Int32} (d : decode cc pc = .ok (.iload_n j, 1)) (hi : (j : Nat) = i) (hl : L[i]? = some (some (.int x))) (hp : pc + 1 = pc') (k : GG V X σ pc' L (.int x :: st)) : GG V X σ pc L (st) := by
  obtain ⟨p, l, e, R', s, m, args, below, meth, c, A, kc, ks, Q⟩ := X
  obtain ⟨rfl, hx, hb, hml, hown, hts, hT, hI, hA, hk1, hk2⟩ := C
  subst hp
  intro H locs ls hP hS hL
  exact lv_iload_n hx hb d hi (hL.2.2 i _ hl).1 (k H locs ls hP hS hL)
theorem g_iload {V : EV} {X : CX} {own : String} {cc : ByteArray} {nL : Nat} {R : Room} (C : OK V X own cc nL R) {σ : Mem} {pc pc' : Nat} {L : List (Option Value)} {st : List Value} {i : Nat} {x : Int32} (d : decode cc pc = .ok (.iload i, 2)) (hl : L[i]? = some (some (.int x))) (hp : pc + 2 = pc') (k : GG V X σ pc' L (.int x :: st)) : GG V X σ pc L (st) := by
  obtain ⟨p, l, e, R', s, m, args, below, meth, c, A, kc, ks, Q⟩ := X
  obtain ⟨rfl, hx, hb, hml, hown, hts, hT, hI, hA, hk1, hk2⟩ := C
  subst hp
  intro H locs ls hP hS hL
  exact lv_iload hx hb d (hL.2.2 i _ hl).1 (k H locs ls hP hS hL)
theorem g_aload_n {V : EV} {X : CX} {own : String} {cc : ByteArray} {nL : Nat} {R : Room} (C : OK V X own cc nL R) {σ : Mem} {pc pc' : Nat} {L : List (Option Value)} {st : List Value} {j : Fin 4} {i : Nat} {x : Nat} (d : decode cc pc = .ok (.aload_n j, 1)) (hi : (j : Nat) = i) (hl : L[i]? = some (some (.ref x))) (hp : pc + 1 = pc') (k : GG V X σ pc' L (.ref x :: st)) : GG V X σ pc L (st) := by
  obtain ⟨p, l, e, R', s, m, args, below, meth, c, A, kc, ks, Q⟩ := X
  obtain ⟨rfl, hx, hb, hml, hown, hts, hT, hI, hA, hk1, hk2⟩ := C
  subst hp
  intro H locs ls hP hS hL
  exact lv_aload_n hx hb d hi (hL.2.2 i _ hl).1 (k H locs ls hP hS hL)
/-! stores into a local: by the machine's own step -/
theorem g_istore_n {V : EV} {X : CX} {own : String} {cc : ByteArray} {nL : Nat} {R : Room} (C : OK V X own cc nL R) {σ : Mem} {pc pc' : Nat} {L : List (Option Value)} {st : List Value} {j : Fin 4} {i : Nat} {x : Int32} {L' : List (Option Value)} (d : decode cc pc = .ok (.istore_n j, 1)) (hj : (j : Nat) = i) (hi : i < L.length) (hl : L.set i (some (.int x)) = L') (hp : pc + 1 = pc') (k : GG V X σ pc' L' st) : GG V X σ pc L (.int x :: st) := by
  obtain ⟨p, l, e, R', s, m, args, below, meth, c, A, kc, ks, Q⟩ := X
  obtain ⟨rfl, hx, hb, hml, hown, hts, hT, hI, hA, hk1, hk2⟩ := C
  subst hp
  intro H locs ls hP hS hL
  subst hj
  obtain ⟨ls', e1, h1⟩ := lh_store (v := .int x) hL hi rfl
  intro T hT X
  obtain ⟨t, a, b⟩ := k H locs ls' hP hS (hl ▸ h1) T hT X
  refine ⟨t, ?_, b⟩
  jvm_step X.here [X.here.top, ↓top_set X.here.top, hx, hb, d, e1, Value.isRef]
  exact a
theorem g_astore_n {V : EV} {X : CX} {own : String} {cc : ByteArray} {nL : Nat} {R : Room} (C : OK V X own cc nL R) {σ : Mem} {pc pc' : Nat} {L : List (Option Value)} {st : List Value} {j : Fin 4} {i : Nat} {x : Nat} {L' : List (Option Value)} (d : decode cc pc = .ok (.astore_n j, 1)) (hj : (j : Nat) = i) (hi : i < L.length) (hl : L.set i (some (.ref x)) = L') (hp : pc + 1 = pc') (k : GG V X σ pc' L' st) : GG V X σ pc L (.ref x :: st) := by
  obtain ⟨p, l, e, R', s, m, args, below, meth, c, A, kc, ks, Q⟩ := X
  obtain ⟨rfl, hx, hb, hml, hown, hts, hT, hI, hA, hk1, hk2⟩ := C
  subst hp
  intro H locs ls hP hS hL
  subst hj
  obtain ⟨ls', e1, h1⟩ := lh_store (v := .ref x) hL hi rfl
  intro T hT X
  obtain ⟨t, a, b⟩ := k H locs ls' hP hS (hl ▸ h1) T hT X
  refine ⟨t, ?_, b⟩
  jvm_step X.here [X.here.top, ↓top_set X.here.top, hx, hb, d, e1, Value.isRef]
  exact a
theorem g_istore {V : EV} {X : CX} {own : String} {cc : ByteArray} {nL : Nat} {R : Room} (C : OK V X own cc nL R) {σ : Mem} {pc pc' : Nat} {L : List (Option Value)} {st : List Value} {i : Nat} {x : Int32} {L' : List (Option Value)} (d : decode cc pc = .ok (.istore i, 2)) (hi : i < L.length) (hl : L.set i (some (.int x)) = L') (hp : pc + 2 = pc') (k : GG V X σ pc' L' st) : GG V X σ pc L (.int x :: st) := by
  obtain ⟨p, l, e, R', s, m, args, below, meth, c, A, kc, ks, Q⟩ := X
  obtain ⟨rfl, hx, hb, hml, hown, hts, hT, hI, hA, hk1, hk2⟩ := C
  subst hp
  intro H locs ls hP hS hL
  obtain ⟨ls', e1, h1⟩ := lh_store (v := .int x) hL hi rfl
  intro T hT X
  obtain ⟨t, a, b⟩ := k H locs ls' hP hS (hl ▸ h1) T hT X
  refine ⟨t, ?_, b⟩
  jvm_step X.here [X.here.top, ↓top_set X.here.top, hx, hb, d, e1]
  exact a
theorem g_iinc {V : EV} {X : CX} {own : String} {cc : ByteArray} {nL : Nat} {R : Room} (C : OK V X own cc nL R) {σ : Mem} {pc pc' : Nat} {L : List (Option Value)} {st : List Value} {i : Nat} {n : Int} {x v : Int32} {L' : List (Option Value)} (d : decode cc pc = .ok (.iinc i n, 3)) (hv : x + Int32.ofInt n = v) (hx0 : L[i]? = some (some (.int x))) (hi : i < L.length) (hl : L.set i (some (.int v)) = L') (hp : pc + 3 = pc') (k : GG V X σ pc' L' st) : GG V X σ pc L (st) := by
  obtain ⟨p, l, e, R', s, m, args, below, meth, c, A, kc, ks, Q⟩ := X
  obtain ⟨rfl, hx, hb, hml, hown, hts, hT, hI, hA, hk1, hk2⟩ := C
  subst hp
  intro H locs ls hP hS hL
  subst hv
  obtain ⟨ls', e1, h1⟩ := lh_store (v := .int (x + Int32.ofInt n)) hL hi rfl
  have hg := (hL.2.2 i _ hx0).1
  intro T hT X
  obtain ⟨t, a, b⟩ := k H locs ls' hP hS (hl ▸ h1) T hT X
  refine ⟨t, ?_, b⟩
  jvm_step X.here [X.here.top, ↓top_set X.here.top, hx, hb, d, hg, e1]
  exact a
theorem g_iadd {V : EV} {X : CX} {own : String} {cc : ByteArray} {nL : Nat} {R : Room} (C : OK V X own cc nL R) {σ : Mem} {pc pc' : Nat} {L : List (Option Value)} {st : List Value} {x y : Int32} (d : decode cc pc = .ok (.iadd, 1)) (hp : pc + 1 = pc') (k : GG V X σ pc' L (.int (x + y) :: st)) : GG V X σ pc L (.int y :: .int x :: st) := by
  obtain ⟨p, l, e, R', s, m, args, below, meth, c, A, kc, ks, Q⟩ := X
  obtain ⟨rfl, hx, hb, hml, hown, hts, hT, hI, hA, hk1, hk2⟩ := C
  subst hp
  intro H locs ls hP hS hL
  exact lv_iadd hx hb d (k H locs ls hP hS hL)
theorem g_isub {V : EV} {X : CX} {own : String} {cc : ByteArray} {nL : Nat} {R : Room} (C : OK V X own cc nL R) {σ : Mem} {pc pc' : Nat} {L : List (Option Value)} {st : List Value} {x y : Int32} (d : decode cc pc = .ok (.isub, 1)) (hp : pc + 1 = pc') (k : GG V X σ pc' L (.int (x - y) :: st)) : GG V X σ pc L (.int y :: .int x :: st) := by
  obtain ⟨p, l, e, R', s, m, args, below, meth, c, A, kc, ks, Q⟩ := X
  obtain ⟨rfl, hx, hb, hml, hown, hts, hT, hI, hA, hk1, hk2⟩ := C
  subst hp
  intro H locs ls hP hS hL
  exact lv_isub hx hb d (k H locs ls hP hS hL)
theorem g_imul {V : EV} {X : CX} {own : String} {cc : ByteArray} {nL : Nat} {R : Room} (C : OK V X own cc nL R) {σ : Mem} {pc pc' : Nat} {L : List (Option Value)} {st : List Value} {x y : Int32} (d : decode cc pc = .ok (.imul, 1)) (hp : pc + 1 = pc') (k : GG V X σ pc' L (.int (x * y) :: st)) : GG V X σ pc L (.int y :: .int x :: st) := by
  obtain ⟨p, l, e, R', s, m, args, below, meth, c, A, kc, ks, Q⟩ := X
  obtain ⟨rfl, hx, hb, hml, hown, hts, hT, hI, hA, hk1, hk2⟩ := C
  subst hp
  intro H locs ls hP hS hL
  exact lv_imul hx hb d (k H locs ls hP hS hL)
theorem g_iand {V : EV} {X : CX} {own : String} {cc : ByteArray} {nL : Nat} {R : Room} (C : OK V X own cc nL R) {σ : Mem} {pc pc' : Nat} {L : List (Option Value)} {st : List Value} {x y : Int32} (d : decode cc pc = .ok (.iand, 1)) (hp : pc + 1 = pc') (k : GG V X σ pc' L (.int (x &&& y) :: st)) : GG V X σ pc L (.int y :: .int x :: st) := by
  obtain ⟨p, l, e, R', s, m, args, below, meth, c, A, kc, ks, Q⟩ := X
  obtain ⟨rfl, hx, hb, hml, hown, hts, hT, hI, hA, hk1, hk2⟩ := C
  subst hp
  intro H locs ls hP hS hL
  exact lv_iand hx hb d (k H locs ls hP hS hL)
theorem g_idiv {V : EV} {X : CX} {own : String} {cc : ByteArray} {nL : Nat} {R : Room} (C : OK V X own cc nL R) {σ : Mem} {pc pc' : Nat} {L : List (Option Value)} {st : List Value} {x y : Int32} (d : decode cc pc = .ok (.idiv, 1)) (hne : ¬ y = 0) (hp : pc + 1 = pc') (k : GG V X σ pc' L (.int (x / y) :: st)) : GG V X σ pc L (.int y :: .int x :: st) := by
  obtain ⟨p, l, e, R', s, m, args, below, meth, c, A, kc, ks, Q⟩ := X
  obtain ⟨rfl, hx, hb, hml, hown, hts, hT, hI, hA, hk1, hk2⟩ := C
  subst hp
  intro H locs ls hP hS hL
  exact lv_idiv hx hb d hne (k H locs ls hP hS hL)
theorem g_irem {V : EV} {X : CX} {own : String} {cc : ByteArray} {nL : Nat} {R : Room} (C : OK V X own cc nL R) {σ : Mem} {pc pc' : Nat} {L : List (Option Value)} {st : List Value} {x y : Int32} (d : decode cc pc = .ok (.irem, 1)) (hne : ¬ y = 0) (hp : pc + 1 = pc') (k : GG V X σ pc' L (.int (x - x / y * y) :: st)) : GG V X σ pc L (.int y :: .int x :: st) := by
  obtain ⟨p, l, e, R', s, m, args, below, meth, c, A, kc, ks, Q⟩ := X
  obtain ⟨rfl, hx, hb, hml, hown, hts, hT, hI, hA, hk1, hk2⟩ := C
  subst hp
  intro H locs ls hP hS hL
  exact lv_irem hx hb d hne (k H locs ls hP hS hL)
theorem g_i2c {V : EV} {X : CX} {own : String} {cc : ByteArray} {nL : Nat} {R : Room} (C : OK V X own cc nL R) {σ : Mem} {pc pc' : Nat} {L : List (Option Value)} {st : List Value} {x : Int32} (d : decode cc pc = .ok (.i2c, 1)) (hp : pc + 1 = pc') (k : GG V X σ pc' L (.int (x.toUInt32 % 65536).toInt32 :: st)) : GG V X σ pc L (.int x :: st) := by
  obtain ⟨p, l, e, R', s, m, args, below, meth, c, A, kc, ks, Q⟩ := X
  obtain ⟨rfl, hx, hb, hml, hown, hts, hT, hI, hA, hk1, hk2⟩ := C
  subst hp
  intro H locs ls hP hS hL
  exact lv_i2c hx hb d rfl (k H locs ls hP hS hL)
theorem g_dup {V : EV} {X : CX} {own : String} {cc : ByteArray} {nL : Nat} {R : Room} (C : OK V X own cc nL R) {σ : Mem} {pc pc' : Nat} {L : List (Option Value)} {st : List Value} {v : Value} (d : decode cc pc = .ok (.dup, 1)) (hv : v.category = 1) (hp : pc + 1 = pc') (k : GG V X σ pc' L (v :: v :: st)) : GG V X σ pc L (v :: st) := by
  obtain ⟨p, l, e, R', s, m, args, below, meth, c, A, kc, ks, Q⟩ := X
  obtain ⟨rfl, hx, hb, hml, hown, hts, hT, hI, hA, hk1, hk2⟩ := C
  subst hp
  intro H locs ls hP hS hL
  exact lv_dup hx hb d hv (k H locs ls hP hS hL)
theorem g_pop {V : EV} {X : CX} {own : String} {cc : ByteArray} {nL : Nat} {R : Room} (C : OK V X own cc nL R) {σ : Mem} {pc pc' : Nat} {L : List (Option Value)} {st : List Value} {v : Value} (d : decode cc pc = .ok (.pop, 1)) (hv : v.category = 1) (hp : pc + 1 = pc') (k : GG V X σ pc' L (st)) : GG V X σ pc L (v :: st) := by
  obtain ⟨p, l, e, R', s, m, args, below, meth, c, A, kc, ks, Q⟩ := X
  obtain ⟨rfl, hx, hb, hml, hown, hts, hT, hI, hA, hk1, hk2⟩ := C
  subst hp
  intro H locs ls hP hS hL
  exact lv_pop hx hb d hv (k H locs ls hP hS hL)
theorem g_dup2 {V : EV} {X : CX} {own : String} {cc : ByteArray} {nL : Nat} {R : Room} (C : OK V X own cc nL R) {σ : Mem} {pc pc' : Nat} {L : List (Option Value)} {st : List Value} {v w : Value} (d : decode cc pc = .ok (.dup2, 1)) (hv : v.category = 1) (hw : w.category = 1) (hp : pc + 1 = pc') (k : GG V X σ pc' L (v :: w :: v :: w :: st)) : GG V X σ pc L (v :: w :: st) := by
  obtain ⟨p, l, e, R', s, m, args, below, meth, c, A, kc, ks, Q⟩ := X
  obtain ⟨rfl, hx, hb, hml, hown, hts, hT, hI, hA, hk1, hk2⟩ := C
  subst hp
  intro H locs ls hP hS hL
  exact lv_dup2_11 hx hb d hv hw (k H locs ls hP hS hL)
theorem g_goto {V : EV} {X : CX} {own : String} {cc : ByteArray} {nL : Nat} {R : Room} (C : OK V X own cc nL R) {σ : Mem} {pc pc' : Nat} {L : List (Option Value)} {st : List Value} {off : Int} (d : decode cc pc = .ok (.goto off, 3)) (ht : (pc : Int) + off = (pc' : Int)) (k : GG V X σ pc' L st) : GG V X σ pc L st := by
  obtain ⟨p, l, e, R', s, m, args, below, meth, c, A, kc, ks, Q⟩ := X
  obtain ⟨rfl, hx, hb, hml, hown, hts, hT, hI, hA, hk1, hk2⟩ := C
  intro H locs ls hP hS hL
  exact lv_goto hx hb d ht (k H locs ls hP hS hL)
theorem g_if_eq {V : EV} {X : CX} {own : String} {cc : ByteArray} {nL : Nat} {R : Room} (C : OK V X own cc nL R) {σ : Mem} {pc pc' : Nat} {L : List (Option Value)} {st : List Value} {tgt : Nat} {off : Int} {x : Int32} (d : decode cc pc = .ok (.ifCond .eq off, 3)) (ht : (pc : Int) + off = (tgt : Int)) (hp : pc + 3 = pc') (kt : x = 0 → GG V X σ tgt L st) (kf : ¬ x = 0 → GG V X σ pc' L st) : GG V X σ pc L (.int x :: st) := by
  obtain ⟨p, l, e, R', s, m, args, below, meth, c, A, kc, ks, Q⟩ := X
  obtain ⟨rfl, hx, hb, hml, hown, hts, hT, hI, hA, hk1, hk2⟩ := C
  subst hp
  intro H locs ls hP hS hL
  exact lv_if_eq hx hb d ht (fun q => kt q H locs ls hP hS hL) (fun q => kf q H locs ls hP hS hL)
theorem g_icmp_eq {V : EV} {X : CX} {own : String} {cc : ByteArray} {nL : Nat} {R : Room} (C : OK V X own cc nL R) {σ : Mem} {pc pc' : Nat} {L : List (Option Value)} {st : List Value} {tgt : Nat} {off : Int} {x y : Int32} (d : decode cc pc = .ok (.if_icmp .eq off, 3)) (ht : (pc : Int) + off = (tgt : Int)) (hp : pc + 3 = pc') (kt : x = y → GG V X σ tgt L st) (kf : ¬ x = y → GG V X σ pc' L st) : GG V X σ pc L (.int y :: .int x :: st) := by
  obtain ⟨p, l, e, R', s, m, args, below, meth, c, A, kc, ks, Q⟩ := X
  obtain ⟨rfl, hx, hb, hml, hown, hts, hT, hI, hA, hk1, hk2⟩ := C
  subst hp
  intro H locs ls hP hS hL
  exact lv_icmp_eq hx hb d ht (fun q => kt q H locs ls hP hS hL) (fun q => kf q H locs ls hP hS hL)
theorem g_if_ne {V : EV} {X : CX} {own : String} {cc : ByteArray} {nL : Nat} {R : Room} (C : OK V X own cc nL R) {σ : Mem} {pc pc' : Nat} {L : List (Option Value)} {st : List Value} {tgt : Nat} {off : Int} {x : Int32} (d : decode cc pc = .ok (.ifCond .ne off, 3)) (ht : (pc : Int) + off = (tgt : Int)) (hp : pc + 3 = pc') (kt : ¬ x = 0 → GG V X σ tgt L st) (kf : x = 0 → GG V X σ pc' L st) : GG V X σ pc L (.int x :: st) := by
  obtain ⟨p, l, e, R', s, m, args, below, meth, c, A, kc, ks, Q⟩ := X
  obtain ⟨rfl, hx, hb, hml, hown, hts, hT, hI, hA, hk1, hk2⟩ := C
  subst hp
  intro H locs ls hP hS hL
  exact lv_if_ne hx hb d ht (fun q => kt q H locs ls hP hS hL) (fun q => kf q H locs ls hP hS hL)
theorem g_icmp_ne {V : EV} {X : CX} {own : String} {cc : ByteArray} {nL : Nat} {R : Room} (C : OK V X own cc nL R) {σ : Mem} {pc pc' : Nat} {L : List (Option Value)} {st : List Value} {tgt : Nat} {off : Int} {x y : Int32} (d : decode cc pc = .ok (.if_icmp .ne off, 3)) (ht : (pc : Int) + off = (tgt : Int)) (hp : pc + 3 = pc') (kt : ¬ x = y → GG V X σ tgt L st) (kf : x = y → GG V X σ pc' L st) : GG V X σ pc L (.int y :: .int x :: st) := by
  obtain ⟨p, l, e, R', s, m, args, below, meth, c, A, kc, ks, Q⟩ := X
  obtain ⟨rfl, hx, hb, hml, hown, hts, hT, hI, hA, hk1, hk2⟩ := C
  subst hp
  intro H locs ls hP hS hL
  exact lv_icmp_ne hx hb d ht (fun q => kt q H locs ls hP hS hL) (fun q => kf q H locs ls hP hS hL)
theorem g_if_lt {V : EV} {X : CX} {own : String} {cc : ByteArray} {nL : Nat} {R : Room} (C : OK V X own cc nL R) {σ : Mem} {pc pc' : Nat} {L : List (Option Value)} {st : List Value} {tgt : Nat} {off : Int} {x : Int32} (d : decode cc pc = .ok (.ifCond .lt off, 3)) (ht : (pc : Int) + off = (tgt : Int)) (hp : pc + 3 = pc') (kt : x < 0 → GG V X σ tgt L st) (kf : ¬ x < 0 → GG V X σ pc' L st) : GG V X σ pc L (.int x :: st) := by
  obtain ⟨p, l, e, R', s, m, args, below, meth, c, A, kc, ks, Q⟩ := X
  obtain ⟨rfl, hx, hb, hml, hown, hts, hT, hI, hA, hk1, hk2⟩ := C
  subst hp
  intro H locs ls hP hS hL
  exact lv_if_lt hx hb d ht (fun q => kt q H locs ls hP hS hL) (fun q => kf q H locs ls hP hS hL)
theorem g_icmp_lt {V : EV} {X : CX} {own : String} {cc : ByteArray} {nL : Nat} {R : Room} (C : OK V X own cc nL R) {σ : Mem} {pc pc' : Nat} {L : List (Option Value)} {st : List Value} {tgt : Nat} {off : Int} {x y : Int32} (d : decode cc pc = .ok (.if_icmp .lt off, 3)) (ht : (pc : Int) + off = (tgt : Int)) (hp : pc + 3 = pc') (kt : x < y → GG V X σ tgt L st) (kf : ¬ x < y → GG V X σ pc' L st) : GG V X σ pc L (.int y :: .int x :: st) := by
  obtain ⟨p, l, e, R', s, m, args, below, meth, c, A, kc, ks, Q⟩ := X
  obtain ⟨rfl, hx, hb, hml, hown, hts, hT, hI, hA, hk1, hk2⟩ := C
  subst hp
  intro H locs ls hP hS hL
  exact lv_icmp_lt hx hb d ht (fun q => kt q H locs ls hP hS hL) (fun q => kf q H locs ls hP hS hL)
theorem g_if_ge {V : EV} {X : CX} {own : String} {cc : ByteArray} {nL : Nat} {R : Room} (C : OK V X own cc nL R) {σ : Mem} {pc pc' : Nat} {L : List (Option Value)} {st : List Value} {tgt : Nat} {off : Int} {x : Int32} (d : decode cc pc = .ok (.ifCond .ge off, 3)) (ht : (pc : Int) + off = (tgt : Int)) (hp : pc + 3 = pc') (kt : 0 ≤ x → GG V X σ tgt L st) (kf : ¬ 0 ≤ x → GG V X σ pc' L st) : GG V X σ pc L (.int x :: st) := by
  obtain ⟨p, l, e, R', s, m, args, below, meth, c, A, kc, ks, Q⟩ := X
  obtain ⟨rfl, hx, hb, hml, hown, hts, hT, hI, hA, hk1, hk2⟩ := C
  subst hp
  intro H locs ls hP hS hL
  exact lv_if_ge hx hb d ht (fun q => kt q H locs ls hP hS hL) (fun q => kf q H locs ls hP hS hL)
theorem g_icmp_ge {V : EV} {X : CX} {own : String} {cc : ByteArray} {nL : Nat} {R : Room} (C : OK V X own cc nL R) {σ : Mem} {pc pc' : Nat} {L : List (Option Value)} {st : List Value} {tgt : Nat} {off : Int} {x y : Int32} (d : decode cc pc = .ok (.if_icmp .ge off, 3)) (ht : (pc : Int) + off = (tgt : Int)) (hp : pc + 3 = pc') (kt : y ≤ x → GG V X σ tgt L st) (kf : ¬ y ≤ x → GG V X σ pc' L st) : GG V X σ pc L (.int y :: .int x :: st) := by
  obtain ⟨p, l, e, R', s, m, args, below, meth, c, A, kc, ks, Q⟩ := X
  obtain ⟨rfl, hx, hb, hml, hown, hts, hT, hI, hA, hk1, hk2⟩ := C
  subst hp
  intro H locs ls hP hS hL
  exact lv_icmp_ge hx hb d ht (fun q => kt q H locs ls hP hS hL) (fun q => kf q H locs ls hP hS hL)
theorem g_if_gt {V : EV} {X : CX} {own : String} {cc : ByteArray} {nL : Nat} {R : Room} (C : OK V X own cc nL R) {σ : Mem} {pc pc' : Nat} {L : List (Option Value)} {st : List Value} {tgt : Nat} {off : Int} {x : Int32} (d : decode cc pc = .ok (.ifCond .gt off, 3)) (ht : (pc : Int) + off = (tgt : Int)) (hp : pc + 3 = pc') (kt : 0 < x → GG V X σ tgt L st) (kf : ¬ 0 < x → GG V X σ pc' L st) : GG V X σ pc L (.int x :: st) := by
  obtain ⟨p, l, e, R', s, m, args, below, meth, c, A, kc, ks, Q⟩ := X
  obtain ⟨rfl, hx, hb, hml, hown, hts, hT, hI, hA, hk1, hk2⟩ := C
  subst hp
  intro H locs ls hP hS hL
  exact lv_if_gt hx hb d ht (fun q => kt q H locs ls hP hS hL) (fun q => kf q H locs ls hP hS hL)
theorem g_icmp_gt {V : EV} {X : CX} {own : String} {cc : ByteArray} {nL : Nat} {R : Room} (C : OK V X own cc nL R) {σ : Mem} {pc pc' : Nat} {L : List (Option Value)} {st : List Value} {tgt : Nat} {off : Int} {x y : Int32} (d : decode cc pc = .ok (.if_icmp .gt off, 3)) (ht : (pc : Int) + off = (tgt : Int)) (hp : pc + 3 = pc') (kt : y < x → GG V X σ tgt L st) (kf : ¬ y < x → GG V X σ pc' L st) : GG V X σ pc L (.int y :: .int x :: st) := by
  obtain ⟨p, l, e, R', s, m, args, below, meth, c, A, kc, ks, Q⟩ := X
  obtain ⟨rfl, hx, hb, hml, hown, hts, hT, hI, hA, hk1, hk2⟩ := C
  subst hp
  intro H locs ls hP hS hL
  exact lv_icmp_gt hx hb d ht (fun q => kt q H locs ls hP hS hL) (fun q => kf q H locs ls hP hS hL)
theorem g_if_le {V : EV} {X : CX} {own : String} {cc : ByteArray} {nL : Nat} {R : Room} (C : OK V X own cc nL R) {σ : Mem} {pc pc' : Nat} {L : List (Option Value)} {st : List Value} {tgt : Nat} {off : Int} {x : Int32} (d : decode cc pc = .ok (.ifCond .le off, 3)) (ht : (pc : Int) + off = (tgt : Int)) (hp : pc + 3 = pc') (kt : x ≤ 0 → GG V X σ tgt L st) (kf : ¬ x ≤ 0 → GG V X σ pc' L st) : GG V X σ pc L (.int x :: st) := by
  obtain ⟨p, l, e, R', s, m, args, below, meth, c, A, kc, ks, Q⟩ := X
  obtain ⟨rfl, hx, hb, hml, hown, hts, hT, hI, hA, hk1, hk2⟩ := C
  subst hp
  intro H locs ls hP hS hL
  exact lv_if_le hx hb d ht (fun q => kt q H locs ls hP hS hL) (fun q => kf q H locs ls hP hS hL)
theorem g_icmp_le {V : EV} {X : CX} {own : String} {cc : ByteArray} {nL : Nat} {R : Room} (C : OK V X own cc nL R) {σ : Mem} {pc pc' : Nat} {L : List (Option Value)} {st : List Value} {tgt : Nat} {off : Int} {x y : Int32} (d : decode cc pc = .ok (.if_icmp .le off, 3)) (ht : (pc : Int) + off = (tgt : Int)) (hp : pc + 3 = pc') (kt : x ≤ y → GG V X σ tgt L st) (kf : ¬ x ≤ y → GG V X σ pc' L st) : GG V X σ pc L (.int y :: .int x :: st) := by
  obtain ⟨p, l, e, R', s, m, args, below, meth, c, A, kc, ks, Q⟩ := X
  obtain ⟨rfl, hx, hb, hml, hown, hts, hT, hI, hA, hk1, hk2⟩ := C
  subst hp
  intro H locs ls hP hS hL
  exact lv_icmp_le hx hb d ht (fun q => kt q H locs ls hP hS hL) (fun q => kf q H locs ls hP hS hL)
theorem g_tin {V : EV} {X : CX} {own : String} {cc : ByteArray} {nL : Nat} {R : Room} (C : OK V X own cc nL R) {σ : Mem} {pc pc' : Nat} {L : List (Option Value)} {st : List Value} {dflt lo hi : Int} {offs : Array Int} {len : Nat} {x : Int32} {off : Int} (d : decode cc pc = .ok (.tableswitch dflt lo hi offs, len)) (h1 : ¬ x.toInt < lo) (h2 : ¬ hi < x.toInt) (ho : offs[(x.toInt - lo).toNat]? = some off) (ht : (pc : Int) + off = (pc' : Int)) (k : GG V X σ pc' L st) : GG V X σ pc L (.int x :: st) := by
  obtain ⟨p, l, e, R', s, m, args, below, meth, c, A, kc, ks, Q⟩ := X
  obtain ⟨rfl, hx, hb, hml, hown, hts, hT, hI, hA, hk1, hk2⟩ := C
  intro H locs ls hP hS hL
  exact lv_tableIn hx hb d h1 h2 ho ht (k H locs ls hP hS hL)
theorem g_tout {V : EV} {X : CX} {own : String} {cc : ByteArray} {nL : Nat} {R : Room} (C : OK V X own cc nL R) {σ : Mem} {pc pc' : Nat} {L : List (Option Value)} {st : List Value} {dflt lo hi : Int} {offs : Array Int} {len : Nat} {x : Int32} (d : decode cc pc = .ok (.tableswitch dflt lo hi offs, len)) (h : x.toInt < lo ∨ hi < x.toInt) (ht : (pc : Int) + dflt = (pc' : Int)) (k : GG V X σ pc' L st) : GG V X σ pc L (.int x :: st) := by
  obtain ⟨p, l, e, R', s, m, args, below, meth, c, A, kc, ks, Q⟩ := X
  obtain ⟨rfl, hx, hb, hml, hown, hts, hT, hI, hA, hk1, hk2⟩ := C
  intro H locs ls hP hS hL
  exact lv_tableOut hx hb d h ht (k H locs ls hP hS hL)
theorem g_look {V : EV} {X : CX} {own : String} {cc : ByteArray} {nL : Nat} {R : Room} (C : OK V X own cc nL R) {σ : Mem} {pc pc' : Nat} {L : List (Option Value)} {st : List Value} {dflt : Int} {ps : Array (Int × Int)} {len : Nat} {x : Int32} {off : Int} (d : decode cc pc = .ok (.lookupswitch dflt ps, len)) (hs : (ps.toList.zip (ps.toList.drop 1)).all (fun (a, next) => a.1 < next.1) = true) (ho : Op.lookupswitch.offset ps.toList dflt x.toInt = off) (ht : (pc : Int) + off = (pc' : Int)) (k : GG V X σ pc' L st) : GG V X σ pc L (.int x :: st) := by
  obtain ⟨p, l, e, R', s, m, args, below, meth, c, A, kc, ks, Q⟩ := X
  obtain ⟨rfl, hx, hb, hml, hown, hts, hT, hI, hA, hk1, hk2⟩ := C
  intro H locs ls hP hS hL
  exact lv_lookup hx hb d hs ho ht (k H locs ls hP hS hL)
theorem tsw_cases (x : Int32) (lo : Int) (n : Nat) : (x.toInt < lo ∨ lo + n ≤ x.toInt) ∨ ∃ k : Nat, k < n ∧ x.toInt = lo + k := by
  by_cases h : x.toInt < lo ∨ lo + n ≤ x.toInt
  · exact Or.inl h
  · exact Or.inr ⟨(x.toInt - lo).toNat, by omega, by omega⟩
theorem i32_of {x y : Int32} {a : Int} (h : x.toInt = a) (hy : y.toInt = a) : x = y := Int32.toInt_inj.mp (h.trans hy.symm)
/-! arrays of ints, booleans, chars -/
def iA (id n : Nat) : Prop := id < 100 ∧ ∀ (V : EV) (σ : Mem), ent V σ id = .inl (V.2.1.1, n, .inl (σ id))
def zA (id n : Nat) : Prop := id < 100 ∧ ∀ (V : EV) (σ : Mem), ent V σ id = .inl (V.2.1.2.1, n, .inl (σ id))
def cA (id n : Nat) : Prop := id < 100 ∧ ∀ (V : EV) (σ : Mem), ent V σ id = .inl (V.2.1.2.2.1, n, .inl (σ id))
theorem ws_e {V : EV} {σ : Mem} {k : Nat} {e : va_E} (hk : k < 100) (he : ent V σ k = e) : (wsOf V σ)[k]? = some (ad V k, e) := by rw [ws_at V σ hk, he]
theorem g_ild {V : EV} {X : CX} {own : String} {cc : ByteArray} {nL : Nat} {R : Room} (C : OK V X own cc nL R) {σ : Mem} {pc pc' : Nat} {L : List (Option Value)} {st : List Value} {id n : Nat} {i : Int32} (d : decode cc pc = .ok (.iaload, 1)) (hE : iA id n) (hin : vp_in i n) (hp : pc + 1 = pc') (k : GG V X σ pc' L (.int (σ id i.toNatClampNeg) :: st)) : GG V X σ pc L (.int i :: .ref (ad V id) :: st) := by
  obtain ⟨p, l, e, R', s, m, args, below, meth, c, A, kc, ks, Q⟩ := X
  obtain ⟨rfl, hx, hb, hml, hown, hts, hT, hI, hA, hk1, hk2⟩ := C
  subst hp
  intro H locs ls hP hS hL
  exact va_iald hx hb hT.1 hP id 0 (ws_e hE.1 (hE.2 V σ)) rfl hin d (k H locs ls hP hS hL)
theorem g_ist {V : EV} {X : CX} {own : String} {cc : ByteArray} {nL : Nat} {R : Room} (C : OK V X own cc nL R) {σ : Mem} {pc pc' : Nat} {L : List (Option Value)} {st : List Value} {id n : Nat} {i x : Int32} {f : Mem → Prop} (d : decode cc pc = .ok (.iastore, 1)) (hE : iA id n) (hin : vp_in i n) (hp : pc + 1 = pc') (h : bm (up2 σ id i.toNatClampNeg (x)) f) (k : ∀ τ, f τ → GG V X τ pc' L st) : GG V X σ pc L (.int x :: .int i :: .ref (ad V id) :: st) := by
  obtain ⟨p, l, e, R', s, m, args, below, meth, c, A, kc, ks, Q⟩ := X
  obtain ⟨rfl, hx, hb, hml, hown, hts, hT, hI, hA, hk1, hk2⟩ := C
  subst hp
  intro H locs ls hP hS hL
  have hD := ws_D hI hA σ
  refine va_iast hx hb hT.1 hP hD hS id 0 (ws_e hE.1 (hE.2 V σ)) rfl hin d (fun H1 locs1 hP1 hD1 hS1 => ?_)
  rw [ws_set V (τ := up2 σ id i.toNatClampNeg (x)) hE.1 (by rw [hE.2, up2_eq]) (fun j hj => up2_ne σ hj)] at hP1
  exact k _ h H1 locs1 ls hP1 hS1 hL
theorem g_zld {V : EV} {X : CX} {own : String} {cc : ByteArray} {nL : Nat} {R : Room} (C : OK V X own cc nL R) {σ : Mem} {pc pc' : Nat} {L : List (Option Value)} {st : List Value} {id n : Nat} {i : Int32} (d : decode cc pc = .ok (.baload, 1)) (hE : zA id n) (hin : vp_in i n) (hp : pc + 1 = pc') (k : GG V X σ pc' L (.int (σ id i.toNatClampNeg) :: st)) : GG V X σ pc L (.int i :: .ref (ad V id) :: st) := by
  obtain ⟨p, l, e, R', s, m, args, below, meth, c, A, kc, ks, Q⟩ := X
  obtain ⟨rfl, hx, hb, hml, hown, hts, hT, hI, hA, hk1, hk2⟩ := C
  subst hp
  intro H locs ls hP hS hL
  exact va_zald hx hb hT.1 hP id 1 (ws_e hE.1 (hE.2 V σ)) rfl hin d (k H locs ls hP hS hL)
theorem g_zst {V : EV} {X : CX} {own : String} {cc : ByteArray} {nL : Nat} {R : Room} (C : OK V X own cc nL R) {σ : Mem} {pc pc' : Nat} {L : List (Option Value)} {st : List Value} {id n : Nat} {i x : Int32} {f : Mem → Prop} (d : decode cc pc = .ok (.bastore, 1)) (hE : zA id n) (hin : vp_in i n) (hp : pc + 1 = pc') (h : bm (up2 σ id i.toNatClampNeg (vp_nar .boolean x)) f) (k : ∀ τ, f τ → GG V X τ pc' L st) : GG V X σ pc L (.int x :: .int i :: .ref (ad V id) :: st) := by
  obtain ⟨p, l, e, R', s, m, args, below, meth, c, A, kc, ks, Q⟩ := X
  obtain ⟨rfl, hx, hb, hml, hown, hts, hT, hI, hA, hk1, hk2⟩ := C
  subst hp
  intro H locs ls hP hS hL
  have hD := ws_D hI hA σ
  refine va_zast hx hb hT.1 hP hD hS id 1 (ws_e hE.1 (hE.2 V σ)) rfl hin d (fun H1 locs1 hP1 hD1 hS1 => ?_)
  rw [ws_set V (τ := up2 σ id i.toNatClampNeg (vp_nar .boolean x)) hE.1 (by rw [hE.2, up2_eq]) (fun j hj => up2_ne σ hj)] at hP1
  exact k _ h H1 locs1 ls hP1 hS1 hL
theorem g_cld {V : EV} {X : CX} {own : String} {cc : ByteArray} {nL : Nat} {R : Room} (C : OK V X own cc nL R) {σ : Mem} {pc pc' : Nat} {L : List (Option Value)} {st : List Value} {id n : Nat} {i : Int32} (d : decode cc pc = .ok (.caload, 1)) (hE : cA id n) (hin : vp_in i n) (hp : pc + 1 = pc') (k : GG V X σ pc' L (.int (σ id i.toNatClampNeg) :: st)) : GG V X σ pc L (.int i :: .ref (ad V id) :: st) := by
  obtain ⟨p, l, e, R', s, m, args, below, meth, c, A, kc, ks, Q⟩ := X
  obtain ⟨rfl, hx, hb, hml, hown, hts, hT, hI, hA, hk1, hk2⟩ := C
  subst hp
  intro H locs ls hP hS hL
  exact va_cald hx hb hT.1 hP id 2 (ws_e hE.1 (hE.2 V σ)) rfl hin d (k H locs ls hP hS hL)
theorem g_cst {V : EV} {X : CX} {own : String} {cc : ByteArray} {nL : Nat} {R : Room} (C : OK V X own cc nL R) {σ : Mem} {pc pc' : Nat} {L : List (Option Value)} {st : List Value} {id n : Nat} {i x : Int32} {f : Mem → Prop} (d : decode cc pc = .ok (.castore, 1)) (hE : cA id n) (hin : vp_in i n) (hp : pc + 1 = pc') (h : bm (up2 σ id i.toNatClampNeg (vp_nar .char x)) f) (k : ∀ τ, f τ → GG V X τ pc' L st) : GG V X σ pc L (.int x :: .int i :: .ref (ad V id) :: st) := by
  obtain ⟨p, l, e, R', s, m, args, below, meth, c, A, kc, ks, Q⟩ := X
  obtain ⟨rfl, hx, hb, hml, hown, hts, hT, hI, hA, hk1, hk2⟩ := C
  subst hp
  intro H locs ls hP hS hL
  have hD := ws_D hI hA σ
  refine va_cast hx hb hT.1 hP hD hS id 2 (ws_e hE.1 (hE.2 V σ)) rfl hin d (fun H1 locs1 hP1 hD1 hS1 => ?_)
  rw [ws_set V (τ := up2 σ id i.toNatClampNeg (vp_nar .char x)) hE.1 (by rw [hE.2, up2_eq]) (fun j hj => up2_ne σ hj)] at hP1
  exact k _ h H1 locs1 ls hP1 hS1 hL
theorem g_ildk {V : EV} {X : CX} {own : String} {cc : ByteArray} {nL : Nat} {R : Room} (C : OK V X own cc nL R) {σ : Mem} {pc pc' : Nat} {L : List (Option Value)} {st : List Value} {id n q : Nat} {i : Int32} (d : decode cc pc = .ok (.iaload, 1)) (hE : iA id n) (hin : vp_in i n) (hq : i.toNatClampNeg = q) (hp : pc + 1 = pc') (k : GG V X σ pc' L (.int (σ id q) :: st)) : GG V X σ pc L (.int i :: .ref (ad V id) :: st) := by
  subst hq
  exact g_ild C d hE hin hp k
theorem g_istk {V : EV} {X : CX} {own : String} {cc : ByteArray} {nL : Nat} {R : Room} (C : OK V X own cc nL R) {σ : Mem} {pc pc' : Nat} {L : List (Option Value)} {st : List Value} {id n q : Nat} {i x : Int32} {f : Mem → Prop} (d : decode cc pc = .ok (.iastore, 1)) (hE : iA id n) (hin : vp_in i n) (hq : i.toNatClampNeg = q) (hp : pc + 1 = pc') (h : bm (up2 σ id q (x)) f) (k : ∀ τ, f τ → GG V X τ pc' L st) : GG V X σ pc L (.int x :: .int i :: .ref (ad V id) :: st) := by
  subst hq
  exact g_ist C d hE hin hp h k
theorem g_zldk {V : EV} {X : CX} {own : String} {cc : ByteArray} {nL : Nat} {R : Room} (C : OK V X own cc nL R) {σ : Mem} {pc pc' : Nat} {L : List (Option Value)} {st : List Value} {id n q : Nat} {i : Int32} (d : decode cc pc = .ok (.baload, 1)) (hE : zA id n) (hin : vp_in i n) (hq : i.toNatClampNeg = q) (hp : pc + 1 = pc') (k : GG V X σ pc' L (.int (σ id q) :: st)) : GG V X σ pc L (.int i :: .ref (ad V id) :: st) := by
  subst hq
  exact g_zld C d hE hin hp k
theorem g_zstk {V : EV} {X : CX} {own : String} {cc : ByteArray} {nL : Nat} {R : Room} (C : OK V X own cc nL R) {σ : Mem} {pc pc' : Nat} {L : List (Option Value)} {st : List Value} {id n q : Nat} {i x : Int32} {f : Mem → Prop} (d : decode cc pc = .ok (.bastore, 1)) (hE : zA id n) (hin : vp_in i n) (hq : i.toNatClampNeg = q) (hp : pc + 1 = pc') (h : bm (up2 σ id q (vp_nar .boolean x)) f) (k : ∀ τ, f τ → GG V X τ pc' L st) : GG V X σ pc L (.int x :: .int i :: .ref (ad V id) :: st) := by
  subst hq
  exact g_zst C d hE hin hp h k
theorem g_cldk {V : EV} {X : CX} {own : String} {cc : ByteArray} {nL : Nat} {R : Room} (C : OK V X own cc nL R) {σ : Mem} {pc pc' : Nat} {L : List (Option Value)} {st : List Value} {id n q : Nat} {i : Int32} (d : decode cc pc = .ok (.caload, 1)) (hE : cA id n) (hin : vp_in i n) (hq : i.toNatClampNeg = q) (hp : pc + 1 = pc') (k : GG V X σ pc' L (.int (σ id q) :: st)) : GG V X σ pc L (.int i :: .ref (ad V id) :: st) := by
  subst hq
  exact g_cld C d hE hin hp k
theorem g_cstk {V : EV} {X : CX} {own : String} {cc : ByteArray} {nL : Nat} {R : Room} (C : OK V X own cc nL R) {σ : Mem} {pc pc' : Nat} {L : List (Option Value)} {st : List Value} {id n q : Nat} {i x : Int32} {f : Mem → Prop} (d : decode cc pc = .ok (.castore, 1)) (hE : cA id n) (hin : vp_in i n) (hq : i.toNatClampNeg = q) (hp : pc + 1 = pc') (h : bm (up2 σ id q (vp_nar .char x)) f) (k : ∀ τ, f τ → GG V X τ pc' L st) : GG V X σ pc L (.int x :: .int i :: .ref (ad V id) :: st) := by
  subst hq
  exact g_cst C d hE hin hp h k
theorem g_ialen {V : EV} {X : CX} {own : String} {cc : ByteArray} {nL : Nat} {R : Room} (C : OK V X own cc nL R) {σ : Mem} {pc pc' : Nat} {L : List (Option Value)} {st : List Value} {id n : Nat} {v : Int32} (d : decode cc pc = .ok (.arraylength, 1)) (hE : iA id n) (hv : Int32.ofNat n = v) (hp : pc + 1 = pc') (k : GG V X σ pc' L (.int v :: st)) : GG V X σ pc L (.ref (ad V id) :: st) := by
  obtain ⟨p, l, e, R', s, m, args, below, meth, c, A, kc, ks, Q⟩ := X
  obtain ⟨rfl, hx, hb, hml, hown, hts, hT, hI, hA, hk1, hk2⟩ := C
  subst hp
  intro H locs ls hP hS hL
  exact va_alen hx hb hT.1 hP id 0 (ws_e hE.1 (hE.2 V σ)) rfl hv d (k H locs ls hP hS hL)
theorem g_aald {V : EV} {X : CX} {own : String} {cc : ByteArray} {nL : Nat} {R : Room} (C : OK V X own cc nL R) {σ : Mem} {pc pc' : Nat} {L : List (Option Value)} {st : List Value} {i : Int32} (d : decode cc pc = .ok (.aaload, 1)) (hin : vp_in i 4) (hp : pc + 1 = pc') (k : GG V X σ pc' L (.ref (ad V (36 + 12 * i.toNatClampNeg)) :: st)) : GG V X σ pc L (.int i :: .ref (ad V 86) :: st) := by
  obtain ⟨p, l, e, R', s, m, args, below, meth, c, A, kc, ks, Q⟩ := X
  obtain ⟨rfl, hx, hb, hml, hown, hts, hT, hI, hA, hk1, hk2⟩ := C
  subst hp
  intro H locs ls hP hS hL
  exact va_aldq hx hb hT.1 hP 86 3 (C := RX1) (ws_e (by decide) (ent_oth V σ (by decide))) rfl hin d (k H locs ls hP hS hL)
theorem g_get {V : EV} {X : CX} {own : String} {cc : ByteArray} {nL : Nat} {R : Room} (C : OK V X own cc nL R) {σ : Mem} {pc pc' : Nat} {L : List (Option Value)} {st : List Value} {id ci j idx N : Nat} {Cn ref : String} {T : u_T} {fs : List Value} {v : Value} (d : decode cc pc = .ok (.getfield idx, 3)) (hid : id < 100) (he : ent V σ id = .inr (ci, fs)) (hc : clv[ci]? = some (Cn, T, N)) (hk : j < N) (hw : Cond.fieldLink own idx ref (T j).2.1 (T j).2.2.1 ∈ AW) (hin : ∀ w ∈ u_ws Cn T N, w ∈ AW) (href : (T j).1 = ref) (hv : fs[j]? = some v) (hp : pc + 3 = pc') (k : GG V X σ pc' L (v :: st)) : GG V X σ pc L (.ref (ad V id) :: st) := by
  obtain ⟨p, l, e, R', s, m, args, below, meth, c, A, kc, ks, Q⟩ := X
  obtain ⟨rfl, hx, hb, hml, hown, hts, hT, hI, hA, hk1, hk2⟩ := C
  subst hp; subst href
  intro H locs ls hP hS hL
  exact va_get hx hb hts hin hown hT.1 hP id (ws_e hid he) hc j hk (hts _ hw) (fun _ h9 => h9) hv d (k H locs ls hP hS hL)
theorem g_put {V : EV} {X : CX} {own : String} {cc : ByteArray} {nL : Nat} {R : Room} (C : OK V X own cc nL R) {σ : Mem} {pc pc' : Nat} {L : List (Option Value)} {st : List Value} {id ci j idx N : Nat} {Cn ref : String} {T : u_T} {fs : List Value} {x : Int32} {ty : FieldType} {f : Mem → Prop} (d : decode cc pc = .ok (.putfield idx, 3)) (ty0 : Nat → FieldType) (hid : id < 100) (he : ent V σ id = .inr (ci, fs)) (hc : clv[ci]? = some (Cn, T, N)) (hk : j < N) (hw : Cond.fieldLink own idx ref (T j).2.1 (T j).2.2.1 ∈ AW) (hin : ∀ w ∈ u_ws Cn T N, w ∈ AW) (hty : ∀ k, k < N → parseFieldDescriptor (T k).2.2.1 = some (ty0 k)) (hnm : ∀ a, a < N → ∀ b, b < N → a ≠ b → (T a).2.1 ≠ (T b).2.1) (href : (T j).1 = ref) (hfin : (T j).2.2.2 = false) (hd : parseFieldDescriptor (T j).2.2.1 = some ty) (hn : narrow ty (.int x) = .int x) (hfit : fits ty (.int x) = true) (hl : j < fs.length) (he2 : ent V (up2 σ id j x) id = .inr (ci, fs.set j (.int x))) (hp : pc + 3 = pc') (h : bm (up2 σ id j x) f) (k : ∀ τ, f τ → GG V X τ pc' L st) : GG V X σ pc L (.int x :: .ref (ad V id) :: st) := by
  obtain ⟨p, l, e, R', s, m, args, below, meth, c, A, kc, ks, Q⟩ := X
  obtain ⟨rfl, hx, hb, hml, hown, hts, hT, hI, hA, hk1, hk2⟩ := C
  subst hp; subst href
  intro H locs ls hP hS hL
  have hD := ws_D hI hA σ
  refine va_put hx hb hts hin ty0 hty hnm hown hT.1 hP hD hS id (ws_e hid he) hc j hk (hts _ hw) (fun _ h9 => h9) hfin hd hn hfit hl d (fun H1 locs1 hP1 hD1 hS1 => ?_)
  rw [ws_set V (τ := up2 σ id j x) hid he2 (fun j hj => up2_ne σ hj)] at hP1
  exact k _ h H1 locs1 ls hP1 hS1 hL
theorem g_iret {V : EV} {X : CX} {own : String} {cc : ByteArray} {nL : Nat} {R : Room} (C : OK V X own cc nL R) {σ : Mem} {pc : Nat} {L : List (Option Value)} {x : Int32} {P : Int32 → Mem → Prop} (d : decode cc pc = .ok (.ireturn, 1)) (D : RI V X (some .int) P) (h : P x σ) : GG V X σ pc L [.int x] := by
  obtain ⟨p, l, e, R', s, m, args, below, meth, c, A, kc, ks, Q⟩ := X
  obtain ⟨rfl, hx, hb, hml, hown, hts, hT, hI, hA, hk1, hk2⟩ := C
  obtain ⟨hr, hlocks, rfl, rfl, rfl, rfl⟩ := D
  intro H locs ls hP hS hL
  exact W.iret hx hb hr (fun t ht hW => ⟨⟨x, σ, rfl, h, by unfold wB; rw [ht]; exact hP⟩, hS.F ht⟩) hS.2.2 d hlocks
theorem g_zret {V : EV} {X : CX} {own : String} {cc : ByteArray} {nL : Nat} {R : Room} (C : OK V X own cc nL R) {σ : Mem} {pc : Nat} {L : List (Option Value)} {x : Int32} {P : Int32 → Mem → Prop} (d : decode cc pc = .ok (.ireturn, 1)) (D : RI V X (some .boolean) P) (hz : x = 0 ∨ x = 1) (h : P x σ) : GG V X σ pc L [.int x] := by
  obtain ⟨p, l, e, R', s, m, args, below, meth, c, A, kc, ks, Q⟩ := X
  obtain ⟨rfl, hx, hb, hml, hown, hts, hT, hI, hA, hk1, hk2⟩ := C
  obtain ⟨hr, hlocks, rfl, rfl, rfl, rfl⟩ := D
  intro H locs ls hP hS hL
  have hn : narrow .boolean (.int x) = .int x := by rcases hz with rfl | rfl <;> rfl
  exact W.zret hx hb hr hn (fun t ht hW => ⟨⟨x, σ, rfl, h, by unfold wB; rw [ht]; exact hP⟩, hS.F ht⟩) hS.2.2 d hlocks
theorem g_cret {V : EV} {X : CX} {own : String} {cc : ByteArray} {nL : Nat} {R : Room} (C : OK V X own cc nL R) {σ : Mem} {pc : Nat} {L : List (Option Value)} {x : Int32} {P : Int32 → Mem → Prop} (d : decode cc pc = .ok (.ireturn, 1)) (D : RI V X (some .char) P) (hz : narrow .char (.int x) = .int x) (h : P x σ) : GG V X σ pc L [.int x] := by
  obtain ⟨p, l, e, R', s, m, args, below, meth, c, A, kc, ks, Q⟩ := X
  obtain ⟨rfl, hx, hb, hml, hown, hts, hT, hI, hA, hk1, hk2⟩ := C
  obtain ⟨hr, hlocks, rfl, rfl, rfl, rfl⟩ := D
  intro H locs ls hP hS hL
  exact W.zret hx hb hr hz (fun t ht hW => ⟨⟨x, σ, rfl, h, by unfold wB; rw [ht]; exact hP⟩, hS.F ht⟩) hS.2.2 d hlocks
theorem g_vret {V : EV} {X : CX} {own : String} {cc : ByteArray} {nL : Nat} {R : Room} (C : OK V X own cc nL R) {σ : Mem} {pc : Nat} {L : List (Option Value)} {P : Mem → Prop} (d : decode cc pc = .ok (.return_, 1)) (D : RV V X P) (h : P σ) : GG V X σ pc L [] := by
  obtain ⟨p, l, e, R', s, m, args, below, meth, c, A, kc, ks, Q⟩ := X
  obtain ⟨rfl, hx, hb, hml, hown, hts, hT, hI, hA, hk1, hk2⟩ := C
  obtain ⟨hr, hlocks, rfl, rfl, rfl, rfl⟩ := D
  intro H locs ls hP hS hL
  exact W.vret hx hb hr (fun t ht hW => ⟨⟨σ, rfl, h, by unfold wB; rw [ht]; exact hP⟩, hS.F ht⟩) hS.2.2 d hlocks
theorem g_drop {V : EV} {X : CX} {σ : Mem} {pc : Nat} {L L' : List (Option Value)} {st : List Value} (i : Nat) (hl : L.set i none = L') (k : GG V X σ pc L' st) : GG V X σ pc L st := by
  obtain ⟨p, l, e, R', s, m, args, below, meth, c, A, kc, ks, Q⟩ := X
  intro H locs ls hP hS hL
  subst hl
  refine k H locs ls hP hS ⟨by rw [hL.1, List.length_set], hL.2.1, fun j v hj => ?_⟩
  by_cases hji : j = i
  · subst hji
    by_cases hlt : j < L.length
    · rw [List.getElem?_set_self hlt] at hj; cases hj
    · rw [List.getElem?_eq_none (by rw [List.length_set]; omega)] at hj; cases hj
  · rw [List.getElem?_set_ne (Ne.symm hji)] at hj
    exact hL.2.2 j v hj
theorem met_i {y : MethodName} {cc : ByteArray} {nL : Nat} {ret : Option FieldType} {R : Room} {own : String} (V : EV) (σ : Mem) {av : List Value} {w : Prop} {P : Int32 → Mem → Prop} (hy : plainName y.cls = true) (hown : y.cls = own) (hc : ∀ v ∈ av, v.category = 1) (hn : av.length ≤ nL) (k : ∀ X, OK V X own cc nL R → RI V X ret P → w → GG V X σ 0 (av.map some ++ List.replicate (nL - av.length) none) []) (l : Launch) : Met l y (.code y cc nL ret :: AW) R (va_Pc av (fun U => wP V σ U ∧ w)) (va_Qi P (wB V) (AA V)) 0 0 (AA V) := by
  refine Met.ofW (cc := cc) (maxL := nL) (ret := ret) hy rfl ?_
  intro p e s m args below meth c s₁ B hml hv
  obtain ⟨rfl, ⟨hP, hT, hI⟩, hw⟩ := hv
  have hts := atoms_spec (ws := .code y cc nL ret :: AW) B.pre
  have hf : s.vm.findClass own = some m.cls := by rw [← hown]; exact findClass_of_methodNamed B.named
  have hl := lh_entry av hc hn
  rw [lg_entry_eq]
  have hk := k (p, l, e, R, s, m, av.toArray, below, meth, c, AA V, 0, 0, MQ below (va_Qi P (wB V) (AA V)) av.toArray s 0 0 (AA V)) ⟨rfl, B.exec, B.bytes, hml, hf, fun w hw => hts w (List.mem_cons_of_mem _ hw), hT, hI, fun k hk => ⟨k, hk, rfl⟩, Nat.zero_le _, Nat.zero_le _⟩ ⟨B.returns, B.notSynchronized, rfl, rfl, rfl, rfl⟩ hw
  exact hk s.heap [] _ hP va_S.rf hl
theorem met_v {y : MethodName} {cc : ByteArray} {nL : Nat} {R : Room} {own : String} (V : EV) (σ : Mem) {av : List Value} {w : Prop} {P : Mem → Prop} (hy : plainName y.cls = true) (hown : y.cls = own) (hc : ∀ v ∈ av, v.category = 1) (hn : av.length ≤ nL) (k : ∀ X, OK V X own cc nL R → RV V X P → w → GG V X σ 0 (av.map some ++ List.replicate (nL - av.length) none) []) (l : Launch) : Met l y (.code y cc nL none :: AW) R (va_Pc av (fun U => wP V σ U ∧ w)) (va_Qv P (wB V) (AA V)) 0 0 (AA V) := by
  refine Met.ofW (cc := cc) (maxL := nL) (ret := none) hy rfl ?_
  intro p e s m args below meth c s₁ B hml hv
  obtain ⟨rfl, ⟨hP, hT, hI⟩, hw⟩ := hv
  have hts := atoms_spec (ws := .code y cc nL none :: AW) B.pre
  have hf : s.vm.findClass own = some m.cls := by rw [← hown]; exact findClass_of_methodNamed B.named
  have hl := lh_entry av hc hn
  rw [lg_entry_eq]
  have hk := k (p, l, e, R, s, m, av.toArray, below, meth, c, AA V, 0, 0, MQ below (va_Qv P (wB V) (AA V)) av.toArray s 0 0 (AA V)) ⟨rfl, B.exec, B.bytes, hml, hf, fun w hw => hts w (List.mem_cons_of_mem _ hw), hT, hI, fun k hk => ⟨k, hk, rfl⟩, Nat.zero_le _, Nat.zero_le _⟩ ⟨B.returns, B.notSynchronized, rfl, rfl, rfl, rfl⟩ hw
  exact hk s.heap [] _ hP va_S.rf hl
end
section
/-! CALLS over the fixed world -/
theorem aw_goodIn {y : MethodName} {cc : ByteArray} {nL : Nat} {ret : Option FieldType} (co : Cond.code y cc nL ret ∈ AW) : GoodIn AW (.code y cc nL ret :: AW) := by
  intro w hw
  have h : w ∈ AW := by
    rcases List.mem_cons.mp hw with rfl | h
    · exact co
    · exact h
  exact ⟨h, good_of_word (aw_good h)⟩
theorem wP_blind (V : EV) (σ : Mem) (av : List Value) (w : Prop) : FrameBlind (va_Pc av (fun U => wP V σ U ∧ w)) := by
  intro a U g mk h
  obtain ⟨h1, ⟨h2, h3, h4⟩, h5⟩ := h
  exact ⟨h1, ⟨h2, h3.same rfl, h4⟩, h5⟩
theorem wP_of {V : EV} {σ : Mem} {s U : State} {H : Heap} (hP : va_P V.1 clv (wsOf V σ) H) (hT : TK V s) (hI : INJ V) (hU : U.heap = H) (hW : s.WarmedH U.vm) : wP V σ U := ⟨by rw [hU]; exact hP, hT.warm hW, hI⟩
theorem g_callVi {V : EV} {X : CX} {own : String} {cc : ByteArray} {nL : Nat} {R : Room} (C : OK V X own cc nL R) {σ : Mem} {pc pc' : Nat} {L : List (Option Value)} {st : List Value} {y : MethodName} {idx maxL n id ci : Nat} {bytes : ByteArray} {ret : Option FieldType} {R' : Room} {q : vw_C} {fs : List Value} {av : List Value} {w : Prop} {P : Int32 → Mem → Prop} (hM : ∀ l, Met l y (.code y bytes maxL ret :: AW) R' (va_Pc (.ref (ad V id) :: av) (fun U => wP V σ U ∧ w)) (va_Qi P (wB V) (AA V)) 0 0 (AA V)) (hid : id < 100) (he : ent V σ id = .inr (ci, fs)) (hc : clv[ci]? = some q) (hq : q.1 = y.cls) (ml : Cond.methodLink own idx y ∈ AW) (im : Cond.instanceMethod y ∈ AW) (se : Cond.selects y.cls y y ∈ AW) (ini : Cond.initialized y.cls ∈ AW) (co : Cond.code y bytes maxL ret ∈ AW) (hd : y.cls ≠ "java/lang/invoke/MethodHandle" ∧ y.cls ≠ "java/lang/invoke/VarHandle" ∧ (parseMethodDescriptor y.desc).map (fun d => d.parameters.length) = some n) (hn : av.length = n) (h0 : R'.cells = 0 ∧ R'.slots = 0) (hr : R'.frames + 1 ≤ R.frames ∧ 8 + (maxL + 11) + R'.locals ≤ R.locals) (hst : (st.map fun v => v.category).sum ≤ 8) (d : decode cc pc = .ok (.invokevirtual idx, 3)) (hL : L.length = nL) (hp : pc + 3 = pc') (hw : w) (k : ∀ r τ, P r τ → GG V X τ pc' L (.int r :: st)) : GG V X σ pc L (av.reverse ++ .ref (ad V id) :: st) := by
  obtain ⟨p, l, e, R0, s, m, args, below, meth, c, A, kc, ks, Q⟩ := X
  obtain ⟨rfl, hx, hb, hml, hown, hts, hT, hI, hA, hk1, hk2⟩ := C
  subst hp
  intro H locs ls hP hS hls
  have hG : GoodIn AW (wsV own idx y.cls y (.code y bytes maxL ret :: AW)) := by
    intro w hw
    have h : w ∈ AW := by
      simp only [wsV, List.mem_append, List.mem_cons, List.not_mem_nil, or_false] at hw
      rcases hw with (rfl | rfl | rfl | rfl) | rfl | h
      · exact ml
      · exact im
      · exact se
      · exact ini
      · exact co
      · exact h
    exact ⟨h, good_of_word (aw_good h)⟩
  have cw := cwV (R := R0) (Ts := AW) (ws' := AW) (rm := R') (mc := 0) (ms := 0) n hts hG rfl h0.1 h0.2 ⟨rfl, hd⟩ hr
  have hrecv := va_recv hT.1 hP hc (ws_e hid he)
  rw [hq] at hrecv
  refine va_calli (va_runV (As := av) (rest := st) ⟨hx, hb, hml, hown, hts⟩ (hM l) cw ⟨wP_blind V σ _ w, hrecv, fun U hU hW => ⟨rfl, wP_of hP hT hI hU hW, hw⟩⟩ rfl hn (hls.1.trans hL) rfl (lv_room hst) d ⟨by omega, by omega⟩) hS (fun q _ h => by obtain ⟨j, hj, rfl⟩ := h; exact hA j hj) (fun q h => by obtain ⟨j, hj, rfl⟩ := h; exact hA j hj) (fun r τ t H1 locs1 ht hvm hpost hB hz hk1 hS1 => ?_)
  exact k r τ hpost H1 locs1 ls (by rw [← ht]; exact hB) hS1 hls
theorem g_callVv {V : EV} {X : CX} {own : String} {cc : ByteArray} {nL : Nat} {R : Room} (C : OK V X own cc nL R) {σ : Mem} {pc pc' : Nat} {L : List (Option Value)} {st : List Value} {y : MethodName} {idx maxL n id ci : Nat} {bytes : ByteArray} {ret : Option FieldType} {R' : Room} {q : vw_C} {fs : List Value} {av : List Value} {w : Prop} {P : Mem → Prop} (hM : ∀ l, Met l y (.code y bytes maxL ret :: AW) R' (va_Pc (.ref (ad V id) :: av) (fun U => wP V σ U ∧ w)) (va_Qv P (wB V) (AA V)) 0 0 (AA V)) (hid : id < 100) (he : ent V σ id = .inr (ci, fs)) (hc : clv[ci]? = some q) (hq : q.1 = y.cls) (ml : Cond.methodLink own idx y ∈ AW) (im : Cond.instanceMethod y ∈ AW) (se : Cond.selects y.cls y y ∈ AW) (ini : Cond.initialized y.cls ∈ AW) (co : Cond.code y bytes maxL ret ∈ AW) (hd : y.cls ≠ "java/lang/invoke/MethodHandle" ∧ y.cls ≠ "java/lang/invoke/VarHandle" ∧ (parseMethodDescriptor y.desc).map (fun d => d.parameters.length) = some n) (hn : av.length = n) (h0 : R'.cells = 0 ∧ R'.slots = 0) (hr : R'.frames + 1 ≤ R.frames ∧ 8 + (maxL + 11) + R'.locals ≤ R.locals) (hst : (st.map fun v => v.category).sum ≤ 8) (d : decode cc pc = .ok (.invokevirtual idx, 3)) (hL : L.length = nL) (hp : pc + 3 = pc') (hw : w) (k : ∀ τ, P τ → GG V X τ pc' L st) : GG V X σ pc L (av.reverse ++ .ref (ad V id) :: st) := by
  obtain ⟨p, l, e, R0, s, m, args, below, meth, c, A, kc, ks, Q⟩ := X
  obtain ⟨rfl, hx, hb, hml, hown, hts, hT, hI, hA, hk1, hk2⟩ := C
  subst hp
  intro H locs ls hP hS hls
  have hG : GoodIn AW (wsV own idx y.cls y (.code y bytes maxL ret :: AW)) := by
    intro w hw
    have h : w ∈ AW := by
      simp only [wsV, List.mem_append, List.mem_cons, List.not_mem_nil, or_false] at hw
      rcases hw with (rfl | rfl | rfl | rfl) | rfl | h
      · exact ml
      · exact im
      · exact se
      · exact ini
      · exact co
      · exact h
    exact ⟨h, good_of_word (aw_good h)⟩
  have cw := cwV (R := R0) (Ts := AW) (ws' := AW) (rm := R') (mc := 0) (ms := 0) n hts hG rfl h0.1 h0.2 ⟨rfl, hd⟩ hr
  have hrecv := va_recv hT.1 hP hc (ws_e hid he)
  rw [hq] at hrecv
  refine va_callv (va_runV (As := av) (rest := st) ⟨hx, hb, hml, hown, hts⟩ (hM l) cw ⟨wP_blind V σ _ w, hrecv, fun U hU hW => ⟨rfl, wP_of hP hT hI hU hW, hw⟩⟩ rfl hn (hls.1.trans hL) rfl (lv_room hst) d ⟨by omega, by omega⟩) hS (fun q _ h => by obtain ⟨j, hj, rfl⟩ := h; exact hA j hj) (fun q h => by obtain ⟨j, hj, rfl⟩ := h; exact hA j hj) (fun τ t H1 locs1 ht hvm hpost hB hz hk1 hS1 => ?_)
  exact k τ hpost H1 locs1 ls (by rw [← ht]; exact hB) hS1 hls
theorem aw_wsS {own : String} {idx : Nat} {y : MethodName} {bytes : ByteArray} {maxL : Nat} {ret : Option FieldType} (ml : Cond.methodLink own idx y ∈ AW) (stt : Cond.static y ∈ AW) (ini : Cond.initialized own ∈ AW) (co : Cond.code y bytes maxL ret ∈ AW) : GoodIn AW (wsS own idx y (.code y bytes maxL ret :: AW)) := by
  intro w hw
  have h : w ∈ AW := by
    simp only [wsS, List.mem_append, List.mem_cons, List.not_mem_nil, or_false] at hw
    rcases hw with (rfl | rfl | rfl) | rfl | h
    · exact ml
    · exact stt
    · exact ini
    · exact co
    · exact h
  exact ⟨h, good_of_word (aw_good h)⟩
theorem g_callSi {V : EV} {X : CX} {own : String} {cc : ByteArray} {nL : Nat} {R : Room} (C : OK V X own cc nL R) {σ : Mem} {pc pc' : Nat} {L : List (Option Value)} {st : List Value} {y : MethodName} {idx maxL n : Nat} {bytes : ByteArray} {ret : Option FieldType} {R' : Room} {av : List Value} {w : Prop} {P : Int32 → Mem → Prop} (hM : ∀ l, Met l y (.code y bytes maxL ret :: AW) R' (va_Pc av (fun U => wP V σ U ∧ w)) (va_Qi P (wB V) (AA V)) 0 0 (AA V)) (ml : Cond.methodLink own idx y ∈ AW) (stt : Cond.static y ∈ AW) (ini : Cond.initialized own ∈ AW) (co : Cond.code y bytes maxL ret ∈ AW) (hd : y.cls = own ∧ y.cls ≠ "java/lang/invoke/MethodHandle" ∧ y.cls ≠ "java/lang/invoke/VarHandle" ∧ (parseMethodDescriptor y.desc).map (fun d => d.parameters.length) = some n) (hn : av.length = n) (h0 : R'.cells = 0 ∧ R'.slots = 0) (hr : R'.frames + 1 ≤ R.frames ∧ 8 + (maxL + 11) + R'.locals ≤ R.locals) (hst : (st.map fun v => v.category).sum ≤ 8) (d : decode cc pc = .ok (.invokestatic idx, 3)) (hL : L.length = nL) (hp : pc + 3 = pc') (hw : w) (k : ∀ r τ, P r τ → GG V X τ pc' L (.int r :: st)) : GG V X σ pc L (av.reverse ++ st) := by
  obtain ⟨p, l, e, R0, s, m, args, below, meth, c, A, kc, ks, Q⟩ := X
  obtain ⟨rfl, hx, hb, hml, hown, hts, hT, hI, hA, hk1, hk2⟩ := C
  subst hp
  intro H locs ls hP hS hls
  have cw := cwS (R := R0) (Ts := AW) (ws' := AW) (rm := R') (mc := 0) (ms := 0) n hts (aw_wsS ml stt ini co) rfl h0.1 h0.2 hd hr
  refine va_calli (va_runS (As := av) (rest := st) ⟨hx, hb, hml, hown, hts⟩ (hM l) cw ⟨wP_blind V σ _ w, fun U hU hW => ⟨rfl, wP_of hP hT hI hU hW, hw⟩⟩ rfl hn (hls.1.trans hL) rfl (lv_room hst) d ⟨by omega, by omega⟩) hS (fun q _ h => by obtain ⟨j, hj, rfl⟩ := h; exact hA j hj) (fun q h => by obtain ⟨j, hj, rfl⟩ := h; exact hA j hj) (fun r τ t H1 locs1 ht hvm hpost hB hz hk1 hS1 => ?_)
  exact k r τ hpost H1 locs1 ls (by rw [← ht]; exact hB) hS1 hls
theorem g_callSv {V : EV} {X : CX} {own : String} {cc : ByteArray} {nL : Nat} {R : Room} (C : OK V X own cc nL R) {σ : Mem} {pc pc' : Nat} {L : List (Option Value)} {st : List Value} {y : MethodName} {idx maxL n : Nat} {bytes : ByteArray} {ret : Option FieldType} {R' : Room} {av : List Value} {w : Prop} {P : Mem → Prop} (hM : ∀ l, Met l y (.code y bytes maxL ret :: AW) R' (va_Pc av (fun U => wP V σ U ∧ w)) (va_Qv P (wB V) (AA V)) 0 0 (AA V)) (ml : Cond.methodLink own idx y ∈ AW) (stt : Cond.static y ∈ AW) (ini : Cond.initialized own ∈ AW) (co : Cond.code y bytes maxL ret ∈ AW) (hd : y.cls = own ∧ y.cls ≠ "java/lang/invoke/MethodHandle" ∧ y.cls ≠ "java/lang/invoke/VarHandle" ∧ (parseMethodDescriptor y.desc).map (fun d => d.parameters.length) = some n) (hn : av.length = n) (h0 : R'.cells = 0 ∧ R'.slots = 0) (hr : R'.frames + 1 ≤ R.frames ∧ 8 + (maxL + 11) + R'.locals ≤ R.locals) (hst : (st.map fun v => v.category).sum ≤ 8) (d : decode cc pc = .ok (.invokestatic idx, 3)) (hL : L.length = nL) (hp : pc + 3 = pc') (hw : w) (k : ∀ τ, P τ → GG V X τ pc' L st) : GG V X σ pc L (av.reverse ++ st) := by
  obtain ⟨p, l, e, R0, s, m, args, below, meth, c, A, kc, ks, Q⟩ := X
  obtain ⟨rfl, hx, hb, hml, hown, hts, hT, hI, hA, hk1, hk2⟩ := C
  subst hp
  intro H locs ls hP hS hls
  have cw := cwS (R := R0) (Ts := AW) (ws' := AW) (rm := R') (mc := 0) (ms := 0) n hts (aw_wsS ml stt ini co) rfl h0.1 h0.2 hd hr
  refine va_callv (va_runS (As := av) (rest := st) ⟨hx, hb, hml, hown, hts⟩ (hM l) cw ⟨wP_blind V σ _ w, fun U hU hW => ⟨rfl, wP_of hP hT hI hU hW, hw⟩⟩ rfl hn (hls.1.trans hL) rfl (lv_room hst) d ⟨by omega, by omega⟩) hS (fun q _ h => by obtain ⟨j, hj, rfl⟩ := h; exact hA j hj) (fun q h => by obtain ⟨j, hj, rfl⟩ := h; exact hA j hj) (fun τ t H1 locs1 ht hvm hpost hB hz hk1 hS1 => ?_)
  exact k τ hpost H1 locs1 ls (by rw [← ht]; exact hB) hS1 hls
theorem g_callNi {V : EV} {X : CX} {own host : String} {cc : ByteArray} {nL : Nat} {R : Room} (C : OK V X own cc nL R) {σ : Mem} {pc pc' : Nat} {L : List (Option Value)} {st : List Value} {y : MethodName} {idx maxL n : Nat} {bytes : ByteArray} {ret : Option FieldType} {R' : Room} {av : List Value} {w : Prop} {P : Int32 → Mem → Prop} (hM : ∀ l, Met l y (.code y bytes maxL ret :: AW) R' (va_Pc av (fun U => wP V σ U ∧ w)) (va_Qi P (wB V) (AA V)) 0 0 (AA V)) (nl : ∀ U, TK V U → va_Nw (.methodLinkNest own idx y host) U) (stt : Cond.static y ∈ AW) (ini : Cond.initialized y.cls ∈ AW) (co : Cond.code y bytes maxL ret ∈ AW) (hd : y.cls ≠ "java/lang/invoke/MethodHandle" ∧ y.cls ≠ "java/lang/invoke/VarHandle" ∧ (parseMethodDescriptor y.desc).map (fun d => d.parameters.length) = some n) (hn : av.length = n) (h0 : R'.cells = 0 ∧ R'.slots = 0) (hr : R'.frames + 1 ≤ R.frames ∧ 8 + (maxL + 11) + R'.locals ≤ R.locals) (hst : (st.map fun v => v.category).sum ≤ 8) (d : decode cc pc = .ok (.invokestatic idx, 3)) (hL : L.length = nL) (hp : pc + 3 = pc') (hw : w) (k : ∀ r τ, P r τ → GG V X τ pc' L (.int r :: st)) : GG V X σ pc L (av.reverse ++ st) := by
  obtain ⟨p, l, e, R0, s, m, args, below, meth, c, A, kc, ks, Q⟩ := X
  obtain ⟨rfl, hx, hb, hml, hown, hts, hT, hI, hA, hk1, hk2⟩ := C
  subst hp
  intro H locs ls hP hS hls
  have cw := va_cnB (R := R0) (Ts := AW) (ws' := AW) (rm := R') (mc := 0) (ms := 0) n hts (aw_goodIn co) rfl h0.1 h0.2 (nl s hT) (hts _ ini) hd hr
  refine va_calli (va_runSN (As := av) (rest := st) ⟨hx, hb, hml, hown, hts⟩ (hM l) ⟨cw, hts _ stt, trivial⟩ ⟨wP_blind V σ _ w, fun U hU hW => ⟨rfl, wP_of hP hT hI hU hW, hw⟩⟩ rfl hn (hls.1.trans hL) rfl (lv_room hst) d ⟨by omega, by omega⟩) hS (fun q _ h => by obtain ⟨j, hj, rfl⟩ := h; exact hA j hj) (fun q h => by obtain ⟨j, hj, rfl⟩ := h; exact hA j hj) (fun r τ t H1 locs1 ht hvm hpost hB hz hk1 hS1 => ?_)
  exact k r τ hpost H1 locs1 ls (by rw [← ht]; exact hB) hS1 hls
/-- System.arraycopy of a whole array of ints, or booleans -/
theorem g_copy {V : EV} {X : CX} {own : String} {cc : ByteArray} {nL : Nat} {R : Room} (C : OK V X own cc nL R) {σ : Mem} {pc pc' : Nat} {L : List (Option Value)} {st : List Value} {idx a b n tq : Nat} {cls : ClassId} {ty : FieldType} {z : Int32} (ha : a < 100) (hb' : b < 100) (hea : ent V σ a = .inl (cls, n, .inl (σ a))) (heb : ∀ τ, ent V τ b = .inl (cls, n, .inl (τ b))) (ht : (tyv V)[tq]? = some (cls, ty)) (hprim : refKind ty = false) (hz : z.toNatClampNeg = n) (hz0 : ¬ z < 0) (hfit : ∀ i, i < n → fits ty (.int (σ a i)) = true) (ml : Cond.methodLink own idx arraycopyName ∈ AW) (hR : 1 ≤ R.frames ∧ (st.map fun v => v.category).sum + (nativeFrameWords "java/lang/System" "arraycopy" 5 + 11) ≤ R.locals) (d : decode cc pc = .ok (.invokestatic idx, 3)) (hL : L.length = nL) {f : Mem → Prop} (hp : pc + 3 = pc') (h : bm (cpA σ a b n) f) (k : ∀ τ, f τ → GG V X τ pc' L st) : GG V X σ pc L (.int z :: .int 0 :: .ref (ad V b) :: .int 0 :: .ref (ad V a) :: st) := by
  obtain ⟨p, l, e, R0, s, m, args, below, meth, c, A, kc, ks, Q⟩ := X
  obtain ⟨rfl, hx, hb, hml, hown, hts, hT, hI, hA, hk1, hk2⟩ := C
  subst hp
  intro H locs ls hP hS hls
  have hD := ws_D hI hA σ
  refine va_copyi hx hb (by rw [hml, hls.1, hL]) hown (hts _ ml) (hts _ na_arraycopyName) (hts _ st_arraycopyName) (hts _ ini_System) hT.1 hP hD hS a b tq tq (ws_e ha hea) (ws_e hb' (heb σ)) ht ht hprim (sp := 0) (dp := 0) (n := z) (by decide) (by decide) hz0 (by rw [hz]; show 0 + n ≤ n; omega) (by rw [hz]; show 0 + n ≤ n; omega) (fun i hi => by rw [hz] at hi; show fits ty (.int (σ a (0 + i))) = true; rw [Nat.zero_add]; exact hfit i hi) hR.1 hR.2 d (fun H1 locs1 hP1 hD1 hS1 => ?_)
  rw [hz] at hP1
  rw [ws_set V (τ := cpA σ a b n) hb' (by rw [heb, cpA_eq]; rfl) (fun j hj => cpA_ne σ hj)] at hP1
  exact k _ h H1 locs1 ls hP1 hS1 hls
end
section
/-! constants, arrays, fields of this system over the fixed world -/
def isZ (x : Int32) : Prop := x = 0 ∨ x = 1
def isC (x : Int32) : Prop := narrow .char (.int x) = .int x
def isM (b : Nat) : Prop := b % 12 = 0 ∧ b < 84
theorem isM_st {i : Int32} (h : vp_in i 4) : isM (36 + 12 * i.toNatClampNeg) := by
  have : i.toNatClampNeg < 4 := Nat.not_le.mp fun q => h (Or.inr q)
  unfold isM
  omega
def aln (k : Nat) : Nat := if k = 96 then 1252 else 313
def isZr (k : Nat) : Prop := k = 94 ∨ k = 95 ∨ k = 96 ∨ k = 97
theorem ic_m1 : Int32.ofInt (-1) = (-1) := by decide
theorem ic_0 : Int32.ofInt 0 = 0 := by decide
theorem ic_1 : Int32.ofInt 1 = 1 := by decide
theorem ic_2 : Int32.ofInt 2 = 2 := by decide
theorem ic_3 : Int32.ofInt 3 = 3 := by decide
theorem ic_4 : Int32.ofInt 4 = 4 := by decide
theorem ic_5 : Int32.ofInt 5 = 5 := by decide
theorem bp_m100 : (Int8.ofInt (-100)).toInt32 = (-100) := by decide
theorem bp_m5 : (Int8.ofInt (-5)).toInt32 = (-5) := by decide
theorem bp_m4 : (Int8.ofInt (-4)).toInt32 = (-4) := by decide
theorem bp_m3 : (Int8.ofInt (-3)).toInt32 = (-3) := by decide
theorem bp_m2 : (Int8.ofInt (-2)).toInt32 = (-2) := by decide
theorem bp_6 : (Int8.ofInt 6).toInt32 = 6 := by decide
theorem bp_7 : (Int8.ofInt 7).toInt32 = 7 := by decide
theorem bp_8 : (Int8.ofInt 8).toInt32 = 8 := by decide
theorem bp_9 : (Int8.ofInt 9).toInt32 = 9 := by decide
theorem bp_10 : (Int8.ofInt 10).toInt32 = 10 := by decide
theorem bp_11 : (Int8.ofInt 11).toInt32 = 11 := by decide
theorem bp_12 : (Int8.ofInt 12).toInt32 = 12 := by decide
theorem bp_13 : (Int8.ofInt 13).toInt32 = 13 := by decide
theorem bp_20 : (Int8.ofInt 20).toInt32 = 20 := by decide
theorem bp_23 : (Int8.ofInt 23).toInt32 = 23 := by decide
theorem bp_30 : (Int8.ofInt 30).toInt32 = 30 := by decide
theorem bp_39 : (Int8.ofInt 39).toInt32 = 39 := by decide
theorem bp_40 : (Int8.ofInt 40).toInt32 = 40 := by decide
theorem bp_46 : (Int8.ofInt 46).toInt32 = 46 := by decide
theorem bp_48 : (Int8.ofInt 48).toInt32 = 48 := by decide
theorem bp_50 : (Int8.ofInt 50).toInt32 = 50 := by decide
theorem bp_57 : (Int8.ofInt 57).toInt32 = 57 := by decide
theorem bp_59 : (Int8.ofInt 59).toInt32 = 59 := by decide
theorem bp_60 : (Int8.ofInt 60).toInt32 = 60 := by decide
theorem bp_61 : (Int8.ofInt 61).toInt32 = 61 := by decide
theorem bp_63 : (Int8.ofInt 63).toInt32 = 63 := by decide
theorem bp_99 : (Int8.ofInt 99).toInt32 = 99 := by decide
theorem bp_101 : (Int8.ofInt 101).toInt32 = 101 := by decide
theorem bp_102 : (Int8.ofInt 102).toInt32 = 102 := by decide
theorem bp_103 : (Int8.ofInt 103).toInt32 = 103 := by decide
theorem bp_104 : (Int8.ofInt 104).toInt32 = 104 := by decide
theorem bp_112 : (Int8.ofInt 112).toInt32 = 112 := by decide
theorem bp_115 : (Int8.ofInt 115).toInt32 = 115 := by decide
theorem bp_119 : (Int8.ofInt 119).toInt32 = 119 := by decide
theorem sp_303 : (Int16.ofInt 303).toInt32 = 303 := by decide
theorem sp_308 : (Int16.ofInt 308).toInt32 = 308 := by decide
theorem sp_313 : (Int16.ofInt 313).toInt32 = 313 := by decide
theorem sp_939 : (Int16.ofInt 939).toInt32 = 939 := by decide
theorem sp_9999 : (Int16.ofInt 9999).toInt32 = 9999 := by decide
theorem sp_10000 : (Int16.ofInt 10000).toInt32 = 10000 := by decide
theorem tl_0 : Int32.toNatClampNeg 0 = 0 := by decide
theorem tl_1 : Int32.toNatClampNeg 1 = 1 := by decide
theorem tl_2 : Int32.toNatClampNeg 2 = 2 := by decide
theorem tl_3 : Int32.toNatClampNeg 3 = 3 := by decide
theorem tl_4 : Int32.toNatClampNeg 4 = 4 := by decide
theorem tl_5 : Int32.toNatClampNeg 5 = 5 := by decide
theorem tl_6 : Int32.toNatClampNeg 6 = 6 := by decide
theorem tl_7 : Int32.toNatClampNeg 7 = 7 := by decide
theorem tl_8 : Int32.toNatClampNeg 8 = 8 := by decide
theorem tl_9 : Int32.toNatClampNeg 9 = 9 := by decide
theorem tl_10 : Int32.toNatClampNeg 10 = 10 := by decide
theorem vi_0_3 : vp_in 0 3 := by unfold vp_in; decide
theorem vi_0_313 : vp_in 0 313 := by unfold vp_in; decide
theorem vi_1_3 : vp_in 1 3 := by unfold vp_in; decide
theorem vi_1_313 : vp_in 1 313 := by unfold vp_in; decide
theorem vi_2_3 : vp_in 2 3 := by unfold vp_in; decide
theorem vi_2_313 : vp_in 2 313 := by unfold vp_in; decide
theorem vi_3_313 : vp_in 3 313 := by unfold vp_in; decide
theorem vi_4_313 : vp_in 4 313 := by unfold vp_in; decide
theorem vi_5_313 : vp_in 5 313 := by unfold vp_in; decide
theorem vi_6_313 : vp_in 6 313 := by unfold vp_in; decide
theorem vi_7_313 : vp_in 7 313 := by unfold vp_in; decide
theorem vi_8_313 : vp_in 8 313 := by unfold vp_in; decide
theorem vi_9_313 : vp_in 9 313 := by unfold vp_in; decide
theorem vi_10_313 : vp_in 10 313 := by unfold vp_in; decide
theorem arr_1 : zA 1 40 := ⟨by decide, fun _ _ => rfl⟩
theorem arr_2 : iA 2 40 := ⟨by decide, fun _ _ => rfl⟩
theorem arr_3 : iA 3 40 := ⟨by decide, fun _ _ => rfl⟩
theorem arr_4 : iA 4 50 := ⟨by decide, fun _ _ => rfl⟩
theorem arr_5 : iA 5 50 := ⟨by decide, fun _ _ => rfl⟩
theorem arr_6 : zA 6 50 := ⟨by decide, fun _ _ => rfl⟩
theorem arr_7 : iA 7 50 := ⟨by decide, fun _ _ => rfl⟩
theorem arr_8 : iA 8 5 := ⟨by decide, fun _ _ => rfl⟩
theorem arr_9 : iA 9 5 := ⟨by decide, fun _ _ => rfl⟩
theorem arr_10 : iA 10 12 := ⟨by decide, fun _ _ => rfl⟩
theorem arr_11 : iA 11 3 := ⟨by decide, fun _ _ => rfl⟩
theorem arr_88 : cA 88 60 := ⟨by decide, fun _ _ => rfl⟩
theorem arr_90 : cA 90 30 := ⟨by decide, fun _ _ => rfl⟩
theorem arr_91 : iA 91 30 := ⟨by decide, fun _ _ => rfl⟩
theorem arr_92 : iA 92 30 := ⟨by decide, fun _ _ => rfl⟩
theorem arr_94 : iA 94 313 := ⟨by decide, fun _ _ => rfl⟩
theorem arr_95 : iA 95 313 := ⟨by decide, fun _ _ => rfl⟩
theorem arr_96 : iA 96 1252 := ⟨by decide, fun _ _ => rfl⟩
theorem arr_97 : iA 97 313 := ⟨by decide, fun _ _ => rfl⟩
theorem arr_98 : iA 98 60 := ⟨by decide, fun _ _ => rfl⟩
theorem arr_99 : iA 99 93 := ⟨by decide, fun _ _ => rfl⟩
theorem iA_zr {k : Nat} (h : isZr k) : iA k (aln k) := by
  rcases h with rfl | rfl | rfl | rfl
  · exact arr_94
  · exact arr_95
  · exact arr_96
  · exact arr_97
theorem isM_lt {b : Nat} (h : isM b) : b < 100 := by unfold isM at h; omega
theorem en_84 (V : EV) (σ : Mem) : ent V σ 84 = .inr (4, [.ref (ad V 0), .ref (ad V 12), .ref (ad V 24), .int (σ 84 3), .ref (ad V 85), .ref (ad V 87), .ref (ad V 89), .int (σ 84 7), .int (σ 84 8)]) := rfl
theorem en_85 (V : EV) (σ : Mem) : ent V σ 85 = .inr (0, [.ref (ad V 86), .int (σ 85 1), .int (σ 85 2)]) := rfl
theorem en_87 (V : EV) (σ : Mem) : ent V σ 87 = .inr (3, [.ref (ad V 88), .int (σ 87 1)]) := rfl
theorem en_89 (V : EV) (σ : Mem) : ent V σ 89 = .inr (2, [.ref (ad V 87), .ref (ad V 90), .ref (ad V 91), .ref (ad V 92), .int (σ 89 4), .int (σ 89 5)]) := rfl
theorem en_93 (V : EV) (σ : Mem) : ent V σ 93 = .inr (5, [.ref (ad V 94), .ref (ad V 95), .ref (ad V 96), .int (σ 93 3), .ref (ad V 97), .int (σ 93 5), .ref (ad V 98), .int (σ 93 7), .int (σ 93 8), .int (σ 93 9), .ref (ad V 99), .int (σ 93 11), .int (σ 93 12)]) := rfl
theorem en_0 (V : EV) (σ : Mem) : ent V σ 0 = .inr (1, [.ref (ad V 1), .ref (ad V 2), .ref (ad V 3), .ref (ad V 4), .ref (ad V 5), .ref (ad V 6), .ref (ad V 7), .ref (ad V 8), .ref (ad V 9), .ref (ad V 10), .int (σ 0 10), .ref (ad V 11), .int (σ 0 12), .int (σ 0 13), .int (σ 0 14), .int (σ 0 15), .int (σ 0 16)]) := rfl
theorem en_M (V : EV) (σ : Mem) {b : Nat} (h : isM b) : ent V σ b = .inr (1, [.ref (ad V (b + 1)), .ref (ad V (b + 2)), .ref (ad V (b + 3)), .ref (ad V (b + 4)), .ref (ad V (b + 5)), .ref (ad V (b + 6)), .ref (ad V (b + 7)), .ref (ad V (b + 8)), .ref (ad V (b + 9)), .ref (ad V (b + 10)), .int (σ b 10), .ref (ad V (b + 11)), .int (σ b 12), .int (σ b 13), .int (σ b 14), .int (σ b 15), .int (σ b 16)]) := by
  have := ent_mem V σ h.1 h.2 (j := 0) (by decide)
  rw [Nat.add_zero] at this
  rw [this]; rfl
theorem f_X0_11 {V : EV} {X : CX} {cc : ByteArray} {nL : Nat} {R : Room} (C : OK V X RX0 cc nL R) {σ : Mem} {pc pc' : Nat} {L : List (Option Value)} {st : List Value} (d : decode cc pc = .ok (.getfield 11, 3)) (hp : pc + 3 = pc') (k : GG V X σ pc' L (.ref (ad V 86) :: st)) : GG V X σ pc L (.ref (ad V 85) :: st) :=
  g_get C d (j := 0) (T := TX0) (N := 3) (Cn := RX0) (ref := RX0) (by decide) (en_85 V σ) rfl (by decide) fl_RX0_11 inlX0 rfl rfl hp k
theorem f_X0_18 {V : EV} {X : CX} {cc : ByteArray} {nL : Nat} {R : Room} (C : OK V X RX0 cc nL R) {σ : Mem} {pc pc' : Nat} {L : List (Option Value)} {st : List Value} (d : decode cc pc = .ok (.getfield 18, 3)) (hp : pc + 3 = pc') (k : GG V X σ pc' L (.int (σ 85 1) :: st)) : GG V X σ pc L (.ref (ad V 85) :: st) :=
  g_get C d (j := 1) (T := TX0) (N := 3) (Cn := RX0) (ref := RX0) (by decide) (en_85 V σ) rfl (by decide) fl_RX0_18 inlX0 rfl rfl hp k
theorem f_X0_22 {V : EV} {X : CX} {cc : ByteArray} {nL : Nat} {R : Room} (C : OK V X RX0 cc nL R) {σ : Mem} {pc pc' : Nat} {L : List (Option Value)} {st : List Value} (d : decode cc pc = .ok (.getfield 22, 3)) (hp : pc + 3 = pc') (k : GG V X σ pc' L (.int (σ 85 2) :: st)) : GG V X σ pc L (.ref (ad V 85) :: st) :=
  g_get C d (j := 2) (T := TX0) (N := 3) (Cn := RX0) (ref := RX0) (by decide) (en_85 V σ) rfl (by decide) fl_RX0_22 inlX0 rfl rfl hp k
theorem fb_X1_9 {V : EV} {X : CX} {cc : ByteArray} {nL : Nat} {R : Room} {b : Nat} (hb : isM b) (C : OK V X RX1 cc nL R) {σ : Mem} {pc pc' : Nat} {L : List (Option Value)} {st : List Value} (d : decode cc pc = .ok (.getfield 9, 3)) (hp : pc + 3 = pc') (k : GG V X σ pc' L (.ref (ad V (b + 1)) :: st)) : GG V X σ pc L (.ref (ad V b) :: st) :=
  g_get C d (j := 0) (T := TX1) (N := 17) (Cn := RX1) (ref := RX1) (isM_lt hb) (en_M V σ hb) rfl (by decide) fl_RX1_9 inlX1 rfl rfl hp k
theorem f_X1_9 {V : EV} {X : CX} {cc : ByteArray} {nL : Nat} {R : Room} (C : OK V X RX1 cc nL R) {σ : Mem} {pc pc' : Nat} {L : List (Option Value)} {st : List Value} (d : decode cc pc = .ok (.getfield 9, 3)) (hp : pc + 3 = pc') (k : GG V X σ pc' L (.ref (ad V 1) :: st)) : GG V X σ pc L (.ref (ad V 0) :: st) :=
  g_get C d (j := 0) (T := TX1) (N := 17) (Cn := RX1) (ref := RX1) (by decide) (en_0 V σ) rfl (by decide) fl_RX1_9 inlX1 rfl rfl hp k
theorem fb_X1_15 {V : EV} {X : CX} {cc : ByteArray} {nL : Nat} {R : Room} {b : Nat} (hb : isM b) (C : OK V X RX1 cc nL R) {σ : Mem} {pc pc' : Nat} {L : List (Option Value)} {st : List Value} (d : decode cc pc = .ok (.getfield 15, 3)) (hp : pc + 3 = pc') (k : GG V X σ pc' L (.ref (ad V (b + 2)) :: st)) : GG V X σ pc L (.ref (ad V b) :: st) :=
  g_get C d (j := 1) (T := TX1) (N := 17) (Cn := RX1) (ref := RX1) (isM_lt hb) (en_M V σ hb) rfl (by decide) fl_RX1_15 inlX1 rfl rfl hp k
theorem f_X1_15 {V : EV} {X : CX} {cc : ByteArray} {nL : Nat} {R : Room} (C : OK V X RX1 cc nL R) {σ : Mem} {pc pc' : Nat} {L : List (Option Value)} {st : List Value} (d : decode cc pc = .ok (.getfield 15, 3)) (hp : pc + 3 = pc') (k : GG V X σ pc' L (.ref (ad V 2) :: st)) : GG V X σ pc L (.ref (ad V 0) :: st) :=
  g_get C d (j := 1) (T := TX1) (N := 17) (Cn := RX1) (ref := RX1) (by decide) (en_0 V σ) rfl (by decide) fl_RX1_15 inlX1 rfl rfl hp k
theorem fb_X1_19 {V : EV} {X : CX} {cc : ByteArray} {nL : Nat} {R : Room} {b : Nat} (hb : isM b) (C : OK V X RX1 cc nL R) {σ : Mem} {pc pc' : Nat} {L : List (Option Value)} {st : List Value} (d : decode cc pc = .ok (.getfield 19, 3)) (hp : pc + 3 = pc') (k : GG V X σ pc' L (.ref (ad V (b + 3)) :: st)) : GG V X σ pc L (.ref (ad V b) :: st) :=
  g_get C d (j := 2) (T := TX1) (N := 17) (Cn := RX1) (ref := RX1) (isM_lt hb) (en_M V σ hb) rfl (by decide) fl_RX1_19 inlX1 rfl rfl hp k
theorem f_X1_19 {V : EV} {X : CX} {cc : ByteArray} {nL : Nat} {R : Room} (C : OK V X RX1 cc nL R) {σ : Mem} {pc pc' : Nat} {L : List (Option Value)} {st : List Value} (d : decode cc pc = .ok (.getfield 19, 3)) (hp : pc + 3 = pc') (k : GG V X σ pc' L (.ref (ad V 3) :: st)) : GG V X σ pc L (.ref (ad V 0) :: st) :=
  g_get C d (j := 2) (T := TX1) (N := 17) (Cn := RX1) (ref := RX1) (by decide) (en_0 V σ) rfl (by decide) fl_RX1_19 inlX1 rfl rfl hp k
theorem fb_X1_22 {V : EV} {X : CX} {cc : ByteArray} {nL : Nat} {R : Room} {b : Nat} (hb : isM b) (C : OK V X RX1 cc nL R) {σ : Mem} {pc pc' : Nat} {L : List (Option Value)} {st : List Value} (d : decode cc pc = .ok (.getfield 22, 3)) (hp : pc + 3 = pc') (k : GG V X σ pc' L (.ref (ad V (b + 4)) :: st)) : GG V X σ pc L (.ref (ad V b) :: st) :=
  g_get C d (j := 3) (T := TX1) (N := 17) (Cn := RX1) (ref := RX1) (isM_lt hb) (en_M V σ hb) rfl (by decide) fl_RX1_22 inlX1 rfl rfl hp k
theorem f_X1_22 {V : EV} {X : CX} {cc : ByteArray} {nL : Nat} {R : Room} (C : OK V X RX1 cc nL R) {σ : Mem} {pc pc' : Nat} {L : List (Option Value)} {st : List Value} (d : decode cc pc = .ok (.getfield 22, 3)) (hp : pc + 3 = pc') (k : GG V X σ pc' L (.ref (ad V 4) :: st)) : GG V X σ pc L (.ref (ad V 0) :: st) :=
  g_get C d (j := 3) (T := TX1) (N := 17) (Cn := RX1) (ref := RX1) (by decide) (en_0 V σ) rfl (by decide) fl_RX1_22 inlX1 rfl rfl hp k
theorem fb_X1_25 {V : EV} {X : CX} {cc : ByteArray} {nL : Nat} {R : Room} {b : Nat} (hb : isM b) (C : OK V X RX1 cc nL R) {σ : Mem} {pc pc' : Nat} {L : List (Option Value)} {st : List Value} (d : decode cc pc = .ok (.getfield 25, 3)) (hp : pc + 3 = pc') (k : GG V X σ pc' L (.ref (ad V (b + 5)) :: st)) : GG V X σ pc L (.ref (ad V b) :: st) :=
  g_get C d (j := 4) (T := TX1) (N := 17) (Cn := RX1) (ref := RX1) (isM_lt hb) (en_M V σ hb) rfl (by decide) fl_RX1_25 inlX1 rfl rfl hp k
theorem f_X1_25 {V : EV} {X : CX} {cc : ByteArray} {nL : Nat} {R : Room} (C : OK V X RX1 cc nL R) {σ : Mem} {pc pc' : Nat} {L : List (Option Value)} {st : List Value} (d : decode cc pc = .ok (.getfield 25, 3)) (hp : pc + 3 = pc') (k : GG V X σ pc' L (.ref (ad V 5) :: st)) : GG V X σ pc L (.ref (ad V 0) :: st) :=
  g_get C d (j := 4) (T := TX1) (N := 17) (Cn := RX1) (ref := RX1) (by decide) (en_0 V σ) rfl (by decide) fl_RX1_25 inlX1 rfl rfl hp k
theorem fb_X1_28 {V : EV} {X : CX} {cc : ByteArray} {nL : Nat} {R : Room} {b : Nat} (hb : isM b) (C : OK V X RX1 cc nL R) {σ : Mem} {pc pc' : Nat} {L : List (Option Value)} {st : List Value} (d : decode cc pc = .ok (.getfield 28, 3)) (hp : pc + 3 = pc') (k : GG V X σ pc' L (.ref (ad V (b + 6)) :: st)) : GG V X σ pc L (.ref (ad V b) :: st) :=
  g_get C d (j := 5) (T := TX1) (N := 17) (Cn := RX1) (ref := RX1) (isM_lt hb) (en_M V σ hb) rfl (by decide) fl_RX1_28 inlX1 rfl rfl hp k
theorem f_X1_28 {V : EV} {X : CX} {cc : ByteArray} {nL : Nat} {R : Room} (C : OK V X RX1 cc nL R) {σ : Mem} {pc pc' : Nat} {L : List (Option Value)} {st : List Value} (d : decode cc pc = .ok (.getfield 28, 3)) (hp : pc + 3 = pc') (k : GG V X σ pc' L (.ref (ad V 6) :: st)) : GG V X σ pc L (.ref (ad V 0) :: st) :=
  g_get C d (j := 5) (T := TX1) (N := 17) (Cn := RX1) (ref := RX1) (by decide) (en_0 V σ) rfl (by decide) fl_RX1_28 inlX1 rfl rfl hp k
theorem fb_X1_31 {V : EV} {X : CX} {cc : ByteArray} {nL : Nat} {R : Room} {b : Nat} (hb : isM b) (C : OK V X RX1 cc nL R) {σ : Mem} {pc pc' : Nat} {L : List (Option Value)} {st : List Value} (d : decode cc pc = .ok (.getfield 31, 3)) (hp : pc + 3 = pc') (k : GG V X σ pc' L (.ref (ad V (b + 7)) :: st)) : GG V X σ pc L (.ref (ad V b) :: st) :=
  g_get C d (j := 6) (T := TX1) (N := 17) (Cn := RX1) (ref := RX1) (isM_lt hb) (en_M V σ hb) rfl (by decide) fl_RX1_31 inlX1 rfl rfl hp k
theorem f_X1_31 {V : EV} {X : CX} {cc : ByteArray} {nL : Nat} {R : Room} (C : OK V X RX1 cc nL R) {σ : Mem} {pc pc' : Nat} {L : List (Option Value)} {st : List Value} (d : decode cc pc = .ok (.getfield 31, 3)) (hp : pc + 3 = pc') (k : GG V X σ pc' L (.ref (ad V 7) :: st)) : GG V X σ pc L (.ref (ad V 0) :: st) :=
  g_get C d (j := 6) (T := TX1) (N := 17) (Cn := RX1) (ref := RX1) (by decide) (en_0 V σ) rfl (by decide) fl_RX1_31 inlX1 rfl rfl hp k
theorem fb_X1_34 {V : EV} {X : CX} {cc : ByteArray} {nL : Nat} {R : Room} {b : Nat} (hb : isM b) (C : OK V X RX1 cc nL R) {σ : Mem} {pc pc' : Nat} {L : List (Option Value)} {st : List Value} (d : decode cc pc = .ok (.getfield 34, 3)) (hp : pc + 3 = pc') (k : GG V X σ pc' L (.ref (ad V (b + 8)) :: st)) : GG V X σ pc L (.ref (ad V b) :: st) :=
  g_get C d (j := 7) (T := TX1) (N := 17) (Cn := RX1) (ref := RX1) (isM_lt hb) (en_M V σ hb) rfl (by decide) fl_RX1_34 inlX1 rfl rfl hp k
theorem f_X1_34 {V : EV} {X : CX} {cc : ByteArray} {nL : Nat} {R : Room} (C : OK V X RX1 cc nL R) {σ : Mem} {pc pc' : Nat} {L : List (Option Value)} {st : List Value} (d : decode cc pc = .ok (.getfield 34, 3)) (hp : pc + 3 = pc') (k : GG V X σ pc' L (.ref (ad V 8) :: st)) : GG V X σ pc L (.ref (ad V 0) :: st) :=
  g_get C d (j := 7) (T := TX1) (N := 17) (Cn := RX1) (ref := RX1) (by decide) (en_0 V σ) rfl (by decide) fl_RX1_34 inlX1 rfl rfl hp k
theorem fb_X1_37 {V : EV} {X : CX} {cc : ByteArray} {nL : Nat} {R : Room} {b : Nat} (hb : isM b) (C : OK V X RX1 cc nL R) {σ : Mem} {pc pc' : Nat} {L : List (Option Value)} {st : List Value} (d : decode cc pc = .ok (.getfield 37, 3)) (hp : pc + 3 = pc') (k : GG V X σ pc' L (.ref (ad V (b + 9)) :: st)) : GG V X σ pc L (.ref (ad V b) :: st) :=
  g_get C d (j := 8) (T := TX1) (N := 17) (Cn := RX1) (ref := RX1) (isM_lt hb) (en_M V σ hb) rfl (by decide) fl_RX1_37 inlX1 rfl rfl hp k
theorem f_X1_37 {V : EV} {X : CX} {cc : ByteArray} {nL : Nat} {R : Room} (C : OK V X RX1 cc nL R) {σ : Mem} {pc pc' : Nat} {L : List (Option Value)} {st : List Value} (d : decode cc pc = .ok (.getfield 37, 3)) (hp : pc + 3 = pc') (k : GG V X σ pc' L (.ref (ad V 9) :: st)) : GG V X σ pc L (.ref (ad V 0) :: st) :=
  g_get C d (j := 8) (T := TX1) (N := 17) (Cn := RX1) (ref := RX1) (by decide) (en_0 V σ) rfl (by decide) fl_RX1_37 inlX1 rfl rfl hp k
theorem fb_X1_40 {V : EV} {X : CX} {cc : ByteArray} {nL : Nat} {R : Room} {b : Nat} (hb : isM b) (C : OK V X RX1 cc nL R) {σ : Mem} {pc pc' : Nat} {L : List (Option Value)} {st : List Value} (d : decode cc pc = .ok (.getfield 40, 3)) (hp : pc + 3 = pc') (k : GG V X σ pc' L (.ref (ad V (b + 10)) :: st)) : GG V X σ pc L (.ref (ad V b) :: st) :=
  g_get C d (j := 9) (T := TX1) (N := 17) (Cn := RX1) (ref := RX1) (isM_lt hb) (en_M V σ hb) rfl (by decide) fl_RX1_40 inlX1 rfl rfl hp k
theorem f_X1_40 {V : EV} {X : CX} {cc : ByteArray} {nL : Nat} {R : Room} (C : OK V X RX1 cc nL R) {σ : Mem} {pc pc' : Nat} {L : List (Option Value)} {st : List Value} (d : decode cc pc = .ok (.getfield 40, 3)) (hp : pc + 3 = pc') (k : GG V X σ pc' L (.ref (ad V 10) :: st)) : GG V X σ pc L (.ref (ad V 0) :: st) :=
  g_get C d (j := 9) (T := TX1) (N := 17) (Cn := RX1) (ref := RX1) (by decide) (en_0 V σ) rfl (by decide) fl_RX1_40 inlX1 rfl rfl hp k
theorem fb_X1_43 {V : EV} {X : CX} {cc : ByteArray} {nL : Nat} {R : Room} {b : Nat} (hb : isM b) (C : OK V X RX1 cc nL R) {σ : Mem} {pc pc' : Nat} {L : List (Option Value)} {st : List Value} (d : decode cc pc = .ok (.getfield 43, 3)) (hp : pc + 3 = pc') (k : GG V X σ pc' L (.ref (ad V (b + 11)) :: st)) : GG V X σ pc L (.ref (ad V b) :: st) :=
  g_get C d (j := 11) (T := TX1) (N := 17) (Cn := RX1) (ref := RX1) (isM_lt hb) (en_M V σ hb) rfl (by decide) fl_RX1_43 inlX1 rfl rfl hp k
theorem f_X1_43 {V : EV} {X : CX} {cc : ByteArray} {nL : Nat} {R : Room} (C : OK V X RX1 cc nL R) {σ : Mem} {pc pc' : Nat} {L : List (Option Value)} {st : List Value} (d : decode cc pc = .ok (.getfield 43, 3)) (hp : pc + 3 = pc') (k : GG V X σ pc' L (.ref (ad V 11) :: st)) : GG V X σ pc L (.ref (ad V 0) :: st) :=
  g_get C d (j := 11) (T := TX1) (N := 17) (Cn := RX1) (ref := RX1) (by decide) (en_0 V σ) rfl (by decide) fl_RX1_43 inlX1 rfl rfl hp k
theorem fb_X1_46 {V : EV} {X : CX} {cc : ByteArray} {nL : Nat} {R : Room} {b : Nat} (hb : isM b) (C : OK V X RX1 cc nL R) {σ : Mem} {pc pc' : Nat} {L : List (Option Value)} {st : List Value} (d : decode cc pc = .ok (.getfield 46, 3)) (hp : pc + 3 = pc') (k : GG V X σ pc' L (.int (σ b 13) :: st)) : GG V X σ pc L (.ref (ad V b) :: st) :=
  g_get C d (j := 13) (T := TX1) (N := 17) (Cn := RX1) (ref := RX1) (isM_lt hb) (en_M V σ hb) rfl (by decide) fl_RX1_46 inlX1 rfl rfl hp k
theorem f_X1_46 {V : EV} {X : CX} {cc : ByteArray} {nL : Nat} {R : Room} (C : OK V X RX1 cc nL R) {σ : Mem} {pc pc' : Nat} {L : List (Option Value)} {st : List Value} (d : decode cc pc = .ok (.getfield 46, 3)) (hp : pc + 3 = pc') (k : GG V X σ pc' L (.int (σ 0 13) :: st)) : GG V X σ pc L (.ref (ad V 0) :: st) :=
  g_get C d (j := 13) (T := TX1) (N := 17) (Cn := RX1) (ref := RX1) (by decide) (en_0 V σ) rfl (by decide) fl_RX1_46 inlX1 rfl rfl hp k
theorem fb_X1_56 {V : EV} {X : CX} {cc : ByteArray} {nL : Nat} {R : Room} {b : Nat} (hb : isM b) (C : OK V X RX1 cc nL R) {σ : Mem} {pc pc' : Nat} {L : List (Option Value)} {st : List Value} (d : decode cc pc = .ok (.getfield 56, 3)) (hp : pc + 3 = pc') (k : GG V X σ pc' L (.int (σ b 10) :: st)) : GG V X σ pc L (.ref (ad V b) :: st) :=
  g_get C d (j := 10) (T := TX1) (N := 17) (Cn := RX1) (ref := RX1) (isM_lt hb) (en_M V σ hb) rfl (by decide) fl_RX1_56 inlX1 rfl rfl hp k
theorem f_X1_56 {V : EV} {X : CX} {cc : ByteArray} {nL : Nat} {R : Room} (C : OK V X RX1 cc nL R) {σ : Mem} {pc pc' : Nat} {L : List (Option Value)} {st : List Value} (d : decode cc pc = .ok (.getfield 56, 3)) (hp : pc + 3 = pc') (k : GG V X σ pc' L (.int (σ 0 10) :: st)) : GG V X σ pc L (.ref (ad V 0) :: st) :=
  g_get C d (j := 10) (T := TX1) (N := 17) (Cn := RX1) (ref := RX1) (by decide) (en_0 V σ) rfl (by decide) fl_RX1_56 inlX1 rfl rfl hp k
theorem fb_X1_59 {V : EV} {X : CX} {cc : ByteArray} {nL : Nat} {R : Room} {b : Nat} (hb : isM b) (C : OK V X RX1 cc nL R) {σ : Mem} {pc pc' : Nat} {L : List (Option Value)} {st : List Value} (d : decode cc pc = .ok (.getfield 59, 3)) (hp : pc + 3 = pc') (k : GG V X σ pc' L (.int (σ b 12) :: st)) : GG V X σ pc L (.ref (ad V b) :: st) :=
  g_get C d (j := 12) (T := TX1) (N := 17) (Cn := RX1) (ref := RX1) (isM_lt hb) (en_M V σ hb) rfl (by decide) fl_RX1_59 inlX1 rfl rfl hp k
theorem f_X1_59 {V : EV} {X : CX} {cc : ByteArray} {nL : Nat} {R : Room} (C : OK V X RX1 cc nL R) {σ : Mem} {pc pc' : Nat} {L : List (Option Value)} {st : List Value} (d : decode cc pc = .ok (.getfield 59, 3)) (hp : pc + 3 = pc') (k : GG V X σ pc' L (.int (σ 0 12) :: st)) : GG V X σ pc L (.ref (ad V 0) :: st) :=
  g_get C d (j := 12) (T := TX1) (N := 17) (Cn := RX1) (ref := RX1) (by decide) (en_0 V σ) rfl (by decide) fl_RX1_59 inlX1 rfl rfl hp k
theorem fb_X1_62 {V : EV} {X : CX} {cc : ByteArray} {nL : Nat} {R : Room} {b : Nat} (hb : isM b) (C : OK V X RX1 cc nL R) {σ : Mem} {pc pc' : Nat} {L : List (Option Value)} {st : List Value} (d : decode cc pc = .ok (.getfield 62, 3)) (hp : pc + 3 = pc') (k : GG V X σ pc' L (.int (σ b 14) :: st)) : GG V X σ pc L (.ref (ad V b) :: st) :=
  g_get C d (j := 14) (T := TX1) (N := 17) (Cn := RX1) (ref := RX1) (isM_lt hb) (en_M V σ hb) rfl (by decide) fl_RX1_62 inlX1 rfl rfl hp k
theorem f_X1_62 {V : EV} {X : CX} {cc : ByteArray} {nL : Nat} {R : Room} (C : OK V X RX1 cc nL R) {σ : Mem} {pc pc' : Nat} {L : List (Option Value)} {st : List Value} (d : decode cc pc = .ok (.getfield 62, 3)) (hp : pc + 3 = pc') (k : GG V X σ pc' L (.int (σ 0 14) :: st)) : GG V X σ pc L (.ref (ad V 0) :: st) :=
  g_get C d (j := 14) (T := TX1) (N := 17) (Cn := RX1) (ref := RX1) (by decide) (en_0 V σ) rfl (by decide) fl_RX1_62 inlX1 rfl rfl hp k
theorem fb_X1_65 {V : EV} {X : CX} {cc : ByteArray} {nL : Nat} {R : Room} {b : Nat} (hb : isM b) (C : OK V X RX1 cc nL R) {σ : Mem} {pc pc' : Nat} {L : List (Option Value)} {st : List Value} (d : decode cc pc = .ok (.getfield 65, 3)) (hp : pc + 3 = pc') (k : GG V X σ pc' L (.int (σ b 15) :: st)) : GG V X σ pc L (.ref (ad V b) :: st) :=
  g_get C d (j := 15) (T := TX1) (N := 17) (Cn := RX1) (ref := RX1) (isM_lt hb) (en_M V σ hb) rfl (by decide) fl_RX1_65 inlX1 rfl rfl hp k
theorem f_X1_65 {V : EV} {X : CX} {cc : ByteArray} {nL : Nat} {R : Room} (C : OK V X RX1 cc nL R) {σ : Mem} {pc pc' : Nat} {L : List (Option Value)} {st : List Value} (d : decode cc pc = .ok (.getfield 65, 3)) (hp : pc + 3 = pc') (k : GG V X σ pc' L (.int (σ 0 15) :: st)) : GG V X σ pc L (.ref (ad V 0) :: st) :=
  g_get C d (j := 15) (T := TX1) (N := 17) (Cn := RX1) (ref := RX1) (by decide) (en_0 V σ) rfl (by decide) fl_RX1_65 inlX1 rfl rfl hp k
theorem fb_X1_68 {V : EV} {X : CX} {cc : ByteArray} {nL : Nat} {R : Room} {b : Nat} (hb : isM b) (C : OK V X RX1 cc nL R) {σ : Mem} {pc pc' : Nat} {L : List (Option Value)} {st : List Value} (d : decode cc pc = .ok (.getfield 68, 3)) (hp : pc + 3 = pc') (k : GG V X σ pc' L (.int (σ b 16) :: st)) : GG V X σ pc L (.ref (ad V b) :: st) :=
  g_get C d (j := 16) (T := TX1) (N := 17) (Cn := RX1) (ref := RX1) (isM_lt hb) (en_M V σ hb) rfl (by decide) fl_RX1_68 inlX1 rfl rfl hp k
theorem f_X1_68 {V : EV} {X : CX} {cc : ByteArray} {nL : Nat} {R : Room} (C : OK V X RX1 cc nL R) {σ : Mem} {pc pc' : Nat} {L : List (Option Value)} {st : List Value} (d : decode cc pc = .ok (.getfield 68, 3)) (hp : pc + 3 = pc') (k : GG V X σ pc' L (.int (σ 0 16) :: st)) : GG V X σ pc L (.ref (ad V 0) :: st) :=
  g_get C d (j := 16) (T := TX1) (N := 17) (Cn := RX1) (ref := RX1) (by decide) (en_0 V σ) rfl (by decide) fl_RX1_68 inlX1 rfl rfl hp k
theorem f_X2_9 {V : EV} {X : CX} {cc : ByteArray} {nL : Nat} {R : Room} (C : OK V X RX2 cc nL R) {σ : Mem} {pc pc' : Nat} {L : List (Option Value)} {st : List Value} (d : decode cc pc = .ok (.getfield 9, 3)) (hp : pc + 3 = pc') (k : GG V X σ pc' L (.ref (ad V 87) :: st)) : GG V X σ pc L (.ref (ad V 89) :: st) :=
  g_get C d (j := 0) (T := TX2) (N := 6) (Cn := RX2) (ref := RX2) (by decide) (en_89 V σ) rfl (by decide) fl_RX2_9 inlX2 rfl rfl hp k
theorem f_X2_15 {V : EV} {X : CX} {cc : ByteArray} {nL : Nat} {R : Room} (C : OK V X RX2 cc nL R) {σ : Mem} {pc pc' : Nat} {L : List (Option Value)} {st : List Value} (d : decode cc pc = .ok (.getfield 15, 3)) (hp : pc + 3 = pc') (k : GG V X σ pc' L (.ref (ad V 90) :: st)) : GG V X σ pc L (.ref (ad V 89) :: st) :=
  g_get C d (j := 1) (T := TX2) (N := 6) (Cn := RX2) (ref := RX2) (by decide) (en_89 V σ) rfl (by decide) fl_RX2_15 inlX2 rfl rfl hp k
theorem f_X2_19 {V : EV} {X : CX} {cc : ByteArray} {nL : Nat} {R : Room} (C : OK V X RX2 cc nL R) {σ : Mem} {pc pc' : Nat} {L : List (Option Value)} {st : List Value} (d : decode cc pc = .ok (.getfield 19, 3)) (hp : pc + 3 = pc') (k : GG V X σ pc' L (.ref (ad V 91) :: st)) : GG V X σ pc L (.ref (ad V 89) :: st) :=
  g_get C d (j := 2) (T := TX2) (N := 6) (Cn := RX2) (ref := RX2) (by decide) (en_89 V σ) rfl (by decide) fl_RX2_19 inlX2 rfl rfl hp k
theorem f_X2_23 {V : EV} {X : CX} {cc : ByteArray} {nL : Nat} {R : Room} (C : OK V X RX2 cc nL R) {σ : Mem} {pc pc' : Nat} {L : List (Option Value)} {st : List Value} (d : decode cc pc = .ok (.getfield 23, 3)) (hp : pc + 3 = pc') (k : GG V X σ pc' L (.ref (ad V 92) :: st)) : GG V X σ pc L (.ref (ad V 89) :: st) :=
  g_get C d (j := 3) (T := TX2) (N := 6) (Cn := RX2) (ref := RX2) (by decide) (en_89 V σ) rfl (by decide) fl_RX2_23 inlX2 rfl rfl hp k
theorem f_X2_26 {V : EV} {X : CX} {cc : ByteArray} {nL : Nat} {R : Room} (C : OK V X RX2 cc nL R) {σ : Mem} {pc pc' : Nat} {L : List (Option Value)} {st : List Value} (d : decode cc pc = .ok (.getfield 26, 3)) (hp : pc + 3 = pc') (k : GG V X σ pc' L (.int (σ 89 4) :: st)) : GG V X σ pc L (.ref (ad V 89) :: st) :=
  g_get C d (j := 4) (T := TX2) (N := 6) (Cn := RX2) (ref := RX2) (by decide) (en_89 V σ) rfl (by decide) fl_RX2_26 inlX2 rfl rfl hp k
theorem f_X2_30 {V : EV} {X : CX} {cc : ByteArray} {nL : Nat} {R : Room} (C : OK V X RX2 cc nL R) {σ : Mem} {pc pc' : Nat} {L : List (Option Value)} {st : List Value} (d : decode cc pc = .ok (.getfield 30, 3)) (hp : pc + 3 = pc') (k : GG V X σ pc' L (.int (σ 89 5) :: st)) : GG V X σ pc L (.ref (ad V 89) :: st) :=
  g_get C d (j := 5) (T := TX2) (N := 6) (Cn := RX2) (ref := RX2) (by decide) (en_89 V σ) rfl (by decide) fl_RX2_30 inlX2 rfl rfl hp k
theorem f_X3_9 {V : EV} {X : CX} {cc : ByteArray} {nL : Nat} {R : Room} (C : OK V X RX3 cc nL R) {σ : Mem} {pc pc' : Nat} {L : List (Option Value)} {st : List Value} (d : decode cc pc = .ok (.getfield 9, 3)) (hp : pc + 3 = pc') (k : GG V X σ pc' L (.ref (ad V 88) :: st)) : GG V X σ pc L (.ref (ad V 87) :: st) :=
  g_get C d (j := 0) (T := TX3) (N := 2) (Cn := RX3) (ref := RX3) (by decide) (en_87 V σ) rfl (by decide) fl_RX3_9 inlX3 rfl rfl hp k
theorem f_X3_15 {V : EV} {X : CX} {cc : ByteArray} {nL : Nat} {R : Room} (C : OK V X RX3 cc nL R) {σ : Mem} {pc pc' : Nat} {L : List (Option Value)} {st : List Value} (d : decode cc pc = .ok (.getfield 15, 3)) (hp : pc + 3 = pc') (k : GG V X σ pc' L (.int (σ 87 1) :: st)) : GG V X σ pc L (.ref (ad V 87) :: st) :=
  g_get C d (j := 1) (T := TX3) (N := 2) (Cn := RX3) (ref := RX3) (by decide) (en_87 V σ) rfl (by decide) fl_RX3_15 inlX3 rfl rfl hp k
theorem f_X4_12 {V : EV} {X : CX} {cc : ByteArray} {nL : Nat} {R : Room} (C : OK V X RX4 cc nL R) {σ : Mem} {pc pc' : Nat} {L : List (Option Value)} {st : List Value} (d : decode cc pc = .ok (.getfield 12, 3)) (hp : pc + 3 = pc') (k : GG V X σ pc' L (.ref (ad V 0) :: st)) : GG V X σ pc L (.ref (ad V 84) :: st) :=
  g_get C d (j := 0) (T := TX4) (N := 9) (Cn := RX4) (ref := RX4) (by decide) (en_84 V σ) rfl (by decide) fl_RX4_12 inlX4 rfl rfl hp k
theorem f_X4_16 {V : EV} {X : CX} {cc : ByteArray} {nL : Nat} {R : Room} (C : OK V X RX4 cc nL R) {σ : Mem} {pc pc' : Nat} {L : List (Option Value)} {st : List Value} (d : decode cc pc = .ok (.getfield 16, 3)) (hp : pc + 3 = pc') (k : GG V X σ pc' L (.ref (ad V 12) :: st)) : GG V X σ pc L (.ref (ad V 84) :: st) :=
  g_get C d (j := 1) (T := TX4) (N := 9) (Cn := RX4) (ref := RX4) (by decide) (en_84 V σ) rfl (by decide) fl_RX4_16 inlX4 rfl rfl hp k
theorem f_X4_19 {V : EV} {X : CX} {cc : ByteArray} {nL : Nat} {R : Room} (C : OK V X RX4 cc nL R) {σ : Mem} {pc pc' : Nat} {L : List (Option Value)} {st : List Value} (d : decode cc pc = .ok (.getfield 19, 3)) (hp : pc + 3 = pc') (k : GG V X σ pc' L (.ref (ad V 24) :: st)) : GG V X σ pc L (.ref (ad V 84) :: st) :=
  g_get C d (j := 2) (T := TX4) (N := 9) (Cn := RX4) (ref := RX4) (by decide) (en_84 V σ) rfl (by decide) fl_RX4_19 inlX4 rfl rfl hp k
theorem f_X4_22 {V : EV} {X : CX} {cc : ByteArray} {nL : Nat} {R : Room} (C : OK V X RX4 cc nL R) {σ : Mem} {pc pc' : Nat} {L : List (Option Value)} {st : List Value} (d : decode cc pc = .ok (.getfield 22, 3)) (hp : pc + 3 = pc') (k : GG V X σ pc' L (.int (σ 84 3) :: st)) : GG V X σ pc L (.ref (ad V 84) :: st) :=
  g_get C d (j := 3) (T := TX4) (N := 9) (Cn := RX4) (ref := RX4) (by decide) (en_84 V σ) rfl (by decide) fl_RX4_22 inlX4 rfl rfl hp k
theorem f_X4_29 {V : EV} {X : CX} {cc : ByteArray} {nL : Nat} {R : Room} (C : OK V X RX4 cc nL R) {σ : Mem} {pc pc' : Nat} {L : List (Option Value)} {st : List Value} (d : decode cc pc = .ok (.getfield 29, 3)) (hp : pc + 3 = pc') (k : GG V X σ pc' L (.ref (ad V 85) :: st)) : GG V X σ pc L (.ref (ad V 84) :: st) :=
  g_get C d (j := 4) (T := TX4) (N := 9) (Cn := RX4) (ref := RX4) (by decide) (en_84 V σ) rfl (by decide) fl_RX4_29 inlX4 rfl rfl hp k
theorem f_X4_36 {V : EV} {X : CX} {cc : ByteArray} {nL : Nat} {R : Room} (C : OK V X RX4 cc nL R) {σ : Mem} {pc pc' : Nat} {L : List (Option Value)} {st : List Value} (d : decode cc pc = .ok (.getfield 36, 3)) (hp : pc + 3 = pc') (k : GG V X σ pc' L (.ref (ad V 87) :: st)) : GG V X σ pc L (.ref (ad V 84) :: st) :=
  g_get C d (j := 5) (T := TX4) (N := 9) (Cn := RX4) (ref := RX4) (by decide) (en_84 V σ) rfl (by decide) fl_RX4_36 inlX4 rfl rfl hp k
theorem f_X4_45 {V : EV} {X : CX} {cc : ByteArray} {nL : Nat} {R : Room} (C : OK V X RX4 cc nL R) {σ : Mem} {pc pc' : Nat} {L : List (Option Value)} {st : List Value} (d : decode cc pc = .ok (.getfield 45, 3)) (hp : pc + 3 = pc') (k : GG V X σ pc' L (.ref (ad V 89) :: st)) : GG V X σ pc L (.ref (ad V 84) :: st) :=
  g_get C d (j := 6) (T := TX4) (N := 9) (Cn := RX4) (ref := RX4) (by decide) (en_84 V σ) rfl (by decide) fl_RX4_45 inlX4 rfl rfl hp k
theorem f_X4_49 {V : EV} {X : CX} {cc : ByteArray} {nL : Nat} {R : Room} (C : OK V X RX4 cc nL R) {σ : Mem} {pc pc' : Nat} {L : List (Option Value)} {st : List Value} (d : decode cc pc = .ok (.getfield 49, 3)) (hp : pc + 3 = pc') (k : GG V X σ pc' L (.int (σ 84 7) :: st)) : GG V X σ pc L (.ref (ad V 84) :: st) :=
  g_get C d (j := 7) (T := TX4) (N := 9) (Cn := RX4) (ref := RX4) (by decide) (en_84 V σ) rfl (by decide) fl_RX4_49 inlX4 rfl rfl hp k
theorem f_X4_53 {V : EV} {X : CX} {cc : ByteArray} {nL : Nat} {R : Room} (C : OK V X RX4 cc nL R) {σ : Mem} {pc pc' : Nat} {L : List (Option Value)} {st : List Value} (d : decode cc pc = .ok (.getfield 53, 3)) (hp : pc + 3 = pc') (k : GG V X σ pc' L (.int (σ 84 8) :: st)) : GG V X σ pc L (.ref (ad V 84) :: st) :=
  g_get C d (j := 8) (T := TX4) (N := 9) (Cn := RX4) (ref := RX4) (by decide) (en_84 V σ) rfl (by decide) fl_RX4_53 inlX4 rfl rfl hp k
theorem f_X5_7 {V : EV} {X : CX} {cc : ByteArray} {nL : Nat} {R : Room} (C : OK V X RX5 cc nL R) {σ : Mem} {pc pc' : Nat} {L : List (Option Value)} {st : List Value} (d : decode cc pc = .ok (.getfield 7, 3)) (hp : pc + 3 = pc') (k : GG V X σ pc' L (.ref (ad V 94) :: st)) : GG V X σ pc L (.ref (ad V 93) :: st) :=
  g_get C d (j := 0) (T := TX5) (N := 13) (Cn := RX5) (ref := RX5) (by decide) (en_93 V σ) rfl (by decide) fl_RX5_7 inlX5 rfl rfl hp k
theorem f_X5_13 {V : EV} {X : CX} {cc : ByteArray} {nL : Nat} {R : Room} (C : OK V X RX5 cc nL R) {σ : Mem} {pc pc' : Nat} {L : List (Option Value)} {st : List Value} (d : decode cc pc = .ok (.getfield 13, 3)) (hp : pc + 3 = pc') (k : GG V X σ pc' L (.ref (ad V 95) :: st)) : GG V X σ pc L (.ref (ad V 93) :: st) :=
  g_get C d (j := 1) (T := TX5) (N := 13) (Cn := RX5) (ref := RX5) (by decide) (en_93 V σ) rfl (by decide) fl_RX5_13 inlX5 rfl rfl hp k
theorem f_X5_16 {V : EV} {X : CX} {cc : ByteArray} {nL : Nat} {R : Room} (C : OK V X RX5 cc nL R) {σ : Mem} {pc pc' : Nat} {L : List (Option Value)} {st : List Value} (d : decode cc pc = .ok (.getfield 16, 3)) (hp : pc + 3 = pc') (k : GG V X σ pc' L (.ref (ad V 96) :: st)) : GG V X σ pc L (.ref (ad V 93) :: st) :=
  g_get C d (j := 2) (T := TX5) (N := 13) (Cn := RX5) (ref := RX5) (by decide) (en_93 V σ) rfl (by decide) fl_RX5_16 inlX5 rfl rfl hp k
theorem f_X5_19 {V : EV} {X : CX} {cc : ByteArray} {nL : Nat} {R : Room} (C : OK V X RX5 cc nL R) {σ : Mem} {pc pc' : Nat} {L : List (Option Value)} {st : List Value} (d : decode cc pc = .ok (.getfield 19, 3)) (hp : pc + 3 = pc') (k : GG V X σ pc' L (.ref (ad V 97) :: st)) : GG V X σ pc L (.ref (ad V 93) :: st) :=
  g_get C d (j := 4) (T := TX5) (N := 13) (Cn := RX5) (ref := RX5) (by decide) (en_93 V σ) rfl (by decide) fl_RX5_19 inlX5 rfl rfl hp k
theorem f_X5_22 {V : EV} {X : CX} {cc : ByteArray} {nL : Nat} {R : Room} (C : OK V X RX5 cc nL R) {σ : Mem} {pc pc' : Nat} {L : List (Option Value)} {st : List Value} (d : decode cc pc = .ok (.getfield 22, 3)) (hp : pc + 3 = pc') (k : GG V X σ pc' L (.ref (ad V 98) :: st)) : GG V X σ pc L (.ref (ad V 93) :: st) :=
  g_get C d (j := 6) (T := TX5) (N := 13) (Cn := RX5) (ref := RX5) (by decide) (en_93 V σ) rfl (by decide) fl_RX5_22 inlX5 rfl rfl hp k
theorem f_X5_25 {V : EV} {X : CX} {cc : ByteArray} {nL : Nat} {R : Room} (C : OK V X RX5 cc nL R) {σ : Mem} {pc pc' : Nat} {L : List (Option Value)} {st : List Value} (d : decode cc pc = .ok (.getfield 25, 3)) (hp : pc + 3 = pc') (k : GG V X σ pc' L (.ref (ad V 99) :: st)) : GG V X σ pc L (.ref (ad V 93) :: st) :=
  g_get C d (j := 10) (T := TX5) (N := 13) (Cn := RX5) (ref := RX5) (by decide) (en_93 V σ) rfl (by decide) fl_RX5_25 inlX5 rfl rfl hp k
theorem f_X5_44 {V : EV} {X : CX} {cc : ByteArray} {nL : Nat} {R : Room} (C : OK V X RX5 cc nL R) {σ : Mem} {pc pc' : Nat} {L : List (Option Value)} {st : List Value} (d : decode cc pc = .ok (.getfield 44, 3)) (hp : pc + 3 = pc') (k : GG V X σ pc' L (.int (σ 93 3) :: st)) : GG V X σ pc L (.ref (ad V 93) :: st) :=
  g_get C d (j := 3) (T := TX5) (N := 13) (Cn := RX5) (ref := RX5) (by decide) (en_93 V σ) rfl (by decide) fl_RX5_44 inlX5 rfl rfl hp k
theorem f_X5_56 {V : EV} {X : CX} {cc : ByteArray} {nL : Nat} {R : Room} (C : OK V X RX5 cc nL R) {σ : Mem} {pc pc' : Nat} {L : List (Option Value)} {st : List Value} (d : decode cc pc = .ok (.getfield 56, 3)) (hp : pc + 3 = pc') (k : GG V X σ pc' L (.int (σ 93 5) :: st)) : GG V X σ pc L (.ref (ad V 93) :: st) :=
  g_get C d (j := 5) (T := TX5) (N := 13) (Cn := RX5) (ref := RX5) (by decide) (en_93 V σ) rfl (by decide) fl_RX5_56 inlX5 rfl rfl hp k
theorem f_X5_132 {V : EV} {X : CX} {cc : ByteArray} {nL : Nat} {R : Room} (C : OK V X RX5 cc nL R) {σ : Mem} {pc pc' : Nat} {L : List (Option Value)} {st : List Value} (d : decode cc pc = .ok (.getfield 132, 3)) (hp : pc + 3 = pc') (k : GG V X σ pc' L (.int (σ 93 7) :: st)) : GG V X σ pc L (.ref (ad V 93) :: st) :=
  g_get C d (j := 7) (T := TX5) (N := 13) (Cn := RX5) (ref := RX5) (by decide) (en_93 V σ) rfl (by decide) fl_RX5_132 inlX5 rfl rfl hp k
theorem f_X5_135 {V : EV} {X : CX} {cc : ByteArray} {nL : Nat} {R : Room} (C : OK V X RX5 cc nL R) {σ : Mem} {pc pc' : Nat} {L : List (Option Value)} {st : List Value} (d : decode cc pc = .ok (.getfield 135, 3)) (hp : pc + 3 = pc') (k : GG V X σ pc' L (.int (σ 93 12) :: st)) : GG V X σ pc L (.ref (ad V 93) :: st) :=
  g_get C d (j := 12) (T := TX5) (N := 13) (Cn := RX5) (ref := RX5) (by decide) (en_93 V σ) rfl (by decide) fl_RX5_135 inlX5 rfl rfl hp k
theorem f_X5_144 {V : EV} {X : CX} {cc : ByteArray} {nL : Nat} {R : Room} (C : OK V X RX5 cc nL R) {σ : Mem} {pc pc' : Nat} {L : List (Option Value)} {st : List Value} (d : decode cc pc = .ok (.getfield 144, 3)) (hp : pc + 3 = pc') (k : GG V X σ pc' L (.int (σ 93 11) :: st)) : GG V X σ pc L (.ref (ad V 93) :: st) :=
  g_get C d (j := 11) (T := TX5) (N := 13) (Cn := RX5) (ref := RX5) (by decide) (en_93 V σ) rfl (by decide) fl_RX5_144 inlX5 rfl rfl hp k
theorem f_X5_163 {V : EV} {X : CX} {cc : ByteArray} {nL : Nat} {R : Room} (C : OK V X RX5 cc nL R) {σ : Mem} {pc pc' : Nat} {L : List (Option Value)} {st : List Value} (d : decode cc pc = .ok (.getfield 163, 3)) (hp : pc + 3 = pc') (k : GG V X σ pc' L (.int (σ 93 8) :: st)) : GG V X σ pc L (.ref (ad V 93) :: st) :=
  g_get C d (j := 8) (T := TX5) (N := 13) (Cn := RX5) (ref := RX5) (by decide) (en_93 V σ) rfl (by decide) fl_RX5_163 inlX5 rfl rfl hp k
theorem f_X5_166 {V : EV} {X : CX} {cc : ByteArray} {nL : Nat} {R : Room} (C : OK V X RX5 cc nL R) {σ : Mem} {pc pc' : Nat} {L : List (Option Value)} {st : List Value} (d : decode cc pc = .ok (.getfield 166, 3)) (hp : pc + 3 = pc') (k : GG V X σ pc' L (.int (σ 93 9) :: st)) : GG V X σ pc L (.ref (ad V 93) :: st) :=
  g_get C d (j := 9) (T := TX5) (N := 13) (Cn := RX5) (ref := RX5) (by decide) (en_93 V σ) rfl (by decide) fl_RX5_166 inlX5 rfl rfl hp k
theorem p_X0_18 {V : EV} {X : CX} {cc : ByteArray} {nL : Nat} {R : Room} {x : Int32} (C : OK V X RX0 cc nL R) {σ : Mem} {pc pc' : Nat} {L : List (Option Value)} {st : List Value} {f : Mem → Prop} (d : decode cc pc = .ok (.putfield 18, 3)) (hp : pc + 3 = pc') (h : bm (up2 σ 85 1 x) f) (k : ∀ τ, f τ → GG V X τ pc' L st) : GG V X σ pc L (.int x :: .ref (ad V 85) :: st) :=
  g_put C d (j := 1) (T := TX0) (N := 3) (Cn := RX0) (ref := RX0) tyX0 (by decide) (en_85 V σ) rfl (by decide) fl_RX0_18 inlX0 tyX0_ok nmX0 rfl rfl (tyX0_ok 1 (by decide)) rfl rfl (Nat.le_of_ble_eq_true rfl) (by rw [en_85]; rfl) hp h k
theorem p_X0_22 {V : EV} {X : CX} {cc : ByteArray} {nL : Nat} {R : Room} {x : Int32} (C : OK V X RX0 cc nL R) {σ : Mem} {pc pc' : Nat} {L : List (Option Value)} {st : List Value} {f : Mem → Prop} (d : decode cc pc = .ok (.putfield 22, 3)) (hp : pc + 3 = pc') (h : bm (up2 σ 85 2 x) f) (k : ∀ τ, f τ → GG V X τ pc' L st) : GG V X σ pc L (.int x :: .ref (ad V 85) :: st) :=
  g_put C d (j := 2) (T := TX0) (N := 3) (Cn := RX0) (ref := RX0) tyX0 (by decide) (en_85 V σ) rfl (by decide) fl_RX0_22 inlX0 tyX0_ok nmX0 rfl rfl (tyX0_ok 2 (by decide)) rfl rfl (Nat.le_of_ble_eq_true rfl) (by rw [en_85]; rfl) hp h k
theorem pb_X1_46 {V : EV} {X : CX} {cc : ByteArray} {nL : Nat} {R : Room} {b : Nat} (hb : isM b) {x : Int32} (C : OK V X RX1 cc nL R) {σ : Mem} {pc pc' : Nat} {L : List (Option Value)} {st : List Value} {f : Mem → Prop} (d : decode cc pc = .ok (.putfield 46, 3)) (hp : pc + 3 = pc') (h : bm (up2 σ b 13 x) f) (k : ∀ τ, f τ → GG V X τ pc' L st) : GG V X σ pc L (.int x :: .ref (ad V b) :: st) :=
  g_put C d (j := 13) (T := TX1) (N := 17) (Cn := RX1) (ref := RX1) tyX1 (isM_lt hb) (en_M V σ hb) rfl (by decide) fl_RX1_46 inlX1 tyX1_ok nmX1 rfl rfl (tyX1_ok 13 (by decide)) rfl rfl (Nat.le_of_ble_eq_true rfl) (by rw [en_M V _ hb]; simp [up2, upd]) hp h k
theorem p_X1_46 {V : EV} {X : CX} {cc : ByteArray} {nL : Nat} {R : Room} {x : Int32} (C : OK V X RX1 cc nL R) {σ : Mem} {pc pc' : Nat} {L : List (Option Value)} {st : List Value} {f : Mem → Prop} (d : decode cc pc = .ok (.putfield 46, 3)) (hp : pc + 3 = pc') (h : bm (up2 σ 0 13 x) f) (k : ∀ τ, f τ → GG V X τ pc' L st) : GG V X σ pc L (.int x :: .ref (ad V 0) :: st) :=
  g_put C d (j := 13) (T := TX1) (N := 17) (Cn := RX1) (ref := RX1) tyX1 (by decide) (en_0 V σ) rfl (by decide) fl_RX1_46 inlX1 tyX1_ok nmX1 rfl rfl (tyX1_ok 13 (by decide)) rfl rfl (Nat.le_of_ble_eq_true rfl) (by rw [en_0]; rfl) hp h k
theorem pb_X1_56 {V : EV} {X : CX} {cc : ByteArray} {nL : Nat} {R : Room} {b : Nat} (hb : isM b) {x : Int32} (C : OK V X RX1 cc nL R) {σ : Mem} {pc pc' : Nat} {L : List (Option Value)} {st : List Value} {f : Mem → Prop} (d : decode cc pc = .ok (.putfield 56, 3)) (hp : pc + 3 = pc') (h : bm (up2 σ b 10 x) f) (k : ∀ τ, f τ → GG V X τ pc' L st) : GG V X σ pc L (.int x :: .ref (ad V b) :: st) :=
  g_put C d (j := 10) (T := TX1) (N := 17) (Cn := RX1) (ref := RX1) tyX1 (isM_lt hb) (en_M V σ hb) rfl (by decide) fl_RX1_56 inlX1 tyX1_ok nmX1 rfl rfl (tyX1_ok 10 (by decide)) rfl rfl (Nat.le_of_ble_eq_true rfl) (by rw [en_M V _ hb]; simp [up2, upd]) hp h k
theorem p_X1_56 {V : EV} {X : CX} {cc : ByteArray} {nL : Nat} {R : Room} {x : Int32} (C : OK V X RX1 cc nL R) {σ : Mem} {pc pc' : Nat} {L : List (Option Value)} {st : List Value} {f : Mem → Prop} (d : decode cc pc = .ok (.putfield 56, 3)) (hp : pc + 3 = pc') (h : bm (up2 σ 0 10 x) f) (k : ∀ τ, f τ → GG V X τ pc' L st) : GG V X σ pc L (.int x :: .ref (ad V 0) :: st) :=
  g_put C d (j := 10) (T := TX1) (N := 17) (Cn := RX1) (ref := RX1) tyX1 (by decide) (en_0 V σ) rfl (by decide) fl_RX1_56 inlX1 tyX1_ok nmX1 rfl rfl (tyX1_ok 10 (by decide)) rfl rfl (Nat.le_of_ble_eq_true rfl) (by rw [en_0]; rfl) hp h k
theorem pb_X1_59 {V : EV} {X : CX} {cc : ByteArray} {nL : Nat} {R : Room} {b : Nat} (hb : isM b) {x : Int32} (C : OK V X RX1 cc nL R) {σ : Mem} {pc pc' : Nat} {L : List (Option Value)} {st : List Value} {f : Mem → Prop} (d : decode cc pc = .ok (.putfield 59, 3)) (hp : pc + 3 = pc') (h : bm (up2 σ b 12 x) f) (k : ∀ τ, f τ → GG V X τ pc' L st) : GG V X σ pc L (.int x :: .ref (ad V b) :: st) :=
  g_put C d (j := 12) (T := TX1) (N := 17) (Cn := RX1) (ref := RX1) tyX1 (isM_lt hb) (en_M V σ hb) rfl (by decide) fl_RX1_59 inlX1 tyX1_ok nmX1 rfl rfl (tyX1_ok 12 (by decide)) rfl rfl (Nat.le_of_ble_eq_true rfl) (by rw [en_M V _ hb]; simp [up2, upd]) hp h k
theorem p_X1_59 {V : EV} {X : CX} {cc : ByteArray} {nL : Nat} {R : Room} {x : Int32} (C : OK V X RX1 cc nL R) {σ : Mem} {pc pc' : Nat} {L : List (Option Value)} {st : List Value} {f : Mem → Prop} (d : decode cc pc = .ok (.putfield 59, 3)) (hp : pc + 3 = pc') (h : bm (up2 σ 0 12 x) f) (k : ∀ τ, f τ → GG V X τ pc' L st) : GG V X σ pc L (.int x :: .ref (ad V 0) :: st) :=
  g_put C d (j := 12) (T := TX1) (N := 17) (Cn := RX1) (ref := RX1) tyX1 (by decide) (en_0 V σ) rfl (by decide) fl_RX1_59 inlX1 tyX1_ok nmX1 rfl rfl (tyX1_ok 12 (by decide)) rfl rfl (Nat.le_of_ble_eq_true rfl) (by rw [en_0]; rfl) hp h k
theorem pb_X1_62 {V : EV} {X : CX} {cc : ByteArray} {nL : Nat} {R : Room} {b : Nat} (hb : isM b) {x : Int32} (C : OK V X RX1 cc nL R) {σ : Mem} {pc pc' : Nat} {L : List (Option Value)} {st : List Value} {f : Mem → Prop} (d : decode cc pc = .ok (.putfield 62, 3)) (hp : pc + 3 = pc') (h : bm (up2 σ b 14 x) f) (k : ∀ τ, f τ → GG V X τ pc' L st) : GG V X σ pc L (.int x :: .ref (ad V b) :: st) :=
  g_put C d (j := 14) (T := TX1) (N := 17) (Cn := RX1) (ref := RX1) tyX1 (isM_lt hb) (en_M V σ hb) rfl (by decide) fl_RX1_62 inlX1 tyX1_ok nmX1 rfl rfl (tyX1_ok 14 (by decide)) rfl rfl (Nat.le_of_ble_eq_true rfl) (by rw [en_M V _ hb]; simp [up2, upd]) hp h k
theorem p_X1_62 {V : EV} {X : CX} {cc : ByteArray} {nL : Nat} {R : Room} {x : Int32} (C : OK V X RX1 cc nL R) {σ : Mem} {pc pc' : Nat} {L : List (Option Value)} {st : List Value} {f : Mem → Prop} (d : decode cc pc = .ok (.putfield 62, 3)) (hp : pc + 3 = pc') (h : bm (up2 σ 0 14 x) f) (k : ∀ τ, f τ → GG V X τ pc' L st) : GG V X σ pc L (.int x :: .ref (ad V 0) :: st) :=
  g_put C d (j := 14) (T := TX1) (N := 17) (Cn := RX1) (ref := RX1) tyX1 (by decide) (en_0 V σ) rfl (by decide) fl_RX1_62 inlX1 tyX1_ok nmX1 rfl rfl (tyX1_ok 14 (by decide)) rfl rfl (Nat.le_of_ble_eq_true rfl) (by rw [en_0]; rfl) hp h k
theorem pb_X1_65 {V : EV} {X : CX} {cc : ByteArray} {nL : Nat} {R : Room} {b : Nat} (hb : isM b) {x : Int32} (C : OK V X RX1 cc nL R) {σ : Mem} {pc pc' : Nat} {L : List (Option Value)} {st : List Value} {f : Mem → Prop} (d : decode cc pc = .ok (.putfield 65, 3)) (hp : pc + 3 = pc') (h : bm (up2 σ b 15 x) f) (k : ∀ τ, f τ → GG V X τ pc' L st) : GG V X σ pc L (.int x :: .ref (ad V b) :: st) :=
  g_put C d (j := 15) (T := TX1) (N := 17) (Cn := RX1) (ref := RX1) tyX1 (isM_lt hb) (en_M V σ hb) rfl (by decide) fl_RX1_65 inlX1 tyX1_ok nmX1 rfl rfl (tyX1_ok 15 (by decide)) rfl rfl (Nat.le_of_ble_eq_true rfl) (by rw [en_M V _ hb]; simp [up2, upd]) hp h k
theorem p_X1_65 {V : EV} {X : CX} {cc : ByteArray} {nL : Nat} {R : Room} {x : Int32} (C : OK V X RX1 cc nL R) {σ : Mem} {pc pc' : Nat} {L : List (Option Value)} {st : List Value} {f : Mem → Prop} (d : decode cc pc = .ok (.putfield 65, 3)) (hp : pc + 3 = pc') (h : bm (up2 σ 0 15 x) f) (k : ∀ τ, f τ → GG V X τ pc' L st) : GG V X σ pc L (.int x :: .ref (ad V 0) :: st) :=
  g_put C d (j := 15) (T := TX1) (N := 17) (Cn := RX1) (ref := RX1) tyX1 (by decide) (en_0 V σ) rfl (by decide) fl_RX1_65 inlX1 tyX1_ok nmX1 rfl rfl (tyX1_ok 15 (by decide)) rfl rfl (Nat.le_of_ble_eq_true rfl) (by rw [en_0]; rfl) hp h k
theorem pb_X1_68 {V : EV} {X : CX} {cc : ByteArray} {nL : Nat} {R : Room} {b : Nat} (hb : isM b) {x : Int32} (C : OK V X RX1 cc nL R) {σ : Mem} {pc pc' : Nat} {L : List (Option Value)} {st : List Value} {f : Mem → Prop} (d : decode cc pc = .ok (.putfield 68, 3)) (hp : pc + 3 = pc') (h : bm (up2 σ b 16 x) f) (k : ∀ τ, f τ → GG V X τ pc' L st) : GG V X σ pc L (.int x :: .ref (ad V b) :: st) :=
  g_put C d (j := 16) (T := TX1) (N := 17) (Cn := RX1) (ref := RX1) tyX1 (isM_lt hb) (en_M V σ hb) rfl (by decide) fl_RX1_68 inlX1 tyX1_ok nmX1 rfl rfl (tyX1_ok 16 (by decide)) rfl rfl (Nat.le_of_ble_eq_true rfl) (by rw [en_M V _ hb]; simp [up2, upd]) hp h k
theorem p_X1_68 {V : EV} {X : CX} {cc : ByteArray} {nL : Nat} {R : Room} {x : Int32} (C : OK V X RX1 cc nL R) {σ : Mem} {pc pc' : Nat} {L : List (Option Value)} {st : List Value} {f : Mem → Prop} (d : decode cc pc = .ok (.putfield 68, 3)) (hp : pc + 3 = pc') (h : bm (up2 σ 0 16 x) f) (k : ∀ τ, f τ → GG V X τ pc' L st) : GG V X σ pc L (.int x :: .ref (ad V 0) :: st) :=
  g_put C d (j := 16) (T := TX1) (N := 17) (Cn := RX1) (ref := RX1) tyX1 (by decide) (en_0 V σ) rfl (by decide) fl_RX1_68 inlX1 tyX1_ok nmX1 rfl rfl (tyX1_ok 16 (by decide)) rfl rfl (Nat.le_of_ble_eq_true rfl) (by rw [en_0]; rfl) hp h k
theorem p_X2_26 {V : EV} {X : CX} {cc : ByteArray} {nL : Nat} {R : Room} {x : Int32} (C : OK V X RX2 cc nL R) {σ : Mem} {pc pc' : Nat} {L : List (Option Value)} {st : List Value} {f : Mem → Prop} (d : decode cc pc = .ok (.putfield 26, 3)) (hp : pc + 3 = pc') (h : bm (up2 σ 89 4 x) f) (k : ∀ τ, f τ → GG V X τ pc' L st) : GG V X σ pc L (.int x :: .ref (ad V 89) :: st) :=
  g_put C d (j := 4) (T := TX2) (N := 6) (Cn := RX2) (ref := RX2) tyX2 (by decide) (en_89 V σ) rfl (by decide) fl_RX2_26 inlX2 tyX2_ok nmX2 rfl rfl (tyX2_ok 4 (by decide)) rfl rfl (Nat.le_of_ble_eq_true rfl) (by rw [en_89]; rfl) hp h k
theorem p_X2_30 {V : EV} {X : CX} {cc : ByteArray} {nL : Nat} {R : Room} {x : Int32} (C : OK V X RX2 cc nL R) {σ : Mem} {pc pc' : Nat} {L : List (Option Value)} {st : List Value} {f : Mem → Prop} (d : decode cc pc = .ok (.putfield 30, 3)) (hp : pc + 3 = pc') (h : bm (up2 σ 89 5 x) f) (k : ∀ τ, f τ → GG V X τ pc' L st) : GG V X σ pc L (.int x :: .ref (ad V 89) :: st) :=
  g_put C d (j := 5) (T := TX2) (N := 6) (Cn := RX2) (ref := RX2) tyX2 (by decide) (en_89 V σ) rfl (by decide) fl_RX2_30 inlX2 tyX2_ok nmX2 rfl rfl (tyX2_ok 5 (by decide)) rfl rfl (Nat.le_of_ble_eq_true rfl) (by rw [en_89]; rfl) hp h k
theorem p_X3_15 {V : EV} {X : CX} {cc : ByteArray} {nL : Nat} {R : Room} {x : Int32} (C : OK V X RX3 cc nL R) {σ : Mem} {pc pc' : Nat} {L : List (Option Value)} {st : List Value} {f : Mem → Prop} (d : decode cc pc = .ok (.putfield 15, 3)) (hp : pc + 3 = pc') (h : bm (up2 σ 87 1 x) f) (k : ∀ τ, f τ → GG V X τ pc' L st) : GG V X σ pc L (.int x :: .ref (ad V 87) :: st) :=
  g_put C d (j := 1) (T := TX3) (N := 2) (Cn := RX3) (ref := RX3) tyX3 (by decide) (en_87 V σ) rfl (by decide) fl_RX3_15 inlX3 tyX3_ok nmX3 rfl rfl (tyX3_ok 1 (by decide)) rfl rfl (Nat.le_of_ble_eq_true rfl) (by rw [en_87]; rfl) hp h k
theorem p_X4_22 {V : EV} {X : CX} {cc : ByteArray} {nL : Nat} {R : Room} {x : Int32} (hz : isZ x) (C : OK V X RX4 cc nL R) {σ : Mem} {pc pc' : Nat} {L : List (Option Value)} {st : List Value} {f : Mem → Prop} (d : decode cc pc = .ok (.putfield 22, 3)) (hp : pc + 3 = pc') (h : bm (up2 σ 84 3 x) f) (k : ∀ τ, f τ → GG V X τ pc' L st) : GG V X σ pc L (.int x :: .ref (ad V 84) :: st) :=
  g_put C d (j := 3) (T := TX4) (N := 9) (Cn := RX4) (ref := RX4) tyX4 (by decide) (en_84 V σ) rfl (by decide) fl_RX4_22 inlX4 tyX4_ok nmX4 rfl rfl (tyX4_ok 3 (by decide)) (by rcases hz with rfl | rfl <;> rfl) (by rcases hz with rfl | rfl <;> rfl) (Nat.le_of_ble_eq_true rfl) (by rw [en_84]; rfl) hp h k
theorem p_X4_49 {V : EV} {X : CX} {cc : ByteArray} {nL : Nat} {R : Room} {x : Int32} (C : OK V X RX4 cc nL R) {σ : Mem} {pc pc' : Nat} {L : List (Option Value)} {st : List Value} {f : Mem → Prop} (d : decode cc pc = .ok (.putfield 49, 3)) (hp : pc + 3 = pc') (h : bm (up2 σ 84 7 x) f) (k : ∀ τ, f τ → GG V X τ pc' L st) : GG V X σ pc L (.int x :: .ref (ad V 84) :: st) :=
  g_put C d (j := 7) (T := TX4) (N := 9) (Cn := RX4) (ref := RX4) tyX4 (by decide) (en_84 V σ) rfl (by decide) fl_RX4_49 inlX4 tyX4_ok nmX4 rfl rfl (tyX4_ok 7 (by decide)) rfl rfl (Nat.le_of_ble_eq_true rfl) (by rw [en_84]; rfl) hp h k
theorem p_X4_53 {V : EV} {X : CX} {cc : ByteArray} {nL : Nat} {R : Room} {x : Int32} (C : OK V X RX4 cc nL R) {σ : Mem} {pc pc' : Nat} {L : List (Option Value)} {st : List Value} {f : Mem → Prop} (d : decode cc pc = .ok (.putfield 53, 3)) (hp : pc + 3 = pc') (h : bm (up2 σ 84 8 x) f) (k : ∀ τ, f τ → GG V X τ pc' L st) : GG V X σ pc L (.int x :: .ref (ad V 84) :: st) :=
  g_put C d (j := 8) (T := TX4) (N := 9) (Cn := RX4) (ref := RX4) tyX4 (by decide) (en_84 V σ) rfl (by decide) fl_RX4_53 inlX4 tyX4_ok nmX4 rfl rfl (tyX4_ok 8 (by decide)) rfl rfl (Nat.le_of_ble_eq_true rfl) (by rw [en_84]; rfl) hp h k
theorem p_X5_44 {V : EV} {X : CX} {cc : ByteArray} {nL : Nat} {R : Room} {x : Int32} (C : OK V X RX5 cc nL R) {σ : Mem} {pc pc' : Nat} {L : List (Option Value)} {st : List Value} {f : Mem → Prop} (d : decode cc pc = .ok (.putfield 44, 3)) (hp : pc + 3 = pc') (h : bm (up2 σ 93 3 x) f) (k : ∀ τ, f τ → GG V X τ pc' L st) : GG V X σ pc L (.int x :: .ref (ad V 93) :: st) :=
  g_put C d (j := 3) (T := TX5) (N := 13) (Cn := RX5) (ref := RX5) tyX5 (by decide) (en_93 V σ) rfl (by decide) fl_RX5_44 inlX5 tyX5_ok nmX5 rfl rfl (tyX5_ok 3 (by decide)) rfl rfl (Nat.le_of_ble_eq_true rfl) (by rw [en_93]; rfl) hp h k
theorem p_X5_56 {V : EV} {X : CX} {cc : ByteArray} {nL : Nat} {R : Room} {x : Int32} (hz : isZ x) (C : OK V X RX5 cc nL R) {σ : Mem} {pc pc' : Nat} {L : List (Option Value)} {st : List Value} {f : Mem → Prop} (d : decode cc pc = .ok (.putfield 56, 3)) (hp : pc + 3 = pc') (h : bm (up2 σ 93 5 x) f) (k : ∀ τ, f τ → GG V X τ pc' L st) : GG V X σ pc L (.int x :: .ref (ad V 93) :: st) :=
  g_put C d (j := 5) (T := TX5) (N := 13) (Cn := RX5) (ref := RX5) tyX5 (by decide) (en_93 V σ) rfl (by decide) fl_RX5_56 inlX5 tyX5_ok nmX5 rfl rfl (tyX5_ok 5 (by decide)) (by rcases hz with rfl | rfl <;> rfl) (by rcases hz with rfl | rfl <;> rfl) (Nat.le_of_ble_eq_true rfl) (by rw [en_93]; rfl) hp h k
theorem p_X5_132 {V : EV} {X : CX} {cc : ByteArray} {nL : Nat} {R : Room} {x : Int32} (C : OK V X RX5 cc nL R) {σ : Mem} {pc pc' : Nat} {L : List (Option Value)} {st : List Value} {f : Mem → Prop} (d : decode cc pc = .ok (.putfield 132, 3)) (hp : pc + 3 = pc') (h : bm (up2 σ 93 7 x) f) (k : ∀ τ, f τ → GG V X τ pc' L st) : GG V X σ pc L (.int x :: .ref (ad V 93) :: st) :=
  g_put C d (j := 7) (T := TX5) (N := 13) (Cn := RX5) (ref := RX5) tyX5 (by decide) (en_93 V σ) rfl (by decide) fl_RX5_132 inlX5 tyX5_ok nmX5 rfl rfl (tyX5_ok 7 (by decide)) rfl rfl (Nat.le_of_ble_eq_true rfl) (by rw [en_93]; rfl) hp h k
theorem p_X5_135 {V : EV} {X : CX} {cc : ByteArray} {nL : Nat} {R : Room} {x : Int32} (C : OK V X RX5 cc nL R) {σ : Mem} {pc pc' : Nat} {L : List (Option Value)} {st : List Value} {f : Mem → Prop} (d : decode cc pc = .ok (.putfield 135, 3)) (hp : pc + 3 = pc') (h : bm (up2 σ 93 12 x) f) (k : ∀ τ, f τ → GG V X τ pc' L st) : GG V X σ pc L (.int x :: .ref (ad V 93) :: st) :=
  g_put C d (j := 12) (T := TX5) (N := 13) (Cn := RX5) (ref := RX5) tyX5 (by decide) (en_93 V σ) rfl (by decide) fl_RX5_135 inlX5 tyX5_ok nmX5 rfl rfl (tyX5_ok 12 (by decide)) rfl rfl (Nat.le_of_ble_eq_true rfl) (by rw [en_93]; rfl) hp h k
theorem p_X5_144 {V : EV} {X : CX} {cc : ByteArray} {nL : Nat} {R : Room} {x : Int32} (C : OK V X RX5 cc nL R) {σ : Mem} {pc pc' : Nat} {L : List (Option Value)} {st : List Value} {f : Mem → Prop} (d : decode cc pc = .ok (.putfield 144, 3)) (hp : pc + 3 = pc') (h : bm (up2 σ 93 11 x) f) (k : ∀ τ, f τ → GG V X τ pc' L st) : GG V X σ pc L (.int x :: .ref (ad V 93) :: st) :=
  g_put C d (j := 11) (T := TX5) (N := 13) (Cn := RX5) (ref := RX5) tyX5 (by decide) (en_93 V σ) rfl (by decide) fl_RX5_144 inlX5 tyX5_ok nmX5 rfl rfl (tyX5_ok 11 (by decide)) rfl rfl (Nat.le_of_ble_eq_true rfl) (by rw [en_93]; rfl) hp h k
theorem p_X5_163 {V : EV} {X : CX} {cc : ByteArray} {nL : Nat} {R : Room} {x : Int32} (C : OK V X RX5 cc nL R) {σ : Mem} {pc pc' : Nat} {L : List (Option Value)} {st : List Value} {f : Mem → Prop} (d : decode cc pc = .ok (.putfield 163, 3)) (hp : pc + 3 = pc') (h : bm (up2 σ 93 8 x) f) (k : ∀ τ, f τ → GG V X τ pc' L st) : GG V X σ pc L (.int x :: .ref (ad V 93) :: st) :=
  g_put C d (j := 8) (T := TX5) (N := 13) (Cn := RX5) (ref := RX5) tyX5 (by decide) (en_93 V σ) rfl (by decide) fl_RX5_163 inlX5 tyX5_ok nmX5 rfl rfl (tyX5_ok 8 (by decide)) rfl rfl (Nat.le_of_ble_eq_true rfl) (by rw [en_93]; rfl) hp h k
theorem p_X5_166 {V : EV} {X : CX} {cc : ByteArray} {nL : Nat} {R : Room} {x : Int32} (C : OK V X RX5 cc nL R) {σ : Mem} {pc pc' : Nat} {L : List (Option Value)} {st : List Value} {f : Mem → Prop} (d : decode cc pc = .ok (.putfield 166, 3)) (hp : pc + 3 = pc') (h : bm (up2 σ 93 9 x) f) (k : ∀ τ, f τ → GG V X τ pc' L st) : GG V X σ pc L (.int x :: .ref (ad V 93) :: st) :=
  g_put C d (j := 9) (T := TX5) (N := 13) (Cn := RX5) (ref := RX5) tyX5 (by decide) (en_93 V σ) rfl (by decide) fl_RX5_166 inlX5 tyX5_ok nmX5 rfl rfl (tyX5_ok 9 (by decide)) rfl rfl (Nat.le_of_ble_eq_true rfl) (by rw [en_93]; rfl) hp h k
theorem cp_X1_50_1 {V : EV} {X : CX} {cc : ByteArray} {nL : Nat} {R : Room} {σ : Mem} {a b : Nat} (ha : isM a) (hb : isM b) (hz : ∀ i, i < 40 → isZ (σ (a + 1) i)) (C : OK V X RX1 cc nL R) {pc pc' : Nat} {L : List (Option Value)} {f : Mem → Prop} (d : decode cc pc = .ok (.invokestatic 50, 3)) (hL : L.length = nL) (hp : pc + 3 = pc') (h : bm (cpA σ (a + 1) (b + 1) 40) f) (k : ∀ τ, f τ → GG V X τ pc' L []) (hR : 1 ≤ R.frames ∧ 24 ≤ R.locals := by decide) : GG V X σ pc L (.int 40 :: .int 0 :: .ref (ad V (b + 1)) :: .int 0 :: .ref (ad V (a + 1)) :: []) :=
  g_copy C (cls := V.2.1.2.1) (n := 40) (tq := 1) (by unfold isM at ha; omega) (by unfold isM at hb; omega) (by rw [ent_mem V σ ha.1 ha.2 (by decide)]; rfl) (fun τ => by rw [ent_mem V τ hb.1 hb.2 (by decide)]; rfl) rfl rfl (by decide) (by decide) (fun i hi => by rcases hz i hi with e | e <;> rw [e] <;> rfl) ml_RX1_50 ⟨hR.1, Nat.le_trans (by decide +kernel) hR.2⟩ d hL hp h k
theorem cp_X1_50_2 {V : EV} {X : CX} {cc : ByteArray} {nL : Nat} {R : Room} {σ : Mem} {a b : Nat} (ha : isM a) (hb : isM b) (C : OK V X RX1 cc nL R) {pc pc' : Nat} {L : List (Option Value)} {f : Mem → Prop} (d : decode cc pc = .ok (.invokestatic 50, 3)) (hL : L.length = nL) (hp : pc + 3 = pc') (h : bm (cpA σ (a + 2) (b + 2) 40) f) (k : ∀ τ, f τ → GG V X τ pc' L []) (hR : 1 ≤ R.frames ∧ 24 ≤ R.locals := by decide) : GG V X σ pc L (.int 40 :: .int 0 :: .ref (ad V (b + 2)) :: .int 0 :: .ref (ad V (a + 2)) :: []) :=
  g_copy C (cls := V.2.1.1) (n := 40) (tq := 0) (by unfold isM at ha; omega) (by unfold isM at hb; omega) (by rw [ent_mem V σ ha.1 ha.2 (by decide)]; rfl) (fun τ => by rw [ent_mem V τ hb.1 hb.2 (by decide)]; rfl) rfl rfl (by decide) (by decide) (fun _ _ => rfl) ml_RX1_50 ⟨hR.1, Nat.le_trans (by decide +kernel) hR.2⟩ d hL hp h k
theorem cp_X1_50_3 {V : EV} {X : CX} {cc : ByteArray} {nL : Nat} {R : Room} {σ : Mem} {a b : Nat} (ha : isM a) (hb : isM b) (C : OK V X RX1 cc nL R) {pc pc' : Nat} {L : List (Option Value)} {f : Mem → Prop} (d : decode cc pc = .ok (.invokestatic 50, 3)) (hL : L.length = nL) (hp : pc + 3 = pc') (h : bm (cpA σ (a + 3) (b + 3) 40) f) (k : ∀ τ, f τ → GG V X τ pc' L []) (hR : 1 ≤ R.frames ∧ 24 ≤ R.locals := by decide) : GG V X σ pc L (.int 40 :: .int 0 :: .ref (ad V (b + 3)) :: .int 0 :: .ref (ad V (a + 3)) :: []) :=
  g_copy C (cls := V.2.1.1) (n := 40) (tq := 0) (by unfold isM at ha; omega) (by unfold isM at hb; omega) (by rw [ent_mem V σ ha.1 ha.2 (by decide)]; rfl) (fun τ => by rw [ent_mem V τ hb.1 hb.2 (by decide)]; rfl) rfl rfl (by decide) (by decide) (fun _ _ => rfl) ml_RX1_50 ⟨hR.1, Nat.le_trans (by decide +kernel) hR.2⟩ d hL hp h k
theorem cp_X1_50_4 {V : EV} {X : CX} {cc : ByteArray} {nL : Nat} {R : Room} {σ : Mem} {a b : Nat} (ha : isM a) (hb : isM b) (C : OK V X RX1 cc nL R) {pc pc' : Nat} {L : List (Option Value)} {f : Mem → Prop} (d : decode cc pc = .ok (.invokestatic 50, 3)) (hL : L.length = nL) (hp : pc + 3 = pc') (h : bm (cpA σ (a + 4) (b + 4) 50) f) (k : ∀ τ, f τ → GG V X τ pc' L []) (hR : 1 ≤ R.frames ∧ 24 ≤ R.locals := by decide) : GG V X σ pc L (.int 50 :: .int 0 :: .ref (ad V (b + 4)) :: .int 0 :: .ref (ad V (a + 4)) :: []) :=
  g_copy C (cls := V.2.1.1) (n := 50) (tq := 0) (by unfold isM at ha; omega) (by unfold isM at hb; omega) (by rw [ent_mem V σ ha.1 ha.2 (by decide)]; rfl) (fun τ => by rw [ent_mem V τ hb.1 hb.2 (by decide)]; rfl) rfl rfl (by decide) (by decide) (fun _ _ => rfl) ml_RX1_50 ⟨hR.1, Nat.le_trans (by decide +kernel) hR.2⟩ d hL hp h k
theorem cp_X1_50_5 {V : EV} {X : CX} {cc : ByteArray} {nL : Nat} {R : Room} {σ : Mem} {a b : Nat} (ha : isM a) (hb : isM b) (C : OK V X RX1 cc nL R) {pc pc' : Nat} {L : List (Option Value)} {f : Mem → Prop} (d : decode cc pc = .ok (.invokestatic 50, 3)) (hL : L.length = nL) (hp : pc + 3 = pc') (h : bm (cpA σ (a + 5) (b + 5) 50) f) (k : ∀ τ, f τ → GG V X τ pc' L []) (hR : 1 ≤ R.frames ∧ 24 ≤ R.locals := by decide) : GG V X σ pc L (.int 50 :: .int 0 :: .ref (ad V (b + 5)) :: .int 0 :: .ref (ad V (a + 5)) :: []) :=
  g_copy C (cls := V.2.1.1) (n := 50) (tq := 0) (by unfold isM at ha; omega) (by unfold isM at hb; omega) (by rw [ent_mem V σ ha.1 ha.2 (by decide)]; rfl) (fun τ => by rw [ent_mem V τ hb.1 hb.2 (by decide)]; rfl) rfl rfl (by decide) (by decide) (fun _ _ => rfl) ml_RX1_50 ⟨hR.1, Nat.le_trans (by decide +kernel) hR.2⟩ d hL hp h k
theorem cp_X1_50_6 {V : EV} {X : CX} {cc : ByteArray} {nL : Nat} {R : Room} {σ : Mem} {a b : Nat} (ha : isM a) (hb : isM b) (hz : ∀ i, i < 50 → isZ (σ (a + 6) i)) (C : OK V X RX1 cc nL R) {pc pc' : Nat} {L : List (Option Value)} {f : Mem → Prop} (d : decode cc pc = .ok (.invokestatic 50, 3)) (hL : L.length = nL) (hp : pc + 3 = pc') (h : bm (cpA σ (a + 6) (b + 6) 50) f) (k : ∀ τ, f τ → GG V X τ pc' L []) (hR : 1 ≤ R.frames ∧ 24 ≤ R.locals := by decide) : GG V X σ pc L (.int 50 :: .int 0 :: .ref (ad V (b + 6)) :: .int 0 :: .ref (ad V (a + 6)) :: []) :=
  g_copy C (cls := V.2.1.2.1) (n := 50) (tq := 1) (by unfold isM at ha; omega) (by unfold isM at hb; omega) (by rw [ent_mem V σ ha.1 ha.2 (by decide)]; rfl) (fun τ => by rw [ent_mem V τ hb.1 hb.2 (by decide)]; rfl) rfl rfl (by decide) (by decide) (fun i hi => by rcases hz i hi with e | e <;> rw [e] <;> rfl) ml_RX1_50 ⟨hR.1, Nat.le_trans (by decide +kernel) hR.2⟩ d hL hp h k
theorem cp_X1_50_7 {V : EV} {X : CX} {cc : ByteArray} {nL : Nat} {R : Room} {σ : Mem} {a b : Nat} (ha : isM a) (hb : isM b) (C : OK V X RX1 cc nL R) {pc pc' : Nat} {L : List (Option Value)} {f : Mem → Prop} (d : decode cc pc = .ok (.invokestatic 50, 3)) (hL : L.length = nL) (hp : pc + 3 = pc') (h : bm (cpA σ (a + 7) (b + 7) 50) f) (k : ∀ τ, f τ → GG V X τ pc' L []) (hR : 1 ≤ R.frames ∧ 24 ≤ R.locals := by decide) : GG V X σ pc L (.int 50 :: .int 0 :: .ref (ad V (b + 7)) :: .int 0 :: .ref (ad V (a + 7)) :: []) :=
  g_copy C (cls := V.2.1.1) (n := 50) (tq := 0) (by unfold isM at ha; omega) (by unfold isM at hb; omega) (by rw [ent_mem V σ ha.1 ha.2 (by decide)]; rfl) (fun τ => by rw [ent_mem V τ hb.1 hb.2 (by decide)]; rfl) rfl rfl (by decide) (by decide) (fun _ _ => rfl) ml_RX1_50 ⟨hR.1, Nat.le_trans (by decide +kernel) hR.2⟩ d hL hp h k
theorem cp_X1_50_8 {V : EV} {X : CX} {cc : ByteArray} {nL : Nat} {R : Room} {σ : Mem} {a b : Nat} (ha : isM a) (hb : isM b) (C : OK V X RX1 cc nL R) {pc pc' : Nat} {L : List (Option Value)} {f : Mem → Prop} (d : decode cc pc = .ok (.invokestatic 50, 3)) (hL : L.length = nL) (hp : pc + 3 = pc') (h : bm (cpA σ (a + 8) (b + 8) 5) f) (k : ∀ τ, f τ → GG V X τ pc' L []) (hR : 1 ≤ R.frames ∧ 24 ≤ R.locals := by decide) : GG V X σ pc L (.int 5 :: .int 0 :: .ref (ad V (b + 8)) :: .int 0 :: .ref (ad V (a + 8)) :: []) :=
  g_copy C (cls := V.2.1.1) (n := 5) (tq := 0) (by unfold isM at ha; omega) (by unfold isM at hb; omega) (by rw [ent_mem V σ ha.1 ha.2 (by decide)]; rfl) (fun τ => by rw [ent_mem V τ hb.1 hb.2 (by decide)]; rfl) rfl rfl (by decide) (by decide) (fun _ _ => rfl) ml_RX1_50 ⟨hR.1, Nat.le_trans (by decide +kernel) hR.2⟩ d hL hp h k
theorem cp_X1_50_9 {V : EV} {X : CX} {cc : ByteArray} {nL : Nat} {R : Room} {σ : Mem} {a b : Nat} (ha : isM a) (hb : isM b) (C : OK V X RX1 cc nL R) {pc pc' : Nat} {L : List (Option Value)} {f : Mem → Prop} (d : decode cc pc = .ok (.invokestatic 50, 3)) (hL : L.length = nL) (hp : pc + 3 = pc') (h : bm (cpA σ (a + 9) (b + 9) 5) f) (k : ∀ τ, f τ → GG V X τ pc' L []) (hR : 1 ≤ R.frames ∧ 24 ≤ R.locals := by decide) : GG V X σ pc L (.int 5 :: .int 0 :: .ref (ad V (b + 9)) :: .int 0 :: .ref (ad V (a + 9)) :: []) :=
  g_copy C (cls := V.2.1.1) (n := 5) (tq := 0) (by unfold isM at ha; omega) (by unfold isM at hb; omega) (by rw [ent_mem V σ ha.1 ha.2 (by decide)]; rfl) (fun τ => by rw [ent_mem V τ hb.1 hb.2 (by decide)]; rfl) rfl rfl (by decide) (by decide) (fun _ _ => rfl) ml_RX1_50 ⟨hR.1, Nat.le_trans (by decide +kernel) hR.2⟩ d hL hp h k
theorem cp_X1_50_10 {V : EV} {X : CX} {cc : ByteArray} {nL : Nat} {R : Room} {σ : Mem} {a b : Nat} (ha : isM a) (hb : isM b) (C : OK V X RX1 cc nL R) {pc pc' : Nat} {L : List (Option Value)} {f : Mem → Prop} (d : decode cc pc = .ok (.invokestatic 50, 3)) (hL : L.length = nL) (hp : pc + 3 = pc') (h : bm (cpA σ (a + 10) (b + 10) 12) f) (k : ∀ τ, f τ → GG V X τ pc' L []) (hR : 1 ≤ R.frames ∧ 24 ≤ R.locals := by decide) : GG V X σ pc L (.int 12 :: .int 0 :: .ref (ad V (b + 10)) :: .int 0 :: .ref (ad V (a + 10)) :: []) :=
  g_copy C (cls := V.2.1.1) (n := 12) (tq := 0) (by unfold isM at ha; omega) (by unfold isM at hb; omega) (by rw [ent_mem V σ ha.1 ha.2 (by decide)]; rfl) (fun τ => by rw [ent_mem V τ hb.1 hb.2 (by decide)]; rfl) rfl rfl (by decide) (by decide) (fun _ _ => rfl) ml_RX1_50 ⟨hR.1, Nat.le_trans (by decide +kernel) hR.2⟩ d hL hp h k
theorem cp_X1_50_11 {V : EV} {X : CX} {cc : ByteArray} {nL : Nat} {R : Room} {σ : Mem} {a b : Nat} (ha : isM a) (hb : isM b) (C : OK V X RX1 cc nL R) {pc pc' : Nat} {L : List (Option Value)} {f : Mem → Prop} (d : decode cc pc = .ok (.invokestatic 50, 3)) (hL : L.length = nL) (hp : pc + 3 = pc') (h : bm (cpA σ (a + 11) (b + 11) 3) f) (k : ∀ τ, f τ → GG V X τ pc' L []) (hR : 1 ≤ R.frames ∧ 24 ≤ R.locals := by decide) : GG V X σ pc L (.int 3 :: .int 0 :: .ref (ad V (b + 11)) :: .int 0 :: .ref (ad V (a + 11)) :: []) :=
  g_copy C (cls := V.2.1.1) (n := 3) (tq := 0) (by unfold isM at ha; omega) (by unfold isM at hb; omega) (by rw [ent_mem V σ ha.1 ha.2 (by decide)]; rfl) (fun τ => by rw [ent_mem V τ hb.1 hb.2 (by decide)]; rfl) rfl rfl (by decide) (by decide) (fun _ _ => rfl) ml_RX1_50 ⟨hR.1, Nat.le_trans (by decide +kernel) hR.2⟩ d hL hp h k
end
section
theorem dX1_hasCell_0 : decode cX1_hasCell 0 = .ok (.aload_n 0, 1) := by decide +kernel
theorem dX1_hasCell_1 : decode cX1_hasCell 1 = .ok (.getfield 22, 3) := by decide +kernel
theorem dX1_hasCell_4 : decode cX1_hasCell 4 = .ok (.iload_n 1, 1) := by decide +kernel
theorem dX1_hasCell_5 : decode cX1_hasCell 5 = .ok (.iaload, 1) := by decide +kernel
theorem dX1_hasCell_6 : decode cX1_hasCell 6 = .ok (.ifCond .lt 7, 3) := by decide +kernel
theorem dX1_hasCell_9 : decode cX1_hasCell 9 = .ok (.iconst 1, 1) := by decide +kernel
theorem dX1_hasCell_10 : decode cX1_hasCell 10 = .ok (.goto 4, 3) := by decide +kernel
theorem dX1_hasCell_13 : decode cX1_hasCell 13 = .ok (.iconst 0, 1) := by decide +kernel
theorem dX1_hasCell_14 : decode cX1_hasCell 14 = .ok (.ireturn, 1) := by decide +kernel
def wp_X1_hasCell (σ : Mem) (x1 : Int32) (P : Int32 → Prop) : Prop :=
  vp_in x1 50 ∧ (((σ 4 x1.toNatClampNeg) < 0 →
    P 0) ∧
    (¬ (σ 4 x1.toNatClampNeg) < 0 →
    P 1))
set_option maxRecDepth 100000 in
set_option maxHeartbeats 4000000 in
theorem c_X1_hasCell (V : EV) (σ : Mem) (x1 : Int32) (P : Int32 → Prop) (l : Launch) : Met l yX1_hasCell (.code yX1_hasCell cX1_hasCell 2 (some .boolean) :: AW) { frames := 0, cells := 0, slots := 0, locals := 0 } (va_Pc [.ref (ad V 0), .int x1] (fun U => wP V σ U ∧ wp_X1_hasCell σ x1 P)) (va_Qi (fun r τ => τ = σ ∧ P r) (wB V) (AA V)) 0 0 (AA V) := by
  refine met_i V σ (own := RX1) (by decide +kernel) rfl (fun v hv => by simp at hv; rcases hv with rfl | rfl <;> rfl) (Nat.le_of_ble_eq_true rfl) (fun X C D h => ?_) l
  show GG V X σ 0 [some (.ref (ad V 0)), some (.int x1)] []
  refine g_aload_n C dX1_hasCell_0 rfl rfl rfl ?_
  refine f_X1_22 C dX1_hasCell_1 rfl ?_
  refine g_iload_n C dX1_hasCell_4 rfl rfl rfl ?_
  obtain ⟨hin, h⟩ := h
  refine g_ild C dX1_hasCell_5 arr_4 hin rfl ?_
  refine g_if_lt C dX1_hasCell_6 (tgt := 13) rfl rfl (fun q => ?_) (fun q => ?_)
  · have h := h.1 q
    refine g_iconst C dX1_hasCell_13 ic_0 rfl ?_
    exact g_zret C dX1_hasCell_14 D (by decide) ⟨rfl, h⟩
  · have h := h.2 q
    refine g_iconst C dX1_hasCell_9 ic_1 rfl ?_
    refine g_goto C dX1_hasCell_10 (pc' := 14) rfl ?_
    exact g_zret C dX1_hasCell_14 D (by decide) ⟨rfl, h⟩
theorem hd_X1_hasCell : yX1_hasCell.cls ≠ "java/lang/invoke/MethodHandle" ∧ yX1_hasCell.cls ≠ "java/lang/invoke/VarHandle" ∧ (parseMethodDescriptor yX1_hasCell.desc).map (fun d => d.parameters.length) = some 1 := by decide +kernel
theorem k_X1_71 {V : EV} {X : CX} {cc : ByteArray} {nL : Nat} {R : Room} {x1 : Int32} (C : OK V X RX1 cc nL R) {σ : Mem} {pc pc' : Nat} {L : List (Option Value)} {st : List Value} {P : Int32 → Prop} (d : decode cc pc = .ok (.invokevirtual 71, 3)) (hst : (st.map fun v => v.category).sum ≤ 8) (hr : 0 + 1 ≤ R.frames ∧ 8 + (2 + 11) + 0 ≤ R.locals) (hL : L.length = nL) (hp : pc + 3 = pc') (h : wp_X1_hasCell σ x1 P) (k : ∀ r, P r → GG V X σ pc' L (.int r :: st)) : GG V X σ pc L (.int x1 :: .ref (ad V 0) :: st) :=
  g_callVi C (av := [.int x1]) (fun l => c_X1_hasCell V σ x1 P l) (by decide) (en_0 V σ) (q := (RX1, TX1, 17)) rfl rfl ml_RX1_71 im_X1_hasCell se_X1_hasCell ini_RX1 co_X1_hasCell hd_X1_hasCell rfl ⟨rfl, rfl⟩ hr hst d hL hp h (fun r τ hq => by obtain ⟨rfl, hq⟩ := hq; exact k r hq)

theorem dX1_isGivable_0 : decode cX1_isGivable 0 = .ok (.aload_n 0, 1) := by decide +kernel
theorem dX1_isGivable_1 : decode cX1_isGivable 1 = .ok (.getfield 9, 3) := by decide +kernel
theorem dX1_isGivable_4 : decode cX1_isGivable 4 = .ok (.iload_n 1, 1) := by decide +kernel
theorem dX1_isGivable_5 : decode cX1_isGivable 5 = .ok (.baload, 1) := by decide +kernel
theorem dX1_isGivable_6 : decode cX1_isGivable 6 = .ok (.ifCond .ne 31, 3) := by decide +kernel
theorem dX1_isGivable_9 : decode cX1_isGivable 9 = .ok (.aload_n 0, 1) := by decide +kernel
theorem dX1_isGivable_10 : decode cX1_isGivable 10 = .ok (.getfield 19, 3) := by decide +kernel
theorem dX1_isGivable_13 : decode cX1_isGivable 13 = .ok (.iload_n 1, 1) := by decide +kernel
theorem dX1_isGivable_14 : decode cX1_isGivable 14 = .ok (.iaload, 1) := by decide +kernel
theorem dX1_isGivable_15 : decode cX1_isGivable 15 = .ok (.ifCond .ge 22, 3) := by decide +kernel
theorem dX1_isGivable_18 : decode cX1_isGivable 18 = .ok (.aload_n 0, 1) := by decide +kernel
theorem dX1_isGivable_19 : decode cX1_isGivable 19 = .ok (.getfield 15, 3) := by decide +kernel
theorem dX1_isGivable_22 : decode cX1_isGivable 22 = .ok (.iload_n 1, 1) := by decide +kernel
theorem dX1_isGivable_23 : decode cX1_isGivable 23 = .ok (.iaload, 1) := by decide +kernel
theorem dX1_isGivable_24 : decode cX1_isGivable 24 = .ok (.aload_n 0, 1) := by decide +kernel
theorem dX1_isGivable_25 : decode cX1_isGivable 25 = .ok (.getfield 43, 3) := by decide +kernel
theorem dX1_isGivable_28 : decode cX1_isGivable 28 = .ok (.iconst 0, 1) := by decide +kernel
theorem dX1_isGivable_29 : decode cX1_isGivable 29 = .ok (.iaload, 1) := by decide +kernel
theorem dX1_isGivable_30 : decode cX1_isGivable 30 = .ok (.if_icmp .ge 7, 3) := by decide +kernel
theorem dX1_isGivable_33 : decode cX1_isGivable 33 = .ok (.iconst 1, 1) := by decide +kernel
theorem dX1_isGivable_34 : decode cX1_isGivable 34 = .ok (.goto 4, 3) := by decide +kernel
theorem dX1_isGivable_37 : decode cX1_isGivable 37 = .ok (.iconst 0, 1) := by decide +kernel
theorem dX1_isGivable_38 : decode cX1_isGivable 38 = .ok (.ireturn, 1) := by decide +kernel
def wp_X1_isGivable (σ : Mem) (x1 : Int32) (P : Int32 → Prop) : Prop :=
  vp_in x1 40 ∧ (((σ 1 x1.toNatClampNeg) = 0 →
    vp_in x1 40 ∧ ((0 ≤ (σ 3 x1.toNatClampNeg) →
      P 0) ∧
      (¬ 0 ≤ (σ 3 x1.toNatClampNeg) →
      vp_in x1 40 ∧ (((σ 11 0) ≤ (σ 2 x1.toNatClampNeg) →
        P 0) ∧
        (¬ (σ 11 0) ≤ (σ 2 x1.toNatClampNeg) →
        P 1))))) ∧
    (¬ (σ 1 x1.toNatClampNeg) = 0 →
    P 0))
set_option maxRecDepth 100000 in
set_option maxHeartbeats 4000000 in
theorem c_X1_isGivable (V : EV) (σ : Mem) (x1 : Int32) (P : Int32 → Prop) (l : Launch) : Met l yX1_isGivable (.code yX1_isGivable cX1_isGivable 2 (some .boolean) :: AW) { frames := 0, cells := 0, slots := 0, locals := 0 } (va_Pc [.ref (ad V 0), .int x1] (fun U => wP V σ U ∧ wp_X1_isGivable σ x1 P)) (va_Qi (fun r τ => τ = σ ∧ P r) (wB V) (AA V)) 0 0 (AA V) := by
  refine met_i V σ (own := RX1) (by decide +kernel) rfl (fun v hv => by simp at hv; rcases hv with rfl | rfl <;> rfl) (Nat.le_of_ble_eq_true rfl) (fun X C D h => ?_) l
  show GG V X σ 0 [some (.ref (ad V 0)), some (.int x1)] []
  refine g_aload_n C dX1_isGivable_0 rfl rfl rfl ?_
  refine f_X1_9 C dX1_isGivable_1 rfl ?_
  refine g_iload_n C dX1_isGivable_4 rfl rfl rfl ?_
  obtain ⟨hin, h⟩ := h
  refine g_zld C dX1_isGivable_5 arr_1 hin rfl ?_
  refine g_if_ne C dX1_isGivable_6 (tgt := 37) rfl rfl (fun q => ?_) (fun q => ?_)
  · have h := h.2 q
    refine g_iconst C dX1_isGivable_37 ic_0 rfl ?_
    exact g_zret C dX1_isGivable_38 D (by decide) ⟨rfl, h⟩
  · have h := h.1 q
    refine g_aload_n C dX1_isGivable_9 rfl rfl rfl ?_
    refine f_X1_19 C dX1_isGivable_10 rfl ?_
    refine g_iload_n C dX1_isGivable_13 rfl rfl rfl ?_
    obtain ⟨hin, h⟩ := h
    refine g_ild C dX1_isGivable_14 arr_3 hin rfl ?_
    refine g_if_ge C dX1_isGivable_15 (tgt := 37) rfl rfl (fun q => ?_) (fun q => ?_)
    · have h := h.1 q
      refine g_iconst C dX1_isGivable_37 ic_0 rfl ?_
      exact g_zret C dX1_isGivable_38 D (by decide) ⟨rfl, h⟩
    · have h := h.2 q
      refine g_aload_n C dX1_isGivable_18 rfl rfl rfl ?_
      refine f_X1_15 C dX1_isGivable_19 rfl ?_
      refine g_iload_n C dX1_isGivable_22 rfl rfl rfl ?_
      obtain ⟨hin, h⟩ := h
      refine g_ild C dX1_isGivable_23 arr_2 hin rfl ?_
      refine g_aload_n C dX1_isGivable_24 rfl rfl rfl ?_
      refine f_X1_43 C dX1_isGivable_25 rfl ?_
      refine g_iconst C dX1_isGivable_28 ic_0 rfl ?_
      refine g_ildk C dX1_isGivable_29 arr_11 vi_0_3 tl_0 rfl ?_
      refine g_icmp_ge C dX1_isGivable_30 (tgt := 37) rfl rfl (fun q => ?_) (fun q => ?_)
      · have h := h.1 q
        refine g_iconst C dX1_isGivable_37 ic_0 rfl ?_
        exact g_zret C dX1_isGivable_38 D (by decide) ⟨rfl, h⟩
      · have h := h.2 q
        refine g_iconst C dX1_isGivable_33 ic_1 rfl ?_
        refine g_goto C dX1_isGivable_34 (pc' := 38) rfl ?_
        exact g_zret C dX1_isGivable_38 D (by decide) ⟨rfl, h⟩
theorem hd_X1_isGivable : yX1_isGivable.cls ≠ "java/lang/invoke/MethodHandle" ∧ yX1_isGivable.cls ≠ "java/lang/invoke/VarHandle" ∧ (parseMethodDescriptor yX1_isGivable.desc).map (fun d => d.parameters.length) = some 1 := by decide +kernel
theorem k_X1_116 {V : EV} {X : CX} {cc : ByteArray} {nL : Nat} {R : Room} {x1 : Int32} (C : OK V X RX1 cc nL R) {σ : Mem} {pc pc' : Nat} {L : List (Option Value)} {st : List Value} {P : Int32 → Prop} (d : decode cc pc = .ok (.invokevirtual 116, 3)) (hst : (st.map fun v => v.category).sum ≤ 8) (hr : 0 + 1 ≤ R.frames ∧ 8 + (2 + 11) + 0 ≤ R.locals) (hL : L.length = nL) (hp : pc + 3 = pc') (h : wp_X1_isGivable σ x1 P) (k : ∀ r, P r → GG V X σ pc' L (.int r :: st)) : GG V X σ pc L (.int x1 :: .ref (ad V 0) :: st) :=
  g_callVi C (av := [.int x1]) (fun l => c_X1_isGivable V σ x1 P l) (by decide) (en_0 V σ) (q := (RX1, TX1, 17)) rfl rfl ml_RX1_116 im_X1_isGivable se_X1_isGivable ini_RX1 co_X1_isGivable hd_X1_isGivable rfl ⟨rfl, rfl⟩ hr hst d hL hp h (fun r τ hq => by obtain ⟨rfl, hq⟩ := hq; exact k r hq)

theorem dX1_cellToGive_0 : decode cX1_cellToGive 0 = .ok (.aload_n 0, 1) := by decide +kernel
theorem dX1_cellToGive_1 : decode cX1_cellToGive 1 = .ok (.getfield 43, 3) := by decide +kernel
theorem dX1_cellToGive_4 : decode cX1_cellToGive 4 = .ok (.iconst 2, 1) := by decide +kernel
theorem dX1_cellToGive_5 : decode cX1_cellToGive 5 = .ok (.iaload, 1) := by decide +kernel
theorem dX1_cellToGive_6 : decode cX1_cellToGive 6 = .ok (.iconst 1, 1) := by decide +kernel
theorem dX1_cellToGive_7 : decode cX1_cellToGive 7 = .ok (.if_icmp .ne 7, 3) := by decide +kernel
theorem dX1_cellToGive_10 : decode cX1_cellToGive 10 = .ok (.iconst 1, 1) := by decide +kernel
theorem dX1_cellToGive_11 : decode cX1_cellToGive 11 = .ok (.goto 4, 3) := by decide +kernel
theorem dX1_cellToGive_14 : decode cX1_cellToGive 14 = .ok (.iconst 0, 1) := by decide +kernel
theorem dX1_cellToGive_15 : decode cX1_cellToGive 15 = .ok (.istore_n 1, 1) := by decide +kernel
theorem dX1_cellToGive_16 : decode cX1_cellToGive 16 = .ok (.aload_n 0, 1) := by decide +kernel
theorem dX1_cellToGive_17 : decode cX1_cellToGive 17 = .ok (.getfield 43, 3) := by decide +kernel
theorem dX1_cellToGive_20 : decode cX1_cellToGive 20 = .ok (.iconst 2, 1) := by decide +kernel
theorem dX1_cellToGive_21 : decode cX1_cellToGive 21 = .ok (.iaload, 1) := by decide +kernel
theorem dX1_cellToGive_22 : decode cX1_cellToGive 22 = .ok (.iconst 2, 1) := by decide +kernel
theorem dX1_cellToGive_23 : decode cX1_cellToGive 23 = .ok (.if_icmp .ne 12, 3) := by decide +kernel
theorem dX1_cellToGive_26 : decode cX1_cellToGive 26 = .ok (.aload_n 0, 1) := by decide +kernel
theorem dX1_cellToGive_27 : decode cX1_cellToGive 27 = .ok (.getfield 46, 3) := by decide +kernel
theorem dX1_cellToGive_30 : decode cX1_cellToGive 30 = .ok (.iconst 1, 1) := by decide +kernel
theorem dX1_cellToGive_31 : decode cX1_cellToGive 31 = .ok (.iadd, 1) := by decide +kernel
theorem dX1_cellToGive_32 : decode cX1_cellToGive 32 = .ok (.goto 4, 3) := by decide +kernel
theorem dX1_cellToGive_35 : decode cX1_cellToGive 35 = .ok (.iconst 0, 1) := by decide +kernel
theorem dX1_cellToGive_36 : decode cX1_cellToGive 36 = .ok (.istore_n 2, 1) := by decide +kernel
theorem dX1_cellToGive_37 : decode cX1_cellToGive 37 = .ok (.bipush (-5), 2) := by decide +kernel
theorem dX1_cellToGive_39 : decode cX1_cellToGive 39 = .ok (.istore_n 3, 1) := by decide +kernel
theorem dX1_cellToGive_40 : decode cX1_cellToGive 40 = .ok (.iconst 0, 1) := by decide +kernel
theorem dX1_cellToGive_41 : decode cX1_cellToGive 41 = .ok (.istore 4, 2) := by decide +kernel
theorem dX1_cellToGive_43 : decode cX1_cellToGive 43 = .ok (.iload 4, 2) := by decide +kernel
theorem dX1_cellToGive_45 : decode cX1_cellToGive 45 = .ok (.bipush 40, 2) := by decide +kernel
theorem dX1_cellToGive_47 : decode cX1_cellToGive 47 = .ok (.if_icmp .ge 54, 3) := by decide +kernel
theorem dX1_cellToGive_50 : decode cX1_cellToGive 50 = .ok (.iload_n 2, 1) := by decide +kernel
theorem dX1_cellToGive_51 : decode cX1_cellToGive 51 = .ok (.iload 4, 2) := by decide +kernel
theorem dX1_cellToGive_53 : decode cX1_cellToGive 53 = .ok (.iadd, 1) := by decide +kernel
theorem dX1_cellToGive_54 : decode cX1_cellToGive 54 = .ok (.bipush 40, 2) := by decide +kernel
theorem dX1_cellToGive_56 : decode cX1_cellToGive 56 = .ok (.irem, 1) := by decide +kernel
theorem dX1_cellToGive_57 : decode cX1_cellToGive 57 = .ok (.istore 5, 2) := by decide +kernel
theorem dX1_cellToGive_59 : decode cX1_cellToGive 59 = .ok (.aload_n 0, 1) := by decide +kernel
theorem dX1_cellToGive_60 : decode cX1_cellToGive 60 = .ok (.iload 5, 2) := by decide +kernel
theorem dX1_cellToGive_62 : decode cX1_cellToGive 62 = .ok (.invokevirtual 116, 3) := by decide +kernel
theorem dX1_cellToGive_65 : decode cX1_cellToGive 65 = .ok (.ifCond .eq 30, 3) := by decide +kernel
theorem dX1_cellToGive_68 : decode cX1_cellToGive 68 = .ok (.iload_n 3, 1) := by decide +kernel
theorem dX1_cellToGive_69 : decode cX1_cellToGive 69 = .ok (.ifCond .lt 23, 3) := by decide +kernel
theorem dX1_cellToGive_72 : decode cX1_cellToGive 72 = .ok (.iload_n 1, 1) := by decide +kernel
theorem dX1_cellToGive_73 : decode cX1_cellToGive 73 = .ok (.ifCond .eq 22, 3) := by decide +kernel
theorem dX1_cellToGive_76 : decode cX1_cellToGive 76 = .ok (.aload_n 0, 1) := by decide +kernel
theorem dX1_cellToGive_77 : decode cX1_cellToGive 77 = .ok (.getfield 15, 3) := by decide +kernel
theorem dX1_cellToGive_80 : decode cX1_cellToGive 80 = .ok (.iload 5, 2) := by decide +kernel
theorem dX1_cellToGive_82 : decode cX1_cellToGive 82 = .ok (.iaload, 1) := by decide +kernel
theorem dX1_cellToGive_83 : decode cX1_cellToGive 83 = .ok (.aload_n 0, 1) := by decide +kernel
theorem dX1_cellToGive_84 : decode cX1_cellToGive 84 = .ok (.getfield 15, 3) := by decide +kernel
theorem dX1_cellToGive_87 : decode cX1_cellToGive 87 = .ok (.iload_n 3, 1) := by decide +kernel
theorem dX1_cellToGive_88 : decode cX1_cellToGive 88 = .ok (.iaload, 1) := by decide +kernel
theorem dX1_cellToGive_89 : decode cX1_cellToGive 89 = .ok (.if_icmp .ge 6, 3) := by decide +kernel
theorem dX1_cellToGive_92 : decode cX1_cellToGive 92 = .ok (.iload 5, 2) := by decide +kernel
theorem dX1_cellToGive_94 : decode cX1_cellToGive 94 = .ok (.istore_n 3, 1) := by decide +kernel
theorem dX1_cellToGive_95 : decode cX1_cellToGive 95 = .ok (.iinc 4 1, 3) := by decide +kernel
theorem dX1_cellToGive_98 : decode cX1_cellToGive 98 = .ok (.goto (-55), 3) := by decide +kernel
theorem dX1_cellToGive_101 : decode cX1_cellToGive 101 = .ok (.iload_n 3, 1) := by decide +kernel
theorem dX1_cellToGive_102 : decode cX1_cellToGive 102 = .ok (.ireturn, 1) := by decide +kernel
def wp_X1_cellToGive (σ : Mem) (P : Int32 → Prop) : Prop :=
  jn (A := Int32 → Prop) (fun (v1 : Int32) =>
    jn (A := Int32 → Prop) (fun (v3 : Int32) =>
      lq2 (fun rec7 (x5 : Int32) (x6 : Int32) =>
        ((40 ≤ x6 →
          P x5) ∧
          (¬ 40 ≤ x6 →
          wp_X1_isGivable σ (((v3 + x6) - (v3 + x6) / 40 * 40)) (fun r8 =>
            ((r8 = 0 →
            rec7 x5 (x6 + 1)) ∧
            (¬ r8 = 0 →
            ((x5 < 0 →
              rec7 (((v3 + x6) - (v3 + x6) / 40 * 40)) (x6 + 1)) ∧
              (¬ x5 < 0 →
              ((v1 = 0 →
                rec7 x5 (x6 + 1)) ∧
                (¬ v1 = 0 →
                vp_in (((v3 + x6) - (v3 + x6) / 40 * 40)) 40 ∧ vp_in x5 40 ∧ (((σ 2 x5.toNatClampNeg) ≤ (σ 2 (((v3 + x6) - (v3 + x6) / 40 * 40)).toNatClampNeg) →
                  rec7 x5 (x6 + 1)) ∧
                  (¬ (σ 2 x5.toNatClampNeg) ≤ (σ 2 (((v3 + x6) - (v3 + x6) / 40 * 40)).toNatClampNeg) →
                  rec7 (((v3 + x6) - (v3 + x6) / 40 * 40)) (x6 + 1))))))))))))) (-5) 0)
      (fun J4 =>
      (((σ 11 2) = 2 →
      J4 ((σ 0 13) + 1)) ∧
      (¬ (σ 11 2) = 2 →
      J4 0))))
    (fun J2 =>
    (((σ 11 2) = 1 →
    J2 1) ∧
    (¬ (σ 11 2) = 1 →
    J2 0)))
set_option maxRecDepth 100000 in
set_option maxHeartbeats 4000000 in
theorem c_X1_cellToGive (V : EV) (σ : Mem) (P : Int32 → Prop) (l : Launch) : Met l yX1_cellToGive (.code yX1_cellToGive cX1_cellToGive 6 (some .int) :: AW) { frames := 1, cells := 0, slots := 0, locals := 21 } (va_Pc [.ref (ad V 0)] (fun U => wP V σ U ∧ wp_X1_cellToGive σ P)) (va_Qi (fun r τ => τ = σ ∧ P r) (wB V) (AA V)) 0 0 (AA V) := by
  refine met_i V σ (own := RX1) (by decide +kernel) rfl (fun v hv => by simp at hv; subst hv; rfl) (Nat.le_of_ble_eq_true rfl) (fun X C D h => ?_) l
  show GG V X σ 0 [some (.ref (ad V 0)), none, none, none, none, none] []
  refine g_aload_n C dX1_cellToGive_0 rfl rfl rfl ?_
  refine f_X1_43 C dX1_cellToGive_1 rfl ?_
  refine g_iconst C dX1_cellToGive_4 ic_2 rfl ?_
  refine g_ildk C dX1_cellToGive_5 arr_11 vi_2_3 tl_2 rfl ?_
  refine g_iconst C dX1_cellToGive_6 ic_1 rfl ?_
  refine jn_go h (fun (J2 : Int32 → Prop) => ∀ (v1 : Int32), J2 v1 → GG V X σ 15 [some (.ref (ad V 0)), none, none, none, none, none] [.int v1]) (fun v1 h => ?_) (fun J2 hJ2 h => ?_)
  · refine g_istore_n C dX1_cellToGive_15 rfl (Nat.le_of_ble_eq_true rfl) (L' := [some (.ref (ad V 0)), some (.int v1), none, none, none, none]) rfl rfl ?_
    refine g_aload_n C dX1_cellToGive_16 rfl rfl rfl ?_
    refine f_X1_43 C dX1_cellToGive_17 rfl ?_
    refine g_iconst C dX1_cellToGive_20 ic_2 rfl ?_
    refine g_ildk C dX1_cellToGive_21 arr_11 vi_2_3 tl_2 rfl ?_
    refine g_iconst C dX1_cellToGive_22 ic_2 rfl ?_
    refine jn_go h (fun (J4 : Int32 → Prop) => ∀ (v3 : Int32), J4 v3 → GG V X σ 36 [some (.ref (ad V 0)), some (.int v1), none, none, none, none] [.int v3]) (fun v3 h => ?_) (fun J4 hJ4 h => ?_)
    · refine g_istore_n C dX1_cellToGive_36 rfl (Nat.le_of_ble_eq_true rfl) (L' := [some (.ref (ad V 0)), some (.int v1), some (.int v3), none, none, none]) rfl rfl ?_
      refine g_bipush C dX1_cellToGive_37 bp_m5 rfl ?_
      refine g_istore_n C dX1_cellToGive_39 rfl (Nat.le_of_ble_eq_true rfl) (L' := [some (.ref (ad V 0)), some (.int v1), some (.int v3), some (.int (-5)), none, none]) rfl rfl ?_
      refine g_iconst C dX1_cellToGive_40 ic_0 rfl ?_
      refine g_istore C dX1_cellToGive_41 (Nat.le_of_ble_eq_true rfl) (L' := [some (.ref (ad V 0)), some (.int v1), some (.int v3), some (.int (-5)), some (.int 0), none]) rfl rfl ?_
      refine h (fun (x5 : Int32) (x6 : Int32) => GG V X σ 43 [some (.ref (ad V 0)), some (.int v1), some (.int v3), some (.int x5), some (.int x6), none] []) (fun x5 x6 h => ?_)
      refine g_iload C dX1_cellToGive_43 rfl rfl ?_
      refine g_bipush C dX1_cellToGive_45 bp_40 rfl ?_
      refine g_icmp_ge C dX1_cellToGive_47 (tgt := 101) rfl rfl (fun q => ?_) (fun q => ?_)
      · have h := h.1 q
        refine g_iload_n C dX1_cellToGive_101 rfl rfl rfl ?_
        exact g_iret C dX1_cellToGive_102 D ⟨rfl, h⟩
      · have h := h.2 q
        refine g_iload_n C dX1_cellToGive_50 rfl rfl rfl ?_
        refine g_iload C dX1_cellToGive_51 rfl rfl ?_
        refine g_iadd C dX1_cellToGive_53 rfl ?_
        refine g_bipush C dX1_cellToGive_54 bp_40 rfl ?_
        refine g_irem C dX1_cellToGive_56 (by decide) rfl ?_
        refine g_istore C dX1_cellToGive_57 (Nat.le_of_ble_eq_true rfl) (L' := [some (.ref (ad V 0)), some (.int v1), some (.int v3), some (.int x5), some (.int x6), some (.int ((v3 + x6) - (v3 + x6) / 40 * 40))]) rfl rfl ?_
        refine g_aload_n C dX1_cellToGive_59 rfl rfl rfl ?_
        refine g_iload C dX1_cellToGive_60 rfl rfl ?_
        refine k_X1_116 C dX1_cellToGive_62 (Nat.le_of_ble_eq_true rfl) (by decide) rfl rfl h (fun r8 h => ?_)
        refine g_if_eq C dX1_cellToGive_65 (tgt := 95) rfl rfl (fun q => ?_) (fun q => ?_)
        · have h := h.1 q
          refine g_iinc C dX1_cellToGive_95 (v := x6 + 1) (by rw [ic_1]) rfl (Nat.le_of_ble_eq_true rfl) (L' := [some (.ref (ad V 0)), some (.int v1), some (.int v3), some (.int x5), some (.int (x6 + 1)), some (.int ((v3 + x6) - (v3 + x6) / 40 * 40))]) rfl rfl ?_
          refine g_goto C dX1_cellToGive_98 (pc' := 43) rfl ?_
          refine g_drop 5 (L' := [some (.ref (ad V 0)), some (.int v1), some (.int v3), some (.int x5), some (.int (x6 + 1)), none]) rfl ?_
          exact h
        · have h := h.2 q
          refine g_iload_n C dX1_cellToGive_68 rfl rfl rfl ?_
          refine g_if_lt C dX1_cellToGive_69 (tgt := 92) rfl rfl (fun q => ?_) (fun q => ?_)
          · have h := h.1 q
            refine g_iload C dX1_cellToGive_92 rfl rfl ?_
            refine g_istore_n C dX1_cellToGive_94 rfl (Nat.le_of_ble_eq_true rfl) (L' := [some (.ref (ad V 0)), some (.int v1), some (.int v3), some (.int ((v3 + x6) - (v3 + x6) / 40 * 40)), some (.int x6), some (.int ((v3 + x6) - (v3 + x6) / 40 * 40))]) rfl rfl ?_
            refine g_iinc C dX1_cellToGive_95 (v := x6 + 1) (by rw [ic_1]) rfl (Nat.le_of_ble_eq_true rfl) (L' := [some (.ref (ad V 0)), some (.int v1), some (.int v3), some (.int ((v3 + x6) - (v3 + x6) / 40 * 40)), some (.int (x6 + 1)), some (.int ((v3 + x6) - (v3 + x6) / 40 * 40))]) rfl rfl ?_
            refine g_goto C dX1_cellToGive_98 (pc' := 43) rfl ?_
            refine g_drop 5 (L' := [some (.ref (ad V 0)), some (.int v1), some (.int v3), some (.int ((v3 + x6) - (v3 + x6) / 40 * 40)), some (.int (x6 + 1)), none]) rfl ?_
            exact h
          · have h := h.2 q
            refine g_iload_n C dX1_cellToGive_72 rfl rfl rfl ?_
            refine g_if_eq C dX1_cellToGive_73 (tgt := 95) rfl rfl (fun q => ?_) (fun q => ?_)
            · have h := h.1 q
              refine g_iinc C dX1_cellToGive_95 (v := x6 + 1) (by rw [ic_1]) rfl (Nat.le_of_ble_eq_true rfl) (L' := [some (.ref (ad V 0)), some (.int v1), some (.int v3), some (.int x5), some (.int (x6 + 1)), some (.int ((v3 + x6) - (v3 + x6) / 40 * 40))]) rfl rfl ?_
              refine g_goto C dX1_cellToGive_98 (pc' := 43) rfl ?_
              refine g_drop 5 (L' := [some (.ref (ad V 0)), some (.int v1), some (.int v3), some (.int x5), some (.int (x6 + 1)), none]) rfl ?_
              exact h
            · have h := h.2 q
              refine g_aload_n C dX1_cellToGive_76 rfl rfl rfl ?_
              refine f_X1_15 C dX1_cellToGive_77 rfl ?_
              refine g_iload C dX1_cellToGive_80 rfl rfl ?_
              obtain ⟨hin, h⟩ := h
              refine g_ild C dX1_cellToGive_82 arr_2 hin rfl ?_
              refine g_aload_n C dX1_cellToGive_83 rfl rfl rfl ?_
              refine f_X1_15 C dX1_cellToGive_84 rfl ?_
              refine g_iload_n C dX1_cellToGive_87 rfl rfl rfl ?_
              obtain ⟨hin, h⟩ := h
              refine g_ild C dX1_cellToGive_88 arr_2 hin rfl ?_
              refine g_icmp_ge C dX1_cellToGive_89 (tgt := 95) rfl rfl (fun q => ?_) (fun q => ?_)
              · have h := h.1 q
                refine g_iinc C dX1_cellToGive_95 (v := x6 + 1) (by rw [ic_1]) rfl (Nat.le_of_ble_eq_true rfl) (L' := [some (.ref (ad V 0)), some (.int v1), some (.int v3), some (.int x5), some (.int (x6 + 1)), some (.int ((v3 + x6) - (v3 + x6) / 40 * 40))]) rfl rfl ?_
                refine g_goto C dX1_cellToGive_98 (pc' := 43) rfl ?_
                refine g_drop 5 (L' := [some (.ref (ad V 0)), some (.int v1), some (.int v3), some (.int x5), some (.int (x6 + 1)), none]) rfl ?_
                exact h
              · have h := h.2 q
                refine g_iload C dX1_cellToGive_92 rfl rfl ?_
                refine g_istore_n C dX1_cellToGive_94 rfl (Nat.le_of_ble_eq_true rfl) (L' := [some (.ref (ad V 0)), some (.int v1), some (.int v3), some (.int ((v3 + x6) - (v3 + x6) / 40 * 40)), some (.int x6), some (.int ((v3 + x6) - (v3 + x6) / 40 * 40))]) rfl rfl ?_
                refine g_iinc C dX1_cellToGive_95 (v := x6 + 1) (by rw [ic_1]) rfl (Nat.le_of_ble_eq_true rfl) (L' := [some (.ref (ad V 0)), some (.int v1), some (.int v3), some (.int ((v3 + x6) - (v3 + x6) / 40 * 40)), some (.int (x6 + 1)), some (.int ((v3 + x6) - (v3 + x6) / 40 * 40))]) rfl rfl ?_
                refine g_goto C dX1_cellToGive_98 (pc' := 43) rfl ?_
                refine g_drop 5 (L' := [some (.ref (ad V 0)), some (.int v1), some (.int v3), some (.int ((v3 + x6) - (v3 + x6) / 40 * 40)), some (.int (x6 + 1)), none]) rfl ?_
                exact h
    refine g_icmp_ne C dX1_cellToGive_23 (tgt := 35) rfl rfl (fun q => ?_) (fun q => ?_)
    · have h := h.2 q
      refine g_iconst C dX1_cellToGive_35 ic_0 rfl ?_
      exact hJ4 0 h
    · have h := h.1 q
      refine g_aload_n C dX1_cellToGive_26 rfl rfl rfl ?_
      refine f_X1_46 C dX1_cellToGive_27 rfl ?_
      refine g_iconst C dX1_cellToGive_30 ic_1 rfl ?_
      refine g_iadd C dX1_cellToGive_31 rfl ?_
      refine g_goto C dX1_cellToGive_32 (pc' := 36) rfl ?_
      exact hJ4 ((σ 0 13) + 1) h
  refine g_icmp_ne C dX1_cellToGive_7 (tgt := 14) rfl rfl (fun q => ?_) (fun q => ?_)
  · have h := h.2 q
    refine g_iconst C dX1_cellToGive_14 ic_0 rfl ?_
    exact hJ2 0 h
  · have h := h.1 q
    refine g_iconst C dX1_cellToGive_10 ic_1 rfl ?_
    refine g_goto C dX1_cellToGive_11 (pc' := 15) rfl ?_
    exact hJ2 1 h
theorem hd_X1_cellToGive : yX1_cellToGive.cls ≠ "java/lang/invoke/MethodHandle" ∧ yX1_cellToGive.cls ≠ "java/lang/invoke/VarHandle" ∧ (parseMethodDescriptor yX1_cellToGive.desc).map (fun d => d.parameters.length) = some 0 := by decide +kernel
theorem k_X1_75 {V : EV} {X : CX} {cc : ByteArray} {nL : Nat} {R : Room} (C : OK V X RX1 cc nL R) {σ : Mem} {pc pc' : Nat} {L : List (Option Value)} {st : List Value} {P : Int32 → Prop} (d : decode cc pc = .ok (.invokevirtual 75, 3)) (hst : (st.map fun v => v.category).sum ≤ 8) (hr : 1 + 1 ≤ R.frames ∧ 8 + (6 + 11) + 21 ≤ R.locals) (hL : L.length = nL) (hp : pc + 3 = pc') (h : wp_X1_cellToGive σ P) (k : ∀ r, P r → GG V X σ pc' L (.int r :: st)) : GG V X σ pc L (.ref (ad V 0) :: st) :=
  g_callVi C (av := []) (fun l => c_X1_cellToGive V σ P l) (by decide) (en_0 V σ) (q := (RX1, TX1, 17)) rfl rfl ml_RX1_75 im_X1_cellToGive se_X1_cellToGive ini_RX1 co_X1_cellToGive hd_X1_cellToGive rfl ⟨rfl, rfl⟩ hr hst d hL hp h (fun r τ hq => by obtain ⟨rfl, hq⟩ := hq; exact k r hq)
theorem k_X4_150 {V : EV} {X : CX} {cc : ByteArray} {nL : Nat} {R : Room} (C : OK V X RX4 cc nL R) {σ : Mem} {pc pc' : Nat} {L : List (Option Value)} {st : List Value} {P : Int32 → Prop} (d : decode cc pc = .ok (.invokevirtual 150, 3)) (hst : (st.map fun v => v.category).sum ≤ 8) (hr : 1 + 1 ≤ R.frames ∧ 8 + (6 + 11) + 21 ≤ R.locals) (hL : L.length = nL) (hp : pc + 3 = pc') (h : wp_X1_cellToGive σ P) (k : ∀ r, P r → GG V X σ pc' L (.int r :: st)) : GG V X σ pc L (.ref (ad V 0) :: st) :=
  g_callVi C (av := []) (fun l => c_X1_cellToGive V σ P l) (by decide) (en_0 V σ) (q := (RX1, TX1, 17)) rfl rfl ml_RX4_150 im_X1_cellToGive se_X1_cellToGive ini_RX1 co_X1_cellToGive hd_X1_cellToGive rfl ⟨rfl, rfl⟩ hr hst d hL hp h (fun r τ hq => by obtain ⟨rfl, hq⟩ := hq; exact k r hq)

theorem dX1_give_0 : decode cX1_give 0 = .ok (.aload_n 0, 1) := by decide +kernel
theorem dX1_give_1 : decode cX1_give 1 = .ok (.getfield 19, 3) := by decide +kernel
theorem dX1_give_4 : decode cX1_give 4 = .ok (.iload_n 1, 1) := by decide +kernel
theorem dX1_give_5 : decode cX1_give 5 = .ok (.iload_n 2, 1) := by decide +kernel
theorem dX1_give_6 : decode cX1_give 6 = .ok (.iastore, 1) := by decide +kernel
theorem dX1_give_7 : decode cX1_give 7 = .ok (.aload_n 0, 1) := by decide +kernel
theorem dX1_give_8 : decode cX1_give 8 = .ok (.getfield 22, 3) := by decide +kernel
theorem dX1_give_11 : decode cX1_give 11 = .ok (.iload_n 2, 1) := by decide +kernel
theorem dX1_give_12 : decode cX1_give 12 = .ok (.iload_n 1, 1) := by decide +kernel
theorem dX1_give_13 : decode cX1_give 13 = .ok (.iastore, 1) := by decide +kernel
theorem dX1_give_14 : decode cX1_give 14 = .ok (.aload_n 0, 1) := by decide +kernel
theorem dX1_give_15 : decode cX1_give 15 = .ok (.iload_n 1, 1) := by decide +kernel
theorem dX1_give_16 : decode cX1_give 16 = .ok (.putfield 46, 3) := by decide +kernel
theorem dX1_give_19 : decode cX1_give 19 = .ok (.return_, 1) := by decide +kernel
def wp_X1_give (σ : Mem) (x1 : Int32) (x2 : Int32) (P : Mem → Prop) : Prop :=
  vp_in x1 40 ∧ bm (up2 σ 3 x1.toNatClampNeg x2) (fun σ1 =>
    vp_in x2 50 ∧ bm (up2 σ1 4 x2.toNatClampNeg x1) (fun σ2 =>
    bm (up2 σ2 0 13 x1) (fun σ3 =>
    P σ3)))
set_option maxRecDepth 100000 in
set_option maxHeartbeats 4000000 in
theorem c_X1_give (V : EV) (σ : Mem) (x1 : Int32) (x2 : Int32) (P : Mem → Prop) (l : Launch) : Met l yX1_give (.code yX1_give cX1_give 3 (none) :: AW) { frames := 0, cells := 0, slots := 0, locals := 0 } (va_Pc [.ref (ad V 0), .int x1, .int x2] (fun U => wP V σ U ∧ wp_X1_give σ x1 x2 P)) (va_Qv P (wB V) (AA V)) 0 0 (AA V) := by
  refine met_v V σ (own := RX1) (by decide +kernel) rfl (fun v hv => by simp at hv; rcases hv with rfl | rfl | rfl <;> rfl) (Nat.le_of_ble_eq_true rfl) (fun X C D h => ?_) l
  show GG V X σ 0 [some (.ref (ad V 0)), some (.int x1), some (.int x2)] []
  refine g_aload_n C dX1_give_0 rfl rfl rfl ?_
  refine f_X1_19 C dX1_give_1 rfl ?_
  refine g_iload_n C dX1_give_4 rfl rfl rfl ?_
  refine g_iload_n C dX1_give_5 rfl rfl rfl ?_
  obtain ⟨hin, h⟩ := h
  refine g_ist C dX1_give_6 arr_3 hin rfl h (fun σ1 h => ?_)
  refine g_aload_n C dX1_give_7 rfl rfl rfl ?_
  refine f_X1_22 C dX1_give_8 rfl ?_
  refine g_iload_n C dX1_give_11 rfl rfl rfl ?_
  refine g_iload_n C dX1_give_12 rfl rfl rfl ?_
  obtain ⟨hin, h⟩ := h
  refine g_ist C dX1_give_13 arr_4 hin rfl h (fun σ2 h => ?_)
  refine g_aload_n C dX1_give_14 rfl rfl rfl ?_
  refine g_iload_n C dX1_give_15 rfl rfl rfl ?_
  refine p_X1_46 C dX1_give_16 rfl h (fun σ3 h => ?_)
  exact g_vret C dX1_give_19 D h
theorem hd_X1_give : yX1_give.cls ≠ "java/lang/invoke/MethodHandle" ∧ yX1_give.cls ≠ "java/lang/invoke/VarHandle" ∧ (parseMethodDescriptor yX1_give.desc).map (fun d => d.parameters.length) = some 2 := by decide +kernel
theorem k_X1_79 {V : EV} {X : CX} {cc : ByteArray} {nL : Nat} {R : Room} {x1 : Int32} {x2 : Int32} (C : OK V X RX1 cc nL R) {σ : Mem} {pc pc' : Nat} {L : List (Option Value)} {st : List Value} {P : Mem → Prop} (d : decode cc pc = .ok (.invokevirtual 79, 3)) (hst : (st.map fun v => v.category).sum ≤ 8) (hr : 0 + 1 ≤ R.frames ∧ 8 + (3 + 11) + 0 ≤ R.locals) (hL : L.length = nL) (hp : pc + 3 = pc') (h : wp_X1_give σ x1 x2 P) (k : ∀ τ, P τ → GG V X τ pc' L st) : GG V X σ pc L (.int x2 :: .int x1 :: .ref (ad V 0) :: st) :=
  g_callVv C (av := [.int x1, .int x2]) (fun l => c_X1_give V σ x1 x2 P l) (by decide) (en_0 V σ) (q := (RX1, TX1, 17)) rfl rfl ml_RX1_79 im_X1_give se_X1_give ini_RX1 co_X1_give hd_X1_give rfl ⟨rfl, rfl⟩ hr hst d hL hp h k
end
