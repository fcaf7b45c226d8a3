-- ===== PART A: goes FIRST, ahead of the names: the tables' words, and 'selects' of the private methods out of them =====
/-- a private method of a class that the tables say can be made, by its rows of tables_1 -/
def lw_okq (q : MethodName × Nat) : Prop := (q.1.cls ≠ "java/lang/invoke/MethodHandle" ∧ q.1.cls ≠ "java/lang/invoke/VarHandle") ∧ Cond.instantiable q.1.cls q.2 ∈ tables_1 ∧ Cond.privateMethod q.1 ∈ tables_1 ∧ Cond.instanceMethod q.1 ∈ tables_1
theorem lw_p0 : lw_okq (⟨"BorderQuestions$Yard", "addGuard", "(III)I"⟩, 9) := ⟨⟨by decide +kernel, by decide +kernel⟩, List.mem_of_getElem? (i := 31) (by decide +kernel), List.mem_of_getElem? (i := 354) (by decide +kernel), List.mem_of_getElem? (i := 355) (by decide +kernel)⟩
theorem lw_p1 : lw_okq (⟨"BorderQuestions$Guard", "become", "(III)V"⟩, 5) := ⟨⟨by decide +kernel, by decide +kernel⟩, List.mem_of_getElem? (i := 65) (by decide +kernel), List.mem_of_getElem? (i := 358) (by decide +kernel), List.mem_of_getElem? (i := 359) (by decide +kernel)⟩
theorem lw_p2 : lw_okq (⟨"BorderQuestions$Yard", "guardAt", "(I)LBorderQuestions$Guard;"⟩, 9) := ⟨⟨by decide +kernel, by decide +kernel⟩, List.mem_of_getElem? (i := 31) (by decide +kernel), List.mem_of_getElem? (i := 369) (by decide +kernel), List.mem_of_getElem? (i := 370) (by decide +kernel)⟩
theorem lw_p3 : lw_okq (⟨"BorderQuestions$Finder", "stumps", "(LBorderQuestions$Yard;I)I"⟩, 7) := ⟨⟨by decide +kernel, by decide +kernel⟩, List.mem_of_getElem? (i := 177) (by decide +kernel), List.mem_of_getElem? (i := 373) (by decide +kernel), List.mem_of_getElem? (i := 374) (by decide +kernel)⟩
theorem lw_p4 : lw_okq (⟨"BorderQuestions$Finder", "findStumped", "(LBorderQuestions$Yard;II)V"⟩, 7) := ⟨⟨by decide +kernel, by decide +kernel⟩, List.mem_of_getElem? (i := 177) (by decide +kernel), List.mem_of_getElem? (i := 378) (by decide +kernel), List.mem_of_getElem? (i := 379) (by decide +kernel)⟩
theorem lw_p5 : lw_okq (⟨"BorderQuestions$Finder", "fits", "(LBorderQuestions$Yard;IIIZ)I"⟩, 7) := ⟨⟨by decide +kernel, by decide +kernel⟩, List.mem_of_getElem? (i := 177) (by decide +kernel), List.mem_of_getElem? (i := 382) (by decide +kernel), List.mem_of_getElem? (i := 383) (by decide +kernel)⟩
theorem lw_p6 : lw_okq (⟨"BorderQuestions$Border", "bonus", "(LBorderQuestions$Guard;IIII)I"⟩, 4) := ⟨⟨by decide +kernel, by decide +kernel⟩, List.mem_of_getElem? (i := 190) (by decide +kernel), List.mem_of_getElem? (i := 386) (by decide +kernel), List.mem_of_getElem? (i := 387) (by decide +kernel)⟩
theorem lw_p7 : lw_okq (⟨"BorderQuestions$Border", "testHolds", "(I)Z"⟩, 4) := ⟨⟨by decide +kernel, by decide +kernel⟩, List.mem_of_getElem? (i := 190) (by decide +kernel), List.mem_of_getElem? (i := 390) (by decide +kernel), List.mem_of_getElem? (i := 391) (by decide +kernel)⟩
theorem lw_p8 : lw_okq (⟨"BorderQuestions$Rules", "witKnowing", "(LBorderQuestions$Yard;IIIII)I"⟩, 2) := ⟨⟨by decide +kernel, by decide +kernel⟩, List.mem_of_getElem? (i := 183) (by decide +kernel), List.mem_of_getElem? (i := 394) (by decide +kernel), List.mem_of_getElem? (i := 395) (by decide +kernel)⟩
theorem lw_p9 : lw_okq (⟨"BorderQuestions$Finder", "knewCount", "(LBorderQuestions$Yard;I)I"⟩, 7) := ⟨⟨by decide +kernel, by decide +kernel⟩, List.mem_of_getElem? (i := 177) (by decide +kernel), List.mem_of_getElem? (i := 405) (by decide +kernel), List.mem_of_getElem? (i := 406) (by decide +kernel)⟩
theorem lw_p10 : lw_okq (⟨"BorderQuestions$Finder", "findRows", "(LBorderQuestions$Yard;II)V"⟩, 7) := ⟨⟨by decide +kernel, by decide +kernel⟩, List.mem_of_getElem? (i := 177) (by decide +kernel), List.mem_of_getElem? (i := 409) (by decide +kernel), List.mem_of_getElem? (i := 410) (by decide +kernel)⟩
theorem lw_p11 : lw_okq (⟨"BorderQuestions$Rows", "second", "(I)I"⟩, 3) := ⟨⟨by decide +kernel, by decide +kernel⟩, List.mem_of_getElem? (i := 41) (by decide +kernel), List.mem_of_getElem? (i := 413) (by decide +kernel), List.mem_of_getElem? (i := 414) (by decide +kernel)⟩
theorem lw_p12 : lw_okq (⟨"BorderQuestions$Rows", "cell", "(II)I"⟩, 3) := ⟨⟨by decide +kernel, by decide +kernel⟩, List.mem_of_getElem? (i := 41) (by decide +kernel), List.mem_of_getElem? (i := 417) (by decide +kernel), List.mem_of_getElem? (i := 418) (by decide +kernel)⟩
theorem lw_p13 : lw_okq (⟨"BorderQuestions$Yard", "questionAt", "(I)LBorderQuestions$Question;"⟩, 9) := ⟨⟨by decide +kernel, by decide +kernel⟩, List.mem_of_getElem? (i := 31) (by decide +kernel), List.mem_of_getElem? (i := 421) (by decide +kernel), List.mem_of_getElem? (i := 422) (by decide +kernel)⟩
theorem lw_p14 : lw_okq (⟨"BorderQuestions$Rows", "first", "(I)I"⟩, 3) := ⟨⟨by decide +kernel, by decide +kernel⟩, List.mem_of_getElem? (i := 41) (by decide +kernel), List.mem_of_getElem? (i := 425) (by decide +kernel), List.mem_of_getElem? (i := 426) (by decide +kernel)⟩
theorem lw_p15 : lw_okq (⟨"BorderQuestions$Rows", "third", "(I)I"⟩, 3) := ⟨⟨by decide +kernel, by decide +kernel⟩, List.mem_of_getElem? (i := 41) (by decide +kernel), List.mem_of_getElem? (i := 429) (by decide +kernel), List.mem_of_getElem? (i := 430) (by decide +kernel)⟩
def lw_privs_1 : List (MethodName × Nat) := [(⟨"BorderQuestions$Yard", "addGuard", "(III)I"⟩, 9), (⟨"BorderQuestions$Guard", "become", "(III)V"⟩, 5), (⟨"BorderQuestions$Yard", "guardAt", "(I)LBorderQuestions$Guard;"⟩, 9), (⟨"BorderQuestions$Finder", "stumps", "(LBorderQuestions$Yard;I)I"⟩, 7), (⟨"BorderQuestions$Finder", "findStumped", "(LBorderQuestions$Yard;II)V"⟩, 7), (⟨"BorderQuestions$Finder", "fits", "(LBorderQuestions$Yard;IIIZ)I"⟩, 7), (⟨"BorderQuestions$Border", "bonus", "(LBorderQuestions$Guard;IIII)I"⟩, 4), (⟨"BorderQuestions$Border", "testHolds", "(I)Z"⟩, 4), (⟨"BorderQuestions$Rules", "witKnowing", "(LBorderQuestions$Yard;IIIII)I"⟩, 2), (⟨"BorderQuestions$Finder", "knewCount", "(LBorderQuestions$Yard;I)I"⟩, 7), (⟨"BorderQuestions$Finder", "findRows", "(LBorderQuestions$Yard;II)V"⟩, 7), (⟨"BorderQuestions$Rows", "second", "(I)I"⟩, 3), (⟨"BorderQuestions$Rows", "cell", "(II)I"⟩, 3), (⟨"BorderQuestions$Yard", "questionAt", "(I)LBorderQuestions$Question;"⟩, 9), (⟨"BorderQuestions$Rows", "first", "(I)I"⟩, 3), (⟨"BorderQuestions$Rows", "third", "(I)I"⟩, 3)]
theorem lw_r1 : ∀ q ∈ lw_privs_1, lw_okq q := List.forall_mem_cons.mpr ⟨lw_p0, List.forall_mem_cons.mpr ⟨lw_p1, List.forall_mem_cons.mpr ⟨lw_p2, List.forall_mem_cons.mpr ⟨lw_p3, List.forall_mem_cons.mpr ⟨lw_p4, List.forall_mem_cons.mpr ⟨lw_p5, List.forall_mem_cons.mpr ⟨lw_p6, List.forall_mem_cons.mpr ⟨lw_p7, List.forall_mem_cons.mpr ⟨lw_p8, List.forall_mem_cons.mpr ⟨lw_p9, List.forall_mem_cons.mpr ⟨lw_p10, List.forall_mem_cons.mpr ⟨lw_p11, List.forall_mem_cons.mpr ⟨lw_p12, List.forall_mem_cons.mpr ⟨lw_p13, List.forall_mem_cons.mpr ⟨lw_p14, List.forall_mem_cons.mpr ⟨lw_p15, fun _ h => absurd h List.not_mem_nil⟩⟩⟩⟩⟩⟩⟩⟩⟩⟩⟩⟩⟩⟩⟩⟩
theorem lw_p16 : lw_okq (⟨"BorderQuestions$Finder", "allFit", "(I)Z"⟩, 7) := ⟨⟨by decide +kernel, by decide +kernel⟩, List.mem_of_getElem? (i := 177) (by decide +kernel), List.mem_of_getElem? (i := 433) (by decide +kernel), List.mem_of_getElem? (i := 434) (by decide +kernel)⟩
theorem lw_p17 : lw_okq (⟨"BorderQuestions$Finder", "knewLeast", "(LBorderQuestions$Yard;I)I"⟩, 7) := ⟨⟨by decide +kernel, by decide +kernel⟩, List.mem_of_getElem? (i := 177) (by decide +kernel), List.mem_of_getElem? (i := 437) (by decide +kernel), List.mem_of_getElem? (i := 438) (by decide +kernel)⟩
theorem lw_p18 : lw_okq (⟨"BorderQuestions", "ofQuestion", "(LBorderQuestions$Guard;II)I"⟩, 9) := ⟨⟨by decide +kernel, by decide +kernel⟩, List.mem_of_getElem? (i := 23) (by decide +kernel), List.mem_of_getElem? (i := 441) (by decide +kernel), List.mem_of_getElem? (i := 442) (by decide +kernel)⟩
theorem lw_p19 : lw_okq (⟨"BorderQuestions$Rules", "wit", "(LBorderQuestions$Yard;III)I"⟩, 2) := ⟨⟨by decide +kernel, by decide +kernel⟩, List.mem_of_getElem? (i := 183) (by decide +kernel), List.mem_of_getElem? (i := 446) (by decide +kernel), List.mem_of_getElem? (i := 447) (by decide +kernel)⟩
theorem lw_p20 : lw_okq (⟨"BorderQuestions$Finder", "study", "(LBorderQuestions$Yard;II)I"⟩, 7) := ⟨⟨by decide +kernel, by decide +kernel⟩, List.mem_of_getElem? (i := 177) (by decide +kernel), List.mem_of_getElem? (i := 453) (by decide +kernel), List.mem_of_getElem? (i := 454) (by decide +kernel)⟩
theorem lw_p21 : lw_okq (⟨"BorderQuestions$Yard", "addQuestion", "(II)I"⟩, 9) := ⟨⟨by decide +kernel, by decide +kernel⟩, List.mem_of_getElem? (i := 31) (by decide +kernel), List.mem_of_getElem? (i := 468) (by decide +kernel), List.mem_of_getElem? (i := 469) (by decide +kernel)⟩
theorem lw_p22 : lw_okq (⟨"BorderQuestions$Question", "become", "(II)V"⟩, 4) := ⟨⟨by decide +kernel, by decide +kernel⟩, List.mem_of_getElem? (i := 102) (by decide +kernel), List.mem_of_getElem? (i := 472) (by decide +kernel), List.mem_of_getElem? (i := 473) (by decide +kernel)⟩
theorem lw_p23 : lw_okq (⟨"BorderQuestions$Rules", "putTo", "(LBorderQuestions$Yard;II)V"⟩, 2) := ⟨⟨by decide +kernel, by decide +kernel⟩, List.mem_of_getElem? (i := 183) (by decide +kernel), List.mem_of_getElem? (i := 496) (by decide +kernel), List.mem_of_getElem? (i := 497) (by decide +kernel)⟩
theorem lw_p24 : lw_okq (⟨"BorderQuestions$Rules", "answers", "(LBorderQuestions$Yard;II)Z"⟩, 2) := ⟨⟨by decide +kernel, by decide +kernel⟩, List.mem_of_getElem? (i := 183) (by decide +kernel), List.mem_of_getElem? (i := 501) (by decide +kernel), List.mem_of_getElem? (i := 502) (by decide +kernel)⟩
theorem lw_p25 : lw_okq (⟨"BorderQuestions$Guard", "changeRow", "(II)I"⟩, 5) := ⟨⟨by decide +kernel, by decide +kernel⟩, List.mem_of_getElem? (i := 65) (by decide +kernel), List.mem_of_getElem? (i := 512) (by decide +kernel), List.mem_of_getElem? (i := 513) (by decide +kernel)⟩
theorem lw_p26 : lw_okq (⟨"BorderQuestions$Reader", "add", "(I)I"⟩, 6) := ⟨⟨by decide +kernel, by decide +kernel⟩, List.mem_of_getElem? (i := 242) (by decide +kernel), List.mem_of_getElem? (i := 520) (by decide +kernel), List.mem_of_getElem? (i := 521) (by decide +kernel)⟩
theorem lw_p27 : lw_okq (⟨"BorderQuestions$Rules", "spareBorder", "()LBorderQuestions$Border;"⟩, 2) := ⟨⟨by decide +kernel, by decide +kernel⟩, List.mem_of_getElem? (i := 183) (by decide +kernel), List.mem_of_getElem? (i := 528) (by decide +kernel), List.mem_of_getElem? (i := 529) (by decide +kernel)⟩
theorem lw_p28 : lw_okq (⟨"BorderQuestions$Reader", "readInto", "(LBorderQuestions$Border;)I"⟩, 6) := ⟨⟨by decide +kernel, by decide +kernel⟩, List.mem_of_getElem? (i := 242) (by decide +kernel), List.mem_of_getElem? (i := 532) (by decide +kernel), List.mem_of_getElem? (i := 533) (by decide +kernel)⟩
theorem lw_p29 : lw_okq (⟨"BorderQuestions$Border", "clear", "()V"⟩, 4) := ⟨⟨by decide +kernel, by decide +kernel⟩, List.mem_of_getElem? (i := 190) (by decide +kernel), List.mem_of_getElem? (i := 536) (by decide +kernel), List.mem_of_getElem? (i := 537) (by decide +kernel)⟩
theorem lw_p30 : lw_okq (⟨"BorderQuestions$Reader", "goTo", "(I)V"⟩, 6) := ⟨⟨by decide +kernel, by decide +kernel⟩, List.mem_of_getElem? (i := 242) (by decide +kernel), List.mem_of_getElem? (i := 540) (by decide +kernel), List.mem_of_getElem? (i := 541) (by decide +kernel)⟩
theorem lw_p31 : lw_okq (⟨"BorderQuestions$Reader", "readClause", "()Z"⟩, 6) := ⟨⟨by decide +kernel, by decide +kernel⟩, List.mem_of_getElem? (i := 242) (by decide +kernel), List.mem_of_getElem? (i := 544) (by decide +kernel), List.mem_of_getElem? (i := 545) (by decide +kernel)⟩
def lw_privs_2 : List (MethodName × Nat) := [(⟨"BorderQuestions$Finder", "allFit", "(I)Z"⟩, 7), (⟨"BorderQuestions$Finder", "knewLeast", "(LBorderQuestions$Yard;I)I"⟩, 7), (⟨"BorderQuestions", "ofQuestion", "(LBorderQuestions$Guard;II)I"⟩, 9), (⟨"BorderQuestions$Rules", "wit", "(LBorderQuestions$Yard;III)I"⟩, 2), (⟨"BorderQuestions$Finder", "study", "(LBorderQuestions$Yard;II)I"⟩, 7), (⟨"BorderQuestions$Yard", "addQuestion", "(II)I"⟩, 9), (⟨"BorderQuestions$Question", "become", "(II)V"⟩, 4), (⟨"BorderQuestions$Rules", "putTo", "(LBorderQuestions$Yard;II)V"⟩, 2), (⟨"BorderQuestions$Rules", "answers", "(LBorderQuestions$Yard;II)Z"⟩, 2), (⟨"BorderQuestions$Guard", "changeRow", "(II)I"⟩, 5), (⟨"BorderQuestions$Reader", "add", "(I)I"⟩, 6), (⟨"BorderQuestions$Rules", "spareBorder", "()LBorderQuestions$Border;"⟩, 2), (⟨"BorderQuestions$Reader", "readInto", "(LBorderQuestions$Border;)I"⟩, 6), (⟨"BorderQuestions$Border", "clear", "()V"⟩, 4), (⟨"BorderQuestions$Reader", "goTo", "(I)V"⟩, 6), (⟨"BorderQuestions$Reader", "readClause", "()Z"⟩, 6)]
theorem lw_r2 : ∀ q ∈ lw_privs_2, lw_okq q := List.forall_mem_cons.mpr ⟨lw_p16, List.forall_mem_cons.mpr ⟨lw_p17, List.forall_mem_cons.mpr ⟨lw_p18, List.forall_mem_cons.mpr ⟨lw_p19, List.forall_mem_cons.mpr ⟨lw_p20, List.forall_mem_cons.mpr ⟨lw_p21, List.forall_mem_cons.mpr ⟨lw_p22, List.forall_mem_cons.mpr ⟨lw_p23, List.forall_mem_cons.mpr ⟨lw_p24, List.forall_mem_cons.mpr ⟨lw_p25, List.forall_mem_cons.mpr ⟨lw_p26, List.forall_mem_cons.mpr ⟨lw_p27, List.forall_mem_cons.mpr ⟨lw_p28, List.forall_mem_cons.mpr ⟨lw_p29, List.forall_mem_cons.mpr ⟨lw_p30, List.forall_mem_cons.mpr ⟨lw_p31, fun _ h => absurd h List.not_mem_nil⟩⟩⟩⟩⟩⟩⟩⟩⟩⟩⟩⟩⟩⟩⟩⟩
theorem lw_p32 : lw_okq (⟨"BorderQuestions$Reader", "readNumbered", "(Ljava/lang/String;)Z"⟩, 6) := ⟨⟨by decide +kernel, by decide +kernel⟩, List.mem_of_getElem? (i := 242) (by decide +kernel), List.mem_of_getElem? (i := 551) (by decide +kernel), List.mem_of_getElem? (i := 552) (by decide +kernel)⟩
theorem lw_p33 : lw_okq (⟨"BorderQuestions$Reader", "skip", "(I)Z"⟩, 6) := ⟨⟨by decide +kernel, by decide +kernel⟩, List.mem_of_getElem? (i := 242) (by decide +kernel), List.mem_of_getElem? (i := 603) (by decide +kernel), List.mem_of_getElem? (i := 604) (by decide +kernel)⟩
theorem lw_p34 : lw_okq (⟨"BorderQuestions$Reader", "readNumber", "()Z"⟩, 6) := ⟨⟨by decide +kernel, by decide +kernel⟩, List.mem_of_getElem? (i := 242) (by decide +kernel), List.mem_of_getElem? (i := 607) (by decide +kernel), List.mem_of_getElem? (i := 608) (by decide +kernel)⟩
theorem lw_p35 : lw_okq (⟨"BorderQuestions$Reader", "placeIn", "(Ljava/lang/String;)I"⟩, 6) := ⟨⟨by decide +kernel, by decide +kernel⟩, List.mem_of_getElem? (i := 242) (by decide +kernel), List.mem_of_getElem? (i := 612) (by decide +kernel), List.mem_of_getElem? (i := 613) (by decide +kernel)⟩
theorem lw_p36 : lw_okq (⟨"BorderQuestions$Reader", "readEither", "(I)Z"⟩, 6) := ⟨⟨by decide +kernel, by decide +kernel⟩, List.mem_of_getElem? (i := 242) (by decide +kernel), List.mem_of_getElem? (i := 616) (by decide +kernel), List.mem_of_getElem? (i := 617) (by decide +kernel)⟩
theorem lw_p37 : lw_okq (⟨"BorderQuestions$Reader", "readPart", "(I)Z"⟩, 6) := ⟨⟨by decide +kernel, by decide +kernel⟩, List.mem_of_getElem? (i := 242) (by decide +kernel), List.mem_of_getElem? (i := 620) (by decide +kernel), List.mem_of_getElem? (i := 621) (by decide +kernel)⟩
theorem lw_p38 : lw_okq (⟨"BorderQuestions$Reader", "readTest", "()Z"⟩, 6) := ⟨⟨by decide +kernel, by decide +kernel⟩, List.mem_of_getElem? (i := 242) (by decide +kernel), List.mem_of_getElem? (i := 624) (by decide +kernel), List.mem_of_getElem? (i := 625) (by decide +kernel)⟩
theorem lw_p39 : lw_okq (⟨"BorderQuestions$Border", "addTest", "(III)V"⟩, 4) := ⟨⟨by decide +kernel, by decide +kernel⟩, List.mem_of_getElem? (i := 190) (by decide +kernel), List.mem_of_getElem? (i := 630) (by decide +kernel), List.mem_of_getElem? (i := 631) (by decide +kernel)⟩
theorem lw_p40 : lw_okq (⟨"BorderQuestions$Border", "addCode", "(I)V"⟩, 4) := ⟨⟨by decide +kernel, by decide +kernel⟩, List.mem_of_getElem? (i := 190) (by decide +kernel), List.mem_of_getElem? (i := 634) (by decide +kernel), List.mem_of_getElem? (i := 635) (by decide +kernel)⟩
theorem lw_p41 : lw_okq (⟨"BorderQuestions$Border", "addWorth", "(I)V"⟩, 4) := ⟨⟨by decide +kernel, by decide +kernel⟩, List.mem_of_getElem? (i := 190) (by decide +kernel), List.mem_of_getElem? (i := 639) (by decide +kernel), List.mem_of_getElem? (i := 640) (by decide +kernel)⟩
theorem lw_p42 : lw_okq (⟨"BorderQuestions$Rules", "keepSpare", "()I"⟩, 2) := ⟨⟨by decide +kernel, by decide +kernel⟩, List.mem_of_getElem? (i := 183) (by decide +kernel), List.mem_of_getElem? (i := 643) (by decide +kernel), List.mem_of_getElem? (i := 644) (by decide +kernel)⟩
theorem lw_p43 : lw_okq (⟨"BorderQuestions$Yard", "rest", "()I"⟩, 9) := ⟨⟨by decide +kernel, by decide +kernel⟩, List.mem_of_getElem? (i := 31) (by decide +kernel), List.mem_of_getElem? (i := 651) (by decide +kernel), List.mem_of_getElem? (i := 652) (by decide +kernel)⟩
theorem lw_p44 : lw_okq (⟨"BorderQuestions$Yard", "goodsThrough", "()I"⟩, 9) := ⟨⟨by decide +kernel, by decide +kernel⟩, List.mem_of_getElem? (i := 31) (by decide +kernel), List.mem_of_getElem? (i := 655) (by decide +kernel), List.mem_of_getElem? (i := 656) (by decide +kernel)⟩
theorem lw_p45 : lw_okq (⟨"BorderQuestions$Yard", "finedCount", "()I"⟩, 9) := ⟨⟨by decide +kernel, by decide +kernel⟩, List.mem_of_getElem? (i := 31) (by decide +kernel), List.mem_of_getElem? (i := 660) (by decide +kernel), List.mem_of_getElem? (i := 661) (by decide +kernel)⟩
theorem lw_p46 : lw_okq (⟨"BorderQuestions$Yard", "waiting", "()I"⟩, 9) := ⟨⟨by decide +kernel, by decide +kernel⟩, List.mem_of_getElem? (i := 31) (by decide +kernel), List.mem_of_getElem? (i := 664) (by decide +kernel), List.mem_of_getElem? (i := 665) (by decide +kernel)⟩
theorem lw_p47 : lw_okq (⟨"BorderQuestions$Yard", "isWaiting", "(I)Z"⟩, 9) := ⟨⟨by decide +kernel, by decide +kernel⟩, List.mem_of_getElem? (i := 31) (by decide +kernel), List.mem_of_getElem? (i := 668) (by decide +kernel), List.mem_of_getElem? (i := 669) (by decide +kernel)⟩
def lw_privs_3 : List (MethodName × Nat) := [(⟨"BorderQuestions$Reader", "readNumbered", "(Ljava/lang/String;)Z"⟩, 6), (⟨"BorderQuestions$Reader", "skip", "(I)Z"⟩, 6), (⟨"BorderQuestions$Reader", "readNumber", "()Z"⟩, 6), (⟨"BorderQuestions$Reader", "placeIn", "(Ljava/lang/String;)I"⟩, 6), (⟨"BorderQuestions$Reader", "readEither", "(I)Z"⟩, 6), (⟨"BorderQuestions$Reader", "readPart", "(I)Z"⟩, 6), (⟨"BorderQuestions$Reader", "readTest", "()Z"⟩, 6), (⟨"BorderQuestions$Border", "addTest", "(III)V"⟩, 4), (⟨"BorderQuestions$Border", "addCode", "(I)V"⟩, 4), (⟨"BorderQuestions$Border", "addWorth", "(I)V"⟩, 4), (⟨"BorderQuestions$Rules", "keepSpare", "()I"⟩, 2), (⟨"BorderQuestions$Yard", "rest", "()I"⟩, 9), (⟨"BorderQuestions$Yard", "goodsThrough", "()I"⟩, 9), (⟨"BorderQuestions$Yard", "finedCount", "()I"⟩, 9), (⟨"BorderQuestions$Yard", "waiting", "()I"⟩, 9), (⟨"BorderQuestions$Yard", "isWaiting", "(I)Z"⟩, 9)]
theorem lw_r3 : ∀ q ∈ lw_privs_3, lw_okq q := List.forall_mem_cons.mpr ⟨lw_p32, List.forall_mem_cons.mpr ⟨lw_p33, List.forall_mem_cons.mpr ⟨lw_p34, List.forall_mem_cons.mpr ⟨lw_p35, List.forall_mem_cons.mpr ⟨lw_p36, List.forall_mem_cons.mpr ⟨lw_p37, List.forall_mem_cons.mpr ⟨lw_p38, List.forall_mem_cons.mpr ⟨lw_p39, List.forall_mem_cons.mpr ⟨lw_p40, List.forall_mem_cons.mpr ⟨lw_p41, List.forall_mem_cons.mpr ⟨lw_p42, List.forall_mem_cons.mpr ⟨lw_p43, List.forall_mem_cons.mpr ⟨lw_p44, List.forall_mem_cons.mpr ⟨lw_p45, List.forall_mem_cons.mpr ⟨lw_p46, List.forall_mem_cons.mpr ⟨lw_p47, fun _ h => absurd h List.not_mem_nil⟩⟩⟩⟩⟩⟩⟩⟩⟩⟩⟩⟩⟩⟩⟩⟩
theorem lw_p48 : lw_okq (⟨"BorderQuestions$Finder", "enough", "(LBorderQuestions$Yard;)I"⟩, 7) := ⟨⟨by decide +kernel, by decide +kernel⟩, List.mem_of_getElem? (i := 177) (by decide +kernel), List.mem_of_getElem? (i := 672) (by decide +kernel), List.mem_of_getElem? (i := 673) (by decide +kernel)⟩
theorem lw_p49 : lw_okq (⟨"BorderQuestions$Finder", "findAble", "(LBorderQuestions$Yard;)V"⟩, 7) := ⟨⟨by decide +kernel, by decide +kernel⟩, List.mem_of_getElem? (i := 177) (by decide +kernel), List.mem_of_getElem? (i := 676) (by decide +kernel), List.mem_of_getElem? (i := 677) (by decide +kernel)⟩
theorem lw_p50 : lw_okq (⟨"BorderQuestions$Finder", "answersAll", "(LBorderQuestions$Yard;I)Z"⟩, 7) := ⟨⟨by decide +kernel, by decide +kernel⟩, List.mem_of_getElem? (i := 177) (by decide +kernel), List.mem_of_getElem? (i := 681) (by decide +kernel), List.mem_of_getElem? (i := 682) (by decide +kernel)⟩
theorem lw_p51 : lw_okq (⟨"BorderQuestions$Finder", "loadGoods", "(LBorderQuestions$Yard;)I"⟩, 7) := ⟨⟨by decide +kernel, by decide +kernel⟩, List.mem_of_getElem? (i := 177) (by decide +kernel), List.mem_of_getElem? (i := 686) (by decide +kernel), List.mem_of_getElem? (i := 687) (by decide +kernel)⟩
theorem lw_p52 : lw_okq (⟨"BorderQuestions$Finder", "findMost", "(LBorderQuestions$Yard;)V"⟩, 7) := ⟨⟨by decide +kernel, by decide +kernel⟩, List.mem_of_getElem? (i := 177) (by decide +kernel), List.mem_of_getElem? (i := 690) (by decide +kernel), List.mem_of_getElem? (i := 691) (by decide +kernel)⟩
theorem lw_p53 : lw_okq (⟨"BorderQuestions$Finder", "mostFrom", "(II)I"⟩, 7) := ⟨⟨by decide +kernel, by decide +kernel⟩, List.mem_of_getElem? (i := 177) (by decide +kernel), List.mem_of_getElem? (i := 695) (by decide +kernel), List.mem_of_getElem? (i := 696) (by decide +kernel)⟩
theorem lw_p54 : lw_okq (⟨"BorderQuestions$Finder", "mostBy", "(LBorderQuestions$Yard;III)I"⟩, 7) := ⟨⟨by decide +kernel, by decide +kernel⟩, List.mem_of_getElem? (i := 177) (by decide +kernel), List.mem_of_getElem? (i := 699) (by decide +kernel), List.mem_of_getElem? (i := 700) (by decide +kernel)⟩
theorem lw_p55 : lw_okq (⟨"BorderQuestions$Finder", "loadGuard", "(LBorderQuestions$Yard;I)I"⟩, 7) := ⟨⟨by decide +kernel, by decide +kernel⟩, List.mem_of_getElem? (i := 177) (by decide +kernel), List.mem_of_getElem? (i := 704) (by decide +kernel), List.mem_of_getElem? (i := 705) (by decide +kernel)⟩
theorem lw_p56 : lw_okq (⟨"BorderQuestions$Finder", "firstBest", "(LBorderQuestions$Yard;II)I"⟩, 7) := ⟨⟨by decide +kernel, by decide +kernel⟩, List.mem_of_getElem? (i := 177) (by decide +kernel), List.mem_of_getElem? (i := 708) (by decide +kernel), List.mem_of_getElem? (i := 709) (by decide +kernel)⟩
theorem lw_p57 : lw_okq (⟨"BorderQuestions$Rules", "letPass", "(LBorderQuestions$Yard;I)V"⟩, 2) := ⟨⟨by decide +kernel, by decide +kernel⟩, List.mem_of_getElem? (i := 183) (by decide +kernel), List.mem_of_getElem? (i := 719) (by decide +kernel), List.mem_of_getElem? (i := 720) (by decide +kernel)⟩
theorem lw_p58 : lw_okq (⟨"BorderQuestions$Rules", "letHourPass", "(LBorderQuestions$Yard;)V"⟩, 2) := ⟨⟨by decide +kernel, by decide +kernel⟩, List.mem_of_getElem? (i := 183) (by decide +kernel), List.mem_of_getElem? (i := 723) (by decide +kernel), List.mem_of_getElem? (i := 724) (by decide +kernel)⟩
theorem lw_p59 : lw_okq (⟨"BorderQuestions$Yard", "copy", "(LBorderQuestions$Yard;)V"⟩, 9) := ⟨⟨by decide +kernel, by decide +kernel⟩, List.mem_of_getElem? (i := 31) (by decide +kernel), List.mem_of_getElem? (i := 734) (by decide +kernel), List.mem_of_getElem? (i := 735) (by decide +kernel)⟩
theorem lw_p60 : lw_okq (⟨"BorderQuestions$Guard", "copy", "(LBorderQuestions$Guard;)V"⟩, 5) := ⟨⟨by decide +kernel, by decide +kernel⟩, List.mem_of_getElem? (i := 65) (by decide +kernel), List.mem_of_getElem? (i := 738) (by decide +kernel), List.mem_of_getElem? (i := 739) (by decide +kernel)⟩
theorem lw_p61 : lw_okq (⟨"BorderQuestions$Question", "copy", "(LBorderQuestions$Question;)V"⟩, 4) := ⟨⟨by decide +kernel, by decide +kernel⟩, List.mem_of_getElem? (i := 102) (by decide +kernel), List.mem_of_getElem? (i := 745) (by decide +kernel), List.mem_of_getElem? (i := 746) (by decide +kernel)⟩
theorem lw_p62 : lw_okq (⟨"BorderQuestions$Rows", "copy", "(LBorderQuestions$Rows;)V"⟩, 3) := ⟨⟨by decide +kernel, by decide +kernel⟩, List.mem_of_getElem? (i := 41) (by decide +kernel), List.mem_of_getElem? (i := 749) (by decide +kernel), List.mem_of_getElem? (i := 750) (by decide +kernel)⟩
theorem lw_p63 : lw_okq (⟨"BorderQuestions", "onTried", "(I)I"⟩, 9) := ⟨⟨by decide +kernel, by decide +kernel⟩, List.mem_of_getElem? (i := 23) (by decide +kernel), List.mem_of_getElem? (i := 754) (by decide +kernel), List.mem_of_getElem? (i := 755) (by decide +kernel)⟩
def lw_privs_4 : List (MethodName × Nat) := [(⟨"BorderQuestions$Finder", "enough", "(LBorderQuestions$Yard;)I"⟩, 7), (⟨"BorderQuestions$Finder", "findAble", "(LBorderQuestions$Yard;)V"⟩, 7), (⟨"BorderQuestions$Finder", "answersAll", "(LBorderQuestions$Yard;I)Z"⟩, 7), (⟨"BorderQuestions$Finder", "loadGoods", "(LBorderQuestions$Yard;)I"⟩, 7), (⟨"BorderQuestions$Finder", "findMost", "(LBorderQuestions$Yard;)V"⟩, 7), (⟨"BorderQuestions$Finder", "mostFrom", "(II)I"⟩, 7), (⟨"BorderQuestions$Finder", "mostBy", "(LBorderQuestions$Yard;III)I"⟩, 7), (⟨"BorderQuestions$Finder", "loadGuard", "(LBorderQuestions$Yard;I)I"⟩, 7), (⟨"BorderQuestions$Finder", "firstBest", "(LBorderQuestions$Yard;II)I"⟩, 7), (⟨"BorderQuestions$Rules", "letPass", "(LBorderQuestions$Yard;I)V"⟩, 2), (⟨"BorderQuestions$Rules", "letHourPass", "(LBorderQuestions$Yard;)V"⟩, 2), (⟨"BorderQuestions$Yard", "copy", "(LBorderQuestions$Yard;)V"⟩, 9), (⟨"BorderQuestions$Guard", "copy", "(LBorderQuestions$Guard;)V"⟩, 5), (⟨"BorderQuestions$Question", "copy", "(LBorderQuestions$Question;)V"⟩, 4), (⟨"BorderQuestions$Rows", "copy", "(LBorderQuestions$Rows;)V"⟩, 3), (⟨"BorderQuestions", "onTried", "(I)I"⟩, 9)]
theorem lw_r4 : ∀ q ∈ lw_privs_4, lw_okq q := List.forall_mem_cons.mpr ⟨lw_p48, List.forall_mem_cons.mpr ⟨lw_p49, List.forall_mem_cons.mpr ⟨lw_p50, List.forall_mem_cons.mpr ⟨lw_p51, List.forall_mem_cons.mpr ⟨lw_p52, List.forall_mem_cons.mpr ⟨lw_p53, List.forall_mem_cons.mpr ⟨lw_p54, List.forall_mem_cons.mpr ⟨lw_p55, List.forall_mem_cons.mpr ⟨lw_p56, List.forall_mem_cons.mpr ⟨lw_p57, List.forall_mem_cons.mpr ⟨lw_p58, List.forall_mem_cons.mpr ⟨lw_p59, List.forall_mem_cons.mpr ⟨lw_p60, List.forall_mem_cons.mpr ⟨lw_p61, List.forall_mem_cons.mpr ⟨lw_p62, List.forall_mem_cons.mpr ⟨lw_p63, fun _ h => absurd h List.not_mem_nil⟩⟩⟩⟩⟩⟩⟩⟩⟩⟩⟩⟩⟩⟩⟩⟩
theorem lw_p64 : lw_okq (⟨"BorderQuestions$Rows", "empty", "()I"⟩, 3) := ⟨⟨by decide +kernel, by decide +kernel⟩, List.mem_of_getElem? (i := 41) (by decide +kernel), List.mem_of_getElem? (i := 762) (by decide +kernel), List.mem_of_getElem? (i := 763) (by decide +kernel)⟩
theorem lw_p65 : lw_okq (⟨"BorderQuestions$Rows", "add", "(III)I"⟩, 3) := ⟨⟨by decide +kernel, by decide +kernel⟩, List.mem_of_getElem? (i := 41) (by decide +kernel), List.mem_of_getElem? (i := 766) (by decide +kernel), List.mem_of_getElem? (i := 767) (by decide +kernel)⟩
theorem lw_p66 : lw_okq (⟨"BorderQuestions$Finder", "canCount", "(LBorderQuestions$Yard;I)I"⟩, 7) := ⟨⟨by decide +kernel, by decide +kernel⟩, List.mem_of_getElem? (i := 177) (by decide +kernel), List.mem_of_getElem? (i := 774) (by decide +kernel), List.mem_of_getElem? (i := 775) (by decide +kernel)⟩
theorem lw_p67 : lw_okq (⟨"BorderQuestions$Finder", "fitsWith", "(LBorderQuestions$Yard;II)Z"⟩, 7) := ⟨⟨by decide +kernel, by decide +kernel⟩, List.mem_of_getElem? (i := 177) (by decide +kernel), List.mem_of_getElem? (i := 778) (by decide +kernel), List.mem_of_getElem? (i := 779) (by decide +kernel)⟩
theorem lw_p68 : lw_okq (⟨"BorderQuestions$Finder", "canLeast", "(LBorderQuestions$Yard;I)I"⟩, 7) := ⟨⟨by decide +kernel, by decide +kernel⟩, List.mem_of_getElem? (i := 177) (by decide +kernel), List.mem_of_getElem? (i := 782) (by decide +kernel), List.mem_of_getElem? (i := 783) (by decide +kernel)⟩
theorem lw_p69 : lw_okq (⟨"BorderQuestions$Finder", "oddsAbove", "(LBorderQuestions$Yard;II)I"⟩, 7) := ⟨⟨by decide +kernel, by decide +kernel⟩, List.mem_of_getElem? (i := 177) (by decide +kernel), List.mem_of_getElem? (i := 794) (by decide +kernel), List.mem_of_getElem? (i := 795) (by decide +kernel)⟩
theorem lw_p70 : lw_okq (⟨"BorderQuestions$Yard", "knownCount", "()I"⟩, 9) := ⟨⟨by decide +kernel, by decide +kernel⟩, List.mem_of_getElem? (i := 31) (by decide +kernel), List.mem_of_getElem? (i := 806) (by decide +kernel), List.mem_of_getElem? (i := 807) (by decide +kernel)⟩
theorem lw_p71 : lw_okq (⟨"BorderQuestions", "isPlanned", "(II)Z"⟩, 9) := ⟨⟨by decide +kernel, by decide +kernel⟩, List.mem_of_getElem? (i := 23) (by decide +kernel), List.mem_of_getElem? (i := 816) (by decide +kernel), List.mem_of_getElem? (i := 817) (by decide +kernel)⟩
theorem lw_p72 : lw_okq (⟨"BorderQuestions$Rules", "carryOut", "(LBorderQuestions$Yard;II)V"⟩, 2) := ⟨⟨by decide +kernel, by decide +kernel⟩, List.mem_of_getElem? (i := 183) (by decide +kernel), List.mem_of_getElem? (i := 826) (by decide +kernel), List.mem_of_getElem? (i := 827) (by decide +kernel)⟩
theorem lw_p73 : lw_okq (⟨"BorderQuestions", "tapeAt", "(I)LBorderQuestions$Tape;"⟩, 9) := ⟨⟨by decide +kernel, by decide +kernel⟩, List.mem_of_getElem? (i := 23) (by decide +kernel), List.mem_of_getElem? (i := 842) (by decide +kernel), List.mem_of_getElem? (i := 843) (by decide +kernel)⟩
theorem lw_p74 : lw_okq (⟨"BorderQuestions$Tape", "holds", "()Z"⟩, 3) := ⟨⟨by decide +kernel, by decide +kernel⟩, List.mem_of_getElem? (i := 293) (by decide +kernel), List.mem_of_getElem? (i := 846) (by decide +kernel), List.mem_of_getElem? (i := 847) (by decide +kernel)⟩
theorem lw_p75 : lw_okq (⟨"BorderQuestions$Tape", "get", "(I)J"⟩, 3) := ⟨⟨by decide +kernel, by decide +kernel⟩, List.mem_of_getElem? (i := 293) (by decide +kernel), List.mem_of_getElem? (i := 850) (by decide +kernel), List.mem_of_getElem? (i := 851) (by decide +kernel)⟩
theorem lw_p76 : lw_okq (⟨"BorderQuestions$Tape", "hasPlace", "(I)Z"⟩, 3) := ⟨⟨by decide +kernel, by decide +kernel⟩, List.mem_of_getElem? (i := 293) (by decide +kernel), List.mem_of_getElem? (i := 854) (by decide +kernel), List.mem_of_getElem? (i := 855) (by decide +kernel)⟩
theorem lw_p77 : lw_okq (⟨"BorderQuestions$Acts", "forget", "()V"⟩, 5) := ⟨⟨by decide +kernel, by decide +kernel⟩, List.mem_of_getElem? (i := 269) (by decide +kernel), List.mem_of_getElem? (i := 870) (by decide +kernel), List.mem_of_getElem? (i := 871) (by decide +kernel)⟩
theorem lw_p78 : lw_okq (⟨"BorderQuestions$Acts", "start", "(LBorderQuestions$Guard;III)I"⟩, 5) := ⟨⟨by decide +kernel, by decide +kernel⟩, List.mem_of_getElem? (i := 269) (by decide +kernel), List.mem_of_getElem? (i := 874) (by decide +kernel), List.mem_of_getElem? (i := 875) (by decide +kernel)⟩
theorem lw_p79 : lw_okq (⟨"BorderQuestions$Acts", "perform", "(IIII)I"⟩, 5) := ⟨⟨by decide +kernel, by decide +kernel⟩, List.mem_of_getElem? (i := 269) (by decide +kernel), List.mem_of_getElem? (i := 878) (by decide +kernel), List.mem_of_getElem? (i := 879) (by decide +kernel)⟩
def lw_privs_5 : List (MethodName × Nat) := [(⟨"BorderQuestions$Rows", "empty", "()I"⟩, 3), (⟨"BorderQuestions$Rows", "add", "(III)I"⟩, 3), (⟨"BorderQuestions$Finder", "canCount", "(LBorderQuestions$Yard;I)I"⟩, 7), (⟨"BorderQuestions$Finder", "fitsWith", "(LBorderQuestions$Yard;II)Z"⟩, 7), (⟨"BorderQuestions$Finder", "canLeast", "(LBorderQuestions$Yard;I)I"⟩, 7), (⟨"BorderQuestions$Finder", "oddsAbove", "(LBorderQuestions$Yard;II)I"⟩, 7), (⟨"BorderQuestions$Yard", "knownCount", "()I"⟩, 9), (⟨"BorderQuestions", "isPlanned", "(II)Z"⟩, 9), (⟨"BorderQuestions$Rules", "carryOut", "(LBorderQuestions$Yard;II)V"⟩, 2), (⟨"BorderQuestions", "tapeAt", "(I)LBorderQuestions$Tape;"⟩, 9), (⟨"BorderQuestions$Tape", "holds", "()Z"⟩, 3), (⟨"BorderQuestions$Tape", "get", "(I)J"⟩, 3), (⟨"BorderQuestions$Tape", "hasPlace", "(I)Z"⟩, 3), (⟨"BorderQuestions$Acts", "forget", "()V"⟩, 5), (⟨"BorderQuestions$Acts", "start", "(LBorderQuestions$Guard;III)I"⟩, 5), (⟨"BorderQuestions$Acts", "perform", "(IIII)I"⟩, 5)]
theorem lw_r5 : ∀ q ∈ lw_privs_5, lw_okq q := List.forall_mem_cons.mpr ⟨lw_p64, List.forall_mem_cons.mpr ⟨lw_p65, List.forall_mem_cons.mpr ⟨lw_p66, List.forall_mem_cons.mpr ⟨lw_p67, List.forall_mem_cons.mpr ⟨lw_p68, List.forall_mem_cons.mpr ⟨lw_p69, List.forall_mem_cons.mpr ⟨lw_p70, List.forall_mem_cons.mpr ⟨lw_p71, List.forall_mem_cons.mpr ⟨lw_p72, List.forall_mem_cons.mpr ⟨lw_p73, List.forall_mem_cons.mpr ⟨lw_p74, List.forall_mem_cons.mpr ⟨lw_p75, List.forall_mem_cons.mpr ⟨lw_p76, List.forall_mem_cons.mpr ⟨lw_p77, List.forall_mem_cons.mpr ⟨lw_p78, List.forall_mem_cons.mpr ⟨lw_p79, fun _ h => absurd h List.not_mem_nil⟩⟩⟩⟩⟩⟩⟩⟩⟩⟩⟩⟩⟩⟩⟩⟩
theorem lw_p80 : lw_okq (⟨"BorderQuestions$Acts", "note", "(I)V"⟩, 5) := ⟨⟨by decide +kernel, by decide +kernel⟩, List.mem_of_getElem? (i := 269) (by decide +kernel), List.mem_of_getElem? (i := 892) (by decide +kernel), List.mem_of_getElem? (i := 893) (by decide +kernel)⟩
theorem lw_p81 : lw_okq (⟨"BorderQuestions$Acts", "run", "(III)I"⟩, 5) := ⟨⟨by decide +kernel, by decide +kernel⟩, List.mem_of_getElem? (i := 269) (by decide +kernel), List.mem_of_getElem? (i := 896) (by decide +kernel), List.mem_of_getElem? (i := 897) (by decide +kernel)⟩
theorem lw_p82 : lw_okq (⟨"BorderQuestions$Acts", "bodyAt", "(I)I"⟩, 5) := ⟨⟨by decide +kernel, by decide +kernel⟩, List.mem_of_getElem? (i := 269) (by decide +kernel), List.mem_of_getElem? (i := 904) (by decide +kernel), List.mem_of_getElem? (i := 905) (by decide +kernel)⟩
theorem lw_p83 : lw_okq (⟨"BorderQuestions$Tape", "become", "(II)V"⟩, 3) := ⟨⟨by decide +kernel, by decide +kernel⟩, List.mem_of_getElem? (i := 293) (by decide +kernel), List.mem_of_getElem? (i := 923) (by decide +kernel), List.mem_of_getElem? (i := 924) (by decide +kernel)⟩
theorem lw_p84 : lw_okq (⟨"BorderQuestions$Tape", "put", "(IJ)V"⟩, 3) := ⟨⟨by decide +kernel, by decide +kernel⟩, List.mem_of_getElem? (i := 293) (by decide +kernel), List.mem_of_getElem? (i := 937) (by decide +kernel), List.mem_of_getElem? (i := 938) (by decide +kernel)⟩
theorem lw_p85 : lw_okq (⟨"BorderQuestions$Tape", "cut", "(J)J"⟩, 3) := ⟨⟨by decide +kernel, by decide +kernel⟩, List.mem_of_getElem? (i := 293) (by decide +kernel), List.mem_of_getElem? (i := 941) (by decide +kernel), List.mem_of_getElem? (i := 942) (by decide +kernel)⟩
theorem lw_p86 : lw_okq (⟨"BorderQuestions$Tape", "hasRun", "(II)Z"⟩, 3) := ⟨⟨by decide +kernel, by decide +kernel⟩, List.mem_of_getElem? (i := 293) (by decide +kernel), List.mem_of_getElem? (i := 953) (by decide +kernel), List.mem_of_getElem? (i := 954) (by decide +kernel)⟩
theorem lw_p87 : lw_okq (⟨"BorderQuestionsModel", "isOne", "(I)Z"⟩, 49) := ⟨⟨by decide +kernel, by decide +kernel⟩, List.mem_of_getElem? (i := 958) (by decide +kernel), List.mem_of_getElem? (i := 1127) (by decide +kernel), List.mem_of_getElem? (i := 1128) (by decide +kernel)⟩
theorem lw_p88 : lw_okq (⟨"BorderQuestionsModel", "isAsked", "(I)Z"⟩, 49) := ⟨⟨by decide +kernel, by decide +kernel⟩, List.mem_of_getElem? (i := 958) (by decide +kernel), List.mem_of_getElem? (i := 1131) (by decide +kernel), List.mem_of_getElem? (i := 1132) (by decide +kernel)⟩
theorem lw_p89 : lw_okq (⟨"BorderQuestionsModel", "wit", "(II)I"⟩, 49) := ⟨⟨by decide +kernel, by decide +kernel⟩, List.mem_of_getElem? (i := 958) (by decide +kernel), List.mem_of_getElem? (i := 1135) (by decide +kernel), List.mem_of_getElem? (i := 1136) (by decide +kernel)⟩
theorem lw_p90 : lw_okq (⟨"BorderQuestionsModel", "sum", "(II)I"⟩, 49) := ⟨⟨by decide +kernel, by decide +kernel⟩, List.mem_of_getElem? (i := 958) (by decide +kernel), List.mem_of_getElem? (i := 1139) (by decide +kernel), List.mem_of_getElem? (i := 1140) (by decide +kernel)⟩
theorem lw_p91 : lw_okq (⟨"BorderQuestionsModel", "isTrue", "(III)Z"⟩, 49) := ⟨⟨by decide +kernel, by decide +kernel⟩, List.mem_of_getElem? (i := 958) (by decide +kernel), List.mem_of_getElem? (i := 1144) (by decide +kernel), List.mem_of_getElem? (i := 1145) (by decide +kernel)⟩
theorem lw_p92 : lw_okq (⟨"BorderQuestionsModel", "letterOf", "(III)I"⟩, 49) := ⟨⟨by decide +kernel, by decide +kernel⟩, List.mem_of_getElem? (i := 958) (by decide +kernel), List.mem_of_getElem? (i := 1148) (by decide +kernel), List.mem_of_getElem? (i := 1149) (by decide +kernel)⟩
theorem lw_p93 : lw_okq (⟨"BorderQuestionsModel", "study", "(II)I"⟩, 49) := ⟨⟨by decide +kernel, by decide +kernel⟩, List.mem_of_getElem? (i := 958) (by decide +kernel), List.mem_of_getElem? (i := 1152) (by decide +kernel), List.mem_of_getElem? (i := 1153) (by decide +kernel)⟩
theorem lw_p94 : lw_okq (⟨"BorderQuestionsModel", "answers", "(II)Z"⟩, 49) := ⟨⟨by decide +kernel, by decide +kernel⟩, List.mem_of_getElem? (i := 958) (by decide +kernel), List.mem_of_getElem? (i := 1156) (by decide +kernel), List.mem_of_getElem? (i := 1157) (by decide +kernel)⟩
theorem lw_p95 : lw_okq (⟨"BorderQuestionsModel", "stumps", "(I)I"⟩, 49) := ⟨⟨by decide +kernel, by decide +kernel⟩, List.mem_of_getElem? (i := 958) (by decide +kernel), List.mem_of_getElem? (i := 1160) (by decide +kernel), List.mem_of_getElem? (i := 1161) (by decide +kernel)⟩
def lw_privs_6 : List (MethodName × Nat) := [(⟨"BorderQuestions$Acts", "note", "(I)V"⟩, 5), (⟨"BorderQuestions$Acts", "run", "(III)I"⟩, 5), (⟨"BorderQuestions$Acts", "bodyAt", "(I)I"⟩, 5), (⟨"BorderQuestions$Tape", "become", "(II)V"⟩, 3), (⟨"BorderQuestions$Tape", "put", "(IJ)V"⟩, 3), (⟨"BorderQuestions$Tape", "cut", "(J)J"⟩, 3), (⟨"BorderQuestions$Tape", "hasRun", "(II)Z"⟩, 3), (⟨"BorderQuestionsModel", "isOne", "(I)Z"⟩, 49), (⟨"BorderQuestionsModel", "isAsked", "(I)Z"⟩, 49), (⟨"BorderQuestionsModel", "wit", "(II)I"⟩, 49), (⟨"BorderQuestionsModel", "sum", "(II)I"⟩, 49), (⟨"BorderQuestionsModel", "isTrue", "(III)Z"⟩, 49), (⟨"BorderQuestionsModel", "letterOf", "(III)I"⟩, 49), (⟨"BorderQuestionsModel", "study", "(II)I"⟩, 49), (⟨"BorderQuestionsModel", "answers", "(II)Z"⟩, 49), (⟨"BorderQuestionsModel", "stumps", "(I)I"⟩, 49)]
theorem lw_r6 : ∀ q ∈ lw_privs_6, lw_okq q := List.forall_mem_cons.mpr ⟨lw_p80, List.forall_mem_cons.mpr ⟨lw_p81, List.forall_mem_cons.mpr ⟨lw_p82, List.forall_mem_cons.mpr ⟨lw_p83, List.forall_mem_cons.mpr ⟨lw_p84, List.forall_mem_cons.mpr ⟨lw_p85, List.forall_mem_cons.mpr ⟨lw_p86, List.forall_mem_cons.mpr ⟨lw_p87, List.forall_mem_cons.mpr ⟨lw_p88, List.forall_mem_cons.mpr ⟨lw_p89, List.forall_mem_cons.mpr ⟨lw_p90, List.forall_mem_cons.mpr ⟨lw_p91, List.forall_mem_cons.mpr ⟨lw_p92, List.forall_mem_cons.mpr ⟨lw_p93, List.forall_mem_cons.mpr ⟨lw_p94, List.forall_mem_cons.mpr ⟨lw_p95, fun _ h => absurd h List.not_mem_nil⟩⟩⟩⟩⟩⟩⟩⟩⟩⟩⟩⟩⟩⟩⟩⟩
theorem lw_p96 : lw_okq (⟨"BorderQuestionsModel", "knew", "(II)I"⟩, 49) := ⟨⟨by decide +kernel, by decide +kernel⟩, List.mem_of_getElem? (i := 958) (by decide +kernel), List.mem_of_getElem? (i := 1164) (by decide +kernel), List.mem_of_getElem? (i := 1165) (by decide +kernel)⟩
theorem lw_p97 : lw_okq (⟨"BorderQuestionsModel", "isHeard", "(I)Z"⟩, 49) := ⟨⟨by decide +kernel, by decide +kernel⟩, List.mem_of_getElem? (i := 958) (by decide +kernel), List.mem_of_getElem? (i := 1168) (by decide +kernel), List.mem_of_getElem? (i := 1169) (by decide +kernel)⟩
theorem lw_p98 : lw_okq (⟨"BorderQuestionsModel", "asks", "(II)V"⟩, 49) := ⟨⟨by decide +kernel, by decide +kernel⟩, List.mem_of_getElem? (i := 958) (by decide +kernel), List.mem_of_getElem? (i := 1196) (by decide +kernel), List.mem_of_getElem? (i := 1197) (by decide +kernel)⟩
theorem lw_p99 : lw_okq (⟨"BorderQuestionsModel", "isClause", "(I)Z"⟩, 49) := ⟨⟨by decide +kernel, by decide +kernel⟩, List.mem_of_getElem? (i := 958) (by decide +kernel), List.mem_of_getElem? (i := 1217) (by decide +kernel), List.mem_of_getElem? (i := 1218) (by decide +kernel)⟩
theorem lw_p100 : lw_okq (⟨"BorderQuestionsModel", "isAll", "(Ljava/lang/String;)Z"⟩, 49) := ⟨⟨by decide +kernel, by decide +kernel⟩, List.mem_of_getElem? (i := 958) (by decide +kernel), List.mem_of_getElem? (i := 1222) (by decide +kernel), List.mem_of_getElem? (i := 1223) (by decide +kernel)⟩
theorem lw_p101 : lw_okq (⟨"BorderQuestionsModel", "is", "(I)Z"⟩, 49) := ⟨⟨by decide +kernel, by decide +kernel⟩, List.mem_of_getElem? (i := 958) (by decide +kernel), List.mem_of_getElem? (i := 1228) (by decide +kernel), List.mem_of_getElem? (i := 1229) (by decide +kernel)⟩
theorem lw_p102 : lw_okq (⟨"BorderQuestionsModel", "isNumber", "()Z"⟩, 49) := ⟨⟨by decide +kernel, by decide +kernel⟩, List.mem_of_getElem? (i := 958) (by decide +kernel), List.mem_of_getElem? (i := 1234) (by decide +kernel), List.mem_of_getElem? (i := 1235) (by decide +kernel)⟩
theorem lw_p103 : lw_okq (⟨"BorderQuestionsModel", "isDigit", "()Z"⟩, 49) := ⟨⟨by decide +kernel, by decide +kernel⟩, List.mem_of_getElem? (i := 958) (by decide +kernel), List.mem_of_getElem? (i := 1238) (by decide +kernel), List.mem_of_getElem? (i := 1239) (by decide +kernel)⟩
theorem lw_p104 : lw_okq (⟨"BorderQuestionsModel", "isE", "()Z"⟩, 49) := ⟨⟨by decide +kernel, by decide +kernel⟩, List.mem_of_getElem? (i := 958) (by decide +kernel), List.mem_of_getElem? (i := 1242) (by decide +kernel), List.mem_of_getElem? (i := 1243) (by decide +kernel)⟩
theorem lw_p105 : lw_okq (⟨"BorderQuestionsModel", "isT", "()Z"⟩, 49) := ⟨⟨by decide +kernel, by decide +kernel⟩, List.mem_of_getElem? (i := 958) (by decide +kernel), List.mem_of_getElem? (i := 1246) (by decide +kernel), List.mem_of_getElem? (i := 1247) (by decide +kernel)⟩
theorem lw_p106 : lw_okq (⟨"BorderQuestionsModel", "isF", "()Z"⟩, 49) := ⟨⟨by decide +kernel, by decide +kernel⟩, List.mem_of_getElem? (i := 958) (by decide +kernel), List.mem_of_getElem? (i := 1250) (by decide +kernel), List.mem_of_getElem? (i := 1251) (by decide +kernel)⟩
theorem lw_p107 : lw_okq (⟨"BorderQuestionsModel", "isOpened", "(I)Z"⟩, 49) := ⟨⟨by decide +kernel, by decide +kernel⟩, List.mem_of_getElem? (i := 958) (by decide +kernel), List.mem_of_getElem? (i := 1254) (by decide +kernel), List.mem_of_getElem? (i := 1255) (by decide +kernel)⟩
theorem lw_p108 : lw_okq (⟨"BorderQuestionsModel", "codes", "(I)Z"⟩, 49) := ⟨⟨by decide +kernel, by decide +kernel⟩, List.mem_of_getElem? (i := 958) (by decide +kernel), List.mem_of_getElem? (i := 1258) (by decide +kernel), List.mem_of_getElem? (i := 1259) (by decide +kernel)⟩
theorem lw_p109 : lw_okq (⟨"BorderQuestionsModel", "isTest", "()Z"⟩, 49) := ⟨⟨by decide +kernel, by decide +kernel⟩, List.mem_of_getElem? (i := 958) (by decide +kernel), List.mem_of_getElem? (i := 1262) (by decide +kernel), List.mem_of_getElem? (i := 1263) (by decide +kernel)⟩
theorem lw_p110 : lw_okq (⟨"BorderQuestionsModel", "loaded", "(I)I"⟩, 49) := ⟨⟨by decide +kernel, by decide +kernel⟩, List.mem_of_getElem? (i := 958) (by decide +kernel), List.mem_of_getElem? (i := 1327) (by decide +kernel), List.mem_of_getElem? (i := 1328) (by decide +kernel)⟩
theorem lw_p111 : lw_okq (⟨"BorderQuestionsModel", "loads", "()V"⟩, 49) := ⟨⟨by decide +kernel, by decide +kernel⟩, List.mem_of_getElem? (i := 958) (by decide +kernel), List.mem_of_getElem? (i := 1331) (by decide +kernel), List.mem_of_getElem? (i := 1332) (by decide +kernel)⟩
def lw_privs_7 : List (MethodName × Nat) := [(⟨"BorderQuestionsModel", "knew", "(II)I"⟩, 49), (⟨"BorderQuestionsModel", "isHeard", "(I)Z"⟩, 49), (⟨"BorderQuestionsModel", "asks", "(II)V"⟩, 49), (⟨"BorderQuestionsModel", "isClause", "(I)Z"⟩, 49), (⟨"BorderQuestionsModel", "isAll", "(Ljava/lang/String;)Z"⟩, 49), (⟨"BorderQuestionsModel", "is", "(I)Z"⟩, 49), (⟨"BorderQuestionsModel", "isNumber", "()Z"⟩, 49), (⟨"BorderQuestionsModel", "isDigit", "()Z"⟩, 49), (⟨"BorderQuestionsModel", "isE", "()Z"⟩, 49), (⟨"BorderQuestionsModel", "isT", "()Z"⟩, 49), (⟨"BorderQuestionsModel", "isF", "()Z"⟩, 49), (⟨"BorderQuestionsModel", "isOpened", "(I)Z"⟩, 49), (⟨"BorderQuestionsModel", "codes", "(I)Z"⟩, 49), (⟨"BorderQuestionsModel", "isTest", "()Z"⟩, 49), (⟨"BorderQuestionsModel", "loaded", "(I)I"⟩, 49), (⟨"BorderQuestionsModel", "loads", "()V"⟩, 49)]
theorem lw_r7 : ∀ q ∈ lw_privs_7, lw_okq q := List.forall_mem_cons.mpr ⟨lw_p96, List.forall_mem_cons.mpr ⟨lw_p97, List.forall_mem_cons.mpr ⟨lw_p98, List.forall_mem_cons.mpr ⟨lw_p99, List.forall_mem_cons.mpr ⟨lw_p100, List.forall_mem_cons.mpr ⟨lw_p101, List.forall_mem_cons.mpr ⟨lw_p102, List.forall_mem_cons.mpr ⟨lw_p103, List.forall_mem_cons.mpr ⟨lw_p104, List.forall_mem_cons.mpr ⟨lw_p105, List.forall_mem_cons.mpr ⟨lw_p106, List.forall_mem_cons.mpr ⟨lw_p107, List.forall_mem_cons.mpr ⟨lw_p108, List.forall_mem_cons.mpr ⟨lw_p109, List.forall_mem_cons.mpr ⟨lw_p110, List.forall_mem_cons.mpr ⟨lw_p111, fun _ h => absurd h List.not_mem_nil⟩⟩⟩⟩⟩⟩⟩⟩⟩⟩⟩⟩⟩⟩⟩⟩
theorem lw_p112 : lw_okq (⟨"BorderQuestionsModel", "tries", "(III)V"⟩, 49) := ⟨⟨by decide +kernel, by decide +kernel⟩, List.mem_of_getElem? (i := 958) (by decide +kernel), List.mem_of_getElem? (i := 1335) (by decide +kernel), List.mem_of_getElem? (i := 1336) (by decide +kernel)⟩
theorem lw_p113 : lw_okq (⟨"BorderQuestionsModel", "restBy", "()I"⟩, 49) := ⟨⟨by decide +kernel, by decide +kernel⟩, List.mem_of_getElem? (i := 958) (by decide +kernel), List.mem_of_getElem? (i := 1339) (by decide +kernel), List.mem_of_getElem? (i := 1340) (by decide +kernel)⟩
theorem lw_p114 : lw_okq (⟨"BorderQuestionsModel", "through", "()I"⟩, 49) := ⟨⟨by decide +kernel, by decide +kernel⟩, List.mem_of_getElem? (i := 958) (by decide +kernel), List.mem_of_getElem? (i := 1343) (by decide +kernel), List.mem_of_getElem? (i := 1344) (by decide +kernel)⟩
theorem lw_p115 : lw_okq (⟨"BorderQuestionsModel", "areSo", "(I)I"⟩, 49) := ⟨⟨by decide +kernel, by decide +kernel⟩, List.mem_of_getElem? (i := 958) (by decide +kernel), List.mem_of_getElem? (i := 1347) (by decide +kernel), List.mem_of_getElem? (i := 1348) (by decide +kernel)⟩
theorem lw_p116 : lw_okq (⟨"BorderQuestionsModel", "enough", "()I"⟩, 49) := ⟨⟨by decide +kernel, by decide +kernel⟩, List.mem_of_getElem? (i := 958) (by decide +kernel), List.mem_of_getElem? (i := 1351) (by decide +kernel), List.mem_of_getElem? (i := 1352) (by decide +kernel)⟩
theorem lw_p117 : lw_okq (⟨"BorderQuestionsModel", "goesHour", "()V"⟩, 49) := ⟨⟨by decide +kernel, by decide +kernel⟩, List.mem_of_getElem? (i := 958) (by decide +kernel), List.mem_of_getElem? (i := 1359) (by decide +kernel), List.mem_of_getElem? (i := 1360) (by decide +kernel)⟩
theorem lw_p118 : lw_okq (⟨"BorderQuestionsModel", "keep", "([I)V"⟩, 49) := ⟨⟨by decide +kernel, by decide +kernel⟩, List.mem_of_getElem? (i := 958) (by decide +kernel), List.mem_of_getElem? (i := 1368) (by decide +kernel), List.mem_of_getElem? (i := 1369) (by decide +kernel)⟩
theorem lw_p119 : lw_okq (⟨"BorderQuestionsModel", "again", "([I)V"⟩, 49) := ⟨⟨by decide +kernel, by decide +kernel⟩, List.mem_of_getElem? (i := 958) (by decide +kernel), List.mem_of_getElem? (i := 1372) (by decide +kernel), List.mem_of_getElem? (i := 1373) (by decide +kernel)⟩
theorem lw_p120 : lw_okq (⟨"BorderQuestionsModel", "listens", "(III)I"⟩, 49) := ⟨⟨by decide +kernel, by decide +kernel⟩, List.mem_of_getElem? (i := 958) (by decide +kernel), List.mem_of_getElem? (i := 1429) (by decide +kernel), List.mem_of_getElem? (i := 1430) (by decide +kernel)⟩
theorem lw_p121 : lw_okq (⟨"BorderQuestionsModel", "ran", "(I)V"⟩, 49) := ⟨⟨by decide +kernel, by decide +kernel⟩, List.mem_of_getElem? (i := 958) (by decide +kernel), List.mem_of_getElem? (i := 1433) (by decide +kernel), List.mem_of_getElem? (i := 1434) (by decide +kernel)⟩
theorem lw_p122 : lw_okq (⟨"BorderQuestionsModel", "nods", "(III)I"⟩, 49) := ⟨⟨by decide +kernel, by decide +kernel⟩, List.mem_of_getElem? (i := 958) (by decide +kernel), List.mem_of_getElem? (i := 1440) (by decide +kernel), List.mem_of_getElem? (i := 1441) (by decide +kernel)⟩
theorem lw_p123 : lw_okq (⟨"BorderQuestionsModel", "tells", "(III)I"⟩, 49) := ⟨⟨by decide +kernel, by decide +kernel⟩, List.mem_of_getElem? (i := 958) (by decide +kernel), List.mem_of_getElem? (i := 1444) (by decide +kernel), List.mem_of_getElem? (i := 1445) (by decide +kernel)⟩
def lw_privs_8 : List (MethodName × Nat) := [(⟨"BorderQuestionsModel", "tries", "(III)V"⟩, 49), (⟨"BorderQuestionsModel", "restBy", "()I"⟩, 49), (⟨"BorderQuestionsModel", "through", "()I"⟩, 49), (⟨"BorderQuestionsModel", "areSo", "(I)I"⟩, 49), (⟨"BorderQuestionsModel", "enough", "()I"⟩, 49), (⟨"BorderQuestionsModel", "goesHour", "()V"⟩, 49), (⟨"BorderQuestionsModel", "keep", "([I)V"⟩, 49), (⟨"BorderQuestionsModel", "again", "([I)V"⟩, 49), (⟨"BorderQuestionsModel", "listens", "(III)I"⟩, 49), (⟨"BorderQuestionsModel", "ran", "(I)V"⟩, 49), (⟨"BorderQuestionsModel", "nods", "(III)I"⟩, 49), (⟨"BorderQuestionsModel", "tells", "(III)I"⟩, 49)]
theorem lw_r8 : ∀ q ∈ lw_privs_8, lw_okq q := List.forall_mem_cons.mpr ⟨lw_p112, List.forall_mem_cons.mpr ⟨lw_p113, List.forall_mem_cons.mpr ⟨lw_p114, List.forall_mem_cons.mpr ⟨lw_p115, List.forall_mem_cons.mpr ⟨lw_p116, List.forall_mem_cons.mpr ⟨lw_p117, List.forall_mem_cons.mpr ⟨lw_p118, List.forall_mem_cons.mpr ⟨lw_p119, List.forall_mem_cons.mpr ⟨lw_p120, List.forall_mem_cons.mpr ⟨lw_p121, List.forall_mem_cons.mpr ⟨lw_p122, List.forall_mem_cons.mpr ⟨lw_p123, fun _ h => absurd h List.not_mem_nil⟩⟩⟩⟩⟩⟩⟩⟩⟩⟩⟩⟩
def lw_privs : List (MethodName × Nat) := lw_privs_1 ++ (lw_privs_2 ++ (lw_privs_3 ++ (lw_privs_4 ++ (lw_privs_5 ++ (lw_privs_6 ++ (lw_privs_7 ++ (lw_privs_8)))))))
def lw_tbl : List Cond := k2_sels lw_privs ++ tables_1
theorem lw_privs_ok : ∀ q ∈ lw_privs, lw_okq q := by
  show ∀ q ∈ lw_privs_1 ++ (lw_privs_2 ++ (lw_privs_3 ++ (lw_privs_4 ++ (lw_privs_5 ++ (lw_privs_6 ++ (lw_privs_7 ++ (lw_privs_8))))))), lw_okq q
  exact List.forall_mem_append.mpr ⟨lw_r1, List.forall_mem_append.mpr ⟨lw_r2, List.forall_mem_append.mpr ⟨lw_r3, List.forall_mem_append.mpr ⟨lw_r4, List.forall_mem_append.mpr ⟨lw_r5, List.forall_mem_append.mpr ⟨lw_r6, List.forall_mem_append.mpr ⟨lw_r7, lw_r8⟩⟩⟩⟩⟩⟩⟩
def RX0 : String := "BorderQuestions$Acts"
def TX0 : u_T := fun k => match k with
  | 0 => ("BorderQuestions$Acts", "trace", "[I", true)
  | 1 => ("BorderQuestions$Acts", "ran", "I", false)
  | 2 => ("BorderQuestions$Acts", "self", "I", false)
  | 3 => ("BorderQuestions$Acts", "v", "I", false)
  | _ => ("BorderQuestions$Acts", "i", "I", false)
def tyX0 : Nat → FieldType := fun k => match k with
  | 0 => .array .int
  | 1 => .int
  | 2 => .int
  | 3 => .int
  | _ => .int
theorem nmX0 : ∀ a, a < 5 → ∀ b, b < 5 → a ≠ b → (TX0 a).2.1 ≠ (TX0 b).2.1 := by decide +kernel
theorem tyX0_ok : ∀ k, k < 5 → parseFieldDescriptor (TX0 k).2.2.1 = some (tyX0 k) := by decide +kernel
abbrev cX0_init : ByteArray := prog_2_method_1_code
def yX0_init : MethodName := ⟨RX0, "<init>", "()V"⟩
abbrev cX0_above : ByteArray := prog_2_method_2_code
def yX0_above : MethodName := ⟨RX0, "above", "(I)I"⟩
abbrev cX0_isUnder : ByteArray := prog_2_method_3_code
def yX0_isUnder : MethodName := ⟨RX0, "isUnder", "(II)Z"⟩
abbrev cX0_forget : ByteArray := prog_2_method_4_code
def yX0_forget : MethodName := ⟨RX0, "forget", "()V"⟩
abbrev cX0_bodyAt : ByteArray := prog_2_method_5_code
def yX0_bodyAt : MethodName := ⟨RX0, "bodyAt", "(I)I"⟩
abbrev cX0_start : ByteArray := prog_2_method_6_code
def yX0_start : MethodName := ⟨RX0, "start", "(LBorderQuestions$Guard;III)I"⟩
abbrev cX0_note : ByteArray := prog_2_method_7_code
def yX0_note : MethodName := ⟨RX0, "note", "(I)V"⟩
abbrev cX0_bodyFrom : ByteArray := prog_2_method_8_code
def yX0_bodyFrom : MethodName := ⟨RX0, "bodyFrom", "(II)I"⟩
abbrev cX0_perform : ByteArray := prog_2_method_9_code
def yX0_perform : MethodName := ⟨RX0, "perform", "(IIII)I"⟩
abbrev cX0_run : ByteArray := prog_2_method_10_code
def yX0_run : MethodName := ⟨RX0, "run", "(III)I"⟩
def RX1 : String := "BorderQuestions$Border"
def TX1 : u_T := fun k => match k with
  | 0 => ("BorderQuestions$Border", "codes", "[I", true)
  | 1 => ("BorderQuestions$Border", "facts", "[I", true)
  | 2 => ("BorderQuestions$Border", "codeCount", "I", false)
  | _ => ("BorderQuestions$Border", "rest", "I", false)
def tyX1 : Nat → FieldType := fun k => match k with
  | 0 => .array .int
  | 1 => .array .int
  | 2 => .int
  | _ => .int
theorem nmX1 : ∀ a, a < 4 → ∀ b, b < 4 → a ≠ b → (TX1 a).2.1 ≠ (TX1 b).2.1 := by decide +kernel
theorem tyX1_ok : ∀ k, k < 4 → parseFieldDescriptor (TX1 k).2.2.1 = some (tyX1 k) := by decide +kernel
abbrev cX1_init : ByteArray := prog_3_method_1_code
def yX1_init : MethodName := ⟨RX1, "<init>", "()V"⟩
abbrev cX1_clear : ByteArray := prog_3_method_2_code
def yX1_clear : MethodName := ⟨RX1, "clear", "()V"⟩
abbrev cX1_addCode : ByteArray := prog_3_method_3_code
def yX1_addCode : MethodName := ⟨RX1, "addCode", "(I)V"⟩
abbrev cX1_addTest : ByteArray := prog_3_method_4_code
def yX1_addTest : MethodName := ⟨RX1, "addTest", "(III)V"⟩
abbrev cX1_addWorth : ByteArray := prog_3_method_5_code
def yX1_addWorth : MethodName := ⟨RX1, "addWorth", "(I)V"⟩
abbrev cX1_bonus : ByteArray := prog_3_method_6_code
def yX1_bonus : MethodName := ⟨RX1, "bonus", "(LBorderQuestions$Guard;IIII)I"⟩
abbrev cX1_testHolds : ByteArray := prog_3_method_7_code
def yX1_testHolds : MethodName := ⟨RX1, "testHolds", "(I)Z"⟩
def RX2 : String := "BorderQuestions$Finder"
def TX2 : u_T := fun k => match k with
  | 0 => ("BorderQuestions$Finder", "rules", "LBorderQuestions$Rules;", true)
  | 1 => ("BorderQuestions$Finder", "able", "[I", true)
  | 2 => ("BorderQuestions$Finder", "most", "[I", true)
  | 3 => ("BorderQuestions$Finder", "stumped", "[I", true)
  | 4 => ("BorderQuestions$Finder", "rowMatters", "[I", true)
  | 5 => ("BorderQuestions$Finder", "rowFits", "[I", true)
  | _ => ("BorderQuestions$Finder", "rowCount", "I", false)
def tyX2 : Nat → FieldType := fun k => match k with
  | 0 => .object "BorderQuestions$Rules"
  | 1 => .array .int
  | 2 => .array .int
  | 3 => .array .int
  | 4 => .array .int
  | 5 => .array .int
  | _ => .int
theorem nmX2 : ∀ a, a < 7 → ∀ b, b < 7 → a ≠ b → (TX2 a).2.1 ≠ (TX2 b).2.1 := by decide +kernel
theorem tyX2_ok : ∀ k, k < 7 → parseFieldDescriptor (TX2 k).2.2.1 = some (tyX2 k) := by decide +kernel
abbrev cX2_init : ByteArray := prog_4_method_1_code
def yX2_init : MethodName := ⟨RX2, "<init>", "()V"⟩
abbrev cX2_findAble : ByteArray := prog_4_method_2_code
def yX2_findAble : MethodName := ⟨RX2, "findAble", "(LBorderQuestions$Yard;)V"⟩
abbrev cX2_enough : ByteArray := prog_4_method_3_code
def yX2_enough : MethodName := ⟨RX2, "enough", "(LBorderQuestions$Yard;)I"⟩
abbrev cX2_answersAll : ByteArray := prog_4_method_4_code
def yX2_answersAll : MethodName := ⟨RX2, "answersAll", "(LBorderQuestions$Yard;I)Z"⟩
abbrev cX2_findMost : ByteArray := prog_4_method_5_code
def yX2_findMost : MethodName := ⟨RX2, "findMost", "(LBorderQuestions$Yard;)V"⟩
abbrev cX2_mostFrom : ByteArray := prog_4_method_6_code
def yX2_mostFrom : MethodName := ⟨RX2, "mostFrom", "(II)I"⟩
abbrev cX2_mostBy : ByteArray := prog_4_method_7_code
def yX2_mostBy : MethodName := ⟨RX2, "mostBy", "(LBorderQuestions$Yard;III)I"⟩
abbrev cX2_loadGoods : ByteArray := prog_4_method_8_code
def yX2_loadGoods : MethodName := ⟨RX2, "loadGoods", "(LBorderQuestions$Yard;)I"⟩
abbrev cX2_loadGuard : ByteArray := prog_4_method_9_code
def yX2_loadGuard : MethodName := ⟨RX2, "loadGuard", "(LBorderQuestions$Yard;I)I"⟩
abbrev cX2_firstBest : ByteArray := prog_4_method_10_code
def yX2_firstBest : MethodName := ⟨RX2, "firstBest", "(LBorderQuestions$Yard;II)I"⟩
abbrev cX2_study : ByteArray := prog_4_method_11_code
def yX2_study : MethodName := ⟨RX2, "study", "(LBorderQuestions$Yard;II)I"⟩
abbrev cX2_stumps : ByteArray := prog_4_method_12_code
def yX2_stumps : MethodName := ⟨RX2, "stumps", "(LBorderQuestions$Yard;I)I"⟩
abbrev cX2_findStumped : ByteArray := prog_4_method_13_code
def yX2_findStumped : MethodName := ⟨RX2, "findStumped", "(LBorderQuestions$Yard;II)V"⟩
abbrev cX2_fits : ByteArray := prog_4_method_14_code
def yX2_fits : MethodName := ⟨RX2, "fits", "(LBorderQuestions$Yard;IIIZ)I"⟩
abbrev cX2_findRows : ByteArray := prog_4_method_15_code
def yX2_findRows : MethodName := ⟨RX2, "findRows", "(LBorderQuestions$Yard;II)V"⟩
abbrev cX2_allFit : ByteArray := prog_4_method_16_code
def yX2_allFit : MethodName := ⟨RX2, "allFit", "(I)Z"⟩
abbrev cX2_knewCount : ByteArray := prog_4_method_17_code
def yX2_knewCount : MethodName := ⟨RX2, "knewCount", "(LBorderQuestions$Yard;I)I"⟩
abbrev cX2_knewLeast : ByteArray := prog_4_method_18_code
def yX2_knewLeast : MethodName := ⟨RX2, "knewLeast", "(LBorderQuestions$Yard;I)I"⟩
abbrev cX2_fitsWith : ByteArray := prog_4_method_19_code
def yX2_fitsWith : MethodName := ⟨RX2, "fitsWith", "(LBorderQuestions$Yard;II)Z"⟩
abbrev cX2_canCount : ByteArray := prog_4_method_20_code
def yX2_canCount : MethodName := ⟨RX2, "canCount", "(LBorderQuestions$Yard;I)I"⟩
abbrev cX2_canLeast : ByteArray := prog_4_method_21_code
def yX2_canLeast : MethodName := ⟨RX2, "canLeast", "(LBorderQuestions$Yard;I)I"⟩
abbrev cX2_oddsAbove : ByteArray := prog_4_method_22_code
def yX2_oddsAbove : MethodName := ⟨RX2, "oddsAbove", "(LBorderQuestions$Yard;II)I"⟩
def RX3 : String := "BorderQuestions$Guard"
def TX3 : u_T := fun k => match k with
  | 0 => ("BorderQuestions$Guard", "kind", "I", false)
  | 1 => ("BorderQuestions$Guard", "v", "I", false)
  | 2 => ("BorderQuestions$Guard", "knows", "I", false)
  | 3 => ("BorderQuestions$Guard", "tired", "I", false)
  | _ => ("BorderQuestions$Guard", "parts", "[I", true)
def tyX3 : Nat → FieldType := fun k => match k with
  | 0 => .int
  | 1 => .int
  | 2 => .int
  | 3 => .int
  | _ => .array .int
theorem nmX3 : ∀ a, a < 5 → ∀ b, b < 5 → a ≠ b → (TX3 a).2.1 ≠ (TX3 b).2.1 := by decide +kernel
theorem tyX3_ok : ∀ k, k < 5 → parseFieldDescriptor (TX3 k).2.2.1 = some (tyX3 k) := by decide +kernel
abbrev cX3_init : ByteArray := prog_5_method_1_code
def yX3_init : MethodName := ⟨RX3, "<init>", "()V"⟩
abbrev cX3_become : ByteArray := prog_5_method_2_code
def yX3_become : MethodName := ⟨RX3, "become", "(III)V"⟩
abbrev cX3_copy : ByteArray := prog_5_method_3_code
def yX3_copy : MethodName := ⟨RX3, "copy", "(LBorderQuestions$Guard;)V"⟩
abbrev cX3_changeRow : ByteArray := prog_5_method_4_code
def yX3_changeRow : MethodName := ⟨RX3, "changeRow", "(II)I"⟩
def RX4 : String := "BorderQuestions$Question"
def TX4 : u_T := fun k => match k with
  | 0 => ("BorderQuestions$Question", "matters", "I", false)
  | 1 => ("BorderQuestions$Question", "goods", "I", false)
  | 2 => ("BorderQuestions$Question", "state", "I", false)
  | _ => ("BorderQuestions$Question", "brought", "I", false)
def tyX4 : Nat → FieldType := fun k => match k with
  | 0 => .int
  | 1 => .int
  | 2 => .int
  | _ => .int
theorem nmX4 : ∀ a, a < 4 → ∀ b, b < 4 → a ≠ b → (TX4 a).2.1 ≠ (TX4 b).2.1 := by decide +kernel
theorem tyX4_ok : ∀ k, k < 4 → parseFieldDescriptor (TX4 k).2.2.1 = some (tyX4 k) := by decide +kernel
abbrev cX4_init : ByteArray := prog_6_method_1_code
def yX4_init : MethodName := ⟨RX4, "<init>", "()V"⟩
abbrev cX4_become : ByteArray := prog_6_method_2_code
def yX4_become : MethodName := ⟨RX4, "become", "(II)V"⟩
abbrev cX4_copy : ByteArray := prog_6_method_3_code
def yX4_copy : MethodName := ⟨RX4, "copy", "(LBorderQuestions$Question;)V"⟩
def RX5 : String := "BorderQuestions$Reader"
def TX5 : u_T := fun k => match k with
  | 0 => ("BorderQuestions$Reader", "text", "[B", true)
  | 1 => ("BorderQuestions$Reader", "length", "I", false)
  | 2 => ("BorderQuestions$Reader", "at", "I", false)
  | 3 => ("BorderQuestions$Reader", "sign", "I", false)
  | 4 => ("BorderQuestions$Reader", "number", "I", false)
  | _ => ("BorderQuestions$Reader", "made", "LBorderQuestions$Border;", false)
def tyX5 : Nat → FieldType := fun k => match k with
  | 0 => .array .byte
  | 1 => .int
  | 2 => .int
  | 3 => .int
  | 4 => .int
  | _ => .object "BorderQuestions$Border"
theorem nmX5 : ∀ a, a < 6 → ∀ b, b < 6 → a ≠ b → (TX5 a).2.1 ≠ (TX5 b).2.1 := by decide +kernel
theorem tyX5_ok : ∀ k, k < 6 → parseFieldDescriptor (TX5 k).2.2.1 = some (tyX5 k) := by decide +kernel
abbrev cX5_init : ByteArray := prog_7_method_1_code
def yX5_init : MethodName := ⟨RX5, "<init>", "()V"⟩
abbrev cX5_add : ByteArray := prog_7_method_2_code
def yX5_add : MethodName := ⟨RX5, "add", "(I)I"⟩
abbrev cX5_readInto : ByteArray := prog_7_method_3_code
def yX5_readInto : MethodName := ⟨RX5, "readInto", "(LBorderQuestions$Border;)I"⟩
abbrev cX5_goTo : ByteArray := prog_7_method_4_code
def yX5_goTo : MethodName := ⟨RX5, "goTo", "(I)V"⟩
abbrev cX5_skip : ByteArray := prog_7_method_5_code
def yX5_skip : MethodName := ⟨RX5, "skip", "(I)Z"⟩
abbrev cX5_placeIn : ByteArray := prog_7_method_6_code
def yX5_placeIn : MethodName := ⟨RX5, "placeIn", "(Ljava/lang/String;)I"⟩
abbrev cX5_readClause : ByteArray := prog_7_method_7_code
def yX5_readClause : MethodName := ⟨RX5, "readClause", "()Z"⟩
abbrev cX5_readNumbered : ByteArray := prog_7_method_8_code
def yX5_readNumbered : MethodName := ⟨RX5, "readNumbered", "(Ljava/lang/String;)Z"⟩
abbrev cX5_readNumber : ByteArray := prog_7_method_9_code
def yX5_readNumber : MethodName := ⟨RX5, "readNumber", "()Z"⟩
abbrev cX5_readEither : ByteArray := prog_7_method_10_code
def yX5_readEither : MethodName := ⟨RX5, "readEither", "(I)Z"⟩
abbrev cX5_readPart : ByteArray := prog_7_method_11_code
def yX5_readPart : MethodName := ⟨RX5, "readPart", "(I)Z"⟩
abbrev cX5_readTest : ByteArray := prog_7_method_12_code
def yX5_readTest : MethodName := ⟨RX5, "readTest", "()Z"⟩
def RX6 : String := "BorderQuestions$Rows"
def TX6 : u_T := fun k => match k with
  | 0 => ("BorderQuestions$Rows", "cells", "[I", true)
  | 1 => ("BorderQuestions$Rows", "most", "I", true)
  | _ => ("BorderQuestions$Rows", "size", "I", false)
def tyX6 : Nat → FieldType := fun k => match k with
  | 0 => .array .int
  | 1 => .int
  | _ => .int
theorem nmX6 : ∀ a, a < 3 → ∀ b, b < 3 → a ≠ b → (TX6 a).2.1 ≠ (TX6 b).2.1 := by decide +kernel
theorem tyX6_ok : ∀ k, k < 3 → parseFieldDescriptor (TX6 k).2.2.1 = some (tyX6 k) := by decide +kernel
abbrev cX6_init : ByteArray := prog_8_method_1_code
def yX6_init : MethodName := ⟨RX6, "<init>", "(I)V"⟩
abbrev cX6_empty : ByteArray := prog_8_method_2_code
def yX6_empty : MethodName := ⟨RX6, "empty", "()I"⟩
abbrev cX6_add : ByteArray := prog_8_method_3_code
def yX6_add : MethodName := ⟨RX6, "add", "(III)I"⟩
abbrev cX6_first : ByteArray := prog_8_method_4_code
def yX6_first : MethodName := ⟨RX6, "first", "(I)I"⟩
abbrev cX6_second : ByteArray := prog_8_method_5_code
def yX6_second : MethodName := ⟨RX6, "second", "(I)I"⟩
abbrev cX6_third : ByteArray := prog_8_method_6_code
def yX6_third : MethodName := ⟨RX6, "third", "(I)I"⟩
abbrev cX6_cell : ByteArray := prog_8_method_7_code
def yX6_cell : MethodName := ⟨RX6, "cell", "(II)I"⟩
abbrev cX6_copy : ByteArray := prog_8_method_8_code
def yX6_copy : MethodName := ⟨RX6, "copy", "(LBorderQuestions$Rows;)V"⟩
def RX7 : String := "BorderQuestions$Rules"
def TX7 : u_T := fun k => match k with
  | 0 => ("BorderQuestions$Rules", "borders", "[LBorderQuestions$Border;", true)
  | _ => ("BorderQuestions$Rules", "borderCount", "I", false)
def tyX7 : Nat → FieldType := fun k => match k with
  | 0 => .array (.object "BorderQuestions$Border")
  | _ => .int
theorem nmX7 : ∀ a, a < 2 → ∀ b, b < 2 → a ≠ b → (TX7 a).2.1 ≠ (TX7 b).2.1 := by decide +kernel
theorem tyX7_ok : ∀ k, k < 2 → parseFieldDescriptor (TX7 k).2.2.1 = some (tyX7 k) := by decide +kernel
abbrev cX7_init : ByteArray := prog_9_method_1_code
def yX7_init : MethodName := ⟨RX7, "<init>", "()V"⟩
abbrev cX7_spareBorder : ByteArray := prog_9_method_2_code
def yX7_spareBorder : MethodName := ⟨RX7, "spareBorder", "()LBorderQuestions$Border;"⟩
abbrev cX7_keepSpare : ByteArray := prog_9_method_3_code
def yX7_keepSpare : MethodName := ⟨RX7, "keepSpare", "()I"⟩
abbrev cX7_wit : ByteArray := prog_9_method_4_code
def yX7_wit : MethodName := ⟨RX7, "wit", "(LBorderQuestions$Yard;III)I"⟩
abbrev cX7_witKnowing : ByteArray := prog_9_method_5_code
def yX7_witKnowing : MethodName := ⟨RX7, "witKnowing", "(LBorderQuestions$Yard;IIIII)I"⟩
abbrev cX7_answers : ByteArray := prog_9_method_6_code
def yX7_answers : MethodName := ⟨RX7, "answers", "(LBorderQuestions$Yard;II)Z"⟩
abbrev cX7_putTo : ByteArray := prog_9_method_7_code
def yX7_putTo : MethodName := ⟨RX7, "putTo", "(LBorderQuestions$Yard;II)V"⟩
abbrev cX7_letPass : ByteArray := prog_9_method_8_code
def yX7_letPass : MethodName := ⟨RX7, "letPass", "(LBorderQuestions$Yard;I)V"⟩
abbrev cX7_letHourPass : ByteArray := prog_9_method_9_code
def yX7_letHourPass : MethodName := ⟨RX7, "letHourPass", "(LBorderQuestions$Yard;)V"⟩
abbrev cX7_carryOut : ByteArray := prog_9_method_10_code
def yX7_carryOut : MethodName := ⟨RX7, "carryOut", "(LBorderQuestions$Yard;II)V"⟩
def RX8 : String := "BorderQuestions$Tape"
def TX8 : u_T := fun k => match k with
  | 0 => ("BorderQuestions$Tape", "items", "[J", true)
  | 1 => ("BorderQuestions$Tape", "sort", "I", false)
  | _ => ("BorderQuestions$Tape", "size", "I", false)
def tyX8 : Nat → FieldType := fun k => match k with
  | 0 => .array .long
  | 1 => .int
  | _ => .int
theorem nmX8 : ∀ a, a < 3 → ∀ b, b < 3 → a ≠ b → (TX8 a).2.1 ≠ (TX8 b).2.1 := by decide +kernel
theorem tyX8_ok : ∀ k, k < 3 → parseFieldDescriptor (TX8 k).2.2.1 = some (tyX8 k) := by decide +kernel
abbrev cX8_init : ByteArray := prog_10_method_1_code
def yX8_init : MethodName := ⟨RX8, "<init>", "()V"⟩
abbrev cX8_holds : ByteArray := prog_10_method_2_code
def yX8_holds : MethodName := ⟨RX8, "holds", "()Z"⟩
abbrev cX8_become : ByteArray := prog_10_method_3_code
def yX8_become : MethodName := ⟨RX8, "become", "(II)V"⟩
abbrev cX8_hasPlace : ByteArray := prog_10_method_4_code
def yX8_hasPlace : MethodName := ⟨RX8, "hasPlace", "(I)Z"⟩
abbrev cX8_hasRun : ByteArray := prog_10_method_5_code
def yX8_hasRun : MethodName := ⟨RX8, "hasRun", "(II)Z"⟩
abbrev cX8_get : ByteArray := prog_10_method_6_code
def yX8_get : MethodName := ⟨RX8, "get", "(I)J"⟩
abbrev cX8_put : ByteArray := prog_10_method_7_code
def yX8_put : MethodName := ⟨RX8, "put", "(IJ)V"⟩
abbrev cX8_cut : ByteArray := prog_10_method_8_code
def yX8_cut : MethodName := ⟨RX8, "cut", "(J)J"⟩
def RX9 : String := "BorderQuestions$Yard"
def TX9 : u_T := fun k => match k with
  | 0 => ("BorderQuestions$Yard", "guards", "[LBorderQuestions$Guard;", true)
  | 1 => ("BorderQuestions$Yard", "questions", "[LBorderQuestions$Question;", true)
  | 2 => ("BorderQuestions$Yard", "heard", "LBorderQuestions$Rows;", true)
  | 3 => ("BorderQuestions$Yard", "plan", "LBorderQuestions$Rows;", true)
  | 4 => ("BorderQuestions$Yard", "book", "LBorderQuestions$Rows;", true)
  | 5 => ("BorderQuestions$Yard", "guardCount", "I", false)
  | 6 => ("BorderQuestions$Yard", "questionCount", "I", false)
  | 7 => ("BorderQuestions$Yard", "hour", "I", false)
  | _ => ("BorderQuestions$Yard", "held", "LBorderQuestions$Border;", false)
def tyX9 : Nat → FieldType := fun k => match k with
  | 0 => .array (.object "BorderQuestions$Guard")
  | 1 => .array (.object "BorderQuestions$Question")
  | 2 => .object "BorderQuestions$Rows"
  | 3 => .object "BorderQuestions$Rows"
  | 4 => .object "BorderQuestions$Rows"
  | 5 => .int
  | 6 => .int
  | 7 => .int
  | _ => .object "BorderQuestions$Border"
theorem nmX9 : ∀ a, a < 9 → ∀ b, b < 9 → a ≠ b → (TX9 a).2.1 ≠ (TX9 b).2.1 := by decide +kernel
theorem tyX9_ok : ∀ k, k < 9 → parseFieldDescriptor (TX9 k).2.2.1 = some (tyX9 k) := by decide +kernel
abbrev cX9_init : ByteArray := prog_11_method_1_code
def yX9_init : MethodName := ⟨RX9, "<init>", "()V"⟩
abbrev cX9_guardAt : ByteArray := prog_11_method_2_code
def yX9_guardAt : MethodName := ⟨RX9, "guardAt", "(I)LBorderQuestions$Guard;"⟩
abbrev cX9_questionAt : ByteArray := prog_11_method_3_code
def yX9_questionAt : MethodName := ⟨RX9, "questionAt", "(I)LBorderQuestions$Question;"⟩
abbrev cX9_addGuard : ByteArray := prog_11_method_4_code
def yX9_addGuard : MethodName := ⟨RX9, "addGuard", "(III)I"⟩
abbrev cX9_addQuestion : ByteArray := prog_11_method_5_code
def yX9_addQuestion : MethodName := ⟨RX9, "addQuestion", "(II)I"⟩
abbrev cX9_copy : ByteArray := prog_11_method_6_code
def yX9_copy : MethodName := ⟨RX9, "copy", "(LBorderQuestions$Yard;)V"⟩
abbrev cX9_rest : ByteArray := prog_11_method_7_code
def yX9_rest : MethodName := ⟨RX9, "rest", "()I"⟩
abbrev cX9_isWaiting : ByteArray := prog_11_method_8_code
def yX9_isWaiting : MethodName := ⟨RX9, "isWaiting", "(I)Z"⟩
abbrev cX9_goodsThrough : ByteArray := prog_11_method_9_code
def yX9_goodsThrough : MethodName := ⟨RX9, "goodsThrough", "()I"⟩
abbrev cX9_finedCount : ByteArray := prog_11_method_10_code
def yX9_finedCount : MethodName := ⟨RX9, "finedCount", "()I"⟩
abbrev cX9_waiting : ByteArray := prog_11_method_11_code
def yX9_waiting : MethodName := ⟨RX9, "waiting", "()I"⟩
abbrev cX9_knownCount : ByteArray := prog_11_method_12_code
def yX9_knownCount : MethodName := ⟨RX9, "knownCount", "()I"⟩
def RX10 : String := "BorderQuestions"
def TX10 : u_T := fun k => match k with
  | 0 => ("BorderQuestions", "now", "LBorderQuestions$Yard;", true)
  | 1 => ("BorderQuestions", "kept", "LBorderQuestions$Yard;", true)
  | 2 => ("BorderQuestions", "tried", "LBorderQuestions$Yard;", true)
  | 3 => ("BorderQuestions", "finder", "LBorderQuestions$Finder;", true)
  | 4 => ("BorderQuestions", "rules", "LBorderQuestions$Rules;", true)
  | 5 => ("BorderQuestions", "reader", "LBorderQuestions$Reader;", true)
  | 6 => ("BorderQuestions", "acts", "LBorderQuestions$Acts;", true)
  | 7 => ("BorderQuestions", "tapes", "[LBorderQuestions$Tape;", true)
  | _ => ("BorderQuestions", "imaged", "Z", false)
def tyX10 : Nat → FieldType := fun k => match k with
  | 0 => .object "BorderQuestions$Yard"
  | 1 => .object "BorderQuestions$Yard"
  | 2 => .object "BorderQuestions$Yard"
  | 3 => .object "BorderQuestions$Finder"
  | 4 => .object "BorderQuestions$Rules"
  | 5 => .object "BorderQuestions$Reader"
  | 6 => .object "BorderQuestions$Acts"
  | 7 => .array (.object "BorderQuestions$Tape")
  | _ => .boolean
theorem nmX10 : ∀ a, a < 9 → ∀ b, b < 9 → a ≠ b → (TX10 a).2.1 ≠ (TX10 b).2.1 := by decide +kernel
theorem tyX10_ok : ∀ k, k < 9 → parseFieldDescriptor (TX10 k).2.2.1 = some (tyX10 k) := by decide +kernel
abbrev cX10_init : ByteArray := prog_1_method_1_code
def yX10_init : MethodName := ⟨RX10, "<init>", "()V"⟩
abbrev cX10_guard : ByteArray := prog_1_method_2_code
def yX10_guard : MethodName := ⟨RX10, "guard", "(III)I"⟩
abbrev cX10_of : ByteArray := prog_1_method_3_code
def yX10_of : MethodName := ⟨RX10, "of", "(II)I"⟩
abbrev cX10_ofQuestion : ByteArray := prog_1_method_4_code
def yX10_ofQuestion : MethodName := ⟨RX10, "ofQuestion", "(LBorderQuestions$Guard;II)I"⟩
abbrev cX10_question : ByteArray := prog_1_method_5_code
def yX10_question : MethodName := ⟨RX10, "question", "(II)I"⟩
abbrev cX10_sack : ByteArray := prog_1_method_6_code
def yX10_sack : MethodName := ⟨RX10, "sack", "(II)I"⟩
abbrev cX10_know : ByteArray := prog_1_method_7_code
def yX10_know : MethodName := ⟨RX10, "know", "(II)I"⟩
abbrev cX10_tire : ByteArray := prog_1_method_8_code
def yX10_tire : MethodName := ⟨RX10, "tire", "(II)I"⟩
abbrev cX10_bring : ByteArray := prog_1_method_9_code
def yX10_bring : MethodName := ⟨RX10, "bring", "(II)I"⟩
abbrev cX10_ask : ByteArray := prog_1_method_10_code
def yX10_ask : MethodName := ⟨RX10, "ask", "(II)I"⟩
abbrev cX10_row : ByteArray := prog_1_method_11_code
def yX10_row : MethodName := ⟨RX10, "row", "(III)I"⟩
abbrev cX10_feed : ByteArray := prog_1_method_12_code
def yX10_feed : MethodName := ⟨RX10, "feed", "(I)I"⟩
abbrev cX10_border : ByteArray := prog_1_method_13_code
def yX10_border : MethodName := ⟨RX10, "border", "()I"⟩
abbrev cX10_told : ByteArray := prog_1_method_14_code
def yX10_told : MethodName := ⟨RX10, "told", "(I)I"⟩
abbrev cX10_pass : ByteArray := prog_1_method_15_code
def yX10_pass : MethodName := ⟨RX10, "pass", "(I)I"⟩
abbrev cX10_on : ByteArray := prog_1_method_16_code
def yX10_on : MethodName := ⟨RX10, "on", "(II)I"⟩
abbrev cX10_onTried : ByteArray := prog_1_method_17_code
def yX10_onTried : MethodName := ⟨RX10, "onTried", "(I)I"⟩
abbrev cX10_hear : ByteArray := prog_1_method_18_code
def yX10_hear : MethodName := ⟨RX10, "hear", "(IIZ)I"⟩
abbrev cX10_can : ByteArray := prog_1_method_19_code
def yX10_can : MethodName := ⟨RX10, "can", "(II)I"⟩
abbrev cX10_odds : ByteArray := prog_1_method_20_code
def yX10_odds : MethodName := ⟨RX10, "odds", "(III)J"⟩
abbrev cX10_mean : ByteArray := prog_1_method_21_code
def yX10_mean : MethodName := ⟨RX10, "mean", "(I)J"⟩
abbrev cX10_plan : ByteArray := prog_1_method_22_code
def yX10_plan : MethodName := ⟨RX10, "plan", "(II)I"⟩
abbrev cX10_isPlanned : ByteArray := prog_1_method_23_code
def yX10_isPlanned : MethodName := ⟨RX10, "isPlanned", "(II)Z"⟩
abbrev cX10_ends : ByteArray := prog_1_method_24_code
def yX10_ends : MethodName := ⟨RX10, "ends", "(I)I"⟩
abbrev cX10_book : ByteArray := prog_1_method_25_code
def yX10_book : MethodName := ⟨RX10, "book", "(II)I"⟩
abbrev cX10_looked : ByteArray := prog_1_method_26_code
def yX10_looked : MethodName := ⟨RX10, "looked", "()I"⟩
abbrev cX10_judge : ByteArray := prog_1_method_27_code
def yX10_judge : MethodName := ⟨RX10, "judge", "(II)I"⟩
abbrev cX10_image : ByteArray := prog_1_method_28_code
def yX10_image : MethodName := ⟨RX10, "image", "()I"⟩
abbrev cX10_undo : ByteArray := prog_1_method_29_code
def yX10_undo : MethodName := ⟨RX10, "undo", "()I"⟩
abbrev cX10_act : ByteArray := prog_1_method_30_code
def yX10_act : MethodName := ⟨RX10, "act", "(III)I"⟩
abbrev cX10_trace : ByteArray := prog_1_method_31_code
def yX10_trace : MethodName := ⟨RX10, "trace", "(I)I"⟩
abbrev cX10_taken : ByteArray := prog_1_method_32_code
def yX10_taken : MethodName := ⟨RX10, "taken", "(II)I"⟩
abbrev cX10_count : ByteArray := prog_1_method_33_code
def yX10_count : MethodName := ⟨RX10, "count", "(I)I"⟩
abbrev cX10_tape : ByteArray := prog_1_method_34_code
def yX10_tape : MethodName := ⟨RX10, "tape", "(III)I"⟩
abbrev cX10_item : ByteArray := prog_1_method_35_code
def yX10_item : MethodName := ⟨RX10, "item", "(IIJ)I"⟩
abbrev cX10_read : ByteArray := prog_1_method_36_code
def yX10_read : MethodName := ⟨RX10, "read", "(II)J"⟩
abbrev cX10_shift : ByteArray := prog_1_method_37_code
def yX10_shift : MethodName := ⟨RX10, "shift", "(IIIII)I"⟩
abbrev cX10_tapeAt : ByteArray := prog_1_method_38_code
def yX10_tapeAt : MethodName := ⟨RX10, "tapeAt", "(I)LBorderQuestions$Tape;"⟩
abbrev cX10_isKind : ByteArray := prog_1_method_39_code
def yX10_isKind : MethodName := ⟨RX10, "isKind", "(I)Z"⟩
abbrev cX10_isDigit : ByteArray := prog_1_method_40_code
def yX10_isDigit : MethodName := ⟨RX10, "isDigit", "(I)Z"⟩
abbrev cX10_isUpTo99 : ByteArray := prog_1_method_41_code
def yX10_isUpTo99 : MethodName := ⟨RX10, "isUpTo99", "(I)Z"⟩
abbrev cX10_isSet : ByteArray := prog_1_method_42_code
def yX10_isSet : MethodName := ⟨RX10, "isSet", "(I)Z"⟩
abbrev cX10_isHours : ByteArray := prog_1_method_43_code
def yX10_isHours : MethodName := ⟨RX10, "isHours", "(I)Z"⟩
abbrev cX10_isPart : ByteArray := prog_1_method_44_code
def yX10_isPart : MethodName := ⟨RX10, "isPart", "(I)Z"⟩
abbrev cX10_lowest : ByteArray := prog_1_method_45_code
def yX10_lowest : MethodName := ⟨RX10, "lowest", "(III)J"⟩
def RX11 : String := "BorderQuestionsModel"
def TX11 : u_T := fun k => match k with
  | 0 => ("BorderQuestionsModel", "guards", "I", false)
  | 1 => ("BorderQuestionsModel", "kind", "[I", true)
  | 2 => ("BorderQuestionsModel", "v", "[I", true)
  | 3 => ("BorderQuestionsModel", "knows", "[I", true)
  | 4 => ("BorderQuestionsModel", "tired", "[I", true)
  | 5 => ("BorderQuestionsModel", "rows", "[I", true)
  | 6 => ("BorderQuestionsModel", "questions", "I", false)
  | 7 => ("BorderQuestionsModel", "matters", "[I", true)
  | 8 => ("BorderQuestionsModel", "goods", "[I", true)
  | 9 => ("BorderQuestionsModel", "state", "[I", true)
  | 10 => ("BorderQuestionsModel", "brought", "[I", true)
  | 11 => ("BorderQuestionsModel", "hour", "I", false)
  | 12 => ("BorderQuestionsModel", "texted", "I", false)
  | 13 => ("BorderQuestionsModel", "text", "[I", true)
  | 14 => ("BorderQuestionsModel", "at", "I", false)
  | 15 => ("BorderQuestionsModel", "value", "I", false)
  | 16 => ("BorderQuestionsModel", "digits", "I", false)
  | 17 => ("BorderQuestionsModel", "open", "I", false)
  | 18 => ("BorderQuestionsModel", "borders", "I", false)
  | 19 => ("BorderQuestionsModel", "holds", "I", false)
  | 20 => ("BorderQuestionsModel", "clauses", "[I", true)
  | 21 => ("BorderQuestionsModel", "word", "[I", true)
  | 22 => ("BorderQuestionsModel", "number", "[I", true)
  | 23 => ("BorderQuestionsModel", "begins", "[I", true)
  | 24 => ("BorderQuestionsModel", "length", "[I", true)
  | 25 => ("BorderQuestionsModel", "code", "[I", true)
  | 26 => ("BorderQuestionsModel", "coded", "I", false)
  | 27 => ("BorderQuestionsModel", "stack", "[Z", true)
  | 28 => ("BorderQuestionsModel", "heard", "I", false)
  | 29 => ("BorderQuestionsModel", "heardOf", "[I", true)
  | 30 => ("BorderQuestionsModel", "heardOn", "[I", true)
  | 31 => ("BorderQuestionsModel", "heardSo", "[I", true)
  | 32 => ("BorderQuestionsModel", "inPlan", "I", false)
  | 33 => ("BorderQuestionsModel", "goes", "[I", true)
  | 34 => ("BorderQuestionsModel", "whose", "[I", true)
  | 35 => ("BorderQuestionsModel", "inBook", "I", false)
  | 36 => ("BorderQuestionsModel", "booked", "[I", true)
  | 37 => ("BorderQuestionsModel", "bookGoods", "[I", true)
  | 38 => ("BorderQuestionsModel", "traced", "I", false)
  | 39 => ("BorderQuestionsModel", "traces", "[I", true)
  | 40 => ("BorderQuestionsModel", "imaged", "Z", false)
  | 41 => ("BorderQuestionsModel", "image", "[I", true)
  | 42 => ("BorderQuestionsModel", "ahead", "[I", true)
  | 43 => ("BorderQuestionsModel", "tried", "[I", true)
  | 44 => ("BorderQuestionsModel", "best", "[I", true)
  | 45 => ("BorderQuestionsModel", "most", "I", false)
  | 46 => ("BorderQuestionsModel", "tapeSort", "[I", true)
  | 47 => ("BorderQuestionsModel", "tapeSize", "[I", true)
  | _ => ("BorderQuestionsModel", "items", "[J", true)
def tyX11 : Nat → FieldType := fun k => match k with
  | 0 => .int
  | 1 => .array .int
  | 2 => .array .int
  | 3 => .array .int
  | 4 => .array .int
  | 5 => .array .int
  | 6 => .int
  | 7 => .array .int
  | 8 => .array .int
  | 9 => .array .int
  | 10 => .array .int
  | 11 => .int
  | 12 => .int
  | 13 => .array .int
  | 14 => .int
  | 15 => .int
  | 16 => .int
  | 17 => .int
  | 18 => .int
  | 19 => .int
  | 20 => .array .int
  | 21 => .array .int
  | 22 => .array .int
  | 23 => .array .int
  | 24 => .array .int
  | 25 => .array .int
  | 26 => .int
  | 27 => .array .boolean
  | 28 => .int
  | 29 => .array .int
  | 30 => .array .int
  | 31 => .array .int
  | 32 => .int
  | 33 => .array .int
  | 34 => .array .int
  | 35 => .int
  | 36 => .array .int
  | 37 => .array .int
  | 38 => .int
  | 39 => .array .int
  | 40 => .boolean
  | 41 => .array .int
  | 42 => .array .int
  | 43 => .array .int
  | 44 => .array .int
  | 45 => .int
  | 46 => .array .int
  | 47 => .array .int
  | _ => .array .long
theorem nmX11 : ∀ a, a < 49 → ∀ b, b < 49 → a ≠ b → (TX11 a).2.1 ≠ (TX11 b).2.1 := by decide +kernel
theorem tyX11_ok : ∀ k, k < 49 → parseFieldDescriptor (TX11 k).2.2.1 = some (tyX11 k) := by decide +kernel
abbrev cX11_init : ByteArray := prog_13_method_1_code
def yX11_init : MethodName := ⟨RX11, "<init>", "()V"⟩
abbrev cX11_within : ByteArray := prog_13_method_2_code
def yX11_within : MethodName := ⟨RX11, "within", "(III)Z"⟩
abbrev cX11_isOne : ByteArray := prog_13_method_3_code
def yX11_isOne : MethodName := ⟨RX11, "isOne", "(I)Z"⟩
abbrev cX11_isAsked : ByteArray := prog_13_method_4_code
def yX11_isAsked : MethodName := ⟨RX11, "isAsked", "(I)Z"⟩
abbrev cX11_areMatters : ByteArray := prog_13_method_5_code
def yX11_areMatters : MethodName := ⟨RX11, "areMatters", "(I)Z"⟩
abbrev cX11_guard : ByteArray := prog_13_method_6_code
def yX11_guard : MethodName := ⟨RX11, "guard", "(III)I"⟩
abbrev cX11_of : ByteArray := prog_13_method_7_code
def yX11_of : MethodName := ⟨RX11, "of", "(II)I"⟩
abbrev cX11_question : ByteArray := prog_13_method_8_code
def yX11_question : MethodName := ⟨RX11, "question", "(II)I"⟩
abbrev cX11_sack : ByteArray := prog_13_method_9_code
def yX11_sack : MethodName := ⟨RX11, "sack", "(II)I"⟩
abbrev cX11_know : ByteArray := prog_13_method_10_code
def yX11_know : MethodName := ⟨RX11, "know", "(II)I"⟩
abbrev cX11_tire : ByteArray := prog_13_method_11_code
def yX11_tire : MethodName := ⟨RX11, "tire", "(II)I"⟩
abbrev cX11_bring : ByteArray := prog_13_method_12_code
def yX11_bring : MethodName := ⟨RX11, "bring", "(II)I"⟩
abbrev cX11_ask : ByteArray := prog_13_method_13_code
def yX11_ask : MethodName := ⟨RX11, "ask", "(II)I"⟩
abbrev cX11_row : ByteArray := prog_13_method_14_code
def yX11_row : MethodName := ⟨RX11, "row", "(III)I"⟩
abbrev cX11_feed : ByteArray := prog_13_method_15_code
def yX11_feed : MethodName := ⟨RX11, "feed", "(I)I"⟩
abbrev cX11_is : ByteArray := prog_13_method_16_code
def yX11_is : MethodName := ⟨RX11, "is", "(I)Z"⟩
abbrev cX11_isDigit : ByteArray := prog_13_method_17_code
def yX11_isDigit : MethodName := ⟨RX11, "isDigit", "()Z"⟩
abbrev cX11_isNumber : ByteArray := prog_13_method_18_code
def yX11_isNumber : MethodName := ⟨RX11, "isNumber", "()Z"⟩
abbrev cX11_isAll : ByteArray := prog_13_method_19_code
def yX11_isAll : MethodName := ⟨RX11, "isAll", "(Ljava/lang/String;)Z"⟩
abbrev cX11_codes : ByteArray := prog_13_method_20_code
def yX11_codes : MethodName := ⟨RX11, "codes", "(I)Z"⟩
abbrev cX11_isTest : ByteArray := prog_13_method_21_code
def yX11_isTest : MethodName := ⟨RX11, "isTest", "()Z"⟩
abbrev cX11_isOpened : ByteArray := prog_13_method_22_code
def yX11_isOpened : MethodName := ⟨RX11, "isOpened", "(I)Z"⟩
abbrev cX11_isF : ByteArray := prog_13_method_23_code
def yX11_isF : MethodName := ⟨RX11, "isF", "()Z"⟩
abbrev cX11_isT : ByteArray := prog_13_method_24_code
def yX11_isT : MethodName := ⟨RX11, "isT", "()Z"⟩
abbrev cX11_isE : ByteArray := prog_13_method_25_code
def yX11_isE : MethodName := ⟨RX11, "isE", "()Z"⟩
abbrev cX11_isClause : ByteArray := prog_13_method_26_code
def yX11_isClause : MethodName := ⟨RX11, "isClause", "(I)Z"⟩
abbrev cX11_border : ByteArray := prog_13_method_27_code
def yX11_border : MethodName := ⟨RX11, "border", "()I"⟩
abbrev cX11_letterOf : ByteArray := prog_13_method_28_code
def yX11_letterOf : MethodName := ⟨RX11, "letterOf", "(III)I"⟩
abbrev cX11_isTrue : ByteArray := prog_13_method_29_code
def yX11_isTrue : MethodName := ⟨RX11, "isTrue", "(III)Z"⟩
abbrev cX11_sum : ByteArray := prog_13_method_30_code
def yX11_sum : MethodName := ⟨RX11, "sum", "(II)I"⟩
abbrev cX11_restBy : ByteArray := prog_13_method_31_code
def yX11_restBy : MethodName := ⟨RX11, "restBy", "()I"⟩
abbrev cX11_wit : ByteArray := prog_13_method_32_code
def yX11_wit : MethodName := ⟨RX11, "wit", "(II)I"⟩
abbrev cX11_answers : ByteArray := prog_13_method_33_code
def yX11_answers : MethodName := ⟨RX11, "answers", "(II)Z"⟩
abbrev cX11_asks : ByteArray := prog_13_method_34_code
def yX11_asks : MethodName := ⟨RX11, "asks", "(II)V"⟩
abbrev cX11_goesHour : ByteArray := prog_13_method_35_code
def yX11_goesHour : MethodName := ⟨RX11, "goesHour", "()V"⟩
abbrev cX11_through : ByteArray := prog_13_method_36_code
def yX11_through : MethodName := ⟨RX11, "through", "()I"⟩
abbrev cX11_areSo : ByteArray := prog_13_method_37_code
def yX11_areSo : MethodName := ⟨RX11, "areSo", "(I)I"⟩
abbrev cX11_told : ByteArray := prog_13_method_38_code
def yX11_told : MethodName := ⟨RX11, "told", "(I)I"⟩
abbrev cX11_pass : ByteArray := prog_13_method_39_code
def yX11_pass : MethodName := ⟨RX11, "pass", "(I)I"⟩
abbrev cX11_on : ByteArray := prog_13_method_40_code
def yX11_on : MethodName := ⟨RX11, "on", "(II)I"⟩
abbrev cX11_tries : ByteArray := prog_13_method_41_code
def yX11_tries : MethodName := ⟨RX11, "tries", "(III)V"⟩
abbrev cX11_loads : ByteArray := prog_13_method_42_code
def yX11_loads : MethodName := ⟨RX11, "loads", "()V"⟩
abbrev cX11_loaded : ByteArray := prog_13_method_43_code
def yX11_loaded : MethodName := ⟨RX11, "loaded", "(I)I"⟩
abbrev cX11_enough : ByteArray := prog_13_method_44_code
def yX11_enough : MethodName := ⟨RX11, "enough", "()I"⟩
abbrev cX11_study : ByteArray := prog_13_method_45_code
def yX11_study : MethodName := ⟨RX11, "study", "(II)I"⟩
abbrev cX11_stumps : ByteArray := prog_13_method_46_code
def yX11_stumps : MethodName := ⟨RX11, "stumps", "(I)I"⟩
abbrev cX11_hear : ByteArray := prog_13_method_47_code
def yX11_hear : MethodName := ⟨RX11, "hear", "(IIZ)I"⟩
abbrev cX11_isHeard : ByteArray := prog_13_method_48_code
def yX11_isHeard : MethodName := ⟨RX11, "isHeard", "(I)Z"⟩
abbrev cX11_knew : ByteArray := prog_13_method_49_code
def yX11_knew : MethodName := ⟨RX11, "knew", "(II)I"⟩
abbrev cX11_can : ByteArray := prog_13_method_50_code
def yX11_can : MethodName := ⟨RX11, "can", "(II)I"⟩
abbrev cX11_part : ByteArray := prog_13_method_51_code
def yX11_part : MethodName := ⟨RX11, "part", "(JJI)J"⟩
abbrev cX11_odds : ByteArray := prog_13_method_52_code
def yX11_odds : MethodName := ⟨RX11, "odds", "(III)J"⟩
abbrev cX11_mean : ByteArray := prog_13_method_53_code
def yX11_mean : MethodName := ⟨RX11, "mean", "(I)J"⟩
abbrev cX11_plan : ByteArray := prog_13_method_54_code
def yX11_plan : MethodName := ⟨RX11, "plan", "(II)I"⟩
abbrev cX11_ends : ByteArray := prog_13_method_55_code
def yX11_ends : MethodName := ⟨RX11, "ends", "(I)I"⟩
abbrev cX11_book : ByteArray := prog_13_method_56_code
def yX11_book : MethodName := ⟨RX11, "book", "(II)I"⟩
abbrev cX11_looked : ByteArray := prog_13_method_57_code
def yX11_looked : MethodName := ⟨RX11, "looked", "()I"⟩
abbrev cX11_judge : ByteArray := prog_13_method_58_code
def yX11_judge : MethodName := ⟨RX11, "judge", "(II)I"⟩
abbrev cX11_keep : ByteArray := prog_13_method_59_code
def yX11_keep : MethodName := ⟨RX11, "keep", "([I)V"⟩
abbrev cX11_again : ByteArray := prog_13_method_60_code
def yX11_again : MethodName := ⟨RX11, "again", "([I)V"⟩
abbrev cX11_image : ByteArray := prog_13_method_61_code
def yX11_image : MethodName := ⟨RX11, "image", "()I"⟩
abbrev cX11_undo : ByteArray := prog_13_method_62_code
def yX11_undo : MethodName := ⟨RX11, "undo", "()I"⟩
abbrev cX11_ran : ByteArray := prog_13_method_63_code
def yX11_ran : MethodName := ⟨RX11, "ran", "(I)V"⟩
abbrev cX11_above : ByteArray := prog_13_method_64_code
def yX11_above : MethodName := ⟨RX11, "above", "(I)I"⟩
abbrev cX11_listens : ByteArray := prog_13_method_65_code
def yX11_listens : MethodName := ⟨RX11, "listens", "(III)I"⟩
abbrev cX11_nods : ByteArray := prog_13_method_66_code
def yX11_nods : MethodName := ⟨RX11, "nods", "(III)I"⟩
abbrev cX11_tells : ByteArray := prog_13_method_67_code
def yX11_tells : MethodName := ⟨RX11, "tells", "(III)I"⟩
abbrev cX11_act : ByteArray := prog_13_method_68_code
def yX11_act : MethodName := ⟨RX11, "act", "(III)I"⟩
abbrev cX11_trace : ByteArray := prog_13_method_69_code
def yX11_trace : MethodName := ⟨RX11, "trace", "(I)I"⟩
abbrev cX11_taken : ByteArray := prog_13_method_70_code
def yX11_taken : MethodName := ⟨RX11, "taken", "(II)I"⟩
abbrev cX11_count : ByteArray := prog_13_method_71_code
def yX11_count : MethodName := ⟨RX11, "count", "(I)I"⟩
abbrev cX11_isTape : ByteArray := prog_13_method_72_code
def yX11_isTape : MethodName := ⟨RX11, "isTape", "(I)Z"⟩
abbrev cX11_tape : ByteArray := prog_13_method_73_code
def yX11_tape : MethodName := ⟨RX11, "tape", "(III)I"⟩
abbrev cX11_kept : ByteArray := prog_13_method_74_code
def yX11_kept : MethodName := ⟨RX11, "kept", "(IJ)J"⟩
abbrev cX11_item : ByteArray := prog_13_method_75_code
def yX11_item : MethodName := ⟨RX11, "item", "(IIJ)I"⟩
abbrev cX11_read : ByteArray := prog_13_method_76_code
def yX11_read : MethodName := ⟨RX11, "read", "(II)J"⟩
abbrev cX11_shift : ByteArray := prog_13_method_77_code
def yX11_shift : MethodName := ⟨RX11, "shift", "(IIIII)I"⟩
def RJx145de : String := "java/io/Serializable"
def TJx145de : u_T := fun k => match k with
  | _ => ("", "", "", false)
def tyJx145de : Nat → FieldType := fun k => match k with
  | _ => .int
theorem nmJx145de : ∀ a, a < 0 → ∀ b, b < 0 → a ≠ b → (TJx145de a).2.1 ≠ (TJx145de b).2.1 := by decide +kernel
theorem tyJx145de_ok : ∀ k, k < 0 → parseFieldDescriptor (TJx145de k).2.2.1 = some (tyJx145de k) := by decide +kernel
def RJx9f9b0 : String := "java/lang/CharSequence"
def TJx9f9b0 : u_T := fun k => match k with
  | _ => ("", "", "", false)
def tyJx9f9b0 : Nat → FieldType := fun k => match k with
  | _ => .int
theorem nmJx9f9b0 : ∀ a, a < 0 → ∀ b, b < 0 → a ≠ b → (TJx9f9b0 a).2.1 ≠ (TJx9f9b0 b).2.1 := by decide +kernel
theorem tyJx9f9b0_ok : ∀ k, k < 0 → parseFieldDescriptor (TJx9f9b0 k).2.2.1 = some (tyJx9f9b0 k) := by decide +kernel
def RJ11 : String := "java/lang/Character"
def TJ11 : u_T := fun k => match k with
  | _ => ("", "", "", false)
def tyJ11 : Nat → FieldType := fun k => match k with
  | _ => .int
theorem nmJ11 : ∀ a, a < 0 → ∀ b, b < 0 → a ≠ b → (TJ11 a).2.1 ≠ (TJ11 b).2.1 := by decide +kernel
theorem tyJ11_ok : ∀ k, k < 0 → parseFieldDescriptor (TJ11 k).2.2.1 = some (tyJ11 k) := by decide +kernel
abbrev cJ11_isValidCodePoint_9a6ad : ByteArray := prog_14_method_11_code
def yJ11_isValidCodePoint_9a6ad : MethodName := ⟨RJ11, "isValidCodePoint", "(I)Z"⟩
abbrev cJ11_highSurrogate_5068e : ByteArray := prog_14_method_28_code
def yJ11_highSurrogate_5068e : MethodName := ⟨RJ11, "highSurrogate", "(I)C"⟩
abbrev cJ11_lowSurrogate_5068e : ByteArray := prog_14_method_29_code
def yJ11_lowSurrogate_5068e : MethodName := ⟨RJ11, "lowSurrogate", "(I)C"⟩
def RJxb160c : String := "java/lang/Comparable"
def TJxb160c : u_T := fun k => match k with
  | _ => ("", "", "", false)
def tyJxb160c : Nat → FieldType := fun k => match k with
  | _ => .int
theorem nmJxb160c : ∀ a, a < 0 → ∀ b, b < 0 → a ≠ b → (TJxb160c a).2.1 ≠ (TJxb160c b).2.1 := by decide +kernel
theorem tyJxb160c_ok : ∀ k, k < 0 → parseFieldDescriptor (TJxb160c k).2.2.1 = some (tyJxb160c k) := by decide +kernel
def RJ6 : String := "java/lang/Integer"
def TJ6 : u_T := fun k => match k with
  | _ => ("", "", "", false)
def tyJ6 : Nat → FieldType := fun k => match k with
  | _ => .int
theorem nmJ6 : ∀ a, a < 0 → ∀ b, b < 0 → a ≠ b → (TJ6 a).2.1 ≠ (TJ6 b).2.1 := by decide +kernel
theorem tyJ6_ok : ∀ k, k < 0 → parseFieldDescriptor (TJ6 k).2.2.1 = some (tyJ6 k) := by decide +kernel
abbrev cJ6_lowestOneBit_0f7a4 : ByteArray := prog_15_method_46_code
def yJ6_lowestOneBit_0f7a4 : MethodName := ⟨RJ6, "lowestOneBit", "(I)I"⟩
abbrev cJ6_numberOfTrailingZeros_0f7a4 : ByteArray := prog_15_method_48_code
def yJ6_numberOfTrailingZeros_0f7a4 : MethodName := ⟨RJ6, "numberOfTrailingZeros", "(I)I"⟩
abbrev cJ6_bitCount_0f7a4 : ByteArray := prog_15_method_49_code
def yJ6_bitCount_0f7a4 : MethodName := ⟨RJ6, "bitCount", "(I)I"⟩
def RJ9 : String := "java/lang/Math"
def TJ9 : u_T := fun k => match k with
  | _ => ("", "", "", false)
def tyJ9 : Nat → FieldType := fun k => match k with
  | _ => .int
theorem nmJ9 : ∀ a, a < 0 → ∀ b, b < 0 → a ≠ b → (TJ9 a).2.1 ≠ (TJ9 b).2.1 := by decide +kernel
theorem tyJ9_ok : ∀ k, k < 0 → parseFieldDescriptor (TJ9 k).2.2.1 = some (tyJ9 k) := by decide +kernel
abbrev cJ9_max_7cf53 : ByteArray := prog_16_method_65_code
def yJ9_max_7cf53 : MethodName := ⟨RJ9, "max", "(II)I"⟩
abbrev cJ9_min_7cf53 : ByteArray := prog_16_method_69_code
def yJ9_min_7cf53 : MethodName := ⟨RJ9, "min", "(II)I"⟩
def RJ0 : String := "java/lang/String"
def TJ0 : u_T := fun k => match k with
  | _ => ("", "", "", false)
def tyJ0 : Nat → FieldType := fun k => match k with
  | _ => .int
theorem nmJ0 : ∀ a, a < 0 → ∀ b, b < 0 → a ≠ b → (TJ0 a).2.1 ≠ (TJ0 b).2.1 := by decide +kernel
theorem tyJ0_ok : ∀ k, k < 0 → parseFieldDescriptor (TJ0 k).2.2.1 = some (tyJ0 k) := by decide +kernel
abbrev cJ0_length_8abf5 : ByteArray := prog_17_method_54_code
def yJ0_length_8abf5 : MethodName := ⟨RJ0, "length", "()I"⟩
abbrev cJ0_charAt_5068e : ByteArray := prog_17_method_56_code
def yJ0_charAt_5068e : MethodName := ⟨RJ0, "charAt", "(I)C"⟩
abbrev cJ0_indexOf_0f7a4 : ByteArray := prog_17_method_79_code
def yJ0_indexOf_0f7a4 : MethodName := ⟨RJ0, "indexOf", "(I)I"⟩
abbrev cJ0_indexOf_7cf53 : ByteArray := prog_17_method_80_code
def yJ0_indexOf_7cf53 : MethodName := ⟨RJ0, "indexOf", "(II)I"⟩
abbrev cJ0_coder_7d493 : ByteArray := prog_17_method_152_code
def yJ0_coder_7d493 : MethodName := ⟨RJ0, "coder", "()B"⟩
abbrev cJ0_isLatin1_aae02 : ByteArray := prog_17_method_154_code
def yJ0_isLatin1_aae02 : MethodName := ⟨RJ0, "isLatin1", "()Z"⟩
abbrev cJ0_checkIndex_df160 : ByteArray := prog_17_method_155_code
def yJ0_checkIndex_df160 : MethodName := ⟨RJ0, "checkIndex", "(II)V"⟩
abbrev cJ0_checkBoundsBeginEnd_23922 : ByteArray := prog_17_method_158_code
def yJ0_checkBoundsBeginEnd_23922 : MethodName := ⟨RJ0, "checkBoundsBeginEnd", "(III)V"⟩
def RJ1 : String := "java/lang/StringLatin1"
def TJ1 : u_T := fun k => match k with
  | _ => ("", "", "", false)
def tyJ1 : Nat → FieldType := fun k => match k with
  | _ => .int
theorem nmJ1 : ∀ a, a < 0 → ∀ b, b < 0 → a ≠ b → (TJ1 a).2.1 ≠ (TJ1 b).2.1 := by decide +kernel
theorem tyJ1_ok : ∀ k, k < 0 → parseFieldDescriptor (TJ1 k).2.2.1 = some (tyJ1 k) := by decide +kernel
abbrev cJ1_charAt_3b067 : ByteArray := prog_18_method_2_code
def yJ1_charAt_3b067 : MethodName := ⟨RJ1, "charAt", "([BI)C"⟩
abbrev cJ1_canEncode_9a6ad : ByteArray := prog_18_method_4_code
def yJ1_canEncode_9a6ad : MethodName := ⟨RJ1, "canEncode", "(I)Z"⟩
abbrev cJ1_indexOf_4cfef : ByteArray := prog_18_method_22_code
def yJ1_indexOf_4cfef : MethodName := ⟨RJ1, "indexOf", "([BIII)I"⟩
abbrev cJ1_indexOfChar_4cfef : ByteArray := prog_18_method_23_code
def yJ1_indexOfChar_4cfef : MethodName := ⟨RJ1, "indexOfChar", "([BIII)I"⟩
def RJ2 : String := "java/lang/StringUTF16"
def TJ2 : u_T := fun k => match k with
  | _ => ("", "", "", false)
def tyJ2 : Nat → FieldType := fun k => match k with
  | _ => .int
theorem nmJ2 : ∀ a, a < 0 → ∀ b, b < 0 → a ≠ b → (TJ2 a).2.1 ≠ (TJ2 b).2.1 := by decide +kernel
theorem tyJ2_ok : ∀ k, k < 0 → parseFieldDescriptor (TJ2 k).2.2.1 = some (tyJ2 k) := by decide +kernel
abbrev cJ2_getChar_3b067 : ByteArray := prog_19_method_5_code
def yJ2_getChar_3b067 : MethodName := ⟨RJ2, "getChar", "([BI)C"⟩
abbrev cJ2_length_9d52b : ByteArray := prog_19_method_6_code
def yJ2_length_9d52b : MethodName := ⟨RJ2, "length", "([B)I"⟩
abbrev cJ2_indexOf_4cfef : ByteArray := prog_19_method_40_code
def yJ2_indexOf_4cfef : MethodName := ⟨RJ2, "indexOf", "([BIII)I"⟩
abbrev cJ2_indexOfChar_4cfef : ByteArray := prog_19_method_47_code
def yJ2_indexOfChar_4cfef : MethodName := ⟨RJ2, "indexOfChar", "([BIII)I"⟩
abbrev cJ2_indexOfCharUnsafe_4cfef : ByteArray := prog_19_method_48_code
def yJ2_indexOfCharUnsafe_4cfef : MethodName := ⟨RJ2, "indexOfCharUnsafe", "([BIII)I"⟩
abbrev cJ2_indexOfSupplementary_4cfef : ByteArray := prog_19_method_49_code
def yJ2_indexOfSupplementary_4cfef : MethodName := ⟨RJ2, "indexOfSupplementary", "([BIII)I"⟩
abbrev cJ2_charAt_3b067 : ByteArray := prog_19_method_83_code
def yJ2_charAt_3b067 : MethodName := ⟨RJ2, "charAt", "([BI)C"⟩
abbrev cJ2_checkIndex_2214a : ByteArray := prog_19_method_91_code
def yJ2_checkIndex_2214a : MethodName := ⟨RJ2, "checkIndex", "(I[B)V"⟩
abbrev cJ2_checkBoundsBeginEnd_d044e : ByteArray := prog_19_method_93_code
def yJ2_checkBoundsBeginEnd_d044e : MethodName := ⟨RJ2, "checkBoundsBeginEnd", "(II[B)V"⟩
def RJ10 : String := "java/lang/System"
def TJ10 : u_T := fun k => match k with
  | _ => ("", "", "", false)
def tyJ10 : Nat → FieldType := fun k => match k with
  | _ => .int
theorem nmJ10 : ∀ a, a < 0 → ∀ b, b < 0 → a ≠ b → (TJ10 a).2.1 ≠ (TJ10 b).2.1 := by decide +kernel
theorem tyJ10_ok : ∀ k, k < 0 → parseFieldDescriptor (TJ10 k).2.2.1 = some (tyJ10 k) := by decide +kernel
def RJxfd54e : String := "java/lang/constant/Constable"
def TJxfd54e : u_T := fun k => match k with
  | _ => ("", "", "", false)
def tyJxfd54e : Nat → FieldType := fun k => match k with
  | _ => .int
theorem nmJxfd54e : ∀ a, a < 0 → ∀ b, b < 0 → a ≠ b → (TJxfd54e a).2.1 ≠ (TJxfd54e b).2.1 := by decide +kernel
theorem tyJxfd54e_ok : ∀ k, k < 0 → parseFieldDescriptor (TJxfd54e k).2.2.1 = some (tyJxfd54e k) := by decide +kernel
def RJx3cf43 : String := "java/lang/constant/ConstantDesc"
def TJx3cf43 : u_T := fun k => match k with
  | _ => ("", "", "", false)
def tyJx3cf43 : Nat → FieldType := fun k => match k with
  | _ => .int
theorem nmJx3cf43 : ∀ a, a < 0 → ∀ b, b < 0 → a ≠ b → (TJx3cf43 a).2.1 ≠ (TJx3cf43 b).2.1 := by decide +kernel
theorem tyJx3cf43_ok : ∀ k, k < 0 → parseFieldDescriptor (TJx3cf43 k).2.2.1 = some (tyJx3cf43 k) := by decide +kernel
def RJ7 : String := "java/util/Arrays"
def TJ7 : u_T := fun k => match k with
  | _ => ("", "", "", false)
def tyJ7 : Nat → FieldType := fun k => match k with
  | _ => .int
theorem nmJ7 : ∀ a, a < 0 → ∀ b, b < 0 → a ≠ b → (TJ7 a).2.1 ≠ (TJ7 b).2.1 := by decide +kernel
theorem tyJ7_ok : ∀ k, k < 0 → parseFieldDescriptor (TJ7 k).2.2.1 = some (tyJ7 k) := by decide +kernel
abbrev cJ7_fill_d0a16 : ByteArray := prog_21_method_101_code
def yJ7_fill_d0a16 : MethodName := ⟨RJ7, "fill", "([JJ)V"⟩
abbrev cJ7_fill_53178 : ByteArray := prog_21_method_103_code
def yJ7_fill_53178 : MethodName := ⟨RJ7, "fill", "([II)V"⟩
def RJ3 : String := "jdk/internal/util/Preconditions"
def TJ3 : u_T := fun k => match k with
  | _ => ("", "", "", false)
def tyJ3 : Nat → FieldType := fun k => match k with
  | _ => .int
theorem nmJ3 : ∀ a, a < 0 → ∀ b, b < 0 → a ≠ b → (TJ3 a).2.1 ≠ (TJ3 b).2.1 := by decide +kernel
theorem tyJ3_ok : ∀ k, k < 0 → parseFieldDescriptor (TJ3 k).2.2.1 = some (tyJ3 k) := by decide +kernel
abbrev cJ3_checkIndex_8e157 : ByteArray := prog_22_method_11_code
def yJ3_checkIndex_8e157 : MethodName := ⟨RJ3, "checkIndex", "(IILjava/util/function/BiFunction;)I"⟩
abbrev cJ3_checkFromToIndex_8c36e : ByteArray := prog_22_method_12_code
def yJ3_checkFromToIndex_8c36e : MethodName := ⟨RJ3, "checkFromToIndex", "(IIILjava/util/function/BiFunction;)I"⟩
def RL : String := "BorderQuestionsLaw"
abbrev cL_law : ByteArray := code
def yL_law : MethodName := ⟨RL, "law", "([I)Z"⟩
abbrev vwCl : List vw_C := [(RX0, TX0, 5), (RX1, TX1, 4), (RX2, TX2, 7), (RX3, TX3, 5), (RX4, TX4, 4), (RX5, TX5, 6), (RX6, TX6, 3), (RX7, TX7, 2), (RX8, TX8, 3), (RX9, TX9, 9), (RX10, TX10, 9), (RX11, TX11, 49)]
