-- from the printed names and the skeleton (PART A); see wip/whole/mknames.py
/-- a private method of a class that the tables say can be made, by its rows of tables_1 -/
def lw_okq (q : MethodName × Nat) : Prop := (q.1.cls ≠ "java/lang/invoke/MethodHandle" ∧ q.1.cls ≠ "java/lang/invoke/VarHandle") ∧ Cond.instantiable q.1.cls q.2 ∈ tables_1 ∧ Cond.privateMethod q.1 ∈ tables_1 ∧ Cond.instanceMethod q.1 ∈ tables_1
theorem lw_p0 : lw_okq (⟨"StarHerds$Plain", "isTaken", "(I)Z"⟩, 9) := ⟨⟨by decide +kernel, by decide +kernel⟩, List.mem_of_getElem? (i := 35) (by decide +kernel), List.mem_of_getElem? (i := 352) (by decide +kernel), List.mem_of_getElem? (i := 353) (by decide +kernel)⟩
theorem lw_p1 : lw_okq (⟨"StarHerds$Lamps", "stands", "(I)Z"⟩, 6) := ⟨⟨by decide +kernel, by decide +kernel⟩, List.mem_of_getElem? (i := 41) (by decide +kernel), List.mem_of_getElem? (i := 356) (by decide +kernel), List.mem_of_getElem? (i := 357) (by decide +kernel)⟩
theorem lw_p2 : lw_okq (⟨"StarHerds$Herds", "isOn", "(I)Z"⟩, 6) := ⟨⟨by decide +kernel, by decide +kernel⟩, List.mem_of_getElem? (i := 77) (by decide +kernel), List.mem_of_getElem? (i := 360) (by decide +kernel), List.mem_of_getElem? (i := 361) (by decide +kernel)⟩
theorem lw_p3 : lw_okq (⟨"StarHerds", "setLamp", "(IIIIZ)Z"⟩, 8) := ⟨⟨by decide +kernel, by decide +kernel⟩, List.mem_of_getElem? (i := 21) (by decide +kernel), List.mem_of_getElem? (i := 368) (by decide +kernel), List.mem_of_getElem? (i := 369) (by decide +kernel)⟩
theorem lw_p4 : lw_okq (⟨"StarHerds$Plain", "sortAt", "(I)I"⟩, 9) := ⟨⟨by decide +kernel, by decide +kernel⟩, List.mem_of_getElem? (i := 35) (by decide +kernel), List.mem_of_getElem? (i := 372) (by decide +kernel), List.mem_of_getElem? (i := 373) (by decide +kernel)⟩
theorem lw_p5 : lw_okq (⟨"StarHerds", "isInnThere", "(I)Z"⟩, 8) := ⟨⟨by decide +kernel, by decide +kernel⟩, List.mem_of_getElem? (i := 21) (by decide +kernel), List.mem_of_getElem? (i := 389) (by decide +kernel), List.mem_of_getElem? (i := 390) (by decide +kernel)⟩
theorem lw_p6 : lw_okq (⟨"StarHerds$Herds", "isTold", "(I)Z"⟩, 6) := ⟨⟨by decide +kernel, by decide +kernel⟩, List.mem_of_getElem? (i := 77) (by decide +kernel), List.mem_of_getElem? (i := 401) (by decide +kernel), List.mem_of_getElem? (i := 402) (by decide +kernel)⟩
theorem lw_p7 : lw_okq (⟨"StarHerds$Tape", "add", "(I)V"⟩, 2) := ⟨⟨by decide +kernel, by decide +kernel⟩, List.mem_of_getElem? (i := 277) (by decide +kernel), List.mem_of_getElem? (i := 413) (by decide +kernel), List.mem_of_getElem? (i := 414) (by decide +kernel)⟩
theorem lw_p8 : lw_okq (⟨"StarHerds$LawReader", "read", "(I)I"⟩, 6) := ⟨⟨by decide +kernel, by decide +kernel⟩, List.mem_of_getElem? (i := 271) (by decide +kernel), List.mem_of_getElem? (i := 421) (by decide +kernel), List.mem_of_getElem? (i := 422) (by decide +kernel)⟩
theorem lw_p9 : lw_okq (⟨"StarHerds$Law", "clear", "()V"⟩, 10) := ⟨⟨by decide +kernel, by decide +kernel⟩, List.mem_of_getElem? (i := 165) (by decide +kernel), List.mem_of_getElem? (i := 425) (by decide +kernel), List.mem_of_getElem? (i := 426) (by decide +kernel)⟩
theorem lw_p10 : lw_okq (⟨"StarHerds$LawReader", "goTo", "(I)V"⟩, 6) := ⟨⟨by decide +kernel, by decide +kernel⟩, List.mem_of_getElem? (i := 271) (by decide +kernel), List.mem_of_getElem? (i := 429) (by decide +kernel), List.mem_of_getElem? (i := 430) (by decide +kernel)⟩
theorem lw_p11 : lw_okq (⟨"StarHerds$LawReader", "readClause", "()Z"⟩, 6) := ⟨⟨by decide +kernel, by decide +kernel⟩, List.mem_of_getElem? (i := 271) (by decide +kernel), List.mem_of_getElem? (i := 433) (by decide +kernel), List.mem_of_getElem? (i := 434) (by decide +kernel)⟩
theorem lw_p12 : lw_okq (⟨"StarHerds$LawReader", "placeIn", "(Ljava/lang/String;)I"⟩, 6) := ⟨⟨by decide +kernel, by decide +kernel⟩, List.mem_of_getElem? (i := 271) (by decide +kernel), List.mem_of_getElem? (i := 438) (by decide +kernel), List.mem_of_getElem? (i := 439) (by decide +kernel)⟩
theorem lw_p13 : lw_okq (⟨"StarHerds$LawReader", "fail", "(I)Z"⟩, 6) := ⟨⟨by decide +kernel, by decide +kernel⟩, List.mem_of_getElem? (i := 271) (by decide +kernel), List.mem_of_getElem? (i := 528) (by decide +kernel), List.mem_of_getElem? (i := 529) (by decide +kernel)⟩
theorem lw_p14 : lw_okq (⟨"StarHerds$LawReader", "readSum", "(I)Z"⟩, 6) := ⟨⟨by decide +kernel, by decide +kernel⟩, List.mem_of_getElem? (i := 271) (by decide +kernel), List.mem_of_getElem? (i := 532) (by decide +kernel), List.mem_of_getElem? (i := 533) (by decide +kernel)⟩
theorem lw_p15 : lw_okq (⟨"StarHerds$LawReader", "readTerm", "(I)Z"⟩, 6) := ⟨⟨by decide +kernel, by decide +kernel⟩, List.mem_of_getElem? (i := 271) (by decide +kernel), List.mem_of_getElem? (i := 536) (by decide +kernel), List.mem_of_getElem? (i := 537) (by decide +kernel)⟩
def lw_privs_1 : List (MethodName × Nat) := [(⟨"StarHerds$Plain", "isTaken", "(I)Z"⟩, 9), (⟨"StarHerds$Lamps", "stands", "(I)Z"⟩, 6), (⟨"StarHerds$Herds", "isOn", "(I)Z"⟩, 6), (⟨"StarHerds", "setLamp", "(IIIIZ)Z"⟩, 8), (⟨"StarHerds$Plain", "sortAt", "(I)I"⟩, 9), (⟨"StarHerds", "isInnThere", "(I)Z"⟩, 8), (⟨"StarHerds$Herds", "isTold", "(I)Z"⟩, 6), (⟨"StarHerds$Tape", "add", "(I)V"⟩, 2), (⟨"StarHerds$LawReader", "read", "(I)I"⟩, 6), (⟨"StarHerds$Law", "clear", "()V"⟩, 10), (⟨"StarHerds$LawReader", "goTo", "(I)V"⟩, 6), (⟨"StarHerds$LawReader", "readClause", "()Z"⟩, 6), (⟨"StarHerds$LawReader", "placeIn", "(Ljava/lang/String;)I"⟩, 6), (⟨"StarHerds$LawReader", "fail", "(I)Z"⟩, 6), (⟨"StarHerds$LawReader", "readSum", "(I)Z"⟩, 6), (⟨"StarHerds$LawReader", "readTerm", "(I)Z"⟩, 6)]
theorem lw_r1 : ∀ q ∈ lw_privs_1, lw_okq q := List.forall_mem_cons.mpr ⟨lw_p0, List.forall_mem_cons.mpr ⟨lw_p1, List.forall_mem_cons.mpr ⟨lw_p2, List.forall_mem_cons.mpr ⟨lw_p3, List.forall_mem_cons.mpr ⟨lw_p4, List.forall_mem_cons.mpr ⟨lw_p5, List.forall_mem_cons.mpr ⟨lw_p6, List.forall_mem_cons.mpr ⟨lw_p7, List.forall_mem_cons.mpr ⟨lw_p8, List.forall_mem_cons.mpr ⟨lw_p9, List.forall_mem_cons.mpr ⟨lw_p10, List.forall_mem_cons.mpr ⟨lw_p11, List.forall_mem_cons.mpr ⟨lw_p12, List.forall_mem_cons.mpr ⟨lw_p13, List.forall_mem_cons.mpr ⟨lw_p14, List.forall_mem_cons.mpr ⟨lw_p15, fun _ h => absurd h List.not_mem_nil⟩⟩⟩⟩⟩⟩⟩⟩⟩⟩⟩⟩⟩⟩⟩⟩
theorem lw_p16 : lw_okq (⟨"StarHerds$LawReader", "readFactor", "(I)Z"⟩, 6) := ⟨⟨by decide +kernel, by decide +kernel⟩, List.mem_of_getElem? (i := 271) (by decide +kernel), List.mem_of_getElem? (i := 540) (by decide +kernel), List.mem_of_getElem? (i := 541) (by decide +kernel)⟩
theorem lw_p17 : lw_okq (⟨"StarHerds$LawReader", "readNumber", "()Z"⟩, 6) := ⟨⟨by decide +kernel, by decide +kernel⟩, List.mem_of_getElem? (i := 271) (by decide +kernel), List.mem_of_getElem? (i := 544) (by decide +kernel), List.mem_of_getElem? (i := 545) (by decide +kernel)⟩
theorem lw_p18 : lw_okq (⟨"StarHerds$Law", "add", "(II)I"⟩, 10) := ⟨⟨by decide +kernel, by decide +kernel⟩, List.mem_of_getElem? (i := 165) (by decide +kernel), List.mem_of_getElem? (i := 548) (by decide +kernel), List.mem_of_getElem? (i := 549) (by decide +kernel)⟩
theorem lw_p19 : lw_okq (⟨"StarHerds$LawReader", "take", "(I)Z"⟩, 6) := ⟨⟨by decide +kernel, by decide +kernel⟩, List.mem_of_getElem? (i := 271) (by decide +kernel), List.mem_of_getElem? (i := 552) (by decide +kernel), List.mem_of_getElem? (i := 553) (by decide +kernel)⟩
theorem lw_p20 : lw_okq (⟨"StarHerds$LawReader", "readChoice", "(I)Z"⟩, 6) := ⟨⟨by decide +kernel, by decide +kernel⟩, List.mem_of_getElem? (i := 271) (by decide +kernel), List.mem_of_getElem? (i := 557) (by decide +kernel), List.mem_of_getElem? (i := 558) (by decide +kernel)⟩
theorem lw_p21 : lw_okq (⟨"StarHerds$LawReader", "readPart", "(I)Z"⟩, 6) := ⟨⟨by decide +kernel, by decide +kernel⟩, List.mem_of_getElem? (i := 271) (by decide +kernel), List.mem_of_getElem? (i := 561) (by decide +kernel), List.mem_of_getElem? (i := 562) (by decide +kernel)⟩
theorem lw_p22 : lw_okq (⟨"StarHerds$LawReader", "readPiece", "(I)Z"⟩, 6) := ⟨⟨by decide +kernel, by decide +kernel⟩, List.mem_of_getElem? (i := 271) (by decide +kernel), List.mem_of_getElem? (i := 565) (by decide +kernel), List.mem_of_getElem? (i := 566) (by decide +kernel)⟩
theorem lw_p23 : lw_okq (⟨"StarHerds$LawReader", "readComparison", "(I)Z"⟩, 6) := ⟨⟨by decide +kernel, by decide +kernel⟩, List.mem_of_getElem? (i := 271) (by decide +kernel), List.mem_of_getElem? (i := 569) (by decide +kernel), List.mem_of_getElem? (i := 570) (by decide +kernel)⟩
theorem lw_p24 : lw_okq (⟨"StarHerds$Law", "aim", "(I)V"⟩, 10) := ⟨⟨by decide +kernel, by decide +kernel⟩, List.mem_of_getElem? (i := 165) (by decide +kernel), List.mem_of_getElem? (i := 573) (by decide +kernel), List.mem_of_getElem? (i := 574) (by decide +kernel)⟩
theorem lw_p25 : lw_okq (⟨"StarHerds$Law", "addClause", "(III)V"⟩, 10) := ⟨⟨by decide +kernel, by decide +kernel⟩, List.mem_of_getElem? (i := 165) (by decide +kernel), List.mem_of_getElem? (i := 577) (by decide +kernel), List.mem_of_getElem? (i := 578) (by decide +kernel)⟩
theorem lw_p26 : lw_okq (⟨"StarHerds$Law", "become", "(LStarHerds$Law;)V"⟩, 10) := ⟨⟨by decide +kernel, by decide +kernel⟩, List.mem_of_getElem? (i := 165) (by decide +kernel), List.mem_of_getElem? (i := 581) (by decide +kernel), List.mem_of_getElem? (i := 582) (by decide +kernel)⟩
theorem lw_p27 : lw_okq (⟨"StarHerds$Crossing", "beer", "(LStarHerds$Plain;I)I"⟩, 3) := ⟨⟨by decide +kernel, by decide +kernel⟩, List.mem_of_getElem? (i := 159) (by decide +kernel), List.mem_of_getElem? (i := 593) (by decide +kernel), List.mem_of_getElem? (i := 594) (by decide +kernel)⟩
theorem lw_p28 : lw_okq (⟨"StarHerds$Crossing", "tellTime", "(LStarHerds$Plain;I)V"⟩, 3) := ⟨⟨by decide +kernel, by decide +kernel⟩, List.mem_of_getElem? (i := 159) (by decide +kernel), List.mem_of_getElem? (i := 597) (by decide +kernel), List.mem_of_getElem? (i := 598) (by decide +kernel)⟩
theorem lw_p29 : lw_okq (⟨"StarHerds$Plain", "kindOfLamp", "(I)I"⟩, 9) := ⟨⟨by decide +kernel, by decide +kernel⟩, List.mem_of_getElem? (i := 35) (by decide +kernel), List.mem_of_getElem? (i := 604) (by decide +kernel), List.mem_of_getElem? (i := 605) (by decide +kernel)⟩
theorem lw_p30 : lw_okq (⟨"StarHerds$Lamps", "tell", "(II)I"⟩, 6) := ⟨⟨by decide +kernel, by decide +kernel⟩, List.mem_of_getElem? (i := 41) (by decide +kernel), List.mem_of_getElem? (i := 608) (by decide +kernel), List.mem_of_getElem? (i := 609) (by decide +kernel)⟩
theorem lw_p31 : lw_okq (⟨"StarHerds$Law", "ask", "(I[I)I"⟩, 10) := ⟨⟨by decide +kernel, by decide +kernel⟩, List.mem_of_getElem? (i := 165) (by decide +kernel), List.mem_of_getElem? (i := 614) (by decide +kernel), List.mem_of_getElem? (i := 615) (by decide +kernel)⟩
def lw_privs_2 : List (MethodName × Nat) := [(⟨"StarHerds$LawReader", "readFactor", "(I)Z"⟩, 6), (⟨"StarHerds$LawReader", "readNumber", "()Z"⟩, 6), (⟨"StarHerds$Law", "add", "(II)I"⟩, 10), (⟨"StarHerds$LawReader", "take", "(I)Z"⟩, 6), (⟨"StarHerds$LawReader", "readChoice", "(I)Z"⟩, 6), (⟨"StarHerds$LawReader", "readPart", "(I)Z"⟩, 6), (⟨"StarHerds$LawReader", "readPiece", "(I)Z"⟩, 6), (⟨"StarHerds$LawReader", "readComparison", "(I)Z"⟩, 6), (⟨"StarHerds$Law", "aim", "(I)V"⟩, 10), (⟨"StarHerds$Law", "addClause", "(III)V"⟩, 10), (⟨"StarHerds$Law", "become", "(LStarHerds$Law;)V"⟩, 10), (⟨"StarHerds$Crossing", "beer", "(LStarHerds$Plain;I)I"⟩, 3), (⟨"StarHerds$Crossing", "tellTime", "(LStarHerds$Plain;I)V"⟩, 3), (⟨"StarHerds$Plain", "kindOfLamp", "(I)I"⟩, 9), (⟨"StarHerds$Lamps", "tell", "(II)I"⟩, 6), (⟨"StarHerds$Law", "ask", "(I[I)I"⟩, 10)]
theorem lw_r2 : ∀ q ∈ lw_privs_2, lw_okq q := List.forall_mem_cons.mpr ⟨lw_p16, List.forall_mem_cons.mpr ⟨lw_p17, List.forall_mem_cons.mpr ⟨lw_p18, List.forall_mem_cons.mpr ⟨lw_p19, List.forall_mem_cons.mpr ⟨lw_p20, List.forall_mem_cons.mpr ⟨lw_p21, List.forall_mem_cons.mpr ⟨lw_p22, List.forall_mem_cons.mpr ⟨lw_p23, List.forall_mem_cons.mpr ⟨lw_p24, List.forall_mem_cons.mpr ⟨lw_p25, List.forall_mem_cons.mpr ⟨lw_p26, List.forall_mem_cons.mpr ⟨lw_p27, List.forall_mem_cons.mpr ⟨lw_p28, List.forall_mem_cons.mpr ⟨lw_p29, List.forall_mem_cons.mpr ⟨lw_p30, List.forall_mem_cons.mpr ⟨lw_p31, fun _ h => absurd h List.not_mem_nil⟩⟩⟩⟩⟩⟩⟩⟩⟩⟩⟩⟩⟩⟩⟩⟩
theorem lw_p32 : lw_okq (⟨"StarHerds$Law", "run", "(I[I)Z"⟩, 10) := ⟨⟨by decide +kernel, by decide +kernel⟩, List.mem_of_getElem? (i := 165) (by decide +kernel), List.mem_of_getElem? (i := 622) (by decide +kernel), List.mem_of_getElem? (i := 623) (by decide +kernel)⟩
theorem lw_p33 : lw_okq (⟨"StarHerds$Plain", "isLit", "(I)Z"⟩, 9) := ⟨⟨by decide +kernel, by decide +kernel⟩, List.mem_of_getElem? (i := 35) (by decide +kernel), List.mem_of_getElem? (i := 640) (by decide +kernel), List.mem_of_getElem? (i := 641) (by decide +kernel)⟩
theorem lw_p34 : lw_okq (⟨"StarHerds$Lamps", "isLit", "(I)Z"⟩, 6) := ⟨⟨by decide +kernel, by decide +kernel⟩, List.mem_of_getElem? (i := 41) (by decide +kernel), List.mem_of_getElem? (i := 644) (by decide +kernel), List.mem_of_getElem? (i := 645) (by decide +kernel)⟩
theorem lw_p35 : lw_okq (⟨"StarHerds$Plain", "isThere", "(I)Z"⟩, 9) := ⟨⟨by decide +kernel, by decide +kernel⟩, List.mem_of_getElem? (i := 35) (by decide +kernel), List.mem_of_getElem? (i := 653) (by decide +kernel), List.mem_of_getElem? (i := 654) (by decide +kernel)⟩
theorem lw_p36 : lw_okq (⟨"StarHerds$Crossing", "pullOf", "(LStarHerds$Plain;II)I"⟩, 3) := ⟨⟨by decide +kernel, by decide +kernel⟩, List.mem_of_getElem? (i := 159) (by decide +kernel), List.mem_of_getElem? (i := 657) (by decide +kernel), List.mem_of_getElem? (i := 658) (by decide +kernel)⟩
theorem lw_p37 : lw_okq (⟨"StarHerds$Crossing", "tellHerd", "(LStarHerds$Plain;II)V"⟩, 3) := ⟨⟨by decide +kernel, by decide +kernel⟩, List.mem_of_getElem? (i := 159) (by decide +kernel), List.mem_of_getElem? (i := 661) (by decide +kernel), List.mem_of_getElem? (i := 662) (by decide +kernel)⟩
theorem lw_p38 : lw_okq (⟨"StarHerds$Plain", "isClouded", "()Z"⟩, 9) := ⟨⟨by decide +kernel, by decide +kernel⟩, List.mem_of_getElem? (i := 35) (by decide +kernel), List.mem_of_getElem? (i := 666) (by decide +kernel), List.mem_of_getElem? (i := 667) (by decide +kernel)⟩
theorem lw_p39 : lw_okq (⟨"StarHerds$Crossing", "tellLamp", "(LStarHerds$Plain;II)V"⟩, 3) := ⟨⟨by decide +kernel, by decide +kernel⟩, List.mem_of_getElem? (i := 159) (by decide +kernel), List.mem_of_getElem? (i := 670) (by decide +kernel), List.mem_of_getElem? (i := 671) (by decide +kernel)⟩
theorem lw_p40 : lw_okq (⟨"StarHerds$Plain", "squareOfLamp", "(I)I"⟩, 9) := ⟨⟨by decide +kernel, by decide +kernel⟩, List.mem_of_getElem? (i := 35) (by decide +kernel), List.mem_of_getElem? (i := 674) (by decide +kernel), List.mem_of_getElem? (i := 675) (by decide +kernel)⟩
theorem lw_p41 : lw_okq (⟨"StarHerds$Crossing", "goalOf", "(LStarHerds$Plain;I)I"⟩, 3) := ⟨⟨by decide +kernel, by decide +kernel⟩, List.mem_of_getElem? (i := 159) (by decide +kernel), List.mem_of_getElem? (i := 685) (by decide +kernel), List.mem_of_getElem? (i := 686) (by decide +kernel)⟩
theorem lw_p42 : lw_okq (⟨"StarHerds$Crossing", "passHours", "(LStarHerds$Plain;I)I"⟩, 3) := ⟨⟨by decide +kernel, by decide +kernel⟩, List.mem_of_getElem? (i := 159) (by decide +kernel), List.mem_of_getElem? (i := 695) (by decide +kernel), List.mem_of_getElem? (i := 696) (by decide +kernel)⟩
theorem lw_p43 : lw_okq (⟨"StarHerds$Plain", "draw", "()I"⟩, 9) := ⟨⟨by decide +kernel, by decide +kernel⟩, List.mem_of_getElem? (i := 35) (by decide +kernel), List.mem_of_getElem? (i := 699) (by decide +kernel), List.mem_of_getElem? (i := 700) (by decide +kernel)⟩
theorem lw_p44 : lw_okq (⟨"StarHerds$Crossing", "passHour", "(LStarHerds$Plain;I)I"⟩, 3) := ⟨⟨by decide +kernel, by decide +kernel⟩, List.mem_of_getElem? (i := 159) (by decide +kernel), List.mem_of_getElem? (i := 704) (by decide +kernel), List.mem_of_getElem? (i := 705) (by decide +kernel)⟩
theorem lw_p45 : lw_okq (⟨"StarHerds$Crossing", "moveHerd", "(LStarHerds$Plain;II)I"⟩, 3) := ⟨⟨by decide +kernel, by decide +kernel⟩, List.mem_of_getElem? (i := 159) (by decide +kernel), List.mem_of_getElem? (i := 709) (by decide +kernel), List.mem_of_getElem? (i := 710) (by decide +kernel)⟩
theorem lw_p46 : lw_okq (⟨"StarHerds$Crossing", "askOf", "(LStarHerds$Plain;III)I"⟩, 3) := ⟨⟨by decide +kernel, by decide +kernel⟩, List.mem_of_getElem? (i := 159) (by decide +kernel), List.mem_of_getElem? (i := 714) (by decide +kernel), List.mem_of_getElem? (i := 715) (by decide +kernel)⟩
theorem lw_p47 : lw_okq (⟨"StarHerds$Crossing", "stampede", "(LStarHerds$Plain;II)V"⟩, 3) := ⟨⟨by decide +kernel, by decide +kernel⟩, List.mem_of_getElem? (i := 159) (by decide +kernel), List.mem_of_getElem? (i := 718) (by decide +kernel), List.mem_of_getElem? (i := 719) (by decide +kernel)⟩
def lw_privs_3 : List (MethodName × Nat) := [(⟨"StarHerds$Law", "run", "(I[I)Z"⟩, 10), (⟨"StarHerds$Plain", "isLit", "(I)Z"⟩, 9), (⟨"StarHerds$Lamps", "isLit", "(I)Z"⟩, 6), (⟨"StarHerds$Plain", "isThere", "(I)Z"⟩, 9), (⟨"StarHerds$Crossing", "pullOf", "(LStarHerds$Plain;II)I"⟩, 3), (⟨"StarHerds$Crossing", "tellHerd", "(LStarHerds$Plain;II)V"⟩, 3), (⟨"StarHerds$Plain", "isClouded", "()Z"⟩, 9), (⟨"StarHerds$Crossing", "tellLamp", "(LStarHerds$Plain;II)V"⟩, 3), (⟨"StarHerds$Plain", "squareOfLamp", "(I)I"⟩, 9), (⟨"StarHerds$Crossing", "goalOf", "(LStarHerds$Plain;I)I"⟩, 3), (⟨"StarHerds$Crossing", "passHours", "(LStarHerds$Plain;I)I"⟩, 3), (⟨"StarHerds$Plain", "draw", "()I"⟩, 9), (⟨"StarHerds$Crossing", "passHour", "(LStarHerds$Plain;I)I"⟩, 3), (⟨"StarHerds$Crossing", "moveHerd", "(LStarHerds$Plain;II)I"⟩, 3), (⟨"StarHerds$Crossing", "askOf", "(LStarHerds$Plain;III)I"⟩, 3), (⟨"StarHerds$Crossing", "stampede", "(LStarHerds$Plain;II)V"⟩, 3)]
theorem lw_r3 : ∀ q ∈ lw_privs_3, lw_okq q := List.forall_mem_cons.mpr ⟨lw_p32, List.forall_mem_cons.mpr ⟨lw_p33, List.forall_mem_cons.mpr ⟨lw_p34, List.forall_mem_cons.mpr ⟨lw_p35, List.forall_mem_cons.mpr ⟨lw_p36, List.forall_mem_cons.mpr ⟨lw_p37, List.forall_mem_cons.mpr ⟨lw_p38, List.forall_mem_cons.mpr ⟨lw_p39, List.forall_mem_cons.mpr ⟨lw_p40, List.forall_mem_cons.mpr ⟨lw_p41, List.forall_mem_cons.mpr ⟨lw_p42, List.forall_mem_cons.mpr ⟨lw_p43, List.forall_mem_cons.mpr ⟨lw_p44, List.forall_mem_cons.mpr ⟨lw_p45, List.forall_mem_cons.mpr ⟨lw_p46, List.forall_mem_cons.mpr ⟨lw_p47, fun _ h => absurd h List.not_mem_nil⟩⟩⟩⟩⟩⟩⟩⟩⟩⟩⟩⟩⟩⟩⟩⟩
theorem lw_p48 : lw_okq (⟨"StarHerds$Crossing", "step", "(LStarHerds$Plain;III)Z"⟩, 3) := ⟨⟨by decide +kernel, by decide +kernel⟩, List.mem_of_getElem? (i := 159) (by decide +kernel), List.mem_of_getElem? (i := 726) (by decide +kernel), List.mem_of_getElem? (i := 727) (by decide +kernel)⟩
theorem lw_p49 : lw_okq (⟨"StarHerds$Crossing", "follow", "(LStarHerds$Plain;II)V"⟩, 3) := ⟨⟨by decide +kernel, by decide +kernel⟩, List.mem_of_getElem? (i := 159) (by decide +kernel), List.mem_of_getElem? (i := 731) (by decide +kernel), List.mem_of_getElem? (i := 732) (by decide +kernel)⟩
theorem lw_p50 : lw_okq (⟨"StarHerds$Crossing", "goOn", "(LStarHerds$Plain;I)V"⟩, 3) := ⟨⟨by decide +kernel, by decide +kernel⟩, List.mem_of_getElem? (i := 159) (by decide +kernel), List.mem_of_getElem? (i := 738) (by decide +kernel), List.mem_of_getElem? (i := 739) (by decide +kernel)⟩
theorem lw_p51 : lw_okq (⟨"StarHerds$Crossing", "lose", "(LStarHerds$Herds;II)I"⟩, 3) := ⟨⟨by decide +kernel, by decide +kernel⟩, List.mem_of_getElem? (i := 159) (by decide +kernel), List.mem_of_getElem? (i := 742) (by decide +kernel), List.mem_of_getElem? (i := 743) (by decide +kernel)⟩
theorem lw_p52 : lw_okq (⟨"StarHerds$Plain", "endHour", "()V"⟩, 9) := ⟨⟨by decide +kernel, by decide +kernel⟩, List.mem_of_getElem? (i := 35) (by decide +kernel), List.mem_of_getElem? (i := 747) (by decide +kernel), List.mem_of_getElem? (i := 748) (by decide +kernel)⟩
theorem lw_p53 : lw_okq (⟨"StarHerds$Lamps", "endNight", "()V"⟩, 6) := ⟨⟨by decide +kernel, by decide +kernel⟩, List.mem_of_getElem? (i := 41) (by decide +kernel), List.mem_of_getElem? (i := 751) (by decide +kernel), List.mem_of_getElem? (i := 752) (by decide +kernel)⟩
theorem lw_p54 : lw_okq (⟨"StarHerds", "isTriedAsked", "(I)Z"⟩, 8) := ⟨⟨by decide +kernel, by decide +kernel⟩, List.mem_of_getElem? (i := 21) (by decide +kernel), List.mem_of_getElem? (i := 765) (by decide +kernel), List.mem_of_getElem? (i := 766) (by decide +kernel)⟩
theorem lw_p55 : lw_okq (⟨"StarHerds$Plain", "become", "(LStarHerds$Plain;)V"⟩, 9) := ⟨⟨by decide +kernel, by decide +kernel⟩, List.mem_of_getElem? (i := 35) (by decide +kernel), List.mem_of_getElem? (i := 769) (by decide +kernel), List.mem_of_getElem? (i := 770) (by decide +kernel)⟩
theorem lw_p56 : lw_okq (⟨"StarHerds$Lamps", "become", "(LStarHerds$Lamps;)V"⟩, 6) := ⟨⟨by decide +kernel, by decide +kernel⟩, List.mem_of_getElem? (i := 41) (by decide +kernel), List.mem_of_getElem? (i := 774) (by decide +kernel), List.mem_of_getElem? (i := 775) (by decide +kernel)⟩
theorem lw_p57 : lw_okq (⟨"StarHerds$Herds", "become", "(LStarHerds$Herds;)V"⟩, 6) := ⟨⟨by decide +kernel, by decide +kernel⟩, List.mem_of_getElem? (i := 77) (by decide +kernel), List.mem_of_getElem? (i := 779) (by decide +kernel), List.mem_of_getElem? (i := 780) (by decide +kernel)⟩
theorem lw_p58 : lw_okq (⟨"StarHerds$Herds", "living", "()I"⟩, 6) := ⟨⟨by decide +kernel, by decide +kernel⟩, List.mem_of_getElem? (i := 77) (by decide +kernel), List.mem_of_getElem? (i := 784) (by decide +kernel), List.mem_of_getElem? (i := 785) (by decide +kernel)⟩
theorem lw_p59 : lw_okq (⟨"StarHerds$Herds", "livingThrough", "()I"⟩, 6) := ⟨⟨by decide +kernel, by decide +kernel⟩, List.mem_of_getElem? (i := 77) (by decide +kernel), List.mem_of_getElem? (i := 788) (by decide +kernel), List.mem_of_getElem? (i := 789) (by decide +kernel)⟩
theorem lw_p60 : lw_okq (⟨"StarHerds$Herds", "tell", "(II)I"⟩, 6) := ⟨⟨by decide +kernel, by decide +kernel⟩, List.mem_of_getElem? (i := 77) (by decide +kernel), List.mem_of_getElem? (i := 792) (by decide +kernel), List.mem_of_getElem? (i := 793) (by decide +kernel)⟩
theorem lw_p61 : lw_okq (⟨"StarHerds$Outlook", "weighSets", "()V"⟩, 15) := ⟨⟨by decide +kernel, by decide +kernel⟩, List.mem_of_getElem? (i := 29) (by decide +kernel), List.mem_of_getElem? (i := 815) (by decide +kernel), List.mem_of_getElem? (i := 816) (by decide +kernel)⟩
theorem lw_p62 : lw_okq (⟨"StarHerds$Outlook", "chooseInns", "(I)V"⟩, 15) := ⟨⟨by decide +kernel, by decide +kernel⟩, List.mem_of_getElem? (i := 29) (by decide +kernel), List.mem_of_getElem? (i := 819) (by decide +kernel), List.mem_of_getElem? (i := 820) (by decide +kernel)⟩
theorem lw_p63 : lw_okq (⟨"StarHerds$Outlook", "isSet", "(I)Z"⟩, 15) := ⟨⟨by decide +kernel, by decide +kernel⟩, List.mem_of_getElem? (i := 29) (by decide +kernel), List.mem_of_getElem? (i := 826) (by decide +kernel), List.mem_of_getElem? (i := 827) (by decide +kernel)⟩
def lw_privs_4 : List (MethodName × Nat) := [(⟨"StarHerds$Crossing", "step", "(LStarHerds$Plain;III)Z"⟩, 3), (⟨"StarHerds$Crossing", "follow", "(LStarHerds$Plain;II)V"⟩, 3), (⟨"StarHerds$Crossing", "goOn", "(LStarHerds$Plain;I)V"⟩, 3), (⟨"StarHerds$Crossing", "lose", "(LStarHerds$Herds;II)I"⟩, 3), (⟨"StarHerds$Plain", "endHour", "()V"⟩, 9), (⟨"StarHerds$Lamps", "endNight", "()V"⟩, 6), (⟨"StarHerds", "isTriedAsked", "(I)Z"⟩, 8), (⟨"StarHerds$Plain", "become", "(LStarHerds$Plain;)V"⟩, 9), (⟨"StarHerds$Lamps", "become", "(LStarHerds$Lamps;)V"⟩, 6), (⟨"StarHerds$Herds", "become", "(LStarHerds$Herds;)V"⟩, 6), (⟨"StarHerds$Herds", "living", "()I"⟩, 6), (⟨"StarHerds$Herds", "livingThrough", "()I"⟩, 6), (⟨"StarHerds$Herds", "tell", "(II)I"⟩, 6), (⟨"StarHerds$Outlook", "weighSets", "()V"⟩, 15), (⟨"StarHerds$Outlook", "chooseInns", "(I)V"⟩, 15), (⟨"StarHerds$Outlook", "isSet", "(I)Z"⟩, 15)]
theorem lw_r4 : ∀ q ∈ lw_privs_4, lw_okq q := List.forall_mem_cons.mpr ⟨lw_p48, List.forall_mem_cons.mpr ⟨lw_p49, List.forall_mem_cons.mpr ⟨lw_p50, List.forall_mem_cons.mpr ⟨lw_p51, List.forall_mem_cons.mpr ⟨lw_p52, List.forall_mem_cons.mpr ⟨lw_p53, List.forall_mem_cons.mpr ⟨lw_p54, List.forall_mem_cons.mpr ⟨lw_p55, List.forall_mem_cons.mpr ⟨lw_p56, List.forall_mem_cons.mpr ⟨lw_p57, List.forall_mem_cons.mpr ⟨lw_p58, List.forall_mem_cons.mpr ⟨lw_p59, List.forall_mem_cons.mpr ⟨lw_p60, List.forall_mem_cons.mpr ⟨lw_p61, List.forall_mem_cons.mpr ⟨lw_p62, List.forall_mem_cons.mpr ⟨lw_p63, fun _ h => absurd h List.not_mem_nil⟩⟩⟩⟩⟩⟩⟩⟩⟩⟩⟩⟩⟩⟩⟩⟩
theorem lw_p64 : lw_okq (⟨"StarHerds$Outlook", "lightSet", "(I)V"⟩, 15) := ⟨⟨by decide +kernel, by decide +kernel⟩, List.mem_of_getElem? (i := 29) (by decide +kernel), List.mem_of_getElem? (i := 830) (by decide +kernel), List.mem_of_getElem? (i := 831) (by decide +kernel)⟩
theorem lw_p65 : lw_okq (⟨"StarHerds$Lamps", "light", "(IZ)V"⟩, 6) := ⟨⟨by decide +kernel, by decide +kernel⟩, List.mem_of_getElem? (i := 41) (by decide +kernel), List.mem_of_getElem? (i := 835) (by decide +kernel), List.mem_of_getElem? (i := 836) (by decide +kernel)⟩
theorem lw_p66 : lw_okq (⟨"StarHerds$Plain", "hoursLeft", "()I"⟩, 9) := ⟨⟨by decide +kernel, by decide +kernel⟩, List.mem_of_getElem? (i := 35) (by decide +kernel), List.mem_of_getElem? (i := 839) (by decide +kernel), List.mem_of_getElem? (i := 840) (by decide +kernel)⟩
theorem lw_p67 : lw_okq (⟨"StarHerds$Outlook", "note", "(II)V"⟩, 15) := ⟨⟨by decide +kernel, by decide +kernel⟩, List.mem_of_getElem? (i := 29) (by decide +kernel), List.mem_of_getElem? (i := 845) (by decide +kernel), List.mem_of_getElem? (i := 846) (by decide +kernel)⟩
theorem lw_p68 : lw_okq (⟨"StarHerds$Outlook", "takeBeers", "()V"⟩, 15) := ⟨⟨by decide +kernel, by decide +kernel⟩, List.mem_of_getElem? (i := 29) (by decide +kernel), List.mem_of_getElem? (i := 849) (by decide +kernel), List.mem_of_getElem? (i := 850) (by decide +kernel)⟩
theorem lw_p69 : lw_okq (⟨"StarHerds$Outlook", "fillCosts", "()V"⟩, 15) := ⟨⟨by decide +kernel, by decide +kernel⟩, List.mem_of_getElem? (i := 29) (by decide +kernel), List.mem_of_getElem? (i := 854) (by decide +kernel), List.mem_of_getElem? (i := 855) (by decide +kernel)⟩
theorem lw_p70 : lw_okq (⟨"StarHerds$Outlook", "costOf", "(I)I"⟩, 15) := ⟨⟨by decide +kernel, by decide +kernel⟩, List.mem_of_getElem? (i := 29) (by decide +kernel), List.mem_of_getElem? (i := 862) (by decide +kernel), List.mem_of_getElem? (i := 863) (by decide +kernel)⟩
theorem lw_p71 : lw_okq (⟨"StarHerds$Outlook", "planBy", "(I)I"⟩, 15) := ⟨⟨by decide +kernel, by decide +kernel⟩, List.mem_of_getElem? (i := 29) (by decide +kernel), List.mem_of_getElem? (i := 866) (by decide +kernel), List.mem_of_getElem? (i := 867) (by decide +kernel)⟩
theorem lw_p72 : lw_okq (⟨"StarHerds$Outlook", "cameOf", "(I)I"⟩, 15) := ⟨⟨by decide +kernel, by decide +kernel⟩, List.mem_of_getElem? (i := 29) (by decide +kernel), List.mem_of_getElem? (i := 870) (by decide +kernel), List.mem_of_getElem? (i := 871) (by decide +kernel)⟩
theorem lw_p73 : lw_okq (⟨"StarHerds$Outlook", "lampsOf", "(I)I"⟩, 15) := ⟨⟨by decide +kernel, by decide +kernel⟩, List.mem_of_getElem? (i := 29) (by decide +kernel), List.mem_of_getElem? (i := 874) (by decide +kernel), List.mem_of_getElem? (i := 875) (by decide +kernel)⟩
theorem lw_p74 : lw_okq (⟨"StarHerds$Outlook", "safeSet", "()I"⟩, 15) := ⟨⟨by decide +kernel, by decide +kernel⟩, List.mem_of_getElem? (i := 29) (by decide +kernel), List.mem_of_getElem? (i := 884) (by decide +kernel), List.mem_of_getElem? (i := 885) (by decide +kernel)⟩
theorem lw_p75 : lw_okq (⟨"StarHerds$Outlook", "findPlace", "(I)V"⟩, 15) := ⟨⟨by decide +kernel, by decide +kernel⟩, List.mem_of_getElem? (i := 29) (by decide +kernel), List.mem_of_getElem? (i := 893) (by decide +kernel), List.mem_of_getElem? (i := 894) (by decide +kernel)⟩
theorem lw_p76 : lw_okq (⟨"StarHerds$Outlook", "clearFound", "()V"⟩, 15) := ⟨⟨by decide +kernel, by decide +kernel⟩, List.mem_of_getElem? (i := 29) (by decide +kernel), List.mem_of_getElem? (i := 897) (by decide +kernel), List.mem_of_getElem? (i := 898) (by decide +kernel)⟩
theorem lw_p77 : lw_okq (⟨"StarHerds$Outlook", "fillGains", "(III)V"⟩, 15) := ⟨⟨by decide +kernel, by decide +kernel⟩, List.mem_of_getElem? (i := 29) (by decide +kernel), List.mem_of_getElem? (i := 906) (by decide +kernel), List.mem_of_getElem? (i := 907) (by decide +kernel)⟩
theorem lw_p78 : lw_okq (⟨"StarHerds$Outlook", "findRest", "()V"⟩, 15) := ⟨⟨by decide +kernel, by decide +kernel⟩, List.mem_of_getElem? (i := 29) (by decide +kernel), List.mem_of_getElem? (i := 913) (by decide +kernel), List.mem_of_getElem? (i := 914) (by decide +kernel)⟩
theorem lw_p79 : lw_okq (⟨"StarHerds$Outlook", "found", "(I)V"⟩, 15) := ⟨⟨by decide +kernel, by decide +kernel⟩, List.mem_of_getElem? (i := 29) (by decide +kernel), List.mem_of_getElem? (i := 917) (by decide +kernel), List.mem_of_getElem? (i := 918) (by decide +kernel)⟩
def lw_privs_5 : List (MethodName × Nat) := [(⟨"StarHerds$Outlook", "lightSet", "(I)V"⟩, 15), (⟨"StarHerds$Lamps", "light", "(IZ)V"⟩, 6), (⟨"StarHerds$Plain", "hoursLeft", "()I"⟩, 9), (⟨"StarHerds$Outlook", "note", "(II)V"⟩, 15), (⟨"StarHerds$Outlook", "takeBeers", "()V"⟩, 15), (⟨"StarHerds$Outlook", "fillCosts", "()V"⟩, 15), (⟨"StarHerds$Outlook", "costOf", "(I)I"⟩, 15), (⟨"StarHerds$Outlook", "planBy", "(I)I"⟩, 15), (⟨"StarHerds$Outlook", "cameOf", "(I)I"⟩, 15), (⟨"StarHerds$Outlook", "lampsOf", "(I)I"⟩, 15), (⟨"StarHerds$Outlook", "safeSet", "()I"⟩, 15), (⟨"StarHerds$Outlook", "findPlace", "(I)V"⟩, 15), (⟨"StarHerds$Outlook", "clearFound", "()V"⟩, 15), (⟨"StarHerds$Outlook", "fillGains", "(III)V"⟩, 15), (⟨"StarHerds$Outlook", "findRest", "()V"⟩, 15), (⟨"StarHerds$Outlook", "found", "(I)V"⟩, 15)]
theorem lw_r5 : ∀ q ∈ lw_privs_5, lw_okq q := List.forall_mem_cons.mpr ⟨lw_p64, List.forall_mem_cons.mpr ⟨lw_p65, List.forall_mem_cons.mpr ⟨lw_p66, List.forall_mem_cons.mpr ⟨lw_p67, List.forall_mem_cons.mpr ⟨lw_p68, List.forall_mem_cons.mpr ⟨lw_p69, List.forall_mem_cons.mpr ⟨lw_p70, List.forall_mem_cons.mpr ⟨lw_p71, List.forall_mem_cons.mpr ⟨lw_p72, List.forall_mem_cons.mpr ⟨lw_p73, List.forall_mem_cons.mpr ⟨lw_p74, List.forall_mem_cons.mpr ⟨lw_p75, List.forall_mem_cons.mpr ⟨lw_p76, List.forall_mem_cons.mpr ⟨lw_p77, List.forall_mem_cons.mpr ⟨lw_p78, List.forall_mem_cons.mpr ⟨lw_p79, fun _ h => absurd h List.not_mem_nil⟩⟩⟩⟩⟩⟩⟩⟩⟩⟩⟩⟩⟩⟩⟩⟩
theorem lw_p80 : lw_okq (⟨"StarHerds$Herds", "onBits", "()I"⟩, 6) := ⟨⟨by decide +kernel, by decide +kernel⟩, List.mem_of_getElem? (i := 77) (by decide +kernel), List.mem_of_getElem? (i := 925) (by decide +kernel), List.mem_of_getElem? (i := 926) (by decide +kernel)⟩
theorem lw_p81 : lw_okq (⟨"StarHerds", "isLeft", "(I)Z"⟩, 8) := ⟨⟨by decide +kernel, by decide +kernel⟩, List.mem_of_getElem? (i := 21) (by decide +kernel), List.mem_of_getElem? (i := 935) (by decide +kernel), List.mem_of_getElem? (i := 936) (by decide +kernel)⟩
theorem lw_p82 : lw_okq (⟨"StarHerds$Outlook", "matchSets", "(ILStarHerds$Tape;)V"⟩, 15) := ⟨⟨by decide +kernel, by decide +kernel⟩, List.mem_of_getElem? (i := 29) (by decide +kernel), List.mem_of_getElem? (i := 939) (by decide +kernel), List.mem_of_getElem? (i := 940) (by decide +kernel)⟩
theorem lw_p83 : lw_okq (⟨"StarHerds$Outlook", "chooseStrays", "()V"⟩, 15) := ⟨⟨by decide +kernel, by decide +kernel⟩, List.mem_of_getElem? (i := 29) (by decide +kernel), List.mem_of_getElem? (i := 943) (by decide +kernel), List.mem_of_getElem? (i := 944) (by decide +kernel)⟩
theorem lw_p84 : lw_okq (⟨"StarHerds$Outlook", "isAsSeen", "(LStarHerds$Tape;)Z"⟩, 15) := ⟨⟨by decide +kernel, by decide +kernel⟩, List.mem_of_getElem? (i := 29) (by decide +kernel), List.mem_of_getElem? (i := 947) (by decide +kernel), List.mem_of_getElem? (i := 948) (by decide +kernel)⟩
theorem lw_p85 : lw_okq (⟨"StarHerds$Tape", "byteAt", "(I)I"⟩, 2) := ⟨⟨by decide +kernel, by decide +kernel⟩, List.mem_of_getElem? (i := 277) (by decide +kernel), List.mem_of_getElem? (i := 952) (by decide +kernel), List.mem_of_getElem? (i := 953) (by decide +kernel)⟩
theorem lw_p86 : lw_okq (⟨"StarHerds$Outlook", "findWhere", "(III)V"⟩, 15) := ⟨⟨by decide +kernel, by decide +kernel⟩, List.mem_of_getElem? (i := 29) (by decide +kernel), List.mem_of_getElem? (i := 960) (by decide +kernel), List.mem_of_getElem? (i := 961) (by decide +kernel)⟩
theorem lw_p87 : lw_okq (⟨"StarHerds$Outlook", "countDraws", "(II)I"⟩, 15) := ⟨⟨by decide +kernel, by decide +kernel⟩, List.mem_of_getElem? (i := 29) (by decide +kernel), List.mem_of_getElem? (i := 968) (by decide +kernel), List.mem_of_getElem? (i := 969) (by decide +kernel)⟩
theorem lw_p88 : lw_okq (⟨"StarHerds$Outlook", "countBehind", "(III)I"⟩, 15) := ⟨⟨by decide +kernel, by decide +kernel⟩, List.mem_of_getElem? (i := 29) (by decide +kernel), List.mem_of_getElem? (i := 972) (by decide +kernel), List.mem_of_getElem? (i := 973) (by decide +kernel)⟩
theorem lw_p89 : lw_okq (⟨"StarHerds$Crossing", "cloudTenths", "(LStarHerds$Plain;I)I"⟩, 3) := ⟨⟨by decide +kernel, by decide +kernel⟩, List.mem_of_getElem? (i := 159) (by decide +kernel), List.mem_of_getElem? (i := 990) (by decide +kernel), List.mem_of_getElem? (i := 991) (by decide +kernel)⟩
theorem lw_p90 : lw_okq (⟨"StarHerds$Tape", "numberAt", "(I)I"⟩, 2) := ⟨⟨by decide +kernel, by decide +kernel⟩, List.mem_of_getElem? (i := 277) (by decide +kernel), List.mem_of_getElem? (i := 1006) (by decide +kernel), List.mem_of_getElem? (i := 1007) (by decide +kernel)⟩
theorem lw_p91 : lw_okq (⟨"StarHerds$Herds", "toldBits", "()I"⟩, 6) := ⟨⟨by decide +kernel, by decide +kernel⟩, List.mem_of_getElem? (i := 77) (by decide +kernel), List.mem_of_getElem? (i := 1015) (by decide +kernel), List.mem_of_getElem? (i := 1016) (by decide +kernel)⟩
theorem lw_p92 : lw_okq (⟨"StarHerds$Plain", "litBits", "()I"⟩, 9) := ⟨⟨by decide +kernel, by decide +kernel⟩, List.mem_of_getElem? (i := 35) (by decide +kernel), List.mem_of_getElem? (i := 1019) (by decide +kernel), List.mem_of_getElem? (i := 1020) (by decide +kernel)⟩
theorem lw_p93 : lw_okq (⟨"StarHerdsModel", "isTaken", "(I)Z"⟩, 37) := ⟨⟨by decide +kernel, by decide +kernel⟩, List.mem_of_getElem? (i := 1024) (by decide +kernel), List.mem_of_getElem? (i := 1152) (by decide +kernel), List.mem_of_getElem? (i := 1153) (by decide +kernel)⟩
theorem lw_p94 : lw_okq (⟨"StarHerdsModel", "isOn", "(I)Z"⟩, 37) := ⟨⟨by decide +kernel, by decide +kernel⟩, List.mem_of_getElem? (i := 1024) (by decide +kernel), List.mem_of_getElem? (i := 1156) (by decide +kernel), List.mem_of_getElem? (i := 1157) (by decide +kernel)⟩
theorem lw_p95 : lw_okq (⟨"StarHerdsModel", "isTold", "(I)Z"⟩, 37) := ⟨⟨by decide +kernel, by decide +kernel⟩, List.mem_of_getElem? (i := 1024) (by decide +kernel), List.mem_of_getElem? (i := 1160) (by decide +kernel), List.mem_of_getElem? (i := 1161) (by decide +kernel)⟩
def lw_privs_6 : List (MethodName × Nat) := [(⟨"StarHerds$Herds", "onBits", "()I"⟩, 6), (⟨"StarHerds", "isLeft", "(I)Z"⟩, 8), (⟨"StarHerds$Outlook", "matchSets", "(ILStarHerds$Tape;)V"⟩, 15), (⟨"StarHerds$Outlook", "chooseStrays", "()V"⟩, 15), (⟨"StarHerds$Outlook", "isAsSeen", "(LStarHerds$Tape;)Z"⟩, 15), (⟨"StarHerds$Tape", "byteAt", "(I)I"⟩, 2), (⟨"StarHerds$Outlook", "findWhere", "(III)V"⟩, 15), (⟨"StarHerds$Outlook", "countDraws", "(II)I"⟩, 15), (⟨"StarHerds$Outlook", "countBehind", "(III)I"⟩, 15), (⟨"StarHerds$Crossing", "cloudTenths", "(LStarHerds$Plain;I)I"⟩, 3), (⟨"StarHerds$Tape", "numberAt", "(I)I"⟩, 2), (⟨"StarHerds$Herds", "toldBits", "()I"⟩, 6), (⟨"StarHerds$Plain", "litBits", "()I"⟩, 9), (⟨"StarHerdsModel", "isTaken", "(I)Z"⟩, 37), (⟨"StarHerdsModel", "isOn", "(I)Z"⟩, 37), (⟨"StarHerdsModel", "isTold", "(I)Z"⟩, 37)]
theorem lw_r6 : ∀ q ∈ lw_privs_6, lw_okq q := List.forall_mem_cons.mpr ⟨lw_p80, List.forall_mem_cons.mpr ⟨lw_p81, List.forall_mem_cons.mpr ⟨lw_p82, List.forall_mem_cons.mpr ⟨lw_p83, List.forall_mem_cons.mpr ⟨lw_p84, List.forall_mem_cons.mpr ⟨lw_p85, List.forall_mem_cons.mpr ⟨lw_p86, List.forall_mem_cons.mpr ⟨lw_p87, List.forall_mem_cons.mpr ⟨lw_p88, List.forall_mem_cons.mpr ⟨lw_p89, List.forall_mem_cons.mpr ⟨lw_p90, List.forall_mem_cons.mpr ⟨lw_p91, List.forall_mem_cons.mpr ⟨lw_p92, List.forall_mem_cons.mpr ⟨lw_p93, List.forall_mem_cons.mpr ⟨lw_p94, List.forall_mem_cons.mpr ⟨lw_p95, fun _ h => absurd h List.not_mem_nil⟩⟩⟩⟩⟩⟩⟩⟩⟩⟩⟩⟩⟩⟩⟩⟩
theorem lw_p96 : lw_okq (⟨"StarHerdsModel", "putsLamp", "(IIIII)Z"⟩, 37) := ⟨⟨by decide +kernel, by decide +kernel⟩, List.mem_of_getElem? (i := 1024) (by decide +kernel), List.mem_of_getElem? (i := 1171) (by decide +kernel), List.mem_of_getElem? (i := 1172) (by decide +kernel)⟩
theorem lw_p97 : lw_okq (⟨"StarHerdsModel", "isRock", "(I)Z"⟩, 37) := ⟨⟨by decide +kernel, by decide +kernel⟩, List.mem_of_getElem? (i := 1024) (by decide +kernel), List.mem_of_getElem? (i := 1175) (by decide +kernel), List.mem_of_getElem? (i := 1176) (by decide +kernel)⟩
theorem lw_p98 : lw_okq (⟨"StarHerdsModel", "isLamp", "(I)Z"⟩, 37) := ⟨⟨by decide +kernel, by decide +kernel⟩, List.mem_of_getElem? (i := 1024) (by decide +kernel), List.mem_of_getElem? (i := 1187) (by decide +kernel), List.mem_of_getElem? (i := 1188) (by decide +kernel)⟩
theorem lw_p99 : lw_okq (⟨"StarHerdsModel", "types", "(I)V"⟩, 37) := ⟨⟨by decide +kernel, by decide +kernel⟩, List.mem_of_getElem? (i := 1024) (by decide +kernel), List.mem_of_getElem? (i := 1214) (by decide +kernel), List.mem_of_getElem? (i := 1215) (by decide +kernel)⟩
theorem lw_p100 : lw_okq (⟨"StarHerdsModel", "readsClause", "()Z"⟩, 37) := ⟨⟨by decide +kernel, by decide +kernel⟩, List.mem_of_getElem? (i := 1024) (by decide +kernel), List.mem_of_getElem? (i := 1222) (by decide +kernel), List.mem_of_getElem? (i := 1223) (by decide +kernel)⟩
theorem lw_p101 : lw_okq (⟨"StarHerdsModel", "here", "()I"⟩, 37) := ⟨⟨by decide +kernel, by decide +kernel⟩, List.mem_of_getElem? (i := 1024) (by decide +kernel), List.mem_of_getElem? (i := 1226) (by decide +kernel), List.mem_of_getElem? (i := 1227) (by decide +kernel)⟩
theorem lw_p102 : lw_okq (⟨"StarHerdsModel", "wrongAt", "(II)Z"⟩, 37) := ⟨⟨by decide +kernel, by decide +kernel⟩, List.mem_of_getElem? (i := 1024) (by decide +kernel), List.mem_of_getElem? (i := 1233) (by decide +kernel), List.mem_of_getElem? (i := 1234) (by decide +kernel)⟩
theorem lw_p103 : lw_okq (⟨"StarHerdsModel", "readsSum", "()Z"⟩, 37) := ⟨⟨by decide +kernel, by decide +kernel⟩, List.mem_of_getElem? (i := 1024) (by decide +kernel), List.mem_of_getElem? (i := 1237) (by decide +kernel), List.mem_of_getElem? (i := 1238) (by decide +kernel)⟩
theorem lw_p104 : lw_okq (⟨"StarHerdsModel", "readsFactor", "()Z"⟩, 37) := ⟨⟨by decide +kernel, by decide +kernel⟩, List.mem_of_getElem? (i := 1024) (by decide +kernel), List.mem_of_getElem? (i := 1241) (by decide +kernel), List.mem_of_getElem? (i := 1242) (by decide +kernel)⟩
theorem lw_p105 : lw_okq (⟨"StarHerdsModel", "opens", "(I)Z"⟩, 37) := ⟨⟨by decide +kernel, by decide +kernel⟩, List.mem_of_getElem? (i := 1024) (by decide +kernel), List.mem_of_getElem? (i := 1245) (by decide +kernel), List.mem_of_getElem? (i := 1246) (by decide +kernel)⟩
theorem lw_p106 : lw_okq (⟨"StarHerdsModel", "isDigit", "()Z"⟩, 37) := ⟨⟨by decide +kernel, by decide +kernel⟩, List.mem_of_getElem? (i := 1024) (by decide +kernel), List.mem_of_getElem? (i := 1250) (by decide +kernel), List.mem_of_getElem? (i := 1251) (by decide +kernel)⟩
theorem lw_p107 : lw_okq (⟨"StarHerdsModel", "readsNumber", "()Z"⟩, 37) := ⟨⟨by decide +kernel, by decide +kernel⟩, List.mem_of_getElem? (i := 1024) (by decide +kernel), List.mem_of_getElem? (i := 1254) (by decide +kernel), List.mem_of_getElem? (i := 1255) (by decide +kernel)⟩
theorem lw_p108 : lw_okq (⟨"StarHerdsModel", "notes", "(II)V"⟩, 37) := ⟨⟨by decide +kernel, by decide +kernel⟩, List.mem_of_getElem? (i := 1024) (by decide +kernel), List.mem_of_getElem? (i := 1258) (by decide +kernel), List.mem_of_getElem? (i := 1259) (by decide +kernel)⟩
theorem lw_p109 : lw_okq (⟨"StarHerdsModel", "closesSums", "(Z)V"⟩, 37) := ⟨⟨by decide +kernel, by decide +kernel⟩, List.mem_of_getElem? (i := 1024) (by decide +kernel), List.mem_of_getElem? (i := 1268) (by decide +kernel), List.mem_of_getElem? (i := 1269) (by decide +kernel)⟩
theorem lw_p110 : lw_okq (⟨"StarHerdsModel", "waitTop", "()I"⟩, 37) := ⟨⟨by decide +kernel, by decide +kernel⟩, List.mem_of_getElem? (i := 1024) (by decide +kernel), List.mem_of_getElem? (i := 1272) (by decide +kernel), List.mem_of_getElem? (i := 1273) (by decide +kernel)⟩
theorem lw_p111 : lw_okq (⟨"StarHerdsModel", "hasOpenSum", "(I)Z"⟩, 37) := ⟨⟨by decide +kernel, by decide +kernel⟩, List.mem_of_getElem? (i := 1024) (by decide +kernel), List.mem_of_getElem? (i := 1276) (by decide +kernel), List.mem_of_getElem? (i := 1277) (by decide +kernel)⟩
def lw_privs_7 : List (MethodName × Nat) := [(⟨"StarHerdsModel", "putsLamp", "(IIIII)Z"⟩, 37), (⟨"StarHerdsModel", "isRock", "(I)Z"⟩, 37), (⟨"StarHerdsModel", "isLamp", "(I)Z"⟩, 37), (⟨"StarHerdsModel", "types", "(I)V"⟩, 37), (⟨"StarHerdsModel", "readsClause", "()Z"⟩, 37), (⟨"StarHerdsModel", "here", "()I"⟩, 37), (⟨"StarHerdsModel", "wrongAt", "(II)Z"⟩, 37), (⟨"StarHerdsModel", "readsSum", "()Z"⟩, 37), (⟨"StarHerdsModel", "readsFactor", "()Z"⟩, 37), (⟨"StarHerdsModel", "opens", "(I)Z"⟩, 37), (⟨"StarHerdsModel", "isDigit", "()Z"⟩, 37), (⟨"StarHerdsModel", "readsNumber", "()Z"⟩, 37), (⟨"StarHerdsModel", "notes", "(II)V"⟩, 37), (⟨"StarHerdsModel", "closesSums", "(Z)V"⟩, 37), (⟨"StarHerdsModel", "waitTop", "()I"⟩, 37), (⟨"StarHerdsModel", "hasOpenSum", "(I)Z"⟩, 37)]
theorem lw_r7 : ∀ q ∈ lw_privs_7, lw_okq q := List.forall_mem_cons.mpr ⟨lw_p96, List.forall_mem_cons.mpr ⟨lw_p97, List.forall_mem_cons.mpr ⟨lw_p98, List.forall_mem_cons.mpr ⟨lw_p99, List.forall_mem_cons.mpr ⟨lw_p100, List.forall_mem_cons.mpr ⟨lw_p101, List.forall_mem_cons.mpr ⟨lw_p102, List.forall_mem_cons.mpr ⟨lw_p103, List.forall_mem_cons.mpr ⟨lw_p104, List.forall_mem_cons.mpr ⟨lw_p105, List.forall_mem_cons.mpr ⟨lw_p106, List.forall_mem_cons.mpr ⟨lw_p107, List.forall_mem_cons.mpr ⟨lw_p108, List.forall_mem_cons.mpr ⟨lw_p109, List.forall_mem_cons.mpr ⟨lw_p110, List.forall_mem_cons.mpr ⟨lw_p111, fun _ h => absurd h List.not_mem_nil⟩⟩⟩⟩⟩⟩⟩⟩⟩⟩⟩⟩⟩⟩⟩⟩
theorem lw_p112 : lw_okq (⟨"StarHerdsModel", "readsCondition", "()Z"⟩, 37) := ⟨⟨by decide +kernel, by decide +kernel⟩, List.mem_of_getElem? (i := 1024) (by decide +kernel), List.mem_of_getElem? (i := 1280) (by decide +kernel), List.mem_of_getElem? (i := 1281) (by decide +kernel)⟩
theorem lw_p113 : lw_okq (⟨"StarHerdsModel", "readsCompared", "()Z"⟩, 37) := ⟨⟨by decide +kernel, by decide +kernel⟩, List.mem_of_getElem? (i := 1024) (by decide +kernel), List.mem_of_getElem? (i := 1284) (by decide +kernel), List.mem_of_getElem? (i := 1285) (by decide +kernel)⟩
theorem lw_p114 : lw_okq (⟨"StarHerdsModel", "endsPiece", "()V"⟩, 37) := ⟨⟨by decide +kernel, by decide +kernel⟩, List.mem_of_getElem? (i := 1024) (by decide +kernel), List.mem_of_getElem? (i := 1288) (by decide +kernel), List.mem_of_getElem? (i := 1289) (by decide +kernel)⟩
theorem lw_p115 : lw_okq (⟨"StarHerdsModel", "lands", "(Z)V"⟩, 37) := ⟨⟨by decide +kernel, by decide +kernel⟩, List.mem_of_getElem? (i := 1024) (by decide +kernel), List.mem_of_getElem? (i := 1292) (by decide +kernel), List.mem_of_getElem? (i := 1293) (by decide +kernel)⟩
theorem lw_p116 : lw_okq (⟨"StarHerdsModel", "jumps", "(I)V"⟩, 37) := ⟨⟨by decide +kernel, by decide +kernel⟩, List.mem_of_getElem? (i := 1024) (by decide +kernel), List.mem_of_getElem? (i := 1296) (by decide +kernel), List.mem_of_getElem? (i := 1297) (by decide +kernel)⟩
theorem lw_p117 : lw_okq (⟨"StarHerdsModel", "takes", "(I)Z"⟩, 37) := ⟨⟨by decide +kernel, by decide +kernel⟩, List.mem_of_getElem? (i := 1024) (by decide +kernel), List.mem_of_getElem? (i := 1300) (by decide +kernel), List.mem_of_getElem? (i := 1301) (by decide +kernel)⟩
theorem lw_p118 : lw_okq (⟨"StarHerdsModel", "priceOf", "(I)I"⟩, 37) := ⟨⟨by decide +kernel, by decide +kernel⟩, List.mem_of_getElem? (i := 1024) (by decide +kernel), List.mem_of_getElem? (i := 1308) (by decide +kernel), List.mem_of_getElem? (i := 1309) (by decide +kernel)⟩
theorem lw_p119 : lw_okq (⟨"StarHerdsModel", "feels", "()V"⟩, 37) := ⟨⟨by decide +kernel, by decide +kernel⟩, List.mem_of_getElem? (i := 1024) (by decide +kernel), List.mem_of_getElem? (i := 1312) (by decide +kernel), List.mem_of_getElem? (i := 1313) (by decide +kernel)⟩
theorem lw_p120 : lw_okq (⟨"StarHerdsModel", "byLaw", "(III)I"⟩, 37) := ⟨⟨by decide +kernel, by decide +kernel⟩, List.mem_of_getElem? (i := 1024) (by decide +kernel), List.mem_of_getElem? (i := 1316) (by decide +kernel), List.mem_of_getElem? (i := 1317) (by decide +kernel)⟩
theorem lw_p121 : lw_okq (⟨"StarHerdsModel", "comesTo", "(II)I"⟩, 37) := ⟨⟨by decide +kernel, by decide +kernel⟩, List.mem_of_getElem? (i := 1024) (by decide +kernel), List.mem_of_getElem? (i := 1320) (by decide +kernel), List.mem_of_getElem? (i := 1321) (by decide +kernel)⟩
theorem lw_p122 : lw_okq (⟨"StarHerdsModel", "isLit", "(I)Z"⟩, 37) := ⟨⟨by decide +kernel, by decide +kernel⟩, List.mem_of_getElem? (i := 1024) (by decide +kernel), List.mem_of_getElem? (i := 1339) (by decide +kernel), List.mem_of_getElem? (i := 1340) (by decide +kernel)⟩
theorem lw_p123 : lw_okq (⟨"StarHerdsModel", "pulls", "(II)I"⟩, 37) := ⟨⟨by decide +kernel, by decide +kernel⟩, List.mem_of_getElem? (i := 1024) (by decide +kernel), List.mem_of_getElem? (i := 1347) (by decide +kernel), List.mem_of_getElem? (i := 1348) (by decide +kernel)⟩
theorem lw_p124 : lw_okq (⟨"StarHerdsModel", "feelsHerd", "(II)V"⟩, 37) := ⟨⟨by decide +kernel, by decide +kernel⟩, List.mem_of_getElem? (i := 1024) (by decide +kernel), List.mem_of_getElem? (i := 1351) (by decide +kernel), List.mem_of_getElem? (i := 1352) (by decide +kernel)⟩
theorem lw_p125 : lw_okq (⟨"StarHerdsModel", "isClouded", "()Z"⟩, 37) := ⟨⟨by decide +kernel, by decide +kernel⟩, List.mem_of_getElem? (i := 1024) (by decide +kernel), List.mem_of_getElem? (i := 1355) (by decide +kernel), List.mem_of_getElem? (i := 1356) (by decide +kernel)⟩
theorem lw_p126 : lw_okq (⟨"StarHerdsModel", "kindOf", "(I)I"⟩, 37) := ⟨⟨by decide +kernel, by decide +kernel⟩, List.mem_of_getElem? (i := 1024) (by decide +kernel), List.mem_of_getElem? (i := 1362) (by decide +kernel), List.mem_of_getElem? (i := 1363) (by decide +kernel)⟩
theorem lw_p127 : lw_okq (⟨"StarHerdsModel", "lampAt", "(I)I"⟩, 37) := ⟨⟨by decide +kernel, by decide +kernel⟩, List.mem_of_getElem? (i := 1024) (by decide +kernel), List.mem_of_getElem? (i := 1366) (by decide +kernel), List.mem_of_getElem? (i := 1367) (by decide +kernel)⟩
def lw_privs_8 : List (MethodName × Nat) := [(⟨"StarHerdsModel", "readsCondition", "()Z"⟩, 37), (⟨"StarHerdsModel", "readsCompared", "()Z"⟩, 37), (⟨"StarHerdsModel", "endsPiece", "()V"⟩, 37), (⟨"StarHerdsModel", "lands", "(Z)V"⟩, 37), (⟨"StarHerdsModel", "jumps", "(I)V"⟩, 37), (⟨"StarHerdsModel", "takes", "(I)Z"⟩, 37), (⟨"StarHerdsModel", "priceOf", "(I)I"⟩, 37), (⟨"StarHerdsModel", "feels", "()V"⟩, 37), (⟨"StarHerdsModel", "byLaw", "(III)I"⟩, 37), (⟨"StarHerdsModel", "comesTo", "(II)I"⟩, 37), (⟨"StarHerdsModel", "isLit", "(I)Z"⟩, 37), (⟨"StarHerdsModel", "pulls", "(II)I"⟩, 37), (⟨"StarHerdsModel", "feelsHerd", "(II)V"⟩, 37), (⟨"StarHerdsModel", "isClouded", "()Z"⟩, 37), (⟨"StarHerdsModel", "kindOf", "(I)I"⟩, 37), (⟨"StarHerdsModel", "lampAt", "(I)I"⟩, 37)]
theorem lw_r8 : ∀ q ∈ lw_privs_8, lw_okq q := List.forall_mem_cons.mpr ⟨lw_p112, List.forall_mem_cons.mpr ⟨lw_p113, List.forall_mem_cons.mpr ⟨lw_p114, List.forall_mem_cons.mpr ⟨lw_p115, List.forall_mem_cons.mpr ⟨lw_p116, List.forall_mem_cons.mpr ⟨lw_p117, List.forall_mem_cons.mpr ⟨lw_p118, List.forall_mem_cons.mpr ⟨lw_p119, List.forall_mem_cons.mpr ⟨lw_p120, List.forall_mem_cons.mpr ⟨lw_p121, List.forall_mem_cons.mpr ⟨lw_p122, List.forall_mem_cons.mpr ⟨lw_p123, List.forall_mem_cons.mpr ⟨lw_p124, List.forall_mem_cons.mpr ⟨lw_p125, List.forall_mem_cons.mpr ⟨lw_p126, List.forall_mem_cons.mpr ⟨lw_p127, fun _ h => absurd h List.not_mem_nil⟩⟩⟩⟩⟩⟩⟩⟩⟩⟩⟩⟩⟩⟩⟩⟩
theorem lw_p128 : lw_okq (⟨"StarHerdsModel", "targetOf", "(I)I"⟩, 37) := ⟨⟨by decide +kernel, by decide +kernel⟩, List.mem_of_getElem? (i := 1024) (by decide +kernel), List.mem_of_getElem? (i := 1380) (by decide +kernel), List.mem_of_getElem? (i := 1381) (by decide +kernel)⟩
theorem lw_p129 : lw_okq (⟨"StarHerdsModel", "runs", "(I)I"⟩, 37) := ⟨⟨by decide +kernel, by decide +kernel⟩, List.mem_of_getElem? (i := 1024) (by decide +kernel), List.mem_of_getElem? (i := 1388) (by decide +kernel), List.mem_of_getElem? (i := 1389) (by decide +kernel)⟩
theorem lw_p130 : lw_okq (⟨"StarHerdsModel", "draws", "()I"⟩, 37) := ⟨⟨by decide +kernel, by decide +kernel⟩, List.mem_of_getElem? (i := 1024) (by decide +kernel), List.mem_of_getElem? (i := 1392) (by decide +kernel), List.mem_of_getElem? (i := 1393) (by decide +kernel)⟩
theorem lw_p131 : lw_okq (⟨"StarHerdsModel", "passes", "(I)I"⟩, 37) := ⟨⟨by decide +kernel, by decide +kernel⟩, List.mem_of_getElem? (i := 1024) (by decide +kernel), List.mem_of_getElem? (i := 1397) (by decide +kernel), List.mem_of_getElem? (i := 1398) (by decide +kernel)⟩
theorem lw_p132 : lw_okq (⟨"StarHerdsModel", "herdGoes", "(II)I"⟩, 37) := ⟨⟨by decide +kernel, by decide +kernel⟩, List.mem_of_getElem? (i := 1024) (by decide +kernel), List.mem_of_getElem? (i := 1401) (by decide +kernel), List.mem_of_getElem? (i := 1402) (by decide +kernel)⟩
theorem lw_p133 : lw_okq (⟨"StarHerdsModel", "stampedes", "(II)V"⟩, 37) := ⟨⟨by decide +kernel, by decide +kernel⟩, List.mem_of_getElem? (i := 1024) (by decide +kernel), List.mem_of_getElem? (i := 1405) (by decide +kernel), List.mem_of_getElem? (i := 1406) (by decide +kernel)⟩
theorem lw_p134 : lw_okq (⟨"StarHerdsModel", "steps", "(III)Z"⟩, 37) := ⟨⟨by decide +kernel, by decide +kernel⟩, List.mem_of_getElem? (i := 1024) (by decide +kernel), List.mem_of_getElem? (i := 1409) (by decide +kernel), List.mem_of_getElem? (i := 1410) (by decide +kernel)⟩
theorem lw_p135 : lw_okq (⟨"StarHerdsModel", "goesTo", "(II)V"⟩, 37) := ⟨⟨by decide +kernel, by decide +kernel⟩, List.mem_of_getElem? (i := 1024) (by decide +kernel), List.mem_of_getElem? (i := 1413) (by decide +kernel), List.mem_of_getElem? (i := 1414) (by decide +kernel)⟩
theorem lw_p136 : lw_okq (⟨"StarHerdsModel", "goesOn", "(I)V"⟩, 37) := ⟨⟨by decide +kernel, by decide +kernel⟩, List.mem_of_getElem? (i := 1024) (by decide +kernel), List.mem_of_getElem? (i := 1420) (by decide +kernel), List.mem_of_getElem? (i := 1421) (by decide +kernel)⟩
theorem lw_p137 : lw_okq (⟨"StarHerdsModel", "sinks", "(III)I"⟩, 37) := ⟨⟨by decide +kernel, by decide +kernel⟩, List.mem_of_getElem? (i := 1024) (by decide +kernel), List.mem_of_getElem? (i := 1424) (by decide +kernel), List.mem_of_getElem? (i := 1425) (by decide +kernel)⟩
theorem lw_p138 : lw_okq (⟨"StarHerdsModel", "loses", "(III)I"⟩, 37) := ⟨⟨by decide +kernel, by decide +kernel⟩, List.mem_of_getElem? (i := 1024) (by decide +kernel), List.mem_of_getElem? (i := 1428) (by decide +kernel), List.mem_of_getElem? (i := 1429) (by decide +kernel)⟩
theorem lw_p139 : lw_okq (⟨"StarHerdsModel", "begins", "()V"⟩, 37) := ⟨⟨by decide +kernel, by decide +kernel⟩, List.mem_of_getElem? (i := 1024) (by decide +kernel), List.mem_of_getElem? (i := 1446) (by decide +kernel), List.mem_of_getElem? (i := 1447) (by decide +kernel)⟩
theorem lw_p140 : lw_okq (⟨"StarHerdsModel", "living", "()I"⟩, 37) := ⟨⟨by decide +kernel, by decide +kernel⟩, List.mem_of_getElem? (i := 1024) (by decide +kernel), List.mem_of_getElem? (i := 1453) (by decide +kernel), List.mem_of_getElem? (i := 1454) (by decide +kernel)⟩
theorem lw_p141 : lw_okq (⟨"StarHerdsModel", "through", "()I"⟩, 37) := ⟨⟨by decide +kernel, by decide +kernel⟩, List.mem_of_getElem? (i := 1024) (by decide +kernel), List.mem_of_getElem? (i := 1457) (by decide +kernel), List.mem_of_getElem? (i := 1458) (by decide +kernel)⟩
theorem lw_p142 : lw_okq (⟨"StarHerdsModel", "again", "()V"⟩, 37) := ⟨⟨by decide +kernel, by decide +kernel⟩, List.mem_of_getElem? (i := 1024) (by decide +kernel), List.mem_of_getElem? (i := 1461) (by decide +kernel), List.mem_of_getElem? (i := 1462) (by decide +kernel)⟩
theorem lw_p143 : lw_okq (⟨"StarHerdsModel", "laysLiving", "()V"⟩, 37) := ⟨⟨by decide +kernel, by decide +kernel⟩, List.mem_of_getElem? (i := 1024) (by decide +kernel), List.mem_of_getElem? (i := 1481) (by decide +kernel), List.mem_of_getElem? (i := 1482) (by decide +kernel)⟩
def lw_privs_9 : List (MethodName × Nat) := [(⟨"StarHerdsModel", "targetOf", "(I)I"⟩, 37), (⟨"StarHerdsModel", "runs", "(I)I"⟩, 37), (⟨"StarHerdsModel", "draws", "()I"⟩, 37), (⟨"StarHerdsModel", "passes", "(I)I"⟩, 37), (⟨"StarHerdsModel", "herdGoes", "(II)I"⟩, 37), (⟨"StarHerdsModel", "stampedes", "(II)V"⟩, 37), (⟨"StarHerdsModel", "steps", "(III)Z"⟩, 37), (⟨"StarHerdsModel", "goesTo", "(II)V"⟩, 37), (⟨"StarHerdsModel", "goesOn", "(I)V"⟩, 37), (⟨"StarHerdsModel", "sinks", "(III)I"⟩, 37), (⟨"StarHerdsModel", "loses", "(III)I"⟩, 37), (⟨"StarHerdsModel", "begins", "()V"⟩, 37), (⟨"StarHerdsModel", "living", "()I"⟩, 37), (⟨"StarHerdsModel", "through", "()I"⟩, 37), (⟨"StarHerdsModel", "again", "()V"⟩, 37), (⟨"StarHerdsModel", "laysLiving", "()V"⟩, 37)]
theorem lw_r9 : ∀ q ∈ lw_privs_9, lw_okq q := List.forall_mem_cons.mpr ⟨lw_p128, List.forall_mem_cons.mpr ⟨lw_p129, List.forall_mem_cons.mpr ⟨lw_p130, List.forall_mem_cons.mpr ⟨lw_p131, List.forall_mem_cons.mpr ⟨lw_p132, List.forall_mem_cons.mpr ⟨lw_p133, List.forall_mem_cons.mpr ⟨lw_p134, List.forall_mem_cons.mpr ⟨lw_p135, List.forall_mem_cons.mpr ⟨lw_p136, List.forall_mem_cons.mpr ⟨lw_p137, List.forall_mem_cons.mpr ⟨lw_p138, List.forall_mem_cons.mpr ⟨lw_p139, List.forall_mem_cons.mpr ⟨lw_p140, List.forall_mem_cons.mpr ⟨lw_p141, List.forall_mem_cons.mpr ⟨lw_p142, List.forall_mem_cons.mpr ⟨lw_p143, fun _ h => absurd h List.not_mem_nil⟩⟩⟩⟩⟩⟩⟩⟩⟩⟩⟩⟩⟩⟩⟩⟩
theorem lw_p144 : lw_okq (⟨"StarHerdsModel", "livingWith", "(I)I"⟩, 37) := ⟨⟨by decide +kernel, by decide +kernel⟩, List.mem_of_getElem? (i := 1024) (by decide +kernel), List.mem_of_getElem? (i := 1485) (by decide +kernel), List.mem_of_getElem? (i := 1486) (by decide +kernel)⟩
theorem lw_p145 : lw_okq (⟨"StarHerdsModel", "laysPlan", "(I)V"⟩, 37) := ⟨⟨by decide +kernel, by decide +kernel⟩, List.mem_of_getElem? (i := 1024) (by decide +kernel), List.mem_of_getElem? (i := 1489) (by decide +kernel), List.mem_of_getElem? (i := 1490) (by decide +kernel)⟩
theorem lw_p146 : lw_okq (⟨"StarHerdsModel", "costs", "(I)I"⟩, 37) := ⟨⟨by decide +kernel, by decide +kernel⟩, List.mem_of_getElem? (i := 1024) (by decide +kernel), List.mem_of_getElem? (i := 1493) (by decide +kernel), List.mem_of_getElem? (i := 1494) (by decide +kernel)⟩
theorem lw_p147 : lw_okq (⟨"StarHerdsModel", "isUnlit", "(I)Z"⟩, 37) := ⟨⟨by decide +kernel, by decide +kernel⟩, List.mem_of_getElem? (i := 1024) (by decide +kernel), List.mem_of_getElem? (i := 1509) (by decide +kernel), List.mem_of_getElem? (i := 1510) (by decide +kernel)⟩
theorem lw_p148 : lw_okq (⟨"StarHerdsModel", "laysGains", "(III)V"⟩, 37) := ⟨⟨by decide +kernel, by decide +kernel⟩, List.mem_of_getElem? (i := 1024) (by decide +kernel), List.mem_of_getElem? (i := 1513) (by decide +kernel), List.mem_of_getElem? (i := 1514) (by decide +kernel)⟩
theorem lw_p149 : lw_okq (⟨"StarHerdsModel", "rests", "(I)Z"⟩, 37) := ⟨⟨by decide +kernel, by decide +kernel⟩, List.mem_of_getElem? (i := 1024) (by decide +kernel), List.mem_of_getElem? (i := 1517) (by decide +kernel), List.mem_of_getElem? (i := 1518) (by decide +kernel)⟩
theorem lw_p150 : lw_okq (⟨"StarHerdsModel", "areWithin", "(I)Z"⟩, 37) := ⟨⟨by decide +kernel, by decide +kernel⟩, List.mem_of_getElem? (i := 1024) (by decide +kernel), List.mem_of_getElem? (i := 1525) (by decide +kernel), List.mem_of_getElem? (i := 1526) (by decide +kernel)⟩
theorem lw_p151 : lw_okq (⟨"StarHerdsModel", "unknown", "()I"⟩, 37) := ⟨⟨by decide +kernel, by decide +kernel⟩, List.mem_of_getElem? (i := 1024) (by decide +kernel), List.mem_of_getElem? (i := 1529) (by decide +kernel), List.mem_of_getElem? (i := 1530) (by decide +kernel)⟩
theorem lw_p152 : lw_okq (⟨"StarHerdsModel", "comesSo", "(II)Z"⟩, 37) := ⟨⟨by decide +kernel, by decide +kernel⟩, List.mem_of_getElem? (i := 1024) (by decide +kernel), List.mem_of_getElem? (i := 1533) (by decide +kernel), List.mem_of_getElem? (i := 1534) (by decide +kernel)⟩
theorem lw_p153 : lw_okq (⟨"StarHerdsModel", "tapeNumber", "(I)I"⟩, 37) := ⟨⟨by decide +kernel, by decide +kernel⟩, List.mem_of_getElem? (i := 1024) (by decide +kernel), List.mem_of_getElem? (i := 1569) (by decide +kernel), List.mem_of_getElem? (i := 1570) (by decide +kernel)⟩
theorem lw_p154 : lw_okq (⟨"StarHerdsModel", "herdBits", "(Z)I"⟩, 37) := ⟨⟨by decide +kernel, by decide +kernel⟩, List.mem_of_getElem? (i := 1024) (by decide +kernel), List.mem_of_getElem? (i := 1577) (by decide +kernel), List.mem_of_getElem? (i := 1578) (by decide +kernel)⟩
theorem lw_p155 : lw_okq (⟨"StarHerdsModel", "litBits", "()I"⟩, 37) := ⟨⟨by decide +kernel, by decide +kernel⟩, List.mem_of_getElem? (i := 1024) (by decide +kernel), List.mem_of_getElem? (i := 1581) (by decide +kernel), List.mem_of_getElem? (i := 1582) (by decide +kernel)⟩
def lw_privs_10 : List (MethodName × Nat) := [(⟨"StarHerdsModel", "livingWith", "(I)I"⟩, 37), (⟨"StarHerdsModel", "laysPlan", "(I)V"⟩, 37), (⟨"StarHerdsModel", "costs", "(I)I"⟩, 37), (⟨"StarHerdsModel", "isUnlit", "(I)Z"⟩, 37), (⟨"StarHerdsModel", "laysGains", "(III)V"⟩, 37), (⟨"StarHerdsModel", "rests", "(I)Z"⟩, 37), (⟨"StarHerdsModel", "areWithin", "(I)Z"⟩, 37), (⟨"StarHerdsModel", "unknown", "()I"⟩, 37), (⟨"StarHerdsModel", "comesSo", "(II)Z"⟩, 37), (⟨"StarHerdsModel", "tapeNumber", "(I)I"⟩, 37), (⟨"StarHerdsModel", "herdBits", "(Z)I"⟩, 37), (⟨"StarHerdsModel", "litBits", "()I"⟩, 37)]
theorem lw_r10 : ∀ q ∈ lw_privs_10, lw_okq q := List.forall_mem_cons.mpr ⟨lw_p144, List.forall_mem_cons.mpr ⟨lw_p145, List.forall_mem_cons.mpr ⟨lw_p146, List.forall_mem_cons.mpr ⟨lw_p147, List.forall_mem_cons.mpr ⟨lw_p148, List.forall_mem_cons.mpr ⟨lw_p149, List.forall_mem_cons.mpr ⟨lw_p150, List.forall_mem_cons.mpr ⟨lw_p151, List.forall_mem_cons.mpr ⟨lw_p152, List.forall_mem_cons.mpr ⟨lw_p153, List.forall_mem_cons.mpr ⟨lw_p154, List.forall_mem_cons.mpr ⟨lw_p155, fun _ h => absurd h List.not_mem_nil⟩⟩⟩⟩⟩⟩⟩⟩⟩⟩⟩⟩
def lw_privs : List (MethodName × Nat) := lw_privs_1 ++ (lw_privs_2 ++ (lw_privs_3 ++ (lw_privs_4 ++ (lw_privs_5 ++ (lw_privs_6 ++ (lw_privs_7 ++ (lw_privs_8 ++ (lw_privs_9 ++ (lw_privs_10)))))))))
def lw_tbl : List Cond := k2_sels lw_privs ++ tables_1
theorem lw_privs_ok : ∀ q ∈ lw_privs, lw_okq q := by
  show ∀ q ∈ lw_privs_1 ++ (lw_privs_2 ++ (lw_privs_3 ++ (lw_privs_4 ++ (lw_privs_5 ++ (lw_privs_6 ++ (lw_privs_7 ++ (lw_privs_8 ++ (lw_privs_9 ++ (lw_privs_10))))))))), lw_okq q
  exact List.forall_mem_append.mpr ⟨lw_r1, List.forall_mem_append.mpr ⟨lw_r2, List.forall_mem_append.mpr ⟨lw_r3, List.forall_mem_append.mpr ⟨lw_r4, List.forall_mem_append.mpr ⟨lw_r5, List.forall_mem_append.mpr ⟨lw_r6, List.forall_mem_append.mpr ⟨lw_r7, List.forall_mem_append.mpr ⟨lw_r8, List.forall_mem_append.mpr ⟨lw_r9, lw_r10⟩⟩⟩⟩⟩⟩⟩⟩⟩
def RX0 : String := "StarHerds$Crossing"
def TX0 : u_T := fun k => match k with
  | 0 => ("StarHerds$Crossing", "law", "LStarHerds$Law;", true)
  | 1 => ("StarHerds$Crossing", "letters", "[I", true)
  | _ => ("StarHerds$Crossing", "asked", "I", false)
def tyX0 : Nat → FieldType := fun k => match k with
  | 0 => .object "StarHerds$Law"
  | 1 => .array .int
  | _ => .int
abbrev wsX00 : List Cond := u_ws RX0 TX0 3
theorem nmX0 : ∀ a, a < 3 → ∀ b, b < 3 → a ≠ b → (TX0 a).2.1 ≠ (TX0 b).2.1 := by decide +kernel
theorem tyX0_ok : ∀ k, k < 3 → parseFieldDescriptor (TX0 k).2.2.1 = some (tyX0 k) := by decide +kernel
abbrev cX0_init : ByteArray := prog_2_method_1_code
def yX0_init : MethodName := ⟨RX0, "<init>", "()V"⟩
abbrev cX0_passHours : ByteArray := prog_2_method_2_code
def yX0_passHours : MethodName := ⟨RX0, "passHours", "(LStarHerds$Plain;I)I"⟩
abbrev cX0_passHour : ByteArray := prog_2_method_3_code
def yX0_passHour : MethodName := ⟨RX0, "passHour", "(LStarHerds$Plain;I)I"⟩
abbrev cX0_moveHerd : ByteArray := prog_2_method_4_code
def yX0_moveHerd : MethodName := ⟨RX0, "moveHerd", "(LStarHerds$Plain;II)I"⟩
abbrev cX0_lose : ByteArray := prog_2_method_5_code
def yX0_lose : MethodName := ⟨RX0, "lose", "(LStarHerds$Herds;II)I"⟩
abbrev cX0_stampede : ByteArray := prog_2_method_6_code
def yX0_stampede : MethodName := ⟨RX0, "stampede", "(LStarHerds$Plain;II)V"⟩
abbrev cX0_follow : ByteArray := prog_2_method_7_code
def yX0_follow : MethodName := ⟨RX0, "follow", "(LStarHerds$Plain;II)V"⟩
abbrev cX0_goOn : ByteArray := prog_2_method_8_code
def yX0_goOn : MethodName := ⟨RX0, "goOn", "(LStarHerds$Plain;I)V"⟩
abbrev cX0_step : ByteArray := prog_2_method_9_code
def yX0_step : MethodName := ⟨RX0, "step", "(LStarHerds$Plain;III)Z"⟩
abbrev cX0_goalOf : ByteArray := prog_2_method_10_code
def yX0_goalOf : MethodName := ⟨RX0, "goalOf", "(LStarHerds$Plain;I)I"⟩
abbrev cX0_pullOf : ByteArray := prog_2_method_11_code
def yX0_pullOf : MethodName := ⟨RX0, "pullOf", "(LStarHerds$Plain;II)I"⟩
abbrev cX0_askOf : ByteArray := prog_2_method_12_code
def yX0_askOf : MethodName := ⟨RX0, "askOf", "(LStarHerds$Plain;III)I"⟩
abbrev cX0_beer : ByteArray := prog_2_method_13_code
def yX0_beer : MethodName := ⟨RX0, "beer", "(LStarHerds$Plain;I)I"⟩
abbrev cX0_cloudTenths : ByteArray := prog_2_method_14_code
def yX0_cloudTenths : MethodName := ⟨RX0, "cloudTenths", "(LStarHerds$Plain;I)I"⟩
abbrev cX0_tellTime : ByteArray := prog_2_method_15_code
def yX0_tellTime : MethodName := ⟨RX0, "tellTime", "(LStarHerds$Plain;I)V"⟩
abbrev cX0_tellHerd : ByteArray := prog_2_method_16_code
def yX0_tellHerd : MethodName := ⟨RX0, "tellHerd", "(LStarHerds$Plain;II)V"⟩
abbrev cX0_tellLamp : ByteArray := prog_2_method_17_code
def yX0_tellLamp : MethodName := ⟨RX0, "tellLamp", "(LStarHerds$Plain;II)V"⟩
def RX1 : String := "StarHerds$Herds"
def TX1 : u_T := fun k => match k with
  | 0 => ("StarHerds$Herds", "told", "[Z", true)
  | 1 => ("StarHerds$Herds", "square", "[I", true)
  | 2 => ("StarHerds$Herds", "cattle", "[I", true)
  | 3 => ("StarHerds$Herds", "thirst", "[I", true)
  | 4 => ("StarHerds$Herds", "fear", "[I", true)
  | _ => ("StarHerds$Herds", "burning", "[Z", true)
def tyX1 : Nat → FieldType := fun k => match k with
  | 0 => .array .boolean
  | 1 => .array .int
  | 2 => .array .int
  | 3 => .array .int
  | 4 => .array .int
  | _ => .array .boolean
abbrev wsX10 : List Cond := u_ws RX1 TX1 6
theorem nmX1 : ∀ a, a < 6 → ∀ b, b < 6 → a ≠ b → (TX1 a).2.1 ≠ (TX1 b).2.1 := by decide +kernel
theorem tyX1_ok : ∀ k, k < 6 → parseFieldDescriptor (TX1 k).2.2.1 = some (tyX1 k) := by decide +kernel
abbrev cX1_init : ByteArray := prog_3_method_1_code
def yX1_init : MethodName := ⟨RX1, "<init>", "()V"⟩
abbrev cX1_become : ByteArray := prog_3_method_2_code
def yX1_become : MethodName := ⟨RX1, "become", "(LStarHerds$Herds;)V"⟩
abbrev cX1_isTold : ByteArray := prog_3_method_3_code
def yX1_isTold : MethodName := ⟨RX1, "isTold", "(I)Z"⟩
abbrev cX1_isOn : ByteArray := prog_3_method_4_code
def yX1_isOn : MethodName := ⟨RX1, "isOn", "(I)Z"⟩
abbrev cX1_toldBits : ByteArray := prog_3_method_5_code
def yX1_toldBits : MethodName := ⟨RX1, "toldBits", "()I"⟩
abbrev cX1_onBits : ByteArray := prog_3_method_6_code
def yX1_onBits : MethodName := ⟨RX1, "onBits", "()I"⟩
abbrev cX1_living : ByteArray := prog_3_method_7_code
def yX1_living : MethodName := ⟨RX1, "living", "()I"⟩
abbrev cX1_livingThrough : ByteArray := prog_3_method_8_code
def yX1_livingThrough : MethodName := ⟨RX1, "livingThrough", "()I"⟩
abbrev cX1_tell : ByteArray := prog_3_method_9_code
def yX1_tell : MethodName := ⟨RX1, "tell", "(II)I"⟩
def RX2 : String := "StarHerds$Lamps"
def TX2 : u_T := fun k => match k with
  | 0 => ("StarHerds$Lamps", "there", "[Z", true)
  | 1 => ("StarHerds$Lamps", "square", "[I", true)
  | 2 => ("StarHerds$Lamps", "kind", "[I", true)
  | 3 => ("StarHerds$Lamps", "paid", "[I", true)
  | 4 => ("StarHerds$Lamps", "dog", "[I", true)
  | _ => ("StarHerds$Lamps", "toldLit", "[Z", true)
def tyX2 : Nat → FieldType := fun k => match k with
  | 0 => .array .boolean
  | 1 => .array .int
  | 2 => .array .int
  | 3 => .array .int
  | 4 => .array .int
  | _ => .array .boolean
abbrev wsX20 : List Cond := u_ws RX2 TX2 6
theorem nmX2 : ∀ a, a < 6 → ∀ b, b < 6 → a ≠ b → (TX2 a).2.1 ≠ (TX2 b).2.1 := by decide +kernel
theorem tyX2_ok : ∀ k, k < 6 → parseFieldDescriptor (TX2 k).2.2.1 = some (tyX2 k) := by decide +kernel
abbrev cX2_init : ByteArray := prog_4_method_1_code
def yX2_init : MethodName := ⟨RX2, "<init>", "()V"⟩
abbrev cX2_become : ByteArray := prog_4_method_2_code
def yX2_become : MethodName := ⟨RX2, "become", "(LStarHerds$Lamps;)V"⟩
abbrev cX2_stands : ByteArray := prog_4_method_3_code
def yX2_stands : MethodName := ⟨RX2, "stands", "(I)Z"⟩
abbrev cX2_isLit : ByteArray := prog_4_method_4_code
def yX2_isLit : MethodName := ⟨RX2, "isLit", "(I)Z"⟩
abbrev cX2_light : ByteArray := prog_4_method_5_code
def yX2_light : MethodName := ⟨RX2, "light", "(IZ)V"⟩
abbrev cX2_endNight : ByteArray := prog_4_method_6_code
def yX2_endNight : MethodName := ⟨RX2, "endNight", "()V"⟩
abbrev cX2_tell : ByteArray := prog_4_method_7_code
def yX2_tell : MethodName := ⟨RX2, "tell", "(II)I"⟩
def RX3 : String := "StarHerds$Law"
def TX3 : u_T := fun k => match k with
  | 0 => ("StarHerds$Law", "ops", "[I", true)
  | 1 => ("StarHerds$Law", "args", "[I", true)
  | 2 => ("StarHerds$Law", "size", "I", false)
  | 3 => ("StarHerds$Law", "letterOf", "[I", true)
  | 4 => ("StarHerds$Law", "amountAt", "[I", true)
  | 5 => ("StarHerds$Law", "whenAt", "[I", true)
  | 6 => ("StarHerds$Law", "clauses", "I", false)
  | 7 => ("StarHerds$Law", "stack", "[I", true)
  | 8 => ("StarHerds$Law", "holds", "Z", false)
  | _ => ("StarHerds$Law", "value", "I", false)
def tyX3 : Nat → FieldType := fun k => match k with
  | 0 => .array .int
  | 1 => .array .int
  | 2 => .int
  | 3 => .array .int
  | 4 => .array .int
  | 5 => .array .int
  | 6 => .int
  | 7 => .array .int
  | 8 => .boolean
  | _ => .int
abbrev wsX30 : List Cond := u_ws RX3 TX3 10
theorem nmX3 : ∀ a, a < 10 → ∀ b, b < 10 → a ≠ b → (TX3 a).2.1 ≠ (TX3 b).2.1 := by decide +kernel
theorem tyX3_ok : ∀ k, k < 10 → parseFieldDescriptor (TX3 k).2.2.1 = some (tyX3 k) := by decide +kernel
abbrev cX3_init : ByteArray := prog_5_method_1_code
def yX3_init : MethodName := ⟨RX3, "<init>", "()V"⟩
abbrev cX3_clear : ByteArray := prog_5_method_2_code
def yX3_clear : MethodName := ⟨RX3, "clear", "()V"⟩
abbrev cX3_become : ByteArray := prog_5_method_3_code
def yX3_become : MethodName := ⟨RX3, "become", "(LStarHerds$Law;)V"⟩
abbrev cX3_add : ByteArray := prog_5_method_4_code
def yX3_add : MethodName := ⟨RX3, "add", "(II)I"⟩
abbrev cX3_aim : ByteArray := prog_5_method_5_code
def yX3_aim : MethodName := ⟨RX3, "aim", "(I)V"⟩
abbrev cX3_addClause : ByteArray := prog_5_method_6_code
def yX3_addClause : MethodName := ⟨RX3, "addClause", "(III)V"⟩
abbrev cX3_ask : ByteArray := prog_5_method_7_code
def yX3_ask : MethodName := ⟨RX3, "ask", "(I[I)I"⟩
abbrev cX3_run : ByteArray := prog_5_method_8_code
def yX3_run : MethodName := ⟨RX3, "run", "(I[I)Z"⟩
def RX4 : String := "StarHerds$LawReader"
def TX4 : u_T := fun k => match k with
  | 0 => ("StarHerds$LawReader", "tape", "LStarHerds$Tape;", true)
  | 1 => ("StarHerds$LawReader", "draft", "LStarHerds$Law;", true)
  | 2 => ("StarHerds$LawReader", "at", "I", false)
  | 3 => ("StarHerds$LawReader", "end", "I", false)
  | 4 => ("StarHerds$LawReader", "sign", "I", false)
  | _ => ("StarHerds$LawReader", "fault", "I", false)
def tyX4 : Nat → FieldType := fun k => match k with
  | 0 => .object "StarHerds$Tape"
  | 1 => .object "StarHerds$Law"
  | 2 => .int
  | 3 => .int
  | 4 => .int
  | _ => .int
abbrev wsX40 : List Cond := u_ws RX4 TX4 6
theorem nmX4 : ∀ a, a < 6 → ∀ b, b < 6 → a ≠ b → (TX4 a).2.1 ≠ (TX4 b).2.1 := by decide +kernel
theorem tyX4_ok : ∀ k, k < 6 → parseFieldDescriptor (TX4 k).2.2.1 = some (tyX4 k) := by decide +kernel
abbrev cX4_init : ByteArray := prog_6_method_1_code
def yX4_init : MethodName := ⟨RX4, "<init>", "()V"⟩
abbrev cX4_read : ByteArray := prog_6_method_2_code
def yX4_read : MethodName := ⟨RX4, "read", "(I)I"⟩
abbrev cX4_readClause : ByteArray := prog_6_method_3_code
def yX4_readClause : MethodName := ⟨RX4, "readClause", "()Z"⟩
abbrev cX4_readChoice : ByteArray := prog_6_method_4_code
def yX4_readChoice : MethodName := ⟨RX4, "readChoice", "(I)Z"⟩
abbrev cX4_readPart : ByteArray := prog_6_method_5_code
def yX4_readPart : MethodName := ⟨RX4, "readPart", "(I)Z"⟩
abbrev cX4_readPiece : ByteArray := prog_6_method_6_code
def yX4_readPiece : MethodName := ⟨RX4, "readPiece", "(I)Z"⟩
abbrev cX4_readComparison : ByteArray := prog_6_method_7_code
def yX4_readComparison : MethodName := ⟨RX4, "readComparison", "(I)Z"⟩
abbrev cX4_readSum : ByteArray := prog_6_method_8_code
def yX4_readSum : MethodName := ⟨RX4, "readSum", "(I)Z"⟩
abbrev cX4_readTerm : ByteArray := prog_6_method_9_code
def yX4_readTerm : MethodName := ⟨RX4, "readTerm", "(I)Z"⟩
abbrev cX4_readFactor : ByteArray := prog_6_method_10_code
def yX4_readFactor : MethodName := ⟨RX4, "readFactor", "(I)Z"⟩
abbrev cX4_readNumber : ByteArray := prog_6_method_11_code
def yX4_readNumber : MethodName := ⟨RX4, "readNumber", "()Z"⟩
abbrev cX4_goTo : ByteArray := prog_6_method_12_code
def yX4_goTo : MethodName := ⟨RX4, "goTo", "(I)V"⟩
abbrev cX4_placeIn : ByteArray := prog_6_method_13_code
def yX4_placeIn : MethodName := ⟨RX4, "placeIn", "(Ljava/lang/String;)I"⟩
abbrev cX4_take : ByteArray := prog_6_method_14_code
def yX4_take : MethodName := ⟨RX4, "take", "(I)Z"⟩
abbrev cX4_fail : ByteArray := prog_6_method_15_code
def yX4_fail : MethodName := ⟨RX4, "fail", "(I)Z"⟩
def RX5 : String := "StarHerds$Outlook"
def TX5 : u_T := fun k => match k with
  | 0 => ("StarHerds$Outlook", "plain", "LStarHerds$Plain;", true)
  | 1 => ("StarHerds$Outlook", "crossing", "LStarHerds$Crossing;", true)
  | 2 => ("StarHerds$Outlook", "trial", "LStarHerds$Plain;", true)
  | 3 => ("StarHerds$Outlook", "drawn", "[LStarHerds$Plain;", true)
  | 4 => ("StarHerds$Outlook", "choice", "[I", true)
  | 5 => ("StarHerds$Outlook", "choices", "I", false)
  | 6 => ("StarHerds$Outlook", "came", "[I", true)
  | 7 => ("StarHerds$Outlook", "costs", "[I", true)
  | 8 => ("StarHerds$Outlook", "beers", "[I", true)
  | 9 => ("StarHerds$Outlook", "gains", "[I", true)
  | 10 => ("StarHerds$Outlook", "otherGains", "[I", true)
  | 11 => ("StarHerds$Outlook", "many", "I", false)
  | 12 => ("StarHerds$Outlook", "first", "I", false)
  | 13 => ("StarHerds$Outlook", "inAll", "I", false)
  | _ => ("StarHerds$Outlook", "best", "I", false)
def tyX5 : Nat → FieldType := fun k => match k with
  | 0 => .object "StarHerds$Plain"
  | 1 => .object "StarHerds$Crossing"
  | 2 => .object "StarHerds$Plain"
  | 3 => .array (.object "StarHerds$Plain")
  | 4 => .array .int
  | 5 => .int
  | 6 => .array .int
  | 7 => .array .int
  | 8 => .array .int
  | 9 => .array .int
  | 10 => .array .int
  | 11 => .int
  | 12 => .int
  | 13 => .int
  | _ => .int
abbrev wsX50 : List Cond := u_ws RX5 TX5 15
theorem nmX5 : ∀ a, a < 15 → ∀ b, b < 15 → a ≠ b → (TX5 a).2.1 ≠ (TX5 b).2.1 := by decide +kernel
theorem tyX5_ok : ∀ k, k < 15 → parseFieldDescriptor (TX5 k).2.2.1 = some (tyX5 k) := by decide +kernel
abbrev cX5_init : ByteArray := prog_7_method_1_code
def yX5_init : MethodName := ⟨RX5, "<init>", "()V"⟩
abbrev cX5_weighSets : ByteArray := prog_7_method_2_code
def yX5_weighSets : MethodName := ⟨RX5, "weighSets", "()V"⟩
abbrev cX5_matchSets : ByteArray := prog_7_method_3_code
def yX5_matchSets : MethodName := ⟨RX5, "matchSets", "(ILStarHerds$Tape;)V"⟩
abbrev cX5_chooseInns : ByteArray := prog_7_method_4_code
def yX5_chooseInns : MethodName := ⟨RX5, "chooseInns", "(I)V"⟩
abbrev cX5_chooseStrays : ByteArray := prog_7_method_5_code
def yX5_chooseStrays : MethodName := ⟨RX5, "chooseStrays", "()V"⟩
abbrev cX5_isSet : ByteArray := prog_7_method_6_code
def yX5_isSet : MethodName := ⟨RX5, "isSet", "(I)Z"⟩
abbrev cX5_lightSet : ByteArray := prog_7_method_7_code
def yX5_lightSet : MethodName := ⟨RX5, "lightSet", "(I)V"⟩
abbrev cX5_note : ByteArray := prog_7_method_8_code
def yX5_note : MethodName := ⟨RX5, "note", "(II)V"⟩
abbrev cX5_lampsOf : ByteArray := prog_7_method_9_code
def yX5_lampsOf : MethodName := ⟨RX5, "lampsOf", "(I)I"⟩
abbrev cX5_cameOf : ByteArray := prog_7_method_10_code
def yX5_cameOf : MethodName := ⟨RX5, "cameOf", "(I)I"⟩
abbrev cX5_costOf : ByteArray := prog_7_method_11_code
def yX5_costOf : MethodName := ⟨RX5, "costOf", "(I)I"⟩
abbrev cX5_isAsSeen : ByteArray := prog_7_method_12_code
def yX5_isAsSeen : MethodName := ⟨RX5, "isAsSeen", "(LStarHerds$Tape;)Z"⟩
abbrev cX5_takeBeers : ByteArray := prog_7_method_13_code
def yX5_takeBeers : MethodName := ⟨RX5, "takeBeers", "()V"⟩
abbrev cX5_fillCosts : ByteArray := prog_7_method_14_code
def yX5_fillCosts : MethodName := ⟨RX5, "fillCosts", "()V"⟩
abbrev cX5_planBy : ByteArray := prog_7_method_15_code
def yX5_planBy : MethodName := ⟨RX5, "planBy", "(I)I"⟩
abbrev cX5_safeSet : ByteArray := prog_7_method_16_code
def yX5_safeSet : MethodName := ⟨RX5, "safeSet", "()I"⟩
abbrev cX5_fillGains : ByteArray := prog_7_method_17_code
def yX5_fillGains : MethodName := ⟨RX5, "fillGains", "(III)V"⟩
abbrev cX5_findRest : ByteArray := prog_7_method_18_code
def yX5_findRest : MethodName := ⟨RX5, "findRest", "()V"⟩
abbrev cX5_findPlace : ByteArray := prog_7_method_19_code
def yX5_findPlace : MethodName := ⟨RX5, "findPlace", "(I)V"⟩
abbrev cX5_findWhere : ByteArray := prog_7_method_20_code
def yX5_findWhere : MethodName := ⟨RX5, "findWhere", "(III)V"⟩
abbrev cX5_clearFound : ByteArray := prog_7_method_21_code
def yX5_clearFound : MethodName := ⟨RX5, "clearFound", "()V"⟩
abbrev cX5_found : ByteArray := prog_7_method_22_code
def yX5_found : MethodName := ⟨RX5, "found", "(I)V"⟩
abbrev cX5_countDraws : ByteArray := prog_7_method_23_code
def yX5_countDraws : MethodName := ⟨RX5, "countDraws", "(II)I"⟩
abbrev cX5_countBehind : ByteArray := prog_7_method_24_code
def yX5_countBehind : MethodName := ⟨RX5, "countBehind", "(III)I"⟩
def RX6 : String := "StarHerds$Plain"
def TX6 : u_T := fun k => match k with
  | 0 => ("StarHerds$Plain", "sorts", "[I", true)
  | 1 => ("StarHerds$Plain", "lamps", "LStarHerds$Lamps;", true)
  | 2 => ("StarHerds$Plain", "herds", "LStarHerds$Herds;", true)
  | 3 => ("StarHerds$Plain", "coins", "[I", true)
  | 4 => ("StarHerds$Plain", "led", "[I", true)
  | 5 => ("StarHerds$Plain", "night", "I", false)
  | 6 => ("StarHerds$Plain", "hour", "I", false)
  | 7 => ("StarHerds$Plain", "clouds", "I", false)
  | _ => ("StarHerds$Plain", "x", "I", false)
def tyX6 : Nat → FieldType := fun k => match k with
  | 0 => .array .int
  | 1 => .object "StarHerds$Lamps"
  | 2 => .object "StarHerds$Herds"
  | 3 => .array .int
  | 4 => .array .int
  | 5 => .int
  | 6 => .int
  | 7 => .int
  | _ => .int
abbrev wsX60 : List Cond := u_ws RX6 TX6 9
theorem nmX6 : ∀ a, a < 9 → ∀ b, b < 9 → a ≠ b → (TX6 a).2.1 ≠ (TX6 b).2.1 := by decide +kernel
theorem tyX6_ok : ∀ k, k < 9 → parseFieldDescriptor (TX6 k).2.2.1 = some (tyX6 k) := by decide +kernel
abbrev cX6_init : ByteArray := prog_8_method_1_code
def yX6_init : MethodName := ⟨RX6, "<init>", "()V"⟩
abbrev cX6_become : ByteArray := prog_8_method_2_code
def yX6_become : MethodName := ⟨RX6, "become", "(LStarHerds$Plain;)V"⟩
abbrev cX6_sortAt : ByteArray := prog_8_method_3_code
def yX6_sortAt : MethodName := ⟨RX6, "sortAt", "(I)I"⟩
abbrev cX6_isTaken : ByteArray := prog_8_method_4_code
def yX6_isTaken : MethodName := ⟨RX6, "isTaken", "(I)Z"⟩
abbrev cX6_isThere : ByteArray := prog_8_method_5_code
def yX6_isThere : MethodName := ⟨RX6, "isThere", "(I)Z"⟩
abbrev cX6_isLit : ByteArray := prog_8_method_6_code
def yX6_isLit : MethodName := ⟨RX6, "isLit", "(I)Z"⟩
abbrev cX6_litBits : ByteArray := prog_8_method_7_code
def yX6_litBits : MethodName := ⟨RX6, "litBits", "()I"⟩
abbrev cX6_squareOfLamp : ByteArray := prog_8_method_8_code
def yX6_squareOfLamp : MethodName := ⟨RX6, "squareOfLamp", "(I)I"⟩
abbrev cX6_kindOfLamp : ByteArray := prog_8_method_9_code
def yX6_kindOfLamp : MethodName := ⟨RX6, "kindOfLamp", "(I)I"⟩
abbrev cX6_isClouded : ByteArray := prog_8_method_10_code
def yX6_isClouded : MethodName := ⟨RX6, "isClouded", "()Z"⟩
abbrev cX6_draw : ByteArray := prog_8_method_11_code
def yX6_draw : MethodName := ⟨RX6, "draw", "()I"⟩
abbrev cX6_hoursLeft : ByteArray := prog_8_method_12_code
def yX6_hoursLeft : MethodName := ⟨RX6, "hoursLeft", "()I"⟩
abbrev cX6_endHour : ByteArray := prog_8_method_13_code
def yX6_endHour : MethodName := ⟨RX6, "endHour", "()V"⟩
def RX7 : String := "StarHerds$Tape"
def TX7 : u_T := fun k => match k with
  | 0 => ("StarHerds$Tape", "bytes", "[I", true)
  | _ => ("StarHerds$Tape", "size", "I", false)
def tyX7 : Nat → FieldType := fun k => match k with
  | 0 => .array .int
  | _ => .int
abbrev wsX70 : List Cond := u_ws RX7 TX7 2
theorem nmX7 : ∀ a, a < 2 → ∀ b, b < 2 → a ≠ b → (TX7 a).2.1 ≠ (TX7 b).2.1 := by decide +kernel
theorem tyX7_ok : ∀ k, k < 2 → parseFieldDescriptor (TX7 k).2.2.1 = some (tyX7 k) := by decide +kernel
abbrev cX7_init : ByteArray := prog_9_method_1_code
def yX7_init : MethodName := ⟨RX7, "<init>", "()V"⟩
abbrev cX7_add : ByteArray := prog_9_method_2_code
def yX7_add : MethodName := ⟨RX7, "add", "(I)V"⟩
abbrev cX7_byteAt : ByteArray := prog_9_method_3_code
def yX7_byteAt : MethodName := ⟨RX7, "byteAt", "(I)I"⟩
abbrev cX7_numberAt : ByteArray := prog_9_method_4_code
def yX7_numberAt : MethodName := ⟨RX7, "numberAt", "(I)I"⟩
def RX8 : String := "StarHerds"
def TX8 : u_T := fun k => match k with
  | 0 => ("StarHerds", "outlook", "LStarHerds$Outlook;", true)
  | 1 => ("StarHerds", "plain", "LStarHerds$Plain;", true)
  | 2 => ("StarHerds", "crossing", "LStarHerds$Crossing;", true)
  | 3 => ("StarHerds", "law", "LStarHerds$Law;", true)
  | 4 => ("StarHerds", "reader", "LStarHerds$LawReader;", true)
  | 5 => ("StarHerds", "tape", "LStarHerds$Tape;", true)
  | 6 => ("StarHerds", "kept", "LStarHerds$Plain;", true)
  | _ => ("StarHerds", "isKept", "Z", false)
def tyX8 : Nat → FieldType := fun k => match k with
  | 0 => .object "StarHerds$Outlook"
  | 1 => .object "StarHerds$Plain"
  | 2 => .object "StarHerds$Crossing"
  | 3 => .object "StarHerds$Law"
  | 4 => .object "StarHerds$LawReader"
  | 5 => .object "StarHerds$Tape"
  | 6 => .object "StarHerds$Plain"
  | _ => .boolean
abbrev wsX80 : List Cond := u_ws RX8 TX8 8
theorem nmX8 : ∀ a, a < 8 → ∀ b, b < 8 → a ≠ b → (TX8 a).2.1 ≠ (TX8 b).2.1 := by decide +kernel
theorem tyX8_ok : ∀ k, k < 8 → parseFieldDescriptor (TX8 k).2.2.1 = some (tyX8 k) := by decide +kernel
abbrev cX8_init : ByteArray := prog_1_method_1_code
def yX8_init : MethodName := ⟨RX8, "<init>", "()V"⟩
abbrev cX8_ground : ByteArray := prog_1_method_2_code
def yX8_ground : MethodName := ⟨RX8, "ground", "(III)Z"⟩
abbrev cX8_inn : ByteArray := prog_1_method_3_code
def yX8_inn : MethodName := ⟨RX8, "inn", "(IIII)Z"⟩
abbrev cX8_stray : ByteArray := prog_1_method_4_code
def yX8_stray : MethodName := ⟨RX8, "stray", "(IIIIZ)Z"⟩
abbrev cX8_gone : ByteArray := prog_1_method_5_code
def yX8_gone : MethodName := ⟨RX8, "gone", "(I)Z"⟩
abbrev cX8_dog : ByteArray := prog_1_method_6_code
def yX8_dog : MethodName := ⟨RX8, "dog", "(II)Z"⟩
abbrev cX8_herd : ByteArray := prog_1_method_7_code
def yX8_herd : MethodName := ⟨RX8, "herd", "(IIIIII)Z"⟩
abbrev cX8_fire : ByteArray := prog_1_method_8_code
def yX8_fire : MethodName := ⟨RX8, "fire", "(IZ)Z"⟩
abbrev cX8_drover : ByteArray := prog_1_method_9_code
def yX8_drover : MethodName := ⟨RX8, "drover", "(II)Z"⟩
abbrev cX8_feed : ByteArray := prog_1_method_10_code
def yX8_feed : MethodName := ⟨RX8, "feed", "(IIIII)I"⟩
abbrev cX8_law : ByteArray := prog_1_method_11_code
def yX8_law : MethodName := ⟨RX8, "law", "(I)I"⟩
abbrev cX8_price : ByteArray := prog_1_method_12_code
def yX8_price : MethodName := ⟨RX8, "price", "(I)I"⟩
abbrev cX8_pay : ByteArray := prog_1_method_13_code
def yX8_pay : MethodName := ⟨RX8, "pay", "(III)I"⟩
abbrev cX8_clouds : ByteArray := prog_1_method_14_code
def yX8_clouds : MethodName := ⟨RX8, "clouds", "(I)Z"⟩
abbrev cX8_lit : ByteArray := prog_1_method_15_code
def yX8_lit : MethodName := ⟨RX8, "lit", "(I)I"⟩
abbrev cX8_pull : ByteArray := prog_1_method_16_code
def yX8_pull : MethodName := ⟨RX8, "pull", "(II)I"⟩
abbrev cX8_target : ByteArray := prog_1_method_17_code
def yX8_target : MethodName := ⟨RX8, "target", "(I)I"⟩
abbrev cX8_hours : ByteArray := prog_1_method_18_code
def yX8_hours : MethodName := ⟨RX8, "hours", "(I)I"⟩
abbrev cX8_hour : ByteArray := prog_1_method_19_code
def yX8_hour : MethodName := ⟨RX8, "hour", "(I)I"⟩
abbrev cX8_tried : ByteArray := prog_1_method_20_code
def yX8_tried : MethodName := ⟨RX8, "tried", "(II)I"⟩
abbrev cX8_herdIs : ByteArray := prog_1_method_21_code
def yX8_herdIs : MethodName := ⟨RX8, "herdIs", "(II)I"⟩
abbrev cX8_lampIs : ByteArray := prog_1_method_22_code
def yX8_lampIs : MethodName := ⟨RX8, "lampIs", "(II)I"⟩
abbrev cX8_led : ByteArray := prog_1_method_23_code
def yX8_led : MethodName := ⟨RX8, "led", "(I)I"⟩
abbrev cX8_plan : ByteArray := prog_1_method_24_code
def yX8_plan : MethodName := ⟨RX8, "plan", "(II)I"⟩
abbrev cX8_safe : ByteArray := prog_1_method_25_code
def yX8_safe : MethodName := ⟨RX8, "safe", "(I)I"⟩
abbrev cX8_place : ByteArray := prog_1_method_26_code
def yX8_place : MethodName := ⟨RX8, "place", "(II)I"⟩
abbrev cX8_prices : ByteArray := prog_1_method_27_code
def yX8_prices : MethodName := ⟨RX8, "prices", "(IIII)I"⟩
abbrev cX8_whoLit : ByteArray := prog_1_method_28_code
def yX8_whoLit : MethodName := ⟨RX8, "whoLit", "(II)I"⟩
abbrev cX8_where : ByteArray := prog_1_method_29_code
def yX8_where : MethodName := ⟨RX8, "where", "(IIII)I"⟩
abbrev cX8_odds : ByteArray := prog_1_method_30_code
def yX8_odds : MethodName := ⟨RX8, "odds", "(III)I"⟩
abbrev cX8_seed : ByteArray := prog_1_method_31_code
def yX8_seed : MethodName := ⟨RX8, "seed", "(I)Z"⟩
abbrev cX8_clouded : ByteArray := prog_1_method_32_code
def yX8_clouded : MethodName := ⟨RX8, "clouded", "()I"⟩
abbrev cX8_keep : ByteArray := prog_1_method_33_code
def yX8_keep : MethodName := ⟨RX8, "keep", "()I"⟩
abbrev cX8_undo : ByteArray := prog_1_method_34_code
def yX8_undo : MethodName := ⟨RX8, "undo", "()Z"⟩
abbrev cX8_check : ByteArray := prog_1_method_35_code
def yX8_check : MethodName := ⟨RX8, "check", "(I)I"⟩
abbrev cX8_count : ByteArray := prog_1_method_36_code
def yX8_count : MethodName := ⟨RX8, "count", "(I)I"⟩
abbrev cX8_setLamp : ByteArray := prog_1_method_37_code
def yX8_setLamp : MethodName := ⟨RX8, "setLamp", "(IIIIZ)Z"⟩
abbrev cX8_isInnThere : ByteArray := prog_1_method_38_code
def yX8_isInnThere : MethodName := ⟨RX8, "isInnThere", "(I)Z"⟩
abbrev cX8_isLeft : ByteArray := prog_1_method_39_code
def yX8_isLeft : MethodName := ⟨RX8, "isLeft", "(I)Z"⟩
abbrev cX8_isTriedAsked : ByteArray := prog_1_method_40_code
def yX8_isTriedAsked : MethodName := ⟨RX8, "isTriedAsked", "(I)Z"⟩
abbrev cX8_isIn : ByteArray := prog_1_method_41_code
def yX8_isIn : MethodName := ⟨RX8, "isIn", "(III)Z"⟩
abbrev cX8_isSquare : ByteArray := prog_1_method_42_code
def yX8_isSquare : MethodName := ⟨RX8, "isSquare", "(II)Z"⟩
abbrev cX8_commonDivisor : ByteArray := prog_1_method_43_code
def yX8_commonDivisor : MethodName := ⟨RX8, "commonDivisor", "(II)I"⟩
def RX9 : String := "StarHerdsModel"
def TX9 : u_T := fun k => match k with
  | 0 => ("StarHerdsModel", "row", "[I", true)
  | 1 => ("StarHerdsModel", "aside", "[I", true)
  | 2 => ("StarHerdsModel", "kept", "[I", true)
  | 3 => ("StarHerdsModel", "tape", "[B", true)
  | 4 => ("StarHerdsModel", "taped", "I", false)
  | 5 => ("StarHerdsModel", "place0", "I", false)
  | 6 => ("StarHerdsModel", "length0", "I", false)
  | 7 => ("StarHerdsModel", "fault", "I", false)
  | 8 => ("StarHerdsModel", "open", "I", false)
  | 9 => ("StarHerdsModel", "codeMany", "I", false)
  | 10 => ("StarHerdsModel", "waiting", "I", false)
  | 11 => ("StarHerdsModel", "saidMany", "I", false)
  | 12 => ("StarHerdsModel", "number0", "I", false)
  | 13 => ("StarHerdsModel", "clauses", "I", false)
  | 14 => ("StarHerdsModel", "said", "[I", true)
  | 15 => ("StarHerdsModel", "waits", "[I", true)
  | 16 => ("StarHerdsModel", "saidLetter", "[I", true)
  | 17 => ("StarHerdsModel", "saidFrom", "[I", true)
  | 18 => ("StarHerdsModel", "saidHalf", "[I", true)
  | 19 => ("StarHerdsModel", "saidTo", "[I", true)
  | 20 => ("StarHerdsModel", "codes", "[I", true)
  | 21 => ("StarHerdsModel", "clauseOf", "[I", true)
  | 22 => ("StarHerdsModel", "codeFrom", "[I", true)
  | 23 => ("StarHerdsModel", "codeHalf", "[I", true)
  | 24 => ("StarHerdsModel", "codeTo", "[I", true)
  | 25 => ("StarHerdsModel", "stack", "[I", true)
  | 26 => ("StarHerdsModel", "facts", "[I", true)
  | 27 => ("StarHerdsModel", "livingBy", "[I", true)
  | 28 => ("StarHerdsModel", "priceNow", "[I", true)
  | 29 => ("StarHerdsModel", "canBeLit", "I", false)
  | 30 => ("StarHerdsModel", "planSet", "I", false)
  | 31 => ("StarHerdsModel", "planCoins", "I", false)
  | 32 => ("StarHerdsModel", "planLiving", "I", false)
  | 33 => ("StarHerdsModel", "gains0", "[I", true)
  | 34 => ("StarHerdsModel", "gains1", "[I", true)
  | 35 => ("StarHerdsModel", "toldAt", "[I", true)
  | _ => ("StarHerdsModel", "isKept", "Z", false)
def tyX9 : Nat → FieldType := fun k => match k with
  | 0 => .array .int
  | 1 => .array .int
  | 2 => .array .int
  | 3 => .array .byte
  | 4 => .int
  | 5 => .int
  | 6 => .int
  | 7 => .int
  | 8 => .int
  | 9 => .int
  | 10 => .int
  | 11 => .int
  | 12 => .int
  | 13 => .int
  | 14 => .array .int
  | 15 => .array .int
  | 16 => .array .int
  | 17 => .array .int
  | 18 => .array .int
  | 19 => .array .int
  | 20 => .array .int
  | 21 => .array .int
  | 22 => .array .int
  | 23 => .array .int
  | 24 => .array .int
  | 25 => .array .int
  | 26 => .array .int
  | 27 => .array .int
  | 28 => .array .int
  | 29 => .int
  | 30 => .int
  | 31 => .int
  | 32 => .int
  | 33 => .array .int
  | 34 => .array .int
  | 35 => .array .int
  | _ => .boolean
abbrev wsX90 : List Cond := u_ws RX9 TX9 37
theorem nmX9 : ∀ a, a < 37 → ∀ b, b < 37 → a ≠ b → (TX9 a).2.1 ≠ (TX9 b).2.1 := by decide +kernel
theorem tyX9_ok : ∀ k, k < 37 → parseFieldDescriptor (TX9 k).2.2.1 = some (tyX9 k) := by decide +kernel
abbrev cX9_init : ByteArray := prog_11_method_1_code
def yX9_init : MethodName := ⟨RX9, "<init>", "()V"⟩
abbrev cX9_in : ByteArray := prog_11_method_2_code
def yX9_in : MethodName := ⟨RX9, "in", "(III)Z"⟩
abbrev cX9_min : ByteArray := prog_11_method_3_code
def yX9_min : MethodName := ⟨RX9, "min", "(II)I"⟩
abbrev cX9_held : ByteArray := prog_11_method_4_code
def yX9_held : MethodName := ⟨RX9, "held", "(II)I"⟩
abbrev cX9_size : ByteArray := prog_11_method_5_code
def yX9_size : MethodName := ⟨RX9, "size", "(I)I"⟩
abbrev cX9_has : ByteArray := prog_11_method_6_code
def yX9_has : MethodName := ⟨RX9, "has", "(II)Z"⟩
abbrev cX9_isIn : ByteArray := prog_11_method_7_code
def yX9_isIn : MethodName := ⟨RX9, "isIn", "(II)Z"⟩
abbrev cX9_way : ByteArray := prog_11_method_8_code
def yX9_way : MethodName := ⟨RX9, "way", "(II)I"⟩
abbrev cX9_isRock : ByteArray := prog_11_method_9_code
def yX9_isRock : MethodName := ⟨RX9, "isRock", "(I)Z"⟩
abbrev cX9_isInn : ByteArray := prog_11_method_10_code
def yX9_isInn : MethodName := ⟨RX9, "isInn", "(I)Z"⟩
abbrev cX9_isLamp : ByteArray := prog_11_method_11_code
def yX9_isLamp : MethodName := ⟨RX9, "isLamp", "(I)Z"⟩
abbrev cX9_isTold : ByteArray := prog_11_method_12_code
def yX9_isTold : MethodName := ⟨RX9, "isTold", "(I)Z"⟩
abbrev cX9_isOn : ByteArray := prog_11_method_13_code
def yX9_isOn : MethodName := ⟨RX9, "isOn", "(I)Z"⟩
abbrev cX9_isLit : ByteArray := prog_11_method_14_code
def yX9_isLit : MethodName := ⟨RX9, "isLit", "(I)Z"⟩
abbrev cX9_lampAt : ByteArray := prog_11_method_15_code
def yX9_lampAt : MethodName := ⟨RX9, "lampAt", "(I)I"⟩
abbrev cX9_kindOf : ByteArray := prog_11_method_16_code
def yX9_kindOf : MethodName := ⟨RX9, "kindOf", "(I)I"⟩
abbrev cX9_isTaken : ByteArray := prog_11_method_17_code
def yX9_isTaken : MethodName := ⟨RX9, "isTaken", "(I)Z"⟩
abbrev cX9_ground : ByteArray := prog_11_method_18_code
def yX9_ground : MethodName := ⟨RX9, "ground", "(III)Z"⟩
abbrev cX9_putsLamp : ByteArray := prog_11_method_19_code
def yX9_putsLamp : MethodName := ⟨RX9, "putsLamp", "(IIIII)Z"⟩
abbrev cX9_inn : ByteArray := prog_11_method_20_code
def yX9_inn : MethodName := ⟨RX9, "inn", "(IIII)Z"⟩
abbrev cX9_stray : ByteArray := prog_11_method_21_code
def yX9_stray : MethodName := ⟨RX9, "stray", "(IIIIZ)Z"⟩
abbrev cX9_gone : ByteArray := prog_11_method_22_code
def yX9_gone : MethodName := ⟨RX9, "gone", "(I)Z"⟩
abbrev cX9_dog : ByteArray := prog_11_method_23_code
def yX9_dog : MethodName := ⟨RX9, "dog", "(II)Z"⟩
abbrev cX9_herd : ByteArray := prog_11_method_24_code
def yX9_herd : MethodName := ⟨RX9, "herd", "(IIIIII)Z"⟩
abbrev cX9_fire : ByteArray := prog_11_method_25_code
def yX9_fire : MethodName := ⟨RX9, "fire", "(IZ)Z"⟩
abbrev cX9_isDrover : ByteArray := prog_11_method_26_code
def yX9_isDrover : MethodName := ⟨RX9, "isDrover", "(I)Z"⟩
abbrev cX9_drover : ByteArray := prog_11_method_27_code
def yX9_drover : MethodName := ⟨RX9, "drover", "(II)Z"⟩
abbrev cX9_types : ByteArray := prog_11_method_28_code
def yX9_types : MethodName := ⟨RX9, "types", "(I)V"⟩
abbrev cX9_feed : ByteArray := prog_11_method_29_code
def yX9_feed : MethodName := ⟨RX9, "feed", "(IIIII)I"⟩
abbrev cX9_here : ByteArray := prog_11_method_30_code
def yX9_here : MethodName := ⟨RX9, "here", "()I"⟩
abbrev cX9_isDigit : ByteArray := prog_11_method_31_code
def yX9_isDigit : MethodName := ⟨RX9, "isDigit", "()Z"⟩
abbrev cX9_wrongAt : ByteArray := prog_11_method_32_code
def yX9_wrongAt : MethodName := ⟨RX9, "wrongAt", "(II)Z"⟩
abbrev cX9_takes : ByteArray := prog_11_method_33_code
def yX9_takes : MethodName := ⟨RX9, "takes", "(I)Z"⟩
abbrev cX9_readsNumber : ByteArray := prog_11_method_34_code
def yX9_readsNumber : MethodName := ⟨RX9, "readsNumber", "()Z"⟩
abbrev cX9_notes : ByteArray := prog_11_method_35_code
def yX9_notes : MethodName := ⟨RX9, "notes", "(II)V"⟩
abbrev cX9_opens : ByteArray := prog_11_method_36_code
def yX9_opens : MethodName := ⟨RX9, "opens", "(I)Z"⟩
abbrev cX9_waitTop : ByteArray := prog_11_method_37_code
def yX9_waitTop : MethodName := ⟨RX9, "waitTop", "()I"⟩
abbrev cX9_factOf : ByteArray := prog_11_method_38_code
def yX9_factOf : MethodName := ⟨RX9, "factOf", "(I)I"⟩
abbrev cX9_sumSign : ByteArray := prog_11_method_39_code
def yX9_sumSign : MethodName := ⟨RX9, "sumSign", "(I)I"⟩
abbrev cX9_closesSums : ByteArray := prog_11_method_40_code
def yX9_closesSums : MethodName := ⟨RX9, "closesSums", "(Z)V"⟩
abbrev cX9_readsFactor : ByteArray := prog_11_method_41_code
def yX9_readsFactor : MethodName := ⟨RX9, "readsFactor", "()Z"⟩
abbrev cX9_hasOpenSum : ByteArray := prog_11_method_42_code
def yX9_hasOpenSum : MethodName := ⟨RX9, "hasOpenSum", "(I)Z"⟩
abbrev cX9_readsSum : ByteArray := prog_11_method_43_code
def yX9_readsSum : MethodName := ⟨RX9, "readsSum", "()Z"⟩
abbrev cX9_endsPiece : ByteArray := prog_11_method_44_code
def yX9_endsPiece : MethodName := ⟨RX9, "endsPiece", "()V"⟩
abbrev cX9_lands : ByteArray := prog_11_method_45_code
def yX9_lands : MethodName := ⟨RX9, "lands", "(Z)V"⟩
abbrev cX9_jumps : ByteArray := prog_11_method_46_code
def yX9_jumps : MethodName := ⟨RX9, "jumps", "(I)V"⟩
abbrev cX9_readsCompared : ByteArray := prog_11_method_47_code
def yX9_readsCompared : MethodName := ⟨RX9, "readsCompared", "()Z"⟩
abbrev cX9_readsCondition : ByteArray := prog_11_method_48_code
def yX9_readsCondition : MethodName := ⟨RX9, "readsCondition", "()Z"⟩
abbrev cX9_isClause : ByteArray := prog_11_method_49_code
def yX9_isClause : MethodName := ⟨RX9, "isClause", "(I)Z"⟩
abbrev cX9_readsClause : ByteArray := prog_11_method_50_code
def yX9_readsClause : MethodName := ⟨RX9, "readsClause", "()Z"⟩
abbrev cX9_law : ByteArray := prog_11_method_51_code
def yX9_law : MethodName := ⟨RX9, "law", "(I)I"⟩
abbrev cX9_reckon : ByteArray := prog_11_method_52_code
def yX9_reckon : MethodName := ⟨RX9, "reckon", "(III)I"⟩
abbrev cX9_comesTo : ByteArray := prog_11_method_53_code
def yX9_comesTo : MethodName := ⟨RX9, "comesTo", "(II)I"⟩
abbrev cX9_byLaw : ByteArray := prog_11_method_54_code
def yX9_byLaw : MethodName := ⟨RX9, "byLaw", "(III)I"⟩
abbrev cX9_feels : ByteArray := prog_11_method_55_code
def yX9_feels : MethodName := ⟨RX9, "feels", "()V"⟩
abbrev cX9_isClouded : ByteArray := prog_11_method_56_code
def yX9_isClouded : MethodName := ⟨RX9, "isClouded", "()Z"⟩
abbrev cX9_feelsHerd : ByteArray := prog_11_method_57_code
def yX9_feelsHerd : MethodName := ⟨RX9, "feelsHerd", "(II)V"⟩
abbrev cX9_pulls : ByteArray := prog_11_method_58_code
def yX9_pulls : MethodName := ⟨RX9, "pulls", "(II)I"⟩
abbrev cX9_priceOf : ByteArray := prog_11_method_59_code
def yX9_priceOf : MethodName := ⟨RX9, "priceOf", "(I)I"⟩
abbrev cX9_price : ByteArray := prog_11_method_60_code
def yX9_price : MethodName := ⟨RX9, "price", "(I)I"⟩
abbrev cX9_pay : ByteArray := prog_11_method_61_code
def yX9_pay : MethodName := ⟨RX9, "pay", "(III)I"⟩
abbrev cX9_clouds : ByteArray := prog_11_method_62_code
def yX9_clouds : MethodName := ⟨RX9, "clouds", "(I)Z"⟩
abbrev cX9_lit : ByteArray := prog_11_method_63_code
def yX9_lit : MethodName := ⟨RX9, "lit", "(I)I"⟩
abbrev cX9_pull : ByteArray := prog_11_method_64_code
def yX9_pull : MethodName := ⟨RX9, "pull", "(II)I"⟩
abbrev cX9_targetOf : ByteArray := prog_11_method_65_code
def yX9_targetOf : MethodName := ⟨RX9, "targetOf", "(I)I"⟩
abbrev cX9_target : ByteArray := prog_11_method_66_code
def yX9_target : MethodName := ⟨RX9, "target", "(I)I"⟩
abbrev cX9_steps : ByteArray := prog_11_method_67_code
def yX9_steps : MethodName := ⟨RX9, "steps", "(III)Z"⟩
abbrev cX9_stampedes : ByteArray := prog_11_method_68_code
def yX9_stampedes : MethodName := ⟨RX9, "stampedes", "(II)V"⟩
abbrev cX9_sign : ByteArray := prog_11_method_69_code
def yX9_sign : MethodName := ⟨RX9, "sign", "(I)I"⟩
abbrev cX9_goesTo : ByteArray := prog_11_method_70_code
def yX9_goesTo : MethodName := ⟨RX9, "goesTo", "(II)V"⟩
abbrev cX9_goesOn : ByteArray := prog_11_method_71_code
def yX9_goesOn : MethodName := ⟨RX9, "goesOn", "(I)V"⟩
abbrev cX9_loses : ByteArray := prog_11_method_72_code
def yX9_loses : MethodName := ⟨RX9, "loses", "(III)I"⟩
abbrev cX9_sinks : ByteArray := prog_11_method_73_code
def yX9_sinks : MethodName := ⟨RX9, "sinks", "(III)I"⟩
abbrev cX9_herdGoes : ByteArray := prog_11_method_74_code
def yX9_herdGoes : MethodName := ⟨RX9, "herdGoes", "(II)I"⟩
abbrev cX9_passes : ByteArray := prog_11_method_75_code
def yX9_passes : MethodName := ⟨RX9, "passes", "(I)I"⟩
abbrev cX9_draws : ByteArray := prog_11_method_76_code
def yX9_draws : MethodName := ⟨RX9, "draws", "()I"⟩
abbrev cX9_runs : ByteArray := prog_11_method_77_code
def yX9_runs : MethodName := ⟨RX9, "runs", "(I)I"⟩
abbrev cX9_hours : ByteArray := prog_11_method_78_code
def yX9_hours : MethodName := ⟨RX9, "hours", "(I)I"⟩
abbrev cX9_hour : ByteArray := prog_11_method_79_code
def yX9_hour : MethodName := ⟨RX9, "hour", "(I)I"⟩
abbrev cX9_living : ByteArray := prog_11_method_80_code
def yX9_living : MethodName := ⟨RX9, "living", "()I"⟩
abbrev cX9_through : ByteArray := prog_11_method_81_code
def yX9_through : MethodName := ⟨RX9, "through", "()I"⟩
abbrev cX9_copies : ByteArray := prog_11_method_82_code
def yX9_copies : MethodName := ⟨RX9, "copies", "([I[I)V"⟩
abbrev cX9_begins : ByteArray := prog_11_method_83_code
def yX9_begins : MethodName := ⟨RX9, "begins", "()V"⟩
abbrev cX9_again : ByteArray := prog_11_method_84_code
def yX9_again : MethodName := ⟨RX9, "again", "()V"⟩
abbrev cX9_tried : ByteArray := prog_11_method_85_code
def yX9_tried : MethodName := ⟨RX9, "tried", "(II)I"⟩
abbrev cX9_herdIs : ByteArray := prog_11_method_86_code
def yX9_herdIs : MethodName := ⟨RX9, "herdIs", "(II)I"⟩
abbrev cX9_lampIs : ByteArray := prog_11_method_87_code
def yX9_lampIs : MethodName := ⟨RX9, "lampIs", "(II)I"⟩
abbrev cX9_led : ByteArray := prog_11_method_88_code
def yX9_led : MethodName := ⟨RX9, "led", "(I)I"⟩
abbrev cX9_livingWith : ByteArray := prog_11_method_89_code
def yX9_livingWith : MethodName := ⟨RX9, "livingWith", "(I)I"⟩
abbrev cX9_laysLiving : ByteArray := prog_11_method_90_code
def yX9_laysLiving : MethodName := ⟨RX9, "laysLiving", "()V"⟩
abbrev cX9_costs : ByteArray := prog_11_method_91_code
def yX9_costs : MethodName := ⟨RX9, "costs", "(I)I"⟩
abbrev cX9_laysPlan : ByteArray := prog_11_method_92_code
def yX9_laysPlan : MethodName := ⟨RX9, "laysPlan", "(I)V"⟩
abbrev cX9_plan : ByteArray := prog_11_method_93_code
def yX9_plan : MethodName := ⟨RX9, "plan", "(II)I"⟩
abbrev cX9_safe : ByteArray := prog_11_method_94_code
def yX9_safe : MethodName := ⟨RX9, "safe", "(I)I"⟩
abbrev cX9_place : ByteArray := prog_11_method_95_code
def yX9_place : MethodName := ⟨RX9, "place", "(II)I"⟩
abbrev cX9_laysGains : ByteArray := prog_11_method_96_code
def yX9_laysGains : MethodName := ⟨RX9, "laysGains", "(III)V"⟩
abbrev cX9_rests : ByteArray := prog_11_method_97_code
def yX9_rests : MethodName := ⟨RX9, "rests", "(I)Z"⟩
abbrev cX9_isUnlit : ByteArray := prog_11_method_98_code
def yX9_isUnlit : MethodName := ⟨RX9, "isUnlit", "(I)Z"⟩
abbrev cX9_prices : ByteArray := prog_11_method_99_code
def yX9_prices : MethodName := ⟨RX9, "prices", "(IIII)I"⟩
abbrev cX9_areWithin : ByteArray := prog_11_method_100_code
def yX9_areWithin : MethodName := ⟨RX9, "areWithin", "(I)Z"⟩
abbrev cX9_unknown : ByteArray := prog_11_method_101_code
def yX9_unknown : MethodName := ⟨RX9, "unknown", "()I"⟩
abbrev cX9_comesSo : ByteArray := prog_11_method_102_code
def yX9_comesSo : MethodName := ⟨RX9, "comesSo", "(II)Z"⟩
abbrev cX9_whoLit : ByteArray := prog_11_method_103_code
def yX9_whoLit : MethodName := ⟨RX9, "whoLit", "(II)I"⟩
abbrev cX9_where : ByteArray := prog_11_method_104_code
def yX9_where : MethodName := ⟨RX9, "where", "(IIII)I"⟩
abbrev cX9_gcd : ByteArray := prog_11_method_105_code
def yX9_gcd : MethodName := ⟨RX9, "gcd", "(II)I"⟩
abbrev cX9_odds : ByteArray := prog_11_method_106_code
def yX9_odds : MethodName := ⟨RX9, "odds", "(III)I"⟩
abbrev cX9_seed : ByteArray := prog_11_method_107_code
def yX9_seed : MethodName := ⟨RX9, "seed", "(I)Z"⟩
abbrev cX9_clouded : ByteArray := prog_11_method_108_code
def yX9_clouded : MethodName := ⟨RX9, "clouded", "()I"⟩
abbrev cX9_keep : ByteArray := prog_11_method_109_code
def yX9_keep : MethodName := ⟨RX9, "keep", "()I"⟩
abbrev cX9_undo : ByteArray := prog_11_method_110_code
def yX9_undo : MethodName := ⟨RX9, "undo", "()Z"⟩
abbrev cX9_tapeNumber : ByteArray := prog_11_method_111_code
def yX9_tapeNumber : MethodName := ⟨RX9, "tapeNumber", "(I)I"⟩
abbrev cX9_check : ByteArray := prog_11_method_112_code
def yX9_check : MethodName := ⟨RX9, "check", "(I)I"⟩
abbrev cX9_herdBits : ByteArray := prog_11_method_113_code
def yX9_herdBits : MethodName := ⟨RX9, "herdBits", "(Z)I"⟩
abbrev cX9_litBits : ByteArray := prog_11_method_114_code
def yX9_litBits : MethodName := ⟨RX9, "litBits", "()I"⟩
abbrev cX9_count : ByteArray := prog_11_method_115_code
def yX9_count : MethodName := ⟨RX9, "count", "(I)I"⟩
def RJ11 : String := "java/lang/Character"
def RJ6 : String := "java/lang/Integer"
abbrev cJ6_compare_7cf53 : ByteArray := prog_13_method_40_code
def yJ6_compare_7cf53 : MethodName := ⟨RJ6, "compare", "(II)I"⟩
abbrev cJ6_numberOfTrailingZeros_0f7a4 : ByteArray := prog_13_method_48_code
def yJ6_numberOfTrailingZeros_0f7a4 : MethodName := ⟨RJ6, "numberOfTrailingZeros", "(I)I"⟩
abbrev cJ6_bitCount_0f7a4 : ByteArray := prog_13_method_49_code
def yJ6_bitCount_0f7a4 : MethodName := ⟨RJ6, "bitCount", "(I)I"⟩
def RJ9 : String := "java/lang/Math"
def RJ0 : String := "java/lang/String"
abbrev cJ0_length_8abf5 : ByteArray := prog_15_method_54_code
def yJ0_length_8abf5 : MethodName := ⟨RJ0, "length", "()I"⟩
abbrev cJ0_indexOf_0f7a4 : ByteArray := prog_15_method_79_code
def yJ0_indexOf_0f7a4 : MethodName := ⟨RJ0, "indexOf", "(I)I"⟩
abbrev cJ0_indexOf_7cf53 : ByteArray := prog_15_method_80_code
def yJ0_indexOf_7cf53 : MethodName := ⟨RJ0, "indexOf", "(II)I"⟩
abbrev cJ0_coder_7d493 : ByteArray := prog_15_method_152_code
def yJ0_coder_7d493 : MethodName := ⟨RJ0, "coder", "()B"⟩
abbrev cJ0_isLatin1_aae02 : ByteArray := prog_15_method_154_code
def yJ0_isLatin1_aae02 : MethodName := ⟨RJ0, "isLatin1", "()Z"⟩
def RJ1 : String := "java/lang/StringLatin1"
abbrev cJ1_canEncode_9a6ad : ByteArray := prog_16_method_4_code
def yJ1_canEncode_9a6ad : MethodName := ⟨RJ1, "canEncode", "(I)Z"⟩
abbrev cJ1_indexOf_4cfef : ByteArray := prog_16_method_22_code
def yJ1_indexOf_4cfef : MethodName := ⟨RJ1, "indexOf", "([BIII)I"⟩
abbrev cJ1_indexOfChar_4cfef : ByteArray := prog_16_method_23_code
def yJ1_indexOfChar_4cfef : MethodName := ⟨RJ1, "indexOfChar", "([BIII)I"⟩
def RJ2 : String := "java/lang/StringUTF16"
abbrev cJ2_length_9d52b : ByteArray := prog_17_method_6_code
def yJ2_length_9d52b : MethodName := ⟨RJ2, "length", "([B)I"⟩
abbrev cJ2_indexOf_4cfef : ByteArray := prog_17_method_40_code
def yJ2_indexOf_4cfef : MethodName := ⟨RJ2, "indexOf", "([BIII)I"⟩
abbrev cJ2_indexOfChar_4cfef : ByteArray := prog_17_method_47_code
def yJ2_indexOfChar_4cfef : MethodName := ⟨RJ2, "indexOfChar", "([BIII)I"⟩
abbrev cJ2_indexOfCharUnsafe_4cfef : ByteArray := prog_17_method_48_code
def yJ2_indexOfCharUnsafe_4cfef : MethodName := ⟨RJ2, "indexOfCharUnsafe", "([BIII)I"⟩
abbrev cJ2_indexOfSupplementary_4cfef : ByteArray := prog_17_method_49_code
def yJ2_indexOfSupplementary_4cfef : MethodName := ⟨RJ2, "indexOfSupplementary", "([BIII)I"⟩
def RJ10 : String := "java/lang/System"
def RJ7 : String := "java/util/Arrays"
abbrev cJ7_fill_53178 : ByteArray := prog_19_method_103_code
def yJ7_fill_53178 : MethodName := ⟨RJ7, "fill", "([II)V"⟩
def RJ3 : String := "jdk/internal/util/Preconditions"
def RL : String := "StarHerdsLaw"
abbrev cL_law : ByteArray := code
def yL_law : MethodName := ⟨RL, "law", "([I)Z"⟩
abbrev vwCl : List vw_C := [(RX0, TX0, 3), (RX1, TX1, 6), (RX2, TX2, 6), (RX3, TX3, 10), (RX4, TX4, 6), (RX5, TX5, 15), (RX6, TX6, 9), (RX7, TX7, 2), (RX8, TX8, 8), (RX9, TX9, 37)]
