section
-- ===== PART A: goes FIRST, ahead of the names: the tables' words, and 'selects' of the private methods out of them =====
/-- a private method of a class that the tables say can be made, by its rows of tables_1 -/
def lw_okq (q : MethodName × Nat) : Prop := (q.1.cls ≠ "java/lang/invoke/MethodHandle" ∧ q.1.cls ≠ "java/lang/invoke/VarHandle") ∧ Cond.instantiable q.1.cls q.2 ∈ tables_1 ∧ Cond.privateMethod q.1 ∈ tables_1 ∧ Cond.instanceMethod q.1 ∈ tables_1
theorem lw_p0 : lw_okq (⟨"NearFigures", "aheadOfChange", "()V"⟩, 13) := ⟨⟨by decide +kernel, by decide +kernel⟩, List.mem_of_getElem? (i := 12) (by decide +kernel), List.mem_of_getElem? (i := 214) (by decide +kernel), List.mem_of_getElem? (i := 215) (by decide +kernel)⟩
theorem lw_p1 : lw_okq (⟨"NearFigures", "settle", "()V"⟩, 13) := ⟨⟨by decide +kernel, by decide +kernel⟩, List.mem_of_getElem? (i := 12) (by decide +kernel), List.mem_of_getElem? (i := 287) (by decide +kernel), List.mem_of_getElem? (i := 288) (by decide +kernel)⟩
theorem lw_p2 : lw_okq (⟨"NearFigures$Setting", "heightsChosen", "(III)I"⟩, 3) := ⟨⟨by decide +kernel, by decide +kernel⟩, List.mem_of_getElem? (i := 20) (by decide +kernel), List.mem_of_getElem? (i := 307) (by decide +kernel), List.mem_of_getElem? (i := 308) (by decide +kernel)⟩
theorem lw_p3 : lw_okq (⟨"NearFigures$Planner", "reachPlaces", "()V"⟩, 6) := ⟨⟨by decide +kernel, by decide +kernel⟩, List.mem_of_getElem? (i := 66) (by decide +kernel), List.mem_of_getElem? (i := 314) (by decide +kernel), List.mem_of_getElem? (i := 315) (by decide +kernel)⟩
theorem lw_p4 : lw_okq (⟨"NearFigures$Planner", "reachFrom", "(II)V"⟩, 6) := ⟨⟨by decide +kernel, by decide +kernel⟩, List.mem_of_getElem? (i := 66) (by decide +kernel), List.mem_of_getElem? (i := 322) (by decide +kernel), List.mem_of_getElem? (i := 323) (by decide +kernel)⟩
theorem lw_p5 : lw_okq (⟨"NearFigures$Planner", "placeBehind", "(III)I"⟩, 6) := ⟨⟨by decide +kernel, by decide +kernel⟩, List.mem_of_getElem? (i := 66) (by decide +kernel), List.mem_of_getElem? (i := 338) (by decide +kernel), List.mem_of_getElem? (i := 339) (by decide +kernel)⟩
theorem lw_p6 : lw_okq (⟨"NearFigures$Planner", "valuePlaces", "()V"⟩, 6) := ⟨⟨by decide +kernel, by decide +kernel⟩, List.mem_of_getElem? (i := 66) (by decide +kernel), List.mem_of_getElem? (i := 343) (by decide +kernel), List.mem_of_getElem? (i := 344) (by decide +kernel)⟩
theorem lw_p7 : lw_okq (⟨"NearFigures$Planner", "valuePlace", "(II)V"⟩, 6) := ⟨⟨by decide +kernel, by decide +kernel⟩, List.mem_of_getElem? (i := 66) (by decide +kernel), List.mem_of_getElem? (i := 347) (by decide +kernel), List.mem_of_getElem? (i := 348) (by decide +kernel)⟩
theorem lw_p8 : lw_okq (⟨"NearFigures$Plan", "mayGoOn", "(LNearFigures$Measure;)Z"⟩, 3) := ⟨⟨by decide +kernel, by decide +kernel⟩, List.mem_of_getElem? (i := 142) (by decide +kernel), List.mem_of_getElem? (i := 360) (by decide +kernel), List.mem_of_getElem? (i := 361) (by decide +kernel)⟩
theorem lw_p9 : lw_okq (⟨"NearFigures$Planner", "isPlace", "(II)Z"⟩, 6) := ⟨⟨by decide +kernel, by decide +kernel⟩, List.mem_of_getElem? (i := 66) (by decide +kernel), List.mem_of_getElem? (i := 369) (by decide +kernel), List.mem_of_getElem? (i := 370) (by decide +kernel)⟩
theorem lw_p10 : lw_okq (⟨"NearFigures$Plan", "addPage", "(LNearFigures$Measure;I)V"⟩, 3) := ⟨⟨by decide +kernel, by decide +kernel⟩, List.mem_of_getElem? (i := 142) (by decide +kernel), List.mem_of_getElem? (i := 373) (by decide +kernel), List.mem_of_getElem? (i := 374) (by decide +kernel)⟩
theorem lw_p11 : lw_okq (⟨"NearFigures$Plan", "firstAbove", "([II)I"⟩, 3) := ⟨⟨by decide +kernel, by decide +kernel⟩, List.mem_of_getElem? (i := 142) (by decide +kernel), List.mem_of_getElem? (i := 412) (by decide +kernel), List.mem_of_getElem? (i := 413) (by decide +kernel)⟩
theorem lw_p12 : lw_okq (⟨"NearFigures", "costOfTrial", "()I"⟩, 13) := ⟨⟨by decide +kernel, by decide +kernel⟩, List.mem_of_getElem? (i := 12) (by decide +kernel), List.mem_of_getElem? (i := 468) (by decide +kernel), List.mem_of_getElem? (i := 469) (by decide +kernel)⟩
theorem lw_p13 : lw_okq (⟨"NearFiguresModel", "isBound", "(II)Z"⟩, 16) := ⟨⟨by decide +kernel, by decide +kernel⟩, List.mem_of_getElem? (i := 509) (by decide +kernel), List.mem_of_getElem? (i := 571) (by decide +kernel), List.mem_of_getElem? (i := 572) (by decide +kernel)⟩
theorem lw_p14 : lw_okq (⟨"NearFiguresModel", "note", "()V"⟩, 16) := ⟨⟨by decide +kernel, by decide +kernel⟩, List.mem_of_getElem? (i := 509) (by decide +kernel), List.mem_of_getElem? (i := 576) (by decide +kernel), List.mem_of_getElem? (i := 577) (by decide +kernel)⟩
theorem lw_p15 : lw_okq (⟨"NearFiguresModel", "insert", "(IIIII)V"⟩, 16) := ⟨⟨by decide +kernel, by decide +kernel⟩, List.mem_of_getElem? (i := 509) (by decide +kernel), List.mem_of_getElem? (i := 588) (by decide +kernel), List.mem_of_getElem? (i := 589) (by decide +kernel)⟩
def lw_privs_1 : List (MethodName × Nat) := [(⟨"NearFigures", "aheadOfChange", "()V"⟩, 13), (⟨"NearFigures", "settle", "()V"⟩, 13), (⟨"NearFigures$Setting", "heightsChosen", "(III)I"⟩, 3), (⟨"NearFigures$Planner", "reachPlaces", "()V"⟩, 6), (⟨"NearFigures$Planner", "reachFrom", "(II)V"⟩, 6), (⟨"NearFigures$Planner", "placeBehind", "(III)I"⟩, 6), (⟨"NearFigures$Planner", "valuePlaces", "()V"⟩, 6), (⟨"NearFigures$Planner", "valuePlace", "(II)V"⟩, 6), (⟨"NearFigures$Plan", "mayGoOn", "(LNearFigures$Measure;)Z"⟩, 3), (⟨"NearFigures$Planner", "isPlace", "(II)Z"⟩, 6), (⟨"NearFigures$Plan", "addPage", "(LNearFigures$Measure;I)V"⟩, 3), (⟨"NearFigures$Plan", "firstAbove", "([II)I"⟩, 3), (⟨"NearFigures", "costOfTrial", "()I"⟩, 13), (⟨"NearFiguresModel", "isBound", "(II)Z"⟩, 16), (⟨"NearFiguresModel", "note", "()V"⟩, 16), (⟨"NearFiguresModel", "insert", "(IIIII)V"⟩, 16)]
theorem lw_r1 : ∀ q ∈ lw_privs_1, lw_okq q := List.forall_mem_cons.mpr ⟨lw_p0, List.forall_mem_cons.mpr ⟨lw_p1, List.forall_mem_cons.mpr ⟨lw_p2, List.forall_mem_cons.mpr ⟨lw_p3, List.forall_mem_cons.mpr ⟨lw_p4, List.forall_mem_cons.mpr ⟨lw_p5, List.forall_mem_cons.mpr ⟨lw_p6, List.forall_mem_cons.mpr ⟨lw_p7, List.forall_mem_cons.mpr ⟨lw_p8, List.forall_mem_cons.mpr ⟨lw_p9, List.forall_mem_cons.mpr ⟨lw_p10, List.forall_mem_cons.mpr ⟨lw_p11, List.forall_mem_cons.mpr ⟨lw_p12, List.forall_mem_cons.mpr ⟨lw_p13, List.forall_mem_cons.mpr ⟨lw_p14, List.forall_mem_cons.mpr ⟨lw_p15, fun _ h => absurd h List.not_mem_nil⟩⟩⟩⟩⟩⟩⟩⟩⟩⟩⟩⟩⟩⟩⟩⟩
theorem lw_p16 : lw_okq (⟨"NearFiguresModel", "isFigure", "(I)Z"⟩, 16) := ⟨⟨by decide +kernel, by decide +kernel⟩, List.mem_of_getElem? (i := 509) (by decide +kernel), List.mem_of_getElem? (i := 596) (by decide +kernel), List.mem_of_getElem? (i := 597) (by decide +kernel)⟩
theorem lw_p17 : lw_okq (⟨"NearFiguresModel", "remove", "(I)V"⟩, 16) := ⟨⟨by decide +kernel, by decide +kernel⟩, List.mem_of_getElem? (i := 509) (by decide +kernel), List.mem_of_getElem? (i := 601) (by decide +kernel), List.mem_of_getElem? (i := 602) (by decide +kernel)⟩
theorem lw_p18 : lw_okq (⟨"NearFiguresModel", "bestOf", "()I"⟩, 16) := ⟨⟨by decide +kernel, by decide +kernel⟩, List.mem_of_getElem? (i := 509) (by decide +kernel), List.mem_of_getElem? (i := 618) (by decide +kernel), List.mem_of_getElem? (i := 619) (by decide +kernel)⟩
theorem lw_p19 : lw_okq (⟨"NearFiguresModel", "lay", "()V"⟩, 16) := ⟨⟨by decide +kernel, by decide +kernel⟩, List.mem_of_getElem? (i := 509) (by decide +kernel), List.mem_of_getElem? (i := 622) (by decide +kernel), List.mem_of_getElem? (i := 623) (by decide +kernel)⟩
theorem lw_p20 : lw_okq (⟨"NearFiguresModel", "layPlace", "(II)V"⟩, 16) := ⟨⟨by decide +kernel, by decide +kernel⟩, List.mem_of_getElem? (i := 509) (by decide +kernel), List.mem_of_getElem? (i := 626) (by decide +kernel), List.mem_of_getElem? (i := 627) (by decide +kernel)⟩
theorem lw_p21 : lw_okq (⟨"NearFiguresModel", "isPage", "(III)Z"⟩, 16) := ⟨⟨by decide +kernel, by decide +kernel⟩, List.mem_of_getElem? (i := 509) (by decide +kernel), List.mem_of_getElem? (i := 631) (by decide +kernel), List.mem_of_getElem? (i := 632) (by decide +kernel)⟩
theorem lw_p22 : lw_okq (⟨"NearFiguresModel", "isFit", "(II)Z"⟩, 16) := ⟨⟨by decide +kernel, by decide +kernel⟩, List.mem_of_getElem? (i := 509) (by decide +kernel), List.mem_of_getElem? (i := 635) (by decide +kernel), List.mem_of_getElem? (i := 636) (by decide +kernel)⟩
theorem lw_p23 : lw_okq (⟨"NearFiguresModel", "column", "(IIIZ)I"⟩, 16) := ⟨⟨by decide +kernel, by decide +kernel⟩, List.mem_of_getElem? (i := 509) (by decide +kernel), List.mem_of_getElem? (i := 639) (by decide +kernel), List.mem_of_getElem? (i := 640) (by decide +kernel)⟩
theorem lw_p24 : lw_okq (⟨"NearFiguresModel", "isWide", "(I)Z"⟩, 16) := ⟨⟨by decide +kernel, by decide +kernel⟩, List.mem_of_getElem? (i := 509) (by decide +kernel), List.mem_of_getElem? (i := 643) (by decide +kernel), List.mem_of_getElem? (i := 644) (by decide +kernel)⟩
theorem lw_p25 : lw_okq (⟨"NearFiguresModel", "high", "(I)I"⟩, 16) := ⟨⟨by decide +kernel, by decide +kernel⟩, List.mem_of_getElem? (i := 509) (by decide +kernel), List.mem_of_getElem? (i := 647) (by decide +kernel), List.mem_of_getElem? (i := 648) (by decide +kernel)⟩
theorem lw_p26 : lw_okq (⟨"NearFiguresModel", "linesBehind", "(III)I"⟩, 16) := ⟨⟨by decide +kernel, by decide +kernel⟩, List.mem_of_getElem? (i := 509) (by decide +kernel), List.mem_of_getElem? (i := 651) (by decide +kernel), List.mem_of_getElem? (i := 652) (by decide +kernel)⟩
theorem lw_p27 : lw_okq (⟨"NearFiguresModel", "taken", "(II)I"⟩, 16) := ⟨⟨by decide +kernel, by decide +kernel⟩, List.mem_of_getElem? (i := 509) (by decide +kernel), List.mem_of_getElem? (i := 655) (by decide +kernel), List.mem_of_getElem? (i := 656) (by decide +kernel)⟩
theorem lw_p28 : lw_okq (⟨"NearFiguresModel", "areMentioned", "(III)Z"⟩, 16) := ⟨⟨by decide +kernel, by decide +kernel⟩, List.mem_of_getElem? (i := 509) (by decide +kernel), List.mem_of_getElem? (i := 659) (by decide +kernel), List.mem_of_getElem? (i := 660) (by decide +kernel)⟩
theorem lw_p29 : lw_okq (⟨"NearFiguresModel", "mentionLine", "(I)I"⟩, 16) := ⟨⟨by decide +kernel, by decide +kernel⟩, List.mem_of_getElem? (i := 509) (by decide +kernel), List.mem_of_getElem? (i := 663) (by decide +kernel), List.mem_of_getElem? (i := 664) (by decide +kernel)⟩
theorem lw_p30 : lw_okq (⟨"NearFiguresModel", "paid", "(II)I"⟩, 16) := ⟨⟨by decide +kernel, by decide +kernel⟩, List.mem_of_getElem? (i := 509) (by decide +kernel), List.mem_of_getElem? (i := 667) (by decide +kernel), List.mem_of_getElem? (i := 668) (by decide +kernel)⟩
theorem lw_p31 : lw_okq (⟨"NearFiguresModel", "between", "(IIZ)I"⟩, 16) := ⟨⟨by decide +kernel, by decide +kernel⟩, List.mem_of_getElem? (i := 509) (by decide +kernel), List.mem_of_getElem? (i := 671) (by decide +kernel), List.mem_of_getElem? (i := 672) (by decide +kernel)⟩
def lw_privs_2 : List (MethodName × Nat) := [(⟨"NearFiguresModel", "isFigure", "(I)Z"⟩, 16), (⟨"NearFiguresModel", "remove", "(I)V"⟩, 16), (⟨"NearFiguresModel", "bestOf", "()I"⟩, 16), (⟨"NearFiguresModel", "lay", "()V"⟩, 16), (⟨"NearFiguresModel", "layPlace", "(II)V"⟩, 16), (⟨"NearFiguresModel", "isPage", "(III)Z"⟩, 16), (⟨"NearFiguresModel", "isFit", "(II)Z"⟩, 16), (⟨"NearFiguresModel", "column", "(IIIZ)I"⟩, 16), (⟨"NearFiguresModel", "isWide", "(I)Z"⟩, 16), (⟨"NearFiguresModel", "high", "(I)I"⟩, 16), (⟨"NearFiguresModel", "linesBehind", "(III)I"⟩, 16), (⟨"NearFiguresModel", "taken", "(II)I"⟩, 16), (⟨"NearFiguresModel", "areMentioned", "(III)Z"⟩, 16), (⟨"NearFiguresModel", "mentionLine", "(I)I"⟩, 16), (⟨"NearFiguresModel", "paid", "(II)I"⟩, 16), (⟨"NearFiguresModel", "between", "(IIZ)I"⟩, 16)]
theorem lw_r2 : ∀ q ∈ lw_privs_2, lw_okq q := List.forall_mem_cons.mpr ⟨lw_p16, List.forall_mem_cons.mpr ⟨lw_p17, List.forall_mem_cons.mpr ⟨lw_p18, List.forall_mem_cons.mpr ⟨lw_p19, List.forall_mem_cons.mpr ⟨lw_p20, List.forall_mem_cons.mpr ⟨lw_p21, List.forall_mem_cons.mpr ⟨lw_p22, List.forall_mem_cons.mpr ⟨lw_p23, List.forall_mem_cons.mpr ⟨lw_p24, List.forall_mem_cons.mpr ⟨lw_p25, List.forall_mem_cons.mpr ⟨lw_p26, List.forall_mem_cons.mpr ⟨lw_p27, List.forall_mem_cons.mpr ⟨lw_p28, List.forall_mem_cons.mpr ⟨lw_p29, List.forall_mem_cons.mpr ⟨lw_p30, List.forall_mem_cons.mpr ⟨lw_p31, fun _ h => absurd h List.not_mem_nil⟩⟩⟩⟩⟩⟩⟩⟩⟩⟩⟩⟩⟩⟩⟩⟩
theorem lw_p32 : lw_okq (⟨"NearFiguresModel", "isMentioned", "(II)Z"⟩, 16) := ⟨⟨by decide +kernel, by decide +kernel⟩, List.mem_of_getElem? (i := 509) (by decide +kernel), List.mem_of_getElem? (i := 675) (by decide +kernel), List.mem_of_getElem? (i := 676) (by decide +kernel)⟩
theorem lw_p33 : lw_okq (⟨"NearFiguresModel", "weightOf", "(I)I"⟩, 16) := ⟨⟨by decide +kernel, by decide +kernel⟩, List.mem_of_getElem? (i := 509) (by decide +kernel), List.mem_of_getElem? (i := 679) (by decide +kernel), List.mem_of_getElem? (i := 680) (by decide +kernel)⟩
theorem lw_p34 : lw_okq (⟨"NearFiguresModel", "weight", "(I)I"⟩, 16) := ⟨⟨by decide +kernel, by decide +kernel⟩, List.mem_of_getElem? (i := 509) (by decide +kernel), List.mem_of_getElem? (i := 683) (by decide +kernel), List.mem_of_getElem? (i := 684) (by decide +kernel)⟩
theorem lw_p35 : lw_okq (⟨"NearFiguresModel", "clashing", "()I"⟩, 16) := ⟨⟨by decide +kernel, by decide +kernel⟩, List.mem_of_getElem? (i := 509) (by decide +kernel), List.mem_of_getElem? (i := 696) (by decide +kernel), List.mem_of_getElem? (i := 697) (by decide +kernel)⟩
theorem lw_p36 : lw_okq (⟨"NearFiguresModel", "isGreedy", "()Z"⟩, 16) := ⟨⟨by decide +kernel, by decide +kernel⟩, List.mem_of_getElem? (i := 509) (by decide +kernel), List.mem_of_getElem? (i := 700) (by decide +kernel), List.mem_of_getElem? (i := 701) (by decide +kernel)⟩
theorem lw_p37 : lw_okq (⟨"NearFiguresModel", "addPage", "(III)V"⟩, 16) := ⟨⟨by decide +kernel, by decide +kernel⟩, List.mem_of_getElem? (i := 509) (by decide +kernel), List.mem_of_getElem? (i := 704) (by decide +kernel), List.mem_of_getElem? (i := 705) (by decide +kernel)⟩
theorem lw_p38 : lw_okq (⟨"NearFiguresModel", "paidOfAll", "()I"⟩, 16) := ⟨⟨by decide +kernel, by decide +kernel⟩, List.mem_of_getElem? (i := 509) (by decide +kernel), List.mem_of_getElem? (i := 708) (by decide +kernel), List.mem_of_getElem? (i := 709) (by decide +kernel)⟩
theorem lw_p39 : lw_okq (⟨"NearFiguresModel", "layPlaces", "()I"⟩, 16) := ⟨⟨by decide +kernel, by decide +kernel⟩, List.mem_of_getElem? (i := 509) (by decide +kernel), List.mem_of_getElem? (i := 712) (by decide +kernel), List.mem_of_getElem? (i := 713) (by decide +kernel)⟩
theorem lw_p40 : lw_okq (⟨"NearFiguresModel", "heaviest", "()I"⟩, 16) := ⟨⟨by decide +kernel, by decide +kernel⟩, List.mem_of_getElem? (i := 509) (by decide +kernel), List.mem_of_getElem? (i := 716) (by decide +kernel), List.mem_of_getElem? (i := 717) (by decide +kernel)⟩
theorem lw_p41 : lw_okq (⟨"NearFiguresModel", "isPlanned", "()Z"⟩, 16) := ⟨⟨by decide +kernel, by decide +kernel⟩, List.mem_of_getElem? (i := 509) (by decide +kernel), List.mem_of_getElem? (i := 720) (by decide +kernel), List.mem_of_getElem? (i := 721) (by decide +kernel)⟩
theorem lw_p42 : lw_okq (⟨"NearFiguresModel", "isBestPage", "(III)Z"⟩, 16) := ⟨⟨by decide +kernel, by decide +kernel⟩, List.mem_of_getElem? (i := 509) (by decide +kernel), List.mem_of_getElem? (i := 724) (by decide +kernel), List.mem_of_getElem? (i := 725) (by decide +kernel)⟩
theorem lw_p43 : lw_okq (⟨"NearFiguresModel", "costOf", "(I)I"⟩, 16) := ⟨⟨by decide +kernel, by decide +kernel⟩, List.mem_of_getElem? (i := 509) (by decide +kernel), List.mem_of_getElem? (i := 728) (by decide +kernel), List.mem_of_getElem? (i := 729) (by decide +kernel)⟩
theorem lw_p44 : lw_okq (⟨"NearFiguresModel", "pageOfFigure", "(I)I"⟩, 16) := ⟨⟨by decide +kernel, by decide +kernel⟩, List.mem_of_getElem? (i := 509) (by decide +kernel), List.mem_of_getElem? (i := 732) (by decide +kernel), List.mem_of_getElem? (i := 733) (by decide +kernel)⟩
theorem lw_p45 : lw_okq (⟨"NearFiguresModel", "pageOfMention", "(I)I"⟩, 16) := ⟨⟨by decide +kernel, by decide +kernel⟩, List.mem_of_getElem? (i := 509) (by decide +kernel), List.mem_of_getElem? (i := 736) (by decide +kernel), List.mem_of_getElem? (i := 737) (by decide +kernel)⟩
theorem lw_p46 : lw_okq (⟨"NearFiguresModel", "pageOfLine", "(I)I"⟩, 16) := ⟨⟨by decide +kernel, by decide +kernel⟩, List.mem_of_getElem? (i := 509) (by decide +kernel), List.mem_of_getElem? (i := 740) (by decide +kernel), List.mem_of_getElem? (i := 741) (by decide +kernel)⟩
def lw_privs_3 : List (MethodName × Nat) := [(⟨"NearFiguresModel", "isMentioned", "(II)Z"⟩, 16), (⟨"NearFiguresModel", "weightOf", "(I)I"⟩, 16), (⟨"NearFiguresModel", "weight", "(I)I"⟩, 16), (⟨"NearFiguresModel", "clashing", "()I"⟩, 16), (⟨"NearFiguresModel", "isGreedy", "()Z"⟩, 16), (⟨"NearFiguresModel", "addPage", "(III)V"⟩, 16), (⟨"NearFiguresModel", "paidOfAll", "()I"⟩, 16), (⟨"NearFiguresModel", "layPlaces", "()I"⟩, 16), (⟨"NearFiguresModel", "heaviest", "()I"⟩, 16), (⟨"NearFiguresModel", "isPlanned", "()Z"⟩, 16), (⟨"NearFiguresModel", "isBestPage", "(III)Z"⟩, 16), (⟨"NearFiguresModel", "costOf", "(I)I"⟩, 16), (⟨"NearFiguresModel", "pageOfFigure", "(I)I"⟩, 16), (⟨"NearFiguresModel", "pageOfMention", "(I)I"⟩, 16), (⟨"NearFiguresModel", "pageOfLine", "(I)I"⟩, 16)]
theorem lw_r3 : ∀ q ∈ lw_privs_3, lw_okq q := List.forall_mem_cons.mpr ⟨lw_p32, List.forall_mem_cons.mpr ⟨lw_p33, List.forall_mem_cons.mpr ⟨lw_p34, List.forall_mem_cons.mpr ⟨lw_p35, List.forall_mem_cons.mpr ⟨lw_p36, List.forall_mem_cons.mpr ⟨lw_p37, List.forall_mem_cons.mpr ⟨lw_p38, List.forall_mem_cons.mpr ⟨lw_p39, List.forall_mem_cons.mpr ⟨lw_p40, List.forall_mem_cons.mpr ⟨lw_p41, List.forall_mem_cons.mpr ⟨lw_p42, List.forall_mem_cons.mpr ⟨lw_p43, List.forall_mem_cons.mpr ⟨lw_p44, List.forall_mem_cons.mpr ⟨lw_p45, List.forall_mem_cons.mpr ⟨lw_p46, fun _ h => absurd h List.not_mem_nil⟩⟩⟩⟩⟩⟩⟩⟩⟩⟩⟩⟩⟩⟩⟩
def lw_privs : List (MethodName × Nat) := lw_privs_1 ++ (lw_privs_2 ++ (lw_privs_3))
def lw_tbl : List Cond := k2_sels lw_privs ++ tables_1
theorem lw_privs_ok : ∀ q ∈ lw_privs, lw_okq q := by
  show ∀ q ∈ lw_privs_1 ++ (lw_privs_2 ++ (lw_privs_3)), lw_okq q
  exact List.forall_mem_append.mpr ⟨lw_r1, List.forall_mem_append.mpr ⟨lw_r2, lw_r3⟩⟩
/-! ===== BEGIN printed: names, fields, word lists, decode rows ===== -/
def RX0 : String := "NearFigures$History"
def TX0 : u_T := fun k => match k with
  | 0 => ("NearFigures$History", "ring", "[LNearFigures$Setting;", true)
  | 1 => ("NearFigures$History", "end", "I", false)
  | _ => ("NearFigures$History", "size", "I", false)
def tyX0 : Nat → FieldType := fun k => match k with
  | 0 => .array (.object "NearFigures$Setting")
  | 1 => .int
  | _ => .int
abbrev wsX00 : List Cond := u_ws RX0 TX0 3
theorem nmX0 : ∀ a, a < 3 → ∀ b, b < 3 → a ≠ b → (TX0 a).2.1 ≠ (TX0 b).2.1 := by decide +kernel
theorem tyX0_ok : ∀ k, k < 3 → parseFieldDescriptor (TX0 k).2.2.1 = some (tyX0 k) := by decide +kernel
abbrev cX0_init : ByteArray := prog_2_method_1_code
def yX0_init : MethodName := ⟨RX0, "<init>", "()V"⟩
abbrev cX0_remember : ByteArray := prog_2_method_2_code
def yX0_remember : MethodName := ⟨RX0, "remember", "(LNearFigures$Setting;)V"⟩
abbrev cX0_bringBack : ByteArray := prog_2_method_3_code
def yX0_bringBack : MethodName := ⟨RX0, "bringBack", "(LNearFigures$Setting;)V"⟩
def RX1 : String := "NearFigures$Measure"
def TX1 : u_T := fun k => match k with
  | 0 => ("NearFigures$Measure", "lines", "I", false)
  | 1 => ("NearFigures$Measure", "figures", "I", false)
  | 2 => ("NearFigures$Measure", "room", "I", false)
  | 3 => ("NearFigures$Measure", "early", "Z", false)
  | 4 => ("NearFigures$Measure", "clash", "I", false)
  | 5 => ("NearFigures$Measure", "due", "[I", true)
  | 6 => ("NearFigures$Measure", "weights", "[I", true)
  | 7 => ("NearFigures$Measure", "most", "[I", true)
  | _ => ("NearFigures$Measure", "takenUpTo", "[I", true)
def tyX1 : Nat → FieldType := fun k => match k with
  | 0 => .int
  | 1 => .int
  | 2 => .int
  | 3 => .boolean
  | 4 => .int
  | 5 => .array .int
  | 6 => .array .int
  | 7 => .array .int
  | _ => .array .int
abbrev wsX10 : List Cond := u_ws RX1 TX1 9
theorem nmX1 : ∀ a, a < 9 → ∀ b, b < 9 → a ≠ b → (TX1 a).2.1 ≠ (TX1 b).2.1 := by decide +kernel
theorem tyX1_ok : ∀ k, k < 9 → parseFieldDescriptor (TX1 k).2.2.1 = some (tyX1 k) := by decide +kernel
abbrev cX1_init : ByteArray := prog_3_method_1_code
def yX1_init : MethodName := ⟨RX1, "<init>", "()V"⟩
abbrev cX1_take : ByteArray := prog_3_method_2_code
def yX1_take : MethodName := ⟨RX1, "take", "(LNearFigures$Setting;)V"⟩
abbrev cX1_mostFrom : ByteArray := prog_3_method_3_code
def yX1_mostFrom : MethodName := ⟨RX1, "mostFrom", "(LNearFigures$Setting;I)I"⟩
abbrev cX1_isEnd : ByteArray := prog_3_method_4_code
def yX1_isEnd : MethodName := ⟨RX1, "isEnd", "(II)Z"⟩
abbrev cX1_linesBehind : ByteArray := prog_3_method_5_code
def yX1_linesBehind : MethodName := ⟨RX1, "linesBehind", "(III)I"⟩
abbrev cX1_areMentioned : ByteArray := prog_3_method_6_code
def yX1_areMentioned : MethodName := ⟨RX1, "areMentioned", "(III)Z"⟩
abbrev cX1_mayTake : ByteArray := prog_3_method_7_code
def yX1_mayTake : MethodName := ⟨RX1, "mayTake", "(III)Z"⟩
abbrev cX1_toll : ByteArray := prog_3_method_8_code
def yX1_toll : MethodName := ⟨RX1, "toll", "(II)I"⟩
abbrev cX1_waiting : ByteArray := prog_3_method_9_code
def yX1_waiting : MethodName := ⟨RX1, "waiting", "(II)I"⟩
abbrev cX1_unmentioned : ByteArray := prog_3_method_10_code
def yX1_unmentioned : MethodName := ⟨RX1, "unmentioned", "(II)I"⟩
def RX2 : String := "NearFigures$Plan"
def TX2 : u_T := fun k => match k with
  | 0 => ("NearFigures$Plan", "lines", "[I", true)
  | 1 => ("NearFigures$Plan", "figures", "[I", true)
  | _ => ("NearFigures$Plan", "pages", "I", false)
def tyX2 : Nat → FieldType := fun k => match k with
  | 0 => .array .int
  | 1 => .array .int
  | _ => .int
abbrev wsX20 : List Cond := u_ws RX2 TX2 3
theorem nmX2 : ∀ a, a < 3 → ∀ b, b < 3 → a ≠ b → (TX2 a).2.1 ≠ (TX2 b).2.1 := by decide +kernel
theorem tyX2_ok : ∀ k, k < 3 → parseFieldDescriptor (TX2 k).2.2.1 = some (tyX2 k) := by decide +kernel
abbrev cX2_init : ByteArray := prog_4_method_1_code
def yX2_init : MethodName := ⟨RX2, "<init>", "()V"⟩
abbrev cX2_addPage : ByteArray := prog_4_method_2_code
def yX2_addPage : MethodName := ⟨RX2, "addPage", "(LNearFigures$Measure;I)V"⟩
abbrev cX2_mayGoOn : ByteArray := prog_4_method_3_code
def yX2_mayGoOn : MethodName := ⟨RX2, "mayGoOn", "(LNearFigures$Measure;)Z"⟩
abbrev cX2_follow : ByteArray := prog_4_method_4_code
def yX2_follow : MethodName := ⟨RX2, "follow", "(LNearFigures$Planner;)V"⟩
abbrev cX2_takeMost : ByteArray := prog_4_method_5_code
def yX2_takeMost : MethodName := ⟨RX2, "takeMost", "(LNearFigures$Measure;)V"⟩
abbrev cX2_takeHanded : ByteArray := prog_4_method_6_code
def yX2_takeHanded : MethodName := ⟨RX2, "takeHanded", "(LNearFigures$Measure;[II)I"⟩
abbrev cX2_pageWithLine : ByteArray := prog_4_method_7_code
def yX2_pageWithLine : MethodName := ⟨RX2, "pageWithLine", "(I)I"⟩
abbrev cX2_pageOfFigure : ByteArray := prog_4_method_8_code
def yX2_pageOfFigure : MethodName := ⟨RX2, "pageOfFigure", "(I)I"⟩
abbrev cX2_firstAbove : ByteArray := prog_4_method_9_code
def yX2_firstAbove : MethodName := ⟨RX2, "firstAbove", "([II)I"⟩
abbrev cX2_costOfFigure : ByteArray := prog_4_method_10_code
def yX2_costOfFigure : MethodName := ⟨RX2, "costOfFigure", "(LNearFigures$Measure;I)I"⟩
abbrev cX2_cost : ByteArray := prog_4_method_11_code
def yX2_cost : MethodName := ⟨RX2, "cost", "(LNearFigures$Measure;)I"⟩
abbrev cX2_heavy : ByteArray := prog_4_method_12_code
def yX2_heavy : MethodName := ⟨RX2, "heavy", "(LNearFigures$Measure;)I"⟩
def RX3 : String := "NearFigures$Planner"
def TX3 : u_T := fun k => match k with
  | 0 => ("NearFigures$Planner", "measure", "LNearFigures$Measure;", true)
  | 1 => ("NearFigures$Planner", "values", "[I", true)
  | 2 => ("NearFigures$Planner", "tolls", "[I", true)
  | 3 => ("NearFigures$Planner", "taken", "[I", true)
  | 4 => ("NearFigures$Planner", "plans", "[J", true)
  | _ => ("NearFigures$Planner", "places", "I", false)
def tyX3 : Nat → FieldType := fun k => match k with
  | 0 => .object "NearFigures$Measure"
  | 1 => .array .int
  | 2 => .array .int
  | 3 => .array .int
  | 4 => .array .long
  | _ => .int
abbrev wsX30 : List Cond := u_ws RX3 TX3 6
theorem nmX3 : ∀ a, a < 6 → ∀ b, b < 6 → a ≠ b → (TX3 a).2.1 ≠ (TX3 b).2.1 := by decide +kernel
theorem tyX3_ok : ∀ k, k < 6 → parseFieldDescriptor (TX3 k).2.2.1 = some (tyX3 k) := by decide +kernel
abbrev cX3_init : ByteArray := prog_5_method_1_code
def yX3_init : MethodName := ⟨RX3, "<init>", "()V"⟩
abbrev cX3_solve : ByteArray := prog_5_method_2_code
def yX3_solve : MethodName := ⟨RX3, "solve", "(LNearFigures$Setting;)V"⟩
abbrev cX3_reachPlaces : ByteArray := prog_5_method_3_code
def yX3_reachPlaces : MethodName := ⟨RX3, "reachPlaces", "()V"⟩
abbrev cX3_reachFrom : ByteArray := prog_5_method_4_code
def yX3_reachFrom : MethodName := ⟨RX3, "reachFrom", "(II)V"⟩
abbrev cX3_placeBehind : ByteArray := prog_5_method_5_code
def yX3_placeBehind : MethodName := ⟨RX3, "placeBehind", "(III)I"⟩
abbrev cX3_valuePlaces : ByteArray := prog_5_method_6_code
def yX3_valuePlaces : MethodName := ⟨RX3, "valuePlaces", "()V"⟩
abbrev cX3_valuePlace : ByteArray := prog_5_method_7_code
def yX3_valuePlace : MethodName := ⟨RX3, "valuePlace", "(II)V"⟩
abbrev cX3_isPlace : ByteArray := prog_5_method_8_code
def yX3_isPlace : MethodName := ⟨RX3, "isPlace", "(II)Z"⟩
abbrev cX3_costFrom : ByteArray := prog_5_method_9_code
def yX3_costFrom : MethodName := ⟨RX3, "costFrom", "(II)I"⟩
abbrev cX3_pagesFrom : ByteArray := prog_5_method_10_code
def yX3_pagesFrom : MethodName := ⟨RX3, "pagesFrom", "(II)I"⟩
abbrev cX3_takenFrom : ByteArray := prog_5_method_11_code
def yX3_takenFrom : MethodName := ⟨RX3, "takenFrom", "(II)I"⟩
abbrev cX3_waysOfBest : ByteArray := prog_5_method_12_code
def yX3_waysOfBest : MethodName := ⟨RX3, "waysOfBest", "()J"⟩
def RX4 : String := "NearFigures$Setting"
def TX4 : u_T := fun k => match k with
  | 0 => ("NearFigures$Setting", "bounds", "[I", true)
  | 1 => ("NearFigures$Setting", "parts", "[[I", true)
  | _ => ("NearFigures$Setting", "figures", "I", false)
def tyX4 : Nat → FieldType := fun k => match k with
  | 0 => .array .int
  | 1 => .array (.array .int)
  | _ => .int
abbrev wsX40 : List Cond := u_ws RX4 TX4 3
theorem nmX4 : ∀ a, a < 3 → ∀ b, b < 3 → a ≠ b → (TX4 a).2.1 ≠ (TX4 b).2.1 := by decide +kernel
theorem tyX4_ok : ∀ k, k < 3 → parseFieldDescriptor (TX4 k).2.2.1 = some (tyX4 k) := by decide +kernel
abbrev cX4_init : ByteArray := prog_6_method_1_code
def yX4_init : MethodName := ⟨RX4, "<init>", "()V"⟩
abbrev cX4_becomes : ByteArray := prog_6_method_2_code
def yX4_becomes : MethodName := ⟨RX4, "becomes", "(LNearFigures$Setting;)V"⟩
abbrev cX4_has : ByteArray := prog_6_method_3_code
def yX4_has : MethodName := ⟨RX4, "has", "(I)Z"⟩
abbrev cX4_boundMayBe : ByteArray := prog_6_method_4_code
def yX4_boundMayBe : MethodName := ⟨RX4, "boundMayBe", "(II)Z"⟩
abbrev cX4_openAt : ByteArray := prog_6_method_5_code
def yX4_openAt : MethodName := ⟨RX4, "openAt", "(I)V"⟩
abbrev cX4_closeAt : ByteArray := prog_6_method_6_code
def yX4_closeAt : MethodName := ⟨RX4, "closeAt", "(I)V"⟩
abbrev cX4_describe : ByteArray := prog_6_method_7_code
def yX4_describe : MethodName := ⟨RX4, "describe", "(IIIII)V"⟩
abbrev cX4_drawLots : ByteArray := prog_6_method_8_code
def yX4_drawLots : MethodName := ⟨RX4, "drawLots", "(II)V"⟩
abbrev cX4_nextLot : ByteArray := prog_6_method_9_code
def yX4_nextLot : MethodName := ⟨RX4, "nextLot", "(I)I"⟩
abbrev cX4_standTogether : ByteArray := prog_6_method_10_code
def yX4_standTogether : MethodName := ⟨RX4, "standTogether", "(II)Z"⟩
abbrev cX4_heightsChosen : ByteArray := prog_6_method_11_code
def yX4_heightsChosen : MethodName := ⟨RX4, "heightsChosen", "(III)I"⟩
def RX5 : String := "NearFigures"
def TX5 : u_T := fun k => match k with
  | 0 => ("NearFigures", "now", "LNearFigures$Setting;", true)
  | 1 => ("NearFigures", "trial", "LNearFigures$Setting;", true)
  | 2 => ("NearFigures", "images", "[LNearFigures$Setting;", true)
  | 3 => ("NearFigures", "imageKept", "[Z", true)
  | 4 => ("NearFigures", "history", "LNearFigures$History;", true)
  | 5 => ("NearFigures", "planner", "LNearFigures$Planner;", true)
  | 6 => ("NearFigures", "trialPlanner", "LNearFigures$Planner;", true)
  | 7 => ("NearFigures", "best", "LNearFigures$Plan;", true)
  | 8 => ("NearFigures", "greedy", "LNearFigures$Plan;", true)
  | 9 => ("NearFigures", "made", "LNearFigures$Plan;", true)
  | 10 => ("NearFigures", "handed", "[I", true)
  | 11 => ("NearFigures", "handedPages", "I", false)
  | _ => ("NearFigures", "stale", "Z", false)
def tyX5 : Nat → FieldType := fun k => match k with
  | 0 => .object "NearFigures$Setting"
  | 1 => .object "NearFigures$Setting"
  | 2 => .array (.object "NearFigures$Setting")
  | 3 => .array .boolean
  | 4 => .object "NearFigures$History"
  | 5 => .object "NearFigures$Planner"
  | 6 => .object "NearFigures$Planner"
  | 7 => .object "NearFigures$Plan"
  | 8 => .object "NearFigures$Plan"
  | 9 => .object "NearFigures$Plan"
  | 10 => .array .int
  | 11 => .int
  | _ => .boolean
abbrev wsX50 : List Cond := u_ws RX5 TX5 13
theorem nmX5 : ∀ a, a < 13 → ∀ b, b < 13 → a ≠ b → (TX5 a).2.1 ≠ (TX5 b).2.1 := by decide +kernel
theorem tyX5_ok : ∀ k, k < 13 → parseFieldDescriptor (TX5 k).2.2.1 = some (tyX5 k) := by decide +kernel
abbrev cX5_init : ByteArray := prog_1_method_1_code
def yX5_init : MethodName := ⟨RX5, "<init>", "()V"⟩
abbrev cX5_layout : ByteArray := prog_1_method_2_code
def yX5_layout : MethodName := ⟨RX5, "layout", "(II)I"⟩
abbrev cX5_figure : ByteArray := prog_1_method_3_code
def yX5_figure : MethodName := ⟨RX5, "figure", "(IIIII)I"⟩
abbrev cX5_drop : ByteArray := prog_1_method_4_code
def yX5_drop : MethodName := ⟨RX5, "drop", "(I)I"⟩
abbrev cX5_mention : ByteArray := prog_1_method_5_code
def yX5_mention : MethodName := ⟨RX5, "mention", "(II)I"⟩
abbrev cX5_drift : ByteArray := prog_1_method_6_code
def yX5_drift : MethodName := ⟨RX5, "drift", "(II)I"⟩
abbrev cX5_undo : ByteArray := prog_1_method_7_code
def yX5_undo : MethodName := ⟨RX5, "undo", "()I"⟩
abbrev cX5_told : ByteArray := prog_1_method_8_code
def yX5_told : MethodName := ⟨RX5, "told", "(I)I"⟩
abbrev cX5_figureOf : ByteArray := prog_1_method_9_code
def yX5_figureOf : MethodName := ⟨RX5, "figureOf", "(II)I"⟩
abbrev cX5_page : ByteArray := prog_1_method_10_code
def yX5_page : MethodName := ⟨RX5, "page", "(II)I"⟩
abbrev cX5_pageOf : ByteArray := prog_1_method_11_code
def yX5_pageOf : MethodName := ⟨RX5, "pageOf", "(I)I"⟩
abbrev cX5_fits : ByteArray := prog_1_method_12_code
def yX5_fits : MethodName := ⟨RX5, "fits", "(II)I"⟩
abbrev cX5_ways : ByteArray := prog_1_method_13_code
def yX5_ways : MethodName := ⟨RX5, "ways", "()J"⟩
abbrev cX5_without : ByteArray := prog_1_method_14_code
def yX5_without : MethodName := ⟨RX5, "without", "(I)I"⟩
abbrev cX5_moved : ByteArray := prog_1_method_15_code
def yX5_moved : MethodName := ⟨RX5, "moved", "(II)I"⟩
abbrev cX5_from : ByteArray := prog_1_method_16_code
def yX5_from : MethodName := ⟨RX5, "from", "(III)I"⟩
abbrev cX5_hand : ByteArray := prog_1_method_17_code
def yX5_hand : MethodName := ⟨RX5, "hand", "(I)I"⟩
abbrev cX5_clear : ByteArray := prog_1_method_18_code
def yX5_clear : MethodName := ⟨RX5, "clear", "()I"⟩
abbrev cX5_judge : ByteArray := prog_1_method_19_code
def yX5_judge : MethodName := ⟨RX5, "judge", "(I)I"⟩
abbrev cX5_keep : ByteArray := prog_1_method_20_code
def yX5_keep : MethodName := ⟨RX5, "keep", "(I)I"⟩
abbrev cX5_goBack : ByteArray := prog_1_method_21_code
def yX5_goBack : MethodName := ⟨RX5, "goBack", "(I)I"⟩
abbrev cX5_partMayBe : ByteArray := prog_1_method_22_code
def yX5_partMayBe : MethodName := ⟨RX5, "partMayBe", "(II)Z"⟩
abbrev cX5_aheadOfChange : ByteArray := prog_1_method_23_code
def yX5_aheadOfChange : MethodName := ⟨RX5, "aheadOfChange", "()V"⟩
abbrev cX5_settle : ByteArray := prog_1_method_24_code
def yX5_settle : MethodName := ⟨RX5, "settle", "()V"⟩
abbrev cX5_costOfTrial : ByteArray := prog_1_method_25_code
def yX5_costOfTrial : MethodName := ⟨RX5, "costOfTrial", "()I"⟩
def RX6 : String := "NearFiguresModel"
def TX6 : u_T := fun k => match k with
  | 0 => ("NearFiguresModel", "now", "[I", true)
  | 1 => ("NearFiguresModel", "was", "[I", true)
  | 2 => ("NearFiguresModel", "backs", "I", false)
  | 3 => ("NearFiguresModel", "back", "[I", true)
  | 4 => ("NearFiguresModel", "image", "[I", true)
  | 5 => ("NearFiguresModel", "isKept", "[Z", true)
  | 6 => ("NearFiguresModel", "pages", "I", false)
  | 7 => ("NearFiguresModel", "hand", "[I", true)
  | 8 => ("NearFiguresModel", "cost", "[I", true)
  | 9 => ("NearFiguresModel", "size", "[I", true)
  | 10 => ("NearFiguresModel", "ways", "[J", true)
  | 11 => ("NearFiguresModel", "place", "[Z", true)
  | 12 => ("NearFiguresModel", "planned", "I", false)
  | 13 => ("NearFiguresModel", "count", "[I", true)
  | 14 => ("NearFiguresModel", "line", "[I", true)
  | _ => ("NearFiguresModel", "figure", "[I", true)
def tyX6 : Nat → FieldType := fun k => match k with
  | 0 => .array .int
  | 1 => .array .int
  | 2 => .int
  | 3 => .array .int
  | 4 => .array .int
  | 5 => .array .boolean
  | 6 => .int
  | 7 => .array .int
  | 8 => .array .int
  | 9 => .array .int
  | 10 => .array .long
  | 11 => .array .boolean
  | 12 => .int
  | 13 => .array .int
  | 14 => .array .int
  | _ => .array .int
abbrev wsX60 : List Cond := u_ws RX6 TX6 16
theorem nmX6 : ∀ a, a < 16 → ∀ b, b < 16 → a ≠ b → (TX6 a).2.1 ≠ (TX6 b).2.1 := by decide +kernel
theorem tyX6_ok : ∀ k, k < 16 → parseFieldDescriptor (TX6 k).2.2.1 = some (tyX6 k) := by decide +kernel
abbrev cX6_init : ByteArray := prog_8_method_1_code
def yX6_init : MethodName := ⟨RX6, "<init>", "()V"⟩
abbrev cX6_in : ByteArray := prog_8_method_2_code
def yX6_in : MethodName := ⟨RX6, "in", "(III)Z"⟩
abbrev cX6_bring : ByteArray := prog_8_method_3_code
def yX6_bring : MethodName := ⟨RX6, "bring", "([II[III)V"⟩
abbrev cX6_isFigure : ByteArray := prog_8_method_4_code
def yX6_isFigure : MethodName := ⟨RX6, "isFigure", "(I)Z"⟩
abbrev cX6_high : ByteArray := prog_8_method_5_code
def yX6_high : MethodName := ⟨RX6, "high", "(I)I"⟩
abbrev cX6_isWide : ByteArray := prog_8_method_6_code
def yX6_isWide : MethodName := ⟨RX6, "isWide", "(I)Z"⟩
abbrev cX6_weight : ByteArray := prog_8_method_7_code
def yX6_weight : MethodName := ⟨RX6, "weight", "(I)I"⟩
abbrev cX6_mentionLine : ByteArray := prog_8_method_8_code
def yX6_mentionLine : MethodName := ⟨RX6, "mentionLine", "(I)I"⟩
abbrev cX6_column : ByteArray := prog_8_method_9_code
def yX6_column : MethodName := ⟨RX6, "column", "(IIIZ)I"⟩
abbrev cX6_isFit : ByteArray := prog_8_method_10_code
def yX6_isFit : MethodName := ⟨RX6, "isFit", "(II)Z"⟩
abbrev cX6_taken : ByteArray := prog_8_method_11_code
def yX6_taken : MethodName := ⟨RX6, "taken", "(II)I"⟩
abbrev cX6_linesBehind : ByteArray := prog_8_method_12_code
def yX6_linesBehind : MethodName := ⟨RX6, "linesBehind", "(III)I"⟩
abbrev cX6_areMentioned : ByteArray := prog_8_method_13_code
def yX6_areMentioned : MethodName := ⟨RX6, "areMentioned", "(III)Z"⟩
abbrev cX6_clashing : ByteArray := prog_8_method_14_code
def yX6_clashing : MethodName := ⟨RX6, "clashing", "()I"⟩
abbrev cX6_isMentioned : ByteArray := prog_8_method_15_code
def yX6_isMentioned : MethodName := ⟨RX6, "isMentioned", "(II)Z"⟩
abbrev cX6_between : ByteArray := prog_8_method_16_code
def yX6_between : MethodName := ⟨RX6, "between", "(IIZ)I"⟩
abbrev cX6_weightOf : ByteArray := prog_8_method_17_code
def yX6_weightOf : MethodName := ⟨RX6, "weightOf", "(I)I"⟩
abbrev cX6_paid : ByteArray := prog_8_method_18_code
def yX6_paid : MethodName := ⟨RX6, "paid", "(II)I"⟩
abbrev cX6_isPage : ByteArray := prog_8_method_19_code
def yX6_isPage : MethodName := ⟨RX6, "isPage", "(III)Z"⟩
abbrev cX6_layPlace : ByteArray := prog_8_method_20_code
def yX6_layPlace : MethodName := ⟨RX6, "layPlace", "(II)V"⟩
abbrev cX6_lay : ByteArray := prog_8_method_21_code
def yX6_lay : MethodName := ⟨RX6, "lay", "()V"⟩
abbrev cX6_bestOf : ByteArray := prog_8_method_22_code
def yX6_bestOf : MethodName := ⟨RX6, "bestOf", "()I"⟩
abbrev cX6_addPage : ByteArray := prog_8_method_23_code
def yX6_addPage : MethodName := ⟨RX6, "addPage", "(III)V"⟩
abbrev cX6_isPlanned : ByteArray := prog_8_method_24_code
def yX6_isPlanned : MethodName := ⟨RX6, "isPlanned", "()Z"⟩
abbrev cX6_isBestPage : ByteArray := prog_8_method_25_code
def yX6_isBestPage : MethodName := ⟨RX6, "isBestPage", "(III)Z"⟩
abbrev cX6_isGreedy : ByteArray := prog_8_method_26_code
def yX6_isGreedy : MethodName := ⟨RX6, "isGreedy", "()Z"⟩
abbrev cX6_paidOfAll : ByteArray := prog_8_method_27_code
def yX6_paidOfAll : MethodName := ⟨RX6, "paidOfAll", "()I"⟩
abbrev cX6_pageOfFigure : ByteArray := prog_8_method_28_code
def yX6_pageOfFigure : MethodName := ⟨RX6, "pageOfFigure", "(I)I"⟩
abbrev cX6_pageOfLine : ByteArray := prog_8_method_29_code
def yX6_pageOfLine : MethodName := ⟨RX6, "pageOfLine", "(I)I"⟩
abbrev cX6_pageOfMention : ByteArray := prog_8_method_30_code
def yX6_pageOfMention : MethodName := ⟨RX6, "pageOfMention", "(I)I"⟩
abbrev cX6_costOf : ByteArray := prog_8_method_31_code
def yX6_costOf : MethodName := ⟨RX6, "costOf", "(I)I"⟩
abbrev cX6_layPlaces : ByteArray := prog_8_method_32_code
def yX6_layPlaces : MethodName := ⟨RX6, "layPlaces", "()I"⟩
abbrev cX6_heaviest : ByteArray := prog_8_method_33_code
def yX6_heaviest : MethodName := ⟨RX6, "heaviest", "()I"⟩
abbrev cX6_note : ByteArray := prog_8_method_34_code
def yX6_note : MethodName := ⟨RX6, "note", "()V"⟩
abbrev cX6_isBound : ByteArray := prog_8_method_35_code
def yX6_isBound : MethodName := ⟨RX6, "isBound", "(II)Z"⟩
abbrev cX6_layout : ByteArray := prog_8_method_36_code
def yX6_layout : MethodName := ⟨RX6, "layout", "(II)I"⟩
abbrev cX6_insert : ByteArray := prog_8_method_37_code
def yX6_insert : MethodName := ⟨RX6, "insert", "(IIIII)V"⟩
abbrev cX6_figure : ByteArray := prog_8_method_38_code
def yX6_figure : MethodName := ⟨RX6, "figure", "(IIIII)I"⟩
abbrev cX6_remove : ByteArray := prog_8_method_39_code
def yX6_remove : MethodName := ⟨RX6, "remove", "(I)V"⟩
abbrev cX6_drop : ByteArray := prog_8_method_40_code
def yX6_drop : MethodName := ⟨RX6, "drop", "(I)I"⟩
abbrev cX6_mention : ByteArray := prog_8_method_41_code
def yX6_mention : MethodName := ⟨RX6, "mention", "(II)I"⟩
abbrev cX6_drift : ByteArray := prog_8_method_42_code
def yX6_drift : MethodName := ⟨RX6, "drift", "(II)I"⟩
abbrev cX6_undo : ByteArray := prog_8_method_43_code
def yX6_undo : MethodName := ⟨RX6, "undo", "()I"⟩
abbrev cX6_told : ByteArray := prog_8_method_44_code
def yX6_told : MethodName := ⟨RX6, "told", "(I)I"⟩
abbrev cX6_figureOf : ByteArray := prog_8_method_45_code
def yX6_figureOf : MethodName := ⟨RX6, "figureOf", "(II)I"⟩
abbrev cX6_page : ByteArray := prog_8_method_46_code
def yX6_page : MethodName := ⟨RX6, "page", "(II)I"⟩
abbrev cX6_pageOf : ByteArray := prog_8_method_47_code
def yX6_pageOf : MethodName := ⟨RX6, "pageOf", "(I)I"⟩
abbrev cX6_fits : ByteArray := prog_8_method_48_code
def yX6_fits : MethodName := ⟨RX6, "fits", "(II)I"⟩
abbrev cX6_ways : ByteArray := prog_8_method_49_code
def yX6_ways : MethodName := ⟨RX6, "ways", "()J"⟩
abbrev cX6_without : ByteArray := prog_8_method_50_code
def yX6_without : MethodName := ⟨RX6, "without", "(I)I"⟩
abbrev cX6_moved : ByteArray := prog_8_method_51_code
def yX6_moved : MethodName := ⟨RX6, "moved", "(II)I"⟩
abbrev cX6_from : ByteArray := prog_8_method_52_code
def yX6_from : MethodName := ⟨RX6, "from", "(III)I"⟩
abbrev cX6_hand : ByteArray := prog_8_method_53_code
def yX6_hand : MethodName := ⟨RX6, "hand", "(I)I"⟩
abbrev cX6_clear : ByteArray := prog_8_method_54_code
def yX6_clear : MethodName := ⟨RX6, "clear", "()I"⟩
abbrev cX6_judge : ByteArray := prog_8_method_55_code
def yX6_judge : MethodName := ⟨RX6, "judge", "(I)I"⟩
abbrev cX6_keep : ByteArray := prog_8_method_56_code
def yX6_keep : MethodName := ⟨RX6, "keep", "(I)I"⟩
abbrev cX6_goBack : ByteArray := prog_8_method_57_code
def yX6_goBack : MethodName := ⟨RX6, "goBack", "(I)I"⟩
def RJ9 : String := "java/lang/Math"
def TJ9 : u_T := fun k => match k with
  | _ => ("", "", "", false)
def tyJ9 : Nat → FieldType := fun k => match k with
  | _ => .int
abbrev wsJ90 : List Cond := u_ws RJ9 TJ9 0
theorem nmJ9 : ∀ a, a < 0 → ∀ b, b < 0 → a ≠ b → (TJ9 a).2.1 ≠ (TJ9 b).2.1 := by decide +kernel
theorem tyJ9_ok : ∀ k, k < 0 → parseFieldDescriptor (TJ9 k).2.2.1 = some (tyJ9 k) := by decide +kernel
abbrev cJ9_abs_0f7a4 : ByteArray := prog_9_method_59_code
def yJ9_abs_0f7a4 : MethodName := ⟨RJ9, "abs", "(I)I"⟩
abbrev cJ9_max_7cf53 : ByteArray := prog_9_method_65_code
def yJ9_max_7cf53 : MethodName := ⟨RJ9, "max", "(II)I"⟩
abbrev cJ9_min_7cf53 : ByteArray := prog_9_method_69_code
def yJ9_min_7cf53 : MethodName := ⟨RJ9, "min", "(II)I"⟩
def RJ10 : String := "java/lang/System"
def TJ10 : u_T := fun k => match k with
  | _ => ("", "", "", false)
def tyJ10 : Nat → FieldType := fun k => match k with
  | _ => .int
abbrev wsJ100 : List Cond := u_ws RJ10 TJ10 0
theorem nmJ10 : ∀ a, a < 0 → ∀ b, b < 0 → a ≠ b → (TJ10 a).2.1 ≠ (TJ10 b).2.1 := by decide +kernel
theorem tyJ10_ok : ∀ k, k < 0 → parseFieldDescriptor (TJ10 k).2.2.1 = some (tyJ10 k) := by decide +kernel
def RJ7 : String := "java/util/Arrays"
def TJ7 : u_T := fun k => match k with
  | _ => ("", "", "", false)
def tyJ7 : Nat → FieldType := fun k => match k with
  | _ => .int
abbrev wsJ70 : List Cond := u_ws RJ7 TJ7 0
theorem nmJ7 : ∀ a, a < 0 → ∀ b, b < 0 → a ≠ b → (TJ7 a).2.1 ≠ (TJ7 b).2.1 := by decide +kernel
theorem tyJ7_ok : ∀ k, k < 0 → parseFieldDescriptor (TJ7 k).2.2.1 = some (tyJ7 k) := by decide +kernel
abbrev cJ7_fill_53178 : ByteArray := prog_11_method_103_code
def yJ7_fill_53178 : MethodName := ⟨RJ7, "fill", "([II)V"⟩
def RL : String := "NearFiguresLaw"
abbrev cL_law : ByteArray := code
def yL_law : MethodName := ⟨RL, "law", "([I)Z"⟩
def wsL_law_r1 : List Cond := [Cond.classLink RL 7 RX5, Cond.instantiable RX5 13, Cond.initialized RX5, Cond.classLink RL 10 RX6, Cond.instantiable RX6 16, Cond.initialized RX6, Cond.methodLink RL 9 yX5_init, Cond.instanceMethod yX5_init, Cond.code yX5_init cX5_init 2 none, Cond.methodLink RX5 1 objectInit, Cond.instanceMethod objectInit, Cond.code objectInit ⟨#[0xb1]⟩ 1 none, Cond.classLink RX5 7 RX4, Cond.instantiable RX4 3, Cond.initialized RX4, Cond.fieldLink RX5 10 "NearFigures" "now" "LNearFigures$Setting;", Cond.fieldLink RX5 16 "NearFigures" "trial" "LNearFigures$Setting;", Cond.fieldLink RX5 19 "NearFigures" "images" "[LNearFigures$Setting;", Cond.arrayClass .boolean, Cond.fieldLink RX5 23 "NearFigures" "imageKept" "[Z", Cond.classLink RX5 27 RX0, Cond.instantiable RX0 3, Cond.initialized RX0, Cond.fieldLink RX5 30 "NearFigures" "history" "LNearFigures$History;"]
def wsL_law_r2 : List Cond := [Cond.classLink RX5 34 RX3, Cond.instantiable RX3 6, Cond.initialized RX3, Cond.fieldLink RX5 37 "NearFigures" "planner" "LNearFigures$Planner;", Cond.fieldLink RX5 41 "NearFigures" "trialPlanner" "LNearFigures$Planner;", Cond.classLink RX5 44 RX2, Cond.instantiable RX2 3, Cond.initialized RX2, Cond.fieldLink RX5 47 "NearFigures" "best" "LNearFigures$Plan;", Cond.fieldLink RX5 51 "NearFigures" "greedy" "LNearFigures$Plan;", Cond.fieldLink RX5 54 "NearFigures" "made" "LNearFigures$Plan;", Cond.arrayClass .int, Cond.fieldLink RX5 57 "NearFigures" "handed" "[I", Cond.fieldLink RX5 61 "NearFigures" "handedPages" "I", Cond.fieldLink RX5 65 "NearFigures" "stale" "Z", Cond.instanceMethod yX4_init, Cond.code yX4_init cX4_init 1 none, Cond.methodLink RX4 3 objectInit, Cond.fieldLink RX4 9 "NearFigures$Setting" "bounds" "[I", Cond.classLink RX4 15 "[[I", Cond.fieldLink RX4 17 "NearFigures$Setting" "parts" "[[I", Cond.fieldLink RX4 20 "NearFigures$Setting" "figures" "I", Cond.methodLink RX5 29 yX0_init, Cond.instanceMethod yX0_init]
def wsL_law_r3 : List Cond := [Cond.code yX0_init cX0_init 2 none, Cond.methodLink RX0 3 objectInit, Cond.classLink RX0 9 RX4, Cond.fieldLink RX0 11 "NearFigures$History" "ring" "[LNearFigures$Setting;", Cond.fieldLink RX0 17 "NearFigures$History" "end" "I", Cond.fieldLink RX0 21 "NearFigures$History" "size" "I", Cond.instanceMethod yX3_init, Cond.code yX3_init cX3_init 1 none, Cond.methodLink RX3 5 objectInit, Cond.classLink RX3 11 RX1, Cond.instantiable RX1 9, Cond.initialized RX1, Cond.fieldLink RX3 14 "NearFigures$Planner" "measure" "LNearFigures$Measure;", Cond.fieldLink RX3 18 "NearFigures$Planner" "values" "[I", Cond.fieldLink RX3 22 "NearFigures$Planner" "tolls" "[I", Cond.fieldLink RX3 25 "NearFigures$Planner" "taken" "[I", Cond.arrayClass .long, Cond.fieldLink RX3 28 "NearFigures$Planner" "plans" "[J", Cond.instanceMethod yX1_init, Cond.code yX1_init cX1_init 1 none, Cond.methodLink RX1 3 objectInit, Cond.fieldLink RX1 9 "NearFigures$Measure" "due" "[I", Cond.fieldLink RX1 15 "NearFigures$Measure" "weights" "[I", Cond.fieldLink RX1 18 "NearFigures$Measure" "most" "[I"]
def wsL_law_r4 : List Cond := [Cond.fieldLink RX1 21 "NearFigures$Measure" "takenUpTo" "[I", Cond.instanceMethod yX2_init, Cond.code yX2_init cX2_init 1 none, Cond.methodLink RX2 3 objectInit, Cond.fieldLink RX2 9 "NearFigures$Plan" "lines" "[I", Cond.fieldLink RX2 15 "NearFigures$Plan" "figures" "[I", Cond.fieldLink RX2 18 "NearFigures$Plan" "pages" "I", Cond.methodLink RL 12 yX6_init, Cond.instanceMethod yX6_init, Cond.code yX6_init cX6_init 1 none, Cond.methodLink RX6 1 objectInit, Cond.fieldLink RX6 7 "NearFiguresModel" "now" "[I", Cond.fieldLink RX6 13 "NearFiguresModel" "was" "[I", Cond.fieldLink RX6 16 "NearFiguresModel" "back" "[I", Cond.fieldLink RX6 19 "NearFiguresModel" "image" "[I", Cond.fieldLink RX6 22 "NearFiguresModel" "isKept" "[Z", Cond.fieldLink RX6 26 "NearFiguresModel" "hand" "[I", Cond.fieldLink RX6 29 "NearFiguresModel" "cost" "[I", Cond.fieldLink RX6 32 "NearFiguresModel" "size" "[I", Cond.fieldLink RX6 35 "NearFiguresModel" "ways" "[J", Cond.fieldLink RX6 39 "NearFiguresModel" "place" "[Z", Cond.fieldLink RX6 42 "NearFiguresModel" "count" "[I", Cond.fieldLink RX6 45 "NearFiguresModel" "line" "[I", Cond.fieldLink RX6 48 "NearFiguresModel" "figure" "[I"]
def wsL_law_r5 : List Cond := [Cond.methodLink RL 13 yX5_layout, Cond.instanceMethod yX5_layout, Cond.selects RX5 yX5_layout yX5_layout, Cond.code yX5_layout cX5_layout 4 (some .int), Cond.constant RX5 73 (-1000000002), Cond.methodLink RX5 80 Lib.Math.min.name, Cond.static Lib.Math.min.name, Cond.initialized "java/lang/Math", Cond.code Lib.Math.min.name Lib.Math.min.code 2 (some .int), Cond.methodLink RX5 69 yX4_boundMayBe, Cond.instanceMethod yX4_boundMayBe, Cond.selects RX4 yX4_boundMayBe yX4_boundMayBe, Cond.code yX4_boundMayBe cX4_boundMayBe 3 (some .boolean), Cond.methodLink RX5 77 yX5_aheadOfChange, Cond.instanceMethod yX5_aheadOfChange, Cond.selects RX5 yX5_aheadOfChange yX5_aheadOfChange, Cond.code yX5_aheadOfChange cX5_aheadOfChange 1 none, Cond.methodLink RX5 212 yX0_remember, Cond.instanceMethod yX0_remember, Cond.selects RX0 yX0_remember yX0_remember, Cond.code yX0_remember cX0_remember 2 none, Cond.methodLink RX0 29 Lib.Math.min.name, Cond.methodLink RX0 25 yX4_becomes, Cond.instanceMethod yX4_becomes]
def wsL_law_r6 : List Cond := [Cond.selects RX4 yX4_becomes yX4_becomes, Cond.code yX4_becomes cX4_becomes 3 none, Cond.methodLink RX4 24 arraycopyName, Cond.native arraycopyName, Cond.static arraycopyName, Cond.initialized "java/lang/System", Cond.methodLink RL 17 yX6_layout, Cond.instanceMethod yX6_layout, Cond.selects RX6 yX6_layout yX6_layout, Cond.code yX6_layout cX6_layout 4 (some .int), Cond.constant RX6 156 (-1000000002), Cond.methodLink RX6 51 yX6_in, Cond.static yX6_in, Cond.code yX6_in cX6_in 3 (some .boolean), Cond.methodLink RX6 153 yX6_isBound, Cond.instanceMethod yX6_isBound, Cond.selects RX6 yX6_isBound yX6_isBound, Cond.code yX6_isBound cX6_isBound 3 (some .boolean), Cond.methodLink RX6 157 yX6_note, Cond.instanceMethod yX6_note, Cond.selects RX6 yX6_note yX6_note, Cond.code yX6_note cX6_note 1 none, Cond.fieldLink RX6 146 "NearFiguresModel" "backs" "I", Cond.methodLink RX6 149 yX6_bring]
def wsL_law_r7 : List Cond := [Cond.static yX6_bring, Cond.code yX6_bring cX6_bring 6 none, Cond.methodLink RL 18 yX5_figure, Cond.instanceMethod yX5_figure, Cond.selects RX5 yX5_figure yX5_figure, Cond.code yX5_figure cX5_figure 6 (some .int), Cond.constant RX5 92 (-1000000004), Cond.methodLink RX5 89 yX5_partMayBe, Cond.static yX5_partMayBe, Cond.code yX5_partMayBe cX5_partMayBe 2 (some .boolean), Cond.fieldLink RX5 206 "NearFigures" "LEAST_PART" "[I", Cond.fieldLink RX5 209 "NearFigures" "GREATEST_PART" "[I", Cond.methodLink RX5 93 yX4_openAt, Cond.instanceMethod yX4_openAt, Cond.selects RX4 yX4_openAt yX4_openAt, Cond.code yX4_openAt cX4_openAt 3 none, Cond.methodLink RX5 97 yX4_describe, Cond.instanceMethod yX4_describe, Cond.selects RX4 yX4_describe yX4_describe, Cond.code yX4_describe cX4_describe 6 none, Cond.methodLink RL 22 yX6_figure, Cond.instanceMethod yX6_figure, Cond.selects RX6 yX6_figure yX6_figure, Cond.code yX6_figure cX6_figure 6 (some .int)]
def wsL_law_r8 : List Cond := [Cond.constant RX6 160 (-1000000004), Cond.methodLink RX6 161 yX6_insert, Cond.instanceMethod yX6_insert, Cond.selects RX6 yX6_insert yX6_insert, Cond.code yX6_insert cX6_insert 7 none, Cond.methodLink RL 23 yX5_drop, Cond.instanceMethod yX5_drop, Cond.selects RX5 yX5_drop yX5_drop, Cond.code yX5_drop cX5_drop 2 (some .int), Cond.constant RX5 105 (-1000000001), Cond.methodLink RX5 101 yX4_has, Cond.instanceMethod yX4_has, Cond.selects RX4 yX4_has yX4_has, Cond.code yX4_has cX4_has 2 (some .boolean), Cond.methodLink RX5 106 yX4_closeAt, Cond.instanceMethod yX4_closeAt, Cond.selects RX4 yX4_closeAt yX4_closeAt, Cond.code yX4_closeAt cX4_closeAt 3 none, Cond.methodLink RL 27 yX6_drop, Cond.instanceMethod yX6_drop, Cond.selects RX6 yX6_drop yX6_drop, Cond.code yX6_drop cX6_drop 2 (some .int), Cond.constant RX6 168 (-1000000001), Cond.methodLink RX6 165 yX6_isFigure]
def wsL_law_r9 : List Cond := [Cond.instanceMethod yX6_isFigure, Cond.selects RX6 yX6_isFigure yX6_isFigure, Cond.code yX6_isFigure cX6_isFigure 2 (some .boolean), Cond.methodLink RX6 169 yX6_remove, Cond.instanceMethod yX6_remove, Cond.selects RX6 yX6_remove yX6_remove, Cond.code yX6_remove cX6_remove 3 none, Cond.methodLink RL 28 yX5_mention, Cond.instanceMethod yX5_mention, Cond.selects RX5 yX5_mention yX5_mention, Cond.code yX5_mention cX5_mention 4 (some .int), Cond.methodLink RL 31 yX6_mention, Cond.instanceMethod yX6_mention, Cond.selects RX6 yX6_mention yX6_mention, Cond.code yX6_mention cX6_mention 4 (some .int), Cond.methodLink RL 32 yX5_drift, Cond.instanceMethod yX5_drift, Cond.selects RX5 yX5_drift yX5_drift, Cond.code yX5_drift cX5_drift 3 (some .int), Cond.constant RX5 113 (999999), Cond.methodLink RX5 114 yX4_drawLots, Cond.instanceMethod yX4_drawLots, Cond.selects RX4 yX4_drawLots yX4_drawLots, Cond.code yX4_drawLots cX4_drawLots 7 none]
def wsL_law_r10 : List Cond := [Cond.methodLink RX4 36 Lib.Math.max.name, Cond.static Lib.Math.max.name, Cond.code Lib.Math.max.name Lib.Math.max.code 2 (some .int), Cond.methodLink RX4 42 yX4_nextLot, Cond.static yX4_nextLot, Cond.code yX4_nextLot cX4_nextLot 1 (some .int), Cond.constantLong RX4 46 (16807), Cond.constantLong RX4 48 (2147483647), Cond.methodLink RX5 118 yX5_settle, Cond.instanceMethod yX5_settle, Cond.selects RX5 yX5_settle yX5_settle, Cond.code yX5_settle cX5_settle 1 none, Cond.methodLink RX5 215 yX3_solve, Cond.instanceMethod yX3_solve, Cond.selects RX3 yX3_solve yX3_solve, Cond.code yX3_solve cX3_solve 2 none, Cond.fieldLink RX3 42 "NearFigures$Planner" "places" "I", Cond.methodLink RX3 32 yX1_take, Cond.instanceMethod yX1_take, Cond.selects RX1 yX1_take yX1_take, Cond.code yX1_take cX1_take 4 none, Cond.fieldLink RX1 29 "NearFigures$Measure" "lines" "I", Cond.fieldLink RX1 36 "NearFigures$Measure" "figures" "I", Cond.fieldLink RX1 37 "NearFigures$Measure" "room" "I"]
def wsL_law_r11 : List Cond := [Cond.fieldLink RX1 40 "NearFigures$Measure" "early" "Z", Cond.fieldLink RX1 44 "NearFigures$Measure" "clash" "I", Cond.methodLink RX1 51 Lib.Math.min.name, Cond.methodLink RX1 57 yX1_mostFrom, Cond.static yX1_mostFrom, Cond.code yX1_mostFrom cX1_mostFrom 4 (some .int), Cond.methodLink RX1 61 yX4_standTogether, Cond.instanceMethod yX4_standTogether, Cond.selects RX4 yX4_standTogether yX4_standTogether, Cond.code yX4_standTogether cX4_standTogether 8 (some .boolean), Cond.methodLink RX4 50 yX4_heightsChosen, Cond.instanceMethod yX4_heightsChosen, Cond.selects RX4 yX4_heightsChosen yX4_heightsChosen, Cond.code yX4_heightsChosen cX4_heightsChosen 6 (some .int), Cond.methodLink RX3 36 yJ7_fill_53178, Cond.static yJ7_fill_53178, Cond.initialized RJ7, Cond.code yJ7_fill_53178 cJ7_fill_53178 4 none, Cond.methodLink RX3 49 yX3_reachPlaces, Cond.instanceMethod yX3_reachPlaces, Cond.selects RX3 yX3_reachPlaces yX3_reachPlaces, Cond.code yX3_reachPlaces cX3_reachPlaces 4 none, Cond.methodLink RX3 61 yX1_toll, Cond.instanceMethod yX1_toll]
def wsL_law_r12 : List Cond := [Cond.selects RX1 yX1_toll yX1_toll, Cond.code yX1_toll cX1_toll 5 (some .int), Cond.methodLink RX3 65 yX3_reachFrom, Cond.instanceMethod yX3_reachFrom, Cond.selects RX3 yX3_reachFrom yX3_reachFrom, Cond.code yX3_reachFrom cX3_reachFrom 4 none, Cond.methodLink RX3 72 yX1_mayTake, Cond.instanceMethod yX1_mayTake, Cond.selects RX1 yX1_mayTake yX1_mayTake, Cond.code yX1_mayTake cX1_mayTake 5 (some .boolean), Cond.methodLink RX1 65 yX1_linesBehind, Cond.instanceMethod yX1_linesBehind, Cond.selects RX1 yX1_linesBehind yX1_linesBehind, Cond.code yX1_linesBehind cX1_linesBehind 5 (some .int), Cond.methodLink RX1 69 yX1_areMentioned, Cond.instanceMethod yX1_areMentioned, Cond.selects RX1 yX1_areMentioned yX1_areMentioned, Cond.code yX1_areMentioned cX1_areMentioned 5 (some .boolean), Cond.methodLink RX3 76 yX3_placeBehind, Cond.instanceMethod yX3_placeBehind, Cond.selects RX3 yX3_placeBehind yX3_placeBehind, Cond.code yX3_placeBehind cX3_placeBehind 4 (some .int), Cond.methodLink RX3 80 yX1_linesBehind, Cond.methodLink RX3 52 yX3_valuePlaces]
def wsL_law_r13 : List Cond := [Cond.instanceMethod yX3_valuePlaces, Cond.selects RX3 yX3_valuePlaces yX3_valuePlaces, Cond.code yX3_valuePlaces cX3_valuePlaces 3 none, Cond.methodLink RX3 83 yX3_valuePlace, Cond.instanceMethod yX3_valuePlace, Cond.selects RX3 yX3_valuePlace yX3_valuePlace, Cond.code yX3_valuePlace cX3_valuePlace 11 none, Cond.constant RX3 92 (2147483647), Cond.methodLink RX3 86 yX1_isEnd, Cond.instanceMethod yX1_isEnd, Cond.selects RX1 yX1_isEnd yX1_isEnd, Cond.code yX1_isEnd cX1_isEnd 3 (some .boolean), Cond.methodLink RX5 218 yX2_follow, Cond.instanceMethod yX2_follow, Cond.selects RX2 yX2_follow yX2_follow, Cond.code yX2_follow cX2_follow 3 none, Cond.methodLink RX2 41 yX2_mayGoOn, Cond.instanceMethod yX2_mayGoOn, Cond.selects RX2 yX2_mayGoOn yX2_mayGoOn, Cond.code yX2_mayGoOn cX2_mayGoOn 2 (some .boolean), Cond.methodLink RX2 28 yX1_isEnd, Cond.methodLink RX2 45 yX3_takenFrom, Cond.instanceMethod yX3_takenFrom, Cond.selects RX3 yX3_takenFrom yX3_takenFrom]
def wsL_law_r14 : List Cond := [Cond.code yX3_takenFrom cX3_takenFrom 3 (some .int), Cond.methodLink RX3 93 yX3_isPlace, Cond.instanceMethod yX3_isPlace, Cond.selects RX3 yX3_isPlace yX3_isPlace, Cond.code yX3_isPlace cX3_isPlace 3 (some .boolean), Cond.methodLink RX2 49 yX2_addPage, Cond.instanceMethod yX2_addPage, Cond.selects RX2 yX2_addPage yX2_addPage, Cond.code yX2_addPage cX2_addPage 5 none, Cond.methodLink RX2 22 yX1_linesBehind, Cond.methodLink RX5 222 yX2_takeMost, Cond.instanceMethod yX2_takeMost, Cond.selects RX2 yX2_takeMost yX2_takeMost, Cond.code yX2_takeMost cX2_takeMost 5 none, Cond.methodLink RX2 56 yX1_areMentioned, Cond.methodLink RX5 121 yX3_costFrom, Cond.instanceMethod yX3_costFrom, Cond.selects RX3 yX3_costFrom yX3_costFrom, Cond.code yX3_costFrom cX3_costFrom 3 (some .int), Cond.methodLink RL 35 yX6_drift, Cond.instanceMethod yX6_drift, Cond.selects RX6 yX6_drift yX6_drift, Cond.code yX6_drift cX6_drift 9 (some .int), Cond.constant RX6 173 (999999)]
def wsL_law_r15 : List Cond := [Cond.constantLong RX6 174 (16807), Cond.constantLong RX6 176 (2147483647), Cond.constantLong RX6 178 (2), Cond.constantLong RX6 180 (9), Cond.methodLink RX6 116 yX6_bestOf, Cond.instanceMethod yX6_bestOf, Cond.selects RX6 yX6_bestOf yX6_bestOf, Cond.code yX6_bestOf cX6_bestOf 1 (some .int), Cond.constant RX6 98 (100000000), Cond.methodLink RX6 109 yX6_lay, Cond.instanceMethod yX6_lay, Cond.selects RX6 yX6_lay yX6_lay, Cond.code yX6_lay cX6_lay 3 none, Cond.methodLink RX6 105 yX6_layPlace, Cond.instanceMethod yX6_layPlace, Cond.selects RX6 yX6_layPlace yX6_layPlace, Cond.code yX6_layPlace cX6_layPlace 11 none, Cond.methodLink RX6 99 yX6_isPage, Cond.instanceMethod yX6_isPage, Cond.selects RX6 yX6_isPage yX6_isPage, Cond.code yX6_isPage cX6_isPage 5 (some .boolean), Cond.methodLink RX6 74 yX6_isFit, Cond.instanceMethod yX6_isFit, Cond.selects RX6 yX6_isFit yX6_isFit]
def wsL_law_r16 : List Cond := [Cond.code yX6_isFit cX6_isFit 7 (some .boolean), Cond.methodLink RX6 63 yX6_column, Cond.instanceMethod yX6_column, Cond.selects RX6 yX6_column yX6_column, Cond.code yX6_column cX6_column 8 (some .int), Cond.methodLink RX6 55 yX6_isWide, Cond.instanceMethod yX6_isWide, Cond.selects RX6 yX6_isWide yX6_isWide, Cond.code yX6_isWide cX6_isWide 2 (some .boolean), Cond.methodLink RX6 59 yX6_high, Cond.instanceMethod yX6_high, Cond.selects RX6 yX6_high yX6_high, Cond.code yX6_high cX6_high 2 (some .int), Cond.methodLink RX6 91 yX6_linesBehind, Cond.instanceMethod yX6_linesBehind, Cond.selects RX6 yX6_linesBehind yX6_linesBehind, Cond.code yX6_linesBehind cX6_linesBehind 5 (some .int), Cond.methodLink RX6 67 yX6_taken, Cond.instanceMethod yX6_taken, Cond.selects RX6 yX6_taken yX6_taken, Cond.code yX6_taken cX6_taken 5 (some .int), Cond.methodLink RX6 95 yX6_areMentioned, Cond.instanceMethod yX6_areMentioned, Cond.selects RX6 yX6_areMentioned yX6_areMentioned]
def wsL_law_r17 : List Cond := [Cond.code yX6_areMentioned cX6_areMentioned 6 (some .boolean), Cond.methodLink RX6 71 yX6_mentionLine, Cond.instanceMethod yX6_mentionLine, Cond.selects RX6 yX6_mentionLine yX6_mentionLine, Cond.code yX6_mentionLine cX6_mentionLine 3 (some .int), Cond.methodLink RX6 102 yX6_paid, Cond.instanceMethod yX6_paid, Cond.selects RX6 yX6_paid yX6_paid, Cond.code yX6_paid cX6_paid 3 (some .int), Cond.methodLink RX6 84 yX6_between, Cond.instanceMethod yX6_between, Cond.selects RX6 yX6_between yX6_between, Cond.code yX6_between cX6_between 7 (some .int), Cond.methodLink RX6 78 yX6_isMentioned, Cond.instanceMethod yX6_isMentioned, Cond.selects RX6 yX6_isMentioned yX6_isMentioned, Cond.code yX6_isMentioned cX6_isMentioned 3 (some .boolean), Cond.methodLink RX6 88 yX6_weightOf, Cond.instanceMethod yX6_weightOf, Cond.selects RX6 yX6_weightOf yX6_weightOf, Cond.code yX6_weightOf cX6_weightOf 4 (some .int), Cond.methodLink RX6 81 yX6_weight, Cond.instanceMethod yX6_weight, Cond.selects RX6 yX6_weight yX6_weight]
def wsL_law_r18 : List Cond := [Cond.code yX6_weight cX6_weight 2 (some .int), Cond.methodLink RL 36 yX5_undo, Cond.instanceMethod yX5_undo, Cond.selects RX5 yX5_undo yX5_undo, Cond.code yX5_undo cX5_undo 1 (some .int), Cond.constant RX5 127 (-1000000003), Cond.methodLink RX5 128 yX0_bringBack, Cond.instanceMethod yX0_bringBack, Cond.selects RX0 yX0_bringBack yX0_bringBack, Cond.code yX0_bringBack cX0_bringBack 2 none, Cond.methodLink RL 40 yX6_undo, Cond.instanceMethod yX6_undo, Cond.selects RX6 yX6_undo yX6_undo, Cond.code yX6_undo cX6_undo 1 (some .int), Cond.constant RX6 182 (-1000000003), Cond.methodLink RL 41 yX5_told, Cond.instanceMethod yX5_told, Cond.selects RX5 yX5_told yX5_told, Cond.code yX5_told cX5_told 2 (some .int), Cond.methodLink RX5 144 yX2_cost, Cond.instanceMethod yX2_cost, Cond.selects RX2 yX2_cost yX2_cost, Cond.code yX2_cost cX2_cost 4 (some .int), Cond.methodLink RX2 87 yX2_costOfFigure]
def wsL_law_r19 : List Cond := [Cond.instanceMethod yX2_costOfFigure, Cond.selects RX2 yX2_costOfFigure yX2_costOfFigure, Cond.code yX2_costOfFigure cX2_costOfFigure 3 (some .int), Cond.methodLink RX2 80 Lib.Math.abs.name, Cond.static Lib.Math.abs.name, Cond.code Lib.Math.abs.name Lib.Math.abs.code 1 (some .int), Cond.methodLink RX2 70 yX2_pageOfFigure, Cond.instanceMethod yX2_pageOfFigure, Cond.selects RX2 yX2_pageOfFigure yX2_pageOfFigure, Cond.code yX2_pageOfFigure cX2_pageOfFigure 2 (some .int), Cond.methodLink RX2 63 yX2_firstAbove, Cond.instanceMethod yX2_firstAbove, Cond.selects RX2 yX2_firstAbove yX2_firstAbove, Cond.code yX2_firstAbove cX2_firstAbove 4 (some .int), Cond.methodLink RX2 77 yX2_pageWithLine, Cond.instanceMethod yX2_pageWithLine, Cond.selects RX2 yX2_pageWithLine yX2_pageWithLine, Cond.code yX2_pageWithLine cX2_pageWithLine 2 (some .int), Cond.methodLink RX5 151 yX2_heavy, Cond.instanceMethod yX2_heavy, Cond.selects RX2 yX2_heavy yX2_heavy, Cond.code yX2_heavy cX2_heavy 6 (some .int), Cond.methodLink RL 44 yX6_told, Cond.instanceMethod yX6_told]
def wsL_law_r20 : List Cond := [Cond.selects RX6 yX6_told yX6_told, Cond.code yX6_told cX6_told 2 (some .int), Cond.fieldLink RX6 112 "NearFiguresModel" "planned" "I", Cond.fieldLink RX6 195 "NearFiguresModel" "pages" "I", Cond.methodLink RX6 127 yX6_clashing, Cond.instanceMethod yX6_clashing, Cond.selects RX6 yX6_clashing yX6_clashing, Cond.code yX6_clashing cX6_clashing 2 (some .int), Cond.methodLink RX6 183 yX6_isGreedy, Cond.instanceMethod yX6_isGreedy, Cond.selects RX6 yX6_isGreedy yX6_isGreedy, Cond.code yX6_isGreedy cX6_isGreedy 4 (some .boolean), Cond.methodLink RX6 123 yX6_addPage, Cond.instanceMethod yX6_addPage, Cond.selects RX6 yX6_addPage yX6_addPage, Cond.code yX6_addPage cX6_addPage 4 none, Cond.methodLink RX6 186 yX6_paidOfAll, Cond.instanceMethod yX6_paidOfAll, Cond.selects RX6 yX6_paidOfAll yX6_paidOfAll, Cond.code yX6_paidOfAll cX6_paidOfAll 3 (some .int), Cond.methodLink RX6 189 yX6_layPlaces, Cond.instanceMethod yX6_layPlaces, Cond.selects RX6 yX6_layPlaces yX6_layPlaces, Cond.code yX6_layPlaces cX6_layPlaces 6 (some .int)]
def wsL_law_r21 : List Cond := [Cond.methodLink RX6 192 yX6_heaviest, Cond.instanceMethod yX6_heaviest, Cond.selects RX6 yX6_heaviest yX6_heaviest, Cond.code yX6_heaviest cX6_heaviest 4 (some .int), Cond.methodLink RX6 139 yX6_isPlanned, Cond.instanceMethod yX6_isPlanned, Cond.selects RX6 yX6_isPlanned yX6_isPlanned, Cond.code yX6_isPlanned cX6_isPlanned 4 (some .boolean), Cond.methodLink RX6 120 yX6_isBestPage, Cond.instanceMethod yX6_isBestPage, Cond.selects RX6 yX6_isBestPage yX6_isBestPage, Cond.code yX6_isBestPage cX6_isBestPage 7 (some .boolean), Cond.methodLink RX6 143 yX6_costOf, Cond.instanceMethod yX6_costOf, Cond.selects RX6 yX6_costOf yX6_costOf, Cond.code yX6_costOf cX6_costOf 3 (some .int), Cond.methodLink RX6 133 yX6_pageOfFigure, Cond.instanceMethod yX6_pageOfFigure, Cond.selects RX6 yX6_pageOfFigure yX6_pageOfFigure, Cond.code yX6_pageOfFigure cX6_pageOfFigure 3 (some .int), Cond.methodLink RX6 136 yX6_pageOfMention, Cond.instanceMethod yX6_pageOfMention, Cond.selects RX6 yX6_pageOfMention yX6_pageOfMention, Cond.code yX6_pageOfMention cX6_pageOfMention 2 (some .int)]
def wsL_law_r22 : List Cond := [Cond.methodLink RX6 130 yX6_pageOfLine, Cond.instanceMethod yX6_pageOfLine, Cond.selects RX6 yX6_pageOfLine yX6_pageOfLine, Cond.code yX6_pageOfLine cX6_pageOfLine 3 (some .int), Cond.methodLink RL 45 yX5_figureOf, Cond.instanceMethod yX5_figureOf, Cond.selects RX5 yX5_figureOf yX5_figureOf, Cond.code yX5_figureOf cX5_figureOf 3 (some .int), Cond.methodLink RX5 154 yX2_pageOfFigure, Cond.methodLink RX5 161 yX2_pageWithLine, Cond.methodLink RX5 164 yX2_costOfFigure, Cond.methodLink RL 48 yX6_figureOf, Cond.instanceMethod yX6_figureOf, Cond.selects RX6 yX6_figureOf yX6_figureOf, Cond.code yX6_figureOf cX6_figureOf 4 (some .int), Cond.methodLink RL 49 yX5_page, Cond.instanceMethod yX5_page, Cond.selects RX5 yX5_page yX5_page, Cond.code yX5_page cX5_page 6 (some .int), Cond.methodLink RX5 179 yX1_waiting, Cond.instanceMethod yX1_waiting, Cond.selects RX1 yX1_waiting yX1_waiting, Cond.code yX1_waiting cX1_waiting 5 (some .int), Cond.methodLink RX5 182 yX1_unmentioned]
def wsL_law_r23 : List Cond := [Cond.instanceMethod yX1_unmentioned, Cond.selects RX1 yX1_unmentioned yX1_unmentioned, Cond.code yX1_unmentioned cX1_unmentioned 5 (some .int), Cond.methodLink RL 52 yX6_page, Cond.instanceMethod yX6_page, Cond.selects RX6 yX6_page yX6_page, Cond.code yX6_page cX6_page 6 (some .int), Cond.methodLink RL 53 yX5_pageOf, Cond.instanceMethod yX5_pageOf, Cond.selects RX5 yX5_pageOf yX5_pageOf, Cond.code yX5_pageOf cX5_pageOf 2 (some .int), Cond.methodLink RL 56 yX6_pageOf, Cond.instanceMethod yX6_pageOf, Cond.selects RX6 yX6_pageOf yX6_pageOf, Cond.code yX6_pageOf cX6_pageOf 2 (some .int), Cond.methodLink RL 57 yX5_fits, Cond.instanceMethod yX5_fits, Cond.selects RX5 yX5_fits yX5_fits, Cond.code yX5_fits cX5_fits 3 (some .int), Cond.methodLink RX5 185 yX4_standTogether, Cond.methodLink RL 60 yX6_fits, Cond.instanceMethod yX6_fits, Cond.selects RX6 yX6_fits yX6_fits, Cond.code yX6_fits cX6_fits 3 (some .int)]
def wsL_law_r24 : List Cond := [Cond.methodLink RL 61 yX5_ways, Cond.instanceMethod yX5_ways, Cond.selects RX5 yX5_ways yX5_ways, Cond.code yX5_ways cX5_ways 1 (some .long), Cond.methodLink RX5 188 yX3_waysOfBest, Cond.instanceMethod yX3_waysOfBest, Cond.selects RX3 yX3_waysOfBest yX3_waysOfBest, Cond.code yX3_waysOfBest cX3_waysOfBest 1 (some .long), Cond.methodLink RL 65 yX6_ways, Cond.instanceMethod yX6_ways, Cond.selects RX6 yX6_ways yX6_ways, Cond.code yX6_ways cX6_ways 1 (some .long), Cond.methodLink RL 66 yX5_without, Cond.instanceMethod yX5_without, Cond.selects RX5 yX5_without yX5_without, Cond.code yX5_without cX5_without 2 (some .int), Cond.methodLink RX5 192 yX4_becomes, Cond.methodLink RX5 195 yX5_costOfTrial, Cond.instanceMethod yX5_costOfTrial, Cond.selects RX5 yX5_costOfTrial yX5_costOfTrial, Cond.code yX5_costOfTrial cX5_costOfTrial 1 (some .int), Cond.methodLink RL 69 yX6_without, Cond.instanceMethod yX6_without, Cond.selects RX6 yX6_without yX6_without]
def wsL_law_r25 : List Cond := [Cond.code yX6_without cX6_without 3 (some .int), Cond.methodLink RL 70 yX5_moved, Cond.instanceMethod yX5_moved, Cond.selects RX5 yX5_moved yX5_moved, Cond.code yX5_moved cX5_moved 3 (some .int), Cond.methodLink RL 73 yX6_moved, Cond.instanceMethod yX6_moved, Cond.selects RX6 yX6_moved yX6_moved, Cond.code yX6_moved cX6_moved 5 (some .int), Cond.methodLink RL 74 yX5_from, Cond.instanceMethod yX5_from, Cond.selects RX5 yX5_from yX5_from, Cond.code yX5_from cX5_from 4 (some .int), Cond.methodLink RX5 199 yX3_pagesFrom, Cond.instanceMethod yX3_pagesFrom, Cond.selects RX3 yX3_pagesFrom yX3_pagesFrom, Cond.code yX3_pagesFrom cX3_pagesFrom 3 (some .int), Cond.methodLink RL 78 yX6_from, Cond.instanceMethod yX6_from, Cond.selects RX6 yX6_from yX6_from, Cond.code yX6_from cX6_from 4 (some .int), Cond.methodLink RL 79 yX5_hand, Cond.instanceMethod yX5_hand, Cond.selects RX5 yX5_hand yX5_hand]
def wsL_law_r26 : List Cond := [Cond.code yX5_hand cX5_hand 2 (some .int), Cond.methodLink RL 82 yX6_hand, Cond.instanceMethod yX6_hand, Cond.selects RX6 yX6_hand yX6_hand, Cond.code yX6_hand cX6_hand 2 (some .int), Cond.methodLink RL 83 yX5_clear, Cond.instanceMethod yX5_clear, Cond.selects RX5 yX5_clear yX5_clear, Cond.code yX5_clear cX5_clear 2 (some .int), Cond.methodLink RL 86 yX6_clear, Cond.instanceMethod yX6_clear, Cond.selects RX6 yX6_clear yX6_clear, Cond.code yX6_clear cX6_clear 2 (some .int), Cond.methodLink RL 87 yX5_judge, Cond.instanceMethod yX5_judge, Cond.selects RX5 yX5_judge yX5_judge, Cond.code yX5_judge cX5_judge 3 (some .int), Cond.methodLink RX5 202 yX2_takeHanded, Cond.instanceMethod yX2_takeHanded, Cond.selects RX2 yX2_takeHanded yX2_takeHanded, Cond.code yX2_takeHanded cX2_takeHanded 5 (some .int), Cond.methodLink RX2 60 yX1_mayTake, Cond.methodLink RL 90 yX6_judge, Cond.instanceMethod yX6_judge]
def wsL_law_r27 : List Cond := [Cond.selects RX6 yX6_judge yX6_judge, Cond.code yX6_judge cX6_judge 6 (some .int), Cond.methodLink RL 91 yX5_keep, Cond.instanceMethod yX5_keep, Cond.selects RX5 yX5_keep yX5_keep, Cond.code yX5_keep cX5_keep 2 (some .int), Cond.methodLink RL 94 yX6_keep, Cond.instanceMethod yX6_keep, Cond.selects RX6 yX6_keep yX6_keep, Cond.code yX6_keep cX6_keep 2 (some .int), Cond.methodLink RL 95 yX5_goBack, Cond.instanceMethod yX5_goBack, Cond.selects RX5 yX5_goBack yX5_goBack, Cond.code yX5_goBack cX5_goBack 2 (some .int), Cond.methodLink RL 98 yX6_goBack, Cond.instanceMethod yX6_goBack, Cond.selects RX6 yX6_goBack yX6_goBack, Cond.code yX6_goBack cX6_goBack 2 (some .int)]
def wsL_law : List Cond := (wsL_law_r1 ++ (wsL_law_r2 ++ (wsL_law_r3 ++ (wsL_law_r4 ++ (wsL_law_r5 ++ (wsL_law_r6 ++ (wsL_law_r7 ++ (wsL_law_r8 ++ (wsL_law_r9 ++ (wsL_law_r10 ++ (wsL_law_r11 ++ (wsL_law_r12 ++ (wsL_law_r13 ++ (wsL_law_r14 ++ (wsL_law_r15 ++ (wsL_law_r16 ++ (wsL_law_r17 ++ (wsL_law_r18 ++ (wsL_law_r19 ++ (wsL_law_r20 ++ (wsL_law_r21 ++ (wsL_law_r22 ++ (wsL_law_r23 ++ (wsL_law_r24 ++ (wsL_law_r25 ++ (wsL_law_r26 ++ wsL_law_r27)))))))))))))))))))))))))) ++ wsX50 ++ wsX60 ++ wsX40 ++ wsX00 ++ wsX30 ++ wsX20 ++ wsX10 ++ ([] : List Cond)
theorem inlX0 : ∀ w ∈ wsX00, w ∈ wsL_law := fun _ h => List.mem_append_left _ (List.mem_append_left _ (List.mem_append_left _ (List.mem_append_left _ (List.mem_append_right _ h))))
theorem inlX1 : ∀ w ∈ wsX10, w ∈ wsL_law := fun _ h => List.mem_append_left _ (List.mem_append_right _ h)
theorem inlX2 : ∀ w ∈ wsX20, w ∈ wsL_law := fun _ h => List.mem_append_left _ (List.mem_append_left _ (List.mem_append_right _ h))
theorem inlX3 : ∀ w ∈ wsX30, w ∈ wsL_law := fun _ h => List.mem_append_left _ (List.mem_append_left _ (List.mem_append_left _ (List.mem_append_right _ h)))
theorem inlX4 : ∀ w ∈ wsX40, w ∈ wsL_law := fun _ h => List.mem_append_left _ (List.mem_append_left _ (List.mem_append_left _ (List.mem_append_left _ (List.mem_append_left _ (List.mem_append_right _ h)))))
theorem inlX5 : ∀ w ∈ wsX50, w ∈ wsL_law := fun _ h => List.mem_append_left _ (List.mem_append_left _ (List.mem_append_left _ (List.mem_append_left _ (List.mem_append_left _ (List.mem_append_left _ (List.mem_append_left _ (List.mem_append_right _ h)))))))
theorem inlX6 : ∀ w ∈ wsX60, w ∈ wsL_law := fun _ h => List.mem_append_left _ (List.mem_append_left _ (List.mem_append_left _ (List.mem_append_left _ (List.mem_append_left _ (List.mem_append_left _ (List.mem_append_right _ h))))))
abbrev vwCl : List vw_C := [(RX0, TX0, 3), (RX1, TX1, 9), (RX2, TX2, 3), (RX3, TX3, 6), (RX4, TX4, 3), (RX5, TX5, 13), (RX6, TX6, 16)]
end
section
theorem goodIn_ap {big a b : List Cond} (ha : GoodIn big a) (hb : GoodIn big b) : GoodIn big (a ++ b) := fun w h => (List.mem_append.mp h).elim (ha w) (hb w)
set_option maxRecDepth 20000 in
theorem wq_r1 : GoodIn lw_tbl wsL_law_r1 := goodIn_p wsL_law_r1 [62, 65] rfl (by decide +kernel)
set_option maxRecDepth 20000 in
theorem wq_r2 : GoodIn lw_tbl wsL_law_r2 := goodIn_p wsL_law_r2 [70] rfl (by decide +kernel)
set_option maxRecDepth 20000 in
theorem wq_r3 : GoodIn lw_tbl wsL_law_r3 := goodIn_p wsL_law_r3 [96, 116, 122] rfl (by decide +kernel)
set_option maxRecDepth 20000 in
theorem wq_r4 : GoodIn lw_tbl wsL_law_r4 := goodIn_p wsL_law_r4 [192, 559] rfl (by decide +kernel)
set_option maxRecDepth 20000 in
theorem wq_r5 : GoodIn lw_tbl wsL_law_r5 := goodIn_p wsL_law_r5 [250, 277, 254, 263, 267] rfl (by decide +kernel)
set_option maxRecDepth 20000 in
theorem wq_r6 : GoodIn lw_tbl wsL_law_r6 := goodIn_p wsL_law_r6 [271, 613, 616, 620, 625] rfl (by decide +kernel)
set_option maxRecDepth 20000 in
theorem wq_r7 : GoodIn lw_tbl wsL_law_r7 := goodIn_p wsL_law_r7 [628, 282, 285, 294, 298, 632] rfl (by decide +kernel)
set_option maxRecDepth 20000 in
theorem wq_r8 : GoodIn lw_tbl wsL_law_r8 := goodIn_p wsL_law_r8 [637, 302, 306, 311, 641] rfl (by decide +kernel)
set_option maxRecDepth 20000 in
theorem wq_r9 : GoodIn lw_tbl wsL_law_r9 := goodIn_p wsL_law_r9 [645, 650, 315, 654, 319, 324] rfl (by decide +kernel)
set_option maxRecDepth 20000 in
theorem wq_r10 : GoodIn lw_tbl wsL_law_r10 := goodIn_p wsL_law_r10 [327, 330, 336, 340, 344] rfl (by decide +kernel)
set_option maxRecDepth 20000 in
theorem wq_r11 : GoodIn lw_tbl wsL_law_r11 := goodIn_p wsL_law_r11 [348, 352, 356, 359, 363] rfl (by decide +kernel)
set_option maxRecDepth 20000 in
theorem wq_r12 : GoodIn lw_tbl wsL_law_r12 := goodIn_p wsL_law_r12 [367, 371, 375, 379, 383, 387] rfl (by decide +kernel)
set_option maxRecDepth 20000 in
theorem wq_r13 : GoodIn lw_tbl wsL_law_r13 := goodIn_p wsL_law_r13 [392, 396, 400, 405, 409] rfl (by decide +kernel)
set_option maxRecDepth 20000 in
theorem wq_r14 : GoodIn lw_tbl wsL_law_r14 := goodIn_p wsL_law_r14 [414, 418, 422, 427, 432, 658] rfl (by decide +kernel)
set_option maxRecDepth 20000 in
theorem wq_r15 : GoodIn lw_tbl wsL_law_r15 := goodIn_p wsL_law_r15 [667, 671, 675, 680] rfl (by decide +kernel)
set_option maxRecDepth 20000 in
theorem wq_r16 : GoodIn lw_tbl wsL_law_r16 := goodIn_p wsL_law_r16 [684, 688, 692, 696, 700, 704] rfl (by decide +kernel)
set_option maxRecDepth 20000 in
theorem wq_r17 : GoodIn lw_tbl wsL_law_r17 := goodIn_p wsL_law_r17 [708, 712, 716, 720, 724, 728] rfl (by decide +kernel)
set_option maxRecDepth 20000 in
theorem wq_r18 : GoodIn lw_tbl wsL_law_r18 := goodIn_p wsL_law_r18 [732, 436, 441, 736, 445, 449] rfl (by decide +kernel)
set_option maxRecDepth 20000 in
theorem wq_r19 : GoodIn lw_tbl wsL_law_r19 := goodIn_p wsL_law_r19 [453, 468, 457, 461, 465, 472] rfl (by decide +kernel)
set_option maxRecDepth 20000 in
theorem wq_r20 : GoodIn lw_tbl wsL_law_r20 := goodIn_p wsL_law_r20 [741, 745, 749, 753, 757, 761] rfl (by decide +kernel)
set_option maxRecDepth 20000 in
theorem wq_r21 : GoodIn lw_tbl wsL_law_r21 := goodIn_p wsL_law_r21 [765, 769, 773, 777, 781, 785] rfl (by decide +kernel)
set_option maxRecDepth 20000 in
theorem wq_r22 : GoodIn lw_tbl wsL_law_r22 := goodIn_p wsL_law_r22 [789, 476, 793, 483, 487] rfl (by decide +kernel)
set_option maxRecDepth 20000 in
theorem wq_r23 : GoodIn lw_tbl wsL_law_r23 := goodIn_p wsL_law_r23 [491, 797, 495, 801, 499, 805] rfl (by decide +kernel)
set_option maxRecDepth 20000 in
theorem wq_r24 : GoodIn lw_tbl wsL_law_r24 := goodIn_p wsL_law_r24 [504, 508, 809, 512, 517] rfl (by decide +kernel)
set_option maxRecDepth 20000 in
theorem wq_r25 : GoodIn lw_tbl wsL_law_r25 := goodIn_p wsL_law_r25 [813, 521, 817, 525, 529, 821] rfl (by decide +kernel)
set_option maxRecDepth 20000 in
theorem wq_r26 : GoodIn lw_tbl wsL_law_r26 := goodIn_p wsL_law_r26 [533, 825, 537, 829, 541, 545] rfl (by decide +kernel)
set_option maxRecDepth 20000 in
theorem wq_r27 : GoodIn lw_tbl wsL_law_r27 := goodIn_p wsL_law_r27 [833, 550, 837, 554, 841] rfl (by decide +kernel)
theorem wq_X5 : GoodIn lw_tbl wsX50 := goodIn_p wsX50 [] rfl (by decide +kernel)
theorem wq_X6 : GoodIn lw_tbl wsX60 := goodIn_p wsX60 [] rfl (by decide +kernel)
theorem wq_X4 : GoodIn lw_tbl wsX40 := goodIn_p wsX40 [] rfl (by decide +kernel)
theorem wq_X0 : GoodIn lw_tbl wsX00 := goodIn_p wsX00 [] rfl (by decide +kernel)
theorem wq_X3 : GoodIn lw_tbl wsX30 := goodIn_p wsX30 [] rfl (by decide +kernel)
theorem wq_X2 : GoodIn lw_tbl wsX20 := goodIn_p wsX20 [] rfl (by decide +kernel)
theorem wq_X1 : GoodIn lw_tbl wsX10 := goodIn_p wsX10 [] rfl (by decide +kernel)
theorem wq_all : GoodIn lw_tbl wsL_law := goodIn_ap (goodIn_ap (goodIn_ap (goodIn_ap (goodIn_ap (goodIn_ap (goodIn_ap (goodIn_ap (goodIn_ap wq_r1 (goodIn_ap wq_r2 (goodIn_ap wq_r3 (goodIn_ap wq_r4 (goodIn_ap wq_r5 (goodIn_ap wq_r6 (goodIn_ap wq_r7 (goodIn_ap wq_r8 (goodIn_ap wq_r9 (goodIn_ap wq_r10 (goodIn_ap wq_r11 (goodIn_ap wq_r12 (goodIn_ap wq_r13 (goodIn_ap wq_r14 (goodIn_ap wq_r15 (goodIn_ap wq_r16 (goodIn_ap wq_r17 (goodIn_ap wq_r18 (goodIn_ap wq_r19 (goodIn_ap wq_r20 (goodIn_ap wq_r21 (goodIn_ap wq_r22 (goodIn_ap wq_r23 (goodIn_ap wq_r24 (goodIn_ap wq_r25 (goodIn_ap wq_r26 wq_r27)))))))))))))))))))))))))) wq_X5) wq_X6) wq_X4) wq_X0) wq_X3) wq_X2) wq_X1) (fun _ h => absurd h List.not_mem_nil)
theorem wq_in : ∀ w ∈ wsL_law, w ∈ lw_tbl := fun w h => (wq_all w h).1
theorem wq_good : ∀ w ∈ wsL_law, (w.onTables && w.keeps) = true ∨ ∃ ty, w = .arrayClass ty := fun w h => (wq_all w h).2
theorem wq_self : GoodIn wsL_law wsL_law := fun w h => ⟨h, wq_good w h⟩
end
section
theorem dX0_init_0 : decode cX0_init 0 = .ok (.aload_n 0, 1) := by decide +kernel
theorem dX0_init_1 : decode cX0_init 1 = .ok (.invokespecial 3, 3) := by decide +kernel
theorem dX0_init_4 : decode cX0_init 4 = .ok (.aload_n 0, 1) := by decide +kernel
theorem dX0_init_5 : decode cX0_init 5 = .ok (.bipush 6, 2) := by decide +kernel
theorem dX0_init_7 : decode cX0_init 7 = .ok (.anewarray 9, 3) := by decide +kernel
theorem dX0_init_10 : decode cX0_init 10 = .ok (.putfield 11, 3) := by decide +kernel
theorem dX0_init_13 : decode cX0_init 13 = .ok (.aload_n 0, 1) := by decide +kernel
theorem dX0_init_14 : decode cX0_init 14 = .ok (.iconst 0, 1) := by decide +kernel
theorem dX0_init_15 : decode cX0_init 15 = .ok (.putfield 17, 3) := by decide +kernel
theorem dX0_init_18 : decode cX0_init 18 = .ok (.aload_n 0, 1) := by decide +kernel
theorem dX0_init_19 : decode cX0_init 19 = .ok (.iconst 0, 1) := by decide +kernel
theorem dX0_init_20 : decode cX0_init 20 = .ok (.putfield 21, 3) := by decide +kernel
theorem dX0_init_23 : decode cX0_init 23 = .ok (.iconst 0, 1) := by decide +kernel
theorem dX0_init_24 : decode cX0_init 24 = .ok (.istore_n 1, 1) := by decide +kernel
theorem dX0_init_25 : decode cX0_init 25 = .ok (.iload_n 1, 1) := by decide +kernel
theorem dX0_init_26 : decode cX0_init 26 = .ok (.bipush 6, 2) := by decide +kernel
theorem dX0_init_28 : decode cX0_init 28 = .ok (.if_icmp .ge 22, 3) := by decide +kernel
theorem dX0_init_31 : decode cX0_init 31 = .ok (.aload_n 0, 1) := by decide +kernel
theorem dX0_init_32 : decode cX0_init 32 = .ok (.getfield 11, 3) := by decide +kernel
theorem dX0_init_35 : decode cX0_init 35 = .ok (.iload_n 1, 1) := by decide +kernel
theorem dX0_init_36 : decode cX0_init 36 = .ok (.new 9, 3) := by decide +kernel
theorem dX0_init_39 : decode cX0_init 39 = .ok (.dup, 1) := by decide +kernel
theorem dX0_init_40 : decode cX0_init 40 = .ok (.invokespecial 24, 3) := by decide +kernel
theorem dX0_init_43 : decode cX0_init 43 = .ok (.aastore, 1) := by decide +kernel
theorem dX0_init_44 : decode cX0_init 44 = .ok (.iinc 1 1, 3) := by decide +kernel
theorem dX0_init_47 : decode cX0_init 47 = .ok (.goto (-22), 3) := by decide +kernel
theorem dX0_init_50 : decode cX0_init 50 = .ok (.return_, 1) := by decide +kernel
theorem dX0_remember_0 : decode cX0_remember 0 = .ok (.aload_n 0, 1) := by decide +kernel
theorem dX0_remember_1 : decode cX0_remember 1 = .ok (.getfield 11, 3) := by decide +kernel
theorem dX0_remember_4 : decode cX0_remember 4 = .ok (.aload_n 0, 1) := by decide +kernel
theorem dX0_remember_5 : decode cX0_remember 5 = .ok (.getfield 17, 3) := by decide +kernel
theorem dX0_remember_8 : decode cX0_remember 8 = .ok (.aaload, 1) := by decide +kernel
theorem dX0_remember_9 : decode cX0_remember 9 = .ok (.aload_n 1, 1) := by decide +kernel
theorem dX0_remember_10 : decode cX0_remember 10 = .ok (.invokevirtual 25, 3) := by decide +kernel
theorem dX0_remember_13 : decode cX0_remember 13 = .ok (.aload_n 0, 1) := by decide +kernel
theorem dX0_remember_14 : decode cX0_remember 14 = .ok (.aload_n 0, 1) := by decide +kernel
theorem dX0_remember_15 : decode cX0_remember 15 = .ok (.getfield 17, 3) := by decide +kernel
theorem dX0_remember_18 : decode cX0_remember 18 = .ok (.iconst 1, 1) := by decide +kernel
theorem dX0_remember_19 : decode cX0_remember 19 = .ok (.iadd, 1) := by decide +kernel
theorem dX0_remember_20 : decode cX0_remember 20 = .ok (.bipush 6, 2) := by decide +kernel
theorem dX0_remember_22 : decode cX0_remember 22 = .ok (.irem, 1) := by decide +kernel
theorem dX0_remember_23 : decode cX0_remember 23 = .ok (.putfield 17, 3) := by decide +kernel
theorem dX0_remember_26 : decode cX0_remember 26 = .ok (.aload_n 0, 1) := by decide +kernel
theorem dX0_remember_27 : decode cX0_remember 27 = .ok (.aload_n 0, 1) := by decide +kernel
theorem dX0_remember_28 : decode cX0_remember 28 = .ok (.getfield 21, 3) := by decide +kernel
theorem dX0_remember_31 : decode cX0_remember 31 = .ok (.iconst 1, 1) := by decide +kernel
theorem dX0_remember_32 : decode cX0_remember 32 = .ok (.iadd, 1) := by decide +kernel
theorem dX0_remember_33 : decode cX0_remember 33 = .ok (.bipush 6, 2) := by decide +kernel
theorem dX0_remember_35 : decode cX0_remember 35 = .ok (.invokestatic 29, 3) := by decide +kernel
theorem dX0_remember_38 : decode cX0_remember 38 = .ok (.putfield 21, 3) := by decide +kernel
theorem dX0_remember_41 : decode cX0_remember 41 = .ok (.return_, 1) := by decide +kernel
theorem dX0_bringBack_0 : decode cX0_bringBack 0 = .ok (.aload_n 0, 1) := by decide +kernel
theorem dX0_bringBack_1 : decode cX0_bringBack 1 = .ok (.aload_n 0, 1) := by decide +kernel
theorem dX0_bringBack_2 : decode cX0_bringBack 2 = .ok (.getfield 17, 3) := by decide +kernel
theorem dX0_bringBack_5 : decode cX0_bringBack 5 = .ok (.bipush 6, 2) := by decide +kernel
theorem dX0_bringBack_7 : decode cX0_bringBack 7 = .ok (.iadd, 1) := by decide +kernel
theorem dX0_bringBack_8 : decode cX0_bringBack 8 = .ok (.iconst 1, 1) := by decide +kernel
theorem dX0_bringBack_9 : decode cX0_bringBack 9 = .ok (.isub, 1) := by decide +kernel
theorem dX0_bringBack_10 : decode cX0_bringBack 10 = .ok (.bipush 6, 2) := by decide +kernel
theorem dX0_bringBack_12 : decode cX0_bringBack 12 = .ok (.irem, 1) := by decide +kernel
theorem dX0_bringBack_13 : decode cX0_bringBack 13 = .ok (.putfield 17, 3) := by decide +kernel
theorem dX0_bringBack_16 : decode cX0_bringBack 16 = .ok (.aload_n 1, 1) := by decide +kernel
theorem dX0_bringBack_17 : decode cX0_bringBack 17 = .ok (.aload_n 0, 1) := by decide +kernel
theorem dX0_bringBack_18 : decode cX0_bringBack 18 = .ok (.getfield 11, 3) := by decide +kernel
theorem dX0_bringBack_21 : decode cX0_bringBack 21 = .ok (.aload_n 0, 1) := by decide +kernel
theorem dX0_bringBack_22 : decode cX0_bringBack 22 = .ok (.getfield 17, 3) := by decide +kernel
theorem dX0_bringBack_25 : decode cX0_bringBack 25 = .ok (.aaload, 1) := by decide +kernel
theorem dX0_bringBack_26 : decode cX0_bringBack 26 = .ok (.invokevirtual 25, 3) := by decide +kernel
theorem dX0_bringBack_29 : decode cX0_bringBack 29 = .ok (.aload_n 0, 1) := by decide +kernel
theorem dX0_bringBack_30 : decode cX0_bringBack 30 = .ok (.dup, 1) := by decide +kernel
theorem dX0_bringBack_31 : decode cX0_bringBack 31 = .ok (.getfield 21, 3) := by decide +kernel
theorem dX0_bringBack_34 : decode cX0_bringBack 34 = .ok (.iconst 1, 1) := by decide +kernel
theorem dX0_bringBack_35 : decode cX0_bringBack 35 = .ok (.isub, 1) := by decide +kernel
theorem dX0_bringBack_36 : decode cX0_bringBack 36 = .ok (.putfield 21, 3) := by decide +kernel
theorem dX0_bringBack_39 : decode cX0_bringBack 39 = .ok (.return_, 1) := by decide +kernel
theorem dX1_init_0 : decode cX1_init 0 = .ok (.aload_n 0, 1) := by decide +kernel
theorem dX1_init_1 : decode cX1_init 1 = .ok (.invokespecial 3, 3) := by decide +kernel
theorem dX1_init_4 : decode cX1_init 4 = .ok (.aload_n 0, 1) := by decide +kernel
theorem dX1_init_5 : decode cX1_init 5 = .ok (.bipush 10, 2) := by decide +kernel
theorem dX1_init_7 : decode cX1_init 7 = .ok (.newarray .int, 2) := by decide +kernel
theorem dX1_init_9 : decode cX1_init 9 = .ok (.putfield 9, 3) := by decide +kernel
theorem dX1_init_12 : decode cX1_init 12 = .ok (.aload_n 0, 1) := by decide +kernel
theorem dX1_init_13 : decode cX1_init 13 = .ok (.bipush 10, 2) := by decide +kernel
theorem dX1_init_15 : decode cX1_init 15 = .ok (.newarray .int, 2) := by decide +kernel
theorem dX1_init_17 : decode cX1_init 17 = .ok (.putfield 15, 3) := by decide +kernel
theorem dX1_init_20 : decode cX1_init 20 = .ok (.aload_n 0, 1) := by decide +kernel
theorem dX1_init_21 : decode cX1_init 21 = .ok (.bipush 11, 2) := by decide +kernel
theorem dX1_init_23 : decode cX1_init 23 = .ok (.newarray .int, 2) := by decide +kernel
theorem dX1_init_25 : decode cX1_init 25 = .ok (.putfield 18, 3) := by decide +kernel
theorem dX1_init_28 : decode cX1_init 28 = .ok (.aload_n 0, 1) := by decide +kernel
theorem dX1_init_29 : decode cX1_init 29 = .ok (.bipush 11, 2) := by decide +kernel
theorem dX1_init_31 : decode cX1_init 31 = .ok (.newarray .int, 2) := by decide +kernel
theorem dX1_init_33 : decode cX1_init 33 = .ok (.putfield 21, 3) := by decide +kernel
theorem dX1_init_36 : decode cX1_init 36 = .ok (.return_, 1) := by decide +kernel
theorem dX1_take_0 : decode cX1_take 0 = .ok (.aload_n 1, 1) := by decide +kernel
theorem dX1_take_1 : decode cX1_take 1 = .ok (.getfield 24, 3) := by decide +kernel
theorem dX1_take_4 : decode cX1_take 4 = .ok (.iconst 2, 1) := by decide +kernel
theorem dX1_take_5 : decode cX1_take 5 = .ok (.iaload, 1) := by decide +kernel
theorem dX1_take_6 : decode cX1_take 6 = .ok (.istore_n 2, 1) := by decide +kernel
theorem dX1_take_7 : decode cX1_take 7 = .ok (.aload_n 0, 1) := by decide +kernel
theorem dX1_take_8 : decode cX1_take 8 = .ok (.aload_n 1, 1) := by decide +kernel
theorem dX1_take_9 : decode cX1_take 9 = .ok (.getfield 24, 3) := by decide +kernel
theorem dX1_take_12 : decode cX1_take 12 = .ok (.iconst 0, 1) := by decide +kernel
theorem dX1_take_13 : decode cX1_take 13 = .ok (.iaload, 1) := by decide +kernel
theorem dX1_take_14 : decode cX1_take 14 = .ok (.putfield 29, 3) := by decide +kernel
theorem dX1_take_17 : decode cX1_take 17 = .ok (.aload_n 0, 1) := by decide +kernel
theorem dX1_take_18 : decode cX1_take 18 = .ok (.aload_n 1, 1) := by decide +kernel
theorem dX1_take_19 : decode cX1_take 19 = .ok (.getfield 33, 3) := by decide +kernel
theorem dX1_take_22 : decode cX1_take 22 = .ok (.putfield 36, 3) := by decide +kernel
theorem dX1_take_25 : decode cX1_take 25 = .ok (.aload_n 0, 1) := by decide +kernel
theorem dX1_take_26 : decode cX1_take 26 = .ok (.iload_n 2, 1) := by decide +kernel
theorem dX1_take_27 : decode cX1_take 27 = .ok (.aload_n 1, 1) := by decide +kernel
theorem dX1_take_28 : decode cX1_take 28 = .ok (.getfield 24, 3) := by decide +kernel
theorem dX1_take_31 : decode cX1_take 31 = .ok (.iconst 1, 1) := by decide +kernel
theorem dX1_take_32 : decode cX1_take 32 = .ok (.iaload, 1) := by decide +kernel
theorem dX1_take_33 : decode cX1_take 33 = .ok (.imul, 1) := by decide +kernel
theorem dX1_take_34 : decode cX1_take 34 = .ok (.putfield 37, 3) := by decide +kernel
theorem dX1_take_37 : decode cX1_take 37 = .ok (.aload_n 0, 1) := by decide +kernel
theorem dX1_take_38 : decode cX1_take 38 = .ok (.aload_n 1, 1) := by decide +kernel
theorem dX1_take_39 : decode cX1_take 39 = .ok (.getfield 24, 3) := by decide +kernel
theorem dX1_take_42 : decode cX1_take 42 = .ok (.iconst 5, 1) := by decide +kernel
theorem dX1_take_43 : decode cX1_take 43 = .ok (.iaload, 1) := by decide +kernel
theorem dX1_take_44 : decode cX1_take 44 = .ok (.iconst 1, 1) := by decide +kernel
theorem dX1_take_45 : decode cX1_take 45 = .ok (.if_icmp .ne 7, 3) := by decide +kernel
theorem dX1_take_48 : decode cX1_take 48 = .ok (.iconst 1, 1) := by decide +kernel
theorem dX1_take_49 : decode cX1_take 49 = .ok (.goto 4, 3) := by decide +kernel
theorem dX1_take_52 : decode cX1_take 52 = .ok (.iconst 0, 1) := by decide +kernel
theorem dX1_take_53 : decode cX1_take 53 = .ok (.putfield 40, 3) := by decide +kernel
theorem dX1_take_56 : decode cX1_take 56 = .ok (.aload_n 0, 1) := by decide +kernel
theorem dX1_take_57 : decode cX1_take 57 = .ok (.iconst (-1), 1) := by decide +kernel
theorem dX1_take_58 : decode cX1_take 58 = .ok (.putfield 44, 3) := by decide +kernel
theorem dX1_take_61 : decode cX1_take 61 = .ok (.iconst 0, 1) := by decide +kernel
theorem dX1_take_62 : decode cX1_take 62 = .ok (.istore_n 3, 1) := by decide +kernel
theorem dX1_take_63 : decode cX1_take 63 = .ok (.iload_n 3, 1) := by decide +kernel
theorem dX1_take_64 : decode cX1_take 64 = .ok (.aload_n 0, 1) := by decide +kernel
theorem dX1_take_65 : decode cX1_take 65 = .ok (.getfield 36, 3) := by decide +kernel
theorem dX1_take_68 : decode cX1_take 68 = .ok (.if_icmp .ge 120, 3) := by decide +kernel
theorem dX1_take_71 : decode cX1_take 71 = .ok (.aload_n 0, 1) := by decide +kernel
theorem dX1_take_72 : decode cX1_take 72 = .ok (.getfield 9, 3) := by decide +kernel
theorem dX1_take_75 : decode cX1_take 75 = .ok (.iload_n 3, 1) := by decide +kernel
theorem dX1_take_76 : decode cX1_take 76 = .ok (.aload_n 1, 1) := by decide +kernel
theorem dX1_take_77 : decode cX1_take 77 = .ok (.getfield 47, 3) := by decide +kernel
theorem dX1_take_80 : decode cX1_take 80 = .ok (.iconst 2, 1) := by decide +kernel
theorem dX1_take_81 : decode cX1_take 81 = .ok (.aaload, 1) := by decide +kernel
theorem dX1_take_82 : decode cX1_take 82 = .ok (.iload_n 3, 1) := by decide +kernel
theorem dX1_take_83 : decode cX1_take 83 = .ok (.iaload, 1) := by decide +kernel
theorem dX1_take_84 : decode cX1_take 84 = .ok (.aload_n 0, 1) := by decide +kernel
theorem dX1_take_85 : decode cX1_take 85 = .ok (.getfield 29, 3) := by decide +kernel
theorem dX1_take_88 : decode cX1_take 88 = .ok (.iconst 1, 1) := by decide +kernel
theorem dX1_take_89 : decode cX1_take 89 = .ok (.isub, 1) := by decide +kernel
theorem dX1_take_90 : decode cX1_take 90 = .ok (.invokestatic 51, 3) := by decide +kernel
theorem dX1_take_93 : decode cX1_take 93 = .ok (.iastore, 1) := by decide +kernel
theorem dX1_take_94 : decode cX1_take 94 = .ok (.aload_n 0, 1) := by decide +kernel
theorem dX1_take_95 : decode cX1_take 95 = .ok (.getfield 15, 3) := by decide +kernel
theorem dX1_take_98 : decode cX1_take 98 = .ok (.iload_n 3, 1) := by decide +kernel
theorem dX1_take_99 : decode cX1_take 99 = .ok (.aload_n 1, 1) := by decide +kernel
theorem dX1_take_100 : decode cX1_take 100 = .ok (.getfield 47, 3) := by decide +kernel
theorem dX1_take_103 : decode cX1_take 103 = .ok (.iconst 3, 1) := by decide +kernel
theorem dX1_take_104 : decode cX1_take 104 = .ok (.aaload, 1) := by decide +kernel
theorem dX1_take_105 : decode cX1_take 105 = .ok (.iload_n 3, 1) := by decide +kernel
theorem dX1_take_106 : decode cX1_take 106 = .ok (.iaload, 1) := by decide +kernel
theorem dX1_take_107 : decode cX1_take 107 = .ok (.iastore, 1) := by decide +kernel
theorem dX1_take_108 : decode cX1_take 108 = .ok (.aload_n 0, 1) := by decide +kernel
theorem dX1_take_109 : decode cX1_take 109 = .ok (.getfield 21, 3) := by decide +kernel
theorem dX1_take_112 : decode cX1_take 112 = .ok (.iload_n 3, 1) := by decide +kernel
theorem dX1_take_113 : decode cX1_take 113 = .ok (.iconst 1, 1) := by decide +kernel
theorem dX1_take_114 : decode cX1_take 114 = .ok (.iadd, 1) := by decide +kernel
theorem dX1_take_115 : decode cX1_take 115 = .ok (.aload_n 0, 1) := by decide +kernel
theorem dX1_take_116 : decode cX1_take 116 = .ok (.getfield 21, 3) := by decide +kernel
theorem dX1_take_119 : decode cX1_take 119 = .ok (.iload_n 3, 1) := by decide +kernel
theorem dX1_take_120 : decode cX1_take 120 = .ok (.iaload, 1) := by decide +kernel
theorem dX1_take_121 : decode cX1_take 121 = .ok (.aload_n 1, 1) := by decide +kernel
theorem dX1_take_122 : decode cX1_take 122 = .ok (.getfield 47, 3) := by decide +kernel
theorem dX1_take_125 : decode cX1_take 125 = .ok (.iconst 0, 1) := by decide +kernel
theorem dX1_take_126 : decode cX1_take 126 = .ok (.aaload, 1) := by decide +kernel
theorem dX1_take_127 : decode cX1_take 127 = .ok (.iload_n 3, 1) := by decide +kernel
theorem dX1_take_128 : decode cX1_take 128 = .ok (.iaload, 1) := by decide +kernel
theorem dX1_take_129 : decode cX1_take 129 = .ok (.aload_n 1, 1) := by decide +kernel
theorem dX1_take_130 : decode cX1_take 130 = .ok (.getfield 47, 3) := by decide +kernel
theorem dX1_take_133 : decode cX1_take 133 = .ok (.iconst 1, 1) := by decide +kernel
theorem dX1_take_134 : decode cX1_take 134 = .ok (.aaload, 1) := by decide +kernel
theorem dX1_take_135 : decode cX1_take 135 = .ok (.iload_n 3, 1) := by decide +kernel
theorem dX1_take_136 : decode cX1_take 136 = .ok (.iaload, 1) := by decide +kernel
theorem dX1_take_137 : decode cX1_take 137 = .ok (.iconst 1, 1) := by decide +kernel
theorem dX1_take_138 : decode cX1_take 138 = .ok (.if_icmp .ne 7, 3) := by decide +kernel
theorem dX1_take_141 : decode cX1_take 141 = .ok (.iload_n 2, 1) := by decide +kernel
theorem dX1_take_142 : decode cX1_take 142 = .ok (.goto 4, 3) := by decide +kernel
theorem dX1_take_145 : decode cX1_take 145 = .ok (.iconst 1, 1) := by decide +kernel
theorem dX1_take_146 : decode cX1_take 146 = .ok (.imul, 1) := by decide +kernel
theorem dX1_take_147 : decode cX1_take 147 = .ok (.iadd, 1) := by decide +kernel
theorem dX1_take_148 : decode cX1_take 148 = .ok (.iastore, 1) := by decide +kernel
theorem dX1_take_149 : decode cX1_take 149 = .ok (.aload_n 0, 1) := by decide +kernel
theorem dX1_take_150 : decode cX1_take 150 = .ok (.getfield 18, 3) := by decide +kernel
theorem dX1_take_153 : decode cX1_take 153 = .ok (.iload_n 3, 1) := by decide +kernel
theorem dX1_take_154 : decode cX1_take 154 = .ok (.aload_n 1, 1) := by decide +kernel
theorem dX1_take_155 : decode cX1_take 155 = .ok (.iload_n 3, 1) := by decide +kernel
theorem dX1_take_156 : decode cX1_take 156 = .ok (.invokestatic 57, 3) := by decide +kernel
theorem dX1_take_159 : decode cX1_take 159 = .ok (.iastore, 1) := by decide +kernel
theorem dX1_take_160 : decode cX1_take 160 = .ok (.aload_n 0, 1) := by decide +kernel
theorem dX1_take_161 : decode cX1_take 161 = .ok (.getfield 18, 3) := by decide +kernel
theorem dX1_take_164 : decode cX1_take 164 = .ok (.iload_n 3, 1) := by decide +kernel
theorem dX1_take_165 : decode cX1_take 165 = .ok (.iaload, 1) := by decide +kernel
theorem dX1_take_166 : decode cX1_take 166 = .ok (.ifCond .ne 16, 3) := by decide +kernel
theorem dX1_take_169 : decode cX1_take 169 = .ok (.aload_n 0, 1) := by decide +kernel
theorem dX1_take_170 : decode cX1_take 170 = .ok (.getfield 44, 3) := by decide +kernel
theorem dX1_take_173 : decode cX1_take 173 = .ok (.iconst (-1), 1) := by decide +kernel
theorem dX1_take_174 : decode cX1_take 174 = .ok (.if_icmp .ne 8, 3) := by decide +kernel
theorem dX1_take_177 : decode cX1_take 177 = .ok (.aload_n 0, 1) := by decide +kernel
theorem dX1_take_178 : decode cX1_take 178 = .ok (.iload_n 3, 1) := by decide +kernel
theorem dX1_take_179 : decode cX1_take 179 = .ok (.putfield 44, 3) := by decide +kernel
theorem dX1_take_182 : decode cX1_take 182 = .ok (.iinc 3 1, 3) := by decide +kernel
theorem dX1_take_185 : decode cX1_take 185 = .ok (.goto (-122), 3) := by decide +kernel
theorem dX1_take_188 : decode cX1_take 188 = .ok (.aload_n 0, 1) := by decide +kernel
theorem dX1_take_189 : decode cX1_take 189 = .ok (.getfield 18, 3) := by decide +kernel
theorem dX1_take_192 : decode cX1_take 192 = .ok (.aload_n 0, 1) := by decide +kernel
theorem dX1_take_193 : decode cX1_take 193 = .ok (.getfield 36, 3) := by decide +kernel
theorem dX1_take_196 : decode cX1_take 196 = .ok (.iconst 0, 1) := by decide +kernel
theorem dX1_take_197 : decode cX1_take 197 = .ok (.iastore, 1) := by decide +kernel
theorem dX1_take_198 : decode cX1_take 198 = .ok (.return_, 1) := by decide +kernel
theorem dX1_mostFrom_0 : decode cX1_mostFrom 0 = .ok (.iconst 0, 1) := by decide +kernel
theorem dX1_mostFrom_1 : decode cX1_mostFrom 1 = .ok (.istore_n 2, 1) := by decide +kernel
theorem dX1_mostFrom_2 : decode cX1_mostFrom 2 = .ok (.aload_n 0, 1) := by decide +kernel
theorem dX1_mostFrom_3 : decode cX1_mostFrom 3 = .ok (.getfield 24, 3) := by decide +kernel
theorem dX1_mostFrom_6 : decode cX1_mostFrom 6 = .ok (.iconst 4, 1) := by decide +kernel
theorem dX1_mostFrom_7 : decode cX1_mostFrom 7 = .ok (.iaload, 1) := by decide +kernel
theorem dX1_mostFrom_8 : decode cX1_mostFrom 8 = .ok (.aload_n 0, 1) := by decide +kernel
theorem dX1_mostFrom_9 : decode cX1_mostFrom 9 = .ok (.getfield 33, 3) := by decide +kernel
theorem dX1_mostFrom_12 : decode cX1_mostFrom 12 = .ok (.iload_n 1, 1) := by decide +kernel
theorem dX1_mostFrom_13 : decode cX1_mostFrom 13 = .ok (.isub, 1) := by decide +kernel
theorem dX1_mostFrom_14 : decode cX1_mostFrom 14 = .ok (.invokestatic 51, 3) := by decide +kernel
theorem dX1_mostFrom_17 : decode cX1_mostFrom 17 = .ok (.istore_n 3, 1) := by decide +kernel
theorem dX1_mostFrom_18 : decode cX1_mostFrom 18 = .ok (.iload_n 2, 1) := by decide +kernel
theorem dX1_mostFrom_19 : decode cX1_mostFrom 19 = .ok (.iload_n 3, 1) := by decide +kernel
theorem dX1_mostFrom_20 : decode cX1_mostFrom 20 = .ok (.if_icmp .ge 20, 3) := by decide +kernel
theorem dX1_mostFrom_23 : decode cX1_mostFrom 23 = .ok (.aload_n 0, 1) := by decide +kernel
theorem dX1_mostFrom_24 : decode cX1_mostFrom 24 = .ok (.iload_n 1, 1) := by decide +kernel
theorem dX1_mostFrom_25 : decode cX1_mostFrom 25 = .ok (.iload_n 2, 1) := by decide +kernel
theorem dX1_mostFrom_26 : decode cX1_mostFrom 26 = .ok (.iconst 1, 1) := by decide +kernel
theorem dX1_mostFrom_27 : decode cX1_mostFrom 27 = .ok (.iadd, 1) := by decide +kernel
theorem dX1_mostFrom_28 : decode cX1_mostFrom 28 = .ok (.invokevirtual 61, 3) := by decide +kernel
theorem dX1_mostFrom_31 : decode cX1_mostFrom 31 = .ok (.ifCond .eq 9, 3) := by decide +kernel
theorem dX1_mostFrom_34 : decode cX1_mostFrom 34 = .ok (.iinc 2 1, 3) := by decide +kernel
theorem dX1_mostFrom_37 : decode cX1_mostFrom 37 = .ok (.goto (-19), 3) := by decide +kernel
theorem dX1_mostFrom_40 : decode cX1_mostFrom 40 = .ok (.iload_n 2, 1) := by decide +kernel
theorem dX1_mostFrom_41 : decode cX1_mostFrom 41 = .ok (.ireturn, 1) := by decide +kernel
theorem dX1_isEnd_0 : decode cX1_isEnd 0 = .ok (.iload_n 1, 1) := by decide +kernel
theorem dX1_isEnd_1 : decode cX1_isEnd 1 = .ok (.aload_n 0, 1) := by decide +kernel
theorem dX1_isEnd_2 : decode cX1_isEnd 2 = .ok (.getfield 29, 3) := by decide +kernel
theorem dX1_isEnd_5 : decode cX1_isEnd 5 = .ok (.if_icmp .ne 15, 3) := by decide +kernel
theorem dX1_isEnd_8 : decode cX1_isEnd 8 = .ok (.iload_n 2, 1) := by decide +kernel
theorem dX1_isEnd_9 : decode cX1_isEnd 9 = .ok (.aload_n 0, 1) := by decide +kernel
theorem dX1_isEnd_10 : decode cX1_isEnd 10 = .ok (.getfield 36, 3) := by decide +kernel
theorem dX1_isEnd_13 : decode cX1_isEnd 13 = .ok (.if_icmp .ne 7, 3) := by decide +kernel
theorem dX1_isEnd_16 : decode cX1_isEnd 16 = .ok (.iconst 1, 1) := by decide +kernel
theorem dX1_isEnd_17 : decode cX1_isEnd 17 = .ok (.goto 4, 3) := by decide +kernel
theorem dX1_isEnd_20 : decode cX1_isEnd 20 = .ok (.iconst 0, 1) := by decide +kernel
theorem dX1_isEnd_21 : decode cX1_isEnd 21 = .ok (.ireturn, 1) := by decide +kernel
theorem dX1_linesBehind_0 : decode cX1_linesBehind 0 = .ok (.iload_n 1, 1) := by decide +kernel
theorem dX1_linesBehind_1 : decode cX1_linesBehind 1 = .ok (.aload_n 0, 1) := by decide +kernel
theorem dX1_linesBehind_2 : decode cX1_linesBehind 2 = .ok (.getfield 37, 3) := by decide +kernel
theorem dX1_linesBehind_5 : decode cX1_linesBehind 5 = .ok (.iadd, 1) := by decide +kernel
theorem dX1_linesBehind_6 : decode cX1_linesBehind 6 = .ok (.aload_n 0, 1) := by decide +kernel
theorem dX1_linesBehind_7 : decode cX1_linesBehind 7 = .ok (.getfield 21, 3) := by decide +kernel
theorem dX1_linesBehind_10 : decode cX1_linesBehind 10 = .ok (.iload_n 2, 1) := by decide +kernel
theorem dX1_linesBehind_11 : decode cX1_linesBehind 11 = .ok (.iload_n 3, 1) := by decide +kernel
theorem dX1_linesBehind_12 : decode cX1_linesBehind 12 = .ok (.iadd, 1) := by decide +kernel
theorem dX1_linesBehind_13 : decode cX1_linesBehind 13 = .ok (.iaload, 1) := by decide +kernel
theorem dX1_linesBehind_14 : decode cX1_linesBehind 14 = .ok (.aload_n 0, 1) := by decide +kernel
theorem dX1_linesBehind_15 : decode cX1_linesBehind 15 = .ok (.getfield 21, 3) := by decide +kernel
theorem dX1_linesBehind_18 : decode cX1_linesBehind 18 = .ok (.iload_n 2, 1) := by decide +kernel
theorem dX1_linesBehind_19 : decode cX1_linesBehind 19 = .ok (.iaload, 1) := by decide +kernel
theorem dX1_linesBehind_20 : decode cX1_linesBehind 20 = .ok (.isub, 1) := by decide +kernel
theorem dX1_linesBehind_21 : decode cX1_linesBehind 21 = .ok (.isub, 1) := by decide +kernel
theorem dX1_linesBehind_22 : decode cX1_linesBehind 22 = .ok (.istore 4, 2) := by decide +kernel
theorem dX1_linesBehind_24 : decode cX1_linesBehind 24 = .ok (.iload 4, 2) := by decide +kernel
theorem dX1_linesBehind_26 : decode cX1_linesBehind 26 = .ok (.aload_n 0, 1) := by decide +kernel
theorem dX1_linesBehind_27 : decode cX1_linesBehind 27 = .ok (.getfield 29, 3) := by decide +kernel
theorem dX1_linesBehind_30 : decode cX1_linesBehind 30 = .ok (.if_icmp .ge 8, 3) := by decide +kernel
theorem dX1_linesBehind_33 : decode cX1_linesBehind 33 = .ok (.iload 4, 2) := by decide +kernel
theorem dX1_linesBehind_35 : decode cX1_linesBehind 35 = .ok (.goto 7, 3) := by decide +kernel
theorem dX1_linesBehind_38 : decode cX1_linesBehind 38 = .ok (.aload_n 0, 1) := by decide +kernel
theorem dX1_linesBehind_39 : decode cX1_linesBehind 39 = .ok (.getfield 29, 3) := by decide +kernel
theorem dX1_linesBehind_42 : decode cX1_linesBehind 42 = .ok (.ireturn, 1) := by decide +kernel
theorem dX1_areMentioned_0 : decode cX1_areMentioned 0 = .ok (.iload_n 1, 1) := by decide +kernel
theorem dX1_areMentioned_1 : decode cX1_areMentioned 1 = .ok (.istore 4, 2) := by decide +kernel
theorem dX1_areMentioned_3 : decode cX1_areMentioned 3 = .ok (.iload 4, 2) := by decide +kernel
theorem dX1_areMentioned_5 : decode cX1_areMentioned 5 = .ok (.iload_n 1, 1) := by decide +kernel
theorem dX1_areMentioned_6 : decode cX1_areMentioned 6 = .ok (.iload_n 2, 1) := by decide +kernel
theorem dX1_areMentioned_7 : decode cX1_areMentioned 7 = .ok (.iadd, 1) := by decide +kernel
theorem dX1_areMentioned_8 : decode cX1_areMentioned 8 = .ok (.if_icmp .ge 22, 3) := by decide +kernel
theorem dX1_areMentioned_11 : decode cX1_areMentioned 11 = .ok (.aload_n 0, 1) := by decide +kernel
theorem dX1_areMentioned_12 : decode cX1_areMentioned 12 = .ok (.getfield 9, 3) := by decide +kernel
theorem dX1_areMentioned_15 : decode cX1_areMentioned 15 = .ok (.iload 4, 2) := by decide +kernel
theorem dX1_areMentioned_17 : decode cX1_areMentioned 17 = .ok (.iaload, 1) := by decide +kernel
theorem dX1_areMentioned_18 : decode cX1_areMentioned 18 = .ok (.iload_n 3, 1) := by decide +kernel
theorem dX1_areMentioned_19 : decode cX1_areMentioned 19 = .ok (.if_icmp .lt 5, 3) := by decide +kernel
theorem dX1_areMentioned_22 : decode cX1_areMentioned 22 = .ok (.iconst 0, 1) := by decide +kernel
theorem dX1_areMentioned_23 : decode cX1_areMentioned 23 = .ok (.ireturn, 1) := by decide +kernel
theorem dX1_areMentioned_24 : decode cX1_areMentioned 24 = .ok (.iinc 4 1, 3) := by decide +kernel
theorem dX1_areMentioned_27 : decode cX1_areMentioned 27 = .ok (.goto (-24), 3) := by decide +kernel
theorem dX1_areMentioned_30 : decode cX1_areMentioned 30 = .ok (.iconst 1, 1) := by decide +kernel
theorem dX1_areMentioned_31 : decode cX1_areMentioned 31 = .ok (.ireturn, 1) := by decide +kernel
theorem dX1_mayTake_0 : decode cX1_mayTake 0 = .ok (.iload_n 3, 1) := by decide +kernel
theorem dX1_mayTake_1 : decode cX1_mayTake 1 = .ok (.aload_n 0, 1) := by decide +kernel
theorem dX1_mayTake_2 : decode cX1_mayTake 2 = .ok (.getfield 18, 3) := by decide +kernel
theorem dX1_mayTake_5 : decode cX1_mayTake 5 = .ok (.iload_n 2, 1) := by decide +kernel
theorem dX1_mayTake_6 : decode cX1_mayTake 6 = .ok (.iaload, 1) := by decide +kernel
theorem dX1_mayTake_7 : decode cX1_mayTake 7 = .ok (.if_icmp .le 5, 3) := by decide +kernel
theorem dX1_mayTake_10 : decode cX1_mayTake 10 = .ok (.iconst 0, 1) := by decide +kernel
theorem dX1_mayTake_11 : decode cX1_mayTake 11 = .ok (.ireturn, 1) := by decide +kernel
theorem dX1_mayTake_12 : decode cX1_mayTake 12 = .ok (.aload_n 0, 1) := by decide +kernel
theorem dX1_mayTake_13 : decode cX1_mayTake 13 = .ok (.iload_n 1, 1) := by decide +kernel
theorem dX1_mayTake_14 : decode cX1_mayTake 14 = .ok (.iload_n 2, 1) := by decide +kernel
theorem dX1_mayTake_15 : decode cX1_mayTake 15 = .ok (.iload_n 3, 1) := by decide +kernel
theorem dX1_mayTake_16 : decode cX1_mayTake 16 = .ok (.invokevirtual 65, 3) := by decide +kernel
theorem dX1_mayTake_19 : decode cX1_mayTake 19 = .ok (.istore 4, 2) := by decide +kernel
theorem dX1_mayTake_21 : decode cX1_mayTake 21 = .ok (.iload_n 3, 1) := by decide +kernel
theorem dX1_mayTake_22 : decode cX1_mayTake 22 = .ok (.ifCond .ne 15, 3) := by decide +kernel
theorem dX1_mayTake_25 : decode cX1_mayTake 25 = .ok (.iload 4, 2) := by decide +kernel
theorem dX1_mayTake_27 : decode cX1_mayTake 27 = .ok (.iload_n 1, 1) := by decide +kernel
theorem dX1_mayTake_28 : decode cX1_mayTake 28 = .ok (.if_icmp .le 7, 3) := by decide +kernel
theorem dX1_mayTake_31 : decode cX1_mayTake 31 = .ok (.iconst 1, 1) := by decide +kernel
theorem dX1_mayTake_32 : decode cX1_mayTake 32 = .ok (.goto 4, 3) := by decide +kernel
theorem dX1_mayTake_35 : decode cX1_mayTake 35 = .ok (.iconst 0, 1) := by decide +kernel
theorem dX1_mayTake_36 : decode cX1_mayTake 36 = .ok (.ireturn, 1) := by decide +kernel
theorem dX1_mayTake_37 : decode cX1_mayTake 37 = .ok (.aload_n 0, 1) := by decide +kernel
theorem dX1_mayTake_38 : decode cX1_mayTake 38 = .ok (.getfield 40, 3) := by decide +kernel
theorem dX1_mayTake_41 : decode cX1_mayTake 41 = .ok (.ifCond .ne 14, 3) := by decide +kernel
theorem dX1_mayTake_44 : decode cX1_mayTake 44 = .ok (.aload_n 0, 1) := by decide +kernel
theorem dX1_mayTake_45 : decode cX1_mayTake 45 = .ok (.iload_n 2, 1) := by decide +kernel
theorem dX1_mayTake_46 : decode cX1_mayTake 46 = .ok (.iload_n 3, 1) := by decide +kernel
theorem dX1_mayTake_47 : decode cX1_mayTake 47 = .ok (.iload 4, 2) := by decide +kernel
theorem dX1_mayTake_49 : decode cX1_mayTake 49 = .ok (.invokevirtual 69, 3) := by decide +kernel
theorem dX1_mayTake_52 : decode cX1_mayTake 52 = .ok (.ifCond .eq 7, 3) := by decide +kernel
theorem dX1_mayTake_55 : decode cX1_mayTake 55 = .ok (.iconst 1, 1) := by decide +kernel
theorem dX1_mayTake_56 : decode cX1_mayTake 56 = .ok (.goto 4, 3) := by decide +kernel
theorem dX1_mayTake_59 : decode cX1_mayTake 59 = .ok (.iconst 0, 1) := by decide +kernel
theorem dX1_mayTake_60 : decode cX1_mayTake 60 = .ok (.ireturn, 1) := by decide +kernel
theorem dX1_toll_0 : decode cX1_toll 0 = .ok (.iconst 0, 1) := by decide +kernel
theorem dX1_toll_1 : decode cX1_toll 1 = .ok (.istore_n 3, 1) := by decide +kernel
theorem dX1_toll_2 : decode cX1_toll 2 = .ok (.iconst 0, 1) := by decide +kernel
theorem dX1_toll_3 : decode cX1_toll 3 = .ok (.istore 4, 2) := by decide +kernel
theorem dX1_toll_5 : decode cX1_toll 5 = .ok (.iload 4, 2) := by decide +kernel
theorem dX1_toll_7 : decode cX1_toll 7 = .ok (.aload_n 0, 1) := by decide +kernel
theorem dX1_toll_8 : decode cX1_toll 8 = .ok (.getfield 36, 3) := by decide +kernel
theorem dX1_toll_11 : decode cX1_toll 11 = .ok (.if_icmp .ge 49, 3) := by decide +kernel
theorem dX1_toll_14 : decode cX1_toll 14 = .ok (.aload_n 0, 1) := by decide +kernel
theorem dX1_toll_15 : decode cX1_toll 15 = .ok (.getfield 9, 3) := by decide +kernel
theorem dX1_toll_18 : decode cX1_toll 18 = .ok (.iload 4, 2) := by decide +kernel
theorem dX1_toll_20 : decode cX1_toll 20 = .ok (.iaload, 1) := by decide +kernel
theorem dX1_toll_21 : decode cX1_toll 21 = .ok (.iload_n 1, 1) := by decide +kernel
theorem dX1_toll_22 : decode cX1_toll 22 = .ok (.if_icmp .ge 7, 3) := by decide +kernel
theorem dX1_toll_25 : decode cX1_toll 25 = .ok (.iconst 1, 1) := by decide +kernel
theorem dX1_toll_26 : decode cX1_toll 26 = .ok (.goto 4, 3) := by decide +kernel
theorem dX1_toll_29 : decode cX1_toll 29 = .ok (.iconst 0, 1) := by decide +kernel
theorem dX1_toll_30 : decode cX1_toll 30 = .ok (.iload 4, 2) := by decide +kernel
theorem dX1_toll_32 : decode cX1_toll 32 = .ok (.iload_n 2, 1) := by decide +kernel
theorem dX1_toll_33 : decode cX1_toll 33 = .ok (.if_icmp .ge 7, 3) := by decide +kernel
theorem dX1_toll_36 : decode cX1_toll 36 = .ok (.iconst 1, 1) := by decide +kernel
theorem dX1_toll_37 : decode cX1_toll 37 = .ok (.goto 4, 3) := by decide +kernel
theorem dX1_toll_40 : decode cX1_toll 40 = .ok (.iconst 0, 1) := by decide +kernel
theorem dX1_toll_41 : decode cX1_toll 41 = .ok (.if_icmp .eq 13, 3) := by decide +kernel
theorem dX1_toll_44 : decode cX1_toll 44 = .ok (.iload_n 3, 1) := by decide +kernel
theorem dX1_toll_45 : decode cX1_toll 45 = .ok (.aload_n 0, 1) := by decide +kernel
theorem dX1_toll_46 : decode cX1_toll 46 = .ok (.getfield 15, 3) := by decide +kernel
theorem dX1_toll_49 : decode cX1_toll 49 = .ok (.iload 4, 2) := by decide +kernel
theorem dX1_toll_51 : decode cX1_toll 51 = .ok (.iaload, 1) := by decide +kernel
theorem dX1_toll_52 : decode cX1_toll 52 = .ok (.iadd, 1) := by decide +kernel
theorem dX1_toll_53 : decode cX1_toll 53 = .ok (.istore_n 3, 1) := by decide +kernel
theorem dX1_toll_54 : decode cX1_toll 54 = .ok (.iinc 4 1, 3) := by decide +kernel
theorem dX1_toll_57 : decode cX1_toll 57 = .ok (.goto (-52), 3) := by decide +kernel
theorem dX1_toll_60 : decode cX1_toll 60 = .ok (.iload_n 3, 1) := by decide +kernel
theorem dX1_toll_61 : decode cX1_toll 61 = .ok (.ireturn, 1) := by decide +kernel
theorem dX1_waiting_0 : decode cX1_waiting 0 = .ok (.iconst 0, 1) := by decide +kernel
theorem dX1_waiting_1 : decode cX1_waiting 1 = .ok (.istore_n 3, 1) := by decide +kernel
theorem dX1_waiting_2 : decode cX1_waiting 2 = .ok (.iload_n 2, 1) := by decide +kernel
theorem dX1_waiting_3 : decode cX1_waiting 3 = .ok (.istore 4, 2) := by decide +kernel
theorem dX1_waiting_5 : decode cX1_waiting 5 = .ok (.iload 4, 2) := by decide +kernel
theorem dX1_waiting_7 : decode cX1_waiting 7 = .ok (.aload_n 0, 1) := by decide +kernel
theorem dX1_waiting_8 : decode cX1_waiting 8 = .ok (.getfield 36, 3) := by decide +kernel
theorem dX1_waiting_11 : decode cX1_waiting 11 = .ok (.if_icmp .ge 27, 3) := by decide +kernel
theorem dX1_waiting_14 : decode cX1_waiting 14 = .ok (.aload_n 0, 1) := by decide +kernel
theorem dX1_waiting_15 : decode cX1_waiting 15 = .ok (.getfield 9, 3) := by decide +kernel
theorem dX1_waiting_18 : decode cX1_waiting 18 = .ok (.iload 4, 2) := by decide +kernel
theorem dX1_waiting_20 : decode cX1_waiting 20 = .ok (.iaload, 1) := by decide +kernel
theorem dX1_waiting_21 : decode cX1_waiting 21 = .ok (.iload_n 1, 1) := by decide +kernel
theorem dX1_waiting_22 : decode cX1_waiting 22 = .ok (.if_icmp .ge 10, 3) := by decide +kernel
theorem dX1_waiting_25 : decode cX1_waiting 25 = .ok (.iload_n 3, 1) := by decide +kernel
theorem dX1_waiting_26 : decode cX1_waiting 26 = .ok (.iconst 1, 1) := by decide +kernel
theorem dX1_waiting_27 : decode cX1_waiting 27 = .ok (.iload 4, 2) := by decide +kernel
theorem dX1_waiting_29 : decode cX1_waiting 29 = .ok (.ishl, 1) := by decide +kernel
theorem dX1_waiting_30 : decode cX1_waiting 30 = .ok (.ior, 1) := by decide +kernel
theorem dX1_waiting_31 : decode cX1_waiting 31 = .ok (.istore_n 3, 1) := by decide +kernel
theorem dX1_waiting_32 : decode cX1_waiting 32 = .ok (.iinc 4 1, 3) := by decide +kernel
theorem dX1_waiting_35 : decode cX1_waiting 35 = .ok (.goto (-30), 3) := by decide +kernel
theorem dX1_waiting_38 : decode cX1_waiting 38 = .ok (.iload_n 3, 1) := by decide +kernel
theorem dX1_waiting_39 : decode cX1_waiting 39 = .ok (.ireturn, 1) := by decide +kernel
theorem dX1_unmentioned_0 : decode cX1_unmentioned 0 = .ok (.iconst 0, 1) := by decide +kernel
theorem dX1_unmentioned_1 : decode cX1_unmentioned 1 = .ok (.istore_n 3, 1) := by decide +kernel
theorem dX1_unmentioned_2 : decode cX1_unmentioned 2 = .ok (.iconst 0, 1) := by decide +kernel
theorem dX1_unmentioned_3 : decode cX1_unmentioned 3 = .ok (.istore 4, 2) := by decide +kernel
theorem dX1_unmentioned_5 : decode cX1_unmentioned 5 = .ok (.iload 4, 2) := by decide +kernel
theorem dX1_unmentioned_7 : decode cX1_unmentioned 7 = .ok (.iload_n 2, 1) := by decide +kernel
theorem dX1_unmentioned_8 : decode cX1_unmentioned 8 = .ok (.if_icmp .ge 27, 3) := by decide +kernel
theorem dX1_unmentioned_11 : decode cX1_unmentioned 11 = .ok (.aload_n 0, 1) := by decide +kernel
theorem dX1_unmentioned_12 : decode cX1_unmentioned 12 = .ok (.getfield 9, 3) := by decide +kernel
theorem dX1_unmentioned_15 : decode cX1_unmentioned 15 = .ok (.iload 4, 2) := by decide +kernel
theorem dX1_unmentioned_17 : decode cX1_unmentioned 17 = .ok (.iaload, 1) := by decide +kernel
theorem dX1_unmentioned_18 : decode cX1_unmentioned 18 = .ok (.iload_n 1, 1) := by decide +kernel
theorem dX1_unmentioned_19 : decode cX1_unmentioned 19 = .ok (.if_icmp .lt 10, 3) := by decide +kernel
theorem dX1_unmentioned_22 : decode cX1_unmentioned 22 = .ok (.iload_n 3, 1) := by decide +kernel
theorem dX1_unmentioned_23 : decode cX1_unmentioned 23 = .ok (.iconst 1, 1) := by decide +kernel
theorem dX1_unmentioned_24 : decode cX1_unmentioned 24 = .ok (.iload 4, 2) := by decide +kernel
theorem dX1_unmentioned_26 : decode cX1_unmentioned 26 = .ok (.ishl, 1) := by decide +kernel
theorem dX1_unmentioned_27 : decode cX1_unmentioned 27 = .ok (.ior, 1) := by decide +kernel
theorem dX1_unmentioned_28 : decode cX1_unmentioned 28 = .ok (.istore_n 3, 1) := by decide +kernel
theorem dX1_unmentioned_29 : decode cX1_unmentioned 29 = .ok (.iinc 4 1, 3) := by decide +kernel
theorem dX1_unmentioned_32 : decode cX1_unmentioned 32 = .ok (.goto (-27), 3) := by decide +kernel
theorem dX1_unmentioned_35 : decode cX1_unmentioned 35 = .ok (.iload_n 3, 1) := by decide +kernel
theorem dX1_unmentioned_36 : decode cX1_unmentioned 36 = .ok (.ireturn, 1) := by decide +kernel
theorem dX2_init_0 : decode cX2_init 0 = .ok (.aload_n 0, 1) := by decide +kernel
theorem dX2_init_1 : decode cX2_init 1 = .ok (.invokespecial 3, 3) := by decide +kernel
theorem dX2_init_4 : decode cX2_init 4 = .ok (.aload_n 0, 1) := by decide +kernel
theorem dX2_init_5 : decode cX2_init 5 = .ok (.bipush 31, 2) := by decide +kernel
theorem dX2_init_7 : decode cX2_init 7 = .ok (.newarray .int, 2) := by decide +kernel
theorem dX2_init_9 : decode cX2_init 9 = .ok (.putfield 9, 3) := by decide +kernel
theorem dX2_init_12 : decode cX2_init 12 = .ok (.aload_n 0, 1) := by decide +kernel
theorem dX2_init_13 : decode cX2_init 13 = .ok (.bipush 31, 2) := by decide +kernel
theorem dX2_init_15 : decode cX2_init 15 = .ok (.newarray .int, 2) := by decide +kernel
theorem dX2_init_17 : decode cX2_init 17 = .ok (.putfield 15, 3) := by decide +kernel
theorem dX2_init_20 : decode cX2_init 20 = .ok (.aload_n 0, 1) := by decide +kernel
theorem dX2_init_21 : decode cX2_init 21 = .ok (.iconst (-1), 1) := by decide +kernel
theorem dX2_init_22 : decode cX2_init 22 = .ok (.putfield 18, 3) := by decide +kernel
theorem dX2_init_25 : decode cX2_init 25 = .ok (.return_, 1) := by decide +kernel
theorem dX2_addPage_0 : decode cX2_addPage 0 = .ok (.aload_n 0, 1) := by decide +kernel
theorem dX2_addPage_1 : decode cX2_addPage 1 = .ok (.getfield 9, 3) := by decide +kernel
theorem dX2_addPage_4 : decode cX2_addPage 4 = .ok (.aload_n 0, 1) := by decide +kernel
theorem dX2_addPage_5 : decode cX2_addPage 5 = .ok (.getfield 18, 3) := by decide +kernel
theorem dX2_addPage_8 : decode cX2_addPage 8 = .ok (.iaload, 1) := by decide +kernel
theorem dX2_addPage_9 : decode cX2_addPage 9 = .ok (.istore_n 3, 1) := by decide +kernel
theorem dX2_addPage_10 : decode cX2_addPage 10 = .ok (.aload_n 0, 1) := by decide +kernel
theorem dX2_addPage_11 : decode cX2_addPage 11 = .ok (.getfield 15, 3) := by decide +kernel
theorem dX2_addPage_14 : decode cX2_addPage 14 = .ok (.aload_n 0, 1) := by decide +kernel
theorem dX2_addPage_15 : decode cX2_addPage 15 = .ok (.getfield 18, 3) := by decide +kernel
theorem dX2_addPage_18 : decode cX2_addPage 18 = .ok (.iaload, 1) := by decide +kernel
theorem dX2_addPage_19 : decode cX2_addPage 19 = .ok (.istore 4, 2) := by decide +kernel
theorem dX2_addPage_21 : decode cX2_addPage 21 = .ok (.aload_n 0, 1) := by decide +kernel
theorem dX2_addPage_22 : decode cX2_addPage 22 = .ok (.dup, 1) := by decide +kernel
theorem dX2_addPage_23 : decode cX2_addPage 23 = .ok (.getfield 18, 3) := by decide +kernel
theorem dX2_addPage_26 : decode cX2_addPage 26 = .ok (.iconst 1, 1) := by decide +kernel
theorem dX2_addPage_27 : decode cX2_addPage 27 = .ok (.iadd, 1) := by decide +kernel
theorem dX2_addPage_28 : decode cX2_addPage 28 = .ok (.putfield 18, 3) := by decide +kernel
theorem dX2_addPage_31 : decode cX2_addPage 31 = .ok (.aload_n 0, 1) := by decide +kernel
theorem dX2_addPage_32 : decode cX2_addPage 32 = .ok (.getfield 9, 3) := by decide +kernel
theorem dX2_addPage_35 : decode cX2_addPage 35 = .ok (.aload_n 0, 1) := by decide +kernel
theorem dX2_addPage_36 : decode cX2_addPage 36 = .ok (.getfield 18, 3) := by decide +kernel
theorem dX2_addPage_39 : decode cX2_addPage 39 = .ok (.aload_n 1, 1) := by decide +kernel
theorem dX2_addPage_40 : decode cX2_addPage 40 = .ok (.iload_n 3, 1) := by decide +kernel
theorem dX2_addPage_41 : decode cX2_addPage 41 = .ok (.iload 4, 2) := by decide +kernel
theorem dX2_addPage_43 : decode cX2_addPage 43 = .ok (.iload_n 2, 1) := by decide +kernel
theorem dX2_addPage_44 : decode cX2_addPage 44 = .ok (.invokevirtual 22, 3) := by decide +kernel
theorem dX2_addPage_47 : decode cX2_addPage 47 = .ok (.iastore, 1) := by decide +kernel
theorem dX2_addPage_48 : decode cX2_addPage 48 = .ok (.aload_n 0, 1) := by decide +kernel
theorem dX2_addPage_49 : decode cX2_addPage 49 = .ok (.getfield 15, 3) := by decide +kernel
theorem dX2_addPage_52 : decode cX2_addPage 52 = .ok (.aload_n 0, 1) := by decide +kernel
theorem dX2_addPage_53 : decode cX2_addPage 53 = .ok (.getfield 18, 3) := by decide +kernel
theorem dX2_addPage_56 : decode cX2_addPage 56 = .ok (.iload 4, 2) := by decide +kernel
theorem dX2_addPage_58 : decode cX2_addPage 58 = .ok (.iload_n 2, 1) := by decide +kernel
theorem dX2_addPage_59 : decode cX2_addPage 59 = .ok (.iadd, 1) := by decide +kernel
theorem dX2_addPage_60 : decode cX2_addPage 60 = .ok (.iastore, 1) := by decide +kernel
theorem dX2_addPage_61 : decode cX2_addPage 61 = .ok (.return_, 1) := by decide +kernel
theorem dX2_mayGoOn_0 : decode cX2_mayGoOn 0 = .ok (.aload_n 0, 1) := by decide +kernel
theorem dX2_mayGoOn_1 : decode cX2_mayGoOn 1 = .ok (.getfield 18, 3) := by decide +kernel
theorem dX2_mayGoOn_4 : decode cX2_mayGoOn 4 = .ok (.bipush 30, 2) := by decide +kernel
theorem dX2_mayGoOn_6 : decode cX2_mayGoOn 6 = .ok (.if_icmp .ge 32, 3) := by decide +kernel
theorem dX2_mayGoOn_9 : decode cX2_mayGoOn 9 = .ok (.aload_n 1, 1) := by decide +kernel
theorem dX2_mayGoOn_10 : decode cX2_mayGoOn 10 = .ok (.aload_n 0, 1) := by decide +kernel
theorem dX2_mayGoOn_11 : decode cX2_mayGoOn 11 = .ok (.getfield 9, 3) := by decide +kernel
theorem dX2_mayGoOn_14 : decode cX2_mayGoOn 14 = .ok (.aload_n 0, 1) := by decide +kernel
theorem dX2_mayGoOn_15 : decode cX2_mayGoOn 15 = .ok (.getfield 18, 3) := by decide +kernel
theorem dX2_mayGoOn_18 : decode cX2_mayGoOn 18 = .ok (.iaload, 1) := by decide +kernel
theorem dX2_mayGoOn_19 : decode cX2_mayGoOn 19 = .ok (.aload_n 0, 1) := by decide +kernel
theorem dX2_mayGoOn_20 : decode cX2_mayGoOn 20 = .ok (.getfield 15, 3) := by decide +kernel
theorem dX2_mayGoOn_23 : decode cX2_mayGoOn 23 = .ok (.aload_n 0, 1) := by decide +kernel
theorem dX2_mayGoOn_24 : decode cX2_mayGoOn 24 = .ok (.getfield 18, 3) := by decide +kernel
theorem dX2_mayGoOn_27 : decode cX2_mayGoOn 27 = .ok (.iaload, 1) := by decide +kernel
theorem dX2_mayGoOn_28 : decode cX2_mayGoOn 28 = .ok (.invokevirtual 28, 3) := by decide +kernel
theorem dX2_mayGoOn_31 : decode cX2_mayGoOn 31 = .ok (.ifCond .ne 7, 3) := by decide +kernel
theorem dX2_mayGoOn_34 : decode cX2_mayGoOn 34 = .ok (.iconst 1, 1) := by decide +kernel
theorem dX2_mayGoOn_35 : decode cX2_mayGoOn 35 = .ok (.goto 4, 3) := by decide +kernel
theorem dX2_mayGoOn_38 : decode cX2_mayGoOn 38 = .ok (.iconst 0, 1) := by decide +kernel
theorem dX2_mayGoOn_39 : decode cX2_mayGoOn 39 = .ok (.ireturn, 1) := by decide +kernel
theorem dX2_follow_0 : decode cX2_follow 0 = .ok (.aload_n 1, 1) := by decide +kernel
theorem dX2_follow_1 : decode cX2_follow 1 = .ok (.getfield 32, 3) := by decide +kernel
theorem dX2_follow_4 : decode cX2_follow 4 = .ok (.getfield 38, 3) := by decide +kernel
theorem dX2_follow_7 : decode cX2_follow 7 = .ok (.iconst (-1), 1) := by decide +kernel
theorem dX2_follow_8 : decode cX2_follow 8 = .ok (.if_icmp .eq 9, 3) := by decide +kernel
theorem dX2_follow_11 : decode cX2_follow 11 = .ok (.aload_n 0, 1) := by decide +kernel
theorem dX2_follow_12 : decode cX2_follow 12 = .ok (.iconst (-1), 1) := by decide +kernel
theorem dX2_follow_13 : decode cX2_follow 13 = .ok (.putfield 18, 3) := by decide +kernel
theorem dX2_follow_16 : decode cX2_follow 16 = .ok (.return_, 1) := by decide +kernel
theorem dX2_follow_17 : decode cX2_follow 17 = .ok (.aload_n 0, 1) := by decide +kernel
theorem dX2_follow_18 : decode cX2_follow 18 = .ok (.iconst 0, 1) := by decide +kernel
theorem dX2_follow_19 : decode cX2_follow 19 = .ok (.putfield 18, 3) := by decide +kernel
theorem dX2_follow_22 : decode cX2_follow 22 = .ok (.iconst 0, 1) := by decide +kernel
theorem dX2_follow_23 : decode cX2_follow 23 = .ok (.istore_n 2, 1) := by decide +kernel
theorem dX2_follow_24 : decode cX2_follow 24 = .ok (.iload_n 2, 1) := by decide +kernel
theorem dX2_follow_25 : decode cX2_follow 25 = .ok (.bipush 30, 2) := by decide +kernel
theorem dX2_follow_27 : decode cX2_follow 27 = .ok (.if_icmp .ge 44, 3) := by decide +kernel
theorem dX2_follow_30 : decode cX2_follow 30 = .ok (.aload_n 0, 1) := by decide +kernel
theorem dX2_follow_31 : decode cX2_follow 31 = .ok (.aload_n 1, 1) := by decide +kernel
theorem dX2_follow_32 : decode cX2_follow 32 = .ok (.getfield 32, 3) := by decide +kernel
theorem dX2_follow_35 : decode cX2_follow 35 = .ok (.invokevirtual 41, 3) := by decide +kernel
theorem dX2_follow_38 : decode cX2_follow 38 = .ok (.ifCond .eq 33, 3) := by decide +kernel
theorem dX2_follow_41 : decode cX2_follow 41 = .ok (.aload_n 0, 1) := by decide +kernel
theorem dX2_follow_42 : decode cX2_follow 42 = .ok (.aload_n 1, 1) := by decide +kernel
theorem dX2_follow_43 : decode cX2_follow 43 = .ok (.getfield 32, 3) := by decide +kernel
theorem dX2_follow_46 : decode cX2_follow 46 = .ok (.aload_n 1, 1) := by decide +kernel
theorem dX2_follow_47 : decode cX2_follow 47 = .ok (.aload_n 0, 1) := by decide +kernel
theorem dX2_follow_48 : decode cX2_follow 48 = .ok (.getfield 9, 3) := by decide +kernel
theorem dX2_follow_51 : decode cX2_follow 51 = .ok (.iload_n 2, 1) := by decide +kernel
theorem dX2_follow_52 : decode cX2_follow 52 = .ok (.iaload, 1) := by decide +kernel
theorem dX2_follow_53 : decode cX2_follow 53 = .ok (.aload_n 0, 1) := by decide +kernel
theorem dX2_follow_54 : decode cX2_follow 54 = .ok (.getfield 15, 3) := by decide +kernel
theorem dX2_follow_57 : decode cX2_follow 57 = .ok (.iload_n 2, 1) := by decide +kernel
theorem dX2_follow_58 : decode cX2_follow 58 = .ok (.iaload, 1) := by decide +kernel
theorem dX2_follow_59 : decode cX2_follow 59 = .ok (.invokevirtual 45, 3) := by decide +kernel
theorem dX2_follow_62 : decode cX2_follow 62 = .ok (.invokevirtual 49, 3) := by decide +kernel
theorem dX2_follow_65 : decode cX2_follow 65 = .ok (.iinc 2 1, 3) := by decide +kernel
theorem dX2_follow_68 : decode cX2_follow 68 = .ok (.goto (-44), 3) := by decide +kernel
theorem dX2_follow_71 : decode cX2_follow 71 = .ok (.return_, 1) := by decide +kernel
theorem dX2_takeMost_0 : decode cX2_takeMost 0 = .ok (.aload_n 1, 1) := by decide +kernel
theorem dX2_takeMost_1 : decode cX2_takeMost 1 = .ok (.getfield 38, 3) := by decide +kernel
theorem dX2_takeMost_4 : decode cX2_takeMost 4 = .ok (.iconst (-1), 1) := by decide +kernel
theorem dX2_takeMost_5 : decode cX2_takeMost 5 = .ok (.if_icmp .eq 9, 3) := by decide +kernel
theorem dX2_takeMost_8 : decode cX2_takeMost 8 = .ok (.aload_n 0, 1) := by decide +kernel
theorem dX2_takeMost_9 : decode cX2_takeMost 9 = .ok (.iconst (-1), 1) := by decide +kernel
theorem dX2_takeMost_10 : decode cX2_takeMost 10 = .ok (.putfield 18, 3) := by decide +kernel
theorem dX2_takeMost_13 : decode cX2_takeMost 13 = .ok (.return_, 1) := by decide +kernel
theorem dX2_takeMost_14 : decode cX2_takeMost 14 = .ok (.aload_n 0, 1) := by decide +kernel
theorem dX2_takeMost_15 : decode cX2_takeMost 15 = .ok (.iconst 0, 1) := by decide +kernel
theorem dX2_takeMost_16 : decode cX2_takeMost 16 = .ok (.putfield 18, 3) := by decide +kernel
theorem dX2_takeMost_19 : decode cX2_takeMost 19 = .ok (.iconst 0, 1) := by decide +kernel
theorem dX2_takeMost_20 : decode cX2_takeMost 20 = .ok (.istore_n 2, 1) := by decide +kernel
theorem dX2_takeMost_21 : decode cX2_takeMost 21 = .ok (.iload_n 2, 1) := by decide +kernel
theorem dX2_takeMost_22 : decode cX2_takeMost 22 = .ok (.bipush 30, 2) := by decide +kernel
theorem dX2_takeMost_24 : decode cX2_takeMost 24 = .ok (.if_icmp .ge 73, 3) := by decide +kernel
theorem dX2_takeMost_27 : decode cX2_takeMost 27 = .ok (.aload_n 0, 1) := by decide +kernel
theorem dX2_takeMost_28 : decode cX2_takeMost 28 = .ok (.aload_n 1, 1) := by decide +kernel
theorem dX2_takeMost_29 : decode cX2_takeMost 29 = .ok (.invokevirtual 41, 3) := by decide +kernel
theorem dX2_takeMost_32 : decode cX2_takeMost 32 = .ok (.ifCond .eq 65, 3) := by decide +kernel
theorem dX2_takeMost_35 : decode cX2_takeMost 35 = .ok (.aload_n 0, 1) := by decide +kernel
theorem dX2_takeMost_36 : decode cX2_takeMost 36 = .ok (.getfield 15, 3) := by decide +kernel
theorem dX2_takeMost_39 : decode cX2_takeMost 39 = .ok (.iload_n 2, 1) := by decide +kernel
theorem dX2_takeMost_40 : decode cX2_takeMost 40 = .ok (.iaload, 1) := by decide +kernel
theorem dX2_takeMost_41 : decode cX2_takeMost 41 = .ok (.istore_n 3, 1) := by decide +kernel
theorem dX2_takeMost_42 : decode cX2_takeMost 42 = .ok (.aload_n 1, 1) := by decide +kernel
theorem dX2_takeMost_43 : decode cX2_takeMost 43 = .ok (.getfield 53, 3) := by decide +kernel
theorem dX2_takeMost_46 : decode cX2_takeMost 46 = .ok (.iload_n 3, 1) := by decide +kernel
theorem dX2_takeMost_47 : decode cX2_takeMost 47 = .ok (.iaload, 1) := by decide +kernel
theorem dX2_takeMost_48 : decode cX2_takeMost 48 = .ok (.istore 4, 2) := by decide +kernel
theorem dX2_takeMost_50 : decode cX2_takeMost 50 = .ok (.iload 4, 2) := by decide +kernel
theorem dX2_takeMost_52 : decode cX2_takeMost 52 = .ok (.ifCond .le 32, 3) := by decide +kernel
theorem dX2_takeMost_55 : decode cX2_takeMost 55 = .ok (.aload_n 1, 1) := by decide +kernel
theorem dX2_takeMost_56 : decode cX2_takeMost 56 = .ok (.iload_n 3, 1) := by decide +kernel
theorem dX2_takeMost_57 : decode cX2_takeMost 57 = .ok (.iload 4, 2) := by decide +kernel
theorem dX2_takeMost_59 : decode cX2_takeMost 59 = .ok (.aload_n 1, 1) := by decide +kernel
theorem dX2_takeMost_60 : decode cX2_takeMost 60 = .ok (.aload_n 0, 1) := by decide +kernel
theorem dX2_takeMost_61 : decode cX2_takeMost 61 = .ok (.getfield 9, 3) := by decide +kernel
theorem dX2_takeMost_64 : decode cX2_takeMost 64 = .ok (.iload_n 2, 1) := by decide +kernel
theorem dX2_takeMost_65 : decode cX2_takeMost 65 = .ok (.iaload, 1) := by decide +kernel
theorem dX2_takeMost_66 : decode cX2_takeMost 66 = .ok (.iload_n 3, 1) := by decide +kernel
theorem dX2_takeMost_67 : decode cX2_takeMost 67 = .ok (.iload 4, 2) := by decide +kernel
theorem dX2_takeMost_69 : decode cX2_takeMost 69 = .ok (.invokevirtual 22, 3) := by decide +kernel
theorem dX2_takeMost_72 : decode cX2_takeMost 72 = .ok (.invokevirtual 56, 3) := by decide +kernel
theorem dX2_takeMost_75 : decode cX2_takeMost 75 = .ok (.ifCond .ne 9, 3) := by decide +kernel
theorem dX2_takeMost_78 : decode cX2_takeMost 78 = .ok (.iinc 4 (-1), 3) := by decide +kernel
theorem dX2_takeMost_81 : decode cX2_takeMost 81 = .ok (.goto (-31), 3) := by decide +kernel
theorem dX2_takeMost_84 : decode cX2_takeMost 84 = .ok (.aload_n 0, 1) := by decide +kernel
theorem dX2_takeMost_85 : decode cX2_takeMost 85 = .ok (.aload_n 1, 1) := by decide +kernel
theorem dX2_takeMost_86 : decode cX2_takeMost 86 = .ok (.iload 4, 2) := by decide +kernel
theorem dX2_takeMost_88 : decode cX2_takeMost 88 = .ok (.invokevirtual 49, 3) := by decide +kernel
theorem dX2_takeMost_91 : decode cX2_takeMost 91 = .ok (.iinc 2 1, 3) := by decide +kernel
theorem dX2_takeMost_94 : decode cX2_takeMost 94 = .ok (.goto (-73), 3) := by decide +kernel
theorem dX2_takeMost_97 : decode cX2_takeMost 97 = .ok (.return_, 1) := by decide +kernel
theorem dX2_takeHanded_0 : decode cX2_takeHanded 0 = .ok (.aload_n 0, 1) := by decide +kernel
theorem dX2_takeHanded_1 : decode cX2_takeHanded 1 = .ok (.iconst 0, 1) := by decide +kernel
theorem dX2_takeHanded_2 : decode cX2_takeHanded 2 = .ok (.putfield 18, 3) := by decide +kernel
theorem dX2_takeHanded_5 : decode cX2_takeHanded 5 = .ok (.iconst 0, 1) := by decide +kernel
theorem dX2_takeHanded_6 : decode cX2_takeHanded 6 = .ok (.istore 4, 2) := by decide +kernel
theorem dX2_takeHanded_8 : decode cX2_takeHanded 8 = .ok (.iload 4, 2) := by decide +kernel
theorem dX2_takeHanded_10 : decode cX2_takeHanded 10 = .ok (.iload_n 3, 1) := by decide +kernel
theorem dX2_takeHanded_11 : decode cX2_takeHanded 11 = .ok (.if_icmp .ge 62, 3) := by decide +kernel
theorem dX2_takeHanded_14 : decode cX2_takeHanded 14 = .ok (.iload 4, 2) := by decide +kernel
theorem dX2_takeHanded_16 : decode cX2_takeHanded 16 = .ok (.bipush 30, 2) := by decide +kernel
theorem dX2_takeHanded_18 : decode cX2_takeHanded 18 = .ok (.if_icmp .ge 55, 3) := by decide +kernel
theorem dX2_takeHanded_21 : decode cX2_takeHanded 21 = .ok (.iload 4, 2) := by decide +kernel
theorem dX2_takeHanded_23 : decode cX2_takeHanded 23 = .ok (.aload_n 2, 1) := by decide +kernel
theorem dX2_takeHanded_24 : decode cX2_takeHanded 24 = .ok (.arraylength, 1) := by decide +kernel
theorem dX2_takeHanded_25 : decode cX2_takeHanded 25 = .ok (.if_icmp .ge 48, 3) := by decide +kernel
theorem dX2_takeHanded_28 : decode cX2_takeHanded 28 = .ok (.aload_n 1, 1) := by decide +kernel
theorem dX2_takeHanded_29 : decode cX2_takeHanded 29 = .ok (.aload_n 0, 1) := by decide +kernel
theorem dX2_takeHanded_30 : decode cX2_takeHanded 30 = .ok (.getfield 9, 3) := by decide +kernel
theorem dX2_takeHanded_33 : decode cX2_takeHanded 33 = .ok (.iload 4, 2) := by decide +kernel
theorem dX2_takeHanded_35 : decode cX2_takeHanded 35 = .ok (.iaload, 1) := by decide +kernel
theorem dX2_takeHanded_36 : decode cX2_takeHanded 36 = .ok (.aload_n 0, 1) := by decide +kernel
theorem dX2_takeHanded_37 : decode cX2_takeHanded 37 = .ok (.getfield 15, 3) := by decide +kernel
theorem dX2_takeHanded_40 : decode cX2_takeHanded 40 = .ok (.iload 4, 2) := by decide +kernel
theorem dX2_takeHanded_42 : decode cX2_takeHanded 42 = .ok (.iaload, 1) := by decide +kernel
theorem dX2_takeHanded_43 : decode cX2_takeHanded 43 = .ok (.aload_n 2, 1) := by decide +kernel
theorem dX2_takeHanded_44 : decode cX2_takeHanded 44 = .ok (.iload 4, 2) := by decide +kernel
theorem dX2_takeHanded_46 : decode cX2_takeHanded 46 = .ok (.iaload, 1) := by decide +kernel
theorem dX2_takeHanded_47 : decode cX2_takeHanded 47 = .ok (.invokevirtual 60, 3) := by decide +kernel
theorem dX2_takeHanded_50 : decode cX2_takeHanded 50 = .ok (.ifCond .ne 8, 3) := by decide +kernel
theorem dX2_takeHanded_53 : decode cX2_takeHanded 53 = .ok (.iload 4, 2) := by decide +kernel
theorem dX2_takeHanded_55 : decode cX2_takeHanded 55 = .ok (.iconst 1, 1) := by decide +kernel
theorem dX2_takeHanded_56 : decode cX2_takeHanded 56 = .ok (.iadd, 1) := by decide +kernel
theorem dX2_takeHanded_57 : decode cX2_takeHanded 57 = .ok (.ireturn, 1) := by decide +kernel
theorem dX2_takeHanded_58 : decode cX2_takeHanded 58 = .ok (.aload_n 0, 1) := by decide +kernel
theorem dX2_takeHanded_59 : decode cX2_takeHanded 59 = .ok (.aload_n 1, 1) := by decide +kernel
theorem dX2_takeHanded_60 : decode cX2_takeHanded 60 = .ok (.aload_n 2, 1) := by decide +kernel
theorem dX2_takeHanded_61 : decode cX2_takeHanded 61 = .ok (.iload 4, 2) := by decide +kernel
theorem dX2_takeHanded_63 : decode cX2_takeHanded 63 = .ok (.iaload, 1) := by decide +kernel
theorem dX2_takeHanded_64 : decode cX2_takeHanded 64 = .ok (.invokevirtual 49, 3) := by decide +kernel
theorem dX2_takeHanded_67 : decode cX2_takeHanded 67 = .ok (.iinc 4 1, 3) := by decide +kernel
theorem dX2_takeHanded_70 : decode cX2_takeHanded 70 = .ok (.goto (-62), 3) := by decide +kernel
theorem dX2_takeHanded_73 : decode cX2_takeHanded 73 = .ok (.aload_n 1, 1) := by decide +kernel
theorem dX2_takeHanded_74 : decode cX2_takeHanded 74 = .ok (.aload_n 0, 1) := by decide +kernel
theorem dX2_takeHanded_75 : decode cX2_takeHanded 75 = .ok (.getfield 9, 3) := by decide +kernel
theorem dX2_takeHanded_78 : decode cX2_takeHanded 78 = .ok (.aload_n 0, 1) := by decide +kernel
theorem dX2_takeHanded_79 : decode cX2_takeHanded 79 = .ok (.getfield 18, 3) := by decide +kernel
theorem dX2_takeHanded_82 : decode cX2_takeHanded 82 = .ok (.iaload, 1) := by decide +kernel
theorem dX2_takeHanded_83 : decode cX2_takeHanded 83 = .ok (.aload_n 0, 1) := by decide +kernel
theorem dX2_takeHanded_84 : decode cX2_takeHanded 84 = .ok (.getfield 15, 3) := by decide +kernel
theorem dX2_takeHanded_87 : decode cX2_takeHanded 87 = .ok (.aload_n 0, 1) := by decide +kernel
theorem dX2_takeHanded_88 : decode cX2_takeHanded 88 = .ok (.getfield 18, 3) := by decide +kernel
theorem dX2_takeHanded_91 : decode cX2_takeHanded 91 = .ok (.iaload, 1) := by decide +kernel
theorem dX2_takeHanded_92 : decode cX2_takeHanded 92 = .ok (.invokevirtual 28, 3) := by decide +kernel
theorem dX2_takeHanded_95 : decode cX2_takeHanded 95 = .ok (.ifCond .eq 7, 3) := by decide +kernel
theorem dX2_takeHanded_98 : decode cX2_takeHanded 98 = .ok (.iconst 0, 1) := by decide +kernel
theorem dX2_takeHanded_99 : decode cX2_takeHanded 99 = .ok (.goto 9, 3) := by decide +kernel
theorem dX2_takeHanded_102 : decode cX2_takeHanded 102 = .ok (.aload_n 0, 1) := by decide +kernel
theorem dX2_takeHanded_103 : decode cX2_takeHanded 103 = .ok (.getfield 18, 3) := by decide +kernel
theorem dX2_takeHanded_106 : decode cX2_takeHanded 106 = .ok (.iconst 1, 1) := by decide +kernel
theorem dX2_takeHanded_107 : decode cX2_takeHanded 107 = .ok (.iadd, 1) := by decide +kernel
theorem dX2_takeHanded_108 : decode cX2_takeHanded 108 = .ok (.ireturn, 1) := by decide +kernel
theorem dX2_pageWithLine_0 : decode cX2_pageWithLine 0 = .ok (.aload_n 0, 1) := by decide +kernel
theorem dX2_pageWithLine_1 : decode cX2_pageWithLine 1 = .ok (.aload_n 0, 1) := by decide +kernel
theorem dX2_pageWithLine_2 : decode cX2_pageWithLine 2 = .ok (.getfield 9, 3) := by decide +kernel
theorem dX2_pageWithLine_5 : decode cX2_pageWithLine 5 = .ok (.iload_n 1, 1) := by decide +kernel
theorem dX2_pageWithLine_6 : decode cX2_pageWithLine 6 = .ok (.invokevirtual 63, 3) := by decide +kernel
theorem dX2_pageWithLine_9 : decode cX2_pageWithLine 9 = .ok (.ireturn, 1) := by decide +kernel
theorem dX2_pageOfFigure_0 : decode cX2_pageOfFigure 0 = .ok (.aload_n 0, 1) := by decide +kernel
theorem dX2_pageOfFigure_1 : decode cX2_pageOfFigure 1 = .ok (.aload_n 0, 1) := by decide +kernel
theorem dX2_pageOfFigure_2 : decode cX2_pageOfFigure 2 = .ok (.getfield 15, 3) := by decide +kernel
theorem dX2_pageOfFigure_5 : decode cX2_pageOfFigure 5 = .ok (.iload_n 1, 1) := by decide +kernel
theorem dX2_pageOfFigure_6 : decode cX2_pageOfFigure 6 = .ok (.invokevirtual 63, 3) := by decide +kernel
theorem dX2_pageOfFigure_9 : decode cX2_pageOfFigure 9 = .ok (.ireturn, 1) := by decide +kernel
theorem dX2_firstAbove_0 : decode cX2_firstAbove 0 = .ok (.iconst 0, 1) := by decide +kernel
theorem dX2_firstAbove_1 : decode cX2_firstAbove 1 = .ok (.istore_n 3, 1) := by decide +kernel
theorem dX2_firstAbove_2 : decode cX2_firstAbove 2 = .ok (.iload_n 3, 1) := by decide +kernel
theorem dX2_firstAbove_3 : decode cX2_firstAbove 3 = .ok (.aload_n 0, 1) := by decide +kernel
theorem dX2_firstAbove_4 : decode cX2_firstAbove 4 = .ok (.getfield 18, 3) := by decide +kernel
theorem dX2_firstAbove_7 : decode cX2_firstAbove 7 = .ok (.if_icmp .ge 20, 3) := by decide +kernel
theorem dX2_firstAbove_10 : decode cX2_firstAbove 10 = .ok (.aload_n 1, 1) := by decide +kernel
theorem dX2_firstAbove_11 : decode cX2_firstAbove 11 = .ok (.iload_n 3, 1) := by decide +kernel
theorem dX2_firstAbove_12 : decode cX2_firstAbove 12 = .ok (.iconst 1, 1) := by decide +kernel
theorem dX2_firstAbove_13 : decode cX2_firstAbove 13 = .ok (.iadd, 1) := by decide +kernel
theorem dX2_firstAbove_14 : decode cX2_firstAbove 14 = .ok (.iaload, 1) := by decide +kernel
theorem dX2_firstAbove_15 : decode cX2_firstAbove 15 = .ok (.iload_n 2, 1) := by decide +kernel
theorem dX2_firstAbove_16 : decode cX2_firstAbove 16 = .ok (.if_icmp .le 5, 3) := by decide +kernel
theorem dX2_firstAbove_19 : decode cX2_firstAbove 19 = .ok (.iload_n 3, 1) := by decide +kernel
theorem dX2_firstAbove_20 : decode cX2_firstAbove 20 = .ok (.ireturn, 1) := by decide +kernel
theorem dX2_firstAbove_21 : decode cX2_firstAbove 21 = .ok (.iinc 3 1, 3) := by decide +kernel
theorem dX2_firstAbove_24 : decode cX2_firstAbove 24 = .ok (.goto (-22), 3) := by decide +kernel
theorem dX2_firstAbove_27 : decode cX2_firstAbove 27 = .ok (.iconst (-1), 1) := by decide +kernel
theorem dX2_firstAbove_28 : decode cX2_firstAbove 28 = .ok (.ireturn, 1) := by decide +kernel
theorem dX2_costOfFigure_0 : decode cX2_costOfFigure 0 = .ok (.aload_n 0, 1) := by decide +kernel
theorem dX2_costOfFigure_1 : decode cX2_costOfFigure 1 = .ok (.getfield 18, 3) := by decide +kernel
theorem dX2_costOfFigure_4 : decode cX2_costOfFigure 4 = .ok (.iconst (-1), 1) := by decide +kernel
theorem dX2_costOfFigure_5 : decode cX2_costOfFigure 5 = .ok (.if_icmp .ne 5, 3) := by decide +kernel
theorem dX2_costOfFigure_8 : decode cX2_costOfFigure 8 = .ok (.iconst (-1), 1) := by decide +kernel
theorem dX2_costOfFigure_9 : decode cX2_costOfFigure 9 = .ok (.ireturn, 1) := by decide +kernel
theorem dX2_costOfFigure_10 : decode cX2_costOfFigure 10 = .ok (.aload_n 1, 1) := by decide +kernel
theorem dX2_costOfFigure_11 : decode cX2_costOfFigure 11 = .ok (.getfield 67, 3) := by decide +kernel
theorem dX2_costOfFigure_14 : decode cX2_costOfFigure 14 = .ok (.iload_n 2, 1) := by decide +kernel
theorem dX2_costOfFigure_15 : decode cX2_costOfFigure 15 = .ok (.iaload, 1) := by decide +kernel
theorem dX2_costOfFigure_16 : decode cX2_costOfFigure 16 = .ok (.aload_n 0, 1) := by decide +kernel
theorem dX2_costOfFigure_17 : decode cX2_costOfFigure 17 = .ok (.iload_n 2, 1) := by decide +kernel
theorem dX2_costOfFigure_18 : decode cX2_costOfFigure 18 = .ok (.invokevirtual 70, 3) := by decide +kernel
theorem dX2_costOfFigure_21 : decode cX2_costOfFigure 21 = .ok (.aload_n 0, 1) := by decide +kernel
theorem dX2_costOfFigure_22 : decode cX2_costOfFigure 22 = .ok (.aload_n 1, 1) := by decide +kernel
theorem dX2_costOfFigure_23 : decode cX2_costOfFigure 23 = .ok (.getfield 74, 3) := by decide +kernel
theorem dX2_costOfFigure_26 : decode cX2_costOfFigure 26 = .ok (.iload_n 2, 1) := by decide +kernel
theorem dX2_costOfFigure_27 : decode cX2_costOfFigure 27 = .ok (.iaload, 1) := by decide +kernel
theorem dX2_costOfFigure_28 : decode cX2_costOfFigure 28 = .ok (.invokevirtual 77, 3) := by decide +kernel
theorem dX2_costOfFigure_31 : decode cX2_costOfFigure 31 = .ok (.isub, 1) := by decide +kernel
theorem dX2_costOfFigure_32 : decode cX2_costOfFigure 32 = .ok (.invokestatic 80, 3) := by decide +kernel
theorem dX2_costOfFigure_35 : decode cX2_costOfFigure 35 = .ok (.imul, 1) := by decide +kernel
theorem dX2_costOfFigure_36 : decode cX2_costOfFigure 36 = .ok (.ireturn, 1) := by decide +kernel
theorem dX2_cost_0 : decode cX2_cost 0 = .ok (.aload_n 0, 1) := by decide +kernel
theorem dX2_cost_1 : decode cX2_cost 1 = .ok (.getfield 18, 3) := by decide +kernel
theorem dX2_cost_4 : decode cX2_cost 4 = .ok (.iconst (-1), 1) := by decide +kernel
theorem dX2_cost_5 : decode cX2_cost 5 = .ok (.if_icmp .ne 5, 3) := by decide +kernel
theorem dX2_cost_8 : decode cX2_cost 8 = .ok (.iconst (-1), 1) := by decide +kernel
theorem dX2_cost_9 : decode cX2_cost 9 = .ok (.ireturn, 1) := by decide +kernel
theorem dX2_cost_10 : decode cX2_cost 10 = .ok (.iconst 0, 1) := by decide +kernel
theorem dX2_cost_11 : decode cX2_cost 11 = .ok (.istore_n 2, 1) := by decide +kernel
theorem dX2_cost_12 : decode cX2_cost 12 = .ok (.iconst 0, 1) := by decide +kernel
theorem dX2_cost_13 : decode cX2_cost 13 = .ok (.istore_n 3, 1) := by decide +kernel
theorem dX2_cost_14 : decode cX2_cost 14 = .ok (.iload_n 3, 1) := by decide +kernel
theorem dX2_cost_15 : decode cX2_cost 15 = .ok (.aload_n 1, 1) := by decide +kernel
theorem dX2_cost_16 : decode cX2_cost 16 = .ok (.getfield 85, 3) := by decide +kernel
theorem dX2_cost_19 : decode cX2_cost 19 = .ok (.if_icmp .ge 18, 3) := by decide +kernel
theorem dX2_cost_22 : decode cX2_cost 22 = .ok (.iload_n 2, 1) := by decide +kernel
theorem dX2_cost_23 : decode cX2_cost 23 = .ok (.aload_n 0, 1) := by decide +kernel
theorem dX2_cost_24 : decode cX2_cost 24 = .ok (.aload_n 1, 1) := by decide +kernel
theorem dX2_cost_25 : decode cX2_cost 25 = .ok (.iload_n 3, 1) := by decide +kernel
theorem dX2_cost_26 : decode cX2_cost 26 = .ok (.invokevirtual 87, 3) := by decide +kernel
theorem dX2_cost_29 : decode cX2_cost 29 = .ok (.iadd, 1) := by decide +kernel
theorem dX2_cost_30 : decode cX2_cost 30 = .ok (.istore_n 2, 1) := by decide +kernel
theorem dX2_cost_31 : decode cX2_cost 31 = .ok (.iinc 3 1, 3) := by decide +kernel
theorem dX2_cost_34 : decode cX2_cost 34 = .ok (.goto (-20), 3) := by decide +kernel
theorem dX2_cost_37 : decode cX2_cost 37 = .ok (.iload_n 2, 1) := by decide +kernel
theorem dX2_cost_38 : decode cX2_cost 38 = .ok (.ireturn, 1) := by decide +kernel
theorem dX2_heavy_0 : decode cX2_heavy 0 = .ok (.iconst (-1), 1) := by decide +kernel
theorem dX2_heavy_1 : decode cX2_heavy 1 = .ok (.istore_n 2, 1) := by decide +kernel
theorem dX2_heavy_2 : decode cX2_heavy 2 = .ok (.iconst 0, 1) := by decide +kernel
theorem dX2_heavy_3 : decode cX2_heavy 3 = .ok (.istore_n 3, 1) := by decide +kernel
theorem dX2_heavy_4 : decode cX2_heavy 4 = .ok (.iconst 0, 1) := by decide +kernel
theorem dX2_heavy_5 : decode cX2_heavy 5 = .ok (.istore 4, 2) := by decide +kernel
theorem dX2_heavy_7 : decode cX2_heavy 7 = .ok (.iload 4, 2) := by decide +kernel
theorem dX2_heavy_9 : decode cX2_heavy 9 = .ok (.aload_n 1, 1) := by decide +kernel
theorem dX2_heavy_10 : decode cX2_heavy 10 = .ok (.getfield 85, 3) := by decide +kernel
theorem dX2_heavy_13 : decode cX2_heavy 13 = .ok (.if_icmp .ge 30, 3) := by decide +kernel
theorem dX2_heavy_16 : decode cX2_heavy 16 = .ok (.aload_n 0, 1) := by decide +kernel
theorem dX2_heavy_17 : decode cX2_heavy 17 = .ok (.aload_n 1, 1) := by decide +kernel
theorem dX2_heavy_18 : decode cX2_heavy 18 = .ok (.iload 4, 2) := by decide +kernel
theorem dX2_heavy_20 : decode cX2_heavy 20 = .ok (.invokevirtual 87, 3) := by decide +kernel
theorem dX2_heavy_23 : decode cX2_heavy 23 = .ok (.istore 5, 2) := by decide +kernel
theorem dX2_heavy_25 : decode cX2_heavy 25 = .ok (.iload 5, 2) := by decide +kernel
theorem dX2_heavy_27 : decode cX2_heavy 27 = .ok (.iload_n 3, 1) := by decide +kernel
theorem dX2_heavy_28 : decode cX2_heavy 28 = .ok (.if_icmp .le 9, 3) := by decide +kernel
theorem dX2_heavy_31 : decode cX2_heavy 31 = .ok (.iload 5, 2) := by decide +kernel
theorem dX2_heavy_33 : decode cX2_heavy 33 = .ok (.istore_n 3, 1) := by decide +kernel
theorem dX2_heavy_34 : decode cX2_heavy 34 = .ok (.iload 4, 2) := by decide +kernel
theorem dX2_heavy_36 : decode cX2_heavy 36 = .ok (.istore_n 2, 1) := by decide +kernel
theorem dX2_heavy_37 : decode cX2_heavy 37 = .ok (.iinc 4 1, 3) := by decide +kernel
theorem dX2_heavy_40 : decode cX2_heavy 40 = .ok (.goto (-33), 3) := by decide +kernel
theorem dX2_heavy_43 : decode cX2_heavy 43 = .ok (.iload_n 2, 1) := by decide +kernel
theorem dX2_heavy_44 : decode cX2_heavy 44 = .ok (.ireturn, 1) := by decide +kernel
theorem dX3_init_0 : decode cX3_init 0 = .ok (.aload_n 0, 1) := by decide +kernel
theorem dX3_init_1 : decode cX3_init 1 = .ok (.invokespecial 5, 3) := by decide +kernel
theorem dX3_init_4 : decode cX3_init 4 = .ok (.aload_n 0, 1) := by decide +kernel
theorem dX3_init_5 : decode cX3_init 5 = .ok (.new 11, 3) := by decide +kernel
theorem dX3_init_8 : decode cX3_init 8 = .ok (.dup, 1) := by decide +kernel
theorem dX3_init_9 : decode cX3_init 9 = .ok (.invokespecial 13, 3) := by decide +kernel
theorem dX3_init_12 : decode cX3_init 12 = .ok (.putfield 14, 3) := by decide +kernel
theorem dX3_init_15 : decode cX3_init 15 = .ok (.aload_n 0, 1) := by decide +kernel
theorem dX3_init_16 : decode cX3_init 16 = .ok (.sipush 1331, 3) := by decide +kernel
theorem dX3_init_19 : decode cX3_init 19 = .ok (.newarray .int, 2) := by decide +kernel
theorem dX3_init_21 : decode cX3_init 21 = .ok (.putfield 18, 3) := by decide +kernel
theorem dX3_init_24 : decode cX3_init 24 = .ok (.aload_n 0, 1) := by decide +kernel
theorem dX3_init_25 : decode cX3_init 25 = .ok (.sipush 1331, 3) := by decide +kernel
theorem dX3_init_28 : decode cX3_init 28 = .ok (.newarray .int, 2) := by decide +kernel
theorem dX3_init_30 : decode cX3_init 30 = .ok (.putfield 22, 3) := by decide +kernel
theorem dX3_init_33 : decode cX3_init 33 = .ok (.aload_n 0, 1) := by decide +kernel
theorem dX3_init_34 : decode cX3_init 34 = .ok (.sipush 1331, 3) := by decide +kernel
theorem dX3_init_37 : decode cX3_init 37 = .ok (.newarray .int, 2) := by decide +kernel
theorem dX3_init_39 : decode cX3_init 39 = .ok (.putfield 25, 3) := by decide +kernel
theorem dX3_init_42 : decode cX3_init 42 = .ok (.aload_n 0, 1) := by decide +kernel
theorem dX3_init_43 : decode cX3_init 43 = .ok (.sipush 1331, 3) := by decide +kernel
theorem dX3_init_46 : decode cX3_init 46 = .ok (.newarray .long, 2) := by decide +kernel
theorem dX3_init_48 : decode cX3_init 48 = .ok (.putfield 28, 3) := by decide +kernel
theorem dX3_init_51 : decode cX3_init 51 = .ok (.return_, 1) := by decide +kernel
theorem dX3_solve_0 : decode cX3_solve 0 = .ok (.aload_n 0, 1) := by decide +kernel
theorem dX3_solve_1 : decode cX3_solve 1 = .ok (.getfield 14, 3) := by decide +kernel
theorem dX3_solve_4 : decode cX3_solve 4 = .ok (.aload_n 1, 1) := by decide +kernel
theorem dX3_solve_5 : decode cX3_solve 5 = .ok (.invokevirtual 32, 3) := by decide +kernel
theorem dX3_solve_8 : decode cX3_solve 8 = .ok (.aload_n 0, 1) := by decide +kernel
theorem dX3_solve_9 : decode cX3_solve 9 = .ok (.getfield 18, 3) := by decide +kernel
theorem dX3_solve_12 : decode cX3_solve 12 = .ok (.iconst (-1), 1) := by decide +kernel
theorem dX3_solve_13 : decode cX3_solve 13 = .ok (.invokestatic 36, 3) := by decide +kernel
theorem dX3_solve_16 : decode cX3_solve 16 = .ok (.aload_n 0, 1) := by decide +kernel
theorem dX3_solve_17 : decode cX3_solve 17 = .ok (.iconst 0, 1) := by decide +kernel
theorem dX3_solve_18 : decode cX3_solve 18 = .ok (.putfield 42, 3) := by decide +kernel
theorem dX3_solve_21 : decode cX3_solve 21 = .ok (.aload_n 0, 1) := by decide +kernel
theorem dX3_solve_22 : decode cX3_solve 22 = .ok (.getfield 14, 3) := by decide +kernel
theorem dX3_solve_25 : decode cX3_solve 25 = .ok (.getfield 46, 3) := by decide +kernel
theorem dX3_solve_28 : decode cX3_solve 28 = .ok (.iconst (-1), 1) := by decide +kernel
theorem dX3_solve_29 : decode cX3_solve 29 = .ok (.if_icmp .ne 11, 3) := by decide +kernel
theorem dX3_solve_32 : decode cX3_solve 32 = .ok (.aload_n 0, 1) := by decide +kernel
theorem dX3_solve_33 : decode cX3_solve 33 = .ok (.invokevirtual 49, 3) := by decide +kernel
theorem dX3_solve_36 : decode cX3_solve 36 = .ok (.aload_n 0, 1) := by decide +kernel
theorem dX3_solve_37 : decode cX3_solve 37 = .ok (.invokevirtual 52, 3) := by decide +kernel
theorem dX3_solve_40 : decode cX3_solve 40 = .ok (.return_, 1) := by decide +kernel
theorem dX3_reachPlaces_0 : decode cX3_reachPlaces 0 = .ok (.aload_n 0, 1) := by decide +kernel
theorem dX3_reachPlaces_1 : decode cX3_reachPlaces 1 = .ok (.getfield 18, 3) := by decide +kernel
theorem dX3_reachPlaces_4 : decode cX3_reachPlaces 4 = .ok (.iconst 0, 1) := by decide +kernel
theorem dX3_reachPlaces_5 : decode cX3_reachPlaces 5 = .ok (.iconst 0, 1) := by decide +kernel
theorem dX3_reachPlaces_6 : decode cX3_reachPlaces 6 = .ok (.iastore, 1) := by decide +kernel
theorem dX3_reachPlaces_7 : decode cX3_reachPlaces 7 = .ok (.iconst 0, 1) := by decide +kernel
theorem dX3_reachPlaces_8 : decode cX3_reachPlaces 8 = .ok (.istore_n 1, 1) := by decide +kernel
theorem dX3_reachPlaces_9 : decode cX3_reachPlaces 9 = .ok (.iload_n 1, 1) := by decide +kernel
theorem dX3_reachPlaces_10 : decode cX3_reachPlaces 10 = .ok (.aload_n 0, 1) := by decide +kernel
theorem dX3_reachPlaces_11 : decode cX3_reachPlaces 11 = .ok (.getfield 14, 3) := by decide +kernel
theorem dX3_reachPlaces_14 : decode cX3_reachPlaces 14 = .ok (.getfield 55, 3) := by decide +kernel
theorem dX3_reachPlaces_17 : decode cX3_reachPlaces 17 = .ok (.if_icmp .gt 76, 3) := by decide +kernel
theorem dX3_reachPlaces_20 : decode cX3_reachPlaces 20 = .ok (.iconst 0, 1) := by decide +kernel
theorem dX3_reachPlaces_21 : decode cX3_reachPlaces 21 = .ok (.istore_n 2, 1) := by decide +kernel
theorem dX3_reachPlaces_22 : decode cX3_reachPlaces 22 = .ok (.iload_n 2, 1) := by decide +kernel
theorem dX3_reachPlaces_23 : decode cX3_reachPlaces 23 = .ok (.aload_n 0, 1) := by decide +kernel
theorem dX3_reachPlaces_24 : decode cX3_reachPlaces 24 = .ok (.getfield 14, 3) := by decide +kernel
theorem dX3_reachPlaces_27 : decode cX3_reachPlaces 27 = .ok (.getfield 58, 3) := by decide +kernel
theorem dX3_reachPlaces_30 : decode cX3_reachPlaces 30 = .ok (.if_icmp .gt 57, 3) := by decide +kernel
theorem dX3_reachPlaces_33 : decode cX3_reachPlaces 33 = .ok (.iload_n 1, 1) := by decide +kernel
theorem dX3_reachPlaces_34 : decode cX3_reachPlaces 34 = .ok (.bipush 11, 2) := by decide +kernel
theorem dX3_reachPlaces_36 : decode cX3_reachPlaces 36 = .ok (.imul, 1) := by decide +kernel
theorem dX3_reachPlaces_37 : decode cX3_reachPlaces 37 = .ok (.iload_n 2, 1) := by decide +kernel
theorem dX3_reachPlaces_38 : decode cX3_reachPlaces 38 = .ok (.iadd, 1) := by decide +kernel
theorem dX3_reachPlaces_39 : decode cX3_reachPlaces 39 = .ok (.istore_n 3, 1) := by decide +kernel
theorem dX3_reachPlaces_40 : decode cX3_reachPlaces 40 = .ok (.aload_n 0, 1) := by decide +kernel
theorem dX3_reachPlaces_41 : decode cX3_reachPlaces 41 = .ok (.getfield 18, 3) := by decide +kernel
theorem dX3_reachPlaces_44 : decode cX3_reachPlaces 44 = .ok (.iload_n 3, 1) := by decide +kernel
theorem dX3_reachPlaces_45 : decode cX3_reachPlaces 45 = .ok (.iaload, 1) := by decide +kernel
theorem dX3_reachPlaces_46 : decode cX3_reachPlaces 46 = .ok (.iconst (-1), 1) := by decide +kernel
theorem dX3_reachPlaces_47 : decode cX3_reachPlaces 47 = .ok (.if_icmp .eq 34, 3) := by decide +kernel
theorem dX3_reachPlaces_50 : decode cX3_reachPlaces 50 = .ok (.aload_n 0, 1) := by decide +kernel
theorem dX3_reachPlaces_51 : decode cX3_reachPlaces 51 = .ok (.dup, 1) := by decide +kernel
theorem dX3_reachPlaces_52 : decode cX3_reachPlaces 52 = .ok (.getfield 42, 3) := by decide +kernel
theorem dX3_reachPlaces_55 : decode cX3_reachPlaces 55 = .ok (.iconst 1, 1) := by decide +kernel
theorem dX3_reachPlaces_56 : decode cX3_reachPlaces 56 = .ok (.iadd, 1) := by decide +kernel
theorem dX3_reachPlaces_57 : decode cX3_reachPlaces 57 = .ok (.putfield 42, 3) := by decide +kernel
theorem dX3_reachPlaces_60 : decode cX3_reachPlaces 60 = .ok (.aload_n 0, 1) := by decide +kernel
theorem dX3_reachPlaces_61 : decode cX3_reachPlaces 61 = .ok (.getfield 22, 3) := by decide +kernel
theorem dX3_reachPlaces_64 : decode cX3_reachPlaces 64 = .ok (.iload_n 3, 1) := by decide +kernel
theorem dX3_reachPlaces_65 : decode cX3_reachPlaces 65 = .ok (.aload_n 0, 1) := by decide +kernel
theorem dX3_reachPlaces_66 : decode cX3_reachPlaces 66 = .ok (.getfield 14, 3) := by decide +kernel
theorem dX3_reachPlaces_69 : decode cX3_reachPlaces 69 = .ok (.iload_n 1, 1) := by decide +kernel
theorem dX3_reachPlaces_70 : decode cX3_reachPlaces 70 = .ok (.iload_n 2, 1) := by decide +kernel
theorem dX3_reachPlaces_71 : decode cX3_reachPlaces 71 = .ok (.invokevirtual 61, 3) := by decide +kernel
theorem dX3_reachPlaces_74 : decode cX3_reachPlaces 74 = .ok (.iastore, 1) := by decide +kernel
theorem dX3_reachPlaces_75 : decode cX3_reachPlaces 75 = .ok (.aload_n 0, 1) := by decide +kernel
theorem dX3_reachPlaces_76 : decode cX3_reachPlaces 76 = .ok (.iload_n 1, 1) := by decide +kernel
theorem dX3_reachPlaces_77 : decode cX3_reachPlaces 77 = .ok (.iload_n 2, 1) := by decide +kernel
theorem dX3_reachPlaces_78 : decode cX3_reachPlaces 78 = .ok (.invokevirtual 65, 3) := by decide +kernel
theorem dX3_reachPlaces_81 : decode cX3_reachPlaces 81 = .ok (.iinc 2 1, 3) := by decide +kernel
theorem dX3_reachPlaces_84 : decode cX3_reachPlaces 84 = .ok (.goto (-62), 3) := by decide +kernel
theorem dX3_reachPlaces_87 : decode cX3_reachPlaces 87 = .ok (.iinc 1 1, 3) := by decide +kernel
theorem dX3_reachPlaces_90 : decode cX3_reachPlaces 90 = .ok (.goto (-81), 3) := by decide +kernel
theorem dX3_reachPlaces_93 : decode cX3_reachPlaces 93 = .ok (.return_, 1) := by decide +kernel
theorem dX3_reachFrom_0 : decode cX3_reachFrom 0 = .ok (.iconst 0, 1) := by decide +kernel
theorem dX3_reachFrom_1 : decode cX3_reachFrom 1 = .ok (.istore_n 3, 1) := by decide +kernel
theorem dX3_reachFrom_2 : decode cX3_reachFrom 2 = .ok (.iload_n 3, 1) := by decide +kernel
theorem dX3_reachFrom_3 : decode cX3_reachFrom 3 = .ok (.aload_n 0, 1) := by decide +kernel
theorem dX3_reachFrom_4 : decode cX3_reachFrom 4 = .ok (.getfield 14, 3) := by decide +kernel
theorem dX3_reachFrom_7 : decode cX3_reachFrom 7 = .ok (.getfield 69, 3) := by decide +kernel
theorem dX3_reachFrom_10 : decode cX3_reachFrom 10 = .ok (.iload_n 2, 1) := by decide +kernel
theorem dX3_reachFrom_11 : decode cX3_reachFrom 11 = .ok (.iaload, 1) := by decide +kernel
theorem dX3_reachFrom_12 : decode cX3_reachFrom 12 = .ok (.if_icmp .gt 35, 3) := by decide +kernel
theorem dX3_reachFrom_15 : decode cX3_reachFrom 15 = .ok (.aload_n 0, 1) := by decide +kernel
theorem dX3_reachFrom_16 : decode cX3_reachFrom 16 = .ok (.getfield 14, 3) := by decide +kernel
theorem dX3_reachFrom_19 : decode cX3_reachFrom 19 = .ok (.iload_n 1, 1) := by decide +kernel
theorem dX3_reachFrom_20 : decode cX3_reachFrom 20 = .ok (.iload_n 2, 1) := by decide +kernel
theorem dX3_reachFrom_21 : decode cX3_reachFrom 21 = .ok (.iload_n 3, 1) := by decide +kernel
theorem dX3_reachFrom_22 : decode cX3_reachFrom 22 = .ok (.invokevirtual 72, 3) := by decide +kernel
theorem dX3_reachFrom_25 : decode cX3_reachFrom 25 = .ok (.ifCond .eq 16, 3) := by decide +kernel
theorem dX3_reachFrom_28 : decode cX3_reachFrom 28 = .ok (.aload_n 0, 1) := by decide +kernel
theorem dX3_reachFrom_29 : decode cX3_reachFrom 29 = .ok (.getfield 18, 3) := by decide +kernel
theorem dX3_reachFrom_32 : decode cX3_reachFrom 32 = .ok (.aload_n 0, 1) := by decide +kernel
theorem dX3_reachFrom_33 : decode cX3_reachFrom 33 = .ok (.iload_n 1, 1) := by decide +kernel
theorem dX3_reachFrom_34 : decode cX3_reachFrom 34 = .ok (.iload_n 2, 1) := by decide +kernel
theorem dX3_reachFrom_35 : decode cX3_reachFrom 35 = .ok (.iload_n 3, 1) := by decide +kernel
theorem dX3_reachFrom_36 : decode cX3_reachFrom 36 = .ok (.invokevirtual 76, 3) := by decide +kernel
theorem dX3_reachFrom_39 : decode cX3_reachFrom 39 = .ok (.iconst 0, 1) := by decide +kernel
theorem dX3_reachFrom_40 : decode cX3_reachFrom 40 = .ok (.iastore, 1) := by decide +kernel
theorem dX3_reachFrom_41 : decode cX3_reachFrom 41 = .ok (.iinc 3 1, 3) := by decide +kernel
theorem dX3_reachFrom_44 : decode cX3_reachFrom 44 = .ok (.goto (-42), 3) := by decide +kernel
theorem dX3_reachFrom_47 : decode cX3_reachFrom 47 = .ok (.return_, 1) := by decide +kernel
theorem dX3_placeBehind_0 : decode cX3_placeBehind 0 = .ok (.aload_n 0, 1) := by decide +kernel
theorem dX3_placeBehind_1 : decode cX3_placeBehind 1 = .ok (.getfield 14, 3) := by decide +kernel
theorem dX3_placeBehind_4 : decode cX3_placeBehind 4 = .ok (.iload_n 1, 1) := by decide +kernel
theorem dX3_placeBehind_5 : decode cX3_placeBehind 5 = .ok (.iload_n 2, 1) := by decide +kernel
theorem dX3_placeBehind_6 : decode cX3_placeBehind 6 = .ok (.iload_n 3, 1) := by decide +kernel
theorem dX3_placeBehind_7 : decode cX3_placeBehind 7 = .ok (.invokevirtual 80, 3) := by decide +kernel
theorem dX3_placeBehind_10 : decode cX3_placeBehind 10 = .ok (.bipush 11, 2) := by decide +kernel
theorem dX3_placeBehind_12 : decode cX3_placeBehind 12 = .ok (.imul, 1) := by decide +kernel
theorem dX3_placeBehind_13 : decode cX3_placeBehind 13 = .ok (.iload_n 2, 1) := by decide +kernel
theorem dX3_placeBehind_14 : decode cX3_placeBehind 14 = .ok (.iadd, 1) := by decide +kernel
theorem dX3_placeBehind_15 : decode cX3_placeBehind 15 = .ok (.iload_n 3, 1) := by decide +kernel
theorem dX3_placeBehind_16 : decode cX3_placeBehind 16 = .ok (.iadd, 1) := by decide +kernel
theorem dX3_placeBehind_17 : decode cX3_placeBehind 17 = .ok (.ireturn, 1) := by decide +kernel
theorem dX3_valuePlaces_0 : decode cX3_valuePlaces 0 = .ok (.aload_n 0, 1) := by decide +kernel
theorem dX3_valuePlaces_1 : decode cX3_valuePlaces 1 = .ok (.getfield 14, 3) := by decide +kernel
theorem dX3_valuePlaces_4 : decode cX3_valuePlaces 4 = .ok (.getfield 55, 3) := by decide +kernel
theorem dX3_valuePlaces_7 : decode cX3_valuePlaces 7 = .ok (.istore_n 1, 1) := by decide +kernel
theorem dX3_valuePlaces_8 : decode cX3_valuePlaces 8 = .ok (.iload_n 1, 1) := by decide +kernel
theorem dX3_valuePlaces_9 : decode cX3_valuePlaces 9 = .ok (.ifCond .lt 48, 3) := by decide +kernel
theorem dX3_valuePlaces_12 : decode cX3_valuePlaces 12 = .ok (.aload_n 0, 1) := by decide +kernel
theorem dX3_valuePlaces_13 : decode cX3_valuePlaces 13 = .ok (.getfield 14, 3) := by decide +kernel
theorem dX3_valuePlaces_16 : decode cX3_valuePlaces 16 = .ok (.getfield 58, 3) := by decide +kernel
theorem dX3_valuePlaces_19 : decode cX3_valuePlaces 19 = .ok (.istore_n 2, 1) := by decide +kernel
theorem dX3_valuePlaces_20 : decode cX3_valuePlaces 20 = .ok (.iload_n 2, 1) := by decide +kernel
theorem dX3_valuePlaces_21 : decode cX3_valuePlaces 21 = .ok (.ifCond .lt 30, 3) := by decide +kernel
theorem dX3_valuePlaces_24 : decode cX3_valuePlaces 24 = .ok (.aload_n 0, 1) := by decide +kernel
theorem dX3_valuePlaces_25 : decode cX3_valuePlaces 25 = .ok (.getfield 18, 3) := by decide +kernel
theorem dX3_valuePlaces_28 : decode cX3_valuePlaces 28 = .ok (.iload_n 1, 1) := by decide +kernel
theorem dX3_valuePlaces_29 : decode cX3_valuePlaces 29 = .ok (.bipush 11, 2) := by decide +kernel
theorem dX3_valuePlaces_31 : decode cX3_valuePlaces 31 = .ok (.imul, 1) := by decide +kernel
theorem dX3_valuePlaces_32 : decode cX3_valuePlaces 32 = .ok (.iload_n 2, 1) := by decide +kernel
theorem dX3_valuePlaces_33 : decode cX3_valuePlaces 33 = .ok (.iadd, 1) := by decide +kernel
theorem dX3_valuePlaces_34 : decode cX3_valuePlaces 34 = .ok (.iaload, 1) := by decide +kernel
theorem dX3_valuePlaces_35 : decode cX3_valuePlaces 35 = .ok (.iconst (-1), 1) := by decide +kernel
theorem dX3_valuePlaces_36 : decode cX3_valuePlaces 36 = .ok (.if_icmp .eq 9, 3) := by decide +kernel
theorem dX3_valuePlaces_39 : decode cX3_valuePlaces 39 = .ok (.aload_n 0, 1) := by decide +kernel
theorem dX3_valuePlaces_40 : decode cX3_valuePlaces 40 = .ok (.iload_n 1, 1) := by decide +kernel
theorem dX3_valuePlaces_41 : decode cX3_valuePlaces 41 = .ok (.iload_n 2, 1) := by decide +kernel
theorem dX3_valuePlaces_42 : decode cX3_valuePlaces 42 = .ok (.invokevirtual 83, 3) := by decide +kernel
theorem dX3_valuePlaces_45 : decode cX3_valuePlaces 45 = .ok (.iinc 2 (-1), 3) := by decide +kernel
theorem dX3_valuePlaces_48 : decode cX3_valuePlaces 48 = .ok (.goto (-28), 3) := by decide +kernel
theorem dX3_valuePlaces_51 : decode cX3_valuePlaces 51 = .ok (.iinc 1 (-1), 3) := by decide +kernel
theorem dX3_valuePlaces_54 : decode cX3_valuePlaces 54 = .ok (.goto (-46), 3) := by decide +kernel
theorem dX3_valuePlaces_57 : decode cX3_valuePlaces 57 = .ok (.return_, 1) := by decide +kernel
theorem dX3_valuePlace_0 : decode cX3_valuePlace 0 = .ok (.aload_n 0, 1) := by decide +kernel
theorem dX3_valuePlace_1 : decode cX3_valuePlace 1 = .ok (.getfield 14, 3) := by decide +kernel
theorem dX3_valuePlace_4 : decode cX3_valuePlace 4 = .ok (.iload_n 1, 1) := by decide +kernel
theorem dX3_valuePlace_5 : decode cX3_valuePlace 5 = .ok (.iload_n 2, 1) := by decide +kernel
theorem dX3_valuePlace_6 : decode cX3_valuePlace 6 = .ok (.invokevirtual 86, 3) := by decide +kernel
theorem dX3_valuePlace_9 : decode cX3_valuePlace 9 = .ok (.istore_n 3, 1) := by decide +kernel
theorem dX3_valuePlace_10 : decode cX3_valuePlace 10 = .ok (.iload_n 3, 1) := by decide +kernel
theorem dX3_valuePlace_11 : decode cX3_valuePlace 11 = .ok (.ifCond .eq 7, 3) := by decide +kernel
theorem dX3_valuePlace_14 : decode cX3_valuePlace 14 = .ok (.iconst 0, 1) := by decide +kernel
theorem dX3_valuePlace_15 : decode cX3_valuePlace 15 = .ok (.goto 5, 3) := by decide +kernel
theorem dX3_valuePlace_18 : decode cX3_valuePlace 18 = .ok (.ldc 92, 2) := by decide +kernel
theorem dX3_valuePlace_20 : decode cX3_valuePlace 20 = .ok (.istore 4, 2) := by decide +kernel
theorem dX3_valuePlace_22 : decode cX3_valuePlace 22 = .ok (.iload_n 3, 1) := by decide +kernel
theorem dX3_valuePlace_23 : decode cX3_valuePlace 23 = .ok (.ifCond .eq 7, 3) := by decide +kernel
theorem dX3_valuePlace_26 : decode cX3_valuePlace 26 = .ok (.lconst 1, 1) := by decide +kernel
theorem dX3_valuePlace_27 : decode cX3_valuePlace 27 = .ok (.goto 4, 3) := by decide +kernel
theorem dX3_valuePlace_30 : decode cX3_valuePlace 30 = .ok (.lconst 0, 1) := by decide +kernel
theorem dX3_valuePlace_31 : decode cX3_valuePlace 31 = .ok (.lstore 5, 2) := by decide +kernel
theorem dX3_valuePlace_33 : decode cX3_valuePlace 33 = .ok (.iconst 0, 1) := by decide +kernel
theorem dX3_valuePlace_34 : decode cX3_valuePlace 34 = .ok (.istore 7, 2) := by decide +kernel
theorem dX3_valuePlace_36 : decode cX3_valuePlace 36 = .ok (.iconst 0, 1) := by decide +kernel
theorem dX3_valuePlace_37 : decode cX3_valuePlace 37 = .ok (.istore 8, 2) := by decide +kernel
theorem dX3_valuePlace_39 : decode cX3_valuePlace 39 = .ok (.iload 8, 2) := by decide +kernel
theorem dX3_valuePlace_41 : decode cX3_valuePlace 41 = .ok (.aload_n 0, 1) := by decide +kernel
theorem dX3_valuePlace_42 : decode cX3_valuePlace 42 = .ok (.getfield 14, 3) := by decide +kernel
theorem dX3_valuePlace_45 : decode cX3_valuePlace 45 = .ok (.getfield 69, 3) := by decide +kernel
theorem dX3_valuePlace_48 : decode cX3_valuePlace 48 = .ok (.iload_n 2, 1) := by decide +kernel
theorem dX3_valuePlace_49 : decode cX3_valuePlace 49 = .ok (.iaload, 1) := by decide +kernel
theorem dX3_valuePlace_50 : decode cX3_valuePlace 50 = .ok (.if_icmp .gt 95, 3) := by decide +kernel
theorem dX3_valuePlace_53 : decode cX3_valuePlace 53 = .ok (.aload_n 0, 1) := by decide +kernel
theorem dX3_valuePlace_54 : decode cX3_valuePlace 54 = .ok (.getfield 14, 3) := by decide +kernel
theorem dX3_valuePlace_57 : decode cX3_valuePlace 57 = .ok (.iload_n 1, 1) := by decide +kernel
theorem dX3_valuePlace_58 : decode cX3_valuePlace 58 = .ok (.iload_n 2, 1) := by decide +kernel
theorem dX3_valuePlace_59 : decode cX3_valuePlace 59 = .ok (.iload 8, 2) := by decide +kernel
theorem dX3_valuePlace_61 : decode cX3_valuePlace 61 = .ok (.invokevirtual 72, 3) := by decide +kernel
theorem dX3_valuePlace_64 : decode cX3_valuePlace 64 = .ok (.ifCond .ne 6, 3) := by decide +kernel
theorem dX3_valuePlace_67 : decode cX3_valuePlace 67 = .ok (.goto 72, 3) := by decide +kernel
theorem dX3_valuePlace_70 : decode cX3_valuePlace 70 = .ok (.aload_n 0, 1) := by decide +kernel
theorem dX3_valuePlace_71 : decode cX3_valuePlace 71 = .ok (.iload_n 1, 1) := by decide +kernel
theorem dX3_valuePlace_72 : decode cX3_valuePlace 72 = .ok (.iload_n 2, 1) := by decide +kernel
theorem dX3_valuePlace_73 : decode cX3_valuePlace 73 = .ok (.iload 8, 2) := by decide +kernel
theorem dX3_valuePlace_75 : decode cX3_valuePlace 75 = .ok (.invokevirtual 76, 3) := by decide +kernel
theorem dX3_valuePlace_78 : decode cX3_valuePlace 78 = .ok (.istore 9, 2) := by decide +kernel
theorem dX3_valuePlace_80 : decode cX3_valuePlace 80 = .ok (.aload_n 0, 1) := by decide +kernel
theorem dX3_valuePlace_81 : decode cX3_valuePlace 81 = .ok (.getfield 18, 3) := by decide +kernel
theorem dX3_valuePlace_84 : decode cX3_valuePlace 84 = .ok (.iload 9, 2) := by decide +kernel
theorem dX3_valuePlace_86 : decode cX3_valuePlace 86 = .ok (.iaload, 1) := by decide +kernel
theorem dX3_valuePlace_87 : decode cX3_valuePlace 87 = .ok (.aload_n 0, 1) := by decide +kernel
theorem dX3_valuePlace_88 : decode cX3_valuePlace 88 = .ok (.getfield 22, 3) := by decide +kernel
theorem dX3_valuePlace_91 : decode cX3_valuePlace 91 = .ok (.iload 9, 2) := by decide +kernel
theorem dX3_valuePlace_93 : decode cX3_valuePlace 93 = .ok (.iaload, 1) := by decide +kernel
theorem dX3_valuePlace_94 : decode cX3_valuePlace 94 = .ok (.bipush 64, 2) := by decide +kernel
theorem dX3_valuePlace_96 : decode cX3_valuePlace 96 = .ok (.imul, 1) := by decide +kernel
theorem dX3_valuePlace_97 : decode cX3_valuePlace 97 = .ok (.iadd, 1) := by decide +kernel
theorem dX3_valuePlace_98 : decode cX3_valuePlace 98 = .ok (.iconst 1, 1) := by decide +kernel
theorem dX3_valuePlace_99 : decode cX3_valuePlace 99 = .ok (.iadd, 1) := by decide +kernel
theorem dX3_valuePlace_100 : decode cX3_valuePlace 100 = .ok (.istore 10, 2) := by decide +kernel
theorem dX3_valuePlace_102 : decode cX3_valuePlace 102 = .ok (.iload 10, 2) := by decide +kernel
theorem dX3_valuePlace_104 : decode cX3_valuePlace 104 = .ok (.iload 4, 2) := by decide +kernel
theorem dX3_valuePlace_106 : decode cX3_valuePlace 106 = .ok (.if_icmp .ge 14, 3) := by decide +kernel
theorem dX3_valuePlace_109 : decode cX3_valuePlace 109 = .ok (.iload 10, 2) := by decide +kernel
theorem dX3_valuePlace_111 : decode cX3_valuePlace 111 = .ok (.istore 4, 2) := by decide +kernel
theorem dX3_valuePlace_113 : decode cX3_valuePlace 113 = .ok (.lconst 0, 1) := by decide +kernel
theorem dX3_valuePlace_114 : decode cX3_valuePlace 114 = .ok (.lstore 5, 2) := by decide +kernel
theorem dX3_valuePlace_116 : decode cX3_valuePlace 116 = .ok (.iload 8, 2) := by decide +kernel
theorem dX3_valuePlace_118 : decode cX3_valuePlace 118 = .ok (.istore 7, 2) := by decide +kernel
theorem dX3_valuePlace_120 : decode cX3_valuePlace 120 = .ok (.iload 10, 2) := by decide +kernel
theorem dX3_valuePlace_122 : decode cX3_valuePlace 122 = .ok (.iload 4, 2) := by decide +kernel
theorem dX3_valuePlace_124 : decode cX3_valuePlace 124 = .ok (.if_icmp .ne 15, 3) := by decide +kernel
theorem dX3_valuePlace_127 : decode cX3_valuePlace 127 = .ok (.lload 5, 2) := by decide +kernel
theorem dX3_valuePlace_129 : decode cX3_valuePlace 129 = .ok (.aload_n 0, 1) := by decide +kernel
theorem dX3_valuePlace_130 : decode cX3_valuePlace 130 = .ok (.getfield 28, 3) := by decide +kernel
theorem dX3_valuePlace_133 : decode cX3_valuePlace 133 = .ok (.iload 9, 2) := by decide +kernel
theorem dX3_valuePlace_135 : decode cX3_valuePlace 135 = .ok (.laload, 1) := by decide +kernel
theorem dX3_valuePlace_136 : decode cX3_valuePlace 136 = .ok (.ladd, 1) := by decide +kernel
theorem dX3_valuePlace_137 : decode cX3_valuePlace 137 = .ok (.lstore 5, 2) := by decide +kernel
theorem dX3_valuePlace_139 : decode cX3_valuePlace 139 = .ok (.iinc 8 1, 3) := by decide +kernel
theorem dX3_valuePlace_142 : decode cX3_valuePlace 142 = .ok (.goto (-103), 3) := by decide +kernel
theorem dX3_valuePlace_145 : decode cX3_valuePlace 145 = .ok (.iload_n 1, 1) := by decide +kernel
theorem dX3_valuePlace_146 : decode cX3_valuePlace 146 = .ok (.bipush 11, 2) := by decide +kernel
theorem dX3_valuePlace_148 : decode cX3_valuePlace 148 = .ok (.imul, 1) := by decide +kernel
theorem dX3_valuePlace_149 : decode cX3_valuePlace 149 = .ok (.iload_n 2, 1) := by decide +kernel
theorem dX3_valuePlace_150 : decode cX3_valuePlace 150 = .ok (.iadd, 1) := by decide +kernel
theorem dX3_valuePlace_151 : decode cX3_valuePlace 151 = .ok (.istore 8, 2) := by decide +kernel
theorem dX3_valuePlace_153 : decode cX3_valuePlace 153 = .ok (.aload_n 0, 1) := by decide +kernel
theorem dX3_valuePlace_154 : decode cX3_valuePlace 154 = .ok (.getfield 18, 3) := by decide +kernel
theorem dX3_valuePlace_157 : decode cX3_valuePlace 157 = .ok (.iload 8, 2) := by decide +kernel
theorem dX3_valuePlace_159 : decode cX3_valuePlace 159 = .ok (.iload 4, 2) := by decide +kernel
theorem dX3_valuePlace_161 : decode cX3_valuePlace 161 = .ok (.iastore, 1) := by decide +kernel
theorem dX3_valuePlace_162 : decode cX3_valuePlace 162 = .ok (.aload_n 0, 1) := by decide +kernel
theorem dX3_valuePlace_163 : decode cX3_valuePlace 163 = .ok (.getfield 28, 3) := by decide +kernel
theorem dX3_valuePlace_166 : decode cX3_valuePlace 166 = .ok (.iload 8, 2) := by decide +kernel
theorem dX3_valuePlace_168 : decode cX3_valuePlace 168 = .ok (.lload 5, 2) := by decide +kernel
theorem dX3_valuePlace_170 : decode cX3_valuePlace 170 = .ok (.lastore, 1) := by decide +kernel
theorem dX3_valuePlace_171 : decode cX3_valuePlace 171 = .ok (.aload_n 0, 1) := by decide +kernel
theorem dX3_valuePlace_172 : decode cX3_valuePlace 172 = .ok (.getfield 25, 3) := by decide +kernel
theorem dX3_valuePlace_175 : decode cX3_valuePlace 175 = .ok (.iload 8, 2) := by decide +kernel
theorem dX3_valuePlace_177 : decode cX3_valuePlace 177 = .ok (.iload 7, 2) := by decide +kernel
theorem dX3_valuePlace_179 : decode cX3_valuePlace 179 = .ok (.iastore, 1) := by decide +kernel
theorem dX3_valuePlace_180 : decode cX3_valuePlace 180 = .ok (.return_, 1) := by decide +kernel
theorem dX3_isPlace_0 : decode cX3_isPlace 0 = .ok (.iload_n 1, 1) := by decide +kernel
theorem dX3_isPlace_1 : decode cX3_isPlace 1 = .ok (.ifCond .lt 48, 3) := by decide +kernel
theorem dX3_isPlace_4 : decode cX3_isPlace 4 = .ok (.iload_n 1, 1) := by decide +kernel
theorem dX3_isPlace_5 : decode cX3_isPlace 5 = .ok (.aload_n 0, 1) := by decide +kernel
theorem dX3_isPlace_6 : decode cX3_isPlace 6 = .ok (.getfield 14, 3) := by decide +kernel
theorem dX3_isPlace_9 : decode cX3_isPlace 9 = .ok (.getfield 55, 3) := by decide +kernel
theorem dX3_isPlace_12 : decode cX3_isPlace 12 = .ok (.if_icmp .gt 37, 3) := by decide +kernel
theorem dX3_isPlace_15 : decode cX3_isPlace 15 = .ok (.iload_n 2, 1) := by decide +kernel
theorem dX3_isPlace_16 : decode cX3_isPlace 16 = .ok (.ifCond .lt 33, 3) := by decide +kernel
theorem dX3_isPlace_19 : decode cX3_isPlace 19 = .ok (.iload_n 2, 1) := by decide +kernel
theorem dX3_isPlace_20 : decode cX3_isPlace 20 = .ok (.aload_n 0, 1) := by decide +kernel
theorem dX3_isPlace_21 : decode cX3_isPlace 21 = .ok (.getfield 14, 3) := by decide +kernel
theorem dX3_isPlace_24 : decode cX3_isPlace 24 = .ok (.getfield 58, 3) := by decide +kernel
theorem dX3_isPlace_27 : decode cX3_isPlace 27 = .ok (.if_icmp .gt 22, 3) := by decide +kernel
theorem dX3_isPlace_30 : decode cX3_isPlace 30 = .ok (.aload_n 0, 1) := by decide +kernel
theorem dX3_isPlace_31 : decode cX3_isPlace 31 = .ok (.getfield 18, 3) := by decide +kernel
theorem dX3_isPlace_34 : decode cX3_isPlace 34 = .ok (.iload_n 1, 1) := by decide +kernel
theorem dX3_isPlace_35 : decode cX3_isPlace 35 = .ok (.bipush 11, 2) := by decide +kernel
theorem dX3_isPlace_37 : decode cX3_isPlace 37 = .ok (.imul, 1) := by decide +kernel
theorem dX3_isPlace_38 : decode cX3_isPlace 38 = .ok (.iload_n 2, 1) := by decide +kernel
theorem dX3_isPlace_39 : decode cX3_isPlace 39 = .ok (.iadd, 1) := by decide +kernel
theorem dX3_isPlace_40 : decode cX3_isPlace 40 = .ok (.iaload, 1) := by decide +kernel
theorem dX3_isPlace_41 : decode cX3_isPlace 41 = .ok (.iconst (-1), 1) := by decide +kernel
theorem dX3_isPlace_42 : decode cX3_isPlace 42 = .ok (.if_icmp .eq 7, 3) := by decide +kernel
theorem dX3_isPlace_45 : decode cX3_isPlace 45 = .ok (.iconst 1, 1) := by decide +kernel
theorem dX3_isPlace_46 : decode cX3_isPlace 46 = .ok (.goto 4, 3) := by decide +kernel
theorem dX3_isPlace_49 : decode cX3_isPlace 49 = .ok (.iconst 0, 1) := by decide +kernel
theorem dX3_isPlace_50 : decode cX3_isPlace 50 = .ok (.ireturn, 1) := by decide +kernel
theorem dX3_costFrom_0 : decode cX3_costFrom 0 = .ok (.aload_n 0, 1) := by decide +kernel
theorem dX3_costFrom_1 : decode cX3_costFrom 1 = .ok (.iload_n 1, 1) := by decide +kernel
theorem dX3_costFrom_2 : decode cX3_costFrom 2 = .ok (.iload_n 2, 1) := by decide +kernel
theorem dX3_costFrom_3 : decode cX3_costFrom 3 = .ok (.invokevirtual 93, 3) := by decide +kernel
theorem dX3_costFrom_6 : decode cX3_costFrom 6 = .ok (.ifCond .eq 20, 3) := by decide +kernel
theorem dX3_costFrom_9 : decode cX3_costFrom 9 = .ok (.aload_n 0, 1) := by decide +kernel
theorem dX3_costFrom_10 : decode cX3_costFrom 10 = .ok (.getfield 18, 3) := by decide +kernel
theorem dX3_costFrom_13 : decode cX3_costFrom 13 = .ok (.iload_n 1, 1) := by decide +kernel
theorem dX3_costFrom_14 : decode cX3_costFrom 14 = .ok (.bipush 11, 2) := by decide +kernel
theorem dX3_costFrom_16 : decode cX3_costFrom 16 = .ok (.imul, 1) := by decide +kernel
theorem dX3_costFrom_17 : decode cX3_costFrom 17 = .ok (.iload_n 2, 1) := by decide +kernel
theorem dX3_costFrom_18 : decode cX3_costFrom 18 = .ok (.iadd, 1) := by decide +kernel
theorem dX3_costFrom_19 : decode cX3_costFrom 19 = .ok (.iaload, 1) := by decide +kernel
theorem dX3_costFrom_20 : decode cX3_costFrom 20 = .ok (.bipush 64, 2) := by decide +kernel
theorem dX3_costFrom_22 : decode cX3_costFrom 22 = .ok (.idiv, 1) := by decide +kernel
theorem dX3_costFrom_23 : decode cX3_costFrom 23 = .ok (.goto 4, 3) := by decide +kernel
theorem dX3_costFrom_26 : decode cX3_costFrom 26 = .ok (.iconst (-1), 1) := by decide +kernel
theorem dX3_costFrom_27 : decode cX3_costFrom 27 = .ok (.ireturn, 1) := by decide +kernel
theorem dX3_pagesFrom_0 : decode cX3_pagesFrom 0 = .ok (.aload_n 0, 1) := by decide +kernel
theorem dX3_pagesFrom_1 : decode cX3_pagesFrom 1 = .ok (.iload_n 1, 1) := by decide +kernel
theorem dX3_pagesFrom_2 : decode cX3_pagesFrom 2 = .ok (.iload_n 2, 1) := by decide +kernel
theorem dX3_pagesFrom_3 : decode cX3_pagesFrom 3 = .ok (.invokevirtual 93, 3) := by decide +kernel
theorem dX3_pagesFrom_6 : decode cX3_pagesFrom 6 = .ok (.ifCond .eq 20, 3) := by decide +kernel
theorem dX3_pagesFrom_9 : decode cX3_pagesFrom 9 = .ok (.aload_n 0, 1) := by decide +kernel
theorem dX3_pagesFrom_10 : decode cX3_pagesFrom 10 = .ok (.getfield 18, 3) := by decide +kernel
theorem dX3_pagesFrom_13 : decode cX3_pagesFrom 13 = .ok (.iload_n 1, 1) := by decide +kernel
theorem dX3_pagesFrom_14 : decode cX3_pagesFrom 14 = .ok (.bipush 11, 2) := by decide +kernel
theorem dX3_pagesFrom_16 : decode cX3_pagesFrom 16 = .ok (.imul, 1) := by decide +kernel
theorem dX3_pagesFrom_17 : decode cX3_pagesFrom 17 = .ok (.iload_n 2, 1) := by decide +kernel
theorem dX3_pagesFrom_18 : decode cX3_pagesFrom 18 = .ok (.iadd, 1) := by decide +kernel
theorem dX3_pagesFrom_19 : decode cX3_pagesFrom 19 = .ok (.iaload, 1) := by decide +kernel
theorem dX3_pagesFrom_20 : decode cX3_pagesFrom 20 = .ok (.bipush 64, 2) := by decide +kernel
theorem dX3_pagesFrom_22 : decode cX3_pagesFrom 22 = .ok (.irem, 1) := by decide +kernel
theorem dX3_pagesFrom_23 : decode cX3_pagesFrom 23 = .ok (.goto 4, 3) := by decide +kernel
theorem dX3_pagesFrom_26 : decode cX3_pagesFrom 26 = .ok (.iconst (-1), 1) := by decide +kernel
theorem dX3_pagesFrom_27 : decode cX3_pagesFrom 27 = .ok (.ireturn, 1) := by decide +kernel
theorem dX3_takenFrom_0 : decode cX3_takenFrom 0 = .ok (.aload_n 0, 1) := by decide +kernel
theorem dX3_takenFrom_1 : decode cX3_takenFrom 1 = .ok (.iload_n 1, 1) := by decide +kernel
theorem dX3_takenFrom_2 : decode cX3_takenFrom 2 = .ok (.iload_n 2, 1) := by decide +kernel
theorem dX3_takenFrom_3 : decode cX3_takenFrom 3 = .ok (.invokevirtual 93, 3) := by decide +kernel
theorem dX3_takenFrom_6 : decode cX3_takenFrom 6 = .ok (.ifCond .eq 17, 3) := by decide +kernel
theorem dX3_takenFrom_9 : decode cX3_takenFrom 9 = .ok (.aload_n 0, 1) := by decide +kernel
theorem dX3_takenFrom_10 : decode cX3_takenFrom 10 = .ok (.getfield 25, 3) := by decide +kernel
theorem dX3_takenFrom_13 : decode cX3_takenFrom 13 = .ok (.iload_n 1, 1) := by decide +kernel
theorem dX3_takenFrom_14 : decode cX3_takenFrom 14 = .ok (.bipush 11, 2) := by decide +kernel
theorem dX3_takenFrom_16 : decode cX3_takenFrom 16 = .ok (.imul, 1) := by decide +kernel
theorem dX3_takenFrom_17 : decode cX3_takenFrom 17 = .ok (.iload_n 2, 1) := by decide +kernel
theorem dX3_takenFrom_18 : decode cX3_takenFrom 18 = .ok (.iadd, 1) := by decide +kernel
theorem dX3_takenFrom_19 : decode cX3_takenFrom 19 = .ok (.iaload, 1) := by decide +kernel
theorem dX3_takenFrom_20 : decode cX3_takenFrom 20 = .ok (.goto 4, 3) := by decide +kernel
theorem dX3_takenFrom_23 : decode cX3_takenFrom 23 = .ok (.iconst 0, 1) := by decide +kernel
theorem dX3_takenFrom_24 : decode cX3_takenFrom 24 = .ok (.ireturn, 1) := by decide +kernel
theorem dX3_waysOfBest_0 : decode cX3_waysOfBest 0 = .ok (.aload_n 0, 1) := by decide +kernel
theorem dX3_waysOfBest_1 : decode cX3_waysOfBest 1 = .ok (.iconst 0, 1) := by decide +kernel
theorem dX3_waysOfBest_2 : decode cX3_waysOfBest 2 = .ok (.iconst 0, 1) := by decide +kernel
theorem dX3_waysOfBest_3 : decode cX3_waysOfBest 3 = .ok (.invokevirtual 93, 3) := by decide +kernel
theorem dX3_waysOfBest_6 : decode cX3_waysOfBest 6 = .ok (.ifCond .eq 12, 3) := by decide +kernel
theorem dX3_waysOfBest_9 : decode cX3_waysOfBest 9 = .ok (.aload_n 0, 1) := by decide +kernel
theorem dX3_waysOfBest_10 : decode cX3_waysOfBest 10 = .ok (.getfield 28, 3) := by decide +kernel
theorem dX3_waysOfBest_13 : decode cX3_waysOfBest 13 = .ok (.iconst 0, 1) := by decide +kernel
theorem dX3_waysOfBest_14 : decode cX3_waysOfBest 14 = .ok (.laload, 1) := by decide +kernel
theorem dX3_waysOfBest_15 : decode cX3_waysOfBest 15 = .ok (.goto 4, 3) := by decide +kernel
theorem dX3_waysOfBest_18 : decode cX3_waysOfBest 18 = .ok (.lconst 0, 1) := by decide +kernel
theorem dX3_waysOfBest_19 : decode cX3_waysOfBest 19 = .ok (.lreturn, 1) := by decide +kernel
theorem dX4_init_0 : decode cX4_init 0 = .ok (.aload_n 0, 1) := by decide +kernel
theorem dX4_init_1 : decode cX4_init 1 = .ok (.invokespecial 3, 3) := by decide +kernel
theorem dX4_init_4 : decode cX4_init 4 = .ok (.aload_n 0, 1) := by decide +kernel
theorem dX4_init_5 : decode cX4_init 5 = .ok (.bipush 6, 2) := by decide +kernel
theorem dX4_init_7 : decode cX4_init 7 = .ok (.newarray .int, 2) := by decide +kernel
theorem dX4_init_9 : decode cX4_init 9 = .ok (.dup, 1) := by decide +kernel
theorem dX4_init_10 : decode cX4_init 10 = .ok (.iconst 0, 1) := by decide +kernel
theorem dX4_init_11 : decode cX4_init 11 = .ok (.bipush 40, 2) := by decide +kernel
theorem dX4_init_13 : decode cX4_init 13 = .ok (.iastore, 1) := by decide +kernel
theorem dX4_init_14 : decode cX4_init 14 = .ok (.dup, 1) := by decide +kernel
theorem dX4_init_15 : decode cX4_init 15 = .ok (.iconst 1, 1) := by decide +kernel
theorem dX4_init_16 : decode cX4_init 16 = .ok (.bipush 10, 2) := by decide +kernel
theorem dX4_init_18 : decode cX4_init 18 = .ok (.iastore, 1) := by decide +kernel
theorem dX4_init_19 : decode cX4_init 19 = .ok (.dup, 1) := by decide +kernel
theorem dX4_init_20 : decode cX4_init 20 = .ok (.iconst 2, 1) := by decide +kernel
theorem dX4_init_21 : decode cX4_init 21 = .ok (.iconst 2, 1) := by decide +kernel
theorem dX4_init_22 : decode cX4_init 22 = .ok (.iastore, 1) := by decide +kernel
theorem dX4_init_23 : decode cX4_init 23 = .ok (.dup, 1) := by decide +kernel
theorem dX4_init_24 : decode cX4_init 24 = .ok (.iconst 3, 1) := by decide +kernel
theorem dX4_init_25 : decode cX4_init 25 = .ok (.bipush 6, 2) := by decide +kernel
theorem dX4_init_27 : decode cX4_init 27 = .ok (.iastore, 1) := by decide +kernel
theorem dX4_init_28 : decode cX4_init 28 = .ok (.dup, 1) := by decide +kernel
theorem dX4_init_29 : decode cX4_init 29 = .ok (.iconst 4, 1) := by decide +kernel
theorem dX4_init_30 : decode cX4_init 30 = .ok (.iconst 3, 1) := by decide +kernel
theorem dX4_init_31 : decode cX4_init 31 = .ok (.iastore, 1) := by decide +kernel
theorem dX4_init_32 : decode cX4_init 32 = .ok (.dup, 1) := by decide +kernel
theorem dX4_init_33 : decode cX4_init 33 = .ok (.iconst 5, 1) := by decide +kernel
theorem dX4_init_34 : decode cX4_init 34 = .ok (.iconst 0, 1) := by decide +kernel
theorem dX4_init_35 : decode cX4_init 35 = .ok (.iastore, 1) := by decide +kernel
theorem dX4_init_36 : decode cX4_init 36 = .ok (.putfield 9, 3) := by decide +kernel
theorem dX4_init_39 : decode cX4_init 39 = .ok (.aload_n 0, 1) := by decide +kernel
theorem dX4_init_40 : decode cX4_init 40 = .ok (.iconst 4, 1) := by decide +kernel
theorem dX4_init_41 : decode cX4_init 41 = .ok (.bipush 10, 2) := by decide +kernel
theorem dX4_init_43 : decode cX4_init 43 = .ok (.multianewarray 15 2, 4) := by decide +kernel
theorem dX4_init_47 : decode cX4_init 47 = .ok (.putfield 17, 3) := by decide +kernel
theorem dX4_init_50 : decode cX4_init 50 = .ok (.aload_n 0, 1) := by decide +kernel
theorem dX4_init_51 : decode cX4_init 51 = .ok (.iconst 0, 1) := by decide +kernel
theorem dX4_init_52 : decode cX4_init 52 = .ok (.putfield 20, 3) := by decide +kernel
theorem dX4_init_55 : decode cX4_init 55 = .ok (.return_, 1) := by decide +kernel
theorem dX4_becomes_0 : decode cX4_becomes 0 = .ok (.aload_n 1, 1) := by decide +kernel
theorem dX4_becomes_1 : decode cX4_becomes 1 = .ok (.getfield 9, 3) := by decide +kernel
theorem dX4_becomes_4 : decode cX4_becomes 4 = .ok (.iconst 0, 1) := by decide +kernel
theorem dX4_becomes_5 : decode cX4_becomes 5 = .ok (.aload_n 0, 1) := by decide +kernel
theorem dX4_becomes_6 : decode cX4_becomes 6 = .ok (.getfield 9, 3) := by decide +kernel
theorem dX4_becomes_9 : decode cX4_becomes 9 = .ok (.iconst 0, 1) := by decide +kernel
theorem dX4_becomes_10 : decode cX4_becomes 10 = .ok (.bipush 6, 2) := by decide +kernel
theorem dX4_becomes_12 : decode cX4_becomes 12 = .ok (.invokestatic 24, 3) := by decide +kernel
theorem dX4_becomes_15 : decode cX4_becomes 15 = .ok (.iconst 0, 1) := by decide +kernel
theorem dX4_becomes_16 : decode cX4_becomes 16 = .ok (.istore_n 2, 1) := by decide +kernel
theorem dX4_becomes_17 : decode cX4_becomes 17 = .ok (.iload_n 2, 1) := by decide +kernel
theorem dX4_becomes_18 : decode cX4_becomes 18 = .ok (.iconst 4, 1) := by decide +kernel
theorem dX4_becomes_19 : decode cX4_becomes 19 = .ok (.if_icmp .ge 28, 3) := by decide +kernel
theorem dX4_becomes_22 : decode cX4_becomes 22 = .ok (.aload_n 1, 1) := by decide +kernel
theorem dX4_becomes_23 : decode cX4_becomes 23 = .ok (.getfield 17, 3) := by decide +kernel
theorem dX4_becomes_26 : decode cX4_becomes 26 = .ok (.iload_n 2, 1) := by decide +kernel
theorem dX4_becomes_27 : decode cX4_becomes 27 = .ok (.aaload, 1) := by decide +kernel
theorem dX4_becomes_28 : decode cX4_becomes 28 = .ok (.iconst 0, 1) := by decide +kernel
theorem dX4_becomes_29 : decode cX4_becomes 29 = .ok (.aload_n 0, 1) := by decide +kernel
theorem dX4_becomes_30 : decode cX4_becomes 30 = .ok (.getfield 17, 3) := by decide +kernel
theorem dX4_becomes_33 : decode cX4_becomes 33 = .ok (.iload_n 2, 1) := by decide +kernel
theorem dX4_becomes_34 : decode cX4_becomes 34 = .ok (.aaload, 1) := by decide +kernel
theorem dX4_becomes_35 : decode cX4_becomes 35 = .ok (.iconst 0, 1) := by decide +kernel
theorem dX4_becomes_36 : decode cX4_becomes 36 = .ok (.bipush 10, 2) := by decide +kernel
theorem dX4_becomes_38 : decode cX4_becomes 38 = .ok (.invokestatic 24, 3) := by decide +kernel
theorem dX4_becomes_41 : decode cX4_becomes 41 = .ok (.iinc 2 1, 3) := by decide +kernel
theorem dX4_becomes_44 : decode cX4_becomes 44 = .ok (.goto (-27), 3) := by decide +kernel
theorem dX4_becomes_47 : decode cX4_becomes 47 = .ok (.aload_n 0, 1) := by decide +kernel
theorem dX4_becomes_48 : decode cX4_becomes 48 = .ok (.aload_n 1, 1) := by decide +kernel
theorem dX4_becomes_49 : decode cX4_becomes 49 = .ok (.getfield 20, 3) := by decide +kernel
theorem dX4_becomes_52 : decode cX4_becomes 52 = .ok (.putfield 20, 3) := by decide +kernel
theorem dX4_becomes_55 : decode cX4_becomes 55 = .ok (.return_, 1) := by decide +kernel
theorem dX4_has_0 : decode cX4_has 0 = .ok (.iload_n 1, 1) := by decide +kernel
theorem dX4_has_1 : decode cX4_has 1 = .ok (.ifCond .lt 15, 3) := by decide +kernel
theorem dX4_has_4 : decode cX4_has 4 = .ok (.iload_n 1, 1) := by decide +kernel
theorem dX4_has_5 : decode cX4_has 5 = .ok (.aload_n 0, 1) := by decide +kernel
theorem dX4_has_6 : decode cX4_has 6 = .ok (.getfield 20, 3) := by decide +kernel
theorem dX4_has_9 : decode cX4_has 9 = .ok (.if_icmp .ge 7, 3) := by decide +kernel
theorem dX4_has_12 : decode cX4_has 12 = .ok (.iconst 1, 1) := by decide +kernel
theorem dX4_has_13 : decode cX4_has 13 = .ok (.goto 4, 3) := by decide +kernel
theorem dX4_has_16 : decode cX4_has 16 = .ok (.iconst 0, 1) := by decide +kernel
theorem dX4_has_17 : decode cX4_has 17 = .ok (.ireturn, 1) := by decide +kernel
theorem dX4_boundMayBe_0 : decode cX4_boundMayBe 0 = .ok (.iload_n 1, 1) := by decide +kernel
theorem dX4_boundMayBe_1 : decode cX4_boundMayBe 1 = .ok (.ifCond .lt 27, 3) := by decide +kernel
theorem dX4_boundMayBe_4 : decode cX4_boundMayBe 4 = .ok (.iload_n 1, 1) := by decide +kernel
theorem dX4_boundMayBe_5 : decode cX4_boundMayBe 5 = .ok (.bipush 6, 2) := by decide +kernel
theorem dX4_boundMayBe_7 : decode cX4_boundMayBe 7 = .ok (.if_icmp .ge 21, 3) := by decide +kernel
theorem dX4_boundMayBe_10 : decode cX4_boundMayBe 10 = .ok (.iload_n 2, 1) := by decide +kernel
theorem dX4_boundMayBe_11 : decode cX4_boundMayBe 11 = .ok (.getstatic 30, 3) := by decide +kernel
theorem dX4_boundMayBe_14 : decode cX4_boundMayBe 14 = .ok (.iload_n 1, 1) := by decide +kernel
theorem dX4_boundMayBe_15 : decode cX4_boundMayBe 15 = .ok (.iaload, 1) := by decide +kernel
theorem dX4_boundMayBe_16 : decode cX4_boundMayBe 16 = .ok (.if_icmp .lt 12, 3) := by decide +kernel
theorem dX4_boundMayBe_19 : decode cX4_boundMayBe 19 = .ok (.iload_n 2, 1) := by decide +kernel
theorem dX4_boundMayBe_20 : decode cX4_boundMayBe 20 = .ok (.getstatic 33, 3) := by decide +kernel
theorem dX4_boundMayBe_23 : decode cX4_boundMayBe 23 = .ok (.iload_n 1, 1) := by decide +kernel
theorem dX4_boundMayBe_24 : decode cX4_boundMayBe 24 = .ok (.iaload, 1) := by decide +kernel
theorem dX4_boundMayBe_25 : decode cX4_boundMayBe 25 = .ok (.if_icmp .le 5, 3) := by decide +kernel
theorem dX4_boundMayBe_28 : decode cX4_boundMayBe 28 = .ok (.iconst 0, 1) := by decide +kernel
theorem dX4_boundMayBe_29 : decode cX4_boundMayBe 29 = .ok (.ireturn, 1) := by decide +kernel
theorem dX4_boundMayBe_30 : decode cX4_boundMayBe 30 = .ok (.iload_n 1, 1) := by decide +kernel
theorem dX4_boundMayBe_31 : decode cX4_boundMayBe 31 = .ok (.iconst 3, 1) := by decide +kernel
theorem dX4_boundMayBe_32 : decode cX4_boundMayBe 32 = .ok (.if_icmp .ne 13, 3) := by decide +kernel
theorem dX4_boundMayBe_35 : decode cX4_boundMayBe 35 = .ok (.iload_n 2, 1) := by decide +kernel
theorem dX4_boundMayBe_36 : decode cX4_boundMayBe 36 = .ok (.aload_n 0, 1) := by decide +kernel
theorem dX4_boundMayBe_37 : decode cX4_boundMayBe 37 = .ok (.getfield 9, 3) := by decide +kernel
theorem dX4_boundMayBe_40 : decode cX4_boundMayBe 40 = .ok (.iconst 1, 1) := by decide +kernel
theorem dX4_boundMayBe_41 : decode cX4_boundMayBe 41 = .ok (.iaload, 1) := by decide +kernel
theorem dX4_boundMayBe_42 : decode cX4_boundMayBe 42 = .ok (.if_icmp .gt 7, 3) := by decide +kernel
theorem dX4_boundMayBe_45 : decode cX4_boundMayBe 45 = .ok (.iconst 1, 1) := by decide +kernel
theorem dX4_boundMayBe_46 : decode cX4_boundMayBe 46 = .ok (.goto 4, 3) := by decide +kernel
theorem dX4_boundMayBe_49 : decode cX4_boundMayBe 49 = .ok (.iconst 0, 1) := by decide +kernel
theorem dX4_boundMayBe_50 : decode cX4_boundMayBe 50 = .ok (.ireturn, 1) := by decide +kernel
theorem dX4_openAt_0 : decode cX4_openAt 0 = .ok (.iconst 0, 1) := by decide +kernel
theorem dX4_openAt_1 : decode cX4_openAt 1 = .ok (.istore_n 2, 1) := by decide +kernel
theorem dX4_openAt_2 : decode cX4_openAt 2 = .ok (.iload_n 2, 1) := by decide +kernel
theorem dX4_openAt_3 : decode cX4_openAt 3 = .ok (.iconst 4, 1) := by decide +kernel
theorem dX4_openAt_4 : decode cX4_openAt 4 = .ok (.if_icmp .ge 34, 3) := by decide +kernel
theorem dX4_openAt_7 : decode cX4_openAt 7 = .ok (.aload_n 0, 1) := by decide +kernel
theorem dX4_openAt_8 : decode cX4_openAt 8 = .ok (.getfield 17, 3) := by decide +kernel
theorem dX4_openAt_11 : decode cX4_openAt 11 = .ok (.iload_n 2, 1) := by decide +kernel
theorem dX4_openAt_12 : decode cX4_openAt 12 = .ok (.aaload, 1) := by decide +kernel
theorem dX4_openAt_13 : decode cX4_openAt 13 = .ok (.iload_n 1, 1) := by decide +kernel
theorem dX4_openAt_14 : decode cX4_openAt 14 = .ok (.aload_n 0, 1) := by decide +kernel
theorem dX4_openAt_15 : decode cX4_openAt 15 = .ok (.getfield 17, 3) := by decide +kernel
theorem dX4_openAt_18 : decode cX4_openAt 18 = .ok (.iload_n 2, 1) := by decide +kernel
theorem dX4_openAt_19 : decode cX4_openAt 19 = .ok (.aaload, 1) := by decide +kernel
theorem dX4_openAt_20 : decode cX4_openAt 20 = .ok (.iload_n 1, 1) := by decide +kernel
theorem dX4_openAt_21 : decode cX4_openAt 21 = .ok (.iconst 1, 1) := by decide +kernel
theorem dX4_openAt_22 : decode cX4_openAt 22 = .ok (.iadd, 1) := by decide +kernel
theorem dX4_openAt_23 : decode cX4_openAt 23 = .ok (.aload_n 0, 1) := by decide +kernel
theorem dX4_openAt_24 : decode cX4_openAt 24 = .ok (.getfield 20, 3) := by decide +kernel
theorem dX4_openAt_27 : decode cX4_openAt 27 = .ok (.iload_n 1, 1) := by decide +kernel
theorem dX4_openAt_28 : decode cX4_openAt 28 = .ok (.isub, 1) := by decide +kernel
theorem dX4_openAt_29 : decode cX4_openAt 29 = .ok (.invokestatic 24, 3) := by decide +kernel
theorem dX4_openAt_32 : decode cX4_openAt 32 = .ok (.iinc 2 1, 3) := by decide +kernel
theorem dX4_openAt_35 : decode cX4_openAt 35 = .ok (.goto (-33), 3) := by decide +kernel
theorem dX4_openAt_38 : decode cX4_openAt 38 = .ok (.aload_n 0, 1) := by decide +kernel
theorem dX4_openAt_39 : decode cX4_openAt 39 = .ok (.dup, 1) := by decide +kernel
theorem dX4_openAt_40 : decode cX4_openAt 40 = .ok (.getfield 20, 3) := by decide +kernel
theorem dX4_openAt_43 : decode cX4_openAt 43 = .ok (.iconst 1, 1) := by decide +kernel
theorem dX4_openAt_44 : decode cX4_openAt 44 = .ok (.iadd, 1) := by decide +kernel
theorem dX4_openAt_45 : decode cX4_openAt 45 = .ok (.putfield 20, 3) := by decide +kernel
theorem dX4_openAt_48 : decode cX4_openAt 48 = .ok (.return_, 1) := by decide +kernel
theorem dX4_closeAt_0 : decode cX4_closeAt 0 = .ok (.iconst 0, 1) := by decide +kernel
theorem dX4_closeAt_1 : decode cX4_closeAt 1 = .ok (.istore_n 2, 1) := by decide +kernel
theorem dX4_closeAt_2 : decode cX4_closeAt 2 = .ok (.iload_n 2, 1) := by decide +kernel
theorem dX4_closeAt_3 : decode cX4_closeAt 3 = .ok (.iconst 4, 1) := by decide +kernel
theorem dX4_closeAt_4 : decode cX4_closeAt 4 = .ok (.if_icmp .ge 36, 3) := by decide +kernel
theorem dX4_closeAt_7 : decode cX4_closeAt 7 = .ok (.aload_n 0, 1) := by decide +kernel
theorem dX4_closeAt_8 : decode cX4_closeAt 8 = .ok (.getfield 17, 3) := by decide +kernel
theorem dX4_closeAt_11 : decode cX4_closeAt 11 = .ok (.iload_n 2, 1) := by decide +kernel
theorem dX4_closeAt_12 : decode cX4_closeAt 12 = .ok (.aaload, 1) := by decide +kernel
theorem dX4_closeAt_13 : decode cX4_closeAt 13 = .ok (.iload_n 1, 1) := by decide +kernel
theorem dX4_closeAt_14 : decode cX4_closeAt 14 = .ok (.iconst 1, 1) := by decide +kernel
theorem dX4_closeAt_15 : decode cX4_closeAt 15 = .ok (.iadd, 1) := by decide +kernel
theorem dX4_closeAt_16 : decode cX4_closeAt 16 = .ok (.aload_n 0, 1) := by decide +kernel
theorem dX4_closeAt_17 : decode cX4_closeAt 17 = .ok (.getfield 17, 3) := by decide +kernel
theorem dX4_closeAt_20 : decode cX4_closeAt 20 = .ok (.iload_n 2, 1) := by decide +kernel
theorem dX4_closeAt_21 : decode cX4_closeAt 21 = .ok (.aaload, 1) := by decide +kernel
theorem dX4_closeAt_22 : decode cX4_closeAt 22 = .ok (.iload_n 1, 1) := by decide +kernel
theorem dX4_closeAt_23 : decode cX4_closeAt 23 = .ok (.aload_n 0, 1) := by decide +kernel
theorem dX4_closeAt_24 : decode cX4_closeAt 24 = .ok (.getfield 20, 3) := by decide +kernel
theorem dX4_closeAt_27 : decode cX4_closeAt 27 = .ok (.iload_n 1, 1) := by decide +kernel
theorem dX4_closeAt_28 : decode cX4_closeAt 28 = .ok (.isub, 1) := by decide +kernel
theorem dX4_closeAt_29 : decode cX4_closeAt 29 = .ok (.iconst 1, 1) := by decide +kernel
theorem dX4_closeAt_30 : decode cX4_closeAt 30 = .ok (.isub, 1) := by decide +kernel
theorem dX4_closeAt_31 : decode cX4_closeAt 31 = .ok (.invokestatic 24, 3) := by decide +kernel
theorem dX4_closeAt_34 : decode cX4_closeAt 34 = .ok (.iinc 2 1, 3) := by decide +kernel
theorem dX4_closeAt_37 : decode cX4_closeAt 37 = .ok (.goto (-35), 3) := by decide +kernel
theorem dX4_closeAt_40 : decode cX4_closeAt 40 = .ok (.aload_n 0, 1) := by decide +kernel
theorem dX4_closeAt_41 : decode cX4_closeAt 41 = .ok (.dup, 1) := by decide +kernel
theorem dX4_closeAt_42 : decode cX4_closeAt 42 = .ok (.getfield 20, 3) := by decide +kernel
theorem dX4_closeAt_45 : decode cX4_closeAt 45 = .ok (.iconst 1, 1) := by decide +kernel
theorem dX4_closeAt_46 : decode cX4_closeAt 46 = .ok (.isub, 1) := by decide +kernel
theorem dX4_closeAt_47 : decode cX4_closeAt 47 = .ok (.putfield 20, 3) := by decide +kernel
theorem dX4_closeAt_50 : decode cX4_closeAt 50 = .ok (.return_, 1) := by decide +kernel
theorem dX4_describe_0 : decode cX4_describe 0 = .ok (.aload_n 0, 1) := by decide +kernel
theorem dX4_describe_1 : decode cX4_describe 1 = .ok (.getfield 17, 3) := by decide +kernel
theorem dX4_describe_4 : decode cX4_describe 4 = .ok (.iconst 0, 1) := by decide +kernel
theorem dX4_describe_5 : decode cX4_describe 5 = .ok (.aaload, 1) := by decide +kernel
theorem dX4_describe_6 : decode cX4_describe 6 = .ok (.iload_n 1, 1) := by decide +kernel
theorem dX4_describe_7 : decode cX4_describe 7 = .ok (.iload_n 2, 1) := by decide +kernel
theorem dX4_describe_8 : decode cX4_describe 8 = .ok (.iastore, 1) := by decide +kernel
theorem dX4_describe_9 : decode cX4_describe 9 = .ok (.aload_n 0, 1) := by decide +kernel
theorem dX4_describe_10 : decode cX4_describe 10 = .ok (.getfield 17, 3) := by decide +kernel
theorem dX4_describe_13 : decode cX4_describe 13 = .ok (.iconst 1, 1) := by decide +kernel
theorem dX4_describe_14 : decode cX4_describe 14 = .ok (.aaload, 1) := by decide +kernel
theorem dX4_describe_15 : decode cX4_describe 15 = .ok (.iload_n 1, 1) := by decide +kernel
theorem dX4_describe_16 : decode cX4_describe 16 = .ok (.iload_n 3, 1) := by decide +kernel
theorem dX4_describe_17 : decode cX4_describe 17 = .ok (.iastore, 1) := by decide +kernel
theorem dX4_describe_18 : decode cX4_describe 18 = .ok (.aload_n 0, 1) := by decide +kernel
theorem dX4_describe_19 : decode cX4_describe 19 = .ok (.getfield 17, 3) := by decide +kernel
theorem dX4_describe_22 : decode cX4_describe 22 = .ok (.iconst 2, 1) := by decide +kernel
theorem dX4_describe_23 : decode cX4_describe 23 = .ok (.aaload, 1) := by decide +kernel
theorem dX4_describe_24 : decode cX4_describe 24 = .ok (.iload_n 1, 1) := by decide +kernel
theorem dX4_describe_25 : decode cX4_describe 25 = .ok (.iload 4, 2) := by decide +kernel
theorem dX4_describe_27 : decode cX4_describe 27 = .ok (.iastore, 1) := by decide +kernel
theorem dX4_describe_28 : decode cX4_describe 28 = .ok (.aload_n 0, 1) := by decide +kernel
theorem dX4_describe_29 : decode cX4_describe 29 = .ok (.getfield 17, 3) := by decide +kernel
theorem dX4_describe_32 : decode cX4_describe 32 = .ok (.iconst 3, 1) := by decide +kernel
theorem dX4_describe_33 : decode cX4_describe 33 = .ok (.aaload, 1) := by decide +kernel
theorem dX4_describe_34 : decode cX4_describe 34 = .ok (.iload_n 1, 1) := by decide +kernel
theorem dX4_describe_35 : decode cX4_describe 35 = .ok (.iload 5, 2) := by decide +kernel
theorem dX4_describe_37 : decode cX4_describe 37 = .ok (.iastore, 1) := by decide +kernel
theorem dX4_describe_38 : decode cX4_describe 38 = .ok (.return_, 1) := by decide +kernel
theorem dX4_drawLots_0 : decode cX4_drawLots 0 = .ok (.iload_n 2, 1) := by decide +kernel
theorem dX4_drawLots_1 : decode cX4_drawLots 1 = .ok (.istore_n 3, 1) := by decide +kernel
theorem dX4_drawLots_2 : decode cX4_drawLots 2 = .ok (.aload_n 0, 1) := by decide +kernel
theorem dX4_drawLots_3 : decode cX4_drawLots 3 = .ok (.getfield 9, 3) := by decide +kernel
theorem dX4_drawLots_6 : decode cX4_drawLots 6 = .ok (.iconst 3, 1) := by decide +kernel
theorem dX4_drawLots_7 : decode cX4_drawLots 7 = .ok (.iaload, 1) := by decide +kernel
theorem dX4_drawLots_8 : decode cX4_drawLots 8 = .ok (.iconst 1, 1) := by decide +kernel
theorem dX4_drawLots_9 : decode cX4_drawLots 9 = .ok (.invokestatic 36, 3) := by decide +kernel
theorem dX4_drawLots_12 : decode cX4_drawLots 12 = .ok (.istore 4, 2) := by decide +kernel
theorem dX4_drawLots_14 : decode cX4_drawLots 14 = .ok (.aload_n 0, 1) := by decide +kernel
theorem dX4_drawLots_15 : decode cX4_drawLots 15 = .ok (.getfield 9, 3) := by decide +kernel
theorem dX4_drawLots_18 : decode cX4_drawLots 18 = .ok (.iconst 0, 1) := by decide +kernel
theorem dX4_drawLots_19 : decode cX4_drawLots 19 = .ok (.iaload, 1) := by decide +kernel
theorem dX4_drawLots_20 : decode cX4_drawLots 20 = .ok (.iconst 1, 1) := by decide +kernel
theorem dX4_drawLots_21 : decode cX4_drawLots 21 = .ok (.invokestatic 36, 3) := by decide +kernel
theorem dX4_drawLots_24 : decode cX4_drawLots 24 = .ok (.istore 5, 2) := by decide +kernel
theorem dX4_drawLots_26 : decode cX4_drawLots 26 = .ok (.aload_n 0, 1) := by decide +kernel
theorem dX4_drawLots_27 : decode cX4_drawLots 27 = .ok (.iload_n 1, 1) := by decide +kernel
theorem dX4_drawLots_28 : decode cX4_drawLots 28 = .ok (.putfield 20, 3) := by decide +kernel
theorem dX4_drawLots_31 : decode cX4_drawLots 31 = .ok (.iconst 0, 1) := by decide +kernel
theorem dX4_drawLots_32 : decode cX4_drawLots 32 = .ok (.istore 6, 2) := by decide +kernel
theorem dX4_drawLots_34 : decode cX4_drawLots 34 = .ok (.iload 6, 2) := by decide +kernel
theorem dX4_drawLots_36 : decode cX4_drawLots 36 = .ok (.iload_n 1, 1) := by decide +kernel
theorem dX4_drawLots_37 : decode cX4_drawLots 37 = .ok (.if_icmp .ge 84, 3) := by decide +kernel
theorem dX4_drawLots_40 : decode cX4_drawLots 40 = .ok (.iload_n 3, 1) := by decide +kernel
theorem dX4_drawLots_41 : decode cX4_drawLots 41 = .ok (.invokestatic 42, 3) := by decide +kernel
theorem dX4_drawLots_44 : decode cX4_drawLots 44 = .ok (.istore_n 3, 1) := by decide +kernel
theorem dX4_drawLots_45 : decode cX4_drawLots 45 = .ok (.aload_n 0, 1) := by decide +kernel
theorem dX4_drawLots_46 : decode cX4_drawLots 46 = .ok (.getfield 17, 3) := by decide +kernel
theorem dX4_drawLots_49 : decode cX4_drawLots 49 = .ok (.iconst 0, 1) := by decide +kernel
theorem dX4_drawLots_50 : decode cX4_drawLots 50 = .ok (.aaload, 1) := by decide +kernel
theorem dX4_drawLots_51 : decode cX4_drawLots 51 = .ok (.iload 6, 2) := by decide +kernel
theorem dX4_drawLots_53 : decode cX4_drawLots 53 = .ok (.iload_n 3, 1) := by decide +kernel
theorem dX4_drawLots_54 : decode cX4_drawLots 54 = .ok (.iload 4, 2) := by decide +kernel
theorem dX4_drawLots_56 : decode cX4_drawLots 56 = .ok (.irem, 1) := by decide +kernel
theorem dX4_drawLots_57 : decode cX4_drawLots 57 = .ok (.iconst 1, 1) := by decide +kernel
theorem dX4_drawLots_58 : decode cX4_drawLots 58 = .ok (.iadd, 1) := by decide +kernel
theorem dX4_drawLots_59 : decode cX4_drawLots 59 = .ok (.iastore, 1) := by decide +kernel
theorem dX4_drawLots_60 : decode cX4_drawLots 60 = .ok (.iload_n 3, 1) := by decide +kernel
theorem dX4_drawLots_61 : decode cX4_drawLots 61 = .ok (.invokestatic 42, 3) := by decide +kernel
theorem dX4_drawLots_64 : decode cX4_drawLots 64 = .ok (.istore_n 3, 1) := by decide +kernel
theorem dX4_drawLots_65 : decode cX4_drawLots 65 = .ok (.aload_n 0, 1) := by decide +kernel
theorem dX4_drawLots_66 : decode cX4_drawLots 66 = .ok (.getfield 17, 3) := by decide +kernel
theorem dX4_drawLots_69 : decode cX4_drawLots 69 = .ok (.iconst 1, 1) := by decide +kernel
theorem dX4_drawLots_70 : decode cX4_drawLots 70 = .ok (.aaload, 1) := by decide +kernel
theorem dX4_drawLots_71 : decode cX4_drawLots 71 = .ok (.iload 6, 2) := by decide +kernel
theorem dX4_drawLots_73 : decode cX4_drawLots 73 = .ok (.iload_n 3, 1) := by decide +kernel
theorem dX4_drawLots_74 : decode cX4_drawLots 74 = .ok (.iconst 2, 1) := by decide +kernel
theorem dX4_drawLots_75 : decode cX4_drawLots 75 = .ok (.irem, 1) := by decide +kernel
theorem dX4_drawLots_76 : decode cX4_drawLots 76 = .ok (.iastore, 1) := by decide +kernel
theorem dX4_drawLots_77 : decode cX4_drawLots 77 = .ok (.iload_n 3, 1) := by decide +kernel
theorem dX4_drawLots_78 : decode cX4_drawLots 78 = .ok (.invokestatic 42, 3) := by decide +kernel
theorem dX4_drawLots_81 : decode cX4_drawLots 81 = .ok (.istore_n 3, 1) := by decide +kernel
theorem dX4_drawLots_82 : decode cX4_drawLots 82 = .ok (.aload_n 0, 1) := by decide +kernel
theorem dX4_drawLots_83 : decode cX4_drawLots 83 = .ok (.getfield 17, 3) := by decide +kernel
theorem dX4_drawLots_86 : decode cX4_drawLots 86 = .ok (.iconst 2, 1) := by decide +kernel
theorem dX4_drawLots_87 : decode cX4_drawLots 87 = .ok (.aaload, 1) := by decide +kernel
theorem dX4_drawLots_88 : decode cX4_drawLots 88 = .ok (.iload 6, 2) := by decide +kernel
theorem dX4_drawLots_90 : decode cX4_drawLots 90 = .ok (.iload_n 3, 1) := by decide +kernel
theorem dX4_drawLots_91 : decode cX4_drawLots 91 = .ok (.iload 5, 2) := by decide +kernel
theorem dX4_drawLots_93 : decode cX4_drawLots 93 = .ok (.irem, 1) := by decide +kernel
theorem dX4_drawLots_94 : decode cX4_drawLots 94 = .ok (.iastore, 1) := by decide +kernel
theorem dX4_drawLots_95 : decode cX4_drawLots 95 = .ok (.iload_n 3, 1) := by decide +kernel
theorem dX4_drawLots_96 : decode cX4_drawLots 96 = .ok (.invokestatic 42, 3) := by decide +kernel
theorem dX4_drawLots_99 : decode cX4_drawLots 99 = .ok (.istore_n 3, 1) := by decide +kernel
theorem dX4_drawLots_100 : decode cX4_drawLots 100 = .ok (.aload_n 0, 1) := by decide +kernel
theorem dX4_drawLots_101 : decode cX4_drawLots 101 = .ok (.getfield 17, 3) := by decide +kernel
theorem dX4_drawLots_104 : decode cX4_drawLots 104 = .ok (.iconst 3, 1) := by decide +kernel
theorem dX4_drawLots_105 : decode cX4_drawLots 105 = .ok (.aaload, 1) := by decide +kernel
theorem dX4_drawLots_106 : decode cX4_drawLots 106 = .ok (.iload 6, 2) := by decide +kernel
theorem dX4_drawLots_108 : decode cX4_drawLots 108 = .ok (.iload_n 3, 1) := by decide +kernel
theorem dX4_drawLots_109 : decode cX4_drawLots 109 = .ok (.bipush 9, 2) := by decide +kernel
theorem dX4_drawLots_111 : decode cX4_drawLots 111 = .ok (.irem, 1) := by decide +kernel
theorem dX4_drawLots_112 : decode cX4_drawLots 112 = .ok (.iconst 1, 1) := by decide +kernel
theorem dX4_drawLots_113 : decode cX4_drawLots 113 = .ok (.iadd, 1) := by decide +kernel
theorem dX4_drawLots_114 : decode cX4_drawLots 114 = .ok (.iastore, 1) := by decide +kernel
theorem dX4_drawLots_115 : decode cX4_drawLots 115 = .ok (.iinc 6 1, 3) := by decide +kernel
theorem dX4_drawLots_118 : decode cX4_drawLots 118 = .ok (.goto (-84), 3) := by decide +kernel
theorem dX4_drawLots_121 : decode cX4_drawLots 121 = .ok (.return_, 1) := by decide +kernel
theorem dX4_nextLot_0 : decode cX4_nextLot 0 = .ok (.iload_n 0, 1) := by decide +kernel
theorem dX4_nextLot_1 : decode cX4_nextLot 1 = .ok (.i2l, 1) := by decide +kernel
theorem dX4_nextLot_2 : decode cX4_nextLot 2 = .ok (.ldc2_w 46, 3) := by decide +kernel
theorem dX4_nextLot_5 : decode cX4_nextLot 5 = .ok (.lmul, 1) := by decide +kernel
theorem dX4_nextLot_6 : decode cX4_nextLot 6 = .ok (.ldc2_w 48, 3) := by decide +kernel
theorem dX4_nextLot_9 : decode cX4_nextLot 9 = .ok (.lrem, 1) := by decide +kernel
theorem dX4_nextLot_10 : decode cX4_nextLot 10 = .ok (.l2i, 1) := by decide +kernel
theorem dX4_nextLot_11 : decode cX4_nextLot 11 = .ok (.ireturn, 1) := by decide +kernel
theorem dX4_standTogether_0 : decode cX4_standTogether 0 = .ok (.iload_n 2, 1) := by decide +kernel
theorem dX4_standTogether_1 : decode cX4_standTogether 1 = .ok (.aload_n 0, 1) := by decide +kernel
theorem dX4_standTogether_2 : decode cX4_standTogether 2 = .ok (.getfield 9, 3) := by decide +kernel
theorem dX4_standTogether_5 : decode cX4_standTogether 5 = .ok (.iconst 4, 1) := by decide +kernel
theorem dX4_standTogether_6 : decode cX4_standTogether 6 = .ok (.iaload, 1) := by decide +kernel
theorem dX4_standTogether_7 : decode cX4_standTogether 7 = .ok (.if_icmp .le 5, 3) := by decide +kernel
theorem dX4_standTogether_10 : decode cX4_standTogether 10 = .ok (.iconst 0, 1) := by decide +kernel
theorem dX4_standTogether_11 : decode cX4_standTogether 11 = .ok (.ireturn, 1) := by decide +kernel
theorem dX4_standTogether_12 : decode cX4_standTogether 12 = .ok (.aload_n 0, 1) := by decide +kernel
theorem dX4_standTogether_13 : decode cX4_standTogether 13 = .ok (.getfield 9, 3) := by decide +kernel
theorem dX4_standTogether_16 : decode cX4_standTogether 16 = .ok (.iconst 3, 1) := by decide +kernel
theorem dX4_standTogether_17 : decode cX4_standTogether 17 = .ok (.iaload, 1) := by decide +kernel
theorem dX4_standTogether_18 : decode cX4_standTogether 18 = .ok (.istore_n 3, 1) := by decide +kernel
theorem dX4_standTogether_19 : decode cX4_standTogether 19 = .ok (.iconst 0, 1) := by decide +kernel
theorem dX4_standTogether_20 : decode cX4_standTogether 20 = .ok (.istore 4, 2) := by decide +kernel
theorem dX4_standTogether_22 : decode cX4_standTogether 22 = .ok (.iload_n 1, 1) := by decide +kernel
theorem dX4_standTogether_23 : decode cX4_standTogether 23 = .ok (.istore 5, 2) := by decide +kernel
theorem dX4_standTogether_25 : decode cX4_standTogether 25 = .ok (.iload 5, 2) := by decide +kernel
theorem dX4_standTogether_27 : decode cX4_standTogether 27 = .ok (.iload_n 1, 1) := by decide +kernel
theorem dX4_standTogether_28 : decode cX4_standTogether 28 = .ok (.iload_n 2, 1) := by decide +kernel
theorem dX4_standTogether_29 : decode cX4_standTogether 29 = .ok (.iadd, 1) := by decide +kernel
theorem dX4_standTogether_30 : decode cX4_standTogether 30 = .ok (.if_icmp .ge 51, 3) := by decide +kernel
theorem dX4_standTogether_33 : decode cX4_standTogether 33 = .ok (.aload_n 0, 1) := by decide +kernel
theorem dX4_standTogether_34 : decode cX4_standTogether 34 = .ok (.getfield 17, 3) := by decide +kernel
theorem dX4_standTogether_37 : decode cX4_standTogether 37 = .ok (.iconst 1, 1) := by decide +kernel
theorem dX4_standTogether_38 : decode cX4_standTogether 38 = .ok (.aaload, 1) := by decide +kernel
theorem dX4_standTogether_39 : decode cX4_standTogether 39 = .ok (.iload 5, 2) := by decide +kernel
theorem dX4_standTogether_41 : decode cX4_standTogether 41 = .ok (.iaload, 1) := by decide +kernel
theorem dX4_standTogether_42 : decode cX4_standTogether 42 = .ok (.iconst 1, 1) := by decide +kernel
theorem dX4_standTogether_43 : decode cX4_standTogether 43 = .ok (.if_icmp .ne 18, 3) := by decide +kernel
theorem dX4_standTogether_46 : decode cX4_standTogether 46 = .ok (.iload_n 3, 1) := by decide +kernel
theorem dX4_standTogether_47 : decode cX4_standTogether 47 = .ok (.aload_n 0, 1) := by decide +kernel
theorem dX4_standTogether_48 : decode cX4_standTogether 48 = .ok (.getfield 17, 3) := by decide +kernel
theorem dX4_standTogether_51 : decode cX4_standTogether 51 = .ok (.iconst 0, 1) := by decide +kernel
theorem dX4_standTogether_52 : decode cX4_standTogether 52 = .ok (.aaload, 1) := by decide +kernel
theorem dX4_standTogether_53 : decode cX4_standTogether 53 = .ok (.iload 5, 2) := by decide +kernel
theorem dX4_standTogether_55 : decode cX4_standTogether 55 = .ok (.iaload, 1) := by decide +kernel
theorem dX4_standTogether_56 : decode cX4_standTogether 56 = .ok (.isub, 1) := by decide +kernel
theorem dX4_standTogether_57 : decode cX4_standTogether 57 = .ok (.istore_n 3, 1) := by decide +kernel
theorem dX4_standTogether_58 : decode cX4_standTogether 58 = .ok (.goto 17, 3) := by decide +kernel
theorem dX4_standTogether_61 : decode cX4_standTogether 61 = .ok (.iload 4, 2) := by decide +kernel
theorem dX4_standTogether_63 : decode cX4_standTogether 63 = .ok (.aload_n 0, 1) := by decide +kernel
theorem dX4_standTogether_64 : decode cX4_standTogether 64 = .ok (.getfield 17, 3) := by decide +kernel
theorem dX4_standTogether_67 : decode cX4_standTogether 67 = .ok (.iconst 0, 1) := by decide +kernel
theorem dX4_standTogether_68 : decode cX4_standTogether 68 = .ok (.aaload, 1) := by decide +kernel
theorem dX4_standTogether_69 : decode cX4_standTogether 69 = .ok (.iload 5, 2) := by decide +kernel
theorem dX4_standTogether_71 : decode cX4_standTogether 71 = .ok (.iaload, 1) := by decide +kernel
theorem dX4_standTogether_72 : decode cX4_standTogether 72 = .ok (.iadd, 1) := by decide +kernel
theorem dX4_standTogether_73 : decode cX4_standTogether 73 = .ok (.istore 4, 2) := by decide +kernel
theorem dX4_standTogether_75 : decode cX4_standTogether 75 = .ok (.iinc 5 1, 3) := by decide +kernel
theorem dX4_standTogether_78 : decode cX4_standTogether 78 = .ok (.goto (-53), 3) := by decide +kernel
theorem dX4_standTogether_81 : decode cX4_standTogether 81 = .ok (.aload_n 0, 1) := by decide +kernel
theorem dX4_standTogether_82 : decode cX4_standTogether 82 = .ok (.getfield 9, 3) := by decide +kernel
theorem dX4_standTogether_85 : decode cX4_standTogether 85 = .ok (.iconst 2, 1) := by decide +kernel
theorem dX4_standTogether_86 : decode cX4_standTogether 86 = .ok (.iaload, 1) := by decide +kernel
theorem dX4_standTogether_87 : decode cX4_standTogether 87 = .ok (.iconst 1, 1) := by decide +kernel
theorem dX4_standTogether_88 : decode cX4_standTogether 88 = .ok (.if_icmp .ne 7, 3) := by decide +kernel
theorem dX4_standTogether_91 : decode cX4_standTogether 91 = .ok (.iconst 1, 1) := by decide +kernel
theorem dX4_standTogether_92 : decode cX4_standTogether 92 = .ok (.goto 6, 3) := by decide +kernel
theorem dX4_standTogether_95 : decode cX4_standTogether 95 = .ok (.iconst 1, 1) := by decide +kernel
theorem dX4_standTogether_96 : decode cX4_standTogether 96 = .ok (.iload_n 2, 1) := by decide +kernel
theorem dX4_standTogether_97 : decode cX4_standTogether 97 = .ok (.ishl, 1) := by decide +kernel
theorem dX4_standTogether_98 : decode cX4_standTogether 98 = .ok (.istore 5, 2) := by decide +kernel
theorem dX4_standTogether_100 : decode cX4_standTogether 100 = .ok (.iconst 0, 1) := by decide +kernel
theorem dX4_standTogether_101 : decode cX4_standTogether 101 = .ok (.istore 6, 2) := by decide +kernel
theorem dX4_standTogether_103 : decode cX4_standTogether 103 = .ok (.iload 6, 2) := by decide +kernel
theorem dX4_standTogether_105 : decode cX4_standTogether 105 = .ok (.iload 5, 2) := by decide +kernel
theorem dX4_standTogether_107 : decode cX4_standTogether 107 = .ok (.if_icmp .ge 36, 3) := by decide +kernel
theorem dX4_standTogether_110 : decode cX4_standTogether 110 = .ok (.aload_n 0, 1) := by decide +kernel
theorem dX4_standTogether_111 : decode cX4_standTogether 111 = .ok (.iload_n 1, 1) := by decide +kernel
theorem dX4_standTogether_112 : decode cX4_standTogether 112 = .ok (.iload_n 2, 1) := by decide +kernel
theorem dX4_standTogether_113 : decode cX4_standTogether 113 = .ok (.iload 6, 2) := by decide +kernel
theorem dX4_standTogether_115 : decode cX4_standTogether 115 = .ok (.invokevirtual 50, 3) := by decide +kernel
theorem dX4_standTogether_118 : decode cX4_standTogether 118 = .ok (.istore 7, 2) := by decide +kernel
theorem dX4_standTogether_120 : decode cX4_standTogether 120 = .ok (.iload 7, 2) := by decide +kernel
theorem dX4_standTogether_122 : decode cX4_standTogether 122 = .ok (.iload_n 3, 1) := by decide +kernel
theorem dX4_standTogether_123 : decode cX4_standTogether 123 = .ok (.if_icmp .gt 14, 3) := by decide +kernel
theorem dX4_standTogether_126 : decode cX4_standTogether 126 = .ok (.iload 4, 2) := by decide +kernel
theorem dX4_standTogether_128 : decode cX4_standTogether 128 = .ok (.iload 7, 2) := by decide +kernel
theorem dX4_standTogether_130 : decode cX4_standTogether 130 = .ok (.isub, 1) := by decide +kernel
theorem dX4_standTogether_131 : decode cX4_standTogether 131 = .ok (.iload_n 3, 1) := by decide +kernel
theorem dX4_standTogether_132 : decode cX4_standTogether 132 = .ok (.if_icmp .gt 5, 3) := by decide +kernel
theorem dX4_standTogether_135 : decode cX4_standTogether 135 = .ok (.iconst 1, 1) := by decide +kernel
theorem dX4_standTogether_136 : decode cX4_standTogether 136 = .ok (.ireturn, 1) := by decide +kernel
theorem dX4_standTogether_137 : decode cX4_standTogether 137 = .ok (.iinc 6 1, 3) := by decide +kernel
theorem dX4_standTogether_140 : decode cX4_standTogether 140 = .ok (.goto (-37), 3) := by decide +kernel
theorem dX4_standTogether_143 : decode cX4_standTogether 143 = .ok (.iconst 0, 1) := by decide +kernel
theorem dX4_standTogether_144 : decode cX4_standTogether 144 = .ok (.ireturn, 1) := by decide +kernel
theorem dX4_heightsChosen_0 : decode cX4_heightsChosen 0 = .ok (.iconst 0, 1) := by decide +kernel
theorem dX4_heightsChosen_1 : decode cX4_heightsChosen 1 = .ok (.istore 4, 2) := by decide +kernel
theorem dX4_heightsChosen_3 : decode cX4_heightsChosen 3 = .ok (.iconst 0, 1) := by decide +kernel
theorem dX4_heightsChosen_4 : decode cX4_heightsChosen 4 = .ok (.istore 5, 2) := by decide +kernel
theorem dX4_heightsChosen_6 : decode cX4_heightsChosen 6 = .ok (.iload 5, 2) := by decide +kernel
theorem dX4_heightsChosen_8 : decode cX4_heightsChosen 8 = .ok (.iload_n 2, 1) := by decide +kernel
theorem dX4_heightsChosen_9 : decode cX4_heightsChosen 9 = .ok (.if_icmp .ge 49, 3) := by decide +kernel
theorem dX4_heightsChosen_12 : decode cX4_heightsChosen 12 = .ok (.iload_n 3, 1) := by decide +kernel
theorem dX4_heightsChosen_13 : decode cX4_heightsChosen 13 = .ok (.iload 5, 2) := by decide +kernel
theorem dX4_heightsChosen_15 : decode cX4_heightsChosen 15 = .ok (.ishr, 1) := by decide +kernel
theorem dX4_heightsChosen_16 : decode cX4_heightsChosen 16 = .ok (.iconst 1, 1) := by decide +kernel
theorem dX4_heightsChosen_17 : decode cX4_heightsChosen 17 = .ok (.iand, 1) := by decide +kernel
theorem dX4_heightsChosen_18 : decode cX4_heightsChosen 18 = .ok (.iconst 1, 1) := by decide +kernel
theorem dX4_heightsChosen_19 : decode cX4_heightsChosen 19 = .ok (.if_icmp .ne 33, 3) := by decide +kernel
theorem dX4_heightsChosen_22 : decode cX4_heightsChosen 22 = .ok (.aload_n 0, 1) := by decide +kernel
theorem dX4_heightsChosen_23 : decode cX4_heightsChosen 23 = .ok (.getfield 17, 3) := by decide +kernel
theorem dX4_heightsChosen_26 : decode cX4_heightsChosen 26 = .ok (.iconst 1, 1) := by decide +kernel
theorem dX4_heightsChosen_27 : decode cX4_heightsChosen 27 = .ok (.aaload, 1) := by decide +kernel
theorem dX4_heightsChosen_28 : decode cX4_heightsChosen 28 = .ok (.iload_n 1, 1) := by decide +kernel
theorem dX4_heightsChosen_29 : decode cX4_heightsChosen 29 = .ok (.iload 5, 2) := by decide +kernel
theorem dX4_heightsChosen_31 : decode cX4_heightsChosen 31 = .ok (.iadd, 1) := by decide +kernel
theorem dX4_heightsChosen_32 : decode cX4_heightsChosen 32 = .ok (.iaload, 1) := by decide +kernel
theorem dX4_heightsChosen_33 : decode cX4_heightsChosen 33 = .ok (.ifCond .ne 19, 3) := by decide +kernel
theorem dX4_heightsChosen_36 : decode cX4_heightsChosen 36 = .ok (.iload 4, 2) := by decide +kernel
theorem dX4_heightsChosen_38 : decode cX4_heightsChosen 38 = .ok (.aload_n 0, 1) := by decide +kernel
theorem dX4_heightsChosen_39 : decode cX4_heightsChosen 39 = .ok (.getfield 17, 3) := by decide +kernel
theorem dX4_heightsChosen_42 : decode cX4_heightsChosen 42 = .ok (.iconst 0, 1) := by decide +kernel
theorem dX4_heightsChosen_43 : decode cX4_heightsChosen 43 = .ok (.aaload, 1) := by decide +kernel
theorem dX4_heightsChosen_44 : decode cX4_heightsChosen 44 = .ok (.iload_n 1, 1) := by decide +kernel
theorem dX4_heightsChosen_45 : decode cX4_heightsChosen 45 = .ok (.iload 5, 2) := by decide +kernel
theorem dX4_heightsChosen_47 : decode cX4_heightsChosen 47 = .ok (.iadd, 1) := by decide +kernel
theorem dX4_heightsChosen_48 : decode cX4_heightsChosen 48 = .ok (.iaload, 1) := by decide +kernel
theorem dX4_heightsChosen_49 : decode cX4_heightsChosen 49 = .ok (.iadd, 1) := by decide +kernel
theorem dX4_heightsChosen_50 : decode cX4_heightsChosen 50 = .ok (.istore 4, 2) := by decide +kernel
theorem dX4_heightsChosen_52 : decode cX4_heightsChosen 52 = .ok (.iinc 5 1, 3) := by decide +kernel
theorem dX4_heightsChosen_55 : decode cX4_heightsChosen 55 = .ok (.goto (-49), 3) := by decide +kernel
theorem dX4_heightsChosen_58 : decode cX4_heightsChosen 58 = .ok (.iload 4, 2) := by decide +kernel
theorem dX4_heightsChosen_60 : decode cX4_heightsChosen 60 = .ok (.ireturn, 1) := by decide +kernel
theorem dX5_init_0 : decode cX5_init 0 = .ok (.aload_n 0, 1) := by decide +kernel
theorem dX5_init_1 : decode cX5_init 1 = .ok (.invokespecial 1, 3) := by decide +kernel
theorem dX5_init_4 : decode cX5_init 4 = .ok (.aload_n 0, 1) := by decide +kernel
theorem dX5_init_5 : decode cX5_init 5 = .ok (.new 7, 3) := by decide +kernel
theorem dX5_init_8 : decode cX5_init 8 = .ok (.dup, 1) := by decide +kernel
theorem dX5_init_9 : decode cX5_init 9 = .ok (.invokespecial 9, 3) := by decide +kernel
theorem dX5_init_12 : decode cX5_init 12 = .ok (.putfield 10, 3) := by decide +kernel
theorem dX5_init_15 : decode cX5_init 15 = .ok (.aload_n 0, 1) := by decide +kernel
theorem dX5_init_16 : decode cX5_init 16 = .ok (.new 7, 3) := by decide +kernel
theorem dX5_init_19 : decode cX5_init 19 = .ok (.dup, 1) := by decide +kernel
theorem dX5_init_20 : decode cX5_init 20 = .ok (.invokespecial 9, 3) := by decide +kernel
theorem dX5_init_23 : decode cX5_init 23 = .ok (.putfield 16, 3) := by decide +kernel
theorem dX5_init_26 : decode cX5_init 26 = .ok (.aload_n 0, 1) := by decide +kernel
theorem dX5_init_27 : decode cX5_init 27 = .ok (.iconst 2, 1) := by decide +kernel
theorem dX5_init_28 : decode cX5_init 28 = .ok (.anewarray 7, 3) := by decide +kernel
theorem dX5_init_31 : decode cX5_init 31 = .ok (.putfield 19, 3) := by decide +kernel
theorem dX5_init_34 : decode cX5_init 34 = .ok (.iconst 0, 1) := by decide +kernel
theorem dX5_init_35 : decode cX5_init 35 = .ok (.istore_n 1, 1) := by decide +kernel
theorem dX5_init_36 : decode cX5_init 36 = .ok (.iload_n 1, 1) := by decide +kernel
theorem dX5_init_37 : decode cX5_init 37 = .ok (.iconst 2, 1) := by decide +kernel
theorem dX5_init_38 : decode cX5_init 38 = .ok (.if_icmp .ge 22, 3) := by decide +kernel
theorem dX5_init_41 : decode cX5_init 41 = .ok (.aload_n 0, 1) := by decide +kernel
theorem dX5_init_42 : decode cX5_init 42 = .ok (.getfield 19, 3) := by decide +kernel
theorem dX5_init_45 : decode cX5_init 45 = .ok (.iload_n 1, 1) := by decide +kernel
theorem dX5_init_46 : decode cX5_init 46 = .ok (.new 7, 3) := by decide +kernel
theorem dX5_init_49 : decode cX5_init 49 = .ok (.dup, 1) := by decide +kernel
theorem dX5_init_50 : decode cX5_init 50 = .ok (.invokespecial 9, 3) := by decide +kernel
theorem dX5_init_53 : decode cX5_init 53 = .ok (.aastore, 1) := by decide +kernel
theorem dX5_init_54 : decode cX5_init 54 = .ok (.iinc 1 1, 3) := by decide +kernel
theorem dX5_init_57 : decode cX5_init 57 = .ok (.goto (-21), 3) := by decide +kernel
theorem dX5_init_60 : decode cX5_init 60 = .ok (.aload_n 0, 1) := by decide +kernel
theorem dX5_init_61 : decode cX5_init 61 = .ok (.iconst 2, 1) := by decide +kernel
theorem dX5_init_62 : decode cX5_init 62 = .ok (.newarray .boolean, 2) := by decide +kernel
theorem dX5_init_64 : decode cX5_init 64 = .ok (.putfield 23, 3) := by decide +kernel
theorem dX5_init_67 : decode cX5_init 67 = .ok (.aload_n 0, 1) := by decide +kernel
theorem dX5_init_68 : decode cX5_init 68 = .ok (.new 27, 3) := by decide +kernel
theorem dX5_init_71 : decode cX5_init 71 = .ok (.dup, 1) := by decide +kernel
theorem dX5_init_72 : decode cX5_init 72 = .ok (.invokespecial 29, 3) := by decide +kernel
theorem dX5_init_75 : decode cX5_init 75 = .ok (.putfield 30, 3) := by decide +kernel
theorem dX5_init_78 : decode cX5_init 78 = .ok (.aload_n 0, 1) := by decide +kernel
theorem dX5_init_79 : decode cX5_init 79 = .ok (.new 34, 3) := by decide +kernel
theorem dX5_init_82 : decode cX5_init 82 = .ok (.dup, 1) := by decide +kernel
theorem dX5_init_83 : decode cX5_init 83 = .ok (.invokespecial 36, 3) := by decide +kernel
theorem dX5_init_86 : decode cX5_init 86 = .ok (.putfield 37, 3) := by decide +kernel
theorem dX5_init_89 : decode cX5_init 89 = .ok (.aload_n 0, 1) := by decide +kernel
theorem dX5_init_90 : decode cX5_init 90 = .ok (.new 34, 3) := by decide +kernel
theorem dX5_init_93 : decode cX5_init 93 = .ok (.dup, 1) := by decide +kernel
theorem dX5_init_94 : decode cX5_init 94 = .ok (.invokespecial 36, 3) := by decide +kernel
theorem dX5_init_97 : decode cX5_init 97 = .ok (.putfield 41, 3) := by decide +kernel
theorem dX5_init_100 : decode cX5_init 100 = .ok (.aload_n 0, 1) := by decide +kernel
theorem dX5_init_101 : decode cX5_init 101 = .ok (.new 44, 3) := by decide +kernel
theorem dX5_init_104 : decode cX5_init 104 = .ok (.dup, 1) := by decide +kernel
theorem dX5_init_105 : decode cX5_init 105 = .ok (.invokespecial 46, 3) := by decide +kernel
theorem dX5_init_108 : decode cX5_init 108 = .ok (.putfield 47, 3) := by decide +kernel
theorem dX5_init_111 : decode cX5_init 111 = .ok (.aload_n 0, 1) := by decide +kernel
theorem dX5_init_112 : decode cX5_init 112 = .ok (.new 44, 3) := by decide +kernel
theorem dX5_init_115 : decode cX5_init 115 = .ok (.dup, 1) := by decide +kernel
theorem dX5_init_116 : decode cX5_init 116 = .ok (.invokespecial 46, 3) := by decide +kernel
theorem dX5_init_119 : decode cX5_init 119 = .ok (.putfield 51, 3) := by decide +kernel
theorem dX5_init_122 : decode cX5_init 122 = .ok (.aload_n 0, 1) := by decide +kernel
theorem dX5_init_123 : decode cX5_init 123 = .ok (.new 44, 3) := by decide +kernel
theorem dX5_init_126 : decode cX5_init 126 = .ok (.dup, 1) := by decide +kernel
theorem dX5_init_127 : decode cX5_init 127 = .ok (.invokespecial 46, 3) := by decide +kernel
theorem dX5_init_130 : decode cX5_init 130 = .ok (.putfield 54, 3) := by decide +kernel
theorem dX5_init_133 : decode cX5_init 133 = .ok (.aload_n 0, 1) := by decide +kernel
theorem dX5_init_134 : decode cX5_init 134 = .ok (.bipush 30, 2) := by decide +kernel
theorem dX5_init_136 : decode cX5_init 136 = .ok (.newarray .int, 2) := by decide +kernel
theorem dX5_init_138 : decode cX5_init 138 = .ok (.putfield 57, 3) := by decide +kernel
theorem dX5_init_141 : decode cX5_init 141 = .ok (.aload_n 0, 1) := by decide +kernel
theorem dX5_init_142 : decode cX5_init 142 = .ok (.iconst 0, 1) := by decide +kernel
theorem dX5_init_143 : decode cX5_init 143 = .ok (.putfield 61, 3) := by decide +kernel
theorem dX5_init_146 : decode cX5_init 146 = .ok (.aload_n 0, 1) := by decide +kernel
theorem dX5_init_147 : decode cX5_init 147 = .ok (.iconst 1, 1) := by decide +kernel
theorem dX5_init_148 : decode cX5_init 148 = .ok (.putfield 65, 3) := by decide +kernel
theorem dX5_init_151 : decode cX5_init 151 = .ok (.return_, 1) := by decide +kernel
theorem dX5_layout_0 : decode cX5_layout 0 = .ok (.aload_n 0, 1) := by decide +kernel
theorem dX5_layout_1 : decode cX5_layout 1 = .ok (.getfield 10, 3) := by decide +kernel
theorem dX5_layout_4 : decode cX5_layout 4 = .ok (.iload_n 1, 1) := by decide +kernel
theorem dX5_layout_5 : decode cX5_layout 5 = .ok (.iload_n 2, 1) := by decide +kernel
theorem dX5_layout_6 : decode cX5_layout 6 = .ok (.invokevirtual 69, 3) := by decide +kernel
theorem dX5_layout_9 : decode cX5_layout 9 = .ok (.ifCond .ne 6, 3) := by decide +kernel
theorem dX5_layout_12 : decode cX5_layout 12 = .ok (.ldc 73, 2) := by decide +kernel
theorem dX5_layout_14 : decode cX5_layout 14 = .ok (.ireturn, 1) := by decide +kernel
theorem dX5_layout_15 : decode cX5_layout 15 = .ok (.aload_n 0, 1) := by decide +kernel
theorem dX5_layout_16 : decode cX5_layout 16 = .ok (.getfield 10, 3) := by decide +kernel
theorem dX5_layout_19 : decode cX5_layout 19 = .ok (.getfield 74, 3) := by decide +kernel
theorem dX5_layout_22 : decode cX5_layout 22 = .ok (.iload_n 1, 1) := by decide +kernel
theorem dX5_layout_23 : decode cX5_layout 23 = .ok (.iaload, 1) := by decide +kernel
theorem dX5_layout_24 : decode cX5_layout 24 = .ok (.istore_n 3, 1) := by decide +kernel
theorem dX5_layout_25 : decode cX5_layout 25 = .ok (.aload_n 0, 1) := by decide +kernel
theorem dX5_layout_26 : decode cX5_layout 26 = .ok (.invokevirtual 77, 3) := by decide +kernel
theorem dX5_layout_29 : decode cX5_layout 29 = .ok (.aload_n 0, 1) := by decide +kernel
theorem dX5_layout_30 : decode cX5_layout 30 = .ok (.getfield 10, 3) := by decide +kernel
theorem dX5_layout_33 : decode cX5_layout 33 = .ok (.getfield 74, 3) := by decide +kernel
theorem dX5_layout_36 : decode cX5_layout 36 = .ok (.iload_n 1, 1) := by decide +kernel
theorem dX5_layout_37 : decode cX5_layout 37 = .ok (.iload_n 2, 1) := by decide +kernel
theorem dX5_layout_38 : decode cX5_layout 38 = .ok (.iastore, 1) := by decide +kernel
theorem dX5_layout_39 : decode cX5_layout 39 = .ok (.aload_n 0, 1) := by decide +kernel
theorem dX5_layout_40 : decode cX5_layout 40 = .ok (.getfield 10, 3) := by decide +kernel
theorem dX5_layout_43 : decode cX5_layout 43 = .ok (.getfield 74, 3) := by decide +kernel
theorem dX5_layout_46 : decode cX5_layout 46 = .ok (.iconst 3, 1) := by decide +kernel
theorem dX5_layout_47 : decode cX5_layout 47 = .ok (.aload_n 0, 1) := by decide +kernel
theorem dX5_layout_48 : decode cX5_layout 48 = .ok (.getfield 10, 3) := by decide +kernel
theorem dX5_layout_51 : decode cX5_layout 51 = .ok (.getfield 74, 3) := by decide +kernel
theorem dX5_layout_54 : decode cX5_layout 54 = .ok (.iconst 3, 1) := by decide +kernel
theorem dX5_layout_55 : decode cX5_layout 55 = .ok (.iaload, 1) := by decide +kernel
theorem dX5_layout_56 : decode cX5_layout 56 = .ok (.aload_n 0, 1) := by decide +kernel
theorem dX5_layout_57 : decode cX5_layout 57 = .ok (.getfield 10, 3) := by decide +kernel
theorem dX5_layout_60 : decode cX5_layout 60 = .ok (.getfield 74, 3) := by decide +kernel
theorem dX5_layout_63 : decode cX5_layout 63 = .ok (.iconst 1, 1) := by decide +kernel
theorem dX5_layout_64 : decode cX5_layout 64 = .ok (.iaload, 1) := by decide +kernel
theorem dX5_layout_65 : decode cX5_layout 65 = .ok (.invokestatic 80, 3) := by decide +kernel
theorem dX5_layout_68 : decode cX5_layout 68 = .ok (.iastore, 1) := by decide +kernel
theorem dX5_layout_69 : decode cX5_layout 69 = .ok (.iload_n 3, 1) := by decide +kernel
theorem dX5_layout_70 : decode cX5_layout 70 = .ok (.ireturn, 1) := by decide +kernel
theorem dX5_figure_0 : decode cX5_figure 0 = .ok (.iload_n 1, 1) := by decide +kernel
theorem dX5_figure_1 : decode cX5_figure 1 = .ok (.ifCond .lt 48, 3) := by decide +kernel
theorem dX5_figure_4 : decode cX5_figure 4 = .ok (.iload_n 1, 1) := by decide +kernel
theorem dX5_figure_5 : decode cX5_figure 5 = .ok (.aload_n 0, 1) := by decide +kernel
theorem dX5_figure_6 : decode cX5_figure 6 = .ok (.getfield 10, 3) := by decide +kernel
theorem dX5_figure_9 : decode cX5_figure 9 = .ok (.getfield 86, 3) := by decide +kernel
theorem dX5_figure_12 : decode cX5_figure 12 = .ok (.if_icmp .gt 37, 3) := by decide +kernel
theorem dX5_figure_15 : decode cX5_figure 15 = .ok (.iconst 0, 1) := by decide +kernel
theorem dX5_figure_16 : decode cX5_figure 16 = .ok (.iload_n 2, 1) := by decide +kernel
theorem dX5_figure_17 : decode cX5_figure 17 = .ok (.invokestatic 89, 3) := by decide +kernel
theorem dX5_figure_20 : decode cX5_figure 20 = .ok (.ifCond .eq 29, 3) := by decide +kernel
theorem dX5_figure_23 : decode cX5_figure 23 = .ok (.iconst 1, 1) := by decide +kernel
theorem dX5_figure_24 : decode cX5_figure 24 = .ok (.iload_n 3, 1) := by decide +kernel
theorem dX5_figure_25 : decode cX5_figure 25 = .ok (.invokestatic 89, 3) := by decide +kernel
theorem dX5_figure_28 : decode cX5_figure 28 = .ok (.ifCond .eq 21, 3) := by decide +kernel
theorem dX5_figure_31 : decode cX5_figure 31 = .ok (.iconst 2, 1) := by decide +kernel
theorem dX5_figure_32 : decode cX5_figure 32 = .ok (.iload 4, 2) := by decide +kernel
theorem dX5_figure_34 : decode cX5_figure 34 = .ok (.invokestatic 89, 3) := by decide +kernel
theorem dX5_figure_37 : decode cX5_figure 37 = .ok (.ifCond .eq 12, 3) := by decide +kernel
theorem dX5_figure_40 : decode cX5_figure 40 = .ok (.iconst 3, 1) := by decide +kernel
theorem dX5_figure_41 : decode cX5_figure 41 = .ok (.iload 5, 2) := by decide +kernel
theorem dX5_figure_43 : decode cX5_figure 43 = .ok (.invokestatic 89, 3) := by decide +kernel
theorem dX5_figure_46 : decode cX5_figure 46 = .ok (.ifCond .ne 6, 3) := by decide +kernel
theorem dX5_figure_49 : decode cX5_figure 49 = .ok (.ldc 73, 2) := by decide +kernel
theorem dX5_figure_51 : decode cX5_figure 51 = .ok (.ireturn, 1) := by decide +kernel
theorem dX5_figure_52 : decode cX5_figure 52 = .ok (.aload_n 0, 1) := by decide +kernel
theorem dX5_figure_53 : decode cX5_figure 53 = .ok (.getfield 10, 3) := by decide +kernel
theorem dX5_figure_56 : decode cX5_figure 56 = .ok (.getfield 86, 3) := by decide +kernel
theorem dX5_figure_59 : decode cX5_figure 59 = .ok (.bipush 10, 2) := by decide +kernel
theorem dX5_figure_61 : decode cX5_figure 61 = .ok (.if_icmp .lt 6, 3) := by decide +kernel
theorem dX5_figure_64 : decode cX5_figure 64 = .ok (.ldc 92, 2) := by decide +kernel
theorem dX5_figure_66 : decode cX5_figure 66 = .ok (.ireturn, 1) := by decide +kernel
theorem dX5_figure_67 : decode cX5_figure 67 = .ok (.aload_n 0, 1) := by decide +kernel
theorem dX5_figure_68 : decode cX5_figure 68 = .ok (.invokevirtual 77, 3) := by decide +kernel
theorem dX5_figure_71 : decode cX5_figure 71 = .ok (.aload_n 0, 1) := by decide +kernel
theorem dX5_figure_72 : decode cX5_figure 72 = .ok (.getfield 10, 3) := by decide +kernel
theorem dX5_figure_75 : decode cX5_figure 75 = .ok (.iload_n 1, 1) := by decide +kernel
theorem dX5_figure_76 : decode cX5_figure 76 = .ok (.invokevirtual 93, 3) := by decide +kernel
theorem dX5_figure_79 : decode cX5_figure 79 = .ok (.aload_n 0, 1) := by decide +kernel
theorem dX5_figure_80 : decode cX5_figure 80 = .ok (.getfield 10, 3) := by decide +kernel
theorem dX5_figure_83 : decode cX5_figure 83 = .ok (.iload_n 1, 1) := by decide +kernel
theorem dX5_figure_84 : decode cX5_figure 84 = .ok (.iload_n 2, 1) := by decide +kernel
theorem dX5_figure_85 : decode cX5_figure 85 = .ok (.iload_n 3, 1) := by decide +kernel
theorem dX5_figure_86 : decode cX5_figure 86 = .ok (.iload 4, 2) := by decide +kernel
theorem dX5_figure_88 : decode cX5_figure 88 = .ok (.iload 5, 2) := by decide +kernel
theorem dX5_figure_90 : decode cX5_figure 90 = .ok (.invokevirtual 97, 3) := by decide +kernel
theorem dX5_figure_93 : decode cX5_figure 93 = .ok (.aload_n 0, 1) := by decide +kernel
theorem dX5_figure_94 : decode cX5_figure 94 = .ok (.getfield 10, 3) := by decide +kernel
theorem dX5_figure_97 : decode cX5_figure 97 = .ok (.getfield 86, 3) := by decide +kernel
theorem dX5_figure_100 : decode cX5_figure 100 = .ok (.ireturn, 1) := by decide +kernel
theorem dX5_drop_0 : decode cX5_drop 0 = .ok (.aload_n 0, 1) := by decide +kernel
theorem dX5_drop_1 : decode cX5_drop 1 = .ok (.getfield 10, 3) := by decide +kernel
theorem dX5_drop_4 : decode cX5_drop 4 = .ok (.iload_n 1, 1) := by decide +kernel
theorem dX5_drop_5 : decode cX5_drop 5 = .ok (.invokevirtual 101, 3) := by decide +kernel
theorem dX5_drop_8 : decode cX5_drop 8 = .ok (.ifCond .ne 6, 3) := by decide +kernel
theorem dX5_drop_11 : decode cX5_drop 11 = .ok (.ldc 105, 2) := by decide +kernel
theorem dX5_drop_13 : decode cX5_drop 13 = .ok (.ireturn, 1) := by decide +kernel
theorem dX5_drop_14 : decode cX5_drop 14 = .ok (.aload_n 0, 1) := by decide +kernel
theorem dX5_drop_15 : decode cX5_drop 15 = .ok (.invokevirtual 77, 3) := by decide +kernel
theorem dX5_drop_18 : decode cX5_drop 18 = .ok (.aload_n 0, 1) := by decide +kernel
theorem dX5_drop_19 : decode cX5_drop 19 = .ok (.getfield 10, 3) := by decide +kernel
theorem dX5_drop_22 : decode cX5_drop 22 = .ok (.iload_n 1, 1) := by decide +kernel
theorem dX5_drop_23 : decode cX5_drop 23 = .ok (.invokevirtual 106, 3) := by decide +kernel
theorem dX5_drop_26 : decode cX5_drop 26 = .ok (.aload_n 0, 1) := by decide +kernel
theorem dX5_drop_27 : decode cX5_drop 27 = .ok (.getfield 10, 3) := by decide +kernel
theorem dX5_drop_30 : decode cX5_drop 30 = .ok (.getfield 86, 3) := by decide +kernel
theorem dX5_drop_33 : decode cX5_drop 33 = .ok (.ireturn, 1) := by decide +kernel
theorem dX5_mention_0 : decode cX5_mention 0 = .ok (.aload_n 0, 1) := by decide +kernel
theorem dX5_mention_1 : decode cX5_mention 1 = .ok (.getfield 10, 3) := by decide +kernel
theorem dX5_mention_4 : decode cX5_mention 4 = .ok (.iload_n 1, 1) := by decide +kernel
theorem dX5_mention_5 : decode cX5_mention 5 = .ok (.invokevirtual 101, 3) := by decide +kernel
theorem dX5_mention_8 : decode cX5_mention 8 = .ok (.ifCond .ne 6, 3) := by decide +kernel
theorem dX5_mention_11 : decode cX5_mention 11 = .ok (.ldc 105, 2) := by decide +kernel
theorem dX5_mention_13 : decode cX5_mention 13 = .ok (.ireturn, 1) := by decide +kernel
theorem dX5_mention_14 : decode cX5_mention 14 = .ok (.iconst 2, 1) := by decide +kernel
theorem dX5_mention_15 : decode cX5_mention 15 = .ok (.iload_n 2, 1) := by decide +kernel
theorem dX5_mention_16 : decode cX5_mention 16 = .ok (.invokestatic 89, 3) := by decide +kernel
theorem dX5_mention_19 : decode cX5_mention 19 = .ok (.ifCond .ne 6, 3) := by decide +kernel
theorem dX5_mention_22 : decode cX5_mention 22 = .ok (.ldc 73, 2) := by decide +kernel
theorem dX5_mention_24 : decode cX5_mention 24 = .ok (.ireturn, 1) := by decide +kernel
theorem dX5_mention_25 : decode cX5_mention 25 = .ok (.aload_n 0, 1) := by decide +kernel
theorem dX5_mention_26 : decode cX5_mention 26 = .ok (.getfield 10, 3) := by decide +kernel
theorem dX5_mention_29 : decode cX5_mention 29 = .ok (.getfield 109, 3) := by decide +kernel
theorem dX5_mention_32 : decode cX5_mention 32 = .ok (.iconst 2, 1) := by decide +kernel
theorem dX5_mention_33 : decode cX5_mention 33 = .ok (.aaload, 1) := by decide +kernel
theorem dX5_mention_34 : decode cX5_mention 34 = .ok (.iload_n 1, 1) := by decide +kernel
theorem dX5_mention_35 : decode cX5_mention 35 = .ok (.iaload, 1) := by decide +kernel
theorem dX5_mention_36 : decode cX5_mention 36 = .ok (.istore_n 3, 1) := by decide +kernel
theorem dX5_mention_37 : decode cX5_mention 37 = .ok (.aload_n 0, 1) := by decide +kernel
theorem dX5_mention_38 : decode cX5_mention 38 = .ok (.invokevirtual 77, 3) := by decide +kernel
theorem dX5_mention_41 : decode cX5_mention 41 = .ok (.aload_n 0, 1) := by decide +kernel
theorem dX5_mention_42 : decode cX5_mention 42 = .ok (.getfield 10, 3) := by decide +kernel
theorem dX5_mention_45 : decode cX5_mention 45 = .ok (.getfield 109, 3) := by decide +kernel
theorem dX5_mention_48 : decode cX5_mention 48 = .ok (.iconst 2, 1) := by decide +kernel
theorem dX5_mention_49 : decode cX5_mention 49 = .ok (.aaload, 1) := by decide +kernel
theorem dX5_mention_50 : decode cX5_mention 50 = .ok (.iload_n 1, 1) := by decide +kernel
theorem dX5_mention_51 : decode cX5_mention 51 = .ok (.iload_n 2, 1) := by decide +kernel
theorem dX5_mention_52 : decode cX5_mention 52 = .ok (.iastore, 1) := by decide +kernel
theorem dX5_mention_53 : decode cX5_mention 53 = .ok (.iload_n 3, 1) := by decide +kernel
theorem dX5_mention_54 : decode cX5_mention 54 = .ok (.ireturn, 1) := by decide +kernel
theorem dX5_drift_0 : decode cX5_drift 0 = .ok (.iload_n 1, 1) := by decide +kernel
theorem dX5_drift_1 : decode cX5_drift 1 = .ok (.ifCond .lt 20, 3) := by decide +kernel
theorem dX5_drift_4 : decode cX5_drift 4 = .ok (.iload_n 1, 1) := by decide +kernel
theorem dX5_drift_5 : decode cX5_drift 5 = .ok (.bipush 10, 2) := by decide +kernel
theorem dX5_drift_7 : decode cX5_drift 7 = .ok (.if_icmp .gt 14, 3) := by decide +kernel
theorem dX5_drift_10 : decode cX5_drift 10 = .ok (.iload_n 2, 1) := by decide +kernel
theorem dX5_drift_11 : decode cX5_drift 11 = .ok (.iconst 1, 1) := by decide +kernel
theorem dX5_drift_12 : decode cX5_drift 12 = .ok (.if_icmp .lt 9, 3) := by decide +kernel
theorem dX5_drift_15 : decode cX5_drift 15 = .ok (.iload_n 2, 1) := by decide +kernel
theorem dX5_drift_16 : decode cX5_drift 16 = .ok (.ldc 113, 2) := by decide +kernel
theorem dX5_drift_18 : decode cX5_drift 18 = .ok (.if_icmp .le 6, 3) := by decide +kernel
theorem dX5_drift_21 : decode cX5_drift 21 = .ok (.ldc 73, 2) := by decide +kernel
theorem dX5_drift_23 : decode cX5_drift 23 = .ok (.ireturn, 1) := by decide +kernel
theorem dX5_drift_24 : decode cX5_drift 24 = .ok (.aload_n 0, 1) := by decide +kernel
theorem dX5_drift_25 : decode cX5_drift 25 = .ok (.invokevirtual 77, 3) := by decide +kernel
theorem dX5_drift_28 : decode cX5_drift 28 = .ok (.aload_n 0, 1) := by decide +kernel
theorem dX5_drift_29 : decode cX5_drift 29 = .ok (.getfield 10, 3) := by decide +kernel
theorem dX5_drift_32 : decode cX5_drift 32 = .ok (.iload_n 1, 1) := by decide +kernel
theorem dX5_drift_33 : decode cX5_drift 33 = .ok (.iload_n 2, 1) := by decide +kernel
theorem dX5_drift_34 : decode cX5_drift 34 = .ok (.invokevirtual 114, 3) := by decide +kernel
theorem dX5_drift_37 : decode cX5_drift 37 = .ok (.aload_n 0, 1) := by decide +kernel
theorem dX5_drift_38 : decode cX5_drift 38 = .ok (.invokevirtual 118, 3) := by decide +kernel
theorem dX5_drift_41 : decode cX5_drift 41 = .ok (.aload_n 0, 1) := by decide +kernel
theorem dX5_drift_42 : decode cX5_drift 42 = .ok (.getfield 37, 3) := by decide +kernel
theorem dX5_drift_45 : decode cX5_drift 45 = .ok (.iconst 0, 1) := by decide +kernel
theorem dX5_drift_46 : decode cX5_drift 46 = .ok (.iconst 0, 1) := by decide +kernel
theorem dX5_drift_47 : decode cX5_drift 47 = .ok (.invokevirtual 121, 3) := by decide +kernel
theorem dX5_drift_50 : decode cX5_drift 50 = .ok (.ireturn, 1) := by decide +kernel
theorem dX5_undo_0 : decode cX5_undo 0 = .ok (.aload_n 0, 1) := by decide +kernel
theorem dX5_undo_1 : decode cX5_undo 1 = .ok (.getfield 30, 3) := by decide +kernel
theorem dX5_undo_4 : decode cX5_undo 4 = .ok (.getfield 124, 3) := by decide +kernel
theorem dX5_undo_7 : decode cX5_undo 7 = .ok (.ifCond .ne 6, 3) := by decide +kernel
theorem dX5_undo_10 : decode cX5_undo 10 = .ok (.ldc 127, 2) := by decide +kernel
theorem dX5_undo_12 : decode cX5_undo 12 = .ok (.ireturn, 1) := by decide +kernel
theorem dX5_undo_13 : decode cX5_undo 13 = .ok (.aload_n 0, 1) := by decide +kernel
theorem dX5_undo_14 : decode cX5_undo 14 = .ok (.getfield 30, 3) := by decide +kernel
theorem dX5_undo_17 : decode cX5_undo 17 = .ok (.aload_n 0, 1) := by decide +kernel
theorem dX5_undo_18 : decode cX5_undo 18 = .ok (.getfield 10, 3) := by decide +kernel
theorem dX5_undo_21 : decode cX5_undo 21 = .ok (.invokevirtual 128, 3) := by decide +kernel
theorem dX5_undo_24 : decode cX5_undo 24 = .ok (.aload_n 0, 1) := by decide +kernel
theorem dX5_undo_25 : decode cX5_undo 25 = .ok (.iconst 1, 1) := by decide +kernel
theorem dX5_undo_26 : decode cX5_undo 26 = .ok (.putfield 65, 3) := by decide +kernel
theorem dX5_undo_29 : decode cX5_undo 29 = .ok (.aload_n 0, 1) := by decide +kernel
theorem dX5_undo_30 : decode cX5_undo 30 = .ok (.getfield 30, 3) := by decide +kernel
theorem dX5_undo_33 : decode cX5_undo 33 = .ok (.getfield 124, 3) := by decide +kernel
theorem dX5_undo_36 : decode cX5_undo 36 = .ok (.ireturn, 1) := by decide +kernel
theorem dX5_told_0 : decode cX5_told 0 = .ok (.iload_n 1, 1) := by decide +kernel
theorem dX5_told_1 : decode cX5_told 1 = .ok (.ifCond .lt 9, 3) := by decide +kernel
theorem dX5_told_4 : decode cX5_told 4 = .ok (.iload_n 1, 1) := by decide +kernel
theorem dX5_told_5 : decode cX5_told 5 = .ok (.bipush 15, 2) := by decide +kernel
theorem dX5_told_7 : decode cX5_told 7 = .ok (.if_icmp .le 6, 3) := by decide +kernel
theorem dX5_told_10 : decode cX5_told 10 = .ok (.ldc 73, 2) := by decide +kernel
theorem dX5_told_12 : decode cX5_told 12 = .ok (.ireturn, 1) := by decide +kernel
theorem dX5_told_13 : decode cX5_told 13 = .ok (.iload_n 1, 1) := by decide +kernel
theorem dX5_told_14 : decode cX5_told 14 = .ok (.bipush 6, 2) := by decide +kernel
theorem dX5_told_16 : decode cX5_told 16 = .ok (.if_icmp .ge 13, 3) := by decide +kernel
theorem dX5_told_19 : decode cX5_told 19 = .ok (.aload_n 0, 1) := by decide +kernel
theorem dX5_told_20 : decode cX5_told 20 = .ok (.getfield 10, 3) := by decide +kernel
theorem dX5_told_23 : decode cX5_told 23 = .ok (.getfield 74, 3) := by decide +kernel
theorem dX5_told_26 : decode cX5_told 26 = .ok (.iload_n 1, 1) := by decide +kernel
theorem dX5_told_27 : decode cX5_told 27 = .ok (.iaload, 1) := by decide +kernel
theorem dX5_told_28 : decode cX5_told 28 = .ok (.ireturn, 1) := by decide +kernel
theorem dX5_told_29 : decode cX5_told 29 = .ok (.aload_n 0, 1) := by decide +kernel
theorem dX5_told_30 : decode cX5_told 30 = .ok (.invokevirtual 118, 3) := by decide +kernel
theorem dX5_told_33 : decode cX5_told 33 = .ok (.iload_n 1, 1) := by decide +kernel
theorem dX5_told_34 : decode cX5_told 34 = .ok (.tableswitch 138 6 14 #[50, 58, 69, 79, 87, 102, 110, 118, 133], 50) := by decide +kernel
theorem dX5_told_84 : decode cX5_told 84 = .ok (.aload_n 0, 1) := by decide +kernel
theorem dX5_told_85 : decode cX5_told 85 = .ok (.getfield 10, 3) := by decide +kernel
theorem dX5_told_88 : decode cX5_told 88 = .ok (.getfield 86, 3) := by decide +kernel
theorem dX5_told_91 : decode cX5_told 91 = .ok (.ireturn, 1) := by decide +kernel
theorem dX5_told_92 : decode cX5_told 92 = .ok (.aload_n 0, 1) := by decide +kernel
theorem dX5_told_93 : decode cX5_told 93 = .ok (.getfield 37, 3) := by decide +kernel
theorem dX5_told_96 : decode cX5_told 96 = .ok (.getfield 132, 3) := by decide +kernel
theorem dX5_told_99 : decode cX5_told 99 = .ok (.getfield 136, 3) := by decide +kernel
theorem dX5_told_102 : decode cX5_told 102 = .ok (.ireturn, 1) := by decide +kernel
theorem dX5_told_103 : decode cX5_told 103 = .ok (.aload_n 0, 1) := by decide +kernel
theorem dX5_told_104 : decode cX5_told 104 = .ok (.getfield 37, 3) := by decide +kernel
theorem dX5_told_107 : decode cX5_told 107 = .ok (.iconst 0, 1) := by decide +kernel
theorem dX5_told_108 : decode cX5_told 108 = .ok (.iconst 0, 1) := by decide +kernel
theorem dX5_told_109 : decode cX5_told 109 = .ok (.invokevirtual 121, 3) := by decide +kernel
theorem dX5_told_112 : decode cX5_told 112 = .ok (.ireturn, 1) := by decide +kernel
theorem dX5_told_113 : decode cX5_told 113 = .ok (.aload_n 0, 1) := by decide +kernel
theorem dX5_told_114 : decode cX5_told 114 = .ok (.getfield 47, 3) := by decide +kernel
theorem dX5_told_117 : decode cX5_told 117 = .ok (.getfield 141, 3) := by decide +kernel
theorem dX5_told_120 : decode cX5_told 120 = .ok (.ireturn, 1) := by decide +kernel
theorem dX5_told_121 : decode cX5_told 121 = .ok (.aload_n 0, 1) := by decide +kernel
theorem dX5_told_122 : decode cX5_told 122 = .ok (.getfield 51, 3) := by decide +kernel
theorem dX5_told_125 : decode cX5_told 125 = .ok (.aload_n 0, 1) := by decide +kernel
theorem dX5_told_126 : decode cX5_told 126 = .ok (.getfield 37, 3) := by decide +kernel
theorem dX5_told_129 : decode cX5_told 129 = .ok (.getfield 132, 3) := by decide +kernel
theorem dX5_told_132 : decode cX5_told 132 = .ok (.invokevirtual 144, 3) := by decide +kernel
theorem dX5_told_135 : decode cX5_told 135 = .ok (.ireturn, 1) := by decide +kernel
theorem dX5_told_136 : decode cX5_told 136 = .ok (.aload_n 0, 1) := by decide +kernel
theorem dX5_told_137 : decode cX5_told 137 = .ok (.getfield 51, 3) := by decide +kernel
theorem dX5_told_140 : decode cX5_told 140 = .ok (.getfield 141, 3) := by decide +kernel
theorem dX5_told_143 : decode cX5_told 143 = .ok (.ireturn, 1) := by decide +kernel
theorem dX5_told_144 : decode cX5_told 144 = .ok (.aload_n 0, 1) := by decide +kernel
theorem dX5_told_145 : decode cX5_told 145 = .ok (.getfield 37, 3) := by decide +kernel
theorem dX5_told_148 : decode cX5_told 148 = .ok (.getfield 148, 3) := by decide +kernel
theorem dX5_told_151 : decode cX5_told 151 = .ok (.ireturn, 1) := by decide +kernel
theorem dX5_told_152 : decode cX5_told 152 = .ok (.aload_n 0, 1) := by decide +kernel
theorem dX5_told_153 : decode cX5_told 153 = .ok (.getfield 47, 3) := by decide +kernel
theorem dX5_told_156 : decode cX5_told 156 = .ok (.aload_n 0, 1) := by decide +kernel
theorem dX5_told_157 : decode cX5_told 157 = .ok (.getfield 37, 3) := by decide +kernel
theorem dX5_told_160 : decode cX5_told 160 = .ok (.getfield 132, 3) := by decide +kernel
theorem dX5_told_163 : decode cX5_told 163 = .ok (.invokevirtual 151, 3) := by decide +kernel
theorem dX5_told_166 : decode cX5_told 166 = .ok (.ireturn, 1) := by decide +kernel
theorem dX5_told_167 : decode cX5_told 167 = .ok (.aload_n 0, 1) := by decide +kernel
theorem dX5_told_168 : decode cX5_told 168 = .ok (.getfield 61, 3) := by decide +kernel
theorem dX5_told_171 : decode cX5_told 171 = .ok (.ireturn, 1) := by decide +kernel
theorem dX5_told_172 : decode cX5_told 172 = .ok (.aload_n 0, 1) := by decide +kernel
theorem dX5_told_173 : decode cX5_told 173 = .ok (.getfield 30, 3) := by decide +kernel
theorem dX5_told_176 : decode cX5_told 176 = .ok (.getfield 124, 3) := by decide +kernel
theorem dX5_told_179 : decode cX5_told 179 = .ok (.ireturn, 1) := by decide +kernel
theorem dX5_figureOf_0 : decode cX5_figureOf 0 = .ok (.aload_n 0, 1) := by decide +kernel
theorem dX5_figureOf_1 : decode cX5_figureOf 1 = .ok (.getfield 10, 3) := by decide +kernel
theorem dX5_figureOf_4 : decode cX5_figureOf 4 = .ok (.iload_n 1, 1) := by decide +kernel
theorem dX5_figureOf_5 : decode cX5_figureOf 5 = .ok (.invokevirtual 101, 3) := by decide +kernel
theorem dX5_figureOf_8 : decode cX5_figureOf 8 = .ok (.ifCond .ne 6, 3) := by decide +kernel
theorem dX5_figureOf_11 : decode cX5_figureOf 11 = .ok (.ldc 105, 2) := by decide +kernel
theorem dX5_figureOf_13 : decode cX5_figureOf 13 = .ok (.ireturn, 1) := by decide +kernel
theorem dX5_figureOf_14 : decode cX5_figureOf 14 = .ok (.iload_n 2, 1) := by decide +kernel
theorem dX5_figureOf_15 : decode cX5_figureOf 15 = .ok (.ifCond .lt 9, 3) := by decide +kernel
theorem dX5_figureOf_18 : decode cX5_figureOf 18 = .ok (.iload_n 2, 1) := by decide +kernel
theorem dX5_figureOf_19 : decode cX5_figureOf 19 = .ok (.bipush 7, 2) := by decide +kernel
theorem dX5_figureOf_21 : decode cX5_figureOf 21 = .ok (.if_icmp .le 6, 3) := by decide +kernel
theorem dX5_figureOf_24 : decode cX5_figureOf 24 = .ok (.ldc 73, 2) := by decide +kernel
theorem dX5_figureOf_26 : decode cX5_figureOf 26 = .ok (.ireturn, 1) := by decide +kernel
theorem dX5_figureOf_27 : decode cX5_figureOf 27 = .ok (.iload_n 2, 1) := by decide +kernel
theorem dX5_figureOf_28 : decode cX5_figureOf 28 = .ok (.iconst 4, 1) := by decide +kernel
theorem dX5_figureOf_29 : decode cX5_figureOf 29 = .ok (.if_icmp .ge 15, 3) := by decide +kernel
theorem dX5_figureOf_32 : decode cX5_figureOf 32 = .ok (.aload_n 0, 1) := by decide +kernel
theorem dX5_figureOf_33 : decode cX5_figureOf 33 = .ok (.getfield 10, 3) := by decide +kernel
theorem dX5_figureOf_36 : decode cX5_figureOf 36 = .ok (.getfield 109, 3) := by decide +kernel
theorem dX5_figureOf_39 : decode cX5_figureOf 39 = .ok (.iload_n 2, 1) := by decide +kernel
theorem dX5_figureOf_40 : decode cX5_figureOf 40 = .ok (.aaload, 1) := by decide +kernel
theorem dX5_figureOf_41 : decode cX5_figureOf 41 = .ok (.iload_n 1, 1) := by decide +kernel
theorem dX5_figureOf_42 : decode cX5_figureOf 42 = .ok (.iaload, 1) := by decide +kernel
theorem dX5_figureOf_43 : decode cX5_figureOf 43 = .ok (.ireturn, 1) := by decide +kernel
theorem dX5_figureOf_44 : decode cX5_figureOf 44 = .ok (.aload_n 0, 1) := by decide +kernel
theorem dX5_figureOf_45 : decode cX5_figureOf 45 = .ok (.invokevirtual 118, 3) := by decide +kernel
theorem dX5_figureOf_48 : decode cX5_figureOf 48 = .ok (.iload_n 2, 1) := by decide +kernel
theorem dX5_figureOf_49 : decode cX5_figureOf 49 = .ok (.tableswitch 72 4 6 #[27, 36, 56], 27) := by decide +kernel
theorem dX5_figureOf_76 : decode cX5_figureOf 76 = .ok (.aload_n 0, 1) := by decide +kernel
theorem dX5_figureOf_77 : decode cX5_figureOf 77 = .ok (.getfield 47, 3) := by decide +kernel
theorem dX5_figureOf_80 : decode cX5_figureOf 80 = .ok (.iload_n 1, 1) := by decide +kernel
theorem dX5_figureOf_81 : decode cX5_figureOf 81 = .ok (.invokevirtual 154, 3) := by decide +kernel
theorem dX5_figureOf_84 : decode cX5_figureOf 84 = .ok (.ireturn, 1) := by decide +kernel
theorem dX5_figureOf_85 : decode cX5_figureOf 85 = .ok (.aload_n 0, 1) := by decide +kernel
theorem dX5_figureOf_86 : decode cX5_figureOf 86 = .ok (.getfield 47, 3) := by decide +kernel
theorem dX5_figureOf_89 : decode cX5_figureOf 89 = .ok (.aload_n 0, 1) := by decide +kernel
theorem dX5_figureOf_90 : decode cX5_figureOf 90 = .ok (.getfield 37, 3) := by decide +kernel
theorem dX5_figureOf_93 : decode cX5_figureOf 93 = .ok (.getfield 132, 3) := by decide +kernel
theorem dX5_figureOf_96 : decode cX5_figureOf 96 = .ok (.getfield 158, 3) := by decide +kernel
theorem dX5_figureOf_99 : decode cX5_figureOf 99 = .ok (.iload_n 1, 1) := by decide +kernel
theorem dX5_figureOf_100 : decode cX5_figureOf 100 = .ok (.iaload, 1) := by decide +kernel
theorem dX5_figureOf_101 : decode cX5_figureOf 101 = .ok (.invokevirtual 161, 3) := by decide +kernel
theorem dX5_figureOf_104 : decode cX5_figureOf 104 = .ok (.ireturn, 1) := by decide +kernel
theorem dX5_figureOf_105 : decode cX5_figureOf 105 = .ok (.aload_n 0, 1) := by decide +kernel
theorem dX5_figureOf_106 : decode cX5_figureOf 106 = .ok (.getfield 47, 3) := by decide +kernel
theorem dX5_figureOf_109 : decode cX5_figureOf 109 = .ok (.aload_n 0, 1) := by decide +kernel
theorem dX5_figureOf_110 : decode cX5_figureOf 110 = .ok (.getfield 37, 3) := by decide +kernel
theorem dX5_figureOf_113 : decode cX5_figureOf 113 = .ok (.getfield 132, 3) := by decide +kernel
theorem dX5_figureOf_116 : decode cX5_figureOf 116 = .ok (.iload_n 1, 1) := by decide +kernel
theorem dX5_figureOf_117 : decode cX5_figureOf 117 = .ok (.invokevirtual 164, 3) := by decide +kernel
theorem dX5_figureOf_120 : decode cX5_figureOf 120 = .ok (.ireturn, 1) := by decide +kernel
theorem dX5_figureOf_121 : decode cX5_figureOf 121 = .ok (.aload_n 0, 1) := by decide +kernel
theorem dX5_figureOf_122 : decode cX5_figureOf 122 = .ok (.getfield 51, 3) := by decide +kernel
theorem dX5_figureOf_125 : decode cX5_figureOf 125 = .ok (.iload_n 1, 1) := by decide +kernel
theorem dX5_figureOf_126 : decode cX5_figureOf 126 = .ok (.invokevirtual 154, 3) := by decide +kernel
theorem dX5_figureOf_129 : decode cX5_figureOf 129 = .ok (.ireturn, 1) := by decide +kernel
theorem dX5_page_0 : decode cX5_page 0 = .ok (.aload_n 0, 1) := by decide +kernel
theorem dX5_page_1 : decode cX5_page 1 = .ok (.invokevirtual 118, 3) := by decide +kernel
theorem dX5_page_4 : decode cX5_page 4 = .ok (.iload_n 1, 1) := by decide +kernel
theorem dX5_page_5 : decode cX5_page 5 = .ok (.ifCond .lt 14, 3) := by decide +kernel
theorem dX5_page_8 : decode cX5_page 8 = .ok (.iload_n 1, 1) := by decide +kernel
theorem dX5_page_9 : decode cX5_page 9 = .ok (.aload_n 0, 1) := by decide +kernel
theorem dX5_page_10 : decode cX5_page 10 = .ok (.getfield 47, 3) := by decide +kernel
theorem dX5_page_13 : decode cX5_page 13 = .ok (.getfield 141, 3) := by decide +kernel
theorem dX5_page_16 : decode cX5_page 16 = .ok (.if_icmp .lt 6, 3) := by decide +kernel
theorem dX5_page_19 : decode cX5_page 19 = .ok (.ldc 105, 2) := by decide +kernel
theorem dX5_page_21 : decode cX5_page 21 = .ok (.ireturn, 1) := by decide +kernel
theorem dX5_page_22 : decode cX5_page 22 = .ok (.iload_n 2, 1) := by decide +kernel
theorem dX5_page_23 : decode cX5_page 23 = .ok (.ifCond .lt 9, 3) := by decide +kernel
theorem dX5_page_26 : decode cX5_page 26 = .ok (.iload_n 2, 1) := by decide +kernel
theorem dX5_page_27 : decode cX5_page 27 = .ok (.bipush 6, 2) := by decide +kernel
theorem dX5_page_29 : decode cX5_page 29 = .ok (.if_icmp .le 6, 3) := by decide +kernel
theorem dX5_page_32 : decode cX5_page 32 = .ok (.ldc 73, 2) := by decide +kernel
theorem dX5_page_34 : decode cX5_page 34 = .ok (.ireturn, 1) := by decide +kernel
theorem dX5_page_35 : decode cX5_page 35 = .ok (.aload_n 0, 1) := by decide +kernel
theorem dX5_page_36 : decode cX5_page 36 = .ok (.getfield 37, 3) := by decide +kernel
theorem dX5_page_39 : decode cX5_page 39 = .ok (.getfield 132, 3) := by decide +kernel
theorem dX5_page_42 : decode cX5_page 42 = .ok (.astore_n 3, 1) := by decide +kernel
theorem dX5_page_43 : decode cX5_page 43 = .ok (.aload_n 0, 1) := by decide +kernel
theorem dX5_page_44 : decode cX5_page 44 = .ok (.getfield 47, 3) := by decide +kernel
theorem dX5_page_47 : decode cX5_page 47 = .ok (.getfield 168, 3) := by decide +kernel
theorem dX5_page_50 : decode cX5_page 50 = .ok (.iload_n 1, 1) := by decide +kernel
theorem dX5_page_51 : decode cX5_page 51 = .ok (.iconst 1, 1) := by decide +kernel
theorem dX5_page_52 : decode cX5_page 52 = .ok (.iadd, 1) := by decide +kernel
theorem dX5_page_53 : decode cX5_page 53 = .ok (.iaload, 1) := by decide +kernel
theorem dX5_page_54 : decode cX5_page 54 = .ok (.aload_n 0, 1) := by decide +kernel
theorem dX5_page_55 : decode cX5_page 55 = .ok (.getfield 47, 3) := by decide +kernel
theorem dX5_page_58 : decode cX5_page 58 = .ok (.getfield 168, 3) := by decide +kernel
theorem dX5_page_61 : decode cX5_page 61 = .ok (.iload_n 1, 1) := by decide +kernel
theorem dX5_page_62 : decode cX5_page 62 = .ok (.iaload, 1) := by decide +kernel
theorem dX5_page_63 : decode cX5_page 63 = .ok (.isub, 1) := by decide +kernel
theorem dX5_page_64 : decode cX5_page 64 = .ok (.istore 4, 2) := by decide +kernel
theorem dX5_page_66 : decode cX5_page 66 = .ok (.aload_n 3, 1) := by decide +kernel
theorem dX5_page_67 : decode cX5_page 67 = .ok (.getfield 171, 3) := by decide +kernel
theorem dX5_page_70 : decode cX5_page 70 = .ok (.aload_n 0, 1) := by decide +kernel
theorem dX5_page_71 : decode cX5_page 71 = .ok (.getfield 47, 3) := by decide +kernel
theorem dX5_page_74 : decode cX5_page 74 = .ok (.getfield 174, 3) := by decide +kernel
theorem dX5_page_77 : decode cX5_page 77 = .ok (.iload_n 1, 1) := by decide +kernel
theorem dX5_page_78 : decode cX5_page 78 = .ok (.iconst 1, 1) := by decide +kernel
theorem dX5_page_79 : decode cX5_page 79 = .ok (.iadd, 1) := by decide +kernel
theorem dX5_page_80 : decode cX5_page 80 = .ok (.iaload, 1) := by decide +kernel
theorem dX5_page_81 : decode cX5_page 81 = .ok (.iaload, 1) := by decide +kernel
theorem dX5_page_82 : decode cX5_page 82 = .ok (.aload_n 3, 1) := by decide +kernel
theorem dX5_page_83 : decode cX5_page 83 = .ok (.getfield 171, 3) := by decide +kernel
theorem dX5_page_86 : decode cX5_page 86 = .ok (.aload_n 0, 1) := by decide +kernel
theorem dX5_page_87 : decode cX5_page 87 = .ok (.getfield 47, 3) := by decide +kernel
theorem dX5_page_90 : decode cX5_page 90 = .ok (.getfield 174, 3) := by decide +kernel
theorem dX5_page_93 : decode cX5_page 93 = .ok (.iload_n 1, 1) := by decide +kernel
theorem dX5_page_94 : decode cX5_page 94 = .ok (.iaload, 1) := by decide +kernel
theorem dX5_page_95 : decode cX5_page 95 = .ok (.iaload, 1) := by decide +kernel
theorem dX5_page_96 : decode cX5_page 96 = .ok (.isub, 1) := by decide +kernel
theorem dX5_page_97 : decode cX5_page 97 = .ok (.istore 5, 2) := by decide +kernel
theorem dX5_page_99 : decode cX5_page 99 = .ok (.iload_n 2, 1) := by decide +kernel
theorem dX5_page_100 : decode cX5_page 100 = .ok (.tableswitch 125 0 5 #[40, 62, 65, 84, 87, 98], 40) := by decide +kernel
theorem dX5_page_140 : decode cX5_page 140 = .ok (.aload_n 0, 1) := by decide +kernel
theorem dX5_page_141 : decode cX5_page 141 = .ok (.getfield 47, 3) := by decide +kernel
theorem dX5_page_144 : decode cX5_page 144 = .ok (.getfield 174, 3) := by decide +kernel
theorem dX5_page_147 : decode cX5_page 147 = .ok (.iload_n 1, 1) := by decide +kernel
theorem dX5_page_148 : decode cX5_page 148 = .ok (.iconst 1, 1) := by decide +kernel
theorem dX5_page_149 : decode cX5_page 149 = .ok (.iadd, 1) := by decide +kernel
theorem dX5_page_150 : decode cX5_page 150 = .ok (.iaload, 1) := by decide +kernel
theorem dX5_page_151 : decode cX5_page 151 = .ok (.aload_n 0, 1) := by decide +kernel
theorem dX5_page_152 : decode cX5_page 152 = .ok (.getfield 47, 3) := by decide +kernel
theorem dX5_page_155 : decode cX5_page 155 = .ok (.getfield 174, 3) := by decide +kernel
theorem dX5_page_158 : decode cX5_page 158 = .ok (.iload_n 1, 1) := by decide +kernel
theorem dX5_page_159 : decode cX5_page 159 = .ok (.iaload, 1) := by decide +kernel
theorem dX5_page_160 : decode cX5_page 160 = .ok (.isub, 1) := by decide +kernel
theorem dX5_page_161 : decode cX5_page 161 = .ok (.ireturn, 1) := by decide +kernel
theorem dX5_page_162 : decode cX5_page 162 = .ok (.iload 4, 2) := by decide +kernel
theorem dX5_page_164 : decode cX5_page 164 = .ok (.ireturn, 1) := by decide +kernel
theorem dX5_page_165 : decode cX5_page 165 = .ok (.iload 4, 2) := by decide +kernel
theorem dX5_page_167 : decode cX5_page 167 = .ok (.ifCond .ne 7, 3) := by decide +kernel
theorem dX5_page_170 : decode cX5_page 170 = .ok (.iconst (-1), 1) := by decide +kernel
theorem dX5_page_171 : decode cX5_page 171 = .ok (.goto 12, 3) := by decide +kernel
theorem dX5_page_174 : decode cX5_page 174 = .ok (.aload_n 0, 1) := by decide +kernel
theorem dX5_page_175 : decode cX5_page 175 = .ok (.getfield 47, 3) := by decide +kernel
theorem dX5_page_178 : decode cX5_page 178 = .ok (.getfield 168, 3) := by decide +kernel
theorem dX5_page_181 : decode cX5_page 181 = .ok (.iload_n 1, 1) := by decide +kernel
theorem dX5_page_182 : decode cX5_page 182 = .ok (.iaload, 1) := by decide +kernel
theorem dX5_page_183 : decode cX5_page 183 = .ok (.ireturn, 1) := by decide +kernel
theorem dX5_page_184 : decode cX5_page 184 = .ok (.iload 5, 2) := by decide +kernel
theorem dX5_page_186 : decode cX5_page 186 = .ok (.ireturn, 1) := by decide +kernel
theorem dX5_page_187 : decode cX5_page 187 = .ok (.aload_n 3, 1) := by decide +kernel
theorem dX5_page_188 : decode cX5_page 188 = .ok (.getfield 176, 3) := by decide +kernel
theorem dX5_page_191 : decode cX5_page 191 = .ok (.iload 5, 2) := by decide +kernel
theorem dX5_page_193 : decode cX5_page 193 = .ok (.isub, 1) := by decide +kernel
theorem dX5_page_194 : decode cX5_page 194 = .ok (.iload 4, 2) := by decide +kernel
theorem dX5_page_196 : decode cX5_page 196 = .ok (.isub, 1) := by decide +kernel
theorem dX5_page_197 : decode cX5_page 197 = .ok (.ireturn, 1) := by decide +kernel
theorem dX5_page_198 : decode cX5_page 198 = .ok (.aload_n 3, 1) := by decide +kernel
theorem dX5_page_199 : decode cX5_page 199 = .ok (.aload_n 0, 1) := by decide +kernel
theorem dX5_page_200 : decode cX5_page 200 = .ok (.getfield 47, 3) := by decide +kernel
theorem dX5_page_203 : decode cX5_page 203 = .ok (.getfield 168, 3) := by decide +kernel
theorem dX5_page_206 : decode cX5_page 206 = .ok (.iload_n 1, 1) := by decide +kernel
theorem dX5_page_207 : decode cX5_page 207 = .ok (.iconst 1, 1) := by decide +kernel
theorem dX5_page_208 : decode cX5_page 208 = .ok (.iadd, 1) := by decide +kernel
theorem dX5_page_209 : decode cX5_page 209 = .ok (.iaload, 1) := by decide +kernel
theorem dX5_page_210 : decode cX5_page 210 = .ok (.aload_n 0, 1) := by decide +kernel
theorem dX5_page_211 : decode cX5_page 211 = .ok (.getfield 47, 3) := by decide +kernel
theorem dX5_page_214 : decode cX5_page 214 = .ok (.getfield 174, 3) := by decide +kernel
theorem dX5_page_217 : decode cX5_page 217 = .ok (.iload_n 1, 1) := by decide +kernel
theorem dX5_page_218 : decode cX5_page 218 = .ok (.iconst 1, 1) := by decide +kernel
theorem dX5_page_219 : decode cX5_page 219 = .ok (.iadd, 1) := by decide +kernel
theorem dX5_page_220 : decode cX5_page 220 = .ok (.iaload, 1) := by decide +kernel
theorem dX5_page_221 : decode cX5_page 221 = .ok (.invokevirtual 179, 3) := by decide +kernel
theorem dX5_page_224 : decode cX5_page 224 = .ok (.ireturn, 1) := by decide +kernel
theorem dX5_page_225 : decode cX5_page 225 = .ok (.aload_n 3, 1) := by decide +kernel
theorem dX5_page_226 : decode cX5_page 226 = .ok (.aload_n 0, 1) := by decide +kernel
theorem dX5_page_227 : decode cX5_page 227 = .ok (.getfield 47, 3) := by decide +kernel
theorem dX5_page_230 : decode cX5_page 230 = .ok (.getfield 168, 3) := by decide +kernel
theorem dX5_page_233 : decode cX5_page 233 = .ok (.iload_n 1, 1) := by decide +kernel
theorem dX5_page_234 : decode cX5_page 234 = .ok (.iconst 1, 1) := by decide +kernel
theorem dX5_page_235 : decode cX5_page 235 = .ok (.iadd, 1) := by decide +kernel
theorem dX5_page_236 : decode cX5_page 236 = .ok (.iaload, 1) := by decide +kernel
theorem dX5_page_237 : decode cX5_page 237 = .ok (.aload_n 0, 1) := by decide +kernel
theorem dX5_page_238 : decode cX5_page 238 = .ok (.getfield 47, 3) := by decide +kernel
theorem dX5_page_241 : decode cX5_page 241 = .ok (.getfield 174, 3) := by decide +kernel
theorem dX5_page_244 : decode cX5_page 244 = .ok (.iload_n 1, 1) := by decide +kernel
theorem dX5_page_245 : decode cX5_page 245 = .ok (.iconst 1, 1) := by decide +kernel
theorem dX5_page_246 : decode cX5_page 246 = .ok (.iadd, 1) := by decide +kernel
theorem dX5_page_247 : decode cX5_page 247 = .ok (.iaload, 1) := by decide +kernel
theorem dX5_page_248 : decode cX5_page 248 = .ok (.invokevirtual 182, 3) := by decide +kernel
theorem dX5_page_251 : decode cX5_page 251 = .ok (.ireturn, 1) := by decide +kernel
theorem dX5_pageOf_0 : decode cX5_pageOf 0 = .ok (.iload_n 1, 1) := by decide +kernel
theorem dX5_pageOf_1 : decode cX5_pageOf 1 = .ok (.ifCond .lt 16, 3) := by decide +kernel
theorem dX5_pageOf_4 : decode cX5_pageOf 4 = .ok (.iload_n 1, 1) := by decide +kernel
theorem dX5_pageOf_5 : decode cX5_pageOf 5 = .ok (.aload_n 0, 1) := by decide +kernel
theorem dX5_pageOf_6 : decode cX5_pageOf 6 = .ok (.getfield 10, 3) := by decide +kernel
theorem dX5_pageOf_9 : decode cX5_pageOf 9 = .ok (.getfield 74, 3) := by decide +kernel
theorem dX5_pageOf_12 : decode cX5_pageOf 12 = .ok (.iconst 0, 1) := by decide +kernel
theorem dX5_pageOf_13 : decode cX5_pageOf 13 = .ok (.iaload, 1) := by decide +kernel
theorem dX5_pageOf_14 : decode cX5_pageOf 14 = .ok (.if_icmp .lt 6, 3) := by decide +kernel
theorem dX5_pageOf_17 : decode cX5_pageOf 17 = .ok (.ldc 105, 2) := by decide +kernel
theorem dX5_pageOf_19 : decode cX5_pageOf 19 = .ok (.ireturn, 1) := by decide +kernel
theorem dX5_pageOf_20 : decode cX5_pageOf 20 = .ok (.aload_n 0, 1) := by decide +kernel
theorem dX5_pageOf_21 : decode cX5_pageOf 21 = .ok (.invokevirtual 118, 3) := by decide +kernel
theorem dX5_pageOf_24 : decode cX5_pageOf 24 = .ok (.aload_n 0, 1) := by decide +kernel
theorem dX5_pageOf_25 : decode cX5_pageOf 25 = .ok (.getfield 47, 3) := by decide +kernel
theorem dX5_pageOf_28 : decode cX5_pageOf 28 = .ok (.getfield 141, 3) := by decide +kernel
theorem dX5_pageOf_31 : decode cX5_pageOf 31 = .ok (.iconst (-1), 1) := by decide +kernel
theorem dX5_pageOf_32 : decode cX5_pageOf 32 = .ok (.if_icmp .ne 8, 3) := by decide +kernel
theorem dX5_pageOf_35 : decode cX5_pageOf 35 = .ok (.ldc 127, 2) := by decide +kernel
theorem dX5_pageOf_37 : decode cX5_pageOf 37 = .ok (.goto 11, 3) := by decide +kernel
theorem dX5_pageOf_40 : decode cX5_pageOf 40 = .ok (.aload_n 0, 1) := by decide +kernel
theorem dX5_pageOf_41 : decode cX5_pageOf 41 = .ok (.getfield 47, 3) := by decide +kernel
theorem dX5_pageOf_44 : decode cX5_pageOf 44 = .ok (.iload_n 1, 1) := by decide +kernel
theorem dX5_pageOf_45 : decode cX5_pageOf 45 = .ok (.invokevirtual 161, 3) := by decide +kernel
theorem dX5_pageOf_48 : decode cX5_pageOf 48 = .ok (.ireturn, 1) := by decide +kernel
theorem dX5_fits_0 : decode cX5_fits 0 = .ok (.iload_n 2, 1) := by decide +kernel
theorem dX5_fits_1 : decode cX5_fits 1 = .ok (.ifCond .le 17, 3) := by decide +kernel
theorem dX5_fits_4 : decode cX5_fits 4 = .ok (.aload_n 0, 1) := by decide +kernel
theorem dX5_fits_5 : decode cX5_fits 5 = .ok (.getfield 10, 3) := by decide +kernel
theorem dX5_fits_8 : decode cX5_fits 8 = .ok (.iload_n 1, 1) := by decide +kernel
theorem dX5_fits_9 : decode cX5_fits 9 = .ok (.invokevirtual 101, 3) := by decide +kernel
theorem dX5_fits_12 : decode cX5_fits 12 = .ok (.ifCond .ne 6, 3) := by decide +kernel
theorem dX5_fits_15 : decode cX5_fits 15 = .ok (.ldc 105, 2) := by decide +kernel
theorem dX5_fits_17 : decode cX5_fits 17 = .ok (.ireturn, 1) := by decide +kernel
theorem dX5_fits_18 : decode cX5_fits 18 = .ok (.iload_n 2, 1) := by decide +kernel
theorem dX5_fits_19 : decode cX5_fits 19 = .ok (.ifCond .ne 5, 3) := by decide +kernel
theorem dX5_fits_22 : decode cX5_fits 22 = .ok (.iconst 1, 1) := by decide +kernel
theorem dX5_fits_23 : decode cX5_fits 23 = .ok (.ireturn, 1) := by decide +kernel
theorem dX5_fits_24 : decode cX5_fits 24 = .ok (.iload_n 2, 1) := by decide +kernel
theorem dX5_fits_25 : decode cX5_fits 25 = .ok (.ifCond .lt 16, 3) := by decide +kernel
theorem dX5_fits_28 : decode cX5_fits 28 = .ok (.iload_n 2, 1) := by decide +kernel
theorem dX5_fits_29 : decode cX5_fits 29 = .ok (.aload_n 0, 1) := by decide +kernel
theorem dX5_fits_30 : decode cX5_fits 30 = .ok (.getfield 10, 3) := by decide +kernel
theorem dX5_fits_33 : decode cX5_fits 33 = .ok (.getfield 86, 3) := by decide +kernel
theorem dX5_fits_36 : decode cX5_fits 36 = .ok (.iload_n 1, 1) := by decide +kernel
theorem dX5_fits_37 : decode cX5_fits 37 = .ok (.isub, 1) := by decide +kernel
theorem dX5_fits_38 : decode cX5_fits 38 = .ok (.if_icmp .le 6, 3) := by decide +kernel
theorem dX5_fits_41 : decode cX5_fits 41 = .ok (.ldc 73, 2) := by decide +kernel
theorem dX5_fits_43 : decode cX5_fits 43 = .ok (.ireturn, 1) := by decide +kernel
theorem dX5_fits_44 : decode cX5_fits 44 = .ok (.aload_n 0, 1) := by decide +kernel
theorem dX5_fits_45 : decode cX5_fits 45 = .ok (.getfield 10, 3) := by decide +kernel
theorem dX5_fits_48 : decode cX5_fits 48 = .ok (.iload_n 1, 1) := by decide +kernel
theorem dX5_fits_49 : decode cX5_fits 49 = .ok (.iload_n 2, 1) := by decide +kernel
theorem dX5_fits_50 : decode cX5_fits 50 = .ok (.invokevirtual 185, 3) := by decide +kernel
theorem dX5_fits_53 : decode cX5_fits 53 = .ok (.ifCond .eq 7, 3) := by decide +kernel
theorem dX5_fits_56 : decode cX5_fits 56 = .ok (.iconst 1, 1) := by decide +kernel
theorem dX5_fits_57 : decode cX5_fits 57 = .ok (.goto 4, 3) := by decide +kernel
theorem dX5_fits_60 : decode cX5_fits 60 = .ok (.iconst 0, 1) := by decide +kernel
theorem dX5_fits_61 : decode cX5_fits 61 = .ok (.ireturn, 1) := by decide +kernel
theorem dX5_ways_0 : decode cX5_ways 0 = .ok (.aload_n 0, 1) := by decide +kernel
theorem dX5_ways_1 : decode cX5_ways 1 = .ok (.invokevirtual 118, 3) := by decide +kernel
theorem dX5_ways_4 : decode cX5_ways 4 = .ok (.aload_n 0, 1) := by decide +kernel
theorem dX5_ways_5 : decode cX5_ways 5 = .ok (.getfield 37, 3) := by decide +kernel
theorem dX5_ways_8 : decode cX5_ways 8 = .ok (.invokevirtual 188, 3) := by decide +kernel
theorem dX5_ways_11 : decode cX5_ways 11 = .ok (.lreturn, 1) := by decide +kernel
theorem dX5_without_0 : decode cX5_without 0 = .ok (.aload_n 0, 1) := by decide +kernel
theorem dX5_without_1 : decode cX5_without 1 = .ok (.getfield 10, 3) := by decide +kernel
theorem dX5_without_4 : decode cX5_without 4 = .ok (.iload_n 1, 1) := by decide +kernel
theorem dX5_without_5 : decode cX5_without 5 = .ok (.invokevirtual 101, 3) := by decide +kernel
theorem dX5_without_8 : decode cX5_without 8 = .ok (.ifCond .ne 6, 3) := by decide +kernel
theorem dX5_without_11 : decode cX5_without 11 = .ok (.ldc 105, 2) := by decide +kernel
theorem dX5_without_13 : decode cX5_without 13 = .ok (.ireturn, 1) := by decide +kernel
theorem dX5_without_14 : decode cX5_without 14 = .ok (.aload_n 0, 1) := by decide +kernel
theorem dX5_without_15 : decode cX5_without 15 = .ok (.getfield 16, 3) := by decide +kernel
theorem dX5_without_18 : decode cX5_without 18 = .ok (.aload_n 0, 1) := by decide +kernel
theorem dX5_without_19 : decode cX5_without 19 = .ok (.getfield 10, 3) := by decide +kernel
theorem dX5_without_22 : decode cX5_without 22 = .ok (.invokevirtual 192, 3) := by decide +kernel
theorem dX5_without_25 : decode cX5_without 25 = .ok (.aload_n 0, 1) := by decide +kernel
theorem dX5_without_26 : decode cX5_without 26 = .ok (.getfield 16, 3) := by decide +kernel
theorem dX5_without_29 : decode cX5_without 29 = .ok (.iload_n 1, 1) := by decide +kernel
theorem dX5_without_30 : decode cX5_without 30 = .ok (.invokevirtual 106, 3) := by decide +kernel
theorem dX5_without_33 : decode cX5_without 33 = .ok (.aload_n 0, 1) := by decide +kernel
theorem dX5_without_34 : decode cX5_without 34 = .ok (.invokevirtual 195, 3) := by decide +kernel
theorem dX5_without_37 : decode cX5_without 37 = .ok (.ireturn, 1) := by decide +kernel
theorem dX5_moved_0 : decode cX5_moved 0 = .ok (.aload_n 0, 1) := by decide +kernel
theorem dX5_moved_1 : decode cX5_moved 1 = .ok (.getfield 10, 3) := by decide +kernel
theorem dX5_moved_4 : decode cX5_moved 4 = .ok (.iload_n 1, 1) := by decide +kernel
theorem dX5_moved_5 : decode cX5_moved 5 = .ok (.invokevirtual 101, 3) := by decide +kernel
theorem dX5_moved_8 : decode cX5_moved 8 = .ok (.ifCond .ne 6, 3) := by decide +kernel
theorem dX5_moved_11 : decode cX5_moved 11 = .ok (.ldc 105, 2) := by decide +kernel
theorem dX5_moved_13 : decode cX5_moved 13 = .ok (.ireturn, 1) := by decide +kernel
theorem dX5_moved_14 : decode cX5_moved 14 = .ok (.iconst 2, 1) := by decide +kernel
theorem dX5_moved_15 : decode cX5_moved 15 = .ok (.iload_n 2, 1) := by decide +kernel
theorem dX5_moved_16 : decode cX5_moved 16 = .ok (.invokestatic 89, 3) := by decide +kernel
theorem dX5_moved_19 : decode cX5_moved 19 = .ok (.ifCond .ne 6, 3) := by decide +kernel
theorem dX5_moved_22 : decode cX5_moved 22 = .ok (.ldc 73, 2) := by decide +kernel
theorem dX5_moved_24 : decode cX5_moved 24 = .ok (.ireturn, 1) := by decide +kernel
theorem dX5_moved_25 : decode cX5_moved 25 = .ok (.aload_n 0, 1) := by decide +kernel
theorem dX5_moved_26 : decode cX5_moved 26 = .ok (.getfield 16, 3) := by decide +kernel
theorem dX5_moved_29 : decode cX5_moved 29 = .ok (.aload_n 0, 1) := by decide +kernel
theorem dX5_moved_30 : decode cX5_moved 30 = .ok (.getfield 10, 3) := by decide +kernel
theorem dX5_moved_33 : decode cX5_moved 33 = .ok (.invokevirtual 192, 3) := by decide +kernel
theorem dX5_moved_36 : decode cX5_moved 36 = .ok (.aload_n 0, 1) := by decide +kernel
theorem dX5_moved_37 : decode cX5_moved 37 = .ok (.getfield 16, 3) := by decide +kernel
theorem dX5_moved_40 : decode cX5_moved 40 = .ok (.getfield 109, 3) := by decide +kernel
theorem dX5_moved_43 : decode cX5_moved 43 = .ok (.iconst 2, 1) := by decide +kernel
theorem dX5_moved_44 : decode cX5_moved 44 = .ok (.aaload, 1) := by decide +kernel
theorem dX5_moved_45 : decode cX5_moved 45 = .ok (.iload_n 1, 1) := by decide +kernel
theorem dX5_moved_46 : decode cX5_moved 46 = .ok (.iload_n 2, 1) := by decide +kernel
theorem dX5_moved_47 : decode cX5_moved 47 = .ok (.iastore, 1) := by decide +kernel
theorem dX5_moved_48 : decode cX5_moved 48 = .ok (.aload_n 0, 1) := by decide +kernel
theorem dX5_moved_49 : decode cX5_moved 49 = .ok (.invokevirtual 195, 3) := by decide +kernel
theorem dX5_moved_52 : decode cX5_moved 52 = .ok (.ireturn, 1) := by decide +kernel
theorem dX5_from_0 : decode cX5_from 0 = .ok (.iload_n 3, 1) := by decide +kernel
theorem dX5_from_1 : decode cX5_from 1 = .ok (.ifCond .lt 8, 3) := by decide +kernel
theorem dX5_from_4 : decode cX5_from 4 = .ok (.iload_n 3, 1) := by decide +kernel
theorem dX5_from_5 : decode cX5_from 5 = .ok (.iconst 1, 1) := by decide +kernel
theorem dX5_from_6 : decode cX5_from 6 = .ok (.if_icmp .le 6, 3) := by decide +kernel
theorem dX5_from_9 : decode cX5_from 9 = .ok (.ldc 73, 2) := by decide +kernel
theorem dX5_from_11 : decode cX5_from 11 = .ok (.ireturn, 1) := by decide +kernel
theorem dX5_from_12 : decode cX5_from 12 = .ok (.aload_n 0, 1) := by decide +kernel
theorem dX5_from_13 : decode cX5_from 13 = .ok (.invokevirtual 118, 3) := by decide +kernel
theorem dX5_from_16 : decode cX5_from 16 = .ok (.iload_n 3, 1) := by decide +kernel
theorem dX5_from_17 : decode cX5_from 17 = .ok (.ifCond .ne 15, 3) := by decide +kernel
theorem dX5_from_20 : decode cX5_from 20 = .ok (.aload_n 0, 1) := by decide +kernel
theorem dX5_from_21 : decode cX5_from 21 = .ok (.getfield 37, 3) := by decide +kernel
theorem dX5_from_24 : decode cX5_from 24 = .ok (.iload_n 1, 1) := by decide +kernel
theorem dX5_from_25 : decode cX5_from 25 = .ok (.iload_n 2, 1) := by decide +kernel
theorem dX5_from_26 : decode cX5_from 26 = .ok (.invokevirtual 121, 3) := by decide +kernel
theorem dX5_from_29 : decode cX5_from 29 = .ok (.goto 12, 3) := by decide +kernel
theorem dX5_from_32 : decode cX5_from 32 = .ok (.aload_n 0, 1) := by decide +kernel
theorem dX5_from_33 : decode cX5_from 33 = .ok (.getfield 37, 3) := by decide +kernel
theorem dX5_from_36 : decode cX5_from 36 = .ok (.iload_n 1, 1) := by decide +kernel
theorem dX5_from_37 : decode cX5_from 37 = .ok (.iload_n 2, 1) := by decide +kernel
theorem dX5_from_38 : decode cX5_from 38 = .ok (.invokevirtual 199, 3) := by decide +kernel
theorem dX5_from_41 : decode cX5_from 41 = .ok (.ireturn, 1) := by decide +kernel
theorem dX5_hand_0 : decode cX5_hand 0 = .ok (.iload_n 1, 1) := by decide +kernel
theorem dX5_hand_1 : decode cX5_hand 1 = .ok (.ifCond .lt 8, 3) := by decide +kernel
theorem dX5_hand_4 : decode cX5_hand 4 = .ok (.iload_n 1, 1) := by decide +kernel
theorem dX5_hand_5 : decode cX5_hand 5 = .ok (.iconst 4, 1) := by decide +kernel
theorem dX5_hand_6 : decode cX5_hand 6 = .ok (.if_icmp .le 6, 3) := by decide +kernel
theorem dX5_hand_9 : decode cX5_hand 9 = .ok (.ldc 73, 2) := by decide +kernel
theorem dX5_hand_11 : decode cX5_hand 11 = .ok (.ireturn, 1) := by decide +kernel
theorem dX5_hand_12 : decode cX5_hand 12 = .ok (.aload_n 0, 1) := by decide +kernel
theorem dX5_hand_13 : decode cX5_hand 13 = .ok (.getfield 61, 3) := by decide +kernel
theorem dX5_hand_16 : decode cX5_hand 16 = .ok (.bipush 30, 2) := by decide +kernel
theorem dX5_hand_18 : decode cX5_hand 18 = .ok (.if_icmp .lt 6, 3) := by decide +kernel
theorem dX5_hand_21 : decode cX5_hand 21 = .ok (.ldc 92, 2) := by decide +kernel
theorem dX5_hand_23 : decode cX5_hand 23 = .ok (.ireturn, 1) := by decide +kernel
theorem dX5_hand_24 : decode cX5_hand 24 = .ok (.aload_n 0, 1) := by decide +kernel
theorem dX5_hand_25 : decode cX5_hand 25 = .ok (.getfield 57, 3) := by decide +kernel
theorem dX5_hand_28 : decode cX5_hand 28 = .ok (.aload_n 0, 1) := by decide +kernel
theorem dX5_hand_29 : decode cX5_hand 29 = .ok (.getfield 61, 3) := by decide +kernel
theorem dX5_hand_32 : decode cX5_hand 32 = .ok (.iload_n 1, 1) := by decide +kernel
theorem dX5_hand_33 : decode cX5_hand 33 = .ok (.iastore, 1) := by decide +kernel
theorem dX5_hand_34 : decode cX5_hand 34 = .ok (.aload_n 0, 1) := by decide +kernel
theorem dX5_hand_35 : decode cX5_hand 35 = .ok (.dup, 1) := by decide +kernel
theorem dX5_hand_36 : decode cX5_hand 36 = .ok (.getfield 61, 3) := by decide +kernel
theorem dX5_hand_39 : decode cX5_hand 39 = .ok (.iconst 1, 1) := by decide +kernel
theorem dX5_hand_40 : decode cX5_hand 40 = .ok (.iadd, 1) := by decide +kernel
theorem dX5_hand_41 : decode cX5_hand 41 = .ok (.putfield 61, 3) := by decide +kernel
theorem dX5_hand_44 : decode cX5_hand 44 = .ok (.aload_n 0, 1) := by decide +kernel
theorem dX5_hand_45 : decode cX5_hand 45 = .ok (.getfield 61, 3) := by decide +kernel
theorem dX5_hand_48 : decode cX5_hand 48 = .ok (.ireturn, 1) := by decide +kernel
theorem dX5_clear_0 : decode cX5_clear 0 = .ok (.aload_n 0, 1) := by decide +kernel
theorem dX5_clear_1 : decode cX5_clear 1 = .ok (.getfield 61, 3) := by decide +kernel
theorem dX5_clear_4 : decode cX5_clear 4 = .ok (.istore_n 1, 1) := by decide +kernel
theorem dX5_clear_5 : decode cX5_clear 5 = .ok (.aload_n 0, 1) := by decide +kernel
theorem dX5_clear_6 : decode cX5_clear 6 = .ok (.iconst 0, 1) := by decide +kernel
theorem dX5_clear_7 : decode cX5_clear 7 = .ok (.putfield 61, 3) := by decide +kernel
theorem dX5_clear_10 : decode cX5_clear 10 = .ok (.iload_n 1, 1) := by decide +kernel
theorem dX5_clear_11 : decode cX5_clear 11 = .ok (.ireturn, 1) := by decide +kernel
theorem dX5_judge_0 : decode cX5_judge 0 = .ok (.iload_n 1, 1) := by decide +kernel
theorem dX5_judge_1 : decode cX5_judge 1 = .ok (.ifCond .lt 8, 3) := by decide +kernel
theorem dX5_judge_4 : decode cX5_judge 4 = .ok (.iload_n 1, 1) := by decide +kernel
theorem dX5_judge_5 : decode cX5_judge 5 = .ok (.iconst 1, 1) := by decide +kernel
theorem dX5_judge_6 : decode cX5_judge 6 = .ok (.if_icmp .le 6, 3) := by decide +kernel
theorem dX5_judge_9 : decode cX5_judge 9 = .ok (.ldc 73, 2) := by decide +kernel
theorem dX5_judge_11 : decode cX5_judge 11 = .ok (.ireturn, 1) := by decide +kernel
theorem dX5_judge_12 : decode cX5_judge 12 = .ok (.aload_n 0, 1) := by decide +kernel
theorem dX5_judge_13 : decode cX5_judge 13 = .ok (.invokevirtual 118, 3) := by decide +kernel
theorem dX5_judge_16 : decode cX5_judge 16 = .ok (.aload_n 0, 1) := by decide +kernel
theorem dX5_judge_17 : decode cX5_judge 17 = .ok (.getfield 54, 3) := by decide +kernel
theorem dX5_judge_20 : decode cX5_judge 20 = .ok (.aload_n 0, 1) := by decide +kernel
theorem dX5_judge_21 : decode cX5_judge 21 = .ok (.getfield 37, 3) := by decide +kernel
theorem dX5_judge_24 : decode cX5_judge 24 = .ok (.getfield 132, 3) := by decide +kernel
theorem dX5_judge_27 : decode cX5_judge 27 = .ok (.aload_n 0, 1) := by decide +kernel
theorem dX5_judge_28 : decode cX5_judge 28 = .ok (.getfield 57, 3) := by decide +kernel
theorem dX5_judge_31 : decode cX5_judge 31 = .ok (.aload_n 0, 1) := by decide +kernel
theorem dX5_judge_32 : decode cX5_judge 32 = .ok (.getfield 61, 3) := by decide +kernel
theorem dX5_judge_35 : decode cX5_judge 35 = .ok (.invokevirtual 202, 3) := by decide +kernel
theorem dX5_judge_38 : decode cX5_judge 38 = .ok (.istore_n 2, 1) := by decide +kernel
theorem dX5_judge_39 : decode cX5_judge 39 = .ok (.iload_n 1, 1) := by decide +kernel
theorem dX5_judge_40 : decode cX5_judge 40 = .ok (.ifCond .ne 5, 3) := by decide +kernel
theorem dX5_judge_43 : decode cX5_judge 43 = .ok (.iload_n 2, 1) := by decide +kernel
theorem dX5_judge_44 : decode cX5_judge 44 = .ok (.ireturn, 1) := by decide +kernel
theorem dX5_judge_45 : decode cX5_judge 45 = .ok (.iload_n 2, 1) := by decide +kernel
theorem dX5_judge_46 : decode cX5_judge 46 = .ok (.ifCond .ne 20, 3) := by decide +kernel
theorem dX5_judge_49 : decode cX5_judge 49 = .ok (.aload_n 0, 1) := by decide +kernel
theorem dX5_judge_50 : decode cX5_judge 50 = .ok (.getfield 54, 3) := by decide +kernel
theorem dX5_judge_53 : decode cX5_judge 53 = .ok (.aload_n 0, 1) := by decide +kernel
theorem dX5_judge_54 : decode cX5_judge 54 = .ok (.getfield 37, 3) := by decide +kernel
theorem dX5_judge_57 : decode cX5_judge 57 = .ok (.getfield 132, 3) := by decide +kernel
theorem dX5_judge_60 : decode cX5_judge 60 = .ok (.invokevirtual 144, 3) := by decide +kernel
theorem dX5_judge_63 : decode cX5_judge 63 = .ok (.goto 4, 3) := by decide +kernel
theorem dX5_judge_66 : decode cX5_judge 66 = .ok (.iconst (-1), 1) := by decide +kernel
theorem dX5_judge_67 : decode cX5_judge 67 = .ok (.ireturn, 1) := by decide +kernel
theorem dX5_keep_0 : decode cX5_keep 0 = .ok (.iload_n 1, 1) := by decide +kernel
theorem dX5_keep_1 : decode cX5_keep 1 = .ok (.ifCond .lt 8, 3) := by decide +kernel
theorem dX5_keep_4 : decode cX5_keep 4 = .ok (.iload_n 1, 1) := by decide +kernel
theorem dX5_keep_5 : decode cX5_keep 5 = .ok (.iconst 2, 1) := by decide +kernel
theorem dX5_keep_6 : decode cX5_keep 6 = .ok (.if_icmp .lt 6, 3) := by decide +kernel
theorem dX5_keep_9 : decode cX5_keep 9 = .ok (.ldc 105, 2) := by decide +kernel
theorem dX5_keep_11 : decode cX5_keep 11 = .ok (.ireturn, 1) := by decide +kernel
theorem dX5_keep_12 : decode cX5_keep 12 = .ok (.aload_n 0, 1) := by decide +kernel
theorem dX5_keep_13 : decode cX5_keep 13 = .ok (.getfield 19, 3) := by decide +kernel
theorem dX5_keep_16 : decode cX5_keep 16 = .ok (.iload_n 1, 1) := by decide +kernel
theorem dX5_keep_17 : decode cX5_keep 17 = .ok (.aaload, 1) := by decide +kernel
theorem dX5_keep_18 : decode cX5_keep 18 = .ok (.aload_n 0, 1) := by decide +kernel
theorem dX5_keep_19 : decode cX5_keep 19 = .ok (.getfield 10, 3) := by decide +kernel
theorem dX5_keep_22 : decode cX5_keep 22 = .ok (.invokevirtual 192, 3) := by decide +kernel
theorem dX5_keep_25 : decode cX5_keep 25 = .ok (.aload_n 0, 1) := by decide +kernel
theorem dX5_keep_26 : decode cX5_keep 26 = .ok (.getfield 23, 3) := by decide +kernel
theorem dX5_keep_29 : decode cX5_keep 29 = .ok (.iload_n 1, 1) := by decide +kernel
theorem dX5_keep_30 : decode cX5_keep 30 = .ok (.iconst 1, 1) := by decide +kernel
theorem dX5_keep_31 : decode cX5_keep 31 = .ok (.bastore, 1) := by decide +kernel
theorem dX5_keep_32 : decode cX5_keep 32 = .ok (.aload_n 0, 1) := by decide +kernel
theorem dX5_keep_33 : decode cX5_keep 33 = .ok (.getfield 30, 3) := by decide +kernel
theorem dX5_keep_36 : decode cX5_keep 36 = .ok (.iconst 0, 1) := by decide +kernel
theorem dX5_keep_37 : decode cX5_keep 37 = .ok (.putfield 124, 3) := by decide +kernel
theorem dX5_keep_40 : decode cX5_keep 40 = .ok (.aload_n 0, 1) := by decide +kernel
theorem dX5_keep_41 : decode cX5_keep 41 = .ok (.getfield 10, 3) := by decide +kernel
theorem dX5_keep_44 : decode cX5_keep 44 = .ok (.getfield 86, 3) := by decide +kernel
theorem dX5_keep_47 : decode cX5_keep 47 = .ok (.ireturn, 1) := by decide +kernel
theorem dX5_goBack_0 : decode cX5_goBack 0 = .ok (.iload_n 1, 1) := by decide +kernel
theorem dX5_goBack_1 : decode cX5_goBack 1 = .ok (.ifCond .lt 8, 3) := by decide +kernel
theorem dX5_goBack_4 : decode cX5_goBack 4 = .ok (.iload_n 1, 1) := by decide +kernel
theorem dX5_goBack_5 : decode cX5_goBack 5 = .ok (.iconst 2, 1) := by decide +kernel
theorem dX5_goBack_6 : decode cX5_goBack 6 = .ok (.if_icmp .lt 6, 3) := by decide +kernel
theorem dX5_goBack_9 : decode cX5_goBack 9 = .ok (.ldc 105, 2) := by decide +kernel
theorem dX5_goBack_11 : decode cX5_goBack 11 = .ok (.ireturn, 1) := by decide +kernel
theorem dX5_goBack_12 : decode cX5_goBack 12 = .ok (.aload_n 0, 1) := by decide +kernel
theorem dX5_goBack_13 : decode cX5_goBack 13 = .ok (.getfield 23, 3) := by decide +kernel
theorem dX5_goBack_16 : decode cX5_goBack 16 = .ok (.iload_n 1, 1) := by decide +kernel
theorem dX5_goBack_17 : decode cX5_goBack 17 = .ok (.baload, 1) := by decide +kernel
theorem dX5_goBack_18 : decode cX5_goBack 18 = .ok (.ifCond .ne 6, 3) := by decide +kernel
theorem dX5_goBack_21 : decode cX5_goBack 21 = .ok (.ldc 127, 2) := by decide +kernel
theorem dX5_goBack_23 : decode cX5_goBack 23 = .ok (.ireturn, 1) := by decide +kernel
theorem dX5_goBack_24 : decode cX5_goBack 24 = .ok (.aload_n 0, 1) := by decide +kernel
theorem dX5_goBack_25 : decode cX5_goBack 25 = .ok (.getfield 10, 3) := by decide +kernel
theorem dX5_goBack_28 : decode cX5_goBack 28 = .ok (.aload_n 0, 1) := by decide +kernel
theorem dX5_goBack_29 : decode cX5_goBack 29 = .ok (.getfield 19, 3) := by decide +kernel
theorem dX5_goBack_32 : decode cX5_goBack 32 = .ok (.iload_n 1, 1) := by decide +kernel
theorem dX5_goBack_33 : decode cX5_goBack 33 = .ok (.aaload, 1) := by decide +kernel
theorem dX5_goBack_34 : decode cX5_goBack 34 = .ok (.invokevirtual 192, 3) := by decide +kernel
theorem dX5_goBack_37 : decode cX5_goBack 37 = .ok (.aload_n 0, 1) := by decide +kernel
theorem dX5_goBack_38 : decode cX5_goBack 38 = .ok (.getfield 30, 3) := by decide +kernel
theorem dX5_goBack_41 : decode cX5_goBack 41 = .ok (.iconst 0, 1) := by decide +kernel
theorem dX5_goBack_42 : decode cX5_goBack 42 = .ok (.putfield 124, 3) := by decide +kernel
theorem dX5_goBack_45 : decode cX5_goBack 45 = .ok (.aload_n 0, 1) := by decide +kernel
theorem dX5_goBack_46 : decode cX5_goBack 46 = .ok (.iconst 1, 1) := by decide +kernel
theorem dX5_goBack_47 : decode cX5_goBack 47 = .ok (.putfield 65, 3) := by decide +kernel
theorem dX5_goBack_50 : decode cX5_goBack 50 = .ok (.aload_n 0, 1) := by decide +kernel
theorem dX5_goBack_51 : decode cX5_goBack 51 = .ok (.getfield 10, 3) := by decide +kernel
theorem dX5_goBack_54 : decode cX5_goBack 54 = .ok (.getfield 86, 3) := by decide +kernel
theorem dX5_goBack_57 : decode cX5_goBack 57 = .ok (.ireturn, 1) := by decide +kernel
theorem dX5_partMayBe_0 : decode cX5_partMayBe 0 = .ok (.iload_n 1, 1) := by decide +kernel
theorem dX5_partMayBe_1 : decode cX5_partMayBe 1 = .ok (.getstatic 206, 3) := by decide +kernel
theorem dX5_partMayBe_4 : decode cX5_partMayBe 4 = .ok (.iload_n 0, 1) := by decide +kernel
theorem dX5_partMayBe_5 : decode cX5_partMayBe 5 = .ok (.iaload, 1) := by decide +kernel
theorem dX5_partMayBe_6 : decode cX5_partMayBe 6 = .ok (.if_icmp .lt 16, 3) := by decide +kernel
theorem dX5_partMayBe_9 : decode cX5_partMayBe 9 = .ok (.iload_n 1, 1) := by decide +kernel
theorem dX5_partMayBe_10 : decode cX5_partMayBe 10 = .ok (.getstatic 209, 3) := by decide +kernel
theorem dX5_partMayBe_13 : decode cX5_partMayBe 13 = .ok (.iload_n 0, 1) := by decide +kernel
theorem dX5_partMayBe_14 : decode cX5_partMayBe 14 = .ok (.iaload, 1) := by decide +kernel
theorem dX5_partMayBe_15 : decode cX5_partMayBe 15 = .ok (.if_icmp .gt 7, 3) := by decide +kernel
theorem dX5_partMayBe_18 : decode cX5_partMayBe 18 = .ok (.iconst 1, 1) := by decide +kernel
theorem dX5_partMayBe_19 : decode cX5_partMayBe 19 = .ok (.goto 4, 3) := by decide +kernel
theorem dX5_partMayBe_22 : decode cX5_partMayBe 22 = .ok (.iconst 0, 1) := by decide +kernel
theorem dX5_partMayBe_23 : decode cX5_partMayBe 23 = .ok (.ireturn, 1) := by decide +kernel
theorem dX5_aheadOfChange_0 : decode cX5_aheadOfChange 0 = .ok (.aload_n 0, 1) := by decide +kernel
theorem dX5_aheadOfChange_1 : decode cX5_aheadOfChange 1 = .ok (.getfield 30, 3) := by decide +kernel
theorem dX5_aheadOfChange_4 : decode cX5_aheadOfChange 4 = .ok (.aload_n 0, 1) := by decide +kernel
theorem dX5_aheadOfChange_5 : decode cX5_aheadOfChange 5 = .ok (.getfield 10, 3) := by decide +kernel
theorem dX5_aheadOfChange_8 : decode cX5_aheadOfChange 8 = .ok (.invokevirtual 212, 3) := by decide +kernel
theorem dX5_aheadOfChange_11 : decode cX5_aheadOfChange 11 = .ok (.aload_n 0, 1) := by decide +kernel
theorem dX5_aheadOfChange_12 : decode cX5_aheadOfChange 12 = .ok (.iconst 1, 1) := by decide +kernel
theorem dX5_aheadOfChange_13 : decode cX5_aheadOfChange 13 = .ok (.putfield 65, 3) := by decide +kernel
theorem dX5_aheadOfChange_16 : decode cX5_aheadOfChange 16 = .ok (.return_, 1) := by decide +kernel
theorem dX5_settle_0 : decode cX5_settle 0 = .ok (.aload_n 0, 1) := by decide +kernel
theorem dX5_settle_1 : decode cX5_settle 1 = .ok (.getfield 65, 3) := by decide +kernel
theorem dX5_settle_4 : decode cX5_settle 4 = .ok (.ifCond .ne 4, 3) := by decide +kernel
theorem dX5_settle_7 : decode cX5_settle 7 = .ok (.return_, 1) := by decide +kernel
theorem dX5_settle_8 : decode cX5_settle 8 = .ok (.aload_n 0, 1) := by decide +kernel
theorem dX5_settle_9 : decode cX5_settle 9 = .ok (.getfield 37, 3) := by decide +kernel
theorem dX5_settle_12 : decode cX5_settle 12 = .ok (.aload_n 0, 1) := by decide +kernel
theorem dX5_settle_13 : decode cX5_settle 13 = .ok (.getfield 10, 3) := by decide +kernel
theorem dX5_settle_16 : decode cX5_settle 16 = .ok (.invokevirtual 215, 3) := by decide +kernel
theorem dX5_settle_19 : decode cX5_settle 19 = .ok (.aload_n 0, 1) := by decide +kernel
theorem dX5_settle_20 : decode cX5_settle 20 = .ok (.getfield 47, 3) := by decide +kernel
theorem dX5_settle_23 : decode cX5_settle 23 = .ok (.aload_n 0, 1) := by decide +kernel
theorem dX5_settle_24 : decode cX5_settle 24 = .ok (.getfield 37, 3) := by decide +kernel
theorem dX5_settle_27 : decode cX5_settle 27 = .ok (.invokevirtual 218, 3) := by decide +kernel
theorem dX5_settle_30 : decode cX5_settle 30 = .ok (.aload_n 0, 1) := by decide +kernel
theorem dX5_settle_31 : decode cX5_settle 31 = .ok (.getfield 51, 3) := by decide +kernel
theorem dX5_settle_34 : decode cX5_settle 34 = .ok (.aload_n 0, 1) := by decide +kernel
theorem dX5_settle_35 : decode cX5_settle 35 = .ok (.getfield 37, 3) := by decide +kernel
theorem dX5_settle_38 : decode cX5_settle 38 = .ok (.getfield 132, 3) := by decide +kernel
theorem dX5_settle_41 : decode cX5_settle 41 = .ok (.invokevirtual 222, 3) := by decide +kernel
theorem dX5_settle_44 : decode cX5_settle 44 = .ok (.aload_n 0, 1) := by decide +kernel
theorem dX5_settle_45 : decode cX5_settle 45 = .ok (.iconst 0, 1) := by decide +kernel
theorem dX5_settle_46 : decode cX5_settle 46 = .ok (.putfield 65, 3) := by decide +kernel
theorem dX5_settle_49 : decode cX5_settle 49 = .ok (.return_, 1) := by decide +kernel
theorem dX5_costOfTrial_0 : decode cX5_costOfTrial 0 = .ok (.aload_n 0, 1) := by decide +kernel
theorem dX5_costOfTrial_1 : decode cX5_costOfTrial 1 = .ok (.getfield 41, 3) := by decide +kernel
theorem dX5_costOfTrial_4 : decode cX5_costOfTrial 4 = .ok (.aload_n 0, 1) := by decide +kernel
theorem dX5_costOfTrial_5 : decode cX5_costOfTrial 5 = .ok (.getfield 16, 3) := by decide +kernel
theorem dX5_costOfTrial_8 : decode cX5_costOfTrial 8 = .ok (.invokevirtual 215, 3) := by decide +kernel
theorem dX5_costOfTrial_11 : decode cX5_costOfTrial 11 = .ok (.aload_n 0, 1) := by decide +kernel
theorem dX5_costOfTrial_12 : decode cX5_costOfTrial 12 = .ok (.getfield 41, 3) := by decide +kernel
theorem dX5_costOfTrial_15 : decode cX5_costOfTrial 15 = .ok (.iconst 0, 1) := by decide +kernel
theorem dX5_costOfTrial_16 : decode cX5_costOfTrial 16 = .ok (.iconst 0, 1) := by decide +kernel
theorem dX5_costOfTrial_17 : decode cX5_costOfTrial 17 = .ok (.invokevirtual 121, 3) := by decide +kernel
theorem dX5_costOfTrial_20 : decode cX5_costOfTrial 20 = .ok (.ireturn, 1) := by decide +kernel
theorem dX6_init_0 : decode cX6_init 0 = .ok (.aload_n 0, 1) := by decide +kernel
theorem dX6_init_1 : decode cX6_init 1 = .ok (.invokespecial 1, 3) := by decide +kernel
theorem dX6_init_4 : decode cX6_init 4 = .ok (.aload_n 0, 1) := by decide +kernel
theorem dX6_init_5 : decode cX6_init 5 = .ok (.bipush 47, 2) := by decide +kernel
theorem dX6_init_7 : decode cX6_init 7 = .ok (.newarray .int, 2) := by decide +kernel
theorem dX6_init_9 : decode cX6_init 9 = .ok (.putfield 7, 3) := by decide +kernel
theorem dX6_init_12 : decode cX6_init 12 = .ok (.aload_n 0, 1) := by decide +kernel
theorem dX6_init_13 : decode cX6_init 13 = .ok (.bipush 47, 2) := by decide +kernel
theorem dX6_init_15 : decode cX6_init 15 = .ok (.newarray .int, 2) := by decide +kernel
theorem dX6_init_17 : decode cX6_init 17 = .ok (.putfield 13, 3) := by decide +kernel
theorem dX6_init_20 : decode cX6_init 20 = .ok (.aload_n 0, 1) := by decide +kernel
theorem dX6_init_21 : decode cX6_init 21 = .ok (.sipush 282, 3) := by decide +kernel
theorem dX6_init_24 : decode cX6_init 24 = .ok (.newarray .int, 2) := by decide +kernel
theorem dX6_init_26 : decode cX6_init 26 = .ok (.putfield 16, 3) := by decide +kernel
theorem dX6_init_29 : decode cX6_init 29 = .ok (.aload_n 0, 1) := by decide +kernel
theorem dX6_init_30 : decode cX6_init 30 = .ok (.bipush 94, 2) := by decide +kernel
theorem dX6_init_32 : decode cX6_init 32 = .ok (.newarray .int, 2) := by decide +kernel
theorem dX6_init_34 : decode cX6_init 34 = .ok (.putfield 19, 3) := by decide +kernel
theorem dX6_init_37 : decode cX6_init 37 = .ok (.aload_n 0, 1) := by decide +kernel
theorem dX6_init_38 : decode cX6_init 38 = .ok (.iconst 2, 1) := by decide +kernel
theorem dX6_init_39 : decode cX6_init 39 = .ok (.newarray .boolean, 2) := by decide +kernel
theorem dX6_init_41 : decode cX6_init 41 = .ok (.putfield 22, 3) := by decide +kernel
theorem dX6_init_44 : decode cX6_init 44 = .ok (.aload_n 0, 1) := by decide +kernel
theorem dX6_init_45 : decode cX6_init 45 = .ok (.bipush 30, 2) := by decide +kernel
theorem dX6_init_47 : decode cX6_init 47 = .ok (.newarray .int, 2) := by decide +kernel
theorem dX6_init_49 : decode cX6_init 49 = .ok (.putfield 26, 3) := by decide +kernel
theorem dX6_init_52 : decode cX6_init 52 = .ok (.aload_n 0, 1) := by decide +kernel
theorem dX6_init_53 : decode cX6_init 53 = .ok (.sipush 1331, 3) := by decide +kernel
theorem dX6_init_56 : decode cX6_init 56 = .ok (.newarray .int, 2) := by decide +kernel
theorem dX6_init_58 : decode cX6_init 58 = .ok (.putfield 29, 3) := by decide +kernel
theorem dX6_init_61 : decode cX6_init 61 = .ok (.aload_n 0, 1) := by decide +kernel
theorem dX6_init_62 : decode cX6_init 62 = .ok (.sipush 1331, 3) := by decide +kernel
theorem dX6_init_65 : decode cX6_init 65 = .ok (.newarray .int, 2) := by decide +kernel
theorem dX6_init_67 : decode cX6_init 67 = .ok (.putfield 32, 3) := by decide +kernel
theorem dX6_init_70 : decode cX6_init 70 = .ok (.aload_n 0, 1) := by decide +kernel
theorem dX6_init_71 : decode cX6_init 71 = .ok (.sipush 1331, 3) := by decide +kernel
theorem dX6_init_74 : decode cX6_init 74 = .ok (.newarray .long, 2) := by decide +kernel
theorem dX6_init_76 : decode cX6_init 76 = .ok (.putfield 35, 3) := by decide +kernel
theorem dX6_init_79 : decode cX6_init 79 = .ok (.aload_n 0, 1) := by decide +kernel
theorem dX6_init_80 : decode cX6_init 80 = .ok (.sipush 1331, 3) := by decide +kernel
theorem dX6_init_83 : decode cX6_init 83 = .ok (.newarray .boolean, 2) := by decide +kernel
theorem dX6_init_85 : decode cX6_init 85 = .ok (.putfield 39, 3) := by decide +kernel
theorem dX6_init_88 : decode cX6_init 88 = .ok (.aload_n 0, 1) := by decide +kernel
theorem dX6_init_89 : decode cX6_init 89 = .ok (.sipush 160, 3) := by decide +kernel
theorem dX6_init_92 : decode cX6_init 92 = .ok (.newarray .int, 2) := by decide +kernel
theorem dX6_init_94 : decode cX6_init 94 = .ok (.putfield 42, 3) := by decide +kernel
theorem dX6_init_97 : decode cX6_init 97 = .ok (.aload_n 0, 1) := by decide +kernel
theorem dX6_init_98 : decode cX6_init 98 = .ok (.sipush 160, 3) := by decide +kernel
theorem dX6_init_101 : decode cX6_init 101 = .ok (.newarray .int, 2) := by decide +kernel
theorem dX6_init_103 : decode cX6_init 103 = .ok (.putfield 45, 3) := by decide +kernel
theorem dX6_init_106 : decode cX6_init 106 = .ok (.aload_n 0, 1) := by decide +kernel
theorem dX6_init_107 : decode cX6_init 107 = .ok (.sipush 160, 3) := by decide +kernel
theorem dX6_init_110 : decode cX6_init 110 = .ok (.newarray .int, 2) := by decide +kernel
theorem dX6_init_112 : decode cX6_init 112 = .ok (.putfield 48, 3) := by decide +kernel
theorem dX6_init_115 : decode cX6_init 115 = .ok (.aload_n 0, 1) := by decide +kernel
theorem dX6_init_116 : decode cX6_init 116 = .ok (.getfield 7, 3) := by decide +kernel
theorem dX6_init_119 : decode cX6_init 119 = .ok (.iconst 0, 1) := by decide +kernel
theorem dX6_init_120 : decode cX6_init 120 = .ok (.bipush 40, 2) := by decide +kernel
theorem dX6_init_122 : decode cX6_init 122 = .ok (.iastore, 1) := by decide +kernel
theorem dX6_init_123 : decode cX6_init 123 = .ok (.aload_n 0, 1) := by decide +kernel
theorem dX6_init_124 : decode cX6_init 124 = .ok (.getfield 7, 3) := by decide +kernel
theorem dX6_init_127 : decode cX6_init 127 = .ok (.iconst 1, 1) := by decide +kernel
theorem dX6_init_128 : decode cX6_init 128 = .ok (.bipush 10, 2) := by decide +kernel
theorem dX6_init_130 : decode cX6_init 130 = .ok (.iastore, 1) := by decide +kernel
theorem dX6_init_131 : decode cX6_init 131 = .ok (.aload_n 0, 1) := by decide +kernel
theorem dX6_init_132 : decode cX6_init 132 = .ok (.getfield 7, 3) := by decide +kernel
theorem dX6_init_135 : decode cX6_init 135 = .ok (.iconst 2, 1) := by decide +kernel
theorem dX6_init_136 : decode cX6_init 136 = .ok (.iconst 2, 1) := by decide +kernel
theorem dX6_init_137 : decode cX6_init 137 = .ok (.iastore, 1) := by decide +kernel
theorem dX6_init_138 : decode cX6_init 138 = .ok (.aload_n 0, 1) := by decide +kernel
theorem dX6_init_139 : decode cX6_init 139 = .ok (.getfield 7, 3) := by decide +kernel
theorem dX6_init_142 : decode cX6_init 142 = .ok (.iconst 3, 1) := by decide +kernel
theorem dX6_init_143 : decode cX6_init 143 = .ok (.bipush 6, 2) := by decide +kernel
theorem dX6_init_145 : decode cX6_init 145 = .ok (.iastore, 1) := by decide +kernel
theorem dX6_init_146 : decode cX6_init 146 = .ok (.aload_n 0, 1) := by decide +kernel
theorem dX6_init_147 : decode cX6_init 147 = .ok (.getfield 7, 3) := by decide +kernel
theorem dX6_init_150 : decode cX6_init 150 = .ok (.iconst 4, 1) := by decide +kernel
theorem dX6_init_151 : decode cX6_init 151 = .ok (.iconst 3, 1) := by decide +kernel
theorem dX6_init_152 : decode cX6_init 152 = .ok (.iastore, 1) := by decide +kernel
theorem dX6_init_153 : decode cX6_init 153 = .ok (.return_, 1) := by decide +kernel
theorem dX6_in_0 : decode cX6_in 0 = .ok (.iload_n 0, 1) := by decide +kernel
theorem dX6_in_1 : decode cX6_in 1 = .ok (.iload_n 1, 1) := by decide +kernel
theorem dX6_in_2 : decode cX6_in 2 = .ok (.if_icmp .lt 12, 3) := by decide +kernel
theorem dX6_in_5 : decode cX6_in 5 = .ok (.iload_n 0, 1) := by decide +kernel
theorem dX6_in_6 : decode cX6_in 6 = .ok (.iload_n 2, 1) := by decide +kernel
theorem dX6_in_7 : decode cX6_in 7 = .ok (.if_icmp .gt 7, 3) := by decide +kernel
theorem dX6_in_10 : decode cX6_in 10 = .ok (.iconst 1, 1) := by decide +kernel
theorem dX6_in_11 : decode cX6_in 11 = .ok (.goto 4, 3) := by decide +kernel
theorem dX6_in_14 : decode cX6_in 14 = .ok (.iconst 0, 1) := by decide +kernel
theorem dX6_in_15 : decode cX6_in 15 = .ok (.ireturn, 1) := by decide +kernel
theorem dX6_bring_0 : decode cX6_bring 0 = .ok (.iconst 0, 1) := by decide +kernel
theorem dX6_bring_1 : decode cX6_bring 1 = .ok (.istore 5, 2) := by decide +kernel
theorem dX6_bring_3 : decode cX6_bring 3 = .ok (.iload 5, 2) := by decide +kernel
theorem dX6_bring_5 : decode cX6_bring 5 = .ok (.iload 4, 2) := by decide +kernel
theorem dX6_bring_7 : decode cX6_bring 7 = .ok (.if_icmp .ge 21, 3) := by decide +kernel
theorem dX6_bring_10 : decode cX6_bring 10 = .ok (.aload_n 2, 1) := by decide +kernel
theorem dX6_bring_11 : decode cX6_bring 11 = .ok (.iload_n 3, 1) := by decide +kernel
theorem dX6_bring_12 : decode cX6_bring 12 = .ok (.iload 5, 2) := by decide +kernel
theorem dX6_bring_14 : decode cX6_bring 14 = .ok (.iadd, 1) := by decide +kernel
theorem dX6_bring_15 : decode cX6_bring 15 = .ok (.aload_n 0, 1) := by decide +kernel
theorem dX6_bring_16 : decode cX6_bring 16 = .ok (.iload_n 1, 1) := by decide +kernel
theorem dX6_bring_17 : decode cX6_bring 17 = .ok (.iload 5, 2) := by decide +kernel
theorem dX6_bring_19 : decode cX6_bring 19 = .ok (.iadd, 1) := by decide +kernel
theorem dX6_bring_20 : decode cX6_bring 20 = .ok (.iaload, 1) := by decide +kernel
theorem dX6_bring_21 : decode cX6_bring 21 = .ok (.iastore, 1) := by decide +kernel
theorem dX6_bring_22 : decode cX6_bring 22 = .ok (.iinc 5 1, 3) := by decide +kernel
theorem dX6_bring_25 : decode cX6_bring 25 = .ok (.goto (-22), 3) := by decide +kernel
theorem dX6_bring_28 : decode cX6_bring 28 = .ok (.return_, 1) := by decide +kernel
theorem dX6_isFigure_0 : decode cX6_isFigure 0 = .ok (.iload_n 1, 1) := by decide +kernel
theorem dX6_isFigure_1 : decode cX6_isFigure 1 = .ok (.iconst 0, 1) := by decide +kernel
theorem dX6_isFigure_2 : decode cX6_isFigure 2 = .ok (.aload_n 0, 1) := by decide +kernel
theorem dX6_isFigure_3 : decode cX6_isFigure 3 = .ok (.getfield 7, 3) := by decide +kernel
theorem dX6_isFigure_6 : decode cX6_isFigure 6 = .ok (.bipush 6, 2) := by decide +kernel
theorem dX6_isFigure_8 : decode cX6_isFigure 8 = .ok (.iaload, 1) := by decide +kernel
theorem dX6_isFigure_9 : decode cX6_isFigure 9 = .ok (.iconst 1, 1) := by decide +kernel
theorem dX6_isFigure_10 : decode cX6_isFigure 10 = .ok (.isub, 1) := by decide +kernel
theorem dX6_isFigure_11 : decode cX6_isFigure 11 = .ok (.invokestatic 51, 3) := by decide +kernel
theorem dX6_isFigure_14 : decode cX6_isFigure 14 = .ok (.ireturn, 1) := by decide +kernel
theorem dX6_high_0 : decode cX6_high 0 = .ok (.aload_n 0, 1) := by decide +kernel
theorem dX6_high_1 : decode cX6_high 1 = .ok (.getfield 7, 3) := by decide +kernel
theorem dX6_high_4 : decode cX6_high 4 = .ok (.bipush 7, 2) := by decide +kernel
theorem dX6_high_6 : decode cX6_high 6 = .ok (.iconst 4, 1) := by decide +kernel
theorem dX6_high_7 : decode cX6_high 7 = .ok (.iload_n 1, 1) := by decide +kernel
theorem dX6_high_8 : decode cX6_high 8 = .ok (.imul, 1) := by decide +kernel
theorem dX6_high_9 : decode cX6_high 9 = .ok (.iadd, 1) := by decide +kernel
theorem dX6_high_10 : decode cX6_high 10 = .ok (.iaload, 1) := by decide +kernel
theorem dX6_high_11 : decode cX6_high 11 = .ok (.ireturn, 1) := by decide +kernel
theorem dX6_isWide_0 : decode cX6_isWide 0 = .ok (.aload_n 0, 1) := by decide +kernel
theorem dX6_isWide_1 : decode cX6_isWide 1 = .ok (.getfield 7, 3) := by decide +kernel
theorem dX6_isWide_4 : decode cX6_isWide 4 = .ok (.bipush 7, 2) := by decide +kernel
theorem dX6_isWide_6 : decode cX6_isWide 6 = .ok (.iconst 4, 1) := by decide +kernel
theorem dX6_isWide_7 : decode cX6_isWide 7 = .ok (.iload_n 1, 1) := by decide +kernel
theorem dX6_isWide_8 : decode cX6_isWide 8 = .ok (.imul, 1) := by decide +kernel
theorem dX6_isWide_9 : decode cX6_isWide 9 = .ok (.iadd, 1) := by decide +kernel
theorem dX6_isWide_10 : decode cX6_isWide 10 = .ok (.iconst 1, 1) := by decide +kernel
theorem dX6_isWide_11 : decode cX6_isWide 11 = .ok (.iadd, 1) := by decide +kernel
theorem dX6_isWide_12 : decode cX6_isWide 12 = .ok (.iaload, 1) := by decide +kernel
theorem dX6_isWide_13 : decode cX6_isWide 13 = .ok (.iconst 1, 1) := by decide +kernel
theorem dX6_isWide_14 : decode cX6_isWide 14 = .ok (.if_icmp .ne 7, 3) := by decide +kernel
theorem dX6_isWide_17 : decode cX6_isWide 17 = .ok (.iconst 1, 1) := by decide +kernel
theorem dX6_isWide_18 : decode cX6_isWide 18 = .ok (.goto 4, 3) := by decide +kernel
theorem dX6_isWide_21 : decode cX6_isWide 21 = .ok (.iconst 0, 1) := by decide +kernel
theorem dX6_isWide_22 : decode cX6_isWide 22 = .ok (.ireturn, 1) := by decide +kernel
theorem dX6_weight_0 : decode cX6_weight 0 = .ok (.aload_n 0, 1) := by decide +kernel
theorem dX6_weight_1 : decode cX6_weight 1 = .ok (.getfield 7, 3) := by decide +kernel
theorem dX6_weight_4 : decode cX6_weight 4 = .ok (.bipush 7, 2) := by decide +kernel
theorem dX6_weight_6 : decode cX6_weight 6 = .ok (.iconst 4, 1) := by decide +kernel
theorem dX6_weight_7 : decode cX6_weight 7 = .ok (.iload_n 1, 1) := by decide +kernel
theorem dX6_weight_8 : decode cX6_weight 8 = .ok (.imul, 1) := by decide +kernel
theorem dX6_weight_9 : decode cX6_weight 9 = .ok (.iadd, 1) := by decide +kernel
theorem dX6_weight_10 : decode cX6_weight 10 = .ok (.iconst 3, 1) := by decide +kernel
theorem dX6_weight_11 : decode cX6_weight 11 = .ok (.iadd, 1) := by decide +kernel
theorem dX6_weight_12 : decode cX6_weight 12 = .ok (.iaload, 1) := by decide +kernel
theorem dX6_weight_13 : decode cX6_weight 13 = .ok (.ireturn, 1) := by decide +kernel
theorem dX6_mentionLine_0 : decode cX6_mentionLine 0 = .ok (.aload_n 0, 1) := by decide +kernel
theorem dX6_mentionLine_1 : decode cX6_mentionLine 1 = .ok (.getfield 7, 3) := by decide +kernel
theorem dX6_mentionLine_4 : decode cX6_mentionLine 4 = .ok (.bipush 7, 2) := by decide +kernel
theorem dX6_mentionLine_6 : decode cX6_mentionLine 6 = .ok (.iconst 4, 1) := by decide +kernel
theorem dX6_mentionLine_7 : decode cX6_mentionLine 7 = .ok (.iload_n 1, 1) := by decide +kernel
theorem dX6_mentionLine_8 : decode cX6_mentionLine 8 = .ok (.imul, 1) := by decide +kernel
theorem dX6_mentionLine_9 : decode cX6_mentionLine 9 = .ok (.iadd, 1) := by decide +kernel
theorem dX6_mentionLine_10 : decode cX6_mentionLine 10 = .ok (.iconst 2, 1) := by decide +kernel
theorem dX6_mentionLine_11 : decode cX6_mentionLine 11 = .ok (.iadd, 1) := by decide +kernel
theorem dX6_mentionLine_12 : decode cX6_mentionLine 12 = .ok (.iaload, 1) := by decide +kernel
theorem dX6_mentionLine_13 : decode cX6_mentionLine 13 = .ok (.istore_n 2, 1) := by decide +kernel
theorem dX6_mentionLine_14 : decode cX6_mentionLine 14 = .ok (.iload_n 2, 1) := by decide +kernel
theorem dX6_mentionLine_15 : decode cX6_mentionLine 15 = .ok (.aload_n 0, 1) := by decide +kernel
theorem dX6_mentionLine_16 : decode cX6_mentionLine 16 = .ok (.getfield 7, 3) := by decide +kernel
theorem dX6_mentionLine_19 : decode cX6_mentionLine 19 = .ok (.iconst 0, 1) := by decide +kernel
theorem dX6_mentionLine_20 : decode cX6_mentionLine 20 = .ok (.iaload, 1) := by decide +kernel
theorem dX6_mentionLine_21 : decode cX6_mentionLine 21 = .ok (.if_icmp .ge 7, 3) := by decide +kernel
theorem dX6_mentionLine_24 : decode cX6_mentionLine 24 = .ok (.iload_n 2, 1) := by decide +kernel
theorem dX6_mentionLine_25 : decode cX6_mentionLine 25 = .ok (.goto 11, 3) := by decide +kernel
theorem dX6_mentionLine_28 : decode cX6_mentionLine 28 = .ok (.aload_n 0, 1) := by decide +kernel
theorem dX6_mentionLine_29 : decode cX6_mentionLine 29 = .ok (.getfield 7, 3) := by decide +kernel
theorem dX6_mentionLine_32 : decode cX6_mentionLine 32 = .ok (.iconst 0, 1) := by decide +kernel
theorem dX6_mentionLine_33 : decode cX6_mentionLine 33 = .ok (.iaload, 1) := by decide +kernel
theorem dX6_mentionLine_34 : decode cX6_mentionLine 34 = .ok (.iconst 1, 1) := by decide +kernel
theorem dX6_mentionLine_35 : decode cX6_mentionLine 35 = .ok (.isub, 1) := by decide +kernel
theorem dX6_mentionLine_36 : decode cX6_mentionLine 36 = .ok (.ireturn, 1) := by decide +kernel
theorem dX6_column_0 : decode cX6_column 0 = .ok (.iconst 0, 1) := by decide +kernel
theorem dX6_column_1 : decode cX6_column 1 = .ok (.istore 5, 2) := by decide +kernel
theorem dX6_column_3 : decode cX6_column 3 = .ok (.iconst 0, 1) := by decide +kernel
theorem dX6_column_4 : decode cX6_column 4 = .ok (.istore 6, 2) := by decide +kernel
theorem dX6_column_6 : decode cX6_column 6 = .ok (.iload 6, 2) := by decide +kernel
theorem dX6_column_8 : decode cX6_column 8 = .ok (.iload_n 2, 1) := by decide +kernel
theorem dX6_column_9 : decode cX6_column 9 = .ok (.if_icmp .ge 69, 3) := by decide +kernel
theorem dX6_column_12 : decode cX6_column 12 = .ok (.aload_n 0, 1) := by decide +kernel
theorem dX6_column_13 : decode cX6_column 13 = .ok (.iload_n 1, 1) := by decide +kernel
theorem dX6_column_14 : decode cX6_column 14 = .ok (.iload 6, 2) := by decide +kernel
theorem dX6_column_16 : decode cX6_column 16 = .ok (.iadd, 1) := by decide +kernel
theorem dX6_column_17 : decode cX6_column 17 = .ok (.invokevirtual 55, 3) := by decide +kernel
theorem dX6_column_20 : decode cX6_column 20 = .ok (.ifCond .ne 23, 3) := by decide +kernel
theorem dX6_column_23 : decode cX6_column 23 = .ok (.iload_n 3, 1) := by decide +kernel
theorem dX6_column_24 : decode cX6_column 24 = .ok (.iload 6, 2) := by decide +kernel
theorem dX6_column_26 : decode cX6_column 26 = .ok (.ishr, 1) := by decide +kernel
theorem dX6_column_27 : decode cX6_column 27 = .ok (.iconst 1, 1) := by decide +kernel
theorem dX6_column_28 : decode cX6_column 28 = .ok (.iand, 1) := by decide +kernel
theorem dX6_column_29 : decode cX6_column 29 = .ok (.iconst 1, 1) := by decide +kernel
theorem dX6_column_30 : decode cX6_column 30 = .ok (.if_icmp .ne 7, 3) := by decide +kernel
theorem dX6_column_33 : decode cX6_column 33 = .ok (.iconst 1, 1) := by decide +kernel
theorem dX6_column_34 : decode cX6_column 34 = .ok (.goto 4, 3) := by decide +kernel
theorem dX6_column_37 : decode cX6_column 37 = .ok (.iconst 0, 1) := by decide +kernel
theorem dX6_column_38 : decode cX6_column 38 = .ok (.iload 4, 2) := by decide +kernel
theorem dX6_column_40 : decode cX6_column 40 = .ok (.if_icmp .ne 7, 3) := by decide +kernel
theorem dX6_column_43 : decode cX6_column 43 = .ok (.iconst 1, 1) := by decide +kernel
theorem dX6_column_44 : decode cX6_column 44 = .ok (.goto 4, 3) := by decide +kernel
theorem dX6_column_47 : decode cX6_column 47 = .ok (.iconst 0, 1) := by decide +kernel
theorem dX6_column_48 : decode cX6_column 48 = .ok (.istore 7, 2) := by decide +kernel
theorem dX6_column_50 : decode cX6_column 50 = .ok (.iload 5, 2) := by decide +kernel
theorem dX6_column_52 : decode cX6_column 52 = .ok (.iload 7, 2) := by decide +kernel
theorem dX6_column_54 : decode cX6_column 54 = .ok (.ifCond .eq 14, 3) := by decide +kernel
theorem dX6_column_57 : decode cX6_column 57 = .ok (.aload_n 0, 1) := by decide +kernel
theorem dX6_column_58 : decode cX6_column 58 = .ok (.iload_n 1, 1) := by decide +kernel
theorem dX6_column_59 : decode cX6_column 59 = .ok (.iload 6, 2) := by decide +kernel
theorem dX6_column_61 : decode cX6_column 61 = .ok (.iadd, 1) := by decide +kernel
theorem dX6_column_62 : decode cX6_column 62 = .ok (.invokevirtual 59, 3) := by decide +kernel
theorem dX6_column_65 : decode cX6_column 65 = .ok (.goto 4, 3) := by decide +kernel
theorem dX6_column_68 : decode cX6_column 68 = .ok (.iconst 0, 1) := by decide +kernel
theorem dX6_column_69 : decode cX6_column 69 = .ok (.iadd, 1) := by decide +kernel
theorem dX6_column_70 : decode cX6_column 70 = .ok (.istore 5, 2) := by decide +kernel
theorem dX6_column_72 : decode cX6_column 72 = .ok (.iinc 6 1, 3) := by decide +kernel
theorem dX6_column_75 : decode cX6_column 75 = .ok (.goto (-69), 3) := by decide +kernel
theorem dX6_column_78 : decode cX6_column 78 = .ok (.iload 5, 2) := by decide +kernel
theorem dX6_column_80 : decode cX6_column 80 = .ok (.ireturn, 1) := by decide +kernel
theorem dX6_isFit_0 : decode cX6_isFit 0 = .ok (.iload_n 2, 1) := by decide +kernel
theorem dX6_isFit_1 : decode cX6_isFit 1 = .ok (.aload_n 0, 1) := by decide +kernel
theorem dX6_isFit_2 : decode cX6_isFit 2 = .ok (.getfield 7, 3) := by decide +kernel
theorem dX6_isFit_5 : decode cX6_isFit 5 = .ok (.iconst 4, 1) := by decide +kernel
theorem dX6_isFit_6 : decode cX6_isFit 6 = .ok (.iaload, 1) := by decide +kernel
theorem dX6_isFit_7 : decode cX6_isFit 7 = .ok (.if_icmp .le 5, 3) := by decide +kernel
theorem dX6_isFit_10 : decode cX6_isFit 10 = .ok (.iconst 0, 1) := by decide +kernel
theorem dX6_isFit_11 : decode cX6_isFit 11 = .ok (.ireturn, 1) := by decide +kernel
theorem dX6_isFit_12 : decode cX6_isFit 12 = .ok (.iload_n 2, 1) := by decide +kernel
theorem dX6_isFit_13 : decode cX6_isFit 13 = .ok (.ifCond .ne 7, 3) := by decide +kernel
theorem dX6_isFit_16 : decode cX6_isFit 16 = .ok (.iconst 1, 1) := by decide +kernel
theorem dX6_isFit_17 : decode cX6_isFit 17 = .ok (.goto 4, 3) := by decide +kernel
theorem dX6_isFit_20 : decode cX6_isFit 20 = .ok (.iconst 0, 1) := by decide +kernel
theorem dX6_isFit_21 : decode cX6_isFit 21 = .ok (.istore_n 3, 1) := by decide +kernel
theorem dX6_isFit_22 : decode cX6_isFit 22 = .ok (.iconst 0, 1) := by decide +kernel
theorem dX6_isFit_23 : decode cX6_isFit 23 = .ok (.istore 4, 2) := by decide +kernel
theorem dX6_isFit_25 : decode cX6_isFit 25 = .ok (.iload 4, 2) := by decide +kernel
theorem dX6_isFit_27 : decode cX6_isFit 27 = .ok (.iconst 1, 1) := by decide +kernel
theorem dX6_isFit_28 : decode cX6_isFit 28 = .ok (.iload_n 2, 1) := by decide +kernel
theorem dX6_isFit_29 : decode cX6_isFit 29 = .ok (.ishl, 1) := by decide +kernel
theorem dX6_isFit_30 : decode cX6_isFit 30 = .ok (.if_icmp .ge 107, 3) := by decide +kernel
theorem dX6_isFit_33 : decode cX6_isFit 33 = .ok (.aload_n 0, 1) := by decide +kernel
theorem dX6_isFit_34 : decode cX6_isFit 34 = .ok (.iload_n 1, 1) := by decide +kernel
theorem dX6_isFit_35 : decode cX6_isFit 35 = .ok (.iload_n 2, 1) := by decide +kernel
theorem dX6_isFit_36 : decode cX6_isFit 36 = .ok (.iload 4, 2) := by decide +kernel
theorem dX6_isFit_38 : decode cX6_isFit 38 = .ok (.iconst 1, 1) := by decide +kernel
theorem dX6_isFit_39 : decode cX6_isFit 39 = .ok (.invokevirtual 63, 3) := by decide +kernel
theorem dX6_isFit_42 : decode cX6_isFit 42 = .ok (.aload_n 0, 1) := by decide +kernel
theorem dX6_isFit_43 : decode cX6_isFit 43 = .ok (.getfield 7, 3) := by decide +kernel
theorem dX6_isFit_46 : decode cX6_isFit 46 = .ok (.iconst 3, 1) := by decide +kernel
theorem dX6_isFit_47 : decode cX6_isFit 47 = .ok (.iaload, 1) := by decide +kernel
theorem dX6_isFit_48 : decode cX6_isFit 48 = .ok (.if_icmp .gt 7, 3) := by decide +kernel
theorem dX6_isFit_51 : decode cX6_isFit 51 = .ok (.iconst 1, 1) := by decide +kernel
theorem dX6_isFit_52 : decode cX6_isFit 52 = .ok (.goto 4, 3) := by decide +kernel
theorem dX6_isFit_55 : decode cX6_isFit 55 = .ok (.iconst 0, 1) := by decide +kernel
theorem dX6_isFit_56 : decode cX6_isFit 56 = .ok (.istore 5, 2) := by decide +kernel
theorem dX6_isFit_58 : decode cX6_isFit 58 = .ok (.aload_n 0, 1) := by decide +kernel
theorem dX6_isFit_59 : decode cX6_isFit 59 = .ok (.getfield 7, 3) := by decide +kernel
theorem dX6_isFit_62 : decode cX6_isFit 62 = .ok (.iconst 2, 1) := by decide +kernel
theorem dX6_isFit_63 : decode cX6_isFit 63 = .ok (.iaload, 1) := by decide +kernel
theorem dX6_isFit_64 : decode cX6_isFit 64 = .ok (.iconst 1, 1) := by decide +kernel
theorem dX6_isFit_65 : decode cX6_isFit 65 = .ok (.if_icmp .ne 21, 3) := by decide +kernel
theorem dX6_isFit_68 : decode cX6_isFit 68 = .ok (.iload 4, 2) := by decide +kernel
theorem dX6_isFit_70 : decode cX6_isFit 70 = .ok (.iconst 1, 1) := by decide +kernel
theorem dX6_isFit_71 : decode cX6_isFit 71 = .ok (.iload_n 2, 1) := by decide +kernel
theorem dX6_isFit_72 : decode cX6_isFit 72 = .ok (.ishl, 1) := by decide +kernel
theorem dX6_isFit_73 : decode cX6_isFit 73 = .ok (.iconst 1, 1) := by decide +kernel
theorem dX6_isFit_74 : decode cX6_isFit 74 = .ok (.isub, 1) := by decide +kernel
theorem dX6_isFit_75 : decode cX6_isFit 75 = .ok (.if_icmp .ne 7, 3) := by decide +kernel
theorem dX6_isFit_78 : decode cX6_isFit 78 = .ok (.iconst 1, 1) := by decide +kernel
theorem dX6_isFit_79 : decode cX6_isFit 79 = .ok (.goto 30, 3) := by decide +kernel
theorem dX6_isFit_82 : decode cX6_isFit 82 = .ok (.iconst 0, 1) := by decide +kernel
theorem dX6_isFit_83 : decode cX6_isFit 83 = .ok (.goto 26, 3) := by decide +kernel
theorem dX6_isFit_86 : decode cX6_isFit 86 = .ok (.aload_n 0, 1) := by decide +kernel
theorem dX6_isFit_87 : decode cX6_isFit 87 = .ok (.iload_n 1, 1) := by decide +kernel
theorem dX6_isFit_88 : decode cX6_isFit 88 = .ok (.iload_n 2, 1) := by decide +kernel
theorem dX6_isFit_89 : decode cX6_isFit 89 = .ok (.iload 4, 2) := by decide +kernel
theorem dX6_isFit_91 : decode cX6_isFit 91 = .ok (.iconst 0, 1) := by decide +kernel
theorem dX6_isFit_92 : decode cX6_isFit 92 = .ok (.invokevirtual 63, 3) := by decide +kernel
theorem dX6_isFit_95 : decode cX6_isFit 95 = .ok (.aload_n 0, 1) := by decide +kernel
theorem dX6_isFit_96 : decode cX6_isFit 96 = .ok (.getfield 7, 3) := by decide +kernel
theorem dX6_isFit_99 : decode cX6_isFit 99 = .ok (.iconst 3, 1) := by decide +kernel
theorem dX6_isFit_100 : decode cX6_isFit 100 = .ok (.iaload, 1) := by decide +kernel
theorem dX6_isFit_101 : decode cX6_isFit 101 = .ok (.if_icmp .gt 7, 3) := by decide +kernel
theorem dX6_isFit_104 : decode cX6_isFit 104 = .ok (.iconst 1, 1) := by decide +kernel
theorem dX6_isFit_105 : decode cX6_isFit 105 = .ok (.goto 4, 3) := by decide +kernel
theorem dX6_isFit_108 : decode cX6_isFit 108 = .ok (.iconst 0, 1) := by decide +kernel
theorem dX6_isFit_109 : decode cX6_isFit 109 = .ok (.istore 6, 2) := by decide +kernel
theorem dX6_isFit_111 : decode cX6_isFit 111 = .ok (.iload_n 3, 1) := by decide +kernel
theorem dX6_isFit_112 : decode cX6_isFit 112 = .ok (.ifCond .ne 13, 3) := by decide +kernel
theorem dX6_isFit_115 : decode cX6_isFit 115 = .ok (.iload 5, 2) := by decide +kernel
theorem dX6_isFit_117 : decode cX6_isFit 117 = .ok (.ifCond .eq 12, 3) := by decide +kernel
theorem dX6_isFit_120 : decode cX6_isFit 120 = .ok (.iload 6, 2) := by decide +kernel
theorem dX6_isFit_122 : decode cX6_isFit 122 = .ok (.ifCond .eq 7, 3) := by decide +kernel
theorem dX6_isFit_125 : decode cX6_isFit 125 = .ok (.iconst 1, 1) := by decide +kernel
theorem dX6_isFit_126 : decode cX6_isFit 126 = .ok (.goto 4, 3) := by decide +kernel
theorem dX6_isFit_129 : decode cX6_isFit 129 = .ok (.iconst 0, 1) := by decide +kernel
theorem dX6_isFit_130 : decode cX6_isFit 130 = .ok (.istore_n 3, 1) := by decide +kernel
theorem dX6_isFit_131 : decode cX6_isFit 131 = .ok (.iinc 4 1, 3) := by decide +kernel
theorem dX6_isFit_134 : decode cX6_isFit 134 = .ok (.goto (-109), 3) := by decide +kernel
theorem dX6_isFit_137 : decode cX6_isFit 137 = .ok (.iload_n 3, 1) := by decide +kernel
theorem dX6_isFit_138 : decode cX6_isFit 138 = .ok (.ireturn, 1) := by decide +kernel
theorem dX6_taken_0 : decode cX6_taken 0 = .ok (.iconst 0, 1) := by decide +kernel
theorem dX6_taken_1 : decode cX6_taken 1 = .ok (.istore_n 3, 1) := by decide +kernel
theorem dX6_taken_2 : decode cX6_taken 2 = .ok (.iconst 0, 1) := by decide +kernel
theorem dX6_taken_3 : decode cX6_taken 3 = .ok (.istore 4, 2) := by decide +kernel
theorem dX6_taken_5 : decode cX6_taken 5 = .ok (.iload 4, 2) := by decide +kernel
theorem dX6_taken_7 : decode cX6_taken 7 = .ok (.iload_n 2, 1) := by decide +kernel
theorem dX6_taken_8 : decode cX6_taken 8 = .ok (.if_icmp .ge 42, 3) := by decide +kernel
theorem dX6_taken_11 : decode cX6_taken 11 = .ok (.iload_n 3, 1) := by decide +kernel
theorem dX6_taken_12 : decode cX6_taken 12 = .ok (.aload_n 0, 1) := by decide +kernel
theorem dX6_taken_13 : decode cX6_taken 13 = .ok (.iload_n 1, 1) := by decide +kernel
theorem dX6_taken_14 : decode cX6_taken 14 = .ok (.iload 4, 2) := by decide +kernel
theorem dX6_taken_16 : decode cX6_taken 16 = .ok (.iadd, 1) := by decide +kernel
theorem dX6_taken_17 : decode cX6_taken 17 = .ok (.invokevirtual 59, 3) := by decide +kernel
theorem dX6_taken_20 : decode cX6_taken 20 = .ok (.aload_n 0, 1) := by decide +kernel
theorem dX6_taken_21 : decode cX6_taken 21 = .ok (.iload_n 1, 1) := by decide +kernel
theorem dX6_taken_22 : decode cX6_taken 22 = .ok (.iload 4, 2) := by decide +kernel
theorem dX6_taken_24 : decode cX6_taken 24 = .ok (.iadd, 1) := by decide +kernel
theorem dX6_taken_25 : decode cX6_taken 25 = .ok (.invokevirtual 55, 3) := by decide +kernel
theorem dX6_taken_28 : decode cX6_taken 28 = .ok (.ifCond .eq 12, 3) := by decide +kernel
theorem dX6_taken_31 : decode cX6_taken 31 = .ok (.aload_n 0, 1) := by decide +kernel
theorem dX6_taken_32 : decode cX6_taken 32 = .ok (.getfield 7, 3) := by decide +kernel
theorem dX6_taken_35 : decode cX6_taken 35 = .ok (.iconst 2, 1) := by decide +kernel
theorem dX6_taken_36 : decode cX6_taken 36 = .ok (.iaload, 1) := by decide +kernel
theorem dX6_taken_37 : decode cX6_taken 37 = .ok (.goto 4, 3) := by decide +kernel
theorem dX6_taken_40 : decode cX6_taken 40 = .ok (.iconst 1, 1) := by decide +kernel
theorem dX6_taken_41 : decode cX6_taken 41 = .ok (.imul, 1) := by decide +kernel
theorem dX6_taken_42 : decode cX6_taken 42 = .ok (.iadd, 1) := by decide +kernel
theorem dX6_taken_43 : decode cX6_taken 43 = .ok (.istore_n 3, 1) := by decide +kernel
theorem dX6_taken_44 : decode cX6_taken 44 = .ok (.iinc 4 1, 3) := by decide +kernel
theorem dX6_taken_47 : decode cX6_taken 47 = .ok (.goto (-42), 3) := by decide +kernel
theorem dX6_taken_50 : decode cX6_taken 50 = .ok (.iload_n 3, 1) := by decide +kernel
theorem dX6_taken_51 : decode cX6_taken 51 = .ok (.ireturn, 1) := by decide +kernel
theorem dX6_linesBehind_0 : decode cX6_linesBehind 0 = .ok (.aload_n 0, 1) := by decide +kernel
theorem dX6_linesBehind_1 : decode cX6_linesBehind 1 = .ok (.getfield 7, 3) := by decide +kernel
theorem dX6_linesBehind_4 : decode cX6_linesBehind 4 = .ok (.iconst 2, 1) := by decide +kernel
theorem dX6_linesBehind_5 : decode cX6_linesBehind 5 = .ok (.iaload, 1) := by decide +kernel
theorem dX6_linesBehind_6 : decode cX6_linesBehind 6 = .ok (.aload_n 0, 1) := by decide +kernel
theorem dX6_linesBehind_7 : decode cX6_linesBehind 7 = .ok (.getfield 7, 3) := by decide +kernel
theorem dX6_linesBehind_10 : decode cX6_linesBehind 10 = .ok (.iconst 1, 1) := by decide +kernel
theorem dX6_linesBehind_11 : decode cX6_linesBehind 11 = .ok (.iaload, 1) := by decide +kernel
theorem dX6_linesBehind_12 : decode cX6_linesBehind 12 = .ok (.imul, 1) := by decide +kernel
theorem dX6_linesBehind_13 : decode cX6_linesBehind 13 = .ok (.aload_n 0, 1) := by decide +kernel
theorem dX6_linesBehind_14 : decode cX6_linesBehind 14 = .ok (.iload_n 2, 1) := by decide +kernel
theorem dX6_linesBehind_15 : decode cX6_linesBehind 15 = .ok (.iload_n 3, 1) := by decide +kernel
theorem dX6_linesBehind_16 : decode cX6_linesBehind 16 = .ok (.invokevirtual 67, 3) := by decide +kernel
theorem dX6_linesBehind_19 : decode cX6_linesBehind 19 = .ok (.isub, 1) := by decide +kernel
theorem dX6_linesBehind_20 : decode cX6_linesBehind 20 = .ok (.istore 4, 2) := by decide +kernel
theorem dX6_linesBehind_22 : decode cX6_linesBehind 22 = .ok (.iload_n 1, 1) := by decide +kernel
theorem dX6_linesBehind_23 : decode cX6_linesBehind 23 = .ok (.iload 4, 2) := by decide +kernel
theorem dX6_linesBehind_25 : decode cX6_linesBehind 25 = .ok (.iadd, 1) := by decide +kernel
theorem dX6_linesBehind_26 : decode cX6_linesBehind 26 = .ok (.aload_n 0, 1) := by decide +kernel
theorem dX6_linesBehind_27 : decode cX6_linesBehind 27 = .ok (.getfield 7, 3) := by decide +kernel
theorem dX6_linesBehind_30 : decode cX6_linesBehind 30 = .ok (.iconst 0, 1) := by decide +kernel
theorem dX6_linesBehind_31 : decode cX6_linesBehind 31 = .ok (.iaload, 1) := by decide +kernel
theorem dX6_linesBehind_32 : decode cX6_linesBehind 32 = .ok (.if_icmp .ge 10, 3) := by decide +kernel
theorem dX6_linesBehind_35 : decode cX6_linesBehind 35 = .ok (.iload_n 1, 1) := by decide +kernel
theorem dX6_linesBehind_36 : decode cX6_linesBehind 36 = .ok (.iload 4, 2) := by decide +kernel
theorem dX6_linesBehind_38 : decode cX6_linesBehind 38 = .ok (.iadd, 1) := by decide +kernel
theorem dX6_linesBehind_39 : decode cX6_linesBehind 39 = .ok (.goto 9, 3) := by decide +kernel
theorem dX6_linesBehind_42 : decode cX6_linesBehind 42 = .ok (.aload_n 0, 1) := by decide +kernel
theorem dX6_linesBehind_43 : decode cX6_linesBehind 43 = .ok (.getfield 7, 3) := by decide +kernel
theorem dX6_linesBehind_46 : decode cX6_linesBehind 46 = .ok (.iconst 0, 1) := by decide +kernel
theorem dX6_linesBehind_47 : decode cX6_linesBehind 47 = .ok (.iaload, 1) := by decide +kernel
theorem dX6_linesBehind_48 : decode cX6_linesBehind 48 = .ok (.ireturn, 1) := by decide +kernel
theorem dX6_areMentioned_0 : decode cX6_areMentioned 0 = .ok (.iconst 1, 1) := by decide +kernel
theorem dX6_areMentioned_1 : decode cX6_areMentioned 1 = .ok (.istore 4, 2) := by decide +kernel
theorem dX6_areMentioned_3 : decode cX6_areMentioned 3 = .ok (.iconst 0, 1) := by decide +kernel
theorem dX6_areMentioned_4 : decode cX6_areMentioned 4 = .ok (.istore 5, 2) := by decide +kernel
theorem dX6_areMentioned_6 : decode cX6_areMentioned 6 = .ok (.iload 5, 2) := by decide +kernel
theorem dX6_areMentioned_8 : decode cX6_areMentioned 8 = .ok (.iload_n 2, 1) := by decide +kernel
theorem dX6_areMentioned_9 : decode cX6_areMentioned 9 = .ok (.if_icmp .ge 33, 3) := by decide +kernel
theorem dX6_areMentioned_12 : decode cX6_areMentioned 12 = .ok (.iload 4, 2) := by decide +kernel
theorem dX6_areMentioned_14 : decode cX6_areMentioned 14 = .ok (.ifCond .eq 19, 3) := by decide +kernel
theorem dX6_areMentioned_17 : decode cX6_areMentioned 17 = .ok (.aload_n 0, 1) := by decide +kernel
theorem dX6_areMentioned_18 : decode cX6_areMentioned 18 = .ok (.iload_n 1, 1) := by decide +kernel
theorem dX6_areMentioned_19 : decode cX6_areMentioned 19 = .ok (.iload 5, 2) := by decide +kernel
theorem dX6_areMentioned_21 : decode cX6_areMentioned 21 = .ok (.iadd, 1) := by decide +kernel
theorem dX6_areMentioned_22 : decode cX6_areMentioned 22 = .ok (.invokevirtual 71, 3) := by decide +kernel
theorem dX6_areMentioned_25 : decode cX6_areMentioned 25 = .ok (.iload_n 3, 1) := by decide +kernel
theorem dX6_areMentioned_26 : decode cX6_areMentioned 26 = .ok (.if_icmp .ge 7, 3) := by decide +kernel
theorem dX6_areMentioned_29 : decode cX6_areMentioned 29 = .ok (.iconst 1, 1) := by decide +kernel
theorem dX6_areMentioned_30 : decode cX6_areMentioned 30 = .ok (.goto 4, 3) := by decide +kernel
theorem dX6_areMentioned_33 : decode cX6_areMentioned 33 = .ok (.iconst 0, 1) := by decide +kernel
theorem dX6_areMentioned_34 : decode cX6_areMentioned 34 = .ok (.istore 4, 2) := by decide +kernel
theorem dX6_areMentioned_36 : decode cX6_areMentioned 36 = .ok (.iinc 5 1, 3) := by decide +kernel
theorem dX6_areMentioned_39 : decode cX6_areMentioned 39 = .ok (.goto (-33), 3) := by decide +kernel
theorem dX6_areMentioned_42 : decode cX6_areMentioned 42 = .ok (.iload 4, 2) := by decide +kernel
theorem dX6_areMentioned_44 : decode cX6_areMentioned 44 = .ok (.ireturn, 1) := by decide +kernel
theorem dX6_clashing_0 : decode cX6_clashing 0 = .ok (.iconst 0, 1) := by decide +kernel
theorem dX6_clashing_1 : decode cX6_clashing 1 = .ok (.istore_n 1, 1) := by decide +kernel
theorem dX6_clashing_2 : decode cX6_clashing 2 = .ok (.iload_n 1, 1) := by decide +kernel
theorem dX6_clashing_3 : decode cX6_clashing 3 = .ok (.aload_n 0, 1) := by decide +kernel
theorem dX6_clashing_4 : decode cX6_clashing 4 = .ok (.getfield 7, 3) := by decide +kernel
theorem dX6_clashing_7 : decode cX6_clashing 7 = .ok (.bipush 6, 2) := by decide +kernel
theorem dX6_clashing_9 : decode cX6_clashing 9 = .ok (.iaload, 1) := by decide +kernel
theorem dX6_clashing_10 : decode cX6_clashing 10 = .ok (.if_icmp .ge 20, 3) := by decide +kernel
theorem dX6_clashing_13 : decode cX6_clashing 13 = .ok (.aload_n 0, 1) := by decide +kernel
theorem dX6_clashing_14 : decode cX6_clashing 14 = .ok (.iload_n 1, 1) := by decide +kernel
theorem dX6_clashing_15 : decode cX6_clashing 15 = .ok (.iconst 1, 1) := by decide +kernel
theorem dX6_clashing_16 : decode cX6_clashing 16 = .ok (.invokevirtual 74, 3) := by decide +kernel
theorem dX6_clashing_19 : decode cX6_clashing 19 = .ok (.ifCond .ne 5, 3) := by decide +kernel
theorem dX6_clashing_22 : decode cX6_clashing 22 = .ok (.iload_n 1, 1) := by decide +kernel
theorem dX6_clashing_23 : decode cX6_clashing 23 = .ok (.ireturn, 1) := by decide +kernel
theorem dX6_clashing_24 : decode cX6_clashing 24 = .ok (.iinc 1 1, 3) := by decide +kernel
theorem dX6_clashing_27 : decode cX6_clashing 27 = .ok (.goto (-25), 3) := by decide +kernel
theorem dX6_clashing_30 : decode cX6_clashing 30 = .ok (.iconst (-1), 1) := by decide +kernel
theorem dX6_clashing_31 : decode cX6_clashing 31 = .ok (.ireturn, 1) := by decide +kernel
theorem dX6_isMentioned_0 : decode cX6_isMentioned 0 = .ok (.aload_n 0, 1) := by decide +kernel
theorem dX6_isMentioned_1 : decode cX6_isMentioned 1 = .ok (.iload_n 1, 1) := by decide +kernel
theorem dX6_isMentioned_2 : decode cX6_isMentioned 2 = .ok (.invokevirtual 71, 3) := by decide +kernel
theorem dX6_isMentioned_5 : decode cX6_isMentioned 5 = .ok (.iload_n 2, 1) := by decide +kernel
theorem dX6_isMentioned_6 : decode cX6_isMentioned 6 = .ok (.if_icmp .lt 12, 3) := by decide +kernel
theorem dX6_isMentioned_9 : decode cX6_isMentioned 9 = .ok (.aload_n 0, 1) := by decide +kernel
theorem dX6_isMentioned_10 : decode cX6_isMentioned 10 = .ok (.getfield 7, 3) := by decide +kernel
theorem dX6_isMentioned_13 : decode cX6_isMentioned 13 = .ok (.iconst 0, 1) := by decide +kernel
theorem dX6_isMentioned_14 : decode cX6_isMentioned 14 = .ok (.iaload, 1) := by decide +kernel
theorem dX6_isMentioned_15 : decode cX6_isMentioned 15 = .ok (.ifCond .ne 7, 3) := by decide +kernel
theorem dX6_isMentioned_18 : decode cX6_isMentioned 18 = .ok (.iconst 1, 1) := by decide +kernel
theorem dX6_isMentioned_19 : decode cX6_isMentioned 19 = .ok (.goto 4, 3) := by decide +kernel
theorem dX6_isMentioned_22 : decode cX6_isMentioned 22 = .ok (.iconst 0, 1) := by decide +kernel
theorem dX6_isMentioned_23 : decode cX6_isMentioned 23 = .ok (.ireturn, 1) := by decide +kernel
theorem dX6_between_0 : decode cX6_between 0 = .ok (.iconst 0, 1) := by decide +kernel
theorem dX6_between_1 : decode cX6_between 1 = .ok (.istore 4, 2) := by decide +kernel
theorem dX6_between_3 : decode cX6_between 3 = .ok (.iconst 0, 1) := by decide +kernel
theorem dX6_between_4 : decode cX6_between 4 = .ok (.istore 5, 2) := by decide +kernel
theorem dX6_between_6 : decode cX6_between 6 = .ok (.iload 5, 2) := by decide +kernel
theorem dX6_between_8 : decode cX6_between 8 = .ok (.aload_n 0, 1) := by decide +kernel
theorem dX6_between_9 : decode cX6_between 9 = .ok (.getfield 7, 3) := by decide +kernel
theorem dX6_between_12 : decode cX6_between 12 = .ok (.bipush 6, 2) := by decide +kernel
theorem dX6_between_14 : decode cX6_between 14 = .ok (.iaload, 1) := by decide +kernel
theorem dX6_between_15 : decode cX6_between 15 = .ok (.if_icmp .ge 78, 3) := by decide +kernel
theorem dX6_between_18 : decode cX6_between 18 = .ok (.iload_n 3, 1) := by decide +kernel
theorem dX6_between_19 : decode cX6_between 19 = .ok (.ifCond .eq 27, 3) := by decide +kernel
theorem dX6_between_22 : decode cX6_between 22 = .ok (.iload 5, 2) := by decide +kernel
theorem dX6_between_24 : decode cX6_between 24 = .ok (.iload_n 2, 1) := by decide +kernel
theorem dX6_between_25 : decode cX6_between 25 = .ok (.if_icmp .ge 17, 3) := by decide +kernel
theorem dX6_between_28 : decode cX6_between 28 = .ok (.aload_n 0, 1) := by decide +kernel
theorem dX6_between_29 : decode cX6_between 29 = .ok (.iload 5, 2) := by decide +kernel
theorem dX6_between_31 : decode cX6_between 31 = .ok (.iload_n 1, 1) := by decide +kernel
theorem dX6_between_32 : decode cX6_between 32 = .ok (.invokevirtual 78, 3) := by decide +kernel
theorem dX6_between_35 : decode cX6_between 35 = .ok (.ifCond .ne 7, 3) := by decide +kernel
theorem dX6_between_38 : decode cX6_between 38 = .ok (.iconst 1, 1) := by decide +kernel
theorem dX6_between_39 : decode cX6_between 39 = .ok (.goto 28, 3) := by decide +kernel
theorem dX6_between_42 : decode cX6_between 42 = .ok (.iconst 0, 1) := by decide +kernel
theorem dX6_between_43 : decode cX6_between 43 = .ok (.goto 24, 3) := by decide +kernel
theorem dX6_between_46 : decode cX6_between 46 = .ok (.iload 5, 2) := by decide +kernel
theorem dX6_between_48 : decode cX6_between 48 = .ok (.iload_n 2, 1) := by decide +kernel
theorem dX6_between_49 : decode cX6_between 49 = .ok (.if_icmp .lt 17, 3) := by decide +kernel
theorem dX6_between_52 : decode cX6_between 52 = .ok (.aload_n 0, 1) := by decide +kernel
theorem dX6_between_53 : decode cX6_between 53 = .ok (.iload 5, 2) := by decide +kernel
theorem dX6_between_55 : decode cX6_between 55 = .ok (.iload_n 1, 1) := by decide +kernel
theorem dX6_between_56 : decode cX6_between 56 = .ok (.invokevirtual 78, 3) := by decide +kernel
theorem dX6_between_59 : decode cX6_between 59 = .ok (.ifCond .eq 7, 3) := by decide +kernel
theorem dX6_between_62 : decode cX6_between 62 = .ok (.iconst 1, 1) := by decide +kernel
theorem dX6_between_63 : decode cX6_between 63 = .ok (.goto 4, 3) := by decide +kernel
theorem dX6_between_66 : decode cX6_between 66 = .ok (.iconst 0, 1) := by decide +kernel
theorem dX6_between_67 : decode cX6_between 67 = .ok (.istore 6, 2) := by decide +kernel
theorem dX6_between_69 : decode cX6_between 69 = .ok (.iload 4, 2) := by decide +kernel
theorem dX6_between_71 : decode cX6_between 71 = .ok (.iload 6, 2) := by decide +kernel
theorem dX6_between_73 : decode cX6_between 73 = .ok (.ifCond .eq 10, 3) := by decide +kernel
theorem dX6_between_76 : decode cX6_between 76 = .ok (.iconst 1, 1) := by decide +kernel
theorem dX6_between_77 : decode cX6_between 77 = .ok (.iload 5, 2) := by decide +kernel
theorem dX6_between_79 : decode cX6_between 79 = .ok (.ishl, 1) := by decide +kernel
theorem dX6_between_80 : decode cX6_between 80 = .ok (.goto 4, 3) := by decide +kernel
theorem dX6_between_83 : decode cX6_between 83 = .ok (.iconst 0, 1) := by decide +kernel
theorem dX6_between_84 : decode cX6_between 84 = .ok (.ior, 1) := by decide +kernel
theorem dX6_between_85 : decode cX6_between 85 = .ok (.istore 4, 2) := by decide +kernel
theorem dX6_between_87 : decode cX6_between 87 = .ok (.iinc 5 1, 3) := by decide +kernel
theorem dX6_between_90 : decode cX6_between 90 = .ok (.goto (-84), 3) := by decide +kernel
theorem dX6_between_93 : decode cX6_between 93 = .ok (.iload 4, 2) := by decide +kernel
theorem dX6_between_95 : decode cX6_between 95 = .ok (.ireturn, 1) := by decide +kernel
theorem dX6_weightOf_0 : decode cX6_weightOf 0 = .ok (.iconst 0, 1) := by decide +kernel
theorem dX6_weightOf_1 : decode cX6_weightOf 1 = .ok (.istore_n 2, 1) := by decide +kernel
theorem dX6_weightOf_2 : decode cX6_weightOf 2 = .ok (.iconst 0, 1) := by decide +kernel
theorem dX6_weightOf_3 : decode cX6_weightOf 3 = .ok (.istore_n 3, 1) := by decide +kernel
theorem dX6_weightOf_4 : decode cX6_weightOf 4 = .ok (.iload_n 3, 1) := by decide +kernel
theorem dX6_weightOf_5 : decode cX6_weightOf 5 = .ok (.aload_n 0, 1) := by decide +kernel
theorem dX6_weightOf_6 : decode cX6_weightOf 6 = .ok (.getfield 7, 3) := by decide +kernel
theorem dX6_weightOf_9 : decode cX6_weightOf 9 = .ok (.bipush 6, 2) := by decide +kernel
theorem dX6_weightOf_11 : decode cX6_weightOf 11 = .ok (.iaload, 1) := by decide +kernel
theorem dX6_weightOf_12 : decode cX6_weightOf 12 = .ok (.if_icmp .ge 30, 3) := by decide +kernel
theorem dX6_weightOf_15 : decode cX6_weightOf 15 = .ok (.iload_n 2, 1) := by decide +kernel
theorem dX6_weightOf_16 : decode cX6_weightOf 16 = .ok (.iload_n 1, 1) := by decide +kernel
theorem dX6_weightOf_17 : decode cX6_weightOf 17 = .ok (.iload_n 3, 1) := by decide +kernel
theorem dX6_weightOf_18 : decode cX6_weightOf 18 = .ok (.ishr, 1) := by decide +kernel
theorem dX6_weightOf_19 : decode cX6_weightOf 19 = .ok (.iconst 1, 1) := by decide +kernel
theorem dX6_weightOf_20 : decode cX6_weightOf 20 = .ok (.iand, 1) := by decide +kernel
theorem dX6_weightOf_21 : decode cX6_weightOf 21 = .ok (.iconst 1, 1) := by decide +kernel
theorem dX6_weightOf_22 : decode cX6_weightOf 22 = .ok (.if_icmp .ne 11, 3) := by decide +kernel
theorem dX6_weightOf_25 : decode cX6_weightOf 25 = .ok (.aload_n 0, 1) := by decide +kernel
theorem dX6_weightOf_26 : decode cX6_weightOf 26 = .ok (.iload_n 3, 1) := by decide +kernel
theorem dX6_weightOf_27 : decode cX6_weightOf 27 = .ok (.invokevirtual 81, 3) := by decide +kernel
theorem dX6_weightOf_30 : decode cX6_weightOf 30 = .ok (.goto 4, 3) := by decide +kernel
theorem dX6_weightOf_33 : decode cX6_weightOf 33 = .ok (.iconst 0, 1) := by decide +kernel
theorem dX6_weightOf_34 : decode cX6_weightOf 34 = .ok (.iadd, 1) := by decide +kernel
theorem dX6_weightOf_35 : decode cX6_weightOf 35 = .ok (.istore_n 2, 1) := by decide +kernel
theorem dX6_weightOf_36 : decode cX6_weightOf 36 = .ok (.iinc 3 1, 3) := by decide +kernel
theorem dX6_weightOf_39 : decode cX6_weightOf 39 = .ok (.goto (-35), 3) := by decide +kernel
theorem dX6_weightOf_42 : decode cX6_weightOf 42 = .ok (.iload_n 2, 1) := by decide +kernel
theorem dX6_weightOf_43 : decode cX6_weightOf 43 = .ok (.ireturn, 1) := by decide +kernel
theorem dX6_paid_0 : decode cX6_paid 0 = .ok (.aload_n 0, 1) := by decide +kernel
theorem dX6_paid_1 : decode cX6_paid 1 = .ok (.aload_n 0, 1) := by decide +kernel
theorem dX6_paid_2 : decode cX6_paid 2 = .ok (.iload_n 1, 1) := by decide +kernel
theorem dX6_paid_3 : decode cX6_paid 3 = .ok (.iload_n 2, 1) := by decide +kernel
theorem dX6_paid_4 : decode cX6_paid 4 = .ok (.iconst 0, 1) := by decide +kernel
theorem dX6_paid_5 : decode cX6_paid 5 = .ok (.invokevirtual 84, 3) := by decide +kernel
theorem dX6_paid_8 : decode cX6_paid 8 = .ok (.invokevirtual 88, 3) := by decide +kernel
theorem dX6_paid_11 : decode cX6_paid 11 = .ok (.aload_n 0, 1) := by decide +kernel
theorem dX6_paid_12 : decode cX6_paid 12 = .ok (.aload_n 0, 1) := by decide +kernel
theorem dX6_paid_13 : decode cX6_paid 13 = .ok (.iload_n 1, 1) := by decide +kernel
theorem dX6_paid_14 : decode cX6_paid 14 = .ok (.iload_n 2, 1) := by decide +kernel
theorem dX6_paid_15 : decode cX6_paid 15 = .ok (.iconst 1, 1) := by decide +kernel
theorem dX6_paid_16 : decode cX6_paid 16 = .ok (.invokevirtual 84, 3) := by decide +kernel
theorem dX6_paid_19 : decode cX6_paid 19 = .ok (.invokevirtual 88, 3) := by decide +kernel
theorem dX6_paid_22 : decode cX6_paid 22 = .ok (.iadd, 1) := by decide +kernel
theorem dX6_paid_23 : decode cX6_paid 23 = .ok (.ireturn, 1) := by decide +kernel
theorem dX6_isPage_0 : decode cX6_isPage 0 = .ok (.iload_n 2, 1) := by decide +kernel
theorem dX6_isPage_1 : decode cX6_isPage 1 = .ok (.iload_n 3, 1) := by decide +kernel
theorem dX6_isPage_2 : decode cX6_isPage 2 = .ok (.iadd, 1) := by decide +kernel
theorem dX6_isPage_3 : decode cX6_isPage 3 = .ok (.aload_n 0, 1) := by decide +kernel
theorem dX6_isPage_4 : decode cX6_isPage 4 = .ok (.getfield 7, 3) := by decide +kernel
theorem dX6_isPage_7 : decode cX6_isPage 7 = .ok (.bipush 6, 2) := by decide +kernel
theorem dX6_isPage_9 : decode cX6_isPage 9 = .ok (.iaload, 1) := by decide +kernel
theorem dX6_isPage_10 : decode cX6_isPage 10 = .ok (.if_icmp .gt 12, 3) := by decide +kernel
theorem dX6_isPage_13 : decode cX6_isPage 13 = .ok (.aload_n 0, 1) := by decide +kernel
theorem dX6_isPage_14 : decode cX6_isPage 14 = .ok (.iload_n 2, 1) := by decide +kernel
theorem dX6_isPage_15 : decode cX6_isPage 15 = .ok (.iload_n 3, 1) := by decide +kernel
theorem dX6_isPage_16 : decode cX6_isPage 16 = .ok (.invokevirtual 74, 3) := by decide +kernel
theorem dX6_isPage_19 : decode cX6_isPage 19 = .ok (.ifCond .ne 5, 3) := by decide +kernel
theorem dX6_isPage_22 : decode cX6_isPage 22 = .ok (.iconst 0, 1) := by decide +kernel
theorem dX6_isPage_23 : decode cX6_isPage 23 = .ok (.ireturn, 1) := by decide +kernel
theorem dX6_isPage_24 : decode cX6_isPage 24 = .ok (.aload_n 0, 1) := by decide +kernel
theorem dX6_isPage_25 : decode cX6_isPage 25 = .ok (.iload_n 1, 1) := by decide +kernel
theorem dX6_isPage_26 : decode cX6_isPage 26 = .ok (.iload_n 2, 1) := by decide +kernel
theorem dX6_isPage_27 : decode cX6_isPage 27 = .ok (.iload_n 3, 1) := by decide +kernel
theorem dX6_isPage_28 : decode cX6_isPage 28 = .ok (.invokevirtual 91, 3) := by decide +kernel
theorem dX6_isPage_31 : decode cX6_isPage 31 = .ok (.istore 4, 2) := by decide +kernel
theorem dX6_isPage_33 : decode cX6_isPage 33 = .ok (.iload 4, 2) := by decide +kernel
theorem dX6_isPage_35 : decode cX6_isPage 35 = .ok (.iload_n 1, 1) := by decide +kernel
theorem dX6_isPage_36 : decode cX6_isPage 36 = .ok (.isub, 1) := by decide +kernel
theorem dX6_isPage_37 : decode cX6_isPage 37 = .ok (.iload_n 3, 1) := by decide +kernel
theorem dX6_isPage_38 : decode cX6_isPage 38 = .ok (.iadd, 1) := by decide +kernel
theorem dX6_isPage_39 : decode cX6_isPage 39 = .ok (.ifCond .le 37, 3) := by decide +kernel
theorem dX6_isPage_42 : decode cX6_isPage 42 = .ok (.aload_n 0, 1) := by decide +kernel
theorem dX6_isPage_43 : decode cX6_isPage 43 = .ok (.getfield 7, 3) := by decide +kernel
theorem dX6_isPage_46 : decode cX6_isPage 46 = .ok (.iconst 5, 1) := by decide +kernel
theorem dX6_isPage_47 : decode cX6_isPage 47 = .ok (.iaload, 1) := by decide +kernel
theorem dX6_isPage_48 : decode cX6_isPage 48 = .ok (.iconst 1, 1) := by decide +kernel
theorem dX6_isPage_49 : decode cX6_isPage 49 = .ok (.if_icmp .eq 23, 3) := by decide +kernel
theorem dX6_isPage_52 : decode cX6_isPage 52 = .ok (.aload_n 0, 1) := by decide +kernel
theorem dX6_isPage_53 : decode cX6_isPage 53 = .ok (.getfield 7, 3) := by decide +kernel
theorem dX6_isPage_56 : decode cX6_isPage 56 = .ok (.iconst 0, 1) := by decide +kernel
theorem dX6_isPage_57 : decode cX6_isPage 57 = .ok (.iaload, 1) := by decide +kernel
theorem dX6_isPage_58 : decode cX6_isPage 58 = .ok (.ifCond .eq 14, 3) := by decide +kernel
theorem dX6_isPage_61 : decode cX6_isPage 61 = .ok (.aload_n 0, 1) := by decide +kernel
theorem dX6_isPage_62 : decode cX6_isPage 62 = .ok (.iload_n 2, 1) := by decide +kernel
theorem dX6_isPage_63 : decode cX6_isPage 63 = .ok (.iload_n 3, 1) := by decide +kernel
theorem dX6_isPage_64 : decode cX6_isPage 64 = .ok (.iload 4, 2) := by decide +kernel
theorem dX6_isPage_66 : decode cX6_isPage 66 = .ok (.invokevirtual 95, 3) := by decide +kernel
theorem dX6_isPage_69 : decode cX6_isPage 69 = .ok (.ifCond .eq 7, 3) := by decide +kernel
theorem dX6_isPage_72 : decode cX6_isPage 72 = .ok (.iconst 1, 1) := by decide +kernel
theorem dX6_isPage_73 : decode cX6_isPage 73 = .ok (.goto 4, 3) := by decide +kernel
theorem dX6_isPage_76 : decode cX6_isPage 76 = .ok (.iconst 0, 1) := by decide +kernel
theorem dX6_isPage_77 : decode cX6_isPage 77 = .ok (.ireturn, 1) := by decide +kernel
theorem dX6_layPlace_0 : decode cX6_layPlace 0 = .ok (.bipush 11, 2) := by decide +kernel
theorem dX6_layPlace_2 : decode cX6_layPlace 2 = .ok (.iload_n 1, 1) := by decide +kernel
theorem dX6_layPlace_3 : decode cX6_layPlace 3 = .ok (.imul, 1) := by decide +kernel
theorem dX6_layPlace_4 : decode cX6_layPlace 4 = .ok (.iload_n 2, 1) := by decide +kernel
theorem dX6_layPlace_5 : decode cX6_layPlace 5 = .ok (.iadd, 1) := by decide +kernel
theorem dX6_layPlace_6 : decode cX6_layPlace 6 = .ok (.istore_n 3, 1) := by decide +kernel
theorem dX6_layPlace_7 : decode cX6_layPlace 7 = .ok (.iload_n 1, 1) := by decide +kernel
theorem dX6_layPlace_8 : decode cX6_layPlace 8 = .ok (.aload_n 0, 1) := by decide +kernel
theorem dX6_layPlace_9 : decode cX6_layPlace 9 = .ok (.getfield 7, 3) := by decide +kernel
theorem dX6_layPlace_12 : decode cX6_layPlace 12 = .ok (.iconst 0, 1) := by decide +kernel
theorem dX6_layPlace_13 : decode cX6_layPlace 13 = .ok (.iaload, 1) := by decide +kernel
theorem dX6_layPlace_14 : decode cX6_layPlace 14 = .ok (.if_icmp .ne 18, 3) := by decide +kernel
theorem dX6_layPlace_17 : decode cX6_layPlace 17 = .ok (.iload_n 2, 1) := by decide +kernel
theorem dX6_layPlace_18 : decode cX6_layPlace 18 = .ok (.aload_n 0, 1) := by decide +kernel
theorem dX6_layPlace_19 : decode cX6_layPlace 19 = .ok (.getfield 7, 3) := by decide +kernel
theorem dX6_layPlace_22 : decode cX6_layPlace 22 = .ok (.bipush 6, 2) := by decide +kernel
theorem dX6_layPlace_24 : decode cX6_layPlace 24 = .ok (.iaload, 1) := by decide +kernel
theorem dX6_layPlace_25 : decode cX6_layPlace 25 = .ok (.if_icmp .ne 7, 3) := by decide +kernel
theorem dX6_layPlace_28 : decode cX6_layPlace 28 = .ok (.iconst 1, 1) := by decide +kernel
theorem dX6_layPlace_29 : decode cX6_layPlace 29 = .ok (.goto 4, 3) := by decide +kernel
theorem dX6_layPlace_32 : decode cX6_layPlace 32 = .ok (.iconst 0, 1) := by decide +kernel
theorem dX6_layPlace_33 : decode cX6_layPlace 33 = .ok (.istore 4, 2) := by decide +kernel
theorem dX6_layPlace_35 : decode cX6_layPlace 35 = .ok (.aload_n 0, 1) := by decide +kernel
theorem dX6_layPlace_36 : decode cX6_layPlace 36 = .ok (.getfield 29, 3) := by decide +kernel
theorem dX6_layPlace_39 : decode cX6_layPlace 39 = .ok (.iload_n 3, 1) := by decide +kernel
theorem dX6_layPlace_40 : decode cX6_layPlace 40 = .ok (.iload 4, 2) := by decide +kernel
theorem dX6_layPlace_42 : decode cX6_layPlace 42 = .ok (.ifCond .eq 7, 3) := by decide +kernel
theorem dX6_layPlace_45 : decode cX6_layPlace 45 = .ok (.iconst 0, 1) := by decide +kernel
theorem dX6_layPlace_46 : decode cX6_layPlace 46 = .ok (.goto 5, 3) := by decide +kernel
theorem dX6_layPlace_49 : decode cX6_layPlace 49 = .ok (.ldc 98, 2) := by decide +kernel
theorem dX6_layPlace_51 : decode cX6_layPlace 51 = .ok (.iastore, 1) := by decide +kernel
theorem dX6_layPlace_52 : decode cX6_layPlace 52 = .ok (.aload_n 0, 1) := by decide +kernel
theorem dX6_layPlace_53 : decode cX6_layPlace 53 = .ok (.getfield 32, 3) := by decide +kernel
theorem dX6_layPlace_56 : decode cX6_layPlace 56 = .ok (.iload_n 3, 1) := by decide +kernel
theorem dX6_layPlace_57 : decode cX6_layPlace 57 = .ok (.iconst 0, 1) := by decide +kernel
theorem dX6_layPlace_58 : decode cX6_layPlace 58 = .ok (.iastore, 1) := by decide +kernel
theorem dX6_layPlace_59 : decode cX6_layPlace 59 = .ok (.aload_n 0, 1) := by decide +kernel
theorem dX6_layPlace_60 : decode cX6_layPlace 60 = .ok (.getfield 35, 3) := by decide +kernel
theorem dX6_layPlace_63 : decode cX6_layPlace 63 = .ok (.iload_n 3, 1) := by decide +kernel
theorem dX6_layPlace_64 : decode cX6_layPlace 64 = .ok (.iload 4, 2) := by decide +kernel
theorem dX6_layPlace_66 : decode cX6_layPlace 66 = .ok (.ifCond .eq 7, 3) := by decide +kernel
theorem dX6_layPlace_69 : decode cX6_layPlace 69 = .ok (.lconst 1, 1) := by decide +kernel
theorem dX6_layPlace_70 : decode cX6_layPlace 70 = .ok (.goto 4, 3) := by decide +kernel
theorem dX6_layPlace_73 : decode cX6_layPlace 73 = .ok (.lconst 0, 1) := by decide +kernel
theorem dX6_layPlace_74 : decode cX6_layPlace 74 = .ok (.lastore, 1) := by decide +kernel
theorem dX6_layPlace_75 : decode cX6_layPlace 75 = .ok (.iconst 0, 1) := by decide +kernel
theorem dX6_layPlace_76 : decode cX6_layPlace 76 = .ok (.istore 5, 2) := by decide +kernel
theorem dX6_layPlace_78 : decode cX6_layPlace 78 = .ok (.iload 5, 2) := by decide +kernel
theorem dX6_layPlace_80 : decode cX6_layPlace 80 = .ok (.aload_n 0, 1) := by decide +kernel
theorem dX6_layPlace_81 : decode cX6_layPlace 81 = .ok (.getfield 7, 3) := by decide +kernel
theorem dX6_layPlace_84 : decode cX6_layPlace 84 = .ok (.iconst 4, 1) := by decide +kernel
theorem dX6_layPlace_85 : decode cX6_layPlace 85 = .ok (.iaload, 1) := by decide +kernel
theorem dX6_layPlace_86 : decode cX6_layPlace 86 = .ok (.if_icmp .gt 281, 3) := by decide +kernel
theorem dX6_layPlace_89 : decode cX6_layPlace 89 = .ok (.iload 4, 2) := by decide +kernel
theorem dX6_layPlace_91 : decode cX6_layPlace 91 = .ok (.ifCond .ne 276, 3) := by decide +kernel
theorem dX6_layPlace_94 : decode cX6_layPlace 94 = .ok (.aload_n 0, 1) := by decide +kernel
theorem dX6_layPlace_95 : decode cX6_layPlace 95 = .ok (.iload_n 1, 1) := by decide +kernel
theorem dX6_layPlace_96 : decode cX6_layPlace 96 = .ok (.iload_n 2, 1) := by decide +kernel
theorem dX6_layPlace_97 : decode cX6_layPlace 97 = .ok (.iload 5, 2) := by decide +kernel
theorem dX6_layPlace_99 : decode cX6_layPlace 99 = .ok (.invokevirtual 99, 3) := by decide +kernel
theorem dX6_layPlace_102 : decode cX6_layPlace 102 = .ok (.ifCond .eq 259, 3) := by decide +kernel
theorem dX6_layPlace_105 : decode cX6_layPlace 105 = .ok (.aload_n 0, 1) := by decide +kernel
theorem dX6_layPlace_106 : decode cX6_layPlace 106 = .ok (.iload_n 1, 1) := by decide +kernel
theorem dX6_layPlace_107 : decode cX6_layPlace 107 = .ok (.iload_n 2, 1) := by decide +kernel
theorem dX6_layPlace_108 : decode cX6_layPlace 108 = .ok (.iload 5, 2) := by decide +kernel
theorem dX6_layPlace_110 : decode cX6_layPlace 110 = .ok (.invokevirtual 91, 3) := by decide +kernel
theorem dX6_layPlace_113 : decode cX6_layPlace 113 = .ok (.istore 6, 2) := by decide +kernel
theorem dX6_layPlace_115 : decode cX6_layPlace 115 = .ok (.bipush 11, 2) := by decide +kernel
theorem dX6_layPlace_117 : decode cX6_layPlace 117 = .ok (.iload 6, 2) := by decide +kernel
theorem dX6_layPlace_119 : decode cX6_layPlace 119 = .ok (.imul, 1) := by decide +kernel
theorem dX6_layPlace_120 : decode cX6_layPlace 120 = .ok (.iload_n 2, 1) := by decide +kernel
theorem dX6_layPlace_121 : decode cX6_layPlace 121 = .ok (.iadd, 1) := by decide +kernel
theorem dX6_layPlace_122 : decode cX6_layPlace 122 = .ok (.iload 5, 2) := by decide +kernel
theorem dX6_layPlace_124 : decode cX6_layPlace 124 = .ok (.iadd, 1) := by decide +kernel
theorem dX6_layPlace_125 : decode cX6_layPlace 125 = .ok (.istore 7, 2) := by decide +kernel
theorem dX6_layPlace_127 : decode cX6_layPlace 127 = .ok (.aload_n 0, 1) := by decide +kernel
theorem dX6_layPlace_128 : decode cX6_layPlace 128 = .ok (.getfield 29, 3) := by decide +kernel
theorem dX6_layPlace_131 : decode cX6_layPlace 131 = .ok (.iload 7, 2) := by decide +kernel
theorem dX6_layPlace_133 : decode cX6_layPlace 133 = .ok (.iaload, 1) := by decide +kernel
theorem dX6_layPlace_134 : decode cX6_layPlace 134 = .ok (.ldc 98, 2) := by decide +kernel
theorem dX6_layPlace_136 : decode cX6_layPlace 136 = .ok (.if_icmp .ne 8, 3) := by decide +kernel
theorem dX6_layPlace_139 : decode cX6_layPlace 139 = .ok (.ldc 98, 2) := by decide +kernel
theorem dX6_layPlace_141 : decode cX6_layPlace 141 = .ok (.goto 21, 3) := by decide +kernel
theorem dX6_layPlace_144 : decode cX6_layPlace 144 = .ok (.aload_n 0, 1) := by decide +kernel
theorem dX6_layPlace_145 : decode cX6_layPlace 145 = .ok (.getfield 29, 3) := by decide +kernel
theorem dX6_layPlace_148 : decode cX6_layPlace 148 = .ok (.iload 7, 2) := by decide +kernel
theorem dX6_layPlace_150 : decode cX6_layPlace 150 = .ok (.iaload, 1) := by decide +kernel
theorem dX6_layPlace_151 : decode cX6_layPlace 151 = .ok (.aload_n 0, 1) := by decide +kernel
theorem dX6_layPlace_152 : decode cX6_layPlace 152 = .ok (.iload 6, 2) := by decide +kernel
theorem dX6_layPlace_154 : decode cX6_layPlace 154 = .ok (.iload_n 2, 1) := by decide +kernel
theorem dX6_layPlace_155 : decode cX6_layPlace 155 = .ok (.iload 5, 2) := by decide +kernel
theorem dX6_layPlace_157 : decode cX6_layPlace 157 = .ok (.iadd, 1) := by decide +kernel
theorem dX6_layPlace_158 : decode cX6_layPlace 158 = .ok (.invokevirtual 102, 3) := by decide +kernel
theorem dX6_layPlace_161 : decode cX6_layPlace 161 = .ok (.iadd, 1) := by decide +kernel
theorem dX6_layPlace_162 : decode cX6_layPlace 162 = .ok (.istore 8, 2) := by decide +kernel
theorem dX6_layPlace_164 : decode cX6_layPlace 164 = .ok (.iload 8, 2) := by decide +kernel
theorem dX6_layPlace_166 : decode cX6_layPlace 166 = .ok (.ldc 98, 2) := by decide +kernel
theorem dX6_layPlace_168 : decode cX6_layPlace 168 = .ok (.if_icmp .ge 36, 3) := by decide +kernel
theorem dX6_layPlace_171 : decode cX6_layPlace 171 = .ok (.iload 8, 2) := by decide +kernel
theorem dX6_layPlace_173 : decode cX6_layPlace 173 = .ok (.aload_n 0, 1) := by decide +kernel
theorem dX6_layPlace_174 : decode cX6_layPlace 174 = .ok (.getfield 29, 3) := by decide +kernel
theorem dX6_layPlace_177 : decode cX6_layPlace 177 = .ok (.iload_n 3, 1) := by decide +kernel
theorem dX6_layPlace_178 : decode cX6_layPlace 178 = .ok (.iaload, 1) := by decide +kernel
theorem dX6_layPlace_179 : decode cX6_layPlace 179 = .ok (.if_icmp .ne 25, 3) := by decide +kernel
theorem dX6_layPlace_182 : decode cX6_layPlace 182 = .ok (.aload_n 0, 1) := by decide +kernel
theorem dX6_layPlace_183 : decode cX6_layPlace 183 = .ok (.getfield 32, 3) := by decide +kernel
theorem dX6_layPlace_186 : decode cX6_layPlace 186 = .ok (.iload 7, 2) := by decide +kernel
theorem dX6_layPlace_188 : decode cX6_layPlace 188 = .ok (.iaload, 1) := by decide +kernel
theorem dX6_layPlace_189 : decode cX6_layPlace 189 = .ok (.iconst 1, 1) := by decide +kernel
theorem dX6_layPlace_190 : decode cX6_layPlace 190 = .ok (.iadd, 1) := by decide +kernel
theorem dX6_layPlace_191 : decode cX6_layPlace 191 = .ok (.aload_n 0, 1) := by decide +kernel
theorem dX6_layPlace_192 : decode cX6_layPlace 192 = .ok (.getfield 32, 3) := by decide +kernel
theorem dX6_layPlace_195 : decode cX6_layPlace 195 = .ok (.iload_n 3, 1) := by decide +kernel
theorem dX6_layPlace_196 : decode cX6_layPlace 196 = .ok (.iaload, 1) := by decide +kernel
theorem dX6_layPlace_197 : decode cX6_layPlace 197 = .ok (.if_icmp .ne 7, 3) := by decide +kernel
theorem dX6_layPlace_200 : decode cX6_layPlace 200 = .ok (.iconst 1, 1) := by decide +kernel
theorem dX6_layPlace_201 : decode cX6_layPlace 201 = .ok (.goto 4, 3) := by decide +kernel
theorem dX6_layPlace_204 : decode cX6_layPlace 204 = .ok (.iconst 0, 1) := by decide +kernel
theorem dX6_layPlace_205 : decode cX6_layPlace 205 = .ok (.istore 9, 2) := by decide +kernel
theorem dX6_layPlace_207 : decode cX6_layPlace 207 = .ok (.iload 8, 2) := by decide +kernel
theorem dX6_layPlace_209 : decode cX6_layPlace 209 = .ok (.aload_n 0, 1) := by decide +kernel
theorem dX6_layPlace_210 : decode cX6_layPlace 210 = .ok (.getfield 29, 3) := by decide +kernel
theorem dX6_layPlace_213 : decode cX6_layPlace 213 = .ok (.iload_n 3, 1) := by decide +kernel
theorem dX6_layPlace_214 : decode cX6_layPlace 214 = .ok (.iaload, 1) := by decide +kernel
theorem dX6_layPlace_215 : decode cX6_layPlace 215 = .ok (.if_icmp .lt 39, 3) := by decide +kernel
theorem dX6_layPlace_218 : decode cX6_layPlace 218 = .ok (.iload 8, 2) := by decide +kernel
theorem dX6_layPlace_220 : decode cX6_layPlace 220 = .ok (.ldc 98, 2) := by decide +kernel
theorem dX6_layPlace_222 : decode cX6_layPlace 222 = .ok (.if_icmp .ge 36, 3) := by decide +kernel
theorem dX6_layPlace_225 : decode cX6_layPlace 225 = .ok (.iload 8, 2) := by decide +kernel
theorem dX6_layPlace_227 : decode cX6_layPlace 227 = .ok (.aload_n 0, 1) := by decide +kernel
theorem dX6_layPlace_228 : decode cX6_layPlace 228 = .ok (.getfield 29, 3) := by decide +kernel
theorem dX6_layPlace_231 : decode cX6_layPlace 231 = .ok (.iload_n 3, 1) := by decide +kernel
theorem dX6_layPlace_232 : decode cX6_layPlace 232 = .ok (.iaload, 1) := by decide +kernel
theorem dX6_layPlace_233 : decode cX6_layPlace 233 = .ok (.if_icmp .ne 25, 3) := by decide +kernel
theorem dX6_layPlace_236 : decode cX6_layPlace 236 = .ok (.aload_n 0, 1) := by decide +kernel
theorem dX6_layPlace_237 : decode cX6_layPlace 237 = .ok (.getfield 32, 3) := by decide +kernel
theorem dX6_layPlace_240 : decode cX6_layPlace 240 = .ok (.iload 7, 2) := by decide +kernel
theorem dX6_layPlace_242 : decode cX6_layPlace 242 = .ok (.iaload, 1) := by decide +kernel
theorem dX6_layPlace_243 : decode cX6_layPlace 243 = .ok (.iconst 1, 1) := by decide +kernel
theorem dX6_layPlace_244 : decode cX6_layPlace 244 = .ok (.iadd, 1) := by decide +kernel
theorem dX6_layPlace_245 : decode cX6_layPlace 245 = .ok (.aload_n 0, 1) := by decide +kernel
theorem dX6_layPlace_246 : decode cX6_layPlace 246 = .ok (.getfield 32, 3) := by decide +kernel
theorem dX6_layPlace_249 : decode cX6_layPlace 249 = .ok (.iload_n 3, 1) := by decide +kernel
theorem dX6_layPlace_250 : decode cX6_layPlace 250 = .ok (.iaload, 1) := by decide +kernel
theorem dX6_layPlace_251 : decode cX6_layPlace 251 = .ok (.if_icmp .ge 7, 3) := by decide +kernel
theorem dX6_layPlace_254 : decode cX6_layPlace 254 = .ok (.iconst 1, 1) := by decide +kernel
theorem dX6_layPlace_255 : decode cX6_layPlace 255 = .ok (.goto 4, 3) := by decide +kernel
theorem dX6_layPlace_258 : decode cX6_layPlace 258 = .ok (.iconst 0, 1) := by decide +kernel
theorem dX6_layPlace_259 : decode cX6_layPlace 259 = .ok (.istore 10, 2) := by decide +kernel
theorem dX6_layPlace_261 : decode cX6_layPlace 261 = .ok (.aload_n 0, 1) := by decide +kernel
theorem dX6_layPlace_262 : decode cX6_layPlace 262 = .ok (.getfield 35, 3) := by decide +kernel
theorem dX6_layPlace_265 : decode cX6_layPlace 265 = .ok (.iload_n 3, 1) := by decide +kernel
theorem dX6_layPlace_266 : decode cX6_layPlace 266 = .ok (.iload 10, 2) := by decide +kernel
theorem dX6_layPlace_268 : decode cX6_layPlace 268 = .ok (.ifCond .eq 13, 3) := by decide +kernel
theorem dX6_layPlace_271 : decode cX6_layPlace 271 = .ok (.aload_n 0, 1) := by decide +kernel
theorem dX6_layPlace_272 : decode cX6_layPlace 272 = .ok (.getfield 35, 3) := by decide +kernel
theorem dX6_layPlace_275 : decode cX6_layPlace 275 = .ok (.iload 7, 2) := by decide +kernel
theorem dX6_layPlace_277 : decode cX6_layPlace 277 = .ok (.laload, 1) := by decide +kernel
theorem dX6_layPlace_278 : decode cX6_layPlace 278 = .ok (.goto 31, 3) := by decide +kernel
theorem dX6_layPlace_281 : decode cX6_layPlace 281 = .ok (.iload 9, 2) := by decide +kernel
theorem dX6_layPlace_283 : decode cX6_layPlace 283 = .ok (.ifCond .eq 20, 3) := by decide +kernel
theorem dX6_layPlace_286 : decode cX6_layPlace 286 = .ok (.aload_n 0, 1) := by decide +kernel
theorem dX6_layPlace_287 : decode cX6_layPlace 287 = .ok (.getfield 35, 3) := by decide +kernel
theorem dX6_layPlace_290 : decode cX6_layPlace 290 = .ok (.iload_n 3, 1) := by decide +kernel
theorem dX6_layPlace_291 : decode cX6_layPlace 291 = .ok (.laload, 1) := by decide +kernel
theorem dX6_layPlace_292 : decode cX6_layPlace 292 = .ok (.aload_n 0, 1) := by decide +kernel
theorem dX6_layPlace_293 : decode cX6_layPlace 293 = .ok (.getfield 35, 3) := by decide +kernel
theorem dX6_layPlace_296 : decode cX6_layPlace 296 = .ok (.iload 7, 2) := by decide +kernel
theorem dX6_layPlace_298 : decode cX6_layPlace 298 = .ok (.laload, 1) := by decide +kernel
theorem dX6_layPlace_299 : decode cX6_layPlace 299 = .ok (.ladd, 1) := by decide +kernel
theorem dX6_layPlace_300 : decode cX6_layPlace 300 = .ok (.goto 9, 3) := by decide +kernel
theorem dX6_layPlace_303 : decode cX6_layPlace 303 = .ok (.aload_n 0, 1) := by decide +kernel
theorem dX6_layPlace_304 : decode cX6_layPlace 304 = .ok (.getfield 35, 3) := by decide +kernel
theorem dX6_layPlace_307 : decode cX6_layPlace 307 = .ok (.iload_n 3, 1) := by decide +kernel
theorem dX6_layPlace_308 : decode cX6_layPlace 308 = .ok (.laload, 1) := by decide +kernel
theorem dX6_layPlace_309 : decode cX6_layPlace 309 = .ok (.lastore, 1) := by decide +kernel
theorem dX6_layPlace_310 : decode cX6_layPlace 310 = .ok (.aload_n 0, 1) := by decide +kernel
theorem dX6_layPlace_311 : decode cX6_layPlace 311 = .ok (.getfield 32, 3) := by decide +kernel
theorem dX6_layPlace_314 : decode cX6_layPlace 314 = .ok (.iload_n 3, 1) := by decide +kernel
theorem dX6_layPlace_315 : decode cX6_layPlace 315 = .ok (.iload 10, 2) := by decide +kernel
theorem dX6_layPlace_317 : decode cX6_layPlace 317 = .ok (.ifCond .eq 15, 3) := by decide +kernel
theorem dX6_layPlace_320 : decode cX6_layPlace 320 = .ok (.aload_n 0, 1) := by decide +kernel
theorem dX6_layPlace_321 : decode cX6_layPlace 321 = .ok (.getfield 32, 3) := by decide +kernel
theorem dX6_layPlace_324 : decode cX6_layPlace 324 = .ok (.iload 7, 2) := by decide +kernel
theorem dX6_layPlace_326 : decode cX6_layPlace 326 = .ok (.iaload, 1) := by decide +kernel
theorem dX6_layPlace_327 : decode cX6_layPlace 327 = .ok (.iconst 1, 1) := by decide +kernel
theorem dX6_layPlace_328 : decode cX6_layPlace 328 = .ok (.iadd, 1) := by decide +kernel
theorem dX6_layPlace_329 : decode cX6_layPlace 329 = .ok (.goto 9, 3) := by decide +kernel
theorem dX6_layPlace_332 : decode cX6_layPlace 332 = .ok (.aload_n 0, 1) := by decide +kernel
theorem dX6_layPlace_333 : decode cX6_layPlace 333 = .ok (.getfield 32, 3) := by decide +kernel
theorem dX6_layPlace_336 : decode cX6_layPlace 336 = .ok (.iload_n 3, 1) := by decide +kernel
theorem dX6_layPlace_337 : decode cX6_layPlace 337 = .ok (.iaload, 1) := by decide +kernel
theorem dX6_layPlace_338 : decode cX6_layPlace 338 = .ok (.iastore, 1) := by decide +kernel
theorem dX6_layPlace_339 : decode cX6_layPlace 339 = .ok (.aload_n 0, 1) := by decide +kernel
theorem dX6_layPlace_340 : decode cX6_layPlace 340 = .ok (.getfield 29, 3) := by decide +kernel
theorem dX6_layPlace_343 : decode cX6_layPlace 343 = .ok (.iload_n 3, 1) := by decide +kernel
theorem dX6_layPlace_344 : decode cX6_layPlace 344 = .ok (.iload 10, 2) := by decide +kernel
theorem dX6_layPlace_346 : decode cX6_layPlace 346 = .ok (.ifCond .eq 8, 3) := by decide +kernel
theorem dX6_layPlace_349 : decode cX6_layPlace 349 = .ok (.iload 8, 2) := by decide +kernel
theorem dX6_layPlace_351 : decode cX6_layPlace 351 = .ok (.goto 9, 3) := by decide +kernel
theorem dX6_layPlace_354 : decode cX6_layPlace 354 = .ok (.aload_n 0, 1) := by decide +kernel
theorem dX6_layPlace_355 : decode cX6_layPlace 355 = .ok (.getfield 29, 3) := by decide +kernel
theorem dX6_layPlace_358 : decode cX6_layPlace 358 = .ok (.iload_n 3, 1) := by decide +kernel
theorem dX6_layPlace_359 : decode cX6_layPlace 359 = .ok (.iaload, 1) := by decide +kernel
theorem dX6_layPlace_360 : decode cX6_layPlace 360 = .ok (.iastore, 1) := by decide +kernel
theorem dX6_layPlace_361 : decode cX6_layPlace 361 = .ok (.iinc 5 1, 3) := by decide +kernel
theorem dX6_layPlace_364 : decode cX6_layPlace 364 = .ok (.goto (-286), 3) := by decide +kernel
theorem dX6_layPlace_367 : decode cX6_layPlace 367 = .ok (.return_, 1) := by decide +kernel
theorem dX6_lay_0 : decode cX6_lay 0 = .ok (.aload_n 0, 1) := by decide +kernel
theorem dX6_lay_1 : decode cX6_lay 1 = .ok (.getfield 7, 3) := by decide +kernel
theorem dX6_lay_4 : decode cX6_lay 4 = .ok (.iconst 0, 1) := by decide +kernel
theorem dX6_lay_5 : decode cX6_lay 5 = .ok (.iaload, 1) := by decide +kernel
theorem dX6_lay_6 : decode cX6_lay 6 = .ok (.istore_n 1, 1) := by decide +kernel
theorem dX6_lay_7 : decode cX6_lay 7 = .ok (.iload_n 1, 1) := by decide +kernel
theorem dX6_lay_8 : decode cX6_lay 8 = .ok (.ifCond .lt 33, 3) := by decide +kernel
theorem dX6_lay_11 : decode cX6_lay 11 = .ok (.aload_n 0, 1) := by decide +kernel
theorem dX6_lay_12 : decode cX6_lay 12 = .ok (.getfield 7, 3) := by decide +kernel
theorem dX6_lay_15 : decode cX6_lay 15 = .ok (.bipush 6, 2) := by decide +kernel
theorem dX6_lay_17 : decode cX6_lay 17 = .ok (.iaload, 1) := by decide +kernel
theorem dX6_lay_18 : decode cX6_lay 18 = .ok (.istore_n 2, 1) := by decide +kernel
theorem dX6_lay_19 : decode cX6_lay 19 = .ok (.iload_n 2, 1) := by decide +kernel
theorem dX6_lay_20 : decode cX6_lay 20 = .ok (.ifCond .lt 15, 3) := by decide +kernel
theorem dX6_lay_23 : decode cX6_lay 23 = .ok (.aload_n 0, 1) := by decide +kernel
theorem dX6_lay_24 : decode cX6_lay 24 = .ok (.iload_n 1, 1) := by decide +kernel
theorem dX6_lay_25 : decode cX6_lay 25 = .ok (.iload_n 2, 1) := by decide +kernel
theorem dX6_lay_26 : decode cX6_lay 26 = .ok (.invokevirtual 105, 3) := by decide +kernel
theorem dX6_lay_29 : decode cX6_lay 29 = .ok (.iinc 2 (-1), 3) := by decide +kernel
theorem dX6_lay_32 : decode cX6_lay 32 = .ok (.goto (-13), 3) := by decide +kernel
theorem dX6_lay_35 : decode cX6_lay 35 = .ok (.iinc 1 (-1), 3) := by decide +kernel
theorem dX6_lay_38 : decode cX6_lay 38 = .ok (.goto (-31), 3) := by decide +kernel
theorem dX6_lay_41 : decode cX6_lay 41 = .ok (.return_, 1) := by decide +kernel
theorem dX6_bestOf_0 : decode cX6_bestOf 0 = .ok (.aload_n 0, 1) := by decide +kernel
theorem dX6_bestOf_1 : decode cX6_bestOf 1 = .ok (.invokevirtual 109, 3) := by decide +kernel
theorem dX6_bestOf_4 : decode cX6_bestOf 4 = .ok (.aload_n 0, 1) := by decide +kernel
theorem dX6_bestOf_5 : decode cX6_bestOf 5 = .ok (.getfield 29, 3) := by decide +kernel
theorem dX6_bestOf_8 : decode cX6_bestOf 8 = .ok (.iconst 0, 1) := by decide +kernel
theorem dX6_bestOf_9 : decode cX6_bestOf 9 = .ok (.iaload, 1) := by decide +kernel
theorem dX6_bestOf_10 : decode cX6_bestOf 10 = .ok (.ldc 98, 2) := by decide +kernel
theorem dX6_bestOf_12 : decode cX6_bestOf 12 = .ok (.if_icmp .ne 7, 3) := by decide +kernel
theorem dX6_bestOf_15 : decode cX6_bestOf 15 = .ok (.iconst (-1), 1) := by decide +kernel
theorem dX6_bestOf_16 : decode cX6_bestOf 16 = .ok (.goto 9, 3) := by decide +kernel
theorem dX6_bestOf_19 : decode cX6_bestOf 19 = .ok (.aload_n 0, 1) := by decide +kernel
theorem dX6_bestOf_20 : decode cX6_bestOf 20 = .ok (.getfield 29, 3) := by decide +kernel
theorem dX6_bestOf_23 : decode cX6_bestOf 23 = .ok (.iconst 0, 1) := by decide +kernel
theorem dX6_bestOf_24 : decode cX6_bestOf 24 = .ok (.iaload, 1) := by decide +kernel
theorem dX6_bestOf_25 : decode cX6_bestOf 25 = .ok (.ireturn, 1) := by decide +kernel
theorem dX6_addPage_0 : decode cX6_addPage 0 = .ok (.aload_n 0, 1) := by decide +kernel
theorem dX6_addPage_1 : decode cX6_addPage 1 = .ok (.getfield 42, 3) := by decide +kernel
theorem dX6_addPage_4 : decode cX6_addPage 4 = .ok (.aload_n 0, 1) := by decide +kernel
theorem dX6_addPage_5 : decode cX6_addPage 5 = .ok (.getfield 112, 3) := by decide +kernel
theorem dX6_addPage_8 : decode cX6_addPage 8 = .ok (.iload_n 3, 1) := by decide +kernel
theorem dX6_addPage_9 : decode cX6_addPage 9 = .ok (.iastore, 1) := by decide +kernel
theorem dX6_addPage_10 : decode cX6_addPage 10 = .ok (.aload_n 0, 1) := by decide +kernel
theorem dX6_addPage_11 : decode cX6_addPage 11 = .ok (.getfield 45, 3) := by decide +kernel
theorem dX6_addPage_14 : decode cX6_addPage 14 = .ok (.aload_n 0, 1) := by decide +kernel
theorem dX6_addPage_15 : decode cX6_addPage 15 = .ok (.getfield 112, 3) := by decide +kernel
theorem dX6_addPage_18 : decode cX6_addPage 18 = .ok (.aload_n 0, 1) := by decide +kernel
theorem dX6_addPage_19 : decode cX6_addPage 19 = .ok (.iload_n 1, 1) := by decide +kernel
theorem dX6_addPage_20 : decode cX6_addPage 20 = .ok (.iload_n 2, 1) := by decide +kernel
theorem dX6_addPage_21 : decode cX6_addPage 21 = .ok (.iload_n 3, 1) := by decide +kernel
theorem dX6_addPage_22 : decode cX6_addPage 22 = .ok (.invokevirtual 91, 3) := by decide +kernel
theorem dX6_addPage_25 : decode cX6_addPage 25 = .ok (.iastore, 1) := by decide +kernel
theorem dX6_addPage_26 : decode cX6_addPage 26 = .ok (.aload_n 0, 1) := by decide +kernel
theorem dX6_addPage_27 : decode cX6_addPage 27 = .ok (.getfield 48, 3) := by decide +kernel
theorem dX6_addPage_30 : decode cX6_addPage 30 = .ok (.aload_n 0, 1) := by decide +kernel
theorem dX6_addPage_31 : decode cX6_addPage 31 = .ok (.getfield 112, 3) := by decide +kernel
theorem dX6_addPage_34 : decode cX6_addPage 34 = .ok (.iload_n 2, 1) := by decide +kernel
theorem dX6_addPage_35 : decode cX6_addPage 35 = .ok (.iload_n 3, 1) := by decide +kernel
theorem dX6_addPage_36 : decode cX6_addPage 36 = .ok (.iadd, 1) := by decide +kernel
theorem dX6_addPage_37 : decode cX6_addPage 37 = .ok (.iastore, 1) := by decide +kernel
theorem dX6_addPage_38 : decode cX6_addPage 38 = .ok (.aload_n 0, 1) := by decide +kernel
theorem dX6_addPage_39 : decode cX6_addPage 39 = .ok (.dup, 1) := by decide +kernel
theorem dX6_addPage_40 : decode cX6_addPage 40 = .ok (.getfield 112, 3) := by decide +kernel
theorem dX6_addPage_43 : decode cX6_addPage 43 = .ok (.iconst 1, 1) := by decide +kernel
theorem dX6_addPage_44 : decode cX6_addPage 44 = .ok (.iadd, 1) := by decide +kernel
theorem dX6_addPage_45 : decode cX6_addPage 45 = .ok (.putfield 112, 3) := by decide +kernel
theorem dX6_addPage_48 : decode cX6_addPage 48 = .ok (.return_, 1) := by decide +kernel
theorem dX6_isPlanned_0 : decode cX6_isPlanned 0 = .ok (.aload_n 0, 1) := by decide +kernel
theorem dX6_isPlanned_1 : decode cX6_isPlanned 1 = .ok (.iconst 0, 1) := by decide +kernel
theorem dX6_isPlanned_2 : decode cX6_isPlanned 2 = .ok (.putfield 112, 3) := by decide +kernel
theorem dX6_isPlanned_5 : decode cX6_isPlanned 5 = .ok (.aload_n 0, 1) := by decide +kernel
theorem dX6_isPlanned_6 : decode cX6_isPlanned 6 = .ok (.invokevirtual 116, 3) := by decide +kernel
theorem dX6_isPlanned_9 : decode cX6_isPlanned 9 = .ok (.iconst (-1), 1) := by decide +kernel
theorem dX6_isPlanned_10 : decode cX6_isPlanned 10 = .ok (.if_icmp .ne 5, 3) := by decide +kernel
theorem dX6_isPlanned_13 : decode cX6_isPlanned 13 = .ok (.iconst 0, 1) := by decide +kernel
theorem dX6_isPlanned_14 : decode cX6_isPlanned 14 = .ok (.ireturn, 1) := by decide +kernel
theorem dX6_isPlanned_15 : decode cX6_isPlanned 15 = .ok (.iconst 0, 1) := by decide +kernel
theorem dX6_isPlanned_16 : decode cX6_isPlanned 16 = .ok (.istore_n 1, 1) := by decide +kernel
theorem dX6_isPlanned_17 : decode cX6_isPlanned 17 = .ok (.iconst 0, 1) := by decide +kernel
theorem dX6_isPlanned_18 : decode cX6_isPlanned 18 = .ok (.istore_n 2, 1) := by decide +kernel
theorem dX6_isPlanned_19 : decode cX6_isPlanned 19 = .ok (.iload_n 1, 1) := by decide +kernel
theorem dX6_isPlanned_20 : decode cX6_isPlanned 20 = .ok (.aload_n 0, 1) := by decide +kernel
theorem dX6_isPlanned_21 : decode cX6_isPlanned 21 = .ok (.getfield 7, 3) := by decide +kernel
theorem dX6_isPlanned_24 : decode cX6_isPlanned 24 = .ok (.iconst 0, 1) := by decide +kernel
theorem dX6_isPlanned_25 : decode cX6_isPlanned 25 = .ok (.iaload, 1) := by decide +kernel
theorem dX6_isPlanned_26 : decode cX6_isPlanned 26 = .ok (.if_icmp .lt 14, 3) := by decide +kernel
theorem dX6_isPlanned_29 : decode cX6_isPlanned 29 = .ok (.iload_n 2, 1) := by decide +kernel
theorem dX6_isPlanned_30 : decode cX6_isPlanned 30 = .ok (.aload_n 0, 1) := by decide +kernel
theorem dX6_isPlanned_31 : decode cX6_isPlanned 31 = .ok (.getfield 7, 3) := by decide +kernel
theorem dX6_isPlanned_34 : decode cX6_isPlanned 34 = .ok (.bipush 6, 2) := by decide +kernel
theorem dX6_isPlanned_36 : decode cX6_isPlanned 36 = .ok (.iaload, 1) := by decide +kernel
theorem dX6_isPlanned_37 : decode cX6_isPlanned 37 = .ok (.if_icmp .ge 47, 3) := by decide +kernel
theorem dX6_isPlanned_40 : decode cX6_isPlanned 40 = .ok (.iconst 0, 1) := by decide +kernel
theorem dX6_isPlanned_41 : decode cX6_isPlanned 41 = .ok (.istore_n 3, 1) := by decide +kernel
theorem dX6_isPlanned_42 : decode cX6_isPlanned 42 = .ok (.aload_n 0, 1) := by decide +kernel
theorem dX6_isPlanned_43 : decode cX6_isPlanned 43 = .ok (.iload_n 1, 1) := by decide +kernel
theorem dX6_isPlanned_44 : decode cX6_isPlanned 44 = .ok (.iload_n 2, 1) := by decide +kernel
theorem dX6_isPlanned_45 : decode cX6_isPlanned 45 = .ok (.iload_n 3, 1) := by decide +kernel
theorem dX6_isPlanned_46 : decode cX6_isPlanned 46 = .ok (.invokevirtual 120, 3) := by decide +kernel
theorem dX6_isPlanned_49 : decode cX6_isPlanned 49 = .ok (.ifCond .ne 9, 3) := by decide +kernel
theorem dX6_isPlanned_52 : decode cX6_isPlanned 52 = .ok (.iinc 3 1, 3) := by decide +kernel
theorem dX6_isPlanned_55 : decode cX6_isPlanned 55 = .ok (.goto (-13), 3) := by decide +kernel
theorem dX6_isPlanned_58 : decode cX6_isPlanned 58 = .ok (.aload_n 0, 1) := by decide +kernel
theorem dX6_isPlanned_59 : decode cX6_isPlanned 59 = .ok (.iload_n 1, 1) := by decide +kernel
theorem dX6_isPlanned_60 : decode cX6_isPlanned 60 = .ok (.iload_n 2, 1) := by decide +kernel
theorem dX6_isPlanned_61 : decode cX6_isPlanned 61 = .ok (.iload_n 3, 1) := by decide +kernel
theorem dX6_isPlanned_62 : decode cX6_isPlanned 62 = .ok (.invokevirtual 123, 3) := by decide +kernel
theorem dX6_isPlanned_65 : decode cX6_isPlanned 65 = .ok (.aload_n 0, 1) := by decide +kernel
theorem dX6_isPlanned_66 : decode cX6_isPlanned 66 = .ok (.getfield 45, 3) := by decide +kernel
theorem dX6_isPlanned_69 : decode cX6_isPlanned 69 = .ok (.aload_n 0, 1) := by decide +kernel
theorem dX6_isPlanned_70 : decode cX6_isPlanned 70 = .ok (.getfield 112, 3) := by decide +kernel
theorem dX6_isPlanned_73 : decode cX6_isPlanned 73 = .ok (.iconst 1, 1) := by decide +kernel
theorem dX6_isPlanned_74 : decode cX6_isPlanned 74 = .ok (.isub, 1) := by decide +kernel
theorem dX6_isPlanned_75 : decode cX6_isPlanned 75 = .ok (.iaload, 1) := by decide +kernel
theorem dX6_isPlanned_76 : decode cX6_isPlanned 76 = .ok (.istore_n 1, 1) := by decide +kernel
theorem dX6_isPlanned_77 : decode cX6_isPlanned 77 = .ok (.iload_n 2, 1) := by decide +kernel
theorem dX6_isPlanned_78 : decode cX6_isPlanned 78 = .ok (.iload_n 3, 1) := by decide +kernel
theorem dX6_isPlanned_79 : decode cX6_isPlanned 79 = .ok (.iadd, 1) := by decide +kernel
theorem dX6_isPlanned_80 : decode cX6_isPlanned 80 = .ok (.istore_n 2, 1) := by decide +kernel
theorem dX6_isPlanned_81 : decode cX6_isPlanned 81 = .ok (.goto (-62), 3) := by decide +kernel
theorem dX6_isPlanned_84 : decode cX6_isPlanned 84 = .ok (.iconst 1, 1) := by decide +kernel
theorem dX6_isPlanned_85 : decode cX6_isPlanned 85 = .ok (.ireturn, 1) := by decide +kernel
theorem dX6_isBestPage_0 : decode cX6_isBestPage 0 = .ok (.aload_n 0, 1) := by decide +kernel
theorem dX6_isBestPage_1 : decode cX6_isBestPage 1 = .ok (.iload_n 1, 1) := by decide +kernel
theorem dX6_isBestPage_2 : decode cX6_isBestPage 2 = .ok (.iload_n 2, 1) := by decide +kernel
theorem dX6_isBestPage_3 : decode cX6_isBestPage 3 = .ok (.iload_n 3, 1) := by decide +kernel
theorem dX6_isBestPage_4 : decode cX6_isBestPage 4 = .ok (.invokevirtual 99, 3) := by decide +kernel
theorem dX6_isBestPage_7 : decode cX6_isBestPage 7 = .ok (.ifCond .ne 5, 3) := by decide +kernel
theorem dX6_isBestPage_10 : decode cX6_isBestPage 10 = .ok (.iconst 0, 1) := by decide +kernel
theorem dX6_isBestPage_11 : decode cX6_isBestPage 11 = .ok (.ireturn, 1) := by decide +kernel
theorem dX6_isBestPage_12 : decode cX6_isBestPage 12 = .ok (.aload_n 0, 1) := by decide +kernel
theorem dX6_isBestPage_13 : decode cX6_isBestPage 13 = .ok (.iload_n 1, 1) := by decide +kernel
theorem dX6_isBestPage_14 : decode cX6_isBestPage 14 = .ok (.iload_n 2, 1) := by decide +kernel
theorem dX6_isBestPage_15 : decode cX6_isBestPage 15 = .ok (.iload_n 3, 1) := by decide +kernel
theorem dX6_isBestPage_16 : decode cX6_isBestPage 16 = .ok (.invokevirtual 91, 3) := by decide +kernel
theorem dX6_isBestPage_19 : decode cX6_isBestPage 19 = .ok (.istore 4, 2) := by decide +kernel
theorem dX6_isBestPage_21 : decode cX6_isBestPage 21 = .ok (.bipush 11, 2) := by decide +kernel
theorem dX6_isBestPage_23 : decode cX6_isBestPage 23 = .ok (.iload 4, 2) := by decide +kernel
theorem dX6_isBestPage_25 : decode cX6_isBestPage 25 = .ok (.imul, 1) := by decide +kernel
theorem dX6_isBestPage_26 : decode cX6_isBestPage 26 = .ok (.iload_n 2, 1) := by decide +kernel
theorem dX6_isBestPage_27 : decode cX6_isBestPage 27 = .ok (.iadd, 1) := by decide +kernel
theorem dX6_isBestPage_28 : decode cX6_isBestPage 28 = .ok (.iload_n 3, 1) := by decide +kernel
theorem dX6_isBestPage_29 : decode cX6_isBestPage 29 = .ok (.iadd, 1) := by decide +kernel
theorem dX6_isBestPage_30 : decode cX6_isBestPage 30 = .ok (.istore 5, 2) := by decide +kernel
theorem dX6_isBestPage_32 : decode cX6_isBestPage 32 = .ok (.bipush 11, 2) := by decide +kernel
theorem dX6_isBestPage_34 : decode cX6_isBestPage 34 = .ok (.iload_n 1, 1) := by decide +kernel
theorem dX6_isBestPage_35 : decode cX6_isBestPage 35 = .ok (.imul, 1) := by decide +kernel
theorem dX6_isBestPage_36 : decode cX6_isBestPage 36 = .ok (.iload_n 2, 1) := by decide +kernel
theorem dX6_isBestPage_37 : decode cX6_isBestPage 37 = .ok (.iadd, 1) := by decide +kernel
theorem dX6_isBestPage_38 : decode cX6_isBestPage 38 = .ok (.istore 6, 2) := by decide +kernel
theorem dX6_isBestPage_40 : decode cX6_isBestPage 40 = .ok (.aload_n 0, 1) := by decide +kernel
theorem dX6_isBestPage_41 : decode cX6_isBestPage 41 = .ok (.getfield 29, 3) := by decide +kernel
theorem dX6_isBestPage_44 : decode cX6_isBestPage 44 = .ok (.iload 5, 2) := by decide +kernel
theorem dX6_isBestPage_46 : decode cX6_isBestPage 46 = .ok (.iaload, 1) := by decide +kernel
theorem dX6_isBestPage_47 : decode cX6_isBestPage 47 = .ok (.ldc 98, 2) := by decide +kernel
theorem dX6_isBestPage_49 : decode cX6_isBestPage 49 = .ok (.if_icmp .ge 53, 3) := by decide +kernel
theorem dX6_isBestPage_52 : decode cX6_isBestPage 52 = .ok (.aload_n 0, 1) := by decide +kernel
theorem dX6_isBestPage_53 : decode cX6_isBestPage 53 = .ok (.getfield 29, 3) := by decide +kernel
theorem dX6_isBestPage_56 : decode cX6_isBestPage 56 = .ok (.iload 5, 2) := by decide +kernel
theorem dX6_isBestPage_58 : decode cX6_isBestPage 58 = .ok (.iaload, 1) := by decide +kernel
theorem dX6_isBestPage_59 : decode cX6_isBestPage 59 = .ok (.aload_n 0, 1) := by decide +kernel
theorem dX6_isBestPage_60 : decode cX6_isBestPage 60 = .ok (.iload 4, 2) := by decide +kernel
theorem dX6_isBestPage_62 : decode cX6_isBestPage 62 = .ok (.iload_n 2, 1) := by decide +kernel
theorem dX6_isBestPage_63 : decode cX6_isBestPage 63 = .ok (.iload_n 3, 1) := by decide +kernel
theorem dX6_isBestPage_64 : decode cX6_isBestPage 64 = .ok (.iadd, 1) := by decide +kernel
theorem dX6_isBestPage_65 : decode cX6_isBestPage 65 = .ok (.invokevirtual 102, 3) := by decide +kernel
theorem dX6_isBestPage_68 : decode cX6_isBestPage 68 = .ok (.iadd, 1) := by decide +kernel
theorem dX6_isBestPage_69 : decode cX6_isBestPage 69 = .ok (.aload_n 0, 1) := by decide +kernel
theorem dX6_isBestPage_70 : decode cX6_isBestPage 70 = .ok (.getfield 29, 3) := by decide +kernel
theorem dX6_isBestPage_73 : decode cX6_isBestPage 73 = .ok (.iload 6, 2) := by decide +kernel
theorem dX6_isBestPage_75 : decode cX6_isBestPage 75 = .ok (.iaload, 1) := by decide +kernel
theorem dX6_isBestPage_76 : decode cX6_isBestPage 76 = .ok (.if_icmp .ne 26, 3) := by decide +kernel
theorem dX6_isBestPage_79 : decode cX6_isBestPage 79 = .ok (.aload_n 0, 1) := by decide +kernel
theorem dX6_isBestPage_80 : decode cX6_isBestPage 80 = .ok (.getfield 32, 3) := by decide +kernel
theorem dX6_isBestPage_83 : decode cX6_isBestPage 83 = .ok (.iload 5, 2) := by decide +kernel
theorem dX6_isBestPage_85 : decode cX6_isBestPage 85 = .ok (.iaload, 1) := by decide +kernel
theorem dX6_isBestPage_86 : decode cX6_isBestPage 86 = .ok (.iconst 1, 1) := by decide +kernel
theorem dX6_isBestPage_87 : decode cX6_isBestPage 87 = .ok (.iadd, 1) := by decide +kernel
theorem dX6_isBestPage_88 : decode cX6_isBestPage 88 = .ok (.aload_n 0, 1) := by decide +kernel
theorem dX6_isBestPage_89 : decode cX6_isBestPage 89 = .ok (.getfield 32, 3) := by decide +kernel
theorem dX6_isBestPage_92 : decode cX6_isBestPage 92 = .ok (.iload 6, 2) := by decide +kernel
theorem dX6_isBestPage_94 : decode cX6_isBestPage 94 = .ok (.iaload, 1) := by decide +kernel
theorem dX6_isBestPage_95 : decode cX6_isBestPage 95 = .ok (.if_icmp .ne 7, 3) := by decide +kernel
theorem dX6_isBestPage_98 : decode cX6_isBestPage 98 = .ok (.iconst 1, 1) := by decide +kernel
theorem dX6_isBestPage_99 : decode cX6_isBestPage 99 = .ok (.goto 4, 3) := by decide +kernel
theorem dX6_isBestPage_102 : decode cX6_isBestPage 102 = .ok (.iconst 0, 1) := by decide +kernel
theorem dX6_isBestPage_103 : decode cX6_isBestPage 103 = .ok (.ireturn, 1) := by decide +kernel
theorem dX6_isGreedy_0 : decode cX6_isGreedy 0 = .ok (.aload_n 0, 1) := by decide +kernel
theorem dX6_isGreedy_1 : decode cX6_isGreedy 1 = .ok (.iconst 0, 1) := by decide +kernel
theorem dX6_isGreedy_2 : decode cX6_isGreedy 2 = .ok (.putfield 112, 3) := by decide +kernel
theorem dX6_isGreedy_5 : decode cX6_isGreedy 5 = .ok (.aload_n 0, 1) := by decide +kernel
theorem dX6_isGreedy_6 : decode cX6_isGreedy 6 = .ok (.invokevirtual 127, 3) := by decide +kernel
theorem dX6_isGreedy_9 : decode cX6_isGreedy 9 = .ok (.iconst (-1), 1) := by decide +kernel
theorem dX6_isGreedy_10 : decode cX6_isGreedy 10 = .ok (.if_icmp .eq 5, 3) := by decide +kernel
theorem dX6_isGreedy_13 : decode cX6_isGreedy 13 = .ok (.iconst 0, 1) := by decide +kernel
theorem dX6_isGreedy_14 : decode cX6_isGreedy 14 = .ok (.ireturn, 1) := by decide +kernel
theorem dX6_isGreedy_15 : decode cX6_isGreedy 15 = .ok (.iconst 0, 1) := by decide +kernel
theorem dX6_isGreedy_16 : decode cX6_isGreedy 16 = .ok (.istore_n 1, 1) := by decide +kernel
theorem dX6_isGreedy_17 : decode cX6_isGreedy 17 = .ok (.iconst 0, 1) := by decide +kernel
theorem dX6_isGreedy_18 : decode cX6_isGreedy 18 = .ok (.istore_n 2, 1) := by decide +kernel
theorem dX6_isGreedy_19 : decode cX6_isGreedy 19 = .ok (.iload_n 1, 1) := by decide +kernel
theorem dX6_isGreedy_20 : decode cX6_isGreedy 20 = .ok (.aload_n 0, 1) := by decide +kernel
theorem dX6_isGreedy_21 : decode cX6_isGreedy 21 = .ok (.getfield 7, 3) := by decide +kernel
theorem dX6_isGreedy_24 : decode cX6_isGreedy 24 = .ok (.iconst 0, 1) := by decide +kernel
theorem dX6_isGreedy_25 : decode cX6_isGreedy 25 = .ok (.iaload, 1) := by decide +kernel
theorem dX6_isGreedy_26 : decode cX6_isGreedy 26 = .ok (.if_icmp .lt 14, 3) := by decide +kernel
theorem dX6_isGreedy_29 : decode cX6_isGreedy 29 = .ok (.iload_n 2, 1) := by decide +kernel
theorem dX6_isGreedy_30 : decode cX6_isGreedy 30 = .ok (.aload_n 0, 1) := by decide +kernel
theorem dX6_isGreedy_31 : decode cX6_isGreedy 31 = .ok (.getfield 7, 3) := by decide +kernel
theorem dX6_isGreedy_34 : decode cX6_isGreedy 34 = .ok (.bipush 6, 2) := by decide +kernel
theorem dX6_isGreedy_36 : decode cX6_isGreedy 36 = .ok (.iaload, 1) := by decide +kernel
theorem dX6_isGreedy_37 : decode cX6_isGreedy 37 = .ok (.if_icmp .ge 107, 3) := by decide +kernel
theorem dX6_isGreedy_40 : decode cX6_isGreedy 40 = .ok (.aload_n 0, 1) := by decide +kernel
theorem dX6_isGreedy_41 : decode cX6_isGreedy 41 = .ok (.getfield 7, 3) := by decide +kernel
theorem dX6_isGreedy_44 : decode cX6_isGreedy 44 = .ok (.iconst 4, 1) := by decide +kernel
theorem dX6_isGreedy_45 : decode cX6_isGreedy 45 = .ok (.iaload, 1) := by decide +kernel
theorem dX6_isGreedy_46 : decode cX6_isGreedy 46 = .ok (.aload_n 0, 1) := by decide +kernel
theorem dX6_isGreedy_47 : decode cX6_isGreedy 47 = .ok (.getfield 7, 3) := by decide +kernel
theorem dX6_isGreedy_50 : decode cX6_isGreedy 50 = .ok (.bipush 6, 2) := by decide +kernel
theorem dX6_isGreedy_52 : decode cX6_isGreedy 52 = .ok (.iaload, 1) := by decide +kernel
theorem dX6_isGreedy_53 : decode cX6_isGreedy 53 = .ok (.iload_n 2, 1) := by decide +kernel
theorem dX6_isGreedy_54 : decode cX6_isGreedy 54 = .ok (.isub, 1) := by decide +kernel
theorem dX6_isGreedy_55 : decode cX6_isGreedy 55 = .ok (.if_icmp .ge 12, 3) := by decide +kernel
theorem dX6_isGreedy_58 : decode cX6_isGreedy 58 = .ok (.aload_n 0, 1) := by decide +kernel
theorem dX6_isGreedy_59 : decode cX6_isGreedy 59 = .ok (.getfield 7, 3) := by decide +kernel
theorem dX6_isGreedy_62 : decode cX6_isGreedy 62 = .ok (.iconst 4, 1) := by decide +kernel
theorem dX6_isGreedy_63 : decode cX6_isGreedy 63 = .ok (.iaload, 1) := by decide +kernel
theorem dX6_isGreedy_64 : decode cX6_isGreedy 64 = .ok (.goto 12, 3) := by decide +kernel
theorem dX6_isGreedy_67 : decode cX6_isGreedy 67 = .ok (.aload_n 0, 1) := by decide +kernel
theorem dX6_isGreedy_68 : decode cX6_isGreedy 68 = .ok (.getfield 7, 3) := by decide +kernel
theorem dX6_isGreedy_71 : decode cX6_isGreedy 71 = .ok (.bipush 6, 2) := by decide +kernel
theorem dX6_isGreedy_73 : decode cX6_isGreedy 73 = .ok (.iaload, 1) := by decide +kernel
theorem dX6_isGreedy_74 : decode cX6_isGreedy 74 = .ok (.iload_n 2, 1) := by decide +kernel
theorem dX6_isGreedy_75 : decode cX6_isGreedy 75 = .ok (.isub, 1) := by decide +kernel
theorem dX6_isGreedy_76 : decode cX6_isGreedy 76 = .ok (.istore_n 3, 1) := by decide +kernel
theorem dX6_isGreedy_77 : decode cX6_isGreedy 77 = .ok (.aload_n 0, 1) := by decide +kernel
theorem dX6_isGreedy_78 : decode cX6_isGreedy 78 = .ok (.iload_n 2, 1) := by decide +kernel
theorem dX6_isGreedy_79 : decode cX6_isGreedy 79 = .ok (.iload_n 3, 1) := by decide +kernel
theorem dX6_isGreedy_80 : decode cX6_isGreedy 80 = .ok (.invokevirtual 74, 3) := by decide +kernel
theorem dX6_isGreedy_83 : decode cX6_isGreedy 83 = .ok (.ifCond .eq 29, 3) := by decide +kernel
theorem dX6_isGreedy_86 : decode cX6_isGreedy 86 = .ok (.iload_n 1, 1) := by decide +kernel
theorem dX6_isGreedy_87 : decode cX6_isGreedy 87 = .ok (.aload_n 0, 1) := by decide +kernel
theorem dX6_isGreedy_88 : decode cX6_isGreedy 88 = .ok (.getfield 7, 3) := by decide +kernel
theorem dX6_isGreedy_91 : decode cX6_isGreedy 91 = .ok (.iconst 0, 1) := by decide +kernel
theorem dX6_isGreedy_92 : decode cX6_isGreedy 92 = .ok (.iaload, 1) := by decide +kernel
theorem dX6_isGreedy_93 : decode cX6_isGreedy 93 = .ok (.if_icmp .ge 25, 3) := by decide +kernel
theorem dX6_isGreedy_96 : decode cX6_isGreedy 96 = .ok (.aload_n 0, 1) := by decide +kernel
theorem dX6_isGreedy_97 : decode cX6_isGreedy 97 = .ok (.iload_n 2, 1) := by decide +kernel
theorem dX6_isGreedy_98 : decode cX6_isGreedy 98 = .ok (.iload_n 3, 1) := by decide +kernel
theorem dX6_isGreedy_99 : decode cX6_isGreedy 99 = .ok (.aload_n 0, 1) := by decide +kernel
theorem dX6_isGreedy_100 : decode cX6_isGreedy 100 = .ok (.iload_n 1, 1) := by decide +kernel
theorem dX6_isGreedy_101 : decode cX6_isGreedy 101 = .ok (.iload_n 2, 1) := by decide +kernel
theorem dX6_isGreedy_102 : decode cX6_isGreedy 102 = .ok (.iload_n 3, 1) := by decide +kernel
theorem dX6_isGreedy_103 : decode cX6_isGreedy 103 = .ok (.invokevirtual 91, 3) := by decide +kernel
theorem dX6_isGreedy_106 : decode cX6_isGreedy 106 = .ok (.invokevirtual 95, 3) := by decide +kernel
theorem dX6_isGreedy_109 : decode cX6_isGreedy 109 = .ok (.ifCond .ne 9, 3) := by decide +kernel
theorem dX6_isGreedy_112 : decode cX6_isGreedy 112 = .ok (.iinc 3 (-1), 3) := by decide +kernel
theorem dX6_isGreedy_115 : decode cX6_isGreedy 115 = .ok (.goto (-38), 3) := by decide +kernel
theorem dX6_isGreedy_118 : decode cX6_isGreedy 118 = .ok (.aload_n 0, 1) := by decide +kernel
theorem dX6_isGreedy_119 : decode cX6_isGreedy 119 = .ok (.iload_n 1, 1) := by decide +kernel
theorem dX6_isGreedy_120 : decode cX6_isGreedy 120 = .ok (.iload_n 2, 1) := by decide +kernel
theorem dX6_isGreedy_121 : decode cX6_isGreedy 121 = .ok (.iload_n 3, 1) := by decide +kernel
theorem dX6_isGreedy_122 : decode cX6_isGreedy 122 = .ok (.invokevirtual 123, 3) := by decide +kernel
theorem dX6_isGreedy_125 : decode cX6_isGreedy 125 = .ok (.aload_n 0, 1) := by decide +kernel
theorem dX6_isGreedy_126 : decode cX6_isGreedy 126 = .ok (.getfield 45, 3) := by decide +kernel
theorem dX6_isGreedy_129 : decode cX6_isGreedy 129 = .ok (.aload_n 0, 1) := by decide +kernel
theorem dX6_isGreedy_130 : decode cX6_isGreedy 130 = .ok (.getfield 112, 3) := by decide +kernel
theorem dX6_isGreedy_133 : decode cX6_isGreedy 133 = .ok (.iconst 1, 1) := by decide +kernel
theorem dX6_isGreedy_134 : decode cX6_isGreedy 134 = .ok (.isub, 1) := by decide +kernel
theorem dX6_isGreedy_135 : decode cX6_isGreedy 135 = .ok (.iaload, 1) := by decide +kernel
theorem dX6_isGreedy_136 : decode cX6_isGreedy 136 = .ok (.istore_n 1, 1) := by decide +kernel
theorem dX6_isGreedy_137 : decode cX6_isGreedy 137 = .ok (.iload_n 2, 1) := by decide +kernel
theorem dX6_isGreedy_138 : decode cX6_isGreedy 138 = .ok (.iload_n 3, 1) := by decide +kernel
theorem dX6_isGreedy_139 : decode cX6_isGreedy 139 = .ok (.iadd, 1) := by decide +kernel
theorem dX6_isGreedy_140 : decode cX6_isGreedy 140 = .ok (.istore_n 2, 1) := by decide +kernel
theorem dX6_isGreedy_141 : decode cX6_isGreedy 141 = .ok (.goto (-122), 3) := by decide +kernel
theorem dX6_isGreedy_144 : decode cX6_isGreedy 144 = .ok (.iconst 1, 1) := by decide +kernel
theorem dX6_isGreedy_145 : decode cX6_isGreedy 145 = .ok (.ireturn, 1) := by decide +kernel
theorem dX6_paidOfAll_0 : decode cX6_paidOfAll 0 = .ok (.iconst 0, 1) := by decide +kernel
theorem dX6_paidOfAll_1 : decode cX6_paidOfAll 1 = .ok (.istore_n 1, 1) := by decide +kernel
theorem dX6_paidOfAll_2 : decode cX6_paidOfAll 2 = .ok (.iconst 0, 1) := by decide +kernel
theorem dX6_paidOfAll_3 : decode cX6_paidOfAll 3 = .ok (.istore_n 2, 1) := by decide +kernel
theorem dX6_paidOfAll_4 : decode cX6_paidOfAll 4 = .ok (.iload_n 2, 1) := by decide +kernel
theorem dX6_paidOfAll_5 : decode cX6_paidOfAll 5 = .ok (.aload_n 0, 1) := by decide +kernel
theorem dX6_paidOfAll_6 : decode cX6_paidOfAll 6 = .ok (.getfield 112, 3) := by decide +kernel
theorem dX6_paidOfAll_9 : decode cX6_paidOfAll 9 = .ok (.if_icmp .ge 28, 3) := by decide +kernel
theorem dX6_paidOfAll_12 : decode cX6_paidOfAll 12 = .ok (.iload_n 1, 1) := by decide +kernel
theorem dX6_paidOfAll_13 : decode cX6_paidOfAll 13 = .ok (.aload_n 0, 1) := by decide +kernel
theorem dX6_paidOfAll_14 : decode cX6_paidOfAll 14 = .ok (.aload_n 0, 1) := by decide +kernel
theorem dX6_paidOfAll_15 : decode cX6_paidOfAll 15 = .ok (.getfield 45, 3) := by decide +kernel
theorem dX6_paidOfAll_18 : decode cX6_paidOfAll 18 = .ok (.iload_n 2, 1) := by decide +kernel
theorem dX6_paidOfAll_19 : decode cX6_paidOfAll 19 = .ok (.iaload, 1) := by decide +kernel
theorem dX6_paidOfAll_20 : decode cX6_paidOfAll 20 = .ok (.aload_n 0, 1) := by decide +kernel
theorem dX6_paidOfAll_21 : decode cX6_paidOfAll 21 = .ok (.getfield 48, 3) := by decide +kernel
theorem dX6_paidOfAll_24 : decode cX6_paidOfAll 24 = .ok (.iload_n 2, 1) := by decide +kernel
theorem dX6_paidOfAll_25 : decode cX6_paidOfAll 25 = .ok (.iaload, 1) := by decide +kernel
theorem dX6_paidOfAll_26 : decode cX6_paidOfAll 26 = .ok (.invokevirtual 102, 3) := by decide +kernel
theorem dX6_paidOfAll_29 : decode cX6_paidOfAll 29 = .ok (.iadd, 1) := by decide +kernel
theorem dX6_paidOfAll_30 : decode cX6_paidOfAll 30 = .ok (.istore_n 1, 1) := by decide +kernel
theorem dX6_paidOfAll_31 : decode cX6_paidOfAll 31 = .ok (.iinc 2 1, 3) := by decide +kernel
theorem dX6_paidOfAll_34 : decode cX6_paidOfAll 34 = .ok (.goto (-30), 3) := by decide +kernel
theorem dX6_paidOfAll_37 : decode cX6_paidOfAll 37 = .ok (.iload_n 1, 1) := by decide +kernel
theorem dX6_paidOfAll_38 : decode cX6_paidOfAll 38 = .ok (.ireturn, 1) := by decide +kernel
theorem dX6_pageOfFigure_0 : decode cX6_pageOfFigure 0 = .ok (.iconst 0, 1) := by decide +kernel
theorem dX6_pageOfFigure_1 : decode cX6_pageOfFigure 1 = .ok (.istore_n 2, 1) := by decide +kernel
theorem dX6_pageOfFigure_2 : decode cX6_pageOfFigure 2 = .ok (.aload_n 0, 1) := by decide +kernel
theorem dX6_pageOfFigure_3 : decode cX6_pageOfFigure 3 = .ok (.getfield 48, 3) := by decide +kernel
theorem dX6_pageOfFigure_6 : decode cX6_pageOfFigure 6 = .ok (.iload_n 2, 1) := by decide +kernel
theorem dX6_pageOfFigure_7 : decode cX6_pageOfFigure 7 = .ok (.iaload, 1) := by decide +kernel
theorem dX6_pageOfFigure_8 : decode cX6_pageOfFigure 8 = .ok (.iload_n 1, 1) := by decide +kernel
theorem dX6_pageOfFigure_9 : decode cX6_pageOfFigure 9 = .ok (.if_icmp .gt 9, 3) := by decide +kernel
theorem dX6_pageOfFigure_12 : decode cX6_pageOfFigure 12 = .ok (.iinc 2 1, 3) := by decide +kernel
theorem dX6_pageOfFigure_15 : decode cX6_pageOfFigure 15 = .ok (.goto (-13), 3) := by decide +kernel
theorem dX6_pageOfFigure_18 : decode cX6_pageOfFigure 18 = .ok (.iload_n 2, 1) := by decide +kernel
theorem dX6_pageOfFigure_19 : decode cX6_pageOfFigure 19 = .ok (.ireturn, 1) := by decide +kernel
theorem dX6_pageOfLine_0 : decode cX6_pageOfLine 0 = .ok (.iconst 0, 1) := by decide +kernel
theorem dX6_pageOfLine_1 : decode cX6_pageOfLine 1 = .ok (.istore_n 2, 1) := by decide +kernel
theorem dX6_pageOfLine_2 : decode cX6_pageOfLine 2 = .ok (.aload_n 0, 1) := by decide +kernel
theorem dX6_pageOfLine_3 : decode cX6_pageOfLine 3 = .ok (.getfield 45, 3) := by decide +kernel
theorem dX6_pageOfLine_6 : decode cX6_pageOfLine 6 = .ok (.iload_n 2, 1) := by decide +kernel
theorem dX6_pageOfLine_7 : decode cX6_pageOfLine 7 = .ok (.iaload, 1) := by decide +kernel
theorem dX6_pageOfLine_8 : decode cX6_pageOfLine 8 = .ok (.iload_n 1, 1) := by decide +kernel
theorem dX6_pageOfLine_9 : decode cX6_pageOfLine 9 = .ok (.if_icmp .gt 9, 3) := by decide +kernel
theorem dX6_pageOfLine_12 : decode cX6_pageOfLine 12 = .ok (.iinc 2 1, 3) := by decide +kernel
theorem dX6_pageOfLine_15 : decode cX6_pageOfLine 15 = .ok (.goto (-13), 3) := by decide +kernel
theorem dX6_pageOfLine_18 : decode cX6_pageOfLine 18 = .ok (.iload_n 2, 1) := by decide +kernel
theorem dX6_pageOfLine_19 : decode cX6_pageOfLine 19 = .ok (.ireturn, 1) := by decide +kernel
theorem dX6_pageOfMention_0 : decode cX6_pageOfMention 0 = .ok (.aload_n 0, 1) := by decide +kernel
theorem dX6_pageOfMention_1 : decode cX6_pageOfMention 1 = .ok (.getfield 7, 3) := by decide +kernel
theorem dX6_pageOfMention_4 : decode cX6_pageOfMention 4 = .ok (.iconst 0, 1) := by decide +kernel
theorem dX6_pageOfMention_5 : decode cX6_pageOfMention 5 = .ok (.iaload, 1) := by decide +kernel
theorem dX6_pageOfMention_6 : decode cX6_pageOfMention 6 = .ok (.ifCond .ne 7, 3) := by decide +kernel
theorem dX6_pageOfMention_9 : decode cX6_pageOfMention 9 = .ok (.iconst 0, 1) := by decide +kernel
theorem dX6_pageOfMention_10 : decode cX6_pageOfMention 10 = .ok (.goto 12, 3) := by decide +kernel
theorem dX6_pageOfMention_13 : decode cX6_pageOfMention 13 = .ok (.aload_n 0, 1) := by decide +kernel
theorem dX6_pageOfMention_14 : decode cX6_pageOfMention 14 = .ok (.aload_n 0, 1) := by decide +kernel
theorem dX6_pageOfMention_15 : decode cX6_pageOfMention 15 = .ok (.iload_n 1, 1) := by decide +kernel
theorem dX6_pageOfMention_16 : decode cX6_pageOfMention 16 = .ok (.invokevirtual 71, 3) := by decide +kernel
theorem dX6_pageOfMention_19 : decode cX6_pageOfMention 19 = .ok (.invokevirtual 130, 3) := by decide +kernel
theorem dX6_pageOfMention_22 : decode cX6_pageOfMention 22 = .ok (.ireturn, 1) := by decide +kernel
theorem dX6_costOf_0 : decode cX6_costOf 0 = .ok (.aload_n 0, 1) := by decide +kernel
theorem dX6_costOf_1 : decode cX6_costOf 1 = .ok (.iload_n 1, 1) := by decide +kernel
theorem dX6_costOf_2 : decode cX6_costOf 2 = .ok (.invokevirtual 133, 3) := by decide +kernel
theorem dX6_costOf_5 : decode cX6_costOf 5 = .ok (.aload_n 0, 1) := by decide +kernel
theorem dX6_costOf_6 : decode cX6_costOf 6 = .ok (.iload_n 1, 1) := by decide +kernel
theorem dX6_costOf_7 : decode cX6_costOf 7 = .ok (.invokevirtual 136, 3) := by decide +kernel
theorem dX6_costOf_10 : decode cX6_costOf 10 = .ok (.isub, 1) := by decide +kernel
theorem dX6_costOf_11 : decode cX6_costOf 11 = .ok (.istore_n 2, 1) := by decide +kernel
theorem dX6_costOf_12 : decode cX6_costOf 12 = .ok (.aload_n 0, 1) := by decide +kernel
theorem dX6_costOf_13 : decode cX6_costOf 13 = .ok (.iload_n 1, 1) := by decide +kernel
theorem dX6_costOf_14 : decode cX6_costOf 14 = .ok (.invokevirtual 81, 3) := by decide +kernel
theorem dX6_costOf_17 : decode cX6_costOf 17 = .ok (.iload_n 2, 1) := by decide +kernel
theorem dX6_costOf_18 : decode cX6_costOf 18 = .ok (.ifCond .ge 8, 3) := by decide +kernel
theorem dX6_costOf_21 : decode cX6_costOf 21 = .ok (.iload_n 2, 1) := by decide +kernel
theorem dX6_costOf_22 : decode cX6_costOf 22 = .ok (.ineg, 1) := by decide +kernel
theorem dX6_costOf_23 : decode cX6_costOf 23 = .ok (.goto 4, 3) := by decide +kernel
theorem dX6_costOf_26 : decode cX6_costOf 26 = .ok (.iload_n 2, 1) := by decide +kernel
theorem dX6_costOf_27 : decode cX6_costOf 27 = .ok (.imul, 1) := by decide +kernel
theorem dX6_costOf_28 : decode cX6_costOf 28 = .ok (.ireturn, 1) := by decide +kernel
theorem dX6_layPlaces_0 : decode cX6_layPlaces 0 = .ok (.iconst 0, 1) := by decide +kernel
theorem dX6_layPlaces_1 : decode cX6_layPlaces 1 = .ok (.istore_n 1, 1) := by decide +kernel
theorem dX6_layPlaces_2 : decode cX6_layPlaces 2 = .ok (.iload_n 1, 1) := by decide +kernel
theorem dX6_layPlaces_3 : decode cX6_layPlaces 3 = .ok (.sipush 1331, 3) := by decide +kernel
theorem dX6_layPlaces_6 : decode cX6_layPlaces 6 = .ok (.if_icmp .ge 16, 3) := by decide +kernel
theorem dX6_layPlaces_9 : decode cX6_layPlaces 9 = .ok (.aload_n 0, 1) := by decide +kernel
theorem dX6_layPlaces_10 : decode cX6_layPlaces 10 = .ok (.getfield 39, 3) := by decide +kernel
theorem dX6_layPlaces_13 : decode cX6_layPlaces 13 = .ok (.iload_n 1, 1) := by decide +kernel
theorem dX6_layPlaces_14 : decode cX6_layPlaces 14 = .ok (.iconst 0, 1) := by decide +kernel
theorem dX6_layPlaces_15 : decode cX6_layPlaces 15 = .ok (.bastore, 1) := by decide +kernel
theorem dX6_layPlaces_16 : decode cX6_layPlaces 16 = .ok (.iinc 1 1, 3) := by decide +kernel
theorem dX6_layPlaces_19 : decode cX6_layPlaces 19 = .ok (.goto (-17), 3) := by decide +kernel
theorem dX6_layPlaces_22 : decode cX6_layPlaces 22 = .ok (.aload_n 0, 1) := by decide +kernel
theorem dX6_layPlaces_23 : decode cX6_layPlaces 23 = .ok (.invokevirtual 116, 3) := by decide +kernel
theorem dX6_layPlaces_26 : decode cX6_layPlaces 26 = .ok (.iconst (-1), 1) := by decide +kernel
theorem dX6_layPlaces_27 : decode cX6_layPlaces 27 = .ok (.if_icmp .ne 5, 3) := by decide +kernel
theorem dX6_layPlaces_30 : decode cX6_layPlaces 30 = .ok (.iconst 0, 1) := by decide +kernel
theorem dX6_layPlaces_31 : decode cX6_layPlaces 31 = .ok (.ireturn, 1) := by decide +kernel
theorem dX6_layPlaces_32 : decode cX6_layPlaces 32 = .ok (.aload_n 0, 1) := by decide +kernel
theorem dX6_layPlaces_33 : decode cX6_layPlaces 33 = .ok (.getfield 39, 3) := by decide +kernel
theorem dX6_layPlaces_36 : decode cX6_layPlaces 36 = .ok (.iconst 0, 1) := by decide +kernel
theorem dX6_layPlaces_37 : decode cX6_layPlaces 37 = .ok (.iconst 1, 1) := by decide +kernel
theorem dX6_layPlaces_38 : decode cX6_layPlaces 38 = .ok (.bastore, 1) := by decide +kernel
theorem dX6_layPlaces_39 : decode cX6_layPlaces 39 = .ok (.iconst 0, 1) := by decide +kernel
theorem dX6_layPlaces_40 : decode cX6_layPlaces 40 = .ok (.istore_n 1, 1) := by decide +kernel
theorem dX6_layPlaces_41 : decode cX6_layPlaces 41 = .ok (.iconst 0, 1) := by decide +kernel
theorem dX6_layPlaces_42 : decode cX6_layPlaces 42 = .ok (.istore_n 2, 1) := by decide +kernel
theorem dX6_layPlaces_43 : decode cX6_layPlaces 43 = .ok (.iload_n 2, 1) := by decide +kernel
theorem dX6_layPlaces_44 : decode cX6_layPlaces 44 = .ok (.aload_n 0, 1) := by decide +kernel
theorem dX6_layPlaces_45 : decode cX6_layPlaces 45 = .ok (.getfield 7, 3) := by decide +kernel
theorem dX6_layPlaces_48 : decode cX6_layPlaces 48 = .ok (.iconst 0, 1) := by decide +kernel
theorem dX6_layPlaces_49 : decode cX6_layPlaces 49 = .ok (.iaload, 1) := by decide +kernel
theorem dX6_layPlaces_50 : decode cX6_layPlaces 50 = .ok (.if_icmp .gt 157, 3) := by decide +kernel
theorem dX6_layPlaces_53 : decode cX6_layPlaces 53 = .ok (.iconst 0, 1) := by decide +kernel
theorem dX6_layPlaces_54 : decode cX6_layPlaces 54 = .ok (.istore_n 3, 1) := by decide +kernel
theorem dX6_layPlaces_55 : decode cX6_layPlaces 55 = .ok (.iload_n 3, 1) := by decide +kernel
theorem dX6_layPlaces_56 : decode cX6_layPlaces 56 = .ok (.aload_n 0, 1) := by decide +kernel
theorem dX6_layPlaces_57 : decode cX6_layPlaces 57 = .ok (.getfield 7, 3) := by decide +kernel
theorem dX6_layPlaces_60 : decode cX6_layPlaces 60 = .ok (.bipush 6, 2) := by decide +kernel
theorem dX6_layPlaces_62 : decode cX6_layPlaces 62 = .ok (.iaload, 1) := by decide +kernel
theorem dX6_layPlaces_63 : decode cX6_layPlaces 63 = .ok (.if_icmp .gt 138, 3) := by decide +kernel
theorem dX6_layPlaces_66 : decode cX6_layPlaces 66 = .ok (.aload_n 0, 1) := by decide +kernel
theorem dX6_layPlaces_67 : decode cX6_layPlaces 67 = .ok (.getfield 39, 3) := by decide +kernel
theorem dX6_layPlaces_70 : decode cX6_layPlaces 70 = .ok (.bipush 11, 2) := by decide +kernel
theorem dX6_layPlaces_72 : decode cX6_layPlaces 72 = .ok (.iload_n 2, 1) := by decide +kernel
theorem dX6_layPlaces_73 : decode cX6_layPlaces 73 = .ok (.imul, 1) := by decide +kernel
theorem dX6_layPlaces_74 : decode cX6_layPlaces 74 = .ok (.iload_n 3, 1) := by decide +kernel
theorem dX6_layPlaces_75 : decode cX6_layPlaces 75 = .ok (.iadd, 1) := by decide +kernel
theorem dX6_layPlaces_76 : decode cX6_layPlaces 76 = .ok (.baload, 1) := by decide +kernel
theorem dX6_layPlaces_77 : decode cX6_layPlaces 77 = .ok (.ifCond .eq 118, 3) := by decide +kernel
theorem dX6_layPlaces_80 : decode cX6_layPlaces 80 = .ok (.iinc 1 1, 3) := by decide +kernel
theorem dX6_layPlaces_83 : decode cX6_layPlaces 83 = .ok (.iconst 0, 1) := by decide +kernel
theorem dX6_layPlaces_84 : decode cX6_layPlaces 84 = .ok (.istore 4, 2) := by decide +kernel
theorem dX6_layPlaces_86 : decode cX6_layPlaces 86 = .ok (.iload 4, 2) := by decide +kernel
theorem dX6_layPlaces_88 : decode cX6_layPlaces 88 = .ok (.aload_n 0, 1) := by decide +kernel
theorem dX6_layPlaces_89 : decode cX6_layPlaces 89 = .ok (.getfield 7, 3) := by decide +kernel
theorem dX6_layPlaces_92 : decode cX6_layPlaces 92 = .ok (.iconst 4, 1) := by decide +kernel
theorem dX6_layPlaces_93 : decode cX6_layPlaces 93 = .ok (.iaload, 1) := by decide +kernel
theorem dX6_layPlaces_94 : decode cX6_layPlaces 94 = .ok (.if_icmp .gt 101, 3) := by decide +kernel
theorem dX6_layPlaces_97 : decode cX6_layPlaces 97 = .ok (.iload_n 2, 1) := by decide +kernel
theorem dX6_layPlaces_98 : decode cX6_layPlaces 98 = .ok (.aload_n 0, 1) := by decide +kernel
theorem dX6_layPlaces_99 : decode cX6_layPlaces 99 = .ok (.getfield 7, 3) := by decide +kernel
theorem dX6_layPlaces_102 : decode cX6_layPlaces 102 = .ok (.iconst 0, 1) := by decide +kernel
theorem dX6_layPlaces_103 : decode cX6_layPlaces 103 = .ok (.iaload, 1) := by decide +kernel
theorem dX6_layPlaces_104 : decode cX6_layPlaces 104 = .ok (.if_icmp .ne 18, 3) := by decide +kernel
theorem dX6_layPlaces_107 : decode cX6_layPlaces 107 = .ok (.iload_n 3, 1) := by decide +kernel
theorem dX6_layPlaces_108 : decode cX6_layPlaces 108 = .ok (.aload_n 0, 1) := by decide +kernel
theorem dX6_layPlaces_109 : decode cX6_layPlaces 109 = .ok (.getfield 7, 3) := by decide +kernel
theorem dX6_layPlaces_112 : decode cX6_layPlaces 112 = .ok (.bipush 6, 2) := by decide +kernel
theorem dX6_layPlaces_114 : decode cX6_layPlaces 114 = .ok (.iaload, 1) := by decide +kernel
theorem dX6_layPlaces_115 : decode cX6_layPlaces 115 = .ok (.if_icmp .ne 7, 3) := by decide +kernel
theorem dX6_layPlaces_118 : decode cX6_layPlaces 118 = .ok (.iconst 1, 1) := by decide +kernel
theorem dX6_layPlaces_119 : decode cX6_layPlaces 119 = .ok (.goto 4, 3) := by decide +kernel
theorem dX6_layPlaces_122 : decode cX6_layPlaces 122 = .ok (.iconst 0, 1) := by decide +kernel
theorem dX6_layPlaces_123 : decode cX6_layPlaces 123 = .ok (.istore 5, 2) := by decide +kernel
theorem dX6_layPlaces_125 : decode cX6_layPlaces 125 = .ok (.iload 5, 2) := by decide +kernel
theorem dX6_layPlaces_127 : decode cX6_layPlaces 127 = .ok (.ifCond .ne 62, 3) := by decide +kernel
theorem dX6_layPlaces_130 : decode cX6_layPlaces 130 = .ok (.aload_n 0, 1) := by decide +kernel
theorem dX6_layPlaces_131 : decode cX6_layPlaces 131 = .ok (.iload_n 2, 1) := by decide +kernel
theorem dX6_layPlaces_132 : decode cX6_layPlaces 132 = .ok (.iload_n 3, 1) := by decide +kernel
theorem dX6_layPlaces_133 : decode cX6_layPlaces 133 = .ok (.iload 4, 2) := by decide +kernel
theorem dX6_layPlaces_135 : decode cX6_layPlaces 135 = .ok (.invokevirtual 99, 3) := by decide +kernel
theorem dX6_layPlaces_138 : decode cX6_layPlaces 138 = .ok (.ifCond .eq 51, 3) := by decide +kernel
theorem dX6_layPlaces_141 : decode cX6_layPlaces 141 = .ok (.aload_n 0, 1) := by decide +kernel
theorem dX6_layPlaces_142 : decode cX6_layPlaces 142 = .ok (.getfield 29, 3) := by decide +kernel
theorem dX6_layPlaces_145 : decode cX6_layPlaces 145 = .ok (.bipush 11, 2) := by decide +kernel
theorem dX6_layPlaces_147 : decode cX6_layPlaces 147 = .ok (.aload_n 0, 1) := by decide +kernel
theorem dX6_layPlaces_148 : decode cX6_layPlaces 148 = .ok (.iload_n 2, 1) := by decide +kernel
theorem dX6_layPlaces_149 : decode cX6_layPlaces 149 = .ok (.iload_n 3, 1) := by decide +kernel
theorem dX6_layPlaces_150 : decode cX6_layPlaces 150 = .ok (.iload 4, 2) := by decide +kernel
theorem dX6_layPlaces_152 : decode cX6_layPlaces 152 = .ok (.invokevirtual 91, 3) := by decide +kernel
theorem dX6_layPlaces_155 : decode cX6_layPlaces 155 = .ok (.imul, 1) := by decide +kernel
theorem dX6_layPlaces_156 : decode cX6_layPlaces 156 = .ok (.iload_n 3, 1) := by decide +kernel
theorem dX6_layPlaces_157 : decode cX6_layPlaces 157 = .ok (.iadd, 1) := by decide +kernel
theorem dX6_layPlaces_158 : decode cX6_layPlaces 158 = .ok (.iload 4, 2) := by decide +kernel
theorem dX6_layPlaces_160 : decode cX6_layPlaces 160 = .ok (.iadd, 1) := by decide +kernel
theorem dX6_layPlaces_161 : decode cX6_layPlaces 161 = .ok (.iaload, 1) := by decide +kernel
theorem dX6_layPlaces_162 : decode cX6_layPlaces 162 = .ok (.ldc 98, 2) := by decide +kernel
theorem dX6_layPlaces_164 : decode cX6_layPlaces 164 = .ok (.if_icmp .ge 25, 3) := by decide +kernel
theorem dX6_layPlaces_167 : decode cX6_layPlaces 167 = .ok (.aload_n 0, 1) := by decide +kernel
theorem dX6_layPlaces_168 : decode cX6_layPlaces 168 = .ok (.getfield 39, 3) := by decide +kernel
theorem dX6_layPlaces_171 : decode cX6_layPlaces 171 = .ok (.bipush 11, 2) := by decide +kernel
theorem dX6_layPlaces_173 : decode cX6_layPlaces 173 = .ok (.aload_n 0, 1) := by decide +kernel
theorem dX6_layPlaces_174 : decode cX6_layPlaces 174 = .ok (.iload_n 2, 1) := by decide +kernel
theorem dX6_layPlaces_175 : decode cX6_layPlaces 175 = .ok (.iload_n 3, 1) := by decide +kernel
theorem dX6_layPlaces_176 : decode cX6_layPlaces 176 = .ok (.iload 4, 2) := by decide +kernel
theorem dX6_layPlaces_178 : decode cX6_layPlaces 178 = .ok (.invokevirtual 91, 3) := by decide +kernel
theorem dX6_layPlaces_181 : decode cX6_layPlaces 181 = .ok (.imul, 1) := by decide +kernel
theorem dX6_layPlaces_182 : decode cX6_layPlaces 182 = .ok (.iload_n 3, 1) := by decide +kernel
theorem dX6_layPlaces_183 : decode cX6_layPlaces 183 = .ok (.iadd, 1) := by decide +kernel
theorem dX6_layPlaces_184 : decode cX6_layPlaces 184 = .ok (.iload 4, 2) := by decide +kernel
theorem dX6_layPlaces_186 : decode cX6_layPlaces 186 = .ok (.iadd, 1) := by decide +kernel
theorem dX6_layPlaces_187 : decode cX6_layPlaces 187 = .ok (.iconst 1, 1) := by decide +kernel
theorem dX6_layPlaces_188 : decode cX6_layPlaces 188 = .ok (.bastore, 1) := by decide +kernel
theorem dX6_layPlaces_189 : decode cX6_layPlaces 189 = .ok (.iinc 4 1, 3) := by decide +kernel
theorem dX6_layPlaces_192 : decode cX6_layPlaces 192 = .ok (.goto (-106), 3) := by decide +kernel
theorem dX6_layPlaces_195 : decode cX6_layPlaces 195 = .ok (.iinc 3 1, 3) := by decide +kernel
theorem dX6_layPlaces_198 : decode cX6_layPlaces 198 = .ok (.goto (-143), 3) := by decide +kernel
theorem dX6_layPlaces_201 : decode cX6_layPlaces 201 = .ok (.iinc 2 1, 3) := by decide +kernel
theorem dX6_layPlaces_204 : decode cX6_layPlaces 204 = .ok (.goto (-161), 3) := by decide +kernel
theorem dX6_layPlaces_207 : decode cX6_layPlaces 207 = .ok (.iload_n 1, 1) := by decide +kernel
theorem dX6_layPlaces_208 : decode cX6_layPlaces 208 = .ok (.ireturn, 1) := by decide +kernel
theorem dX6_heaviest_0 : decode cX6_heaviest 0 = .ok (.aload_n 0, 1) := by decide +kernel
theorem dX6_heaviest_1 : decode cX6_heaviest 1 = .ok (.invokevirtual 139, 3) := by decide +kernel
theorem dX6_heaviest_4 : decode cX6_heaviest 4 = .ok (.ifCond .ne 5, 3) := by decide +kernel
theorem dX6_heaviest_7 : decode cX6_heaviest 7 = .ok (.iconst (-1), 1) := by decide +kernel
theorem dX6_heaviest_8 : decode cX6_heaviest 8 = .ok (.ireturn, 1) := by decide +kernel
theorem dX6_heaviest_9 : decode cX6_heaviest 9 = .ok (.iconst (-1), 1) := by decide +kernel
theorem dX6_heaviest_10 : decode cX6_heaviest 10 = .ok (.istore_n 1, 1) := by decide +kernel
theorem dX6_heaviest_11 : decode cX6_heaviest 11 = .ok (.iconst 0, 1) := by decide +kernel
theorem dX6_heaviest_12 : decode cX6_heaviest 12 = .ok (.istore_n 2, 1) := by decide +kernel
theorem dX6_heaviest_13 : decode cX6_heaviest 13 = .ok (.iconst 0, 1) := by decide +kernel
theorem dX6_heaviest_14 : decode cX6_heaviest 14 = .ok (.istore_n 3, 1) := by decide +kernel
theorem dX6_heaviest_15 : decode cX6_heaviest 15 = .ok (.iload_n 3, 1) := by decide +kernel
theorem dX6_heaviest_16 : decode cX6_heaviest 16 = .ok (.aload_n 0, 1) := by decide +kernel
theorem dX6_heaviest_17 : decode cX6_heaviest 17 = .ok (.getfield 7, 3) := by decide +kernel
theorem dX6_heaviest_20 : decode cX6_heaviest 20 = .ok (.bipush 6, 2) := by decide +kernel
theorem dX6_heaviest_22 : decode cX6_heaviest 22 = .ok (.iaload, 1) := by decide +kernel
theorem dX6_heaviest_23 : decode cX6_heaviest 23 = .ok (.if_icmp .ge 43, 3) := by decide +kernel
theorem dX6_heaviest_26 : decode cX6_heaviest 26 = .ok (.aload_n 0, 1) := by decide +kernel
theorem dX6_heaviest_27 : decode cX6_heaviest 27 = .ok (.iload_n 3, 1) := by decide +kernel
theorem dX6_heaviest_28 : decode cX6_heaviest 28 = .ok (.invokevirtual 143, 3) := by decide +kernel
theorem dX6_heaviest_31 : decode cX6_heaviest 31 = .ok (.iload_n 2, 1) := by decide +kernel
theorem dX6_heaviest_32 : decode cX6_heaviest 32 = .ok (.if_icmp .le 7, 3) := by decide +kernel
theorem dX6_heaviest_35 : decode cX6_heaviest 35 = .ok (.iload_n 3, 1) := by decide +kernel
theorem dX6_heaviest_36 : decode cX6_heaviest 36 = .ok (.goto 4, 3) := by decide +kernel
theorem dX6_heaviest_39 : decode cX6_heaviest 39 = .ok (.iload_n 1, 1) := by decide +kernel
theorem dX6_heaviest_40 : decode cX6_heaviest 40 = .ok (.istore_n 1, 1) := by decide +kernel
theorem dX6_heaviest_41 : decode cX6_heaviest 41 = .ok (.aload_n 0, 1) := by decide +kernel
theorem dX6_heaviest_42 : decode cX6_heaviest 42 = .ok (.iload_n 3, 1) := by decide +kernel
theorem dX6_heaviest_43 : decode cX6_heaviest 43 = .ok (.invokevirtual 143, 3) := by decide +kernel
theorem dX6_heaviest_46 : decode cX6_heaviest 46 = .ok (.iload_n 2, 1) := by decide +kernel
theorem dX6_heaviest_47 : decode cX6_heaviest 47 = .ok (.if_icmp .le 11, 3) := by decide +kernel
theorem dX6_heaviest_50 : decode cX6_heaviest 50 = .ok (.aload_n 0, 1) := by decide +kernel
theorem dX6_heaviest_51 : decode cX6_heaviest 51 = .ok (.iload_n 3, 1) := by decide +kernel
theorem dX6_heaviest_52 : decode cX6_heaviest 52 = .ok (.invokevirtual 143, 3) := by decide +kernel
theorem dX6_heaviest_55 : decode cX6_heaviest 55 = .ok (.goto 4, 3) := by decide +kernel
theorem dX6_heaviest_58 : decode cX6_heaviest 58 = .ok (.iload_n 2, 1) := by decide +kernel
theorem dX6_heaviest_59 : decode cX6_heaviest 59 = .ok (.istore_n 2, 1) := by decide +kernel
theorem dX6_heaviest_60 : decode cX6_heaviest 60 = .ok (.iinc 3 1, 3) := by decide +kernel
theorem dX6_heaviest_63 : decode cX6_heaviest 63 = .ok (.goto (-48), 3) := by decide +kernel
theorem dX6_heaviest_66 : decode cX6_heaviest 66 = .ok (.iload_n 1, 1) := by decide +kernel
theorem dX6_heaviest_67 : decode cX6_heaviest 67 = .ok (.ireturn, 1) := by decide +kernel
theorem dX6_note_0 : decode cX6_note 0 = .ok (.aload_n 0, 1) := by decide +kernel
theorem dX6_note_1 : decode cX6_note 1 = .ok (.getfield 146, 3) := by decide +kernel
theorem dX6_note_4 : decode cX6_note 4 = .ok (.bipush 6, 2) := by decide +kernel
theorem dX6_note_6 : decode cX6_note 6 = .ok (.if_icmp .ne 30, 3) := by decide +kernel
theorem dX6_note_9 : decode cX6_note 9 = .ok (.aload_n 0, 1) := by decide +kernel
theorem dX6_note_10 : decode cX6_note 10 = .ok (.getfield 16, 3) := by decide +kernel
theorem dX6_note_13 : decode cX6_note 13 = .ok (.bipush 47, 2) := by decide +kernel
theorem dX6_note_15 : decode cX6_note 15 = .ok (.aload_n 0, 1) := by decide +kernel
theorem dX6_note_16 : decode cX6_note 16 = .ok (.getfield 16, 3) := by decide +kernel
theorem dX6_note_19 : decode cX6_note 19 = .ok (.iconst 0, 1) := by decide +kernel
theorem dX6_note_20 : decode cX6_note 20 = .ok (.sipush 235, 3) := by decide +kernel
theorem dX6_note_23 : decode cX6_note 23 = .ok (.invokestatic 149, 3) := by decide +kernel
theorem dX6_note_26 : decode cX6_note 26 = .ok (.aload_n 0, 1) := by decide +kernel
theorem dX6_note_27 : decode cX6_note 27 = .ok (.dup, 1) := by decide +kernel
theorem dX6_note_28 : decode cX6_note 28 = .ok (.getfield 146, 3) := by decide +kernel
theorem dX6_note_31 : decode cX6_note 31 = .ok (.iconst 1, 1) := by decide +kernel
theorem dX6_note_32 : decode cX6_note 32 = .ok (.isub, 1) := by decide +kernel
theorem dX6_note_33 : decode cX6_note 33 = .ok (.putfield 146, 3) := by decide +kernel
theorem dX6_note_36 : decode cX6_note 36 = .ok (.aload_n 0, 1) := by decide +kernel
theorem dX6_note_37 : decode cX6_note 37 = .ok (.getfield 7, 3) := by decide +kernel
theorem dX6_note_40 : decode cX6_note 40 = .ok (.iconst 0, 1) := by decide +kernel
theorem dX6_note_41 : decode cX6_note 41 = .ok (.aload_n 0, 1) := by decide +kernel
theorem dX6_note_42 : decode cX6_note 42 = .ok (.getfield 16, 3) := by decide +kernel
theorem dX6_note_45 : decode cX6_note 45 = .ok (.bipush 47, 2) := by decide +kernel
theorem dX6_note_47 : decode cX6_note 47 = .ok (.aload_n 0, 1) := by decide +kernel
theorem dX6_note_48 : decode cX6_note 48 = .ok (.getfield 146, 3) := by decide +kernel
theorem dX6_note_51 : decode cX6_note 51 = .ok (.imul, 1) := by decide +kernel
theorem dX6_note_52 : decode cX6_note 52 = .ok (.bipush 47, 2) := by decide +kernel
theorem dX6_note_54 : decode cX6_note 54 = .ok (.invokestatic 149, 3) := by decide +kernel
theorem dX6_note_57 : decode cX6_note 57 = .ok (.aload_n 0, 1) := by decide +kernel
theorem dX6_note_58 : decode cX6_note 58 = .ok (.dup, 1) := by decide +kernel
theorem dX6_note_59 : decode cX6_note 59 = .ok (.getfield 146, 3) := by decide +kernel
theorem dX6_note_62 : decode cX6_note 62 = .ok (.iconst 1, 1) := by decide +kernel
theorem dX6_note_63 : decode cX6_note 63 = .ok (.iadd, 1) := by decide +kernel
theorem dX6_note_64 : decode cX6_note 64 = .ok (.putfield 146, 3) := by decide +kernel
theorem dX6_note_67 : decode cX6_note 67 = .ok (.return_, 1) := by decide +kernel
theorem dX6_isBound_0 : decode cX6_isBound 0 = .ok (.iload_n 1, 1) := by decide +kernel
theorem dX6_isBound_1 : decode cX6_isBound 1 = .ok (.tableswitch 78 0 4 #[35, 43, 52, 59, 71], 35) := by decide +kernel
theorem dX6_isBound_36 : decode cX6_isBound 36 = .ok (.iload_n 2, 1) := by decide +kernel
theorem dX6_isBound_37 : decode cX6_isBound 37 = .ok (.iconst 0, 1) := by decide +kernel
theorem dX6_isBound_38 : decode cX6_isBound 38 = .ok (.bipush 120, 2) := by decide +kernel
theorem dX6_isBound_40 : decode cX6_isBound 40 = .ok (.invokestatic 51, 3) := by decide +kernel
theorem dX6_isBound_43 : decode cX6_isBound 43 = .ok (.ireturn, 1) := by decide +kernel
theorem dX6_isBound_44 : decode cX6_isBound 44 = .ok (.iload_n 2, 1) := by decide +kernel
theorem dX6_isBound_45 : decode cX6_isBound 45 = .ok (.bipush 6, 2) := by decide +kernel
theorem dX6_isBound_47 : decode cX6_isBound 47 = .ok (.bipush 40, 2) := by decide +kernel
theorem dX6_isBound_49 : decode cX6_isBound 49 = .ok (.invokestatic 51, 3) := by decide +kernel
theorem dX6_isBound_52 : decode cX6_isBound 52 = .ok (.ireturn, 1) := by decide +kernel
theorem dX6_isBound_53 : decode cX6_isBound 53 = .ok (.iload_n 2, 1) := by decide +kernel
theorem dX6_isBound_54 : decode cX6_isBound 54 = .ok (.iconst 1, 1) := by decide +kernel
theorem dX6_isBound_55 : decode cX6_isBound 55 = .ok (.iconst 2, 1) := by decide +kernel
theorem dX6_isBound_56 : decode cX6_isBound 56 = .ok (.invokestatic 51, 3) := by decide +kernel
theorem dX6_isBound_59 : decode cX6_isBound 59 = .ok (.ireturn, 1) := by decide +kernel
theorem dX6_isBound_60 : decode cX6_isBound 60 = .ok (.iload_n 2, 1) := by decide +kernel
theorem dX6_isBound_61 : decode cX6_isBound 61 = .ok (.iconst 0, 1) := by decide +kernel
theorem dX6_isBound_62 : decode cX6_isBound 62 = .ok (.aload_n 0, 1) := by decide +kernel
theorem dX6_isBound_63 : decode cX6_isBound 63 = .ok (.getfield 7, 3) := by decide +kernel
theorem dX6_isBound_66 : decode cX6_isBound 66 = .ok (.iconst 1, 1) := by decide +kernel
theorem dX6_isBound_67 : decode cX6_isBound 67 = .ok (.iaload, 1) := by decide +kernel
theorem dX6_isBound_68 : decode cX6_isBound 68 = .ok (.invokestatic 51, 3) := by decide +kernel
theorem dX6_isBound_71 : decode cX6_isBound 71 = .ok (.ireturn, 1) := by decide +kernel
theorem dX6_isBound_72 : decode cX6_isBound 72 = .ok (.iload_n 2, 1) := by decide +kernel
theorem dX6_isBound_73 : decode cX6_isBound 73 = .ok (.iconst 1, 1) := by decide +kernel
theorem dX6_isBound_74 : decode cX6_isBound 74 = .ok (.iconst 4, 1) := by decide +kernel
theorem dX6_isBound_75 : decode cX6_isBound 75 = .ok (.invokestatic 51, 3) := by decide +kernel
theorem dX6_isBound_78 : decode cX6_isBound 78 = .ok (.ireturn, 1) := by decide +kernel
theorem dX6_isBound_79 : decode cX6_isBound 79 = .ok (.iload_n 2, 1) := by decide +kernel
theorem dX6_isBound_80 : decode cX6_isBound 80 = .ok (.iconst 0, 1) := by decide +kernel
theorem dX6_isBound_81 : decode cX6_isBound 81 = .ok (.iconst 1, 1) := by decide +kernel
theorem dX6_isBound_82 : decode cX6_isBound 82 = .ok (.invokestatic 51, 3) := by decide +kernel
theorem dX6_isBound_85 : decode cX6_isBound 85 = .ok (.ireturn, 1) := by decide +kernel
theorem dX6_layout_0 : decode cX6_layout 0 = .ok (.iload_n 1, 1) := by decide +kernel
theorem dX6_layout_1 : decode cX6_layout 1 = .ok (.iconst 0, 1) := by decide +kernel
theorem dX6_layout_2 : decode cX6_layout 2 = .ok (.iconst 5, 1) := by decide +kernel
theorem dX6_layout_3 : decode cX6_layout 3 = .ok (.invokestatic 51, 3) := by decide +kernel
theorem dX6_layout_6 : decode cX6_layout 6 = .ok (.ifCond .eq 12, 3) := by decide +kernel
theorem dX6_layout_9 : decode cX6_layout 9 = .ok (.aload_n 0, 1) := by decide +kernel
theorem dX6_layout_10 : decode cX6_layout 10 = .ok (.iload_n 1, 1) := by decide +kernel
theorem dX6_layout_11 : decode cX6_layout 11 = .ok (.iload_n 2, 1) := by decide +kernel
theorem dX6_layout_12 : decode cX6_layout 12 = .ok (.invokevirtual 153, 3) := by decide +kernel
theorem dX6_layout_15 : decode cX6_layout 15 = .ok (.ifCond .ne 6, 3) := by decide +kernel
theorem dX6_layout_18 : decode cX6_layout 18 = .ok (.ldc 156, 2) := by decide +kernel
theorem dX6_layout_20 : decode cX6_layout 20 = .ok (.ireturn, 1) := by decide +kernel
theorem dX6_layout_21 : decode cX6_layout 21 = .ok (.aload_n 0, 1) := by decide +kernel
theorem dX6_layout_22 : decode cX6_layout 22 = .ok (.invokevirtual 157, 3) := by decide +kernel
theorem dX6_layout_25 : decode cX6_layout 25 = .ok (.aload_n 0, 1) := by decide +kernel
theorem dX6_layout_26 : decode cX6_layout 26 = .ok (.getfield 7, 3) := by decide +kernel
theorem dX6_layout_29 : decode cX6_layout 29 = .ok (.iload_n 1, 1) := by decide +kernel
theorem dX6_layout_30 : decode cX6_layout 30 = .ok (.iaload, 1) := by decide +kernel
theorem dX6_layout_31 : decode cX6_layout 31 = .ok (.istore_n 3, 1) := by decide +kernel
theorem dX6_layout_32 : decode cX6_layout 32 = .ok (.aload_n 0, 1) := by decide +kernel
theorem dX6_layout_33 : decode cX6_layout 33 = .ok (.getfield 7, 3) := by decide +kernel
theorem dX6_layout_36 : decode cX6_layout 36 = .ok (.iload_n 1, 1) := by decide +kernel
theorem dX6_layout_37 : decode cX6_layout 37 = .ok (.iload_n 2, 1) := by decide +kernel
theorem dX6_layout_38 : decode cX6_layout 38 = .ok (.iastore, 1) := by decide +kernel
theorem dX6_layout_39 : decode cX6_layout 39 = .ok (.aload_n 0, 1) := by decide +kernel
theorem dX6_layout_40 : decode cX6_layout 40 = .ok (.getfield 7, 3) := by decide +kernel
theorem dX6_layout_43 : decode cX6_layout 43 = .ok (.iconst 3, 1) := by decide +kernel
theorem dX6_layout_44 : decode cX6_layout 44 = .ok (.aload_n 0, 1) := by decide +kernel
theorem dX6_layout_45 : decode cX6_layout 45 = .ok (.getfield 7, 3) := by decide +kernel
theorem dX6_layout_48 : decode cX6_layout 48 = .ok (.iconst 3, 1) := by decide +kernel
theorem dX6_layout_49 : decode cX6_layout 49 = .ok (.iaload, 1) := by decide +kernel
theorem dX6_layout_50 : decode cX6_layout 50 = .ok (.aload_n 0, 1) := by decide +kernel
theorem dX6_layout_51 : decode cX6_layout 51 = .ok (.getfield 7, 3) := by decide +kernel
theorem dX6_layout_54 : decode cX6_layout 54 = .ok (.iconst 1, 1) := by decide +kernel
theorem dX6_layout_55 : decode cX6_layout 55 = .ok (.iaload, 1) := by decide +kernel
theorem dX6_layout_56 : decode cX6_layout 56 = .ok (.if_icmp .le 12, 3) := by decide +kernel
theorem dX6_layout_59 : decode cX6_layout 59 = .ok (.aload_n 0, 1) := by decide +kernel
theorem dX6_layout_60 : decode cX6_layout 60 = .ok (.getfield 7, 3) := by decide +kernel
theorem dX6_layout_63 : decode cX6_layout 63 = .ok (.iconst 1, 1) := by decide +kernel
theorem dX6_layout_64 : decode cX6_layout 64 = .ok (.iaload, 1) := by decide +kernel
theorem dX6_layout_65 : decode cX6_layout 65 = .ok (.goto 9, 3) := by decide +kernel
theorem dX6_layout_68 : decode cX6_layout 68 = .ok (.aload_n 0, 1) := by decide +kernel
theorem dX6_layout_69 : decode cX6_layout 69 = .ok (.getfield 7, 3) := by decide +kernel
theorem dX6_layout_72 : decode cX6_layout 72 = .ok (.iconst 3, 1) := by decide +kernel
theorem dX6_layout_73 : decode cX6_layout 73 = .ok (.iaload, 1) := by decide +kernel
theorem dX6_layout_74 : decode cX6_layout 74 = .ok (.iastore, 1) := by decide +kernel
theorem dX6_layout_75 : decode cX6_layout 75 = .ok (.iload_n 3, 1) := by decide +kernel
theorem dX6_layout_76 : decode cX6_layout 76 = .ok (.ireturn, 1) := by decide +kernel
theorem dX6_insert_0 : decode cX6_insert 0 = .ok (.iconst 4, 1) := by decide +kernel
theorem dX6_insert_1 : decode cX6_insert 1 = .ok (.aload_n 0, 1) := by decide +kernel
theorem dX6_insert_2 : decode cX6_insert 2 = .ok (.getfield 7, 3) := by decide +kernel
theorem dX6_insert_5 : decode cX6_insert 5 = .ok (.bipush 6, 2) := by decide +kernel
theorem dX6_insert_7 : decode cX6_insert 7 = .ok (.iaload, 1) := by decide +kernel
theorem dX6_insert_8 : decode cX6_insert 8 = .ok (.imul, 1) := by decide +kernel
theorem dX6_insert_9 : decode cX6_insert 9 = .ok (.iconst 1, 1) := by decide +kernel
theorem dX6_insert_10 : decode cX6_insert 10 = .ok (.isub, 1) := by decide +kernel
theorem dX6_insert_11 : decode cX6_insert 11 = .ok (.istore 6, 2) := by decide +kernel
theorem dX6_insert_13 : decode cX6_insert 13 = .ok (.iload 6, 2) := by decide +kernel
theorem dX6_insert_15 : decode cX6_insert 15 = .ok (.iconst 4, 1) := by decide +kernel
theorem dX6_insert_16 : decode cX6_insert 16 = .ok (.iload_n 1, 1) := by decide +kernel
theorem dX6_insert_17 : decode cX6_insert 17 = .ok (.imul, 1) := by decide +kernel
theorem dX6_insert_18 : decode cX6_insert 18 = .ok (.if_icmp .lt 29, 3) := by decide +kernel
theorem dX6_insert_21 : decode cX6_insert 21 = .ok (.aload_n 0, 1) := by decide +kernel
theorem dX6_insert_22 : decode cX6_insert 22 = .ok (.getfield 7, 3) := by decide +kernel
theorem dX6_insert_25 : decode cX6_insert 25 = .ok (.bipush 11, 2) := by decide +kernel
theorem dX6_insert_27 : decode cX6_insert 27 = .ok (.iload 6, 2) := by decide +kernel
theorem dX6_insert_29 : decode cX6_insert 29 = .ok (.iadd, 1) := by decide +kernel
theorem dX6_insert_30 : decode cX6_insert 30 = .ok (.aload_n 0, 1) := by decide +kernel
theorem dX6_insert_31 : decode cX6_insert 31 = .ok (.getfield 7, 3) := by decide +kernel
theorem dX6_insert_34 : decode cX6_insert 34 = .ok (.bipush 7, 2) := by decide +kernel
theorem dX6_insert_36 : decode cX6_insert 36 = .ok (.iload 6, 2) := by decide +kernel
theorem dX6_insert_38 : decode cX6_insert 38 = .ok (.iadd, 1) := by decide +kernel
theorem dX6_insert_39 : decode cX6_insert 39 = .ok (.iaload, 1) := by decide +kernel
theorem dX6_insert_40 : decode cX6_insert 40 = .ok (.iastore, 1) := by decide +kernel
theorem dX6_insert_41 : decode cX6_insert 41 = .ok (.iinc 6 (-1), 3) := by decide +kernel
theorem dX6_insert_44 : decode cX6_insert 44 = .ok (.goto (-31), 3) := by decide +kernel
theorem dX6_insert_47 : decode cX6_insert 47 = .ok (.aload_n 0, 1) := by decide +kernel
theorem dX6_insert_48 : decode cX6_insert 48 = .ok (.getfield 7, 3) := by decide +kernel
theorem dX6_insert_51 : decode cX6_insert 51 = .ok (.bipush 7, 2) := by decide +kernel
theorem dX6_insert_53 : decode cX6_insert 53 = .ok (.iconst 4, 1) := by decide +kernel
theorem dX6_insert_54 : decode cX6_insert 54 = .ok (.iload_n 1, 1) := by decide +kernel
theorem dX6_insert_55 : decode cX6_insert 55 = .ok (.imul, 1) := by decide +kernel
theorem dX6_insert_56 : decode cX6_insert 56 = .ok (.iadd, 1) := by decide +kernel
theorem dX6_insert_57 : decode cX6_insert 57 = .ok (.iload_n 2, 1) := by decide +kernel
theorem dX6_insert_58 : decode cX6_insert 58 = .ok (.iastore, 1) := by decide +kernel
theorem dX6_insert_59 : decode cX6_insert 59 = .ok (.aload_n 0, 1) := by decide +kernel
theorem dX6_insert_60 : decode cX6_insert 60 = .ok (.getfield 7, 3) := by decide +kernel
theorem dX6_insert_63 : decode cX6_insert 63 = .ok (.bipush 7, 2) := by decide +kernel
theorem dX6_insert_65 : decode cX6_insert 65 = .ok (.iconst 4, 1) := by decide +kernel
theorem dX6_insert_66 : decode cX6_insert 66 = .ok (.iload_n 1, 1) := by decide +kernel
theorem dX6_insert_67 : decode cX6_insert 67 = .ok (.imul, 1) := by decide +kernel
theorem dX6_insert_68 : decode cX6_insert 68 = .ok (.iadd, 1) := by decide +kernel
theorem dX6_insert_69 : decode cX6_insert 69 = .ok (.iconst 1, 1) := by decide +kernel
theorem dX6_insert_70 : decode cX6_insert 70 = .ok (.iadd, 1) := by decide +kernel
theorem dX6_insert_71 : decode cX6_insert 71 = .ok (.iload_n 3, 1) := by decide +kernel
theorem dX6_insert_72 : decode cX6_insert 72 = .ok (.iastore, 1) := by decide +kernel
theorem dX6_insert_73 : decode cX6_insert 73 = .ok (.aload_n 0, 1) := by decide +kernel
theorem dX6_insert_74 : decode cX6_insert 74 = .ok (.getfield 7, 3) := by decide +kernel
theorem dX6_insert_77 : decode cX6_insert 77 = .ok (.bipush 7, 2) := by decide +kernel
theorem dX6_insert_79 : decode cX6_insert 79 = .ok (.iconst 4, 1) := by decide +kernel
theorem dX6_insert_80 : decode cX6_insert 80 = .ok (.iload_n 1, 1) := by decide +kernel
theorem dX6_insert_81 : decode cX6_insert 81 = .ok (.imul, 1) := by decide +kernel
theorem dX6_insert_82 : decode cX6_insert 82 = .ok (.iadd, 1) := by decide +kernel
theorem dX6_insert_83 : decode cX6_insert 83 = .ok (.iconst 2, 1) := by decide +kernel
theorem dX6_insert_84 : decode cX6_insert 84 = .ok (.iadd, 1) := by decide +kernel
theorem dX6_insert_85 : decode cX6_insert 85 = .ok (.iload 4, 2) := by decide +kernel
theorem dX6_insert_87 : decode cX6_insert 87 = .ok (.iastore, 1) := by decide +kernel
theorem dX6_insert_88 : decode cX6_insert 88 = .ok (.aload_n 0, 1) := by decide +kernel
theorem dX6_insert_89 : decode cX6_insert 89 = .ok (.getfield 7, 3) := by decide +kernel
theorem dX6_insert_92 : decode cX6_insert 92 = .ok (.bipush 7, 2) := by decide +kernel
theorem dX6_insert_94 : decode cX6_insert 94 = .ok (.iconst 4, 1) := by decide +kernel
theorem dX6_insert_95 : decode cX6_insert 95 = .ok (.iload_n 1, 1) := by decide +kernel
theorem dX6_insert_96 : decode cX6_insert 96 = .ok (.imul, 1) := by decide +kernel
theorem dX6_insert_97 : decode cX6_insert 97 = .ok (.iadd, 1) := by decide +kernel
theorem dX6_insert_98 : decode cX6_insert 98 = .ok (.iconst 3, 1) := by decide +kernel
theorem dX6_insert_99 : decode cX6_insert 99 = .ok (.iadd, 1) := by decide +kernel
theorem dX6_insert_100 : decode cX6_insert 100 = .ok (.iload 5, 2) := by decide +kernel
theorem dX6_insert_102 : decode cX6_insert 102 = .ok (.iastore, 1) := by decide +kernel
theorem dX6_insert_103 : decode cX6_insert 103 = .ok (.aload_n 0, 1) := by decide +kernel
theorem dX6_insert_104 : decode cX6_insert 104 = .ok (.getfield 7, 3) := by decide +kernel
theorem dX6_insert_107 : decode cX6_insert 107 = .ok (.bipush 6, 2) := by decide +kernel
theorem dX6_insert_109 : decode cX6_insert 109 = .ok (.dup2, 1) := by decide +kernel
theorem dX6_insert_110 : decode cX6_insert 110 = .ok (.iaload, 1) := by decide +kernel
theorem dX6_insert_111 : decode cX6_insert 111 = .ok (.iconst 1, 1) := by decide +kernel
theorem dX6_insert_112 : decode cX6_insert 112 = .ok (.iadd, 1) := by decide +kernel
theorem dX6_insert_113 : decode cX6_insert 113 = .ok (.iastore, 1) := by decide +kernel
theorem dX6_insert_114 : decode cX6_insert 114 = .ok (.return_, 1) := by decide +kernel
theorem dX6_figure_0 : decode cX6_figure 0 = .ok (.iload_n 1, 1) := by decide +kernel
theorem dX6_figure_1 : decode cX6_figure 1 = .ok (.iconst 0, 1) := by decide +kernel
theorem dX6_figure_2 : decode cX6_figure 2 = .ok (.aload_n 0, 1) := by decide +kernel
theorem dX6_figure_3 : decode cX6_figure 3 = .ok (.getfield 7, 3) := by decide +kernel
theorem dX6_figure_6 : decode cX6_figure 6 = .ok (.bipush 6, 2) := by decide +kernel
theorem dX6_figure_8 : decode cX6_figure 8 = .ok (.iaload, 1) := by decide +kernel
theorem dX6_figure_9 : decode cX6_figure 9 = .ok (.invokestatic 51, 3) := by decide +kernel
theorem dX6_figure_12 : decode cX6_figure 12 = .ok (.ifCond .eq 44, 3) := by decide +kernel
theorem dX6_figure_15 : decode cX6_figure 15 = .ok (.iload_n 2, 1) := by decide +kernel
theorem dX6_figure_16 : decode cX6_figure 16 = .ok (.iconst 1, 1) := by decide +kernel
theorem dX6_figure_17 : decode cX6_figure 17 = .ok (.bipush 40, 2) := by decide +kernel
theorem dX6_figure_19 : decode cX6_figure 19 = .ok (.invokestatic 51, 3) := by decide +kernel
theorem dX6_figure_22 : decode cX6_figure 22 = .ok (.ifCond .eq 34, 3) := by decide +kernel
theorem dX6_figure_25 : decode cX6_figure 25 = .ok (.iload_n 3, 1) := by decide +kernel
theorem dX6_figure_26 : decode cX6_figure 26 = .ok (.iconst 0, 1) := by decide +kernel
theorem dX6_figure_27 : decode cX6_figure 27 = .ok (.iconst 1, 1) := by decide +kernel
theorem dX6_figure_28 : decode cX6_figure 28 = .ok (.invokestatic 51, 3) := by decide +kernel
theorem dX6_figure_31 : decode cX6_figure 31 = .ok (.ifCond .eq 25, 3) := by decide +kernel
theorem dX6_figure_34 : decode cX6_figure 34 = .ok (.iload 4, 2) := by decide +kernel
theorem dX6_figure_36 : decode cX6_figure 36 = .ok (.iconst 0, 1) := by decide +kernel
theorem dX6_figure_37 : decode cX6_figure 37 = .ok (.bipush 119, 2) := by decide +kernel
theorem dX6_figure_39 : decode cX6_figure 39 = .ok (.invokestatic 51, 3) := by decide +kernel
theorem dX6_figure_42 : decode cX6_figure 42 = .ok (.ifCond .eq 14, 3) := by decide +kernel
theorem dX6_figure_45 : decode cX6_figure 45 = .ok (.iload 5, 2) := by decide +kernel
theorem dX6_figure_47 : decode cX6_figure 47 = .ok (.iconst 1, 1) := by decide +kernel
theorem dX6_figure_48 : decode cX6_figure 48 = .ok (.bipush 9, 2) := by decide +kernel
theorem dX6_figure_50 : decode cX6_figure 50 = .ok (.invokestatic 51, 3) := by decide +kernel
theorem dX6_figure_53 : decode cX6_figure 53 = .ok (.ifCond .ne 6, 3) := by decide +kernel
theorem dX6_figure_56 : decode cX6_figure 56 = .ok (.ldc 156, 2) := by decide +kernel
theorem dX6_figure_58 : decode cX6_figure 58 = .ok (.ireturn, 1) := by decide +kernel
theorem dX6_figure_59 : decode cX6_figure 59 = .ok (.aload_n 0, 1) := by decide +kernel
theorem dX6_figure_60 : decode cX6_figure 60 = .ok (.getfield 7, 3) := by decide +kernel
theorem dX6_figure_63 : decode cX6_figure 63 = .ok (.bipush 6, 2) := by decide +kernel
theorem dX6_figure_65 : decode cX6_figure 65 = .ok (.iaload, 1) := by decide +kernel
theorem dX6_figure_66 : decode cX6_figure 66 = .ok (.bipush 10, 2) := by decide +kernel
theorem dX6_figure_68 : decode cX6_figure 68 = .ok (.if_icmp .ne 6, 3) := by decide +kernel
theorem dX6_figure_71 : decode cX6_figure 71 = .ok (.ldc 160, 2) := by decide +kernel
theorem dX6_figure_73 : decode cX6_figure 73 = .ok (.ireturn, 1) := by decide +kernel
theorem dX6_figure_74 : decode cX6_figure 74 = .ok (.aload_n 0, 1) := by decide +kernel
theorem dX6_figure_75 : decode cX6_figure 75 = .ok (.invokevirtual 157, 3) := by decide +kernel
theorem dX6_figure_78 : decode cX6_figure 78 = .ok (.aload_n 0, 1) := by decide +kernel
theorem dX6_figure_79 : decode cX6_figure 79 = .ok (.iload_n 1, 1) := by decide +kernel
theorem dX6_figure_80 : decode cX6_figure 80 = .ok (.iload_n 2, 1) := by decide +kernel
theorem dX6_figure_81 : decode cX6_figure 81 = .ok (.iload_n 3, 1) := by decide +kernel
theorem dX6_figure_82 : decode cX6_figure 82 = .ok (.iload 4, 2) := by decide +kernel
theorem dX6_figure_84 : decode cX6_figure 84 = .ok (.iload 5, 2) := by decide +kernel
theorem dX6_figure_86 : decode cX6_figure 86 = .ok (.invokevirtual 161, 3) := by decide +kernel
theorem dX6_figure_89 : decode cX6_figure 89 = .ok (.aload_n 0, 1) := by decide +kernel
theorem dX6_figure_90 : decode cX6_figure 90 = .ok (.getfield 7, 3) := by decide +kernel
theorem dX6_figure_93 : decode cX6_figure 93 = .ok (.bipush 6, 2) := by decide +kernel
theorem dX6_figure_95 : decode cX6_figure 95 = .ok (.iaload, 1) := by decide +kernel
theorem dX6_figure_96 : decode cX6_figure 96 = .ok (.ireturn, 1) := by decide +kernel
theorem dX6_remove_0 : decode cX6_remove 0 = .ok (.aload_n 0, 1) := by decide +kernel
theorem dX6_remove_1 : decode cX6_remove 1 = .ok (.getfield 7, 3) := by decide +kernel
theorem dX6_remove_4 : decode cX6_remove 4 = .ok (.bipush 6, 2) := by decide +kernel
theorem dX6_remove_6 : decode cX6_remove 6 = .ok (.dup2, 1) := by decide +kernel
theorem dX6_remove_7 : decode cX6_remove 7 = .ok (.iaload, 1) := by decide +kernel
theorem dX6_remove_8 : decode cX6_remove 8 = .ok (.iconst 1, 1) := by decide +kernel
theorem dX6_remove_9 : decode cX6_remove 9 = .ok (.isub, 1) := by decide +kernel
theorem dX6_remove_10 : decode cX6_remove 10 = .ok (.iastore, 1) := by decide +kernel
theorem dX6_remove_11 : decode cX6_remove 11 = .ok (.aload_n 0, 1) := by decide +kernel
theorem dX6_remove_12 : decode cX6_remove 12 = .ok (.getfield 7, 3) := by decide +kernel
theorem dX6_remove_15 : decode cX6_remove 15 = .ok (.bipush 7, 2) := by decide +kernel
theorem dX6_remove_17 : decode cX6_remove 17 = .ok (.iconst 4, 1) := by decide +kernel
theorem dX6_remove_18 : decode cX6_remove 18 = .ok (.iload_n 1, 1) := by decide +kernel
theorem dX6_remove_19 : decode cX6_remove 19 = .ok (.imul, 1) := by decide +kernel
theorem dX6_remove_20 : decode cX6_remove 20 = .ok (.iadd, 1) := by decide +kernel
theorem dX6_remove_21 : decode cX6_remove 21 = .ok (.iconst 4, 1) := by decide +kernel
theorem dX6_remove_22 : decode cX6_remove 22 = .ok (.iadd, 1) := by decide +kernel
theorem dX6_remove_23 : decode cX6_remove 23 = .ok (.aload_n 0, 1) := by decide +kernel
theorem dX6_remove_24 : decode cX6_remove 24 = .ok (.getfield 7, 3) := by decide +kernel
theorem dX6_remove_27 : decode cX6_remove 27 = .ok (.bipush 7, 2) := by decide +kernel
theorem dX6_remove_29 : decode cX6_remove 29 = .ok (.iconst 4, 1) := by decide +kernel
theorem dX6_remove_30 : decode cX6_remove 30 = .ok (.iload_n 1, 1) := by decide +kernel
theorem dX6_remove_31 : decode cX6_remove 31 = .ok (.imul, 1) := by decide +kernel
theorem dX6_remove_32 : decode cX6_remove 32 = .ok (.iadd, 1) := by decide +kernel
theorem dX6_remove_33 : decode cX6_remove 33 = .ok (.iconst 4, 1) := by decide +kernel
theorem dX6_remove_34 : decode cX6_remove 34 = .ok (.aload_n 0, 1) := by decide +kernel
theorem dX6_remove_35 : decode cX6_remove 35 = .ok (.getfield 7, 3) := by decide +kernel
theorem dX6_remove_38 : decode cX6_remove 38 = .ok (.bipush 6, 2) := by decide +kernel
theorem dX6_remove_40 : decode cX6_remove 40 = .ok (.iaload, 1) := by decide +kernel
theorem dX6_remove_41 : decode cX6_remove 41 = .ok (.iload_n 1, 1) := by decide +kernel
theorem dX6_remove_42 : decode cX6_remove 42 = .ok (.isub, 1) := by decide +kernel
theorem dX6_remove_43 : decode cX6_remove 43 = .ok (.imul, 1) := by decide +kernel
theorem dX6_remove_44 : decode cX6_remove 44 = .ok (.invokestatic 149, 3) := by decide +kernel
theorem dX6_remove_47 : decode cX6_remove 47 = .ok (.iconst 0, 1) := by decide +kernel
theorem dX6_remove_48 : decode cX6_remove 48 = .ok (.istore_n 2, 1) := by decide +kernel
theorem dX6_remove_49 : decode cX6_remove 49 = .ok (.iload_n 2, 1) := by decide +kernel
theorem dX6_remove_50 : decode cX6_remove 50 = .ok (.iconst 4, 1) := by decide +kernel
theorem dX6_remove_51 : decode cX6_remove 51 = .ok (.if_icmp .ge 29, 3) := by decide +kernel
theorem dX6_remove_54 : decode cX6_remove 54 = .ok (.aload_n 0, 1) := by decide +kernel
theorem dX6_remove_55 : decode cX6_remove 55 = .ok (.getfield 7, 3) := by decide +kernel
theorem dX6_remove_58 : decode cX6_remove 58 = .ok (.bipush 7, 2) := by decide +kernel
theorem dX6_remove_60 : decode cX6_remove 60 = .ok (.iconst 4, 1) := by decide +kernel
theorem dX6_remove_61 : decode cX6_remove 61 = .ok (.aload_n 0, 1) := by decide +kernel
theorem dX6_remove_62 : decode cX6_remove 62 = .ok (.getfield 7, 3) := by decide +kernel
theorem dX6_remove_65 : decode cX6_remove 65 = .ok (.bipush 6, 2) := by decide +kernel
theorem dX6_remove_67 : decode cX6_remove 67 = .ok (.iaload, 1) := by decide +kernel
theorem dX6_remove_68 : decode cX6_remove 68 = .ok (.imul, 1) := by decide +kernel
theorem dX6_remove_69 : decode cX6_remove 69 = .ok (.iadd, 1) := by decide +kernel
theorem dX6_remove_70 : decode cX6_remove 70 = .ok (.iload_n 2, 1) := by decide +kernel
theorem dX6_remove_71 : decode cX6_remove 71 = .ok (.iadd, 1) := by decide +kernel
theorem dX6_remove_72 : decode cX6_remove 72 = .ok (.iconst 0, 1) := by decide +kernel
theorem dX6_remove_73 : decode cX6_remove 73 = .ok (.iastore, 1) := by decide +kernel
theorem dX6_remove_74 : decode cX6_remove 74 = .ok (.iinc 2 1, 3) := by decide +kernel
theorem dX6_remove_77 : decode cX6_remove 77 = .ok (.goto (-28), 3) := by decide +kernel
theorem dX6_remove_80 : decode cX6_remove 80 = .ok (.return_, 1) := by decide +kernel
theorem dX6_drop_0 : decode cX6_drop 0 = .ok (.aload_n 0, 1) := by decide +kernel
theorem dX6_drop_1 : decode cX6_drop 1 = .ok (.iload_n 1, 1) := by decide +kernel
theorem dX6_drop_2 : decode cX6_drop 2 = .ok (.invokevirtual 165, 3) := by decide +kernel
theorem dX6_drop_5 : decode cX6_drop 5 = .ok (.ifCond .ne 6, 3) := by decide +kernel
theorem dX6_drop_8 : decode cX6_drop 8 = .ok (.ldc 168, 2) := by decide +kernel
theorem dX6_drop_10 : decode cX6_drop 10 = .ok (.ireturn, 1) := by decide +kernel
theorem dX6_drop_11 : decode cX6_drop 11 = .ok (.aload_n 0, 1) := by decide +kernel
theorem dX6_drop_12 : decode cX6_drop 12 = .ok (.invokevirtual 157, 3) := by decide +kernel
theorem dX6_drop_15 : decode cX6_drop 15 = .ok (.aload_n 0, 1) := by decide +kernel
theorem dX6_drop_16 : decode cX6_drop 16 = .ok (.iload_n 1, 1) := by decide +kernel
theorem dX6_drop_17 : decode cX6_drop 17 = .ok (.invokevirtual 169, 3) := by decide +kernel
theorem dX6_drop_20 : decode cX6_drop 20 = .ok (.aload_n 0, 1) := by decide +kernel
theorem dX6_drop_21 : decode cX6_drop 21 = .ok (.getfield 7, 3) := by decide +kernel
theorem dX6_drop_24 : decode cX6_drop 24 = .ok (.bipush 6, 2) := by decide +kernel
theorem dX6_drop_26 : decode cX6_drop 26 = .ok (.iaload, 1) := by decide +kernel
theorem dX6_drop_27 : decode cX6_drop 27 = .ok (.ireturn, 1) := by decide +kernel
theorem dX6_mention_0 : decode cX6_mention 0 = .ok (.aload_n 0, 1) := by decide +kernel
theorem dX6_mention_1 : decode cX6_mention 1 = .ok (.iload_n 1, 1) := by decide +kernel
theorem dX6_mention_2 : decode cX6_mention 2 = .ok (.invokevirtual 165, 3) := by decide +kernel
theorem dX6_mention_5 : decode cX6_mention 5 = .ok (.ifCond .ne 6, 3) := by decide +kernel
theorem dX6_mention_8 : decode cX6_mention 8 = .ok (.ldc 168, 2) := by decide +kernel
theorem dX6_mention_10 : decode cX6_mention 10 = .ok (.ireturn, 1) := by decide +kernel
theorem dX6_mention_11 : decode cX6_mention 11 = .ok (.iload_n 2, 1) := by decide +kernel
theorem dX6_mention_12 : decode cX6_mention 12 = .ok (.iconst 0, 1) := by decide +kernel
theorem dX6_mention_13 : decode cX6_mention 13 = .ok (.bipush 119, 2) := by decide +kernel
theorem dX6_mention_15 : decode cX6_mention 15 = .ok (.invokestatic 51, 3) := by decide +kernel
theorem dX6_mention_18 : decode cX6_mention 18 = .ok (.ifCond .ne 6, 3) := by decide +kernel
theorem dX6_mention_21 : decode cX6_mention 21 = .ok (.ldc 156, 2) := by decide +kernel
theorem dX6_mention_23 : decode cX6_mention 23 = .ok (.ireturn, 1) := by decide +kernel
theorem dX6_mention_24 : decode cX6_mention 24 = .ok (.aload_n 0, 1) := by decide +kernel
theorem dX6_mention_25 : decode cX6_mention 25 = .ok (.invokevirtual 157, 3) := by decide +kernel
theorem dX6_mention_28 : decode cX6_mention 28 = .ok (.aload_n 0, 1) := by decide +kernel
theorem dX6_mention_29 : decode cX6_mention 29 = .ok (.getfield 7, 3) := by decide +kernel
theorem dX6_mention_32 : decode cX6_mention 32 = .ok (.bipush 7, 2) := by decide +kernel
theorem dX6_mention_34 : decode cX6_mention 34 = .ok (.iconst 4, 1) := by decide +kernel
theorem dX6_mention_35 : decode cX6_mention 35 = .ok (.iload_n 1, 1) := by decide +kernel
theorem dX6_mention_36 : decode cX6_mention 36 = .ok (.imul, 1) := by decide +kernel
theorem dX6_mention_37 : decode cX6_mention 37 = .ok (.iadd, 1) := by decide +kernel
theorem dX6_mention_38 : decode cX6_mention 38 = .ok (.iconst 2, 1) := by decide +kernel
theorem dX6_mention_39 : decode cX6_mention 39 = .ok (.iadd, 1) := by decide +kernel
theorem dX6_mention_40 : decode cX6_mention 40 = .ok (.iaload, 1) := by decide +kernel
theorem dX6_mention_41 : decode cX6_mention 41 = .ok (.istore_n 3, 1) := by decide +kernel
theorem dX6_mention_42 : decode cX6_mention 42 = .ok (.aload_n 0, 1) := by decide +kernel
theorem dX6_mention_43 : decode cX6_mention 43 = .ok (.getfield 7, 3) := by decide +kernel
theorem dX6_mention_46 : decode cX6_mention 46 = .ok (.bipush 7, 2) := by decide +kernel
theorem dX6_mention_48 : decode cX6_mention 48 = .ok (.iconst 4, 1) := by decide +kernel
theorem dX6_mention_49 : decode cX6_mention 49 = .ok (.iload_n 1, 1) := by decide +kernel
theorem dX6_mention_50 : decode cX6_mention 50 = .ok (.imul, 1) := by decide +kernel
theorem dX6_mention_51 : decode cX6_mention 51 = .ok (.iadd, 1) := by decide +kernel
theorem dX6_mention_52 : decode cX6_mention 52 = .ok (.iconst 2, 1) := by decide +kernel
theorem dX6_mention_53 : decode cX6_mention 53 = .ok (.iadd, 1) := by decide +kernel
theorem dX6_mention_54 : decode cX6_mention 54 = .ok (.iload_n 2, 1) := by decide +kernel
theorem dX6_mention_55 : decode cX6_mention 55 = .ok (.iastore, 1) := by decide +kernel
theorem dX6_mention_56 : decode cX6_mention 56 = .ok (.iload_n 3, 1) := by decide +kernel
theorem dX6_mention_57 : decode cX6_mention 57 = .ok (.ireturn, 1) := by decide +kernel
theorem dX6_drift_0 : decode cX6_drift 0 = .ok (.iload_n 1, 1) := by decide +kernel
theorem dX6_drift_1 : decode cX6_drift 1 = .ok (.iconst 0, 1) := by decide +kernel
theorem dX6_drift_2 : decode cX6_drift 2 = .ok (.bipush 10, 2) := by decide +kernel
theorem dX6_drift_4 : decode cX6_drift 4 = .ok (.invokestatic 51, 3) := by decide +kernel
theorem dX6_drift_7 : decode cX6_drift 7 = .ok (.ifCond .eq 13, 3) := by decide +kernel
theorem dX6_drift_10 : decode cX6_drift 10 = .ok (.iload_n 2, 1) := by decide +kernel
theorem dX6_drift_11 : decode cX6_drift 11 = .ok (.iconst 1, 1) := by decide +kernel
theorem dX6_drift_12 : decode cX6_drift 12 = .ok (.ldc 173, 2) := by decide +kernel
theorem dX6_drift_14 : decode cX6_drift 14 = .ok (.invokestatic 51, 3) := by decide +kernel
theorem dX6_drift_17 : decode cX6_drift 17 = .ok (.ifCond .ne 6, 3) := by decide +kernel
theorem dX6_drift_20 : decode cX6_drift 20 = .ok (.ldc 156, 2) := by decide +kernel
theorem dX6_drift_22 : decode cX6_drift 22 = .ok (.ireturn, 1) := by decide +kernel
theorem dX6_drift_23 : decode cX6_drift 23 = .ok (.aload_n 0, 1) := by decide +kernel
theorem dX6_drift_24 : decode cX6_drift 24 = .ok (.invokevirtual 157, 3) := by decide +kernel
theorem dX6_drift_27 : decode cX6_drift 27 = .ok (.aload_n 0, 1) := by decide +kernel
theorem dX6_drift_28 : decode cX6_drift 28 = .ok (.getfield 7, 3) := by decide +kernel
theorem dX6_drift_31 : decode cX6_drift 31 = .ok (.bipush 6, 2) := by decide +kernel
theorem dX6_drift_33 : decode cX6_drift 33 = .ok (.iaload, 1) := by decide +kernel
theorem dX6_drift_34 : decode cX6_drift 34 = .ok (.ifCond .le 19, 3) := by decide +kernel
theorem dX6_drift_37 : decode cX6_drift 37 = .ok (.aload_n 0, 1) := by decide +kernel
theorem dX6_drift_38 : decode cX6_drift 38 = .ok (.aload_n 0, 1) := by decide +kernel
theorem dX6_drift_39 : decode cX6_drift 39 = .ok (.getfield 7, 3) := by decide +kernel
theorem dX6_drift_42 : decode cX6_drift 42 = .ok (.bipush 6, 2) := by decide +kernel
theorem dX6_drift_44 : decode cX6_drift 44 = .ok (.iaload, 1) := by decide +kernel
theorem dX6_drift_45 : decode cX6_drift 45 = .ok (.iconst 1, 1) := by decide +kernel
theorem dX6_drift_46 : decode cX6_drift 46 = .ok (.isub, 1) := by decide +kernel
theorem dX6_drift_47 : decode cX6_drift 47 = .ok (.invokevirtual 169, 3) := by decide +kernel
theorem dX6_drift_50 : decode cX6_drift 50 = .ok (.goto (-23), 3) := by decide +kernel
theorem dX6_drift_53 : decode cX6_drift 53 = .ok (.iload_n 2, 1) := by decide +kernel
theorem dX6_drift_54 : decode cX6_drift 54 = .ok (.i2l, 1) := by decide +kernel
theorem dX6_drift_55 : decode cX6_drift 55 = .ok (.lstore_n 3, 1) := by decide +kernel
theorem dX6_drift_56 : decode cX6_drift 56 = .ok (.iconst 0, 1) := by decide +kernel
theorem dX6_drift_57 : decode cX6_drift 57 = .ok (.istore 5, 2) := by decide +kernel
theorem dX6_drift_59 : decode cX6_drift 59 = .ok (.iload 5, 2) := by decide +kernel
theorem dX6_drift_61 : decode cX6_drift 61 = .ok (.iload_n 1, 1) := by decide +kernel
theorem dX6_drift_62 : decode cX6_drift 62 = .ok (.if_icmp .ge 129, 3) := by decide +kernel
theorem dX6_drift_65 : decode cX6_drift 65 = .ok (.lload_n 3, 1) := by decide +kernel
theorem dX6_drift_66 : decode cX6_drift 66 = .ok (.ldc2_w 174, 3) := by decide +kernel
theorem dX6_drift_69 : decode cX6_drift 69 = .ok (.lmul, 1) := by decide +kernel
theorem dX6_drift_70 : decode cX6_drift 70 = .ok (.ldc2_w 176, 3) := by decide +kernel
theorem dX6_drift_73 : decode cX6_drift 73 = .ok (.lrem, 1) := by decide +kernel
theorem dX6_drift_74 : decode cX6_drift 74 = .ok (.lstore_n 3, 1) := by decide +kernel
theorem dX6_drift_75 : decode cX6_drift 75 = .ok (.lload_n 3, 1) := by decide +kernel
theorem dX6_drift_76 : decode cX6_drift 76 = .ok (.aload_n 0, 1) := by decide +kernel
theorem dX6_drift_77 : decode cX6_drift 77 = .ok (.getfield 7, 3) := by decide +kernel
theorem dX6_drift_80 : decode cX6_drift 80 = .ok (.iconst 3, 1) := by decide +kernel
theorem dX6_drift_81 : decode cX6_drift 81 = .ok (.iaload, 1) := by decide +kernel
theorem dX6_drift_82 : decode cX6_drift 82 = .ok (.ifCond .ne 7, 3) := by decide +kernel
theorem dX6_drift_85 : decode cX6_drift 85 = .ok (.iconst 1, 1) := by decide +kernel
theorem dX6_drift_86 : decode cX6_drift 86 = .ok (.goto 9, 3) := by decide +kernel
theorem dX6_drift_89 : decode cX6_drift 89 = .ok (.aload_n 0, 1) := by decide +kernel
theorem dX6_drift_90 : decode cX6_drift 90 = .ok (.getfield 7, 3) := by decide +kernel
theorem dX6_drift_93 : decode cX6_drift 93 = .ok (.iconst 3, 1) := by decide +kernel
theorem dX6_drift_94 : decode cX6_drift 94 = .ok (.iaload, 1) := by decide +kernel
theorem dX6_drift_95 : decode cX6_drift 95 = .ok (.i2l, 1) := by decide +kernel
theorem dX6_drift_96 : decode cX6_drift 96 = .ok (.lrem, 1) := by decide +kernel
theorem dX6_drift_97 : decode cX6_drift 97 = .ok (.l2i, 1) := by decide +kernel
theorem dX6_drift_98 : decode cX6_drift 98 = .ok (.iconst 1, 1) := by decide +kernel
theorem dX6_drift_99 : decode cX6_drift 99 = .ok (.iadd, 1) := by decide +kernel
theorem dX6_drift_100 : decode cX6_drift 100 = .ok (.istore 6, 2) := by decide +kernel
theorem dX6_drift_102 : decode cX6_drift 102 = .ok (.lload_n 3, 1) := by decide +kernel
theorem dX6_drift_103 : decode cX6_drift 103 = .ok (.ldc2_w 174, 3) := by decide +kernel
theorem dX6_drift_106 : decode cX6_drift 106 = .ok (.lmul, 1) := by decide +kernel
theorem dX6_drift_107 : decode cX6_drift 107 = .ok (.ldc2_w 176, 3) := by decide +kernel
theorem dX6_drift_110 : decode cX6_drift 110 = .ok (.lrem, 1) := by decide +kernel
theorem dX6_drift_111 : decode cX6_drift 111 = .ok (.lstore_n 3, 1) := by decide +kernel
theorem dX6_drift_112 : decode cX6_drift 112 = .ok (.lload_n 3, 1) := by decide +kernel
theorem dX6_drift_113 : decode cX6_drift 113 = .ok (.ldc2_w 178, 3) := by decide +kernel
theorem dX6_drift_116 : decode cX6_drift 116 = .ok (.lrem, 1) := by decide +kernel
theorem dX6_drift_117 : decode cX6_drift 117 = .ok (.l2i, 1) := by decide +kernel
theorem dX6_drift_118 : decode cX6_drift 118 = .ok (.istore 7, 2) := by decide +kernel
theorem dX6_drift_120 : decode cX6_drift 120 = .ok (.lload_n 3, 1) := by decide +kernel
theorem dX6_drift_121 : decode cX6_drift 121 = .ok (.ldc2_w 174, 3) := by decide +kernel
theorem dX6_drift_124 : decode cX6_drift 124 = .ok (.lmul, 1) := by decide +kernel
theorem dX6_drift_125 : decode cX6_drift 125 = .ok (.ldc2_w 176, 3) := by decide +kernel
theorem dX6_drift_128 : decode cX6_drift 128 = .ok (.lrem, 1) := by decide +kernel
theorem dX6_drift_129 : decode cX6_drift 129 = .ok (.lstore_n 3, 1) := by decide +kernel
theorem dX6_drift_130 : decode cX6_drift 130 = .ok (.lload_n 3, 1) := by decide +kernel
theorem dX6_drift_131 : decode cX6_drift 131 = .ok (.aload_n 0, 1) := by decide +kernel
theorem dX6_drift_132 : decode cX6_drift 132 = .ok (.getfield 7, 3) := by decide +kernel
theorem dX6_drift_135 : decode cX6_drift 135 = .ok (.iconst 0, 1) := by decide +kernel
theorem dX6_drift_136 : decode cX6_drift 136 = .ok (.iaload, 1) := by decide +kernel
theorem dX6_drift_137 : decode cX6_drift 137 = .ok (.ifCond .ne 7, 3) := by decide +kernel
theorem dX6_drift_140 : decode cX6_drift 140 = .ok (.iconst 1, 1) := by decide +kernel
theorem dX6_drift_141 : decode cX6_drift 141 = .ok (.goto 9, 3) := by decide +kernel
theorem dX6_drift_144 : decode cX6_drift 144 = .ok (.aload_n 0, 1) := by decide +kernel
theorem dX6_drift_145 : decode cX6_drift 145 = .ok (.getfield 7, 3) := by decide +kernel
theorem dX6_drift_148 : decode cX6_drift 148 = .ok (.iconst 0, 1) := by decide +kernel
theorem dX6_drift_149 : decode cX6_drift 149 = .ok (.iaload, 1) := by decide +kernel
theorem dX6_drift_150 : decode cX6_drift 150 = .ok (.i2l, 1) := by decide +kernel
theorem dX6_drift_151 : decode cX6_drift 151 = .ok (.lrem, 1) := by decide +kernel
theorem dX6_drift_152 : decode cX6_drift 152 = .ok (.l2i, 1) := by decide +kernel
theorem dX6_drift_153 : decode cX6_drift 153 = .ok (.istore 8, 2) := by decide +kernel
theorem dX6_drift_155 : decode cX6_drift 155 = .ok (.lload_n 3, 1) := by decide +kernel
theorem dX6_drift_156 : decode cX6_drift 156 = .ok (.ldc2_w 174, 3) := by decide +kernel
theorem dX6_drift_159 : decode cX6_drift 159 = .ok (.lmul, 1) := by decide +kernel
theorem dX6_drift_160 : decode cX6_drift 160 = .ok (.ldc2_w 176, 3) := by decide +kernel
theorem dX6_drift_163 : decode cX6_drift 163 = .ok (.lrem, 1) := by decide +kernel
theorem dX6_drift_164 : decode cX6_drift 164 = .ok (.lstore_n 3, 1) := by decide +kernel
theorem dX6_drift_165 : decode cX6_drift 165 = .ok (.aload_n 0, 1) := by decide +kernel
theorem dX6_drift_166 : decode cX6_drift 166 = .ok (.iload 5, 2) := by decide +kernel
theorem dX6_drift_168 : decode cX6_drift 168 = .ok (.iload 6, 2) := by decide +kernel
theorem dX6_drift_170 : decode cX6_drift 170 = .ok (.iload 7, 2) := by decide +kernel
theorem dX6_drift_172 : decode cX6_drift 172 = .ok (.iload 8, 2) := by decide +kernel
theorem dX6_drift_174 : decode cX6_drift 174 = .ok (.lload_n 3, 1) := by decide +kernel
theorem dX6_drift_175 : decode cX6_drift 175 = .ok (.ldc2_w 180, 3) := by decide +kernel
theorem dX6_drift_178 : decode cX6_drift 178 = .ok (.lrem, 1) := by decide +kernel
theorem dX6_drift_179 : decode cX6_drift 179 = .ok (.l2i, 1) := by decide +kernel
theorem dX6_drift_180 : decode cX6_drift 180 = .ok (.iconst 1, 1) := by decide +kernel
theorem dX6_drift_181 : decode cX6_drift 181 = .ok (.iadd, 1) := by decide +kernel
theorem dX6_drift_182 : decode cX6_drift 182 = .ok (.invokevirtual 161, 3) := by decide +kernel
theorem dX6_drift_185 : decode cX6_drift 185 = .ok (.iinc 5 1, 3) := by decide +kernel
theorem dX6_drift_188 : decode cX6_drift 188 = .ok (.goto (-129), 3) := by decide +kernel
theorem dX6_drift_191 : decode cX6_drift 191 = .ok (.aload_n 0, 1) := by decide +kernel
theorem dX6_drift_192 : decode cX6_drift 192 = .ok (.invokevirtual 116, 3) := by decide +kernel
theorem dX6_drift_195 : decode cX6_drift 195 = .ok (.ireturn, 1) := by decide +kernel
theorem dX6_undo_0 : decode cX6_undo 0 = .ok (.aload_n 0, 1) := by decide +kernel
theorem dX6_undo_1 : decode cX6_undo 1 = .ok (.getfield 146, 3) := by decide +kernel
theorem dX6_undo_4 : decode cX6_undo 4 = .ok (.ifCond .ne 6, 3) := by decide +kernel
theorem dX6_undo_7 : decode cX6_undo 7 = .ok (.ldc 182, 2) := by decide +kernel
theorem dX6_undo_9 : decode cX6_undo 9 = .ok (.ireturn, 1) := by decide +kernel
theorem dX6_undo_10 : decode cX6_undo 10 = .ok (.aload_n 0, 1) := by decide +kernel
theorem dX6_undo_11 : decode cX6_undo 11 = .ok (.dup, 1) := by decide +kernel
theorem dX6_undo_12 : decode cX6_undo 12 = .ok (.getfield 146, 3) := by decide +kernel
theorem dX6_undo_15 : decode cX6_undo 15 = .ok (.iconst 1, 1) := by decide +kernel
theorem dX6_undo_16 : decode cX6_undo 16 = .ok (.isub, 1) := by decide +kernel
theorem dX6_undo_17 : decode cX6_undo 17 = .ok (.putfield 146, 3) := by decide +kernel
theorem dX6_undo_20 : decode cX6_undo 20 = .ok (.aload_n 0, 1) := by decide +kernel
theorem dX6_undo_21 : decode cX6_undo 21 = .ok (.getfield 16, 3) := by decide +kernel
theorem dX6_undo_24 : decode cX6_undo 24 = .ok (.bipush 47, 2) := by decide +kernel
theorem dX6_undo_26 : decode cX6_undo 26 = .ok (.aload_n 0, 1) := by decide +kernel
theorem dX6_undo_27 : decode cX6_undo 27 = .ok (.getfield 146, 3) := by decide +kernel
theorem dX6_undo_30 : decode cX6_undo 30 = .ok (.imul, 1) := by decide +kernel
theorem dX6_undo_31 : decode cX6_undo 31 = .ok (.aload_n 0, 1) := by decide +kernel
theorem dX6_undo_32 : decode cX6_undo 32 = .ok (.getfield 7, 3) := by decide +kernel
theorem dX6_undo_35 : decode cX6_undo 35 = .ok (.iconst 0, 1) := by decide +kernel
theorem dX6_undo_36 : decode cX6_undo 36 = .ok (.bipush 47, 2) := by decide +kernel
theorem dX6_undo_38 : decode cX6_undo 38 = .ok (.invokestatic 149, 3) := by decide +kernel
theorem dX6_undo_41 : decode cX6_undo 41 = .ok (.aload_n 0, 1) := by decide +kernel
theorem dX6_undo_42 : decode cX6_undo 42 = .ok (.getfield 146, 3) := by decide +kernel
theorem dX6_undo_45 : decode cX6_undo 45 = .ok (.ireturn, 1) := by decide +kernel
theorem dX6_told_0 : decode cX6_told 0 = .ok (.iload_n 1, 1) := by decide +kernel
theorem dX6_told_1 : decode cX6_told 1 = .ok (.iconst 0, 1) := by decide +kernel
theorem dX6_told_2 : decode cX6_told 2 = .ok (.bipush 15, 2) := by decide +kernel
theorem dX6_told_4 : decode cX6_told 4 = .ok (.invokestatic 51, 3) := by decide +kernel
theorem dX6_told_7 : decode cX6_told 7 = .ok (.ifCond .ne 6, 3) := by decide +kernel
theorem dX6_told_10 : decode cX6_told 10 = .ok (.ldc 156, 2) := by decide +kernel
theorem dX6_told_12 : decode cX6_told 12 = .ok (.ireturn, 1) := by decide +kernel
theorem dX6_told_13 : decode cX6_told 13 = .ok (.iload_n 1, 1) := by decide +kernel
theorem dX6_told_14 : decode cX6_told 14 = .ok (.bipush 7, 2) := by decide +kernel
theorem dX6_told_16 : decode cX6_told 16 = .ok (.if_icmp .ge 10, 3) := by decide +kernel
theorem dX6_told_19 : decode cX6_told 19 = .ok (.aload_n 0, 1) := by decide +kernel
theorem dX6_told_20 : decode cX6_told 20 = .ok (.getfield 7, 3) := by decide +kernel
theorem dX6_told_23 : decode cX6_told 23 = .ok (.iload_n 1, 1) := by decide +kernel
theorem dX6_told_24 : decode cX6_told 24 = .ok (.iaload, 1) := by decide +kernel
theorem dX6_told_25 : decode cX6_told 25 = .ok (.ireturn, 1) := by decide +kernel
theorem dX6_told_26 : decode cX6_told 26 = .ok (.iload_n 1, 1) := by decide +kernel
theorem dX6_told_27 : decode cX6_told 27 = .ok (.tableswitch 121 7 14 #[45, 50, 55, 74, 90, 106, 111, 116], 45) := by decide +kernel
theorem dX6_told_72 : decode cX6_told 72 = .ok (.aload_n 0, 1) := by decide +kernel
theorem dX6_told_73 : decode cX6_told 73 = .ok (.invokevirtual 127, 3) := by decide +kernel
theorem dX6_told_76 : decode cX6_told 76 = .ok (.ireturn, 1) := by decide +kernel
theorem dX6_told_77 : decode cX6_told 77 = .ok (.aload_n 0, 1) := by decide +kernel
theorem dX6_told_78 : decode cX6_told 78 = .ok (.invokevirtual 116, 3) := by decide +kernel
theorem dX6_told_81 : decode cX6_told 81 = .ok (.ireturn, 1) := by decide +kernel
theorem dX6_told_82 : decode cX6_told 82 = .ok (.aload_n 0, 1) := by decide +kernel
theorem dX6_told_83 : decode cX6_told 83 = .ok (.invokevirtual 116, 3) := by decide +kernel
theorem dX6_told_86 : decode cX6_told 86 = .ok (.iconst (-1), 1) := by decide +kernel
theorem dX6_told_87 : decode cX6_told 87 = .ok (.if_icmp .ne 7, 3) := by decide +kernel
theorem dX6_told_90 : decode cX6_told 90 = .ok (.iconst (-1), 1) := by decide +kernel
theorem dX6_told_91 : decode cX6_told 91 = .ok (.goto 9, 3) := by decide +kernel
theorem dX6_told_94 : decode cX6_told 94 = .ok (.aload_n 0, 1) := by decide +kernel
theorem dX6_told_95 : decode cX6_told 95 = .ok (.getfield 32, 3) := by decide +kernel
theorem dX6_told_98 : decode cX6_told 98 = .ok (.iconst 0, 1) := by decide +kernel
theorem dX6_told_99 : decode cX6_told 99 = .ok (.iaload, 1) := by decide +kernel
theorem dX6_told_100 : decode cX6_told 100 = .ok (.ireturn, 1) := by decide +kernel
theorem dX6_told_101 : decode cX6_told 101 = .ok (.aload_n 0, 1) := by decide +kernel
theorem dX6_told_102 : decode cX6_told 102 = .ok (.invokevirtual 183, 3) := by decide +kernel
theorem dX6_told_105 : decode cX6_told 105 = .ok (.ifCond .eq 10, 3) := by decide +kernel
theorem dX6_told_108 : decode cX6_told 108 = .ok (.aload_n 0, 1) := by decide +kernel
theorem dX6_told_109 : decode cX6_told 109 = .ok (.invokevirtual 186, 3) := by decide +kernel
theorem dX6_told_112 : decode cX6_told 112 = .ok (.goto 4, 3) := by decide +kernel
theorem dX6_told_115 : decode cX6_told 115 = .ok (.iconst (-1), 1) := by decide +kernel
theorem dX6_told_116 : decode cX6_told 116 = .ok (.ireturn, 1) := by decide +kernel
theorem dX6_told_117 : decode cX6_told 117 = .ok (.aload_n 0, 1) := by decide +kernel
theorem dX6_told_118 : decode cX6_told 118 = .ok (.invokevirtual 183, 3) := by decide +kernel
theorem dX6_told_121 : decode cX6_told 121 = .ok (.ifCond .eq 10, 3) := by decide +kernel
theorem dX6_told_124 : decode cX6_told 124 = .ok (.aload_n 0, 1) := by decide +kernel
theorem dX6_told_125 : decode cX6_told 125 = .ok (.getfield 112, 3) := by decide +kernel
theorem dX6_told_128 : decode cX6_told 128 = .ok (.goto 4, 3) := by decide +kernel
theorem dX6_told_131 : decode cX6_told 131 = .ok (.iconst (-1), 1) := by decide +kernel
theorem dX6_told_132 : decode cX6_told 132 = .ok (.ireturn, 1) := by decide +kernel
theorem dX6_told_133 : decode cX6_told 133 = .ok (.aload_n 0, 1) := by decide +kernel
theorem dX6_told_134 : decode cX6_told 134 = .ok (.invokevirtual 189, 3) := by decide +kernel
theorem dX6_told_137 : decode cX6_told 137 = .ok (.ireturn, 1) := by decide +kernel
theorem dX6_told_138 : decode cX6_told 138 = .ok (.aload_n 0, 1) := by decide +kernel
theorem dX6_told_139 : decode cX6_told 139 = .ok (.invokevirtual 192, 3) := by decide +kernel
theorem dX6_told_142 : decode cX6_told 142 = .ok (.ireturn, 1) := by decide +kernel
theorem dX6_told_143 : decode cX6_told 143 = .ok (.aload_n 0, 1) := by decide +kernel
theorem dX6_told_144 : decode cX6_told 144 = .ok (.getfield 195, 3) := by decide +kernel
theorem dX6_told_147 : decode cX6_told 147 = .ok (.ireturn, 1) := by decide +kernel
theorem dX6_told_148 : decode cX6_told 148 = .ok (.aload_n 0, 1) := by decide +kernel
theorem dX6_told_149 : decode cX6_told 149 = .ok (.getfield 146, 3) := by decide +kernel
theorem dX6_told_152 : decode cX6_told 152 = .ok (.ireturn, 1) := by decide +kernel
theorem dX6_figureOf_0 : decode cX6_figureOf 0 = .ok (.aload_n 0, 1) := by decide +kernel
theorem dX6_figureOf_1 : decode cX6_figureOf 1 = .ok (.iload_n 1, 1) := by decide +kernel
theorem dX6_figureOf_2 : decode cX6_figureOf 2 = .ok (.invokevirtual 165, 3) := by decide +kernel
theorem dX6_figureOf_5 : decode cX6_figureOf 5 = .ok (.ifCond .ne 6, 3) := by decide +kernel
theorem dX6_figureOf_8 : decode cX6_figureOf 8 = .ok (.ldc 168, 2) := by decide +kernel
theorem dX6_figureOf_10 : decode cX6_figureOf 10 = .ok (.ireturn, 1) := by decide +kernel
theorem dX6_figureOf_11 : decode cX6_figureOf 11 = .ok (.iload_n 2, 1) := by decide +kernel
theorem dX6_figureOf_12 : decode cX6_figureOf 12 = .ok (.iconst 0, 1) := by decide +kernel
theorem dX6_figureOf_13 : decode cX6_figureOf 13 = .ok (.bipush 7, 2) := by decide +kernel
theorem dX6_figureOf_15 : decode cX6_figureOf 15 = .ok (.invokestatic 51, 3) := by decide +kernel
theorem dX6_figureOf_18 : decode cX6_figureOf 18 = .ok (.ifCond .ne 6, 3) := by decide +kernel
theorem dX6_figureOf_21 : decode cX6_figureOf 21 = .ok (.ldc 156, 2) := by decide +kernel
theorem dX6_figureOf_23 : decode cX6_figureOf 23 = .ok (.ireturn, 1) := by decide +kernel
theorem dX6_figureOf_24 : decode cX6_figureOf 24 = .ok (.iload_n 2, 1) := by decide +kernel
theorem dX6_figureOf_25 : decode cX6_figureOf 25 = .ok (.iconst 4, 1) := by decide +kernel
theorem dX6_figureOf_26 : decode cX6_figureOf 26 = .ok (.if_icmp .ge 17, 3) := by decide +kernel
theorem dX6_figureOf_29 : decode cX6_figureOf 29 = .ok (.aload_n 0, 1) := by decide +kernel
theorem dX6_figureOf_30 : decode cX6_figureOf 30 = .ok (.getfield 7, 3) := by decide +kernel
theorem dX6_figureOf_33 : decode cX6_figureOf 33 = .ok (.bipush 7, 2) := by decide +kernel
theorem dX6_figureOf_35 : decode cX6_figureOf 35 = .ok (.iconst 4, 1) := by decide +kernel
theorem dX6_figureOf_36 : decode cX6_figureOf 36 = .ok (.iload_n 1, 1) := by decide +kernel
theorem dX6_figureOf_37 : decode cX6_figureOf 37 = .ok (.imul, 1) := by decide +kernel
theorem dX6_figureOf_38 : decode cX6_figureOf 38 = .ok (.iadd, 1) := by decide +kernel
theorem dX6_figureOf_39 : decode cX6_figureOf 39 = .ok (.iload_n 2, 1) := by decide +kernel
theorem dX6_figureOf_40 : decode cX6_figureOf 40 = .ok (.iadd, 1) := by decide +kernel
theorem dX6_figureOf_41 : decode cX6_figureOf 41 = .ok (.iaload, 1) := by decide +kernel
theorem dX6_figureOf_42 : decode cX6_figureOf 42 = .ok (.ireturn, 1) := by decide +kernel
theorem dX6_figureOf_43 : decode cX6_figureOf 43 = .ok (.iload_n 2, 1) := by decide +kernel
theorem dX6_figureOf_44 : decode cX6_figureOf 44 = .ok (.bipush 7, 2) := by decide +kernel
theorem dX6_figureOf_46 : decode cX6_figureOf 46 = .ok (.if_icmp .ne 10, 3) := by decide +kernel
theorem dX6_figureOf_49 : decode cX6_figureOf 49 = .ok (.aload_n 0, 1) := by decide +kernel
theorem dX6_figureOf_50 : decode cX6_figureOf 50 = .ok (.invokevirtual 183, 3) := by decide +kernel
theorem dX6_figureOf_53 : decode cX6_figureOf 53 = .ok (.goto 7, 3) := by decide +kernel
theorem dX6_figureOf_56 : decode cX6_figureOf 56 = .ok (.aload_n 0, 1) := by decide +kernel
theorem dX6_figureOf_57 : decode cX6_figureOf 57 = .ok (.invokevirtual 139, 3) := by decide +kernel
theorem dX6_figureOf_60 : decode cX6_figureOf 60 = .ok (.istore_n 3, 1) := by decide +kernel
theorem dX6_figureOf_61 : decode cX6_figureOf 61 = .ok (.iload_n 3, 1) := by decide +kernel
theorem dX6_figureOf_62 : decode cX6_figureOf 62 = .ok (.ifCond .ne 5, 3) := by decide +kernel
theorem dX6_figureOf_65 : decode cX6_figureOf 65 = .ok (.iconst (-1), 1) := by decide +kernel
theorem dX6_figureOf_66 : decode cX6_figureOf 66 = .ok (.ireturn, 1) := by decide +kernel
theorem dX6_figureOf_67 : decode cX6_figureOf 67 = .ok (.iload_n 2, 1) := by decide +kernel
theorem dX6_figureOf_68 : decode cX6_figureOf 68 = .ok (.iconst 5, 1) := by decide +kernel
theorem dX6_figureOf_69 : decode cX6_figureOf 69 = .ok (.if_icmp .ne 11, 3) := by decide +kernel
theorem dX6_figureOf_72 : decode cX6_figureOf 72 = .ok (.aload_n 0, 1) := by decide +kernel
theorem dX6_figureOf_73 : decode cX6_figureOf 73 = .ok (.iload_n 1, 1) := by decide +kernel
theorem dX6_figureOf_74 : decode cX6_figureOf 74 = .ok (.invokevirtual 136, 3) := by decide +kernel
theorem dX6_figureOf_77 : decode cX6_figureOf 77 = .ok (.goto 22, 3) := by decide +kernel
theorem dX6_figureOf_80 : decode cX6_figureOf 80 = .ok (.iload_n 2, 1) := by decide +kernel
theorem dX6_figureOf_81 : decode cX6_figureOf 81 = .ok (.bipush 6, 2) := by decide +kernel
theorem dX6_figureOf_83 : decode cX6_figureOf 83 = .ok (.if_icmp .ne 11, 3) := by decide +kernel
theorem dX6_figureOf_86 : decode cX6_figureOf 86 = .ok (.aload_n 0, 1) := by decide +kernel
theorem dX6_figureOf_87 : decode cX6_figureOf 87 = .ok (.iload_n 1, 1) := by decide +kernel
theorem dX6_figureOf_88 : decode cX6_figureOf 88 = .ok (.invokevirtual 143, 3) := by decide +kernel
theorem dX6_figureOf_91 : decode cX6_figureOf 91 = .ok (.goto 8, 3) := by decide +kernel
theorem dX6_figureOf_94 : decode cX6_figureOf 94 = .ok (.aload_n 0, 1) := by decide +kernel
theorem dX6_figureOf_95 : decode cX6_figureOf 95 = .ok (.iload_n 1, 1) := by decide +kernel
theorem dX6_figureOf_96 : decode cX6_figureOf 96 = .ok (.invokevirtual 133, 3) := by decide +kernel
theorem dX6_figureOf_99 : decode cX6_figureOf 99 = .ok (.ireturn, 1) := by decide +kernel
theorem dX6_page_0 : decode cX6_page 0 = .ok (.aload_n 0, 1) := by decide +kernel
theorem dX6_page_1 : decode cX6_page 1 = .ok (.invokevirtual 139, 3) := by decide +kernel
theorem dX6_page_4 : decode cX6_page 4 = .ok (.ifCond .eq 17, 3) := by decide +kernel
theorem dX6_page_7 : decode cX6_page 7 = .ok (.iload_n 1, 1) := by decide +kernel
theorem dX6_page_8 : decode cX6_page 8 = .ok (.iconst 0, 1) := by decide +kernel
theorem dX6_page_9 : decode cX6_page 9 = .ok (.aload_n 0, 1) := by decide +kernel
theorem dX6_page_10 : decode cX6_page 10 = .ok (.getfield 112, 3) := by decide +kernel
theorem dX6_page_13 : decode cX6_page 13 = .ok (.iconst 1, 1) := by decide +kernel
theorem dX6_page_14 : decode cX6_page 14 = .ok (.isub, 1) := by decide +kernel
theorem dX6_page_15 : decode cX6_page 15 = .ok (.invokestatic 51, 3) := by decide +kernel
theorem dX6_page_18 : decode cX6_page 18 = .ok (.ifCond .ne 6, 3) := by decide +kernel
theorem dX6_page_21 : decode cX6_page 21 = .ok (.ldc 168, 2) := by decide +kernel
theorem dX6_page_23 : decode cX6_page 23 = .ok (.ireturn, 1) := by decide +kernel
theorem dX6_page_24 : decode cX6_page 24 = .ok (.iload_n 2, 1) := by decide +kernel
theorem dX6_page_25 : decode cX6_page 25 = .ok (.iconst 0, 1) := by decide +kernel
theorem dX6_page_26 : decode cX6_page 26 = .ok (.bipush 6, 2) := by decide +kernel
theorem dX6_page_28 : decode cX6_page 28 = .ok (.invokestatic 51, 3) := by decide +kernel
theorem dX6_page_31 : decode cX6_page 31 = .ok (.ifCond .ne 6, 3) := by decide +kernel
theorem dX6_page_34 : decode cX6_page 34 = .ok (.ldc 156, 2) := by decide +kernel
theorem dX6_page_36 : decode cX6_page 36 = .ok (.ireturn, 1) := by decide +kernel
theorem dX6_page_37 : decode cX6_page 37 = .ok (.iload_n 1, 1) := by decide +kernel
theorem dX6_page_38 : decode cX6_page 38 = .ok (.ifCond .ne 7, 3) := by decide +kernel
theorem dX6_page_41 : decode cX6_page 41 = .ok (.iconst 0, 1) := by decide +kernel
theorem dX6_page_42 : decode cX6_page 42 = .ok (.goto 11, 3) := by decide +kernel
theorem dX6_page_45 : decode cX6_page 45 = .ok (.aload_n 0, 1) := by decide +kernel
theorem dX6_page_46 : decode cX6_page 46 = .ok (.getfield 45, 3) := by decide +kernel
theorem dX6_page_49 : decode cX6_page 49 = .ok (.iload_n 1, 1) := by decide +kernel
theorem dX6_page_50 : decode cX6_page 50 = .ok (.iconst 1, 1) := by decide +kernel
theorem dX6_page_51 : decode cX6_page 51 = .ok (.isub, 1) := by decide +kernel
theorem dX6_page_52 : decode cX6_page 52 = .ok (.iaload, 1) := by decide +kernel
theorem dX6_page_53 : decode cX6_page 53 = .ok (.istore_n 3, 1) := by decide +kernel
theorem dX6_page_54 : decode cX6_page 54 = .ok (.aload_n 0, 1) := by decide +kernel
theorem dX6_page_55 : decode cX6_page 55 = .ok (.getfield 45, 3) := by decide +kernel
theorem dX6_page_58 : decode cX6_page 58 = .ok (.iload_n 1, 1) := by decide +kernel
theorem dX6_page_59 : decode cX6_page 59 = .ok (.iaload, 1) := by decide +kernel
theorem dX6_page_60 : decode cX6_page 60 = .ok (.iload_n 3, 1) := by decide +kernel
theorem dX6_page_61 : decode cX6_page 61 = .ok (.isub, 1) := by decide +kernel
theorem dX6_page_62 : decode cX6_page 62 = .ok (.istore 4, 2) := by decide +kernel
theorem dX6_page_64 : decode cX6_page 64 = .ok (.aload_n 0, 1) := by decide +kernel
theorem dX6_page_65 : decode cX6_page 65 = .ok (.aload_n 0, 1) := by decide +kernel
theorem dX6_page_66 : decode cX6_page 66 = .ok (.getfield 48, 3) := by decide +kernel
theorem dX6_page_69 : decode cX6_page 69 = .ok (.iload_n 1, 1) := by decide +kernel
theorem dX6_page_70 : decode cX6_page 70 = .ok (.iaload, 1) := by decide +kernel
theorem dX6_page_71 : decode cX6_page 71 = .ok (.aload_n 0, 1) := by decide +kernel
theorem dX6_page_72 : decode cX6_page 72 = .ok (.getfield 42, 3) := by decide +kernel
theorem dX6_page_75 : decode cX6_page 75 = .ok (.iload_n 1, 1) := by decide +kernel
theorem dX6_page_76 : decode cX6_page 76 = .ok (.iaload, 1) := by decide +kernel
theorem dX6_page_77 : decode cX6_page 77 = .ok (.isub, 1) := by decide +kernel
theorem dX6_page_78 : decode cX6_page 78 = .ok (.aload_n 0, 1) := by decide +kernel
theorem dX6_page_79 : decode cX6_page 79 = .ok (.getfield 42, 3) := by decide +kernel
theorem dX6_page_82 : decode cX6_page 82 = .ok (.iload_n 1, 1) := by decide +kernel
theorem dX6_page_83 : decode cX6_page 83 = .ok (.iaload, 1) := by decide +kernel
theorem dX6_page_84 : decode cX6_page 84 = .ok (.invokevirtual 67, 3) := by decide +kernel
theorem dX6_page_87 : decode cX6_page 87 = .ok (.istore 5, 2) := by decide +kernel
theorem dX6_page_89 : decode cX6_page 89 = .ok (.iload_n 2, 1) := by decide +kernel
theorem dX6_page_90 : decode cX6_page 90 = .ok (.tableswitch 78 0 4 #[34, 41, 44, 55, 58], 34) := by decide +kernel
theorem dX6_page_124 : decode cX6_page 124 = .ok (.aload_n 0, 1) := by decide +kernel
theorem dX6_page_125 : decode cX6_page 125 = .ok (.getfield 42, 3) := by decide +kernel
theorem dX6_page_128 : decode cX6_page 128 = .ok (.iload_n 1, 1) := by decide +kernel
theorem dX6_page_129 : decode cX6_page 129 = .ok (.iaload, 1) := by decide +kernel
theorem dX6_page_130 : decode cX6_page 130 = .ok (.ireturn, 1) := by decide +kernel
theorem dX6_page_131 : decode cX6_page 131 = .ok (.iload 4, 2) := by decide +kernel
theorem dX6_page_133 : decode cX6_page 133 = .ok (.ireturn, 1) := by decide +kernel
theorem dX6_page_134 : decode cX6_page 134 = .ok (.iload 4, 2) := by decide +kernel
theorem dX6_page_136 : decode cX6_page 136 = .ok (.ifCond .ne 7, 3) := by decide +kernel
theorem dX6_page_139 : decode cX6_page 139 = .ok (.iconst (-1), 1) := by decide +kernel
theorem dX6_page_140 : decode cX6_page 140 = .ok (.goto 4, 3) := by decide +kernel
theorem dX6_page_143 : decode cX6_page 143 = .ok (.iload_n 3, 1) := by decide +kernel
theorem dX6_page_144 : decode cX6_page 144 = .ok (.ireturn, 1) := by decide +kernel
theorem dX6_page_145 : decode cX6_page 145 = .ok (.iload 5, 2) := by decide +kernel
theorem dX6_page_147 : decode cX6_page 147 = .ok (.ireturn, 1) := by decide +kernel
theorem dX6_page_148 : decode cX6_page 148 = .ok (.aload_n 0, 1) := by decide +kernel
theorem dX6_page_149 : decode cX6_page 149 = .ok (.getfield 7, 3) := by decide +kernel
theorem dX6_page_152 : decode cX6_page 152 = .ok (.iconst 2, 1) := by decide +kernel
theorem dX6_page_153 : decode cX6_page 153 = .ok (.iaload, 1) := by decide +kernel
theorem dX6_page_154 : decode cX6_page 154 = .ok (.aload_n 0, 1) := by decide +kernel
theorem dX6_page_155 : decode cX6_page 155 = .ok (.getfield 7, 3) := by decide +kernel
theorem dX6_page_158 : decode cX6_page 158 = .ok (.iconst 1, 1) := by decide +kernel
theorem dX6_page_159 : decode cX6_page 159 = .ok (.iaload, 1) := by decide +kernel
theorem dX6_page_160 : decode cX6_page 160 = .ok (.imul, 1) := by decide +kernel
theorem dX6_page_161 : decode cX6_page 161 = .ok (.iload 5, 2) := by decide +kernel
theorem dX6_page_163 : decode cX6_page 163 = .ok (.isub, 1) := by decide +kernel
theorem dX6_page_164 : decode cX6_page 164 = .ok (.iload 4, 2) := by decide +kernel
theorem dX6_page_166 : decode cX6_page 166 = .ok (.isub, 1) := by decide +kernel
theorem dX6_page_167 : decode cX6_page 167 = .ok (.ireturn, 1) := by decide +kernel
theorem dX6_page_168 : decode cX6_page 168 = .ok (.aload_n 0, 1) := by decide +kernel
theorem dX6_page_169 : decode cX6_page 169 = .ok (.aload_n 0, 1) := by decide +kernel
theorem dX6_page_170 : decode cX6_page 170 = .ok (.getfield 45, 3) := by decide +kernel
theorem dX6_page_173 : decode cX6_page 173 = .ok (.iload_n 1, 1) := by decide +kernel
theorem dX6_page_174 : decode cX6_page 174 = .ok (.iaload, 1) := by decide +kernel
theorem dX6_page_175 : decode cX6_page 175 = .ok (.aload_n 0, 1) := by decide +kernel
theorem dX6_page_176 : decode cX6_page 176 = .ok (.getfield 48, 3) := by decide +kernel
theorem dX6_page_179 : decode cX6_page 179 = .ok (.iload_n 1, 1) := by decide +kernel
theorem dX6_page_180 : decode cX6_page 180 = .ok (.iaload, 1) := by decide +kernel
theorem dX6_page_181 : decode cX6_page 181 = .ok (.iload_n 2, 1) := by decide +kernel
theorem dX6_page_182 : decode cX6_page 182 = .ok (.bipush 6, 2) := by decide +kernel
theorem dX6_page_184 : decode cX6_page 184 = .ok (.if_icmp .ne 7, 3) := by decide +kernel
theorem dX6_page_187 : decode cX6_page 187 = .ok (.iconst 1, 1) := by decide +kernel
theorem dX6_page_188 : decode cX6_page 188 = .ok (.goto 4, 3) := by decide +kernel
theorem dX6_page_191 : decode cX6_page 191 = .ok (.iconst 0, 1) := by decide +kernel
theorem dX6_page_192 : decode cX6_page 192 = .ok (.invokevirtual 84, 3) := by decide +kernel
theorem dX6_page_195 : decode cX6_page 195 = .ok (.ireturn, 1) := by decide +kernel
theorem dX6_pageOf_0 : decode cX6_pageOf 0 = .ok (.iload_n 1, 1) := by decide +kernel
theorem dX6_pageOf_1 : decode cX6_pageOf 1 = .ok (.iconst 0, 1) := by decide +kernel
theorem dX6_pageOf_2 : decode cX6_pageOf 2 = .ok (.aload_n 0, 1) := by decide +kernel
theorem dX6_pageOf_3 : decode cX6_pageOf 3 = .ok (.getfield 7, 3) := by decide +kernel
theorem dX6_pageOf_6 : decode cX6_pageOf 6 = .ok (.iconst 0, 1) := by decide +kernel
theorem dX6_pageOf_7 : decode cX6_pageOf 7 = .ok (.iaload, 1) := by decide +kernel
theorem dX6_pageOf_8 : decode cX6_pageOf 8 = .ok (.iconst 1, 1) := by decide +kernel
theorem dX6_pageOf_9 : decode cX6_pageOf 9 = .ok (.isub, 1) := by decide +kernel
theorem dX6_pageOf_10 : decode cX6_pageOf 10 = .ok (.invokestatic 51, 3) := by decide +kernel
theorem dX6_pageOf_13 : decode cX6_pageOf 13 = .ok (.ifCond .ne 6, 3) := by decide +kernel
theorem dX6_pageOf_16 : decode cX6_pageOf 16 = .ok (.ldc 168, 2) := by decide +kernel
theorem dX6_pageOf_18 : decode cX6_pageOf 18 = .ok (.ireturn, 1) := by decide +kernel
theorem dX6_pageOf_19 : decode cX6_pageOf 19 = .ok (.aload_n 0, 1) := by decide +kernel
theorem dX6_pageOf_20 : decode cX6_pageOf 20 = .ok (.invokevirtual 139, 3) := by decide +kernel
theorem dX6_pageOf_23 : decode cX6_pageOf 23 = .ok (.ifCond .eq 11, 3) := by decide +kernel
theorem dX6_pageOf_26 : decode cX6_pageOf 26 = .ok (.aload_n 0, 1) := by decide +kernel
theorem dX6_pageOf_27 : decode cX6_pageOf 27 = .ok (.iload_n 1, 1) := by decide +kernel
theorem dX6_pageOf_28 : decode cX6_pageOf 28 = .ok (.invokevirtual 130, 3) := by decide +kernel
theorem dX6_pageOf_31 : decode cX6_pageOf 31 = .ok (.goto 5, 3) := by decide +kernel
theorem dX6_pageOf_34 : decode cX6_pageOf 34 = .ok (.ldc 182, 2) := by decide +kernel
theorem dX6_pageOf_36 : decode cX6_pageOf 36 = .ok (.ireturn, 1) := by decide +kernel
theorem dX6_fits_0 : decode cX6_fits 0 = .ok (.iload_n 2, 1) := by decide +kernel
theorem dX6_fits_1 : decode cX6_fits 1 = .ok (.ifCond .ge 6, 3) := by decide +kernel
theorem dX6_fits_4 : decode cX6_fits 4 = .ok (.ldc 156, 2) := by decide +kernel
theorem dX6_fits_6 : decode cX6_fits 6 = .ok (.ireturn, 1) := by decide +kernel
theorem dX6_fits_7 : decode cX6_fits 7 = .ok (.iload_n 2, 1) := by decide +kernel
theorem dX6_fits_8 : decode cX6_fits 8 = .ok (.ifCond .ne 5, 3) := by decide +kernel
theorem dX6_fits_11 : decode cX6_fits 11 = .ok (.iconst 1, 1) := by decide +kernel
theorem dX6_fits_12 : decode cX6_fits 12 = .ok (.ireturn, 1) := by decide +kernel
theorem dX6_fits_13 : decode cX6_fits 13 = .ok (.aload_n 0, 1) := by decide +kernel
theorem dX6_fits_14 : decode cX6_fits 14 = .ok (.iload_n 1, 1) := by decide +kernel
theorem dX6_fits_15 : decode cX6_fits 15 = .ok (.invokevirtual 165, 3) := by decide +kernel
theorem dX6_fits_18 : decode cX6_fits 18 = .ok (.ifCond .ne 6, 3) := by decide +kernel
theorem dX6_fits_21 : decode cX6_fits 21 = .ok (.ldc 168, 2) := by decide +kernel
theorem dX6_fits_23 : decode cX6_fits 23 = .ok (.ireturn, 1) := by decide +kernel
theorem dX6_fits_24 : decode cX6_fits 24 = .ok (.iload_n 2, 1) := by decide +kernel
theorem dX6_fits_25 : decode cX6_fits 25 = .ok (.aload_n 0, 1) := by decide +kernel
theorem dX6_fits_26 : decode cX6_fits 26 = .ok (.getfield 7, 3) := by decide +kernel
theorem dX6_fits_29 : decode cX6_fits 29 = .ok (.bipush 6, 2) := by decide +kernel
theorem dX6_fits_31 : decode cX6_fits 31 = .ok (.iaload, 1) := by decide +kernel
theorem dX6_fits_32 : decode cX6_fits 32 = .ok (.iload_n 1, 1) := by decide +kernel
theorem dX6_fits_33 : decode cX6_fits 33 = .ok (.isub, 1) := by decide +kernel
theorem dX6_fits_34 : decode cX6_fits 34 = .ok (.if_icmp .le 6, 3) := by decide +kernel
theorem dX6_fits_37 : decode cX6_fits 37 = .ok (.ldc 156, 2) := by decide +kernel
theorem dX6_fits_39 : decode cX6_fits 39 = .ok (.ireturn, 1) := by decide +kernel
theorem dX6_fits_40 : decode cX6_fits 40 = .ok (.aload_n 0, 1) := by decide +kernel
theorem dX6_fits_41 : decode cX6_fits 41 = .ok (.iload_n 1, 1) := by decide +kernel
theorem dX6_fits_42 : decode cX6_fits 42 = .ok (.iload_n 2, 1) := by decide +kernel
theorem dX6_fits_43 : decode cX6_fits 43 = .ok (.invokevirtual 74, 3) := by decide +kernel
theorem dX6_fits_46 : decode cX6_fits 46 = .ok (.ifCond .eq 7, 3) := by decide +kernel
theorem dX6_fits_49 : decode cX6_fits 49 = .ok (.iconst 1, 1) := by decide +kernel
theorem dX6_fits_50 : decode cX6_fits 50 = .ok (.goto 4, 3) := by decide +kernel
theorem dX6_fits_53 : decode cX6_fits 53 = .ok (.iconst 0, 1) := by decide +kernel
theorem dX6_fits_54 : decode cX6_fits 54 = .ok (.ireturn, 1) := by decide +kernel
theorem dX6_ways_0 : decode cX6_ways 0 = .ok (.aload_n 0, 1) := by decide +kernel
theorem dX6_ways_1 : decode cX6_ways 1 = .ok (.invokevirtual 116, 3) := by decide +kernel
theorem dX6_ways_4 : decode cX6_ways 4 = .ok (.iconst (-1), 1) := by decide +kernel
theorem dX6_ways_5 : decode cX6_ways 5 = .ok (.if_icmp .ne 7, 3) := by decide +kernel
theorem dX6_ways_8 : decode cX6_ways 8 = .ok (.lconst 0, 1) := by decide +kernel
theorem dX6_ways_9 : decode cX6_ways 9 = .ok (.goto 9, 3) := by decide +kernel
theorem dX6_ways_12 : decode cX6_ways 12 = .ok (.aload_n 0, 1) := by decide +kernel
theorem dX6_ways_13 : decode cX6_ways 13 = .ok (.getfield 35, 3) := by decide +kernel
theorem dX6_ways_16 : decode cX6_ways 16 = .ok (.iconst 0, 1) := by decide +kernel
theorem dX6_ways_17 : decode cX6_ways 17 = .ok (.laload, 1) := by decide +kernel
theorem dX6_ways_18 : decode cX6_ways 18 = .ok (.lreturn, 1) := by decide +kernel
theorem dX6_without_0 : decode cX6_without 0 = .ok (.aload_n 0, 1) := by decide +kernel
theorem dX6_without_1 : decode cX6_without 1 = .ok (.iload_n 1, 1) := by decide +kernel
theorem dX6_without_2 : decode cX6_without 2 = .ok (.invokevirtual 165, 3) := by decide +kernel
theorem dX6_without_5 : decode cX6_without 5 = .ok (.ifCond .ne 6, 3) := by decide +kernel
theorem dX6_without_8 : decode cX6_without 8 = .ok (.ldc 168, 2) := by decide +kernel
theorem dX6_without_10 : decode cX6_without 10 = .ok (.ireturn, 1) := by decide +kernel
theorem dX6_without_11 : decode cX6_without 11 = .ok (.aload_n 0, 1) := by decide +kernel
theorem dX6_without_12 : decode cX6_without 12 = .ok (.getfield 7, 3) := by decide +kernel
theorem dX6_without_15 : decode cX6_without 15 = .ok (.iconst 0, 1) := by decide +kernel
theorem dX6_without_16 : decode cX6_without 16 = .ok (.aload_n 0, 1) := by decide +kernel
theorem dX6_without_17 : decode cX6_without 17 = .ok (.getfield 13, 3) := by decide +kernel
theorem dX6_without_20 : decode cX6_without 20 = .ok (.iconst 0, 1) := by decide +kernel
theorem dX6_without_21 : decode cX6_without 21 = .ok (.bipush 47, 2) := by decide +kernel
theorem dX6_without_23 : decode cX6_without 23 = .ok (.invokestatic 149, 3) := by decide +kernel
theorem dX6_without_26 : decode cX6_without 26 = .ok (.aload_n 0, 1) := by decide +kernel
theorem dX6_without_27 : decode cX6_without 27 = .ok (.iload_n 1, 1) := by decide +kernel
theorem dX6_without_28 : decode cX6_without 28 = .ok (.invokevirtual 169, 3) := by decide +kernel
theorem dX6_without_31 : decode cX6_without 31 = .ok (.aload_n 0, 1) := by decide +kernel
theorem dX6_without_32 : decode cX6_without 32 = .ok (.invokevirtual 116, 3) := by decide +kernel
theorem dX6_without_35 : decode cX6_without 35 = .ok (.istore_n 2, 1) := by decide +kernel
theorem dX6_without_36 : decode cX6_without 36 = .ok (.aload_n 0, 1) := by decide +kernel
theorem dX6_without_37 : decode cX6_without 37 = .ok (.getfield 13, 3) := by decide +kernel
theorem dX6_without_40 : decode cX6_without 40 = .ok (.iconst 0, 1) := by decide +kernel
theorem dX6_without_41 : decode cX6_without 41 = .ok (.aload_n 0, 1) := by decide +kernel
theorem dX6_without_42 : decode cX6_without 42 = .ok (.getfield 7, 3) := by decide +kernel
theorem dX6_without_45 : decode cX6_without 45 = .ok (.iconst 0, 1) := by decide +kernel
theorem dX6_without_46 : decode cX6_without 46 = .ok (.bipush 47, 2) := by decide +kernel
theorem dX6_without_48 : decode cX6_without 48 = .ok (.invokestatic 149, 3) := by decide +kernel
theorem dX6_without_51 : decode cX6_without 51 = .ok (.iload_n 2, 1) := by decide +kernel
theorem dX6_without_52 : decode cX6_without 52 = .ok (.ireturn, 1) := by decide +kernel
theorem dX6_moved_0 : decode cX6_moved 0 = .ok (.aload_n 0, 1) := by decide +kernel
theorem dX6_moved_1 : decode cX6_moved 1 = .ok (.iload_n 1, 1) := by decide +kernel
theorem dX6_moved_2 : decode cX6_moved 2 = .ok (.invokevirtual 165, 3) := by decide +kernel
theorem dX6_moved_5 : decode cX6_moved 5 = .ok (.ifCond .ne 6, 3) := by decide +kernel
theorem dX6_moved_8 : decode cX6_moved 8 = .ok (.ldc 168, 2) := by decide +kernel
theorem dX6_moved_10 : decode cX6_moved 10 = .ok (.ireturn, 1) := by decide +kernel
theorem dX6_moved_11 : decode cX6_moved 11 = .ok (.iload_n 2, 1) := by decide +kernel
theorem dX6_moved_12 : decode cX6_moved 12 = .ok (.iconst 0, 1) := by decide +kernel
theorem dX6_moved_13 : decode cX6_moved 13 = .ok (.bipush 119, 2) := by decide +kernel
theorem dX6_moved_15 : decode cX6_moved 15 = .ok (.invokestatic 51, 3) := by decide +kernel
theorem dX6_moved_18 : decode cX6_moved 18 = .ok (.ifCond .ne 6, 3) := by decide +kernel
theorem dX6_moved_21 : decode cX6_moved 21 = .ok (.ldc 156, 2) := by decide +kernel
theorem dX6_moved_23 : decode cX6_moved 23 = .ok (.ireturn, 1) := by decide +kernel
theorem dX6_moved_24 : decode cX6_moved 24 = .ok (.aload_n 0, 1) := by decide +kernel
theorem dX6_moved_25 : decode cX6_moved 25 = .ok (.getfield 7, 3) := by decide +kernel
theorem dX6_moved_28 : decode cX6_moved 28 = .ok (.bipush 7, 2) := by decide +kernel
theorem dX6_moved_30 : decode cX6_moved 30 = .ok (.iconst 4, 1) := by decide +kernel
theorem dX6_moved_31 : decode cX6_moved 31 = .ok (.iload_n 1, 1) := by decide +kernel
theorem dX6_moved_32 : decode cX6_moved 32 = .ok (.imul, 1) := by decide +kernel
theorem dX6_moved_33 : decode cX6_moved 33 = .ok (.iadd, 1) := by decide +kernel
theorem dX6_moved_34 : decode cX6_moved 34 = .ok (.iconst 2, 1) := by decide +kernel
theorem dX6_moved_35 : decode cX6_moved 35 = .ok (.iadd, 1) := by decide +kernel
theorem dX6_moved_36 : decode cX6_moved 36 = .ok (.iaload, 1) := by decide +kernel
theorem dX6_moved_37 : decode cX6_moved 37 = .ok (.istore_n 3, 1) := by decide +kernel
theorem dX6_moved_38 : decode cX6_moved 38 = .ok (.aload_n 0, 1) := by decide +kernel
theorem dX6_moved_39 : decode cX6_moved 39 = .ok (.getfield 7, 3) := by decide +kernel
theorem dX6_moved_42 : decode cX6_moved 42 = .ok (.bipush 7, 2) := by decide +kernel
theorem dX6_moved_44 : decode cX6_moved 44 = .ok (.iconst 4, 1) := by decide +kernel
theorem dX6_moved_45 : decode cX6_moved 45 = .ok (.iload_n 1, 1) := by decide +kernel
theorem dX6_moved_46 : decode cX6_moved 46 = .ok (.imul, 1) := by decide +kernel
theorem dX6_moved_47 : decode cX6_moved 47 = .ok (.iadd, 1) := by decide +kernel
theorem dX6_moved_48 : decode cX6_moved 48 = .ok (.iconst 2, 1) := by decide +kernel
theorem dX6_moved_49 : decode cX6_moved 49 = .ok (.iadd, 1) := by decide +kernel
theorem dX6_moved_50 : decode cX6_moved 50 = .ok (.iload_n 2, 1) := by decide +kernel
theorem dX6_moved_51 : decode cX6_moved 51 = .ok (.iastore, 1) := by decide +kernel
theorem dX6_moved_52 : decode cX6_moved 52 = .ok (.aload_n 0, 1) := by decide +kernel
theorem dX6_moved_53 : decode cX6_moved 53 = .ok (.invokevirtual 116, 3) := by decide +kernel
theorem dX6_moved_56 : decode cX6_moved 56 = .ok (.istore 4, 2) := by decide +kernel
theorem dX6_moved_58 : decode cX6_moved 58 = .ok (.aload_n 0, 1) := by decide +kernel
theorem dX6_moved_59 : decode cX6_moved 59 = .ok (.getfield 7, 3) := by decide +kernel
theorem dX6_moved_62 : decode cX6_moved 62 = .ok (.bipush 7, 2) := by decide +kernel
theorem dX6_moved_64 : decode cX6_moved 64 = .ok (.iconst 4, 1) := by decide +kernel
theorem dX6_moved_65 : decode cX6_moved 65 = .ok (.iload_n 1, 1) := by decide +kernel
theorem dX6_moved_66 : decode cX6_moved 66 = .ok (.imul, 1) := by decide +kernel
theorem dX6_moved_67 : decode cX6_moved 67 = .ok (.iadd, 1) := by decide +kernel
theorem dX6_moved_68 : decode cX6_moved 68 = .ok (.iconst 2, 1) := by decide +kernel
theorem dX6_moved_69 : decode cX6_moved 69 = .ok (.iadd, 1) := by decide +kernel
theorem dX6_moved_70 : decode cX6_moved 70 = .ok (.iload_n 3, 1) := by decide +kernel
theorem dX6_moved_71 : decode cX6_moved 71 = .ok (.iastore, 1) := by decide +kernel
theorem dX6_moved_72 : decode cX6_moved 72 = .ok (.iload 4, 2) := by decide +kernel
theorem dX6_moved_74 : decode cX6_moved 74 = .ok (.ireturn, 1) := by decide +kernel
theorem dX6_from_0 : decode cX6_from 0 = .ok (.iload_n 3, 1) := by decide +kernel
theorem dX6_from_1 : decode cX6_from 1 = .ok (.iconst 0, 1) := by decide +kernel
theorem dX6_from_2 : decode cX6_from 2 = .ok (.iconst 1, 1) := by decide +kernel
theorem dX6_from_3 : decode cX6_from 3 = .ok (.invokestatic 51, 3) := by decide +kernel
theorem dX6_from_6 : decode cX6_from 6 = .ok (.ifCond .ne 6, 3) := by decide +kernel
theorem dX6_from_9 : decode cX6_from 9 = .ok (.ldc 156, 2) := by decide +kernel
theorem dX6_from_11 : decode cX6_from 11 = .ok (.ireturn, 1) := by decide +kernel
theorem dX6_from_12 : decode cX6_from 12 = .ok (.iload_n 1, 1) := by decide +kernel
theorem dX6_from_13 : decode cX6_from 13 = .ok (.iconst 0, 1) := by decide +kernel
theorem dX6_from_14 : decode cX6_from 14 = .ok (.aload_n 0, 1) := by decide +kernel
theorem dX6_from_15 : decode cX6_from 15 = .ok (.getfield 7, 3) := by decide +kernel
theorem dX6_from_18 : decode cX6_from 18 = .ok (.iconst 0, 1) := by decide +kernel
theorem dX6_from_19 : decode cX6_from 19 = .ok (.iaload, 1) := by decide +kernel
theorem dX6_from_20 : decode cX6_from 20 = .ok (.invokestatic 51, 3) := by decide +kernel
theorem dX6_from_23 : decode cX6_from 23 = .ok (.ifCond .eq 39, 3) := by decide +kernel
theorem dX6_from_26 : decode cX6_from 26 = .ok (.iload_n 2, 1) := by decide +kernel
theorem dX6_from_27 : decode cX6_from 27 = .ok (.iconst 0, 1) := by decide +kernel
theorem dX6_from_28 : decode cX6_from 28 = .ok (.aload_n 0, 1) := by decide +kernel
theorem dX6_from_29 : decode cX6_from 29 = .ok (.getfield 7, 3) := by decide +kernel
theorem dX6_from_32 : decode cX6_from 32 = .ok (.bipush 6, 2) := by decide +kernel
theorem dX6_from_34 : decode cX6_from 34 = .ok (.iaload, 1) := by decide +kernel
theorem dX6_from_35 : decode cX6_from 35 = .ok (.invokestatic 51, 3) := by decide +kernel
theorem dX6_from_38 : decode cX6_from 38 = .ok (.ifCond .eq 24, 3) := by decide +kernel
theorem dX6_from_41 : decode cX6_from 41 = .ok (.aload_n 0, 1) := by decide +kernel
theorem dX6_from_42 : decode cX6_from 42 = .ok (.invokevirtual 189, 3) := by decide +kernel
theorem dX6_from_45 : decode cX6_from 45 = .ok (.ifCond .eq 17, 3) := by decide +kernel
theorem dX6_from_48 : decode cX6_from 48 = .ok (.aload_n 0, 1) := by decide +kernel
theorem dX6_from_49 : decode cX6_from 49 = .ok (.getfield 39, 3) := by decide +kernel
theorem dX6_from_52 : decode cX6_from 52 = .ok (.bipush 11, 2) := by decide +kernel
theorem dX6_from_54 : decode cX6_from 54 = .ok (.iload_n 1, 1) := by decide +kernel
theorem dX6_from_55 : decode cX6_from 55 = .ok (.imul, 1) := by decide +kernel
theorem dX6_from_56 : decode cX6_from 56 = .ok (.iload_n 2, 1) := by decide +kernel
theorem dX6_from_57 : decode cX6_from 57 = .ok (.iadd, 1) := by decide +kernel
theorem dX6_from_58 : decode cX6_from 58 = .ok (.baload, 1) := by decide +kernel
theorem dX6_from_59 : decode cX6_from 59 = .ok (.ifCond .ne 5, 3) := by decide +kernel
theorem dX6_from_62 : decode cX6_from 62 = .ok (.iconst (-1), 1) := by decide +kernel
theorem dX6_from_63 : decode cX6_from 63 = .ok (.ireturn, 1) := by decide +kernel
theorem dX6_from_64 : decode cX6_from 64 = .ok (.iload_n 3, 1) := by decide +kernel
theorem dX6_from_65 : decode cX6_from 65 = .ok (.ifCond .ne 17, 3) := by decide +kernel
theorem dX6_from_68 : decode cX6_from 68 = .ok (.aload_n 0, 1) := by decide +kernel
theorem dX6_from_69 : decode cX6_from 69 = .ok (.getfield 29, 3) := by decide +kernel
theorem dX6_from_72 : decode cX6_from 72 = .ok (.bipush 11, 2) := by decide +kernel
theorem dX6_from_74 : decode cX6_from 74 = .ok (.iload_n 1, 1) := by decide +kernel
theorem dX6_from_75 : decode cX6_from 75 = .ok (.imul, 1) := by decide +kernel
theorem dX6_from_76 : decode cX6_from 76 = .ok (.iload_n 2, 1) := by decide +kernel
theorem dX6_from_77 : decode cX6_from 77 = .ok (.iadd, 1) := by decide +kernel
theorem dX6_from_78 : decode cX6_from 78 = .ok (.iaload, 1) := by decide +kernel
theorem dX6_from_79 : decode cX6_from 79 = .ok (.goto 14, 3) := by decide +kernel
theorem dX6_from_82 : decode cX6_from 82 = .ok (.aload_n 0, 1) := by decide +kernel
theorem dX6_from_83 : decode cX6_from 83 = .ok (.getfield 32, 3) := by decide +kernel
theorem dX6_from_86 : decode cX6_from 86 = .ok (.bipush 11, 2) := by decide +kernel
theorem dX6_from_88 : decode cX6_from 88 = .ok (.iload_n 1, 1) := by decide +kernel
theorem dX6_from_89 : decode cX6_from 89 = .ok (.imul, 1) := by decide +kernel
theorem dX6_from_90 : decode cX6_from 90 = .ok (.iload_n 2, 1) := by decide +kernel
theorem dX6_from_91 : decode cX6_from 91 = .ok (.iadd, 1) := by decide +kernel
theorem dX6_from_92 : decode cX6_from 92 = .ok (.iaload, 1) := by decide +kernel
theorem dX6_from_93 : decode cX6_from 93 = .ok (.ireturn, 1) := by decide +kernel
theorem dX6_hand_0 : decode cX6_hand 0 = .ok (.iload_n 1, 1) := by decide +kernel
theorem dX6_hand_1 : decode cX6_hand 1 = .ok (.iconst 0, 1) := by decide +kernel
theorem dX6_hand_2 : decode cX6_hand 2 = .ok (.iconst 4, 1) := by decide +kernel
theorem dX6_hand_3 : decode cX6_hand 3 = .ok (.invokestatic 51, 3) := by decide +kernel
theorem dX6_hand_6 : decode cX6_hand 6 = .ok (.ifCond .ne 6, 3) := by decide +kernel
theorem dX6_hand_9 : decode cX6_hand 9 = .ok (.ldc 156, 2) := by decide +kernel
theorem dX6_hand_11 : decode cX6_hand 11 = .ok (.ireturn, 1) := by decide +kernel
theorem dX6_hand_12 : decode cX6_hand 12 = .ok (.aload_n 0, 1) := by decide +kernel
theorem dX6_hand_13 : decode cX6_hand 13 = .ok (.getfield 195, 3) := by decide +kernel
theorem dX6_hand_16 : decode cX6_hand 16 = .ok (.bipush 30, 2) := by decide +kernel
theorem dX6_hand_18 : decode cX6_hand 18 = .ok (.if_icmp .ne 6, 3) := by decide +kernel
theorem dX6_hand_21 : decode cX6_hand 21 = .ok (.ldc 160, 2) := by decide +kernel
theorem dX6_hand_23 : decode cX6_hand 23 = .ok (.ireturn, 1) := by decide +kernel
theorem dX6_hand_24 : decode cX6_hand 24 = .ok (.aload_n 0, 1) := by decide +kernel
theorem dX6_hand_25 : decode cX6_hand 25 = .ok (.getfield 26, 3) := by decide +kernel
theorem dX6_hand_28 : decode cX6_hand 28 = .ok (.aload_n 0, 1) := by decide +kernel
theorem dX6_hand_29 : decode cX6_hand 29 = .ok (.getfield 195, 3) := by decide +kernel
theorem dX6_hand_32 : decode cX6_hand 32 = .ok (.iload_n 1, 1) := by decide +kernel
theorem dX6_hand_33 : decode cX6_hand 33 = .ok (.iastore, 1) := by decide +kernel
theorem dX6_hand_34 : decode cX6_hand 34 = .ok (.aload_n 0, 1) := by decide +kernel
theorem dX6_hand_35 : decode cX6_hand 35 = .ok (.dup, 1) := by decide +kernel
theorem dX6_hand_36 : decode cX6_hand 36 = .ok (.getfield 195, 3) := by decide +kernel
theorem dX6_hand_39 : decode cX6_hand 39 = .ok (.iconst 1, 1) := by decide +kernel
theorem dX6_hand_40 : decode cX6_hand 40 = .ok (.iadd, 1) := by decide +kernel
theorem dX6_hand_41 : decode cX6_hand 41 = .ok (.putfield 195, 3) := by decide +kernel
theorem dX6_hand_44 : decode cX6_hand 44 = .ok (.aload_n 0, 1) := by decide +kernel
theorem dX6_hand_45 : decode cX6_hand 45 = .ok (.getfield 195, 3) := by decide +kernel
theorem dX6_hand_48 : decode cX6_hand 48 = .ok (.ireturn, 1) := by decide +kernel
theorem dX6_clear_0 : decode cX6_clear 0 = .ok (.aload_n 0, 1) := by decide +kernel
theorem dX6_clear_1 : decode cX6_clear 1 = .ok (.getfield 195, 3) := by decide +kernel
theorem dX6_clear_4 : decode cX6_clear 4 = .ok (.istore_n 1, 1) := by decide +kernel
theorem dX6_clear_5 : decode cX6_clear 5 = .ok (.aload_n 0, 1) := by decide +kernel
theorem dX6_clear_6 : decode cX6_clear 6 = .ok (.iconst 0, 1) := by decide +kernel
theorem dX6_clear_7 : decode cX6_clear 7 = .ok (.putfield 195, 3) := by decide +kernel
theorem dX6_clear_10 : decode cX6_clear 10 = .ok (.iload_n 1, 1) := by decide +kernel
theorem dX6_clear_11 : decode cX6_clear 11 = .ok (.ireturn, 1) := by decide +kernel
theorem dX6_judge_0 : decode cX6_judge 0 = .ok (.iload_n 1, 1) := by decide +kernel
theorem dX6_judge_1 : decode cX6_judge 1 = .ok (.iconst 0, 1) := by decide +kernel
theorem dX6_judge_2 : decode cX6_judge 2 = .ok (.iconst 1, 1) := by decide +kernel
theorem dX6_judge_3 : decode cX6_judge 3 = .ok (.invokestatic 51, 3) := by decide +kernel
theorem dX6_judge_6 : decode cX6_judge 6 = .ok (.ifCond .ne 6, 3) := by decide +kernel
theorem dX6_judge_9 : decode cX6_judge 9 = .ok (.ldc 156, 2) := by decide +kernel
theorem dX6_judge_11 : decode cX6_judge 11 = .ok (.ireturn, 1) := by decide +kernel
theorem dX6_judge_12 : decode cX6_judge 12 = .ok (.aload_n 0, 1) := by decide +kernel
theorem dX6_judge_13 : decode cX6_judge 13 = .ok (.iconst 0, 1) := by decide +kernel
theorem dX6_judge_14 : decode cX6_judge 14 = .ok (.putfield 112, 3) := by decide +kernel
theorem dX6_judge_17 : decode cX6_judge 17 = .ok (.iconst 0, 1) := by decide +kernel
theorem dX6_judge_18 : decode cX6_judge 18 = .ok (.istore_n 2, 1) := by decide +kernel
theorem dX6_judge_19 : decode cX6_judge 19 = .ok (.iconst 0, 1) := by decide +kernel
theorem dX6_judge_20 : decode cX6_judge 20 = .ok (.istore_n 3, 1) := by decide +kernel
theorem dX6_judge_21 : decode cX6_judge 21 = .ok (.iconst 0, 1) := by decide +kernel
theorem dX6_judge_22 : decode cX6_judge 22 = .ok (.istore 4, 2) := by decide +kernel
theorem dX6_judge_24 : decode cX6_judge 24 = .ok (.iload 4, 2) := by decide +kernel
theorem dX6_judge_26 : decode cX6_judge 26 = .ok (.aload_n 0, 1) := by decide +kernel
theorem dX6_judge_27 : decode cX6_judge 27 = .ok (.getfield 195, 3) := by decide +kernel
theorem dX6_judge_30 : decode cX6_judge 30 = .ok (.if_icmp .ge 102, 3) := by decide +kernel
theorem dX6_judge_33 : decode cX6_judge 33 = .ok (.iload_n 2, 1) := by decide +kernel
theorem dX6_judge_34 : decode cX6_judge 34 = .ok (.aload_n 0, 1) := by decide +kernel
theorem dX6_judge_35 : decode cX6_judge 35 = .ok (.getfield 7, 3) := by decide +kernel
theorem dX6_judge_38 : decode cX6_judge 38 = .ok (.iconst 0, 1) := by decide +kernel
theorem dX6_judge_39 : decode cX6_judge 39 = .ok (.iaload, 1) := by decide +kernel
theorem dX6_judge_40 : decode cX6_judge 40 = .ok (.if_icmp .ne 18, 3) := by decide +kernel
theorem dX6_judge_43 : decode cX6_judge 43 = .ok (.iload_n 3, 1) := by decide +kernel
theorem dX6_judge_44 : decode cX6_judge 44 = .ok (.aload_n 0, 1) := by decide +kernel
theorem dX6_judge_45 : decode cX6_judge 45 = .ok (.getfield 7, 3) := by decide +kernel
theorem dX6_judge_48 : decode cX6_judge 48 = .ok (.bipush 6, 2) := by decide +kernel
theorem dX6_judge_50 : decode cX6_judge 50 = .ok (.iaload, 1) := by decide +kernel
theorem dX6_judge_51 : decode cX6_judge 51 = .ok (.if_icmp .ne 7, 3) := by decide +kernel
theorem dX6_judge_54 : decode cX6_judge 54 = .ok (.iconst 1, 1) := by decide +kernel
theorem dX6_judge_55 : decode cX6_judge 55 = .ok (.goto 4, 3) := by decide +kernel
theorem dX6_judge_58 : decode cX6_judge 58 = .ok (.iconst 0, 1) := by decide +kernel
theorem dX6_judge_59 : decode cX6_judge 59 = .ok (.istore 5, 2) := by decide +kernel
theorem dX6_judge_61 : decode cX6_judge 61 = .ok (.iload 5, 2) := by decide +kernel
theorem dX6_judge_63 : decode cX6_judge 63 = .ok (.ifCond .ne 19, 3) := by decide +kernel
theorem dX6_judge_66 : decode cX6_judge 66 = .ok (.aload_n 0, 1) := by decide +kernel
theorem dX6_judge_67 : decode cX6_judge 67 = .ok (.iload_n 2, 1) := by decide +kernel
theorem dX6_judge_68 : decode cX6_judge 68 = .ok (.iload_n 3, 1) := by decide +kernel
theorem dX6_judge_69 : decode cX6_judge 69 = .ok (.aload_n 0, 1) := by decide +kernel
theorem dX6_judge_70 : decode cX6_judge 70 = .ok (.getfield 26, 3) := by decide +kernel
theorem dX6_judge_73 : decode cX6_judge 73 = .ok (.iload 4, 2) := by decide +kernel
theorem dX6_judge_75 : decode cX6_judge 75 = .ok (.iaload, 1) := by decide +kernel
theorem dX6_judge_76 : decode cX6_judge 76 = .ok (.invokevirtual 99, 3) := by decide +kernel
theorem dX6_judge_79 : decode cX6_judge 79 = .ok (.ifCond .ne 16, 3) := by decide +kernel
theorem dX6_judge_82 : decode cX6_judge 82 = .ok (.iload_n 1, 1) := by decide +kernel
theorem dX6_judge_83 : decode cX6_judge 83 = .ok (.ifCond .ne 10, 3) := by decide +kernel
theorem dX6_judge_86 : decode cX6_judge 86 = .ok (.iload 4, 2) := by decide +kernel
theorem dX6_judge_88 : decode cX6_judge 88 = .ok (.iconst 1, 1) := by decide +kernel
theorem dX6_judge_89 : decode cX6_judge 89 = .ok (.iadd, 1) := by decide +kernel
theorem dX6_judge_90 : decode cX6_judge 90 = .ok (.goto 4, 3) := by decide +kernel
theorem dX6_judge_93 : decode cX6_judge 93 = .ok (.iconst (-1), 1) := by decide +kernel
theorem dX6_judge_94 : decode cX6_judge 94 = .ok (.ireturn, 1) := by decide +kernel
theorem dX6_judge_95 : decode cX6_judge 95 = .ok (.aload_n 0, 1) := by decide +kernel
theorem dX6_judge_96 : decode cX6_judge 96 = .ok (.iload_n 2, 1) := by decide +kernel
theorem dX6_judge_97 : decode cX6_judge 97 = .ok (.iload_n 3, 1) := by decide +kernel
theorem dX6_judge_98 : decode cX6_judge 98 = .ok (.aload_n 0, 1) := by decide +kernel
theorem dX6_judge_99 : decode cX6_judge 99 = .ok (.getfield 26, 3) := by decide +kernel
theorem dX6_judge_102 : decode cX6_judge 102 = .ok (.iload 4, 2) := by decide +kernel
theorem dX6_judge_104 : decode cX6_judge 104 = .ok (.iaload, 1) := by decide +kernel
theorem dX6_judge_105 : decode cX6_judge 105 = .ok (.invokevirtual 123, 3) := by decide +kernel
theorem dX6_judge_108 : decode cX6_judge 108 = .ok (.aload_n 0, 1) := by decide +kernel
theorem dX6_judge_109 : decode cX6_judge 109 = .ok (.getfield 45, 3) := by decide +kernel
theorem dX6_judge_112 : decode cX6_judge 112 = .ok (.iload 4, 2) := by decide +kernel
theorem dX6_judge_114 : decode cX6_judge 114 = .ok (.iaload, 1) := by decide +kernel
theorem dX6_judge_115 : decode cX6_judge 115 = .ok (.istore_n 2, 1) := by decide +kernel
theorem dX6_judge_116 : decode cX6_judge 116 = .ok (.iload_n 3, 1) := by decide +kernel
theorem dX6_judge_117 : decode cX6_judge 117 = .ok (.aload_n 0, 1) := by decide +kernel
theorem dX6_judge_118 : decode cX6_judge 118 = .ok (.getfield 26, 3) := by decide +kernel
theorem dX6_judge_121 : decode cX6_judge 121 = .ok (.iload 4, 2) := by decide +kernel
theorem dX6_judge_123 : decode cX6_judge 123 = .ok (.iaload, 1) := by decide +kernel
theorem dX6_judge_124 : decode cX6_judge 124 = .ok (.iadd, 1) := by decide +kernel
theorem dX6_judge_125 : decode cX6_judge 125 = .ok (.istore_n 3, 1) := by decide +kernel
theorem dX6_judge_126 : decode cX6_judge 126 = .ok (.iinc 4 1, 3) := by decide +kernel
theorem dX6_judge_129 : decode cX6_judge 129 = .ok (.goto (-105), 3) := by decide +kernel
theorem dX6_judge_132 : decode cX6_judge 132 = .ok (.iload_n 2, 1) := by decide +kernel
theorem dX6_judge_133 : decode cX6_judge 133 = .ok (.aload_n 0, 1) := by decide +kernel
theorem dX6_judge_134 : decode cX6_judge 134 = .ok (.getfield 7, 3) := by decide +kernel
theorem dX6_judge_137 : decode cX6_judge 137 = .ok (.iconst 0, 1) := by decide +kernel
theorem dX6_judge_138 : decode cX6_judge 138 = .ok (.iaload, 1) := by decide +kernel
theorem dX6_judge_139 : decode cX6_judge 139 = .ok (.if_icmp .ne 18, 3) := by decide +kernel
theorem dX6_judge_142 : decode cX6_judge 142 = .ok (.iload_n 3, 1) := by decide +kernel
theorem dX6_judge_143 : decode cX6_judge 143 = .ok (.aload_n 0, 1) := by decide +kernel
theorem dX6_judge_144 : decode cX6_judge 144 = .ok (.getfield 7, 3) := by decide +kernel
theorem dX6_judge_147 : decode cX6_judge 147 = .ok (.bipush 6, 2) := by decide +kernel
theorem dX6_judge_149 : decode cX6_judge 149 = .ok (.iaload, 1) := by decide +kernel
theorem dX6_judge_150 : decode cX6_judge 150 = .ok (.if_icmp .ne 7, 3) := by decide +kernel
theorem dX6_judge_153 : decode cX6_judge 153 = .ok (.iconst 1, 1) := by decide +kernel
theorem dX6_judge_154 : decode cX6_judge 154 = .ok (.goto 4, 3) := by decide +kernel
theorem dX6_judge_157 : decode cX6_judge 157 = .ok (.iconst 0, 1) := by decide +kernel
theorem dX6_judge_158 : decode cX6_judge 158 = .ok (.istore 4, 2) := by decide +kernel
theorem dX6_judge_160 : decode cX6_judge 160 = .ok (.iload_n 1, 1) := by decide +kernel
theorem dX6_judge_161 : decode cX6_judge 161 = .ok (.ifCond .ne 19, 3) := by decide +kernel
theorem dX6_judge_164 : decode cX6_judge 164 = .ok (.iload 4, 2) := by decide +kernel
theorem dX6_judge_166 : decode cX6_judge 166 = .ok (.ifCond .eq 7, 3) := by decide +kernel
theorem dX6_judge_169 : decode cX6_judge 169 = .ok (.iconst 0, 1) := by decide +kernel
theorem dX6_judge_170 : decode cX6_judge 170 = .ok (.goto 9, 3) := by decide +kernel
theorem dX6_judge_173 : decode cX6_judge 173 = .ok (.aload_n 0, 1) := by decide +kernel
theorem dX6_judge_174 : decode cX6_judge 174 = .ok (.getfield 195, 3) := by decide +kernel
theorem dX6_judge_177 : decode cX6_judge 177 = .ok (.iconst 1, 1) := by decide +kernel
theorem dX6_judge_178 : decode cX6_judge 178 = .ok (.iadd, 1) := by decide +kernel
theorem dX6_judge_179 : decode cX6_judge 179 = .ok (.ireturn, 1) := by decide +kernel
theorem dX6_judge_180 : decode cX6_judge 180 = .ok (.iload 4, 2) := by decide +kernel
theorem dX6_judge_182 : decode cX6_judge 182 = .ok (.ifCond .eq 10, 3) := by decide +kernel
theorem dX6_judge_185 : decode cX6_judge 185 = .ok (.aload_n 0, 1) := by decide +kernel
theorem dX6_judge_186 : decode cX6_judge 186 = .ok (.invokevirtual 186, 3) := by decide +kernel
theorem dX6_judge_189 : decode cX6_judge 189 = .ok (.goto 4, 3) := by decide +kernel
theorem dX6_judge_192 : decode cX6_judge 192 = .ok (.iconst (-1), 1) := by decide +kernel
theorem dX6_judge_193 : decode cX6_judge 193 = .ok (.ireturn, 1) := by decide +kernel
theorem dX6_keep_0 : decode cX6_keep 0 = .ok (.iload_n 1, 1) := by decide +kernel
theorem dX6_keep_1 : decode cX6_keep 1 = .ok (.iconst 0, 1) := by decide +kernel
theorem dX6_keep_2 : decode cX6_keep 2 = .ok (.iconst 1, 1) := by decide +kernel
theorem dX6_keep_3 : decode cX6_keep 3 = .ok (.invokestatic 51, 3) := by decide +kernel
theorem dX6_keep_6 : decode cX6_keep 6 = .ok (.ifCond .ne 6, 3) := by decide +kernel
theorem dX6_keep_9 : decode cX6_keep 9 = .ok (.ldc 168, 2) := by decide +kernel
theorem dX6_keep_11 : decode cX6_keep 11 = .ok (.ireturn, 1) := by decide +kernel
theorem dX6_keep_12 : decode cX6_keep 12 = .ok (.aload_n 0, 1) := by decide +kernel
theorem dX6_keep_13 : decode cX6_keep 13 = .ok (.getfield 7, 3) := by decide +kernel
theorem dX6_keep_16 : decode cX6_keep 16 = .ok (.iconst 0, 1) := by decide +kernel
theorem dX6_keep_17 : decode cX6_keep 17 = .ok (.aload_n 0, 1) := by decide +kernel
theorem dX6_keep_18 : decode cX6_keep 18 = .ok (.getfield 19, 3) := by decide +kernel
theorem dX6_keep_21 : decode cX6_keep 21 = .ok (.bipush 47, 2) := by decide +kernel
theorem dX6_keep_23 : decode cX6_keep 23 = .ok (.iload_n 1, 1) := by decide +kernel
theorem dX6_keep_24 : decode cX6_keep 24 = .ok (.imul, 1) := by decide +kernel
theorem dX6_keep_25 : decode cX6_keep 25 = .ok (.bipush 47, 2) := by decide +kernel
theorem dX6_keep_27 : decode cX6_keep 27 = .ok (.invokestatic 149, 3) := by decide +kernel
theorem dX6_keep_30 : decode cX6_keep 30 = .ok (.aload_n 0, 1) := by decide +kernel
theorem dX6_keep_31 : decode cX6_keep 31 = .ok (.getfield 22, 3) := by decide +kernel
theorem dX6_keep_34 : decode cX6_keep 34 = .ok (.iload_n 1, 1) := by decide +kernel
theorem dX6_keep_35 : decode cX6_keep 35 = .ok (.iconst 1, 1) := by decide +kernel
theorem dX6_keep_36 : decode cX6_keep 36 = .ok (.bastore, 1) := by decide +kernel
theorem dX6_keep_37 : decode cX6_keep 37 = .ok (.aload_n 0, 1) := by decide +kernel
theorem dX6_keep_38 : decode cX6_keep 38 = .ok (.iconst 0, 1) := by decide +kernel
theorem dX6_keep_39 : decode cX6_keep 39 = .ok (.putfield 146, 3) := by decide +kernel
theorem dX6_keep_42 : decode cX6_keep 42 = .ok (.aload_n 0, 1) := by decide +kernel
theorem dX6_keep_43 : decode cX6_keep 43 = .ok (.getfield 7, 3) := by decide +kernel
theorem dX6_keep_46 : decode cX6_keep 46 = .ok (.bipush 6, 2) := by decide +kernel
theorem dX6_keep_48 : decode cX6_keep 48 = .ok (.iaload, 1) := by decide +kernel
theorem dX6_keep_49 : decode cX6_keep 49 = .ok (.ireturn, 1) := by decide +kernel
theorem dX6_goBack_0 : decode cX6_goBack 0 = .ok (.iload_n 1, 1) := by decide +kernel
theorem dX6_goBack_1 : decode cX6_goBack 1 = .ok (.iconst 0, 1) := by decide +kernel
theorem dX6_goBack_2 : decode cX6_goBack 2 = .ok (.iconst 1, 1) := by decide +kernel
theorem dX6_goBack_3 : decode cX6_goBack 3 = .ok (.invokestatic 51, 3) := by decide +kernel
theorem dX6_goBack_6 : decode cX6_goBack 6 = .ok (.ifCond .ne 6, 3) := by decide +kernel
theorem dX6_goBack_9 : decode cX6_goBack 9 = .ok (.ldc 168, 2) := by decide +kernel
theorem dX6_goBack_11 : decode cX6_goBack 11 = .ok (.ireturn, 1) := by decide +kernel
theorem dX6_goBack_12 : decode cX6_goBack 12 = .ok (.aload_n 0, 1) := by decide +kernel
theorem dX6_goBack_13 : decode cX6_goBack 13 = .ok (.getfield 22, 3) := by decide +kernel
theorem dX6_goBack_16 : decode cX6_goBack 16 = .ok (.iload_n 1, 1) := by decide +kernel
theorem dX6_goBack_17 : decode cX6_goBack 17 = .ok (.baload, 1) := by decide +kernel
theorem dX6_goBack_18 : decode cX6_goBack 18 = .ok (.ifCond .ne 6, 3) := by decide +kernel
theorem dX6_goBack_21 : decode cX6_goBack 21 = .ok (.ldc 182, 2) := by decide +kernel
theorem dX6_goBack_23 : decode cX6_goBack 23 = .ok (.ireturn, 1) := by decide +kernel
theorem dX6_goBack_24 : decode cX6_goBack 24 = .ok (.aload_n 0, 1) := by decide +kernel
theorem dX6_goBack_25 : decode cX6_goBack 25 = .ok (.getfield 19, 3) := by decide +kernel
theorem dX6_goBack_28 : decode cX6_goBack 28 = .ok (.bipush 47, 2) := by decide +kernel
theorem dX6_goBack_30 : decode cX6_goBack 30 = .ok (.iload_n 1, 1) := by decide +kernel
theorem dX6_goBack_31 : decode cX6_goBack 31 = .ok (.imul, 1) := by decide +kernel
theorem dX6_goBack_32 : decode cX6_goBack 32 = .ok (.aload_n 0, 1) := by decide +kernel
theorem dX6_goBack_33 : decode cX6_goBack 33 = .ok (.getfield 7, 3) := by decide +kernel
theorem dX6_goBack_36 : decode cX6_goBack 36 = .ok (.iconst 0, 1) := by decide +kernel
theorem dX6_goBack_37 : decode cX6_goBack 37 = .ok (.bipush 47, 2) := by decide +kernel
theorem dX6_goBack_39 : decode cX6_goBack 39 = .ok (.invokestatic 149, 3) := by decide +kernel
theorem dX6_goBack_42 : decode cX6_goBack 42 = .ok (.aload_n 0, 1) := by decide +kernel
theorem dX6_goBack_43 : decode cX6_goBack 43 = .ok (.iconst 0, 1) := by decide +kernel
theorem dX6_goBack_44 : decode cX6_goBack 44 = .ok (.putfield 146, 3) := by decide +kernel
theorem dX6_goBack_47 : decode cX6_goBack 47 = .ok (.aload_n 0, 1) := by decide +kernel
theorem dX6_goBack_48 : decode cX6_goBack 48 = .ok (.getfield 7, 3) := by decide +kernel
theorem dX6_goBack_51 : decode cX6_goBack 51 = .ok (.bipush 6, 2) := by decide +kernel
theorem dX6_goBack_53 : decode cX6_goBack 53 = .ok (.iaload, 1) := by decide +kernel
theorem dX6_goBack_54 : decode cX6_goBack 54 = .ok (.ireturn, 1) := by decide +kernel
theorem dJ9_abs_0f7a4_0 : decode cJ9_abs_0f7a4 0 = .ok (.iload_n 0, 1) := by decide +kernel
theorem dJ9_abs_0f7a4_1 : decode cJ9_abs_0f7a4 1 = .ok (.ifCond .ge 8, 3) := by decide +kernel
theorem dJ9_abs_0f7a4_4 : decode cJ9_abs_0f7a4 4 = .ok (.iload_n 0, 1) := by decide +kernel
theorem dJ9_abs_0f7a4_5 : decode cJ9_abs_0f7a4 5 = .ok (.ineg, 1) := by decide +kernel
theorem dJ9_abs_0f7a4_6 : decode cJ9_abs_0f7a4 6 = .ok (.goto 4, 3) := by decide +kernel
theorem dJ9_abs_0f7a4_9 : decode cJ9_abs_0f7a4 9 = .ok (.iload_n 0, 1) := by decide +kernel
theorem dJ9_abs_0f7a4_10 : decode cJ9_abs_0f7a4 10 = .ok (.ireturn, 1) := by decide +kernel
theorem dJ9_max_7cf53_0 : decode cJ9_max_7cf53 0 = .ok (.iload_n 0, 1) := by decide +kernel
theorem dJ9_max_7cf53_1 : decode cJ9_max_7cf53 1 = .ok (.iload_n 1, 1) := by decide +kernel
theorem dJ9_max_7cf53_2 : decode cJ9_max_7cf53 2 = .ok (.if_icmp .lt 7, 3) := by decide +kernel
theorem dJ9_max_7cf53_5 : decode cJ9_max_7cf53 5 = .ok (.iload_n 0, 1) := by decide +kernel
theorem dJ9_max_7cf53_6 : decode cJ9_max_7cf53 6 = .ok (.goto 4, 3) := by decide +kernel
theorem dJ9_max_7cf53_9 : decode cJ9_max_7cf53 9 = .ok (.iload_n 1, 1) := by decide +kernel
theorem dJ9_max_7cf53_10 : decode cJ9_max_7cf53 10 = .ok (.ireturn, 1) := by decide +kernel
theorem dJ9_min_7cf53_0 : decode cJ9_min_7cf53 0 = .ok (.iload_n 0, 1) := by decide +kernel
theorem dJ9_min_7cf53_1 : decode cJ9_min_7cf53 1 = .ok (.iload_n 1, 1) := by decide +kernel
theorem dJ9_min_7cf53_2 : decode cJ9_min_7cf53 2 = .ok (.if_icmp .gt 7, 3) := by decide +kernel
theorem dJ9_min_7cf53_5 : decode cJ9_min_7cf53 5 = .ok (.iload_n 0, 1) := by decide +kernel
theorem dJ9_min_7cf53_6 : decode cJ9_min_7cf53 6 = .ok (.goto 4, 3) := by decide +kernel
theorem dJ9_min_7cf53_9 : decode cJ9_min_7cf53 9 = .ok (.iload_n 1, 1) := by decide +kernel
theorem dJ9_min_7cf53_10 : decode cJ9_min_7cf53 10 = .ok (.ireturn, 1) := by decide +kernel
theorem dJ7_fill_53178_0 : decode cJ7_fill_53178 0 = .ok (.iconst 0, 1) := by decide +kernel
theorem dJ7_fill_53178_1 : decode cJ7_fill_53178 1 = .ok (.istore_n 2, 1) := by decide +kernel
theorem dJ7_fill_53178_2 : decode cJ7_fill_53178 2 = .ok (.aload_n 0, 1) := by decide +kernel
theorem dJ7_fill_53178_3 : decode cJ7_fill_53178 3 = .ok (.arraylength, 1) := by decide +kernel
theorem dJ7_fill_53178_4 : decode cJ7_fill_53178 4 = .ok (.istore_n 3, 1) := by decide +kernel
theorem dJ7_fill_53178_5 : decode cJ7_fill_53178 5 = .ok (.iload_n 2, 1) := by decide +kernel
theorem dJ7_fill_53178_6 : decode cJ7_fill_53178 6 = .ok (.iload_n 3, 1) := by decide +kernel
theorem dJ7_fill_53178_7 : decode cJ7_fill_53178 7 = .ok (.if_icmp .ge 13, 3) := by decide +kernel
theorem dJ7_fill_53178_10 : decode cJ7_fill_53178 10 = .ok (.aload_n 0, 1) := by decide +kernel
theorem dJ7_fill_53178_11 : decode cJ7_fill_53178 11 = .ok (.iload_n 2, 1) := by decide +kernel
theorem dJ7_fill_53178_12 : decode cJ7_fill_53178 12 = .ok (.iload_n 1, 1) := by decide +kernel
theorem dJ7_fill_53178_13 : decode cJ7_fill_53178 13 = .ok (.iastore, 1) := by decide +kernel
theorem dJ7_fill_53178_14 : decode cJ7_fill_53178 14 = .ok (.iinc 2 1, 3) := by decide +kernel
theorem dJ7_fill_53178_17 : decode cJ7_fill_53178 17 = .ok (.goto (-12), 3) := by decide +kernel
theorem dJ7_fill_53178_20 : decode cJ7_fill_53178 20 = .ok (.return_, 1) := by decide +kernel
theorem dL_law_0 : decode cL_law 0 = .ok (.new 7, 3) := by decide +kernel
theorem dL_law_3 : decode cL_law 3 = .ok (.dup, 1) := by decide +kernel
theorem dL_law_4 : decode cL_law 4 = .ok (.invokespecial 9, 3) := by decide +kernel
theorem dL_law_7 : decode cL_law 7 = .ok (.astore_n 1, 1) := by decide +kernel
theorem dL_law_8 : decode cL_law 8 = .ok (.new 10, 3) := by decide +kernel
theorem dL_law_11 : decode cL_law 11 = .ok (.dup, 1) := by decide +kernel
theorem dL_law_12 : decode cL_law 12 = .ok (.invokespecial 12, 3) := by decide +kernel
theorem dL_law_15 : decode cL_law 15 = .ok (.astore_n 2, 1) := by decide +kernel
theorem dL_law_16 : decode cL_law 16 = .ok (.iconst 0, 1) := by decide +kernel
theorem dL_law_17 : decode cL_law 17 = .ok (.istore_n 3, 1) := by decide +kernel
theorem dL_law_18 : decode cL_law 18 = .ok (.iload_n 3, 1) := by decide +kernel
theorem dL_law_19 : decode cL_law 19 = .ok (.aload_n 0, 1) := by decide +kernel
theorem dL_law_20 : decode cL_law 20 = .ok (.arraylength, 1) := by decide +kernel
theorem dL_law_21 : decode cL_law 21 = .ok (.bipush 6, 2) := by decide +kernel
theorem dL_law_23 : decode cL_law 23 = .ok (.isub, 1) := by decide +kernel
theorem dL_law_24 : decode cL_law 24 = .ok (.if_icmp .gt 671, 3) := by decide +kernel
theorem dL_law_27 : decode cL_law 27 = .ok (.aload_n 0, 1) := by decide +kernel
theorem dL_law_28 : decode cL_law 28 = .ok (.iload_n 3, 1) := by decide +kernel
theorem dL_law_29 : decode cL_law 29 = .ok (.iaload, 1) := by decide +kernel
theorem dL_law_30 : decode cL_law 30 = .ok (.bipush 31, 2) := by decide +kernel
theorem dL_law_32 : decode cL_law 32 = .ok (.iand, 1) := by decide +kernel
theorem dL_law_33 : decode cL_law 33 = .ok (.tableswitch 656 0 19 #[95, 128, 191, 214, 247, 280, 293, 316, 349, 382, 405, 438, 452, 475, 508, 551, 574, 587, 610, 633], 95) := by decide +kernel
theorem dL_law_128 : decode cL_law 128 = .ok (.aload_n 1, 1) := by decide +kernel
theorem dL_law_129 : decode cL_law 129 = .ok (.aload_n 0, 1) := by decide +kernel
theorem dL_law_130 : decode cL_law 130 = .ok (.iload_n 3, 1) := by decide +kernel
theorem dL_law_131 : decode cL_law 131 = .ok (.iconst 1, 1) := by decide +kernel
theorem dL_law_132 : decode cL_law 132 = .ok (.iadd, 1) := by decide +kernel
theorem dL_law_133 : decode cL_law 133 = .ok (.iaload, 1) := by decide +kernel
theorem dL_law_134 : decode cL_law 134 = .ok (.aload_n 0, 1) := by decide +kernel
theorem dL_law_135 : decode cL_law 135 = .ok (.iload_n 3, 1) := by decide +kernel
theorem dL_law_136 : decode cL_law 136 = .ok (.iconst 2, 1) := by decide +kernel
theorem dL_law_137 : decode cL_law 137 = .ok (.iadd, 1) := by decide +kernel
theorem dL_law_138 : decode cL_law 138 = .ok (.iaload, 1) := by decide +kernel
theorem dL_law_139 : decode cL_law 139 = .ok (.invokevirtual 13, 3) := by decide +kernel
theorem dL_law_142 : decode cL_law 142 = .ok (.aload_n 2, 1) := by decide +kernel
theorem dL_law_143 : decode cL_law 143 = .ok (.aload_n 0, 1) := by decide +kernel
theorem dL_law_144 : decode cL_law 144 = .ok (.iload_n 3, 1) := by decide +kernel
theorem dL_law_145 : decode cL_law 145 = .ok (.iconst 1, 1) := by decide +kernel
theorem dL_law_146 : decode cL_law 146 = .ok (.iadd, 1) := by decide +kernel
theorem dL_law_147 : decode cL_law 147 = .ok (.iaload, 1) := by decide +kernel
theorem dL_law_148 : decode cL_law 148 = .ok (.aload_n 0, 1) := by decide +kernel
theorem dL_law_149 : decode cL_law 149 = .ok (.iload_n 3, 1) := by decide +kernel
theorem dL_law_150 : decode cL_law 150 = .ok (.iconst 2, 1) := by decide +kernel
theorem dL_law_151 : decode cL_law 151 = .ok (.iadd, 1) := by decide +kernel
theorem dL_law_152 : decode cL_law 152 = .ok (.iaload, 1) := by decide +kernel
theorem dL_law_153 : decode cL_law 153 = .ok (.invokevirtual 17, 3) := by decide +kernel
theorem dL_law_156 : decode cL_law 156 = .ok (.if_icmp .eq 533, 3) := by decide +kernel
theorem dL_law_159 : decode cL_law 159 = .ok (.iconst 0, 1) := by decide +kernel
theorem dL_law_160 : decode cL_law 160 = .ok (.ireturn, 1) := by decide +kernel
theorem dL_law_161 : decode cL_law 161 = .ok (.aload_n 1, 1) := by decide +kernel
theorem dL_law_162 : decode cL_law 162 = .ok (.aload_n 0, 1) := by decide +kernel
theorem dL_law_163 : decode cL_law 163 = .ok (.iload_n 3, 1) := by decide +kernel
theorem dL_law_164 : decode cL_law 164 = .ok (.iconst 1, 1) := by decide +kernel
theorem dL_law_165 : decode cL_law 165 = .ok (.iadd, 1) := by decide +kernel
theorem dL_law_166 : decode cL_law 166 = .ok (.iaload, 1) := by decide +kernel
theorem dL_law_167 : decode cL_law 167 = .ok (.aload_n 0, 1) := by decide +kernel
theorem dL_law_168 : decode cL_law 168 = .ok (.iload_n 3, 1) := by decide +kernel
theorem dL_law_169 : decode cL_law 169 = .ok (.iconst 2, 1) := by decide +kernel
theorem dL_law_170 : decode cL_law 170 = .ok (.iadd, 1) := by decide +kernel
theorem dL_law_171 : decode cL_law 171 = .ok (.iaload, 1) := by decide +kernel
theorem dL_law_172 : decode cL_law 172 = .ok (.aload_n 0, 1) := by decide +kernel
theorem dL_law_173 : decode cL_law 173 = .ok (.iload_n 3, 1) := by decide +kernel
theorem dL_law_174 : decode cL_law 174 = .ok (.iconst 3, 1) := by decide +kernel
theorem dL_law_175 : decode cL_law 175 = .ok (.iadd, 1) := by decide +kernel
theorem dL_law_176 : decode cL_law 176 = .ok (.iaload, 1) := by decide +kernel
theorem dL_law_177 : decode cL_law 177 = .ok (.aload_n 0, 1) := by decide +kernel
theorem dL_law_178 : decode cL_law 178 = .ok (.iload_n 3, 1) := by decide +kernel
theorem dL_law_179 : decode cL_law 179 = .ok (.iconst 4, 1) := by decide +kernel
theorem dL_law_180 : decode cL_law 180 = .ok (.iadd, 1) := by decide +kernel
theorem dL_law_181 : decode cL_law 181 = .ok (.iaload, 1) := by decide +kernel
theorem dL_law_182 : decode cL_law 182 = .ok (.aload_n 0, 1) := by decide +kernel
theorem dL_law_183 : decode cL_law 183 = .ok (.iload_n 3, 1) := by decide +kernel
theorem dL_law_184 : decode cL_law 184 = .ok (.iconst 5, 1) := by decide +kernel
theorem dL_law_185 : decode cL_law 185 = .ok (.iadd, 1) := by decide +kernel
theorem dL_law_186 : decode cL_law 186 = .ok (.iaload, 1) := by decide +kernel
theorem dL_law_187 : decode cL_law 187 = .ok (.invokevirtual 18, 3) := by decide +kernel
theorem dL_law_190 : decode cL_law 190 = .ok (.aload_n 2, 1) := by decide +kernel
theorem dL_law_191 : decode cL_law 191 = .ok (.aload_n 0, 1) := by decide +kernel
theorem dL_law_192 : decode cL_law 192 = .ok (.iload_n 3, 1) := by decide +kernel
theorem dL_law_193 : decode cL_law 193 = .ok (.iconst 1, 1) := by decide +kernel
theorem dL_law_194 : decode cL_law 194 = .ok (.iadd, 1) := by decide +kernel
theorem dL_law_195 : decode cL_law 195 = .ok (.iaload, 1) := by decide +kernel
theorem dL_law_196 : decode cL_law 196 = .ok (.aload_n 0, 1) := by decide +kernel
theorem dL_law_197 : decode cL_law 197 = .ok (.iload_n 3, 1) := by decide +kernel
theorem dL_law_198 : decode cL_law 198 = .ok (.iconst 2, 1) := by decide +kernel
theorem dL_law_199 : decode cL_law 199 = .ok (.iadd, 1) := by decide +kernel
theorem dL_law_200 : decode cL_law 200 = .ok (.iaload, 1) := by decide +kernel
theorem dL_law_201 : decode cL_law 201 = .ok (.aload_n 0, 1) := by decide +kernel
theorem dL_law_202 : decode cL_law 202 = .ok (.iload_n 3, 1) := by decide +kernel
theorem dL_law_203 : decode cL_law 203 = .ok (.iconst 3, 1) := by decide +kernel
theorem dL_law_204 : decode cL_law 204 = .ok (.iadd, 1) := by decide +kernel
theorem dL_law_205 : decode cL_law 205 = .ok (.iaload, 1) := by decide +kernel
theorem dL_law_206 : decode cL_law 206 = .ok (.aload_n 0, 1) := by decide +kernel
theorem dL_law_207 : decode cL_law 207 = .ok (.iload_n 3, 1) := by decide +kernel
theorem dL_law_208 : decode cL_law 208 = .ok (.iconst 4, 1) := by decide +kernel
theorem dL_law_209 : decode cL_law 209 = .ok (.iadd, 1) := by decide +kernel
theorem dL_law_210 : decode cL_law 210 = .ok (.iaload, 1) := by decide +kernel
theorem dL_law_211 : decode cL_law 211 = .ok (.aload_n 0, 1) := by decide +kernel
theorem dL_law_212 : decode cL_law 212 = .ok (.iload_n 3, 1) := by decide +kernel
theorem dL_law_213 : decode cL_law 213 = .ok (.iconst 5, 1) := by decide +kernel
theorem dL_law_214 : decode cL_law 214 = .ok (.iadd, 1) := by decide +kernel
theorem dL_law_215 : decode cL_law 215 = .ok (.iaload, 1) := by decide +kernel
theorem dL_law_216 : decode cL_law 216 = .ok (.invokevirtual 22, 3) := by decide +kernel
theorem dL_law_219 : decode cL_law 219 = .ok (.if_icmp .eq 470, 3) := by decide +kernel
theorem dL_law_222 : decode cL_law 222 = .ok (.iconst 0, 1) := by decide +kernel
theorem dL_law_223 : decode cL_law 223 = .ok (.ireturn, 1) := by decide +kernel
theorem dL_law_224 : decode cL_law 224 = .ok (.aload_n 1, 1) := by decide +kernel
theorem dL_law_225 : decode cL_law 225 = .ok (.aload_n 0, 1) := by decide +kernel
theorem dL_law_226 : decode cL_law 226 = .ok (.iload_n 3, 1) := by decide +kernel
theorem dL_law_227 : decode cL_law 227 = .ok (.iconst 1, 1) := by decide +kernel
theorem dL_law_228 : decode cL_law 228 = .ok (.iadd, 1) := by decide +kernel
theorem dL_law_229 : decode cL_law 229 = .ok (.iaload, 1) := by decide +kernel
theorem dL_law_230 : decode cL_law 230 = .ok (.invokevirtual 23, 3) := by decide +kernel
theorem dL_law_233 : decode cL_law 233 = .ok (.aload_n 2, 1) := by decide +kernel
theorem dL_law_234 : decode cL_law 234 = .ok (.aload_n 0, 1) := by decide +kernel
theorem dL_law_235 : decode cL_law 235 = .ok (.iload_n 3, 1) := by decide +kernel
theorem dL_law_236 : decode cL_law 236 = .ok (.iconst 1, 1) := by decide +kernel
theorem dL_law_237 : decode cL_law 237 = .ok (.iadd, 1) := by decide +kernel
theorem dL_law_238 : decode cL_law 238 = .ok (.iaload, 1) := by decide +kernel
theorem dL_law_239 : decode cL_law 239 = .ok (.invokevirtual 27, 3) := by decide +kernel
theorem dL_law_242 : decode cL_law 242 = .ok (.if_icmp .eq 447, 3) := by decide +kernel
theorem dL_law_245 : decode cL_law 245 = .ok (.iconst 0, 1) := by decide +kernel
theorem dL_law_246 : decode cL_law 246 = .ok (.ireturn, 1) := by decide +kernel
theorem dL_law_247 : decode cL_law 247 = .ok (.aload_n 1, 1) := by decide +kernel
theorem dL_law_248 : decode cL_law 248 = .ok (.aload_n 0, 1) := by decide +kernel
theorem dL_law_249 : decode cL_law 249 = .ok (.iload_n 3, 1) := by decide +kernel
theorem dL_law_250 : decode cL_law 250 = .ok (.iconst 1, 1) := by decide +kernel
theorem dL_law_251 : decode cL_law 251 = .ok (.iadd, 1) := by decide +kernel
theorem dL_law_252 : decode cL_law 252 = .ok (.iaload, 1) := by decide +kernel
theorem dL_law_253 : decode cL_law 253 = .ok (.aload_n 0, 1) := by decide +kernel
theorem dL_law_254 : decode cL_law 254 = .ok (.iload_n 3, 1) := by decide +kernel
theorem dL_law_255 : decode cL_law 255 = .ok (.iconst 2, 1) := by decide +kernel
theorem dL_law_256 : decode cL_law 256 = .ok (.iadd, 1) := by decide +kernel
theorem dL_law_257 : decode cL_law 257 = .ok (.iaload, 1) := by decide +kernel
theorem dL_law_258 : decode cL_law 258 = .ok (.invokevirtual 28, 3) := by decide +kernel
theorem dL_law_261 : decode cL_law 261 = .ok (.aload_n 2, 1) := by decide +kernel
theorem dL_law_262 : decode cL_law 262 = .ok (.aload_n 0, 1) := by decide +kernel
theorem dL_law_263 : decode cL_law 263 = .ok (.iload_n 3, 1) := by decide +kernel
theorem dL_law_264 : decode cL_law 264 = .ok (.iconst 1, 1) := by decide +kernel
theorem dL_law_265 : decode cL_law 265 = .ok (.iadd, 1) := by decide +kernel
theorem dL_law_266 : decode cL_law 266 = .ok (.iaload, 1) := by decide +kernel
theorem dL_law_267 : decode cL_law 267 = .ok (.aload_n 0, 1) := by decide +kernel
theorem dL_law_268 : decode cL_law 268 = .ok (.iload_n 3, 1) := by decide +kernel
theorem dL_law_269 : decode cL_law 269 = .ok (.iconst 2, 1) := by decide +kernel
theorem dL_law_270 : decode cL_law 270 = .ok (.iadd, 1) := by decide +kernel
theorem dL_law_271 : decode cL_law 271 = .ok (.iaload, 1) := by decide +kernel
theorem dL_law_272 : decode cL_law 272 = .ok (.invokevirtual 31, 3) := by decide +kernel
theorem dL_law_275 : decode cL_law 275 = .ok (.if_icmp .eq 414, 3) := by decide +kernel
theorem dL_law_278 : decode cL_law 278 = .ok (.iconst 0, 1) := by decide +kernel
theorem dL_law_279 : decode cL_law 279 = .ok (.ireturn, 1) := by decide +kernel
theorem dL_law_280 : decode cL_law 280 = .ok (.aload_n 1, 1) := by decide +kernel
theorem dL_law_281 : decode cL_law 281 = .ok (.aload_n 0, 1) := by decide +kernel
theorem dL_law_282 : decode cL_law 282 = .ok (.iload_n 3, 1) := by decide +kernel
theorem dL_law_283 : decode cL_law 283 = .ok (.iconst 1, 1) := by decide +kernel
theorem dL_law_284 : decode cL_law 284 = .ok (.iadd, 1) := by decide +kernel
theorem dL_law_285 : decode cL_law 285 = .ok (.iaload, 1) := by decide +kernel
theorem dL_law_286 : decode cL_law 286 = .ok (.aload_n 0, 1) := by decide +kernel
theorem dL_law_287 : decode cL_law 287 = .ok (.iload_n 3, 1) := by decide +kernel
theorem dL_law_288 : decode cL_law 288 = .ok (.iconst 2, 1) := by decide +kernel
theorem dL_law_289 : decode cL_law 289 = .ok (.iadd, 1) := by decide +kernel
theorem dL_law_290 : decode cL_law 290 = .ok (.iaload, 1) := by decide +kernel
theorem dL_law_291 : decode cL_law 291 = .ok (.invokevirtual 32, 3) := by decide +kernel
theorem dL_law_294 : decode cL_law 294 = .ok (.aload_n 2, 1) := by decide +kernel
theorem dL_law_295 : decode cL_law 295 = .ok (.aload_n 0, 1) := by decide +kernel
theorem dL_law_296 : decode cL_law 296 = .ok (.iload_n 3, 1) := by decide +kernel
theorem dL_law_297 : decode cL_law 297 = .ok (.iconst 1, 1) := by decide +kernel
theorem dL_law_298 : decode cL_law 298 = .ok (.iadd, 1) := by decide +kernel
theorem dL_law_299 : decode cL_law 299 = .ok (.iaload, 1) := by decide +kernel
theorem dL_law_300 : decode cL_law 300 = .ok (.aload_n 0, 1) := by decide +kernel
theorem dL_law_301 : decode cL_law 301 = .ok (.iload_n 3, 1) := by decide +kernel
theorem dL_law_302 : decode cL_law 302 = .ok (.iconst 2, 1) := by decide +kernel
theorem dL_law_303 : decode cL_law 303 = .ok (.iadd, 1) := by decide +kernel
theorem dL_law_304 : decode cL_law 304 = .ok (.iaload, 1) := by decide +kernel
theorem dL_law_305 : decode cL_law 305 = .ok (.invokevirtual 35, 3) := by decide +kernel
theorem dL_law_308 : decode cL_law 308 = .ok (.if_icmp .eq 381, 3) := by decide +kernel
theorem dL_law_311 : decode cL_law 311 = .ok (.iconst 0, 1) := by decide +kernel
theorem dL_law_312 : decode cL_law 312 = .ok (.ireturn, 1) := by decide +kernel
theorem dL_law_313 : decode cL_law 313 = .ok (.aload_n 1, 1) := by decide +kernel
theorem dL_law_314 : decode cL_law 314 = .ok (.invokevirtual 36, 3) := by decide +kernel
theorem dL_law_317 : decode cL_law 317 = .ok (.aload_n 2, 1) := by decide +kernel
theorem dL_law_318 : decode cL_law 318 = .ok (.invokevirtual 40, 3) := by decide +kernel
theorem dL_law_321 : decode cL_law 321 = .ok (.if_icmp .eq 368, 3) := by decide +kernel
theorem dL_law_324 : decode cL_law 324 = .ok (.iconst 0, 1) := by decide +kernel
theorem dL_law_325 : decode cL_law 325 = .ok (.ireturn, 1) := by decide +kernel
theorem dL_law_326 : decode cL_law 326 = .ok (.aload_n 1, 1) := by decide +kernel
theorem dL_law_327 : decode cL_law 327 = .ok (.aload_n 0, 1) := by decide +kernel
theorem dL_law_328 : decode cL_law 328 = .ok (.iload_n 3, 1) := by decide +kernel
theorem dL_law_329 : decode cL_law 329 = .ok (.iconst 1, 1) := by decide +kernel
theorem dL_law_330 : decode cL_law 330 = .ok (.iadd, 1) := by decide +kernel
theorem dL_law_331 : decode cL_law 331 = .ok (.iaload, 1) := by decide +kernel
theorem dL_law_332 : decode cL_law 332 = .ok (.invokevirtual 41, 3) := by decide +kernel
theorem dL_law_335 : decode cL_law 335 = .ok (.aload_n 2, 1) := by decide +kernel
theorem dL_law_336 : decode cL_law 336 = .ok (.aload_n 0, 1) := by decide +kernel
theorem dL_law_337 : decode cL_law 337 = .ok (.iload_n 3, 1) := by decide +kernel
theorem dL_law_338 : decode cL_law 338 = .ok (.iconst 1, 1) := by decide +kernel
theorem dL_law_339 : decode cL_law 339 = .ok (.iadd, 1) := by decide +kernel
theorem dL_law_340 : decode cL_law 340 = .ok (.iaload, 1) := by decide +kernel
theorem dL_law_341 : decode cL_law 341 = .ok (.invokevirtual 44, 3) := by decide +kernel
theorem dL_law_344 : decode cL_law 344 = .ok (.if_icmp .eq 345, 3) := by decide +kernel
theorem dL_law_347 : decode cL_law 347 = .ok (.iconst 0, 1) := by decide +kernel
theorem dL_law_348 : decode cL_law 348 = .ok (.ireturn, 1) := by decide +kernel
theorem dL_law_349 : decode cL_law 349 = .ok (.aload_n 1, 1) := by decide +kernel
theorem dL_law_350 : decode cL_law 350 = .ok (.aload_n 0, 1) := by decide +kernel
theorem dL_law_351 : decode cL_law 351 = .ok (.iload_n 3, 1) := by decide +kernel
theorem dL_law_352 : decode cL_law 352 = .ok (.iconst 1, 1) := by decide +kernel
theorem dL_law_353 : decode cL_law 353 = .ok (.iadd, 1) := by decide +kernel
theorem dL_law_354 : decode cL_law 354 = .ok (.iaload, 1) := by decide +kernel
theorem dL_law_355 : decode cL_law 355 = .ok (.aload_n 0, 1) := by decide +kernel
theorem dL_law_356 : decode cL_law 356 = .ok (.iload_n 3, 1) := by decide +kernel
theorem dL_law_357 : decode cL_law 357 = .ok (.iconst 2, 1) := by decide +kernel
theorem dL_law_358 : decode cL_law 358 = .ok (.iadd, 1) := by decide +kernel
theorem dL_law_359 : decode cL_law 359 = .ok (.iaload, 1) := by decide +kernel
theorem dL_law_360 : decode cL_law 360 = .ok (.invokevirtual 45, 3) := by decide +kernel
theorem dL_law_363 : decode cL_law 363 = .ok (.aload_n 2, 1) := by decide +kernel
theorem dL_law_364 : decode cL_law 364 = .ok (.aload_n 0, 1) := by decide +kernel
theorem dL_law_365 : decode cL_law 365 = .ok (.iload_n 3, 1) := by decide +kernel
theorem dL_law_366 : decode cL_law 366 = .ok (.iconst 1, 1) := by decide +kernel
theorem dL_law_367 : decode cL_law 367 = .ok (.iadd, 1) := by decide +kernel
theorem dL_law_368 : decode cL_law 368 = .ok (.iaload, 1) := by decide +kernel
theorem dL_law_369 : decode cL_law 369 = .ok (.aload_n 0, 1) := by decide +kernel
theorem dL_law_370 : decode cL_law 370 = .ok (.iload_n 3, 1) := by decide +kernel
theorem dL_law_371 : decode cL_law 371 = .ok (.iconst 2, 1) := by decide +kernel
theorem dL_law_372 : decode cL_law 372 = .ok (.iadd, 1) := by decide +kernel
theorem dL_law_373 : decode cL_law 373 = .ok (.iaload, 1) := by decide +kernel
theorem dL_law_374 : decode cL_law 374 = .ok (.invokevirtual 48, 3) := by decide +kernel
theorem dL_law_377 : decode cL_law 377 = .ok (.if_icmp .eq 312, 3) := by decide +kernel
theorem dL_law_380 : decode cL_law 380 = .ok (.iconst 0, 1) := by decide +kernel
theorem dL_law_381 : decode cL_law 381 = .ok (.ireturn, 1) := by decide +kernel
theorem dL_law_382 : decode cL_law 382 = .ok (.aload_n 1, 1) := by decide +kernel
theorem dL_law_383 : decode cL_law 383 = .ok (.aload_n 0, 1) := by decide +kernel
theorem dL_law_384 : decode cL_law 384 = .ok (.iload_n 3, 1) := by decide +kernel
theorem dL_law_385 : decode cL_law 385 = .ok (.iconst 1, 1) := by decide +kernel
theorem dL_law_386 : decode cL_law 386 = .ok (.iadd, 1) := by decide +kernel
theorem dL_law_387 : decode cL_law 387 = .ok (.iaload, 1) := by decide +kernel
theorem dL_law_388 : decode cL_law 388 = .ok (.aload_n 0, 1) := by decide +kernel
theorem dL_law_389 : decode cL_law 389 = .ok (.iload_n 3, 1) := by decide +kernel
theorem dL_law_390 : decode cL_law 390 = .ok (.iconst 2, 1) := by decide +kernel
theorem dL_law_391 : decode cL_law 391 = .ok (.iadd, 1) := by decide +kernel
theorem dL_law_392 : decode cL_law 392 = .ok (.iaload, 1) := by decide +kernel
theorem dL_law_393 : decode cL_law 393 = .ok (.invokevirtual 49, 3) := by decide +kernel
theorem dL_law_396 : decode cL_law 396 = .ok (.aload_n 2, 1) := by decide +kernel
theorem dL_law_397 : decode cL_law 397 = .ok (.aload_n 0, 1) := by decide +kernel
theorem dL_law_398 : decode cL_law 398 = .ok (.iload_n 3, 1) := by decide +kernel
theorem dL_law_399 : decode cL_law 399 = .ok (.iconst 1, 1) := by decide +kernel
theorem dL_law_400 : decode cL_law 400 = .ok (.iadd, 1) := by decide +kernel
theorem dL_law_401 : decode cL_law 401 = .ok (.iaload, 1) := by decide +kernel
theorem dL_law_402 : decode cL_law 402 = .ok (.aload_n 0, 1) := by decide +kernel
theorem dL_law_403 : decode cL_law 403 = .ok (.iload_n 3, 1) := by decide +kernel
theorem dL_law_404 : decode cL_law 404 = .ok (.iconst 2, 1) := by decide +kernel
theorem dL_law_405 : decode cL_law 405 = .ok (.iadd, 1) := by decide +kernel
theorem dL_law_406 : decode cL_law 406 = .ok (.iaload, 1) := by decide +kernel
theorem dL_law_407 : decode cL_law 407 = .ok (.invokevirtual 52, 3) := by decide +kernel
theorem dL_law_410 : decode cL_law 410 = .ok (.if_icmp .eq 279, 3) := by decide +kernel
theorem dL_law_413 : decode cL_law 413 = .ok (.iconst 0, 1) := by decide +kernel
theorem dL_law_414 : decode cL_law 414 = .ok (.ireturn, 1) := by decide +kernel
theorem dL_law_415 : decode cL_law 415 = .ok (.aload_n 1, 1) := by decide +kernel
theorem dL_law_416 : decode cL_law 416 = .ok (.aload_n 0, 1) := by decide +kernel
theorem dL_law_417 : decode cL_law 417 = .ok (.iload_n 3, 1) := by decide +kernel
theorem dL_law_418 : decode cL_law 418 = .ok (.iconst 1, 1) := by decide +kernel
theorem dL_law_419 : decode cL_law 419 = .ok (.iadd, 1) := by decide +kernel
theorem dL_law_420 : decode cL_law 420 = .ok (.iaload, 1) := by decide +kernel
theorem dL_law_421 : decode cL_law 421 = .ok (.invokevirtual 53, 3) := by decide +kernel
theorem dL_law_424 : decode cL_law 424 = .ok (.aload_n 2, 1) := by decide +kernel
theorem dL_law_425 : decode cL_law 425 = .ok (.aload_n 0, 1) := by decide +kernel
theorem dL_law_426 : decode cL_law 426 = .ok (.iload_n 3, 1) := by decide +kernel
theorem dL_law_427 : decode cL_law 427 = .ok (.iconst 1, 1) := by decide +kernel
theorem dL_law_428 : decode cL_law 428 = .ok (.iadd, 1) := by decide +kernel
theorem dL_law_429 : decode cL_law 429 = .ok (.iaload, 1) := by decide +kernel
theorem dL_law_430 : decode cL_law 430 = .ok (.invokevirtual 56, 3) := by decide +kernel
theorem dL_law_433 : decode cL_law 433 = .ok (.if_icmp .eq 256, 3) := by decide +kernel
theorem dL_law_436 : decode cL_law 436 = .ok (.iconst 0, 1) := by decide +kernel
theorem dL_law_437 : decode cL_law 437 = .ok (.ireturn, 1) := by decide +kernel
theorem dL_law_438 : decode cL_law 438 = .ok (.aload_n 1, 1) := by decide +kernel
theorem dL_law_439 : decode cL_law 439 = .ok (.aload_n 0, 1) := by decide +kernel
theorem dL_law_440 : decode cL_law 440 = .ok (.iload_n 3, 1) := by decide +kernel
theorem dL_law_441 : decode cL_law 441 = .ok (.iconst 1, 1) := by decide +kernel
theorem dL_law_442 : decode cL_law 442 = .ok (.iadd, 1) := by decide +kernel
theorem dL_law_443 : decode cL_law 443 = .ok (.iaload, 1) := by decide +kernel
theorem dL_law_444 : decode cL_law 444 = .ok (.aload_n 0, 1) := by decide +kernel
theorem dL_law_445 : decode cL_law 445 = .ok (.iload_n 3, 1) := by decide +kernel
theorem dL_law_446 : decode cL_law 446 = .ok (.iconst 2, 1) := by decide +kernel
theorem dL_law_447 : decode cL_law 447 = .ok (.iadd, 1) := by decide +kernel
theorem dL_law_448 : decode cL_law 448 = .ok (.iaload, 1) := by decide +kernel
theorem dL_law_449 : decode cL_law 449 = .ok (.invokevirtual 57, 3) := by decide +kernel
theorem dL_law_452 : decode cL_law 452 = .ok (.aload_n 2, 1) := by decide +kernel
theorem dL_law_453 : decode cL_law 453 = .ok (.aload_n 0, 1) := by decide +kernel
theorem dL_law_454 : decode cL_law 454 = .ok (.iload_n 3, 1) := by decide +kernel
theorem dL_law_455 : decode cL_law 455 = .ok (.iconst 1, 1) := by decide +kernel
theorem dL_law_456 : decode cL_law 456 = .ok (.iadd, 1) := by decide +kernel
theorem dL_law_457 : decode cL_law 457 = .ok (.iaload, 1) := by decide +kernel
theorem dL_law_458 : decode cL_law 458 = .ok (.aload_n 0, 1) := by decide +kernel
theorem dL_law_459 : decode cL_law 459 = .ok (.iload_n 3, 1) := by decide +kernel
theorem dL_law_460 : decode cL_law 460 = .ok (.iconst 2, 1) := by decide +kernel
theorem dL_law_461 : decode cL_law 461 = .ok (.iadd, 1) := by decide +kernel
theorem dL_law_462 : decode cL_law 462 = .ok (.iaload, 1) := by decide +kernel
theorem dL_law_463 : decode cL_law 463 = .ok (.invokevirtual 60, 3) := by decide +kernel
theorem dL_law_466 : decode cL_law 466 = .ok (.if_icmp .eq 223, 3) := by decide +kernel
theorem dL_law_469 : decode cL_law 469 = .ok (.iconst 0, 1) := by decide +kernel
theorem dL_law_470 : decode cL_law 470 = .ok (.ireturn, 1) := by decide +kernel
theorem dL_law_471 : decode cL_law 471 = .ok (.aload_n 1, 1) := by decide +kernel
theorem dL_law_472 : decode cL_law 472 = .ok (.invokevirtual 61, 3) := by decide +kernel
theorem dL_law_475 : decode cL_law 475 = .ok (.aload_n 2, 1) := by decide +kernel
theorem dL_law_476 : decode cL_law 476 = .ok (.invokevirtual 65, 3) := by decide +kernel
theorem dL_law_479 : decode cL_law 479 = .ok (.lcmp, 1) := by decide +kernel
theorem dL_law_480 : decode cL_law 480 = .ok (.ifCond .eq 209, 3) := by decide +kernel
theorem dL_law_483 : decode cL_law 483 = .ok (.iconst 0, 1) := by decide +kernel
theorem dL_law_484 : decode cL_law 484 = .ok (.ireturn, 1) := by decide +kernel
theorem dL_law_485 : decode cL_law 485 = .ok (.aload_n 1, 1) := by decide +kernel
theorem dL_law_486 : decode cL_law 486 = .ok (.aload_n 0, 1) := by decide +kernel
theorem dL_law_487 : decode cL_law 487 = .ok (.iload_n 3, 1) := by decide +kernel
theorem dL_law_488 : decode cL_law 488 = .ok (.iconst 1, 1) := by decide +kernel
theorem dL_law_489 : decode cL_law 489 = .ok (.iadd, 1) := by decide +kernel
theorem dL_law_490 : decode cL_law 490 = .ok (.iaload, 1) := by decide +kernel
theorem dL_law_491 : decode cL_law 491 = .ok (.invokevirtual 66, 3) := by decide +kernel
theorem dL_law_494 : decode cL_law 494 = .ok (.aload_n 2, 1) := by decide +kernel
theorem dL_law_495 : decode cL_law 495 = .ok (.aload_n 0, 1) := by decide +kernel
theorem dL_law_496 : decode cL_law 496 = .ok (.iload_n 3, 1) := by decide +kernel
theorem dL_law_497 : decode cL_law 497 = .ok (.iconst 1, 1) := by decide +kernel
theorem dL_law_498 : decode cL_law 498 = .ok (.iadd, 1) := by decide +kernel
theorem dL_law_499 : decode cL_law 499 = .ok (.iaload, 1) := by decide +kernel
theorem dL_law_500 : decode cL_law 500 = .ok (.invokevirtual 69, 3) := by decide +kernel
theorem dL_law_503 : decode cL_law 503 = .ok (.if_icmp .eq 186, 3) := by decide +kernel
theorem dL_law_506 : decode cL_law 506 = .ok (.iconst 0, 1) := by decide +kernel
theorem dL_law_507 : decode cL_law 507 = .ok (.ireturn, 1) := by decide +kernel
theorem dL_law_508 : decode cL_law 508 = .ok (.aload_n 1, 1) := by decide +kernel
theorem dL_law_509 : decode cL_law 509 = .ok (.aload_n 0, 1) := by decide +kernel
theorem dL_law_510 : decode cL_law 510 = .ok (.iload_n 3, 1) := by decide +kernel
theorem dL_law_511 : decode cL_law 511 = .ok (.iconst 1, 1) := by decide +kernel
theorem dL_law_512 : decode cL_law 512 = .ok (.iadd, 1) := by decide +kernel
theorem dL_law_513 : decode cL_law 513 = .ok (.iaload, 1) := by decide +kernel
theorem dL_law_514 : decode cL_law 514 = .ok (.aload_n 0, 1) := by decide +kernel
theorem dL_law_515 : decode cL_law 515 = .ok (.iload_n 3, 1) := by decide +kernel
theorem dL_law_516 : decode cL_law 516 = .ok (.iconst 2, 1) := by decide +kernel
theorem dL_law_517 : decode cL_law 517 = .ok (.iadd, 1) := by decide +kernel
theorem dL_law_518 : decode cL_law 518 = .ok (.iaload, 1) := by decide +kernel
theorem dL_law_519 : decode cL_law 519 = .ok (.invokevirtual 70, 3) := by decide +kernel
theorem dL_law_522 : decode cL_law 522 = .ok (.aload_n 2, 1) := by decide +kernel
theorem dL_law_523 : decode cL_law 523 = .ok (.aload_n 0, 1) := by decide +kernel
theorem dL_law_524 : decode cL_law 524 = .ok (.iload_n 3, 1) := by decide +kernel
theorem dL_law_525 : decode cL_law 525 = .ok (.iconst 1, 1) := by decide +kernel
theorem dL_law_526 : decode cL_law 526 = .ok (.iadd, 1) := by decide +kernel
theorem dL_law_527 : decode cL_law 527 = .ok (.iaload, 1) := by decide +kernel
theorem dL_law_528 : decode cL_law 528 = .ok (.aload_n 0, 1) := by decide +kernel
theorem dL_law_529 : decode cL_law 529 = .ok (.iload_n 3, 1) := by decide +kernel
theorem dL_law_530 : decode cL_law 530 = .ok (.iconst 2, 1) := by decide +kernel
theorem dL_law_531 : decode cL_law 531 = .ok (.iadd, 1) := by decide +kernel
theorem dL_law_532 : decode cL_law 532 = .ok (.iaload, 1) := by decide +kernel
theorem dL_law_533 : decode cL_law 533 = .ok (.invokevirtual 73, 3) := by decide +kernel
theorem dL_law_536 : decode cL_law 536 = .ok (.if_icmp .eq 153, 3) := by decide +kernel
theorem dL_law_539 : decode cL_law 539 = .ok (.iconst 0, 1) := by decide +kernel
theorem dL_law_540 : decode cL_law 540 = .ok (.ireturn, 1) := by decide +kernel
theorem dL_law_541 : decode cL_law 541 = .ok (.aload_n 1, 1) := by decide +kernel
theorem dL_law_542 : decode cL_law 542 = .ok (.aload_n 0, 1) := by decide +kernel
theorem dL_law_543 : decode cL_law 543 = .ok (.iload_n 3, 1) := by decide +kernel
theorem dL_law_544 : decode cL_law 544 = .ok (.iconst 1, 1) := by decide +kernel
theorem dL_law_545 : decode cL_law 545 = .ok (.iadd, 1) := by decide +kernel
theorem dL_law_546 : decode cL_law 546 = .ok (.iaload, 1) := by decide +kernel
theorem dL_law_547 : decode cL_law 547 = .ok (.aload_n 0, 1) := by decide +kernel
theorem dL_law_548 : decode cL_law 548 = .ok (.iload_n 3, 1) := by decide +kernel
theorem dL_law_549 : decode cL_law 549 = .ok (.iconst 2, 1) := by decide +kernel
theorem dL_law_550 : decode cL_law 550 = .ok (.iadd, 1) := by decide +kernel
theorem dL_law_551 : decode cL_law 551 = .ok (.iaload, 1) := by decide +kernel
theorem dL_law_552 : decode cL_law 552 = .ok (.aload_n 0, 1) := by decide +kernel
theorem dL_law_553 : decode cL_law 553 = .ok (.iload_n 3, 1) := by decide +kernel
theorem dL_law_554 : decode cL_law 554 = .ok (.iconst 3, 1) := by decide +kernel
theorem dL_law_555 : decode cL_law 555 = .ok (.iadd, 1) := by decide +kernel
theorem dL_law_556 : decode cL_law 556 = .ok (.iaload, 1) := by decide +kernel
theorem dL_law_557 : decode cL_law 557 = .ok (.invokevirtual 74, 3) := by decide +kernel
theorem dL_law_560 : decode cL_law 560 = .ok (.aload_n 2, 1) := by decide +kernel
theorem dL_law_561 : decode cL_law 561 = .ok (.aload_n 0, 1) := by decide +kernel
theorem dL_law_562 : decode cL_law 562 = .ok (.iload_n 3, 1) := by decide +kernel
theorem dL_law_563 : decode cL_law 563 = .ok (.iconst 1, 1) := by decide +kernel
theorem dL_law_564 : decode cL_law 564 = .ok (.iadd, 1) := by decide +kernel
theorem dL_law_565 : decode cL_law 565 = .ok (.iaload, 1) := by decide +kernel
theorem dL_law_566 : decode cL_law 566 = .ok (.aload_n 0, 1) := by decide +kernel
theorem dL_law_567 : decode cL_law 567 = .ok (.iload_n 3, 1) := by decide +kernel
theorem dL_law_568 : decode cL_law 568 = .ok (.iconst 2, 1) := by decide +kernel
theorem dL_law_569 : decode cL_law 569 = .ok (.iadd, 1) := by decide +kernel
theorem dL_law_570 : decode cL_law 570 = .ok (.iaload, 1) := by decide +kernel
theorem dL_law_571 : decode cL_law 571 = .ok (.aload_n 0, 1) := by decide +kernel
theorem dL_law_572 : decode cL_law 572 = .ok (.iload_n 3, 1) := by decide +kernel
theorem dL_law_573 : decode cL_law 573 = .ok (.iconst 3, 1) := by decide +kernel
theorem dL_law_574 : decode cL_law 574 = .ok (.iadd, 1) := by decide +kernel
theorem dL_law_575 : decode cL_law 575 = .ok (.iaload, 1) := by decide +kernel
theorem dL_law_576 : decode cL_law 576 = .ok (.invokevirtual 78, 3) := by decide +kernel
theorem dL_law_579 : decode cL_law 579 = .ok (.if_icmp .eq 110, 3) := by decide +kernel
theorem dL_law_582 : decode cL_law 582 = .ok (.iconst 0, 1) := by decide +kernel
theorem dL_law_583 : decode cL_law 583 = .ok (.ireturn, 1) := by decide +kernel
theorem dL_law_584 : decode cL_law 584 = .ok (.aload_n 1, 1) := by decide +kernel
theorem dL_law_585 : decode cL_law 585 = .ok (.aload_n 0, 1) := by decide +kernel
theorem dL_law_586 : decode cL_law 586 = .ok (.iload_n 3, 1) := by decide +kernel
theorem dL_law_587 : decode cL_law 587 = .ok (.iconst 1, 1) := by decide +kernel
theorem dL_law_588 : decode cL_law 588 = .ok (.iadd, 1) := by decide +kernel
theorem dL_law_589 : decode cL_law 589 = .ok (.iaload, 1) := by decide +kernel
theorem dL_law_590 : decode cL_law 590 = .ok (.invokevirtual 79, 3) := by decide +kernel
theorem dL_law_593 : decode cL_law 593 = .ok (.aload_n 2, 1) := by decide +kernel
theorem dL_law_594 : decode cL_law 594 = .ok (.aload_n 0, 1) := by decide +kernel
theorem dL_law_595 : decode cL_law 595 = .ok (.iload_n 3, 1) := by decide +kernel
theorem dL_law_596 : decode cL_law 596 = .ok (.iconst 1, 1) := by decide +kernel
theorem dL_law_597 : decode cL_law 597 = .ok (.iadd, 1) := by decide +kernel
theorem dL_law_598 : decode cL_law 598 = .ok (.iaload, 1) := by decide +kernel
theorem dL_law_599 : decode cL_law 599 = .ok (.invokevirtual 82, 3) := by decide +kernel
theorem dL_law_602 : decode cL_law 602 = .ok (.if_icmp .eq 87, 3) := by decide +kernel
theorem dL_law_605 : decode cL_law 605 = .ok (.iconst 0, 1) := by decide +kernel
theorem dL_law_606 : decode cL_law 606 = .ok (.ireturn, 1) := by decide +kernel
theorem dL_law_607 : decode cL_law 607 = .ok (.aload_n 1, 1) := by decide +kernel
theorem dL_law_608 : decode cL_law 608 = .ok (.invokevirtual 83, 3) := by decide +kernel
theorem dL_law_611 : decode cL_law 611 = .ok (.aload_n 2, 1) := by decide +kernel
theorem dL_law_612 : decode cL_law 612 = .ok (.invokevirtual 86, 3) := by decide +kernel
theorem dL_law_615 : decode cL_law 615 = .ok (.if_icmp .eq 74, 3) := by decide +kernel
theorem dL_law_618 : decode cL_law 618 = .ok (.iconst 0, 1) := by decide +kernel
theorem dL_law_619 : decode cL_law 619 = .ok (.ireturn, 1) := by decide +kernel
theorem dL_law_620 : decode cL_law 620 = .ok (.aload_n 1, 1) := by decide +kernel
theorem dL_law_621 : decode cL_law 621 = .ok (.aload_n 0, 1) := by decide +kernel
theorem dL_law_622 : decode cL_law 622 = .ok (.iload_n 3, 1) := by decide +kernel
theorem dL_law_623 : decode cL_law 623 = .ok (.iconst 1, 1) := by decide +kernel
theorem dL_law_624 : decode cL_law 624 = .ok (.iadd, 1) := by decide +kernel
theorem dL_law_625 : decode cL_law 625 = .ok (.iaload, 1) := by decide +kernel
theorem dL_law_626 : decode cL_law 626 = .ok (.invokevirtual 87, 3) := by decide +kernel
theorem dL_law_629 : decode cL_law 629 = .ok (.aload_n 2, 1) := by decide +kernel
theorem dL_law_630 : decode cL_law 630 = .ok (.aload_n 0, 1) := by decide +kernel
theorem dL_law_631 : decode cL_law 631 = .ok (.iload_n 3, 1) := by decide +kernel
theorem dL_law_632 : decode cL_law 632 = .ok (.iconst 1, 1) := by decide +kernel
theorem dL_law_633 : decode cL_law 633 = .ok (.iadd, 1) := by decide +kernel
theorem dL_law_634 : decode cL_law 634 = .ok (.iaload, 1) := by decide +kernel
theorem dL_law_635 : decode cL_law 635 = .ok (.invokevirtual 90, 3) := by decide +kernel
theorem dL_law_638 : decode cL_law 638 = .ok (.if_icmp .eq 51, 3) := by decide +kernel
theorem dL_law_641 : decode cL_law 641 = .ok (.iconst 0, 1) := by decide +kernel
theorem dL_law_642 : decode cL_law 642 = .ok (.ireturn, 1) := by decide +kernel
theorem dL_law_643 : decode cL_law 643 = .ok (.aload_n 1, 1) := by decide +kernel
theorem dL_law_644 : decode cL_law 644 = .ok (.aload_n 0, 1) := by decide +kernel
theorem dL_law_645 : decode cL_law 645 = .ok (.iload_n 3, 1) := by decide +kernel
theorem dL_law_646 : decode cL_law 646 = .ok (.iconst 1, 1) := by decide +kernel
theorem dL_law_647 : decode cL_law 647 = .ok (.iadd, 1) := by decide +kernel
theorem dL_law_648 : decode cL_law 648 = .ok (.iaload, 1) := by decide +kernel
theorem dL_law_649 : decode cL_law 649 = .ok (.invokevirtual 91, 3) := by decide +kernel
theorem dL_law_652 : decode cL_law 652 = .ok (.aload_n 2, 1) := by decide +kernel
theorem dL_law_653 : decode cL_law 653 = .ok (.aload_n 0, 1) := by decide +kernel
theorem dL_law_654 : decode cL_law 654 = .ok (.iload_n 3, 1) := by decide +kernel
theorem dL_law_655 : decode cL_law 655 = .ok (.iconst 1, 1) := by decide +kernel
theorem dL_law_656 : decode cL_law 656 = .ok (.iadd, 1) := by decide +kernel
theorem dL_law_657 : decode cL_law 657 = .ok (.iaload, 1) := by decide +kernel
theorem dL_law_658 : decode cL_law 658 = .ok (.invokevirtual 94, 3) := by decide +kernel
theorem dL_law_661 : decode cL_law 661 = .ok (.if_icmp .eq 28, 3) := by decide +kernel
theorem dL_law_664 : decode cL_law 664 = .ok (.iconst 0, 1) := by decide +kernel
theorem dL_law_665 : decode cL_law 665 = .ok (.ireturn, 1) := by decide +kernel
theorem dL_law_666 : decode cL_law 666 = .ok (.aload_n 1, 1) := by decide +kernel
theorem dL_law_667 : decode cL_law 667 = .ok (.aload_n 0, 1) := by decide +kernel
theorem dL_law_668 : decode cL_law 668 = .ok (.iload_n 3, 1) := by decide +kernel
theorem dL_law_669 : decode cL_law 669 = .ok (.iconst 1, 1) := by decide +kernel
theorem dL_law_670 : decode cL_law 670 = .ok (.iadd, 1) := by decide +kernel
theorem dL_law_671 : decode cL_law 671 = .ok (.iaload, 1) := by decide +kernel
theorem dL_law_672 : decode cL_law 672 = .ok (.invokevirtual 95, 3) := by decide +kernel
theorem dL_law_675 : decode cL_law 675 = .ok (.aload_n 2, 1) := by decide +kernel
theorem dL_law_676 : decode cL_law 676 = .ok (.aload_n 0, 1) := by decide +kernel
theorem dL_law_677 : decode cL_law 677 = .ok (.iload_n 3, 1) := by decide +kernel
theorem dL_law_678 : decode cL_law 678 = .ok (.iconst 1, 1) := by decide +kernel
theorem dL_law_679 : decode cL_law 679 = .ok (.iadd, 1) := by decide +kernel
theorem dL_law_680 : decode cL_law 680 = .ok (.iaload, 1) := by decide +kernel
theorem dL_law_681 : decode cL_law 681 = .ok (.invokevirtual 98, 3) := by decide +kernel
theorem dL_law_684 : decode cL_law 684 = .ok (.if_icmp .eq 5, 3) := by decide +kernel
theorem dL_law_687 : decode cL_law 687 = .ok (.iconst 0, 1) := by decide +kernel
theorem dL_law_688 : decode cL_law 688 = .ok (.ireturn, 1) := by decide +kernel
theorem dL_law_689 : decode cL_law 689 = .ok (.iinc 3 6, 3) := by decide +kernel
theorem dL_law_692 : decode cL_law 692 = .ok (.goto (-674), 3) := by decide +kernel
theorem dL_law_695 : decode cL_law 695 = .ok (.iconst 1, 1) := by decide +kernel
theorem dL_law_696 : decode cL_law 696 = .ok (.ireturn, 1) := by decide +kernel
end
section
/-! ===== numbers: every int of the machine as a whole number ===== -/
def jI (z : Int) : Int32 := Int32.ofInt z
def jL (z : Int) : Int64 := Int64.ofInt z
abbrev vi (z : Int) : Value := Value.int (jI z)
abbrev vl (z : Int) : Value := Value.long (jL z)
abbrev inR (z : Int) : Prop := -2147483648 ≤ z ∧ z < 2147483648
abbrev inL (z : Int) : Prop := -9223372036854775808 ≤ z ∧ z < 9223372036854775808
theorem jI_add (a b : Int) : jI a + jI b = jI (a + b) := (Int32.ofInt_add a b).symm
theorem jI_sub (a b : Int) : jI a - jI b = jI (a - b) := (Int32.ofInt_sub a b).symm
theorem jI_mul (a b : Int) : jI a * jI b = jI (a * b) := (Int32.ofInt_mul a b).symm
theorem jI_neg (a : Int) : -jI a = jI (-a) := (Int32.ofInt_neg a).symm
theorem jL_add (a b : Int) : jL a + jL b = jL (a + b) := (Int64.ofInt_add a b).symm
theorem jL_sub (a b : Int) : jL a - jL b = jL (a - b) := (Int64.ofInt_sub a b).symm
theorem jL_mul (a b : Int) : jL a * jL b = jL (a * b) := (Int64.ofInt_mul a b).symm
theorem jI_int {z : Int} (h : inR z) : (jI z).toInt = z := by
  unfold jI
  rw [Int32.toInt_ofInt]
  show z.bmod 4294967296 = z
  exact Int.bmod_eq_of_le (by omega) (by omega)
theorem jL_int {z : Int} (h : inL z) : (jL z).toInt = z := by
  unfold jL
  rw [Int64.toInt_ofInt]
  show z.bmod 18446744073709551616 = z
  exact Int.bmod_eq_of_le (by omega) (by omega)
theorem jI_of (x : Int32) : x = jI x.toInt := (Int32.ofInt_toInt x).symm
theorem inR_of (x : Int32) : inR x.toInt := by
  have h1 := Int32.le_toInt x
  have h2 := Int32.toInt_lt x
  exact ⟨by omega, by omega⟩
theorem jI_lt {a b : Int} (h : inR a ∧ inR b) : jI a < jI b ↔ a < b := by rw [Int32.lt_iff_toInt_lt, jI_int h.1, jI_int h.2]
theorem jI_le {a b : Int} (h : inR a ∧ inR b) : jI a ≤ jI b ↔ a ≤ b := by rw [Int32.le_iff_toInt_le, jI_int h.1, jI_int h.2]
theorem jI_eq {a b : Int} (h : inR a ∧ inR b) : jI a = jI b ↔ a = b := by rw [← Int32.toInt_inj, jI_int h.1, jI_int h.2]
theorem jI_0 : (0 : Int32) = jI 0 := by decide
theorem jI_nat (n : Nat) : jI (n : Int) = nI n := by
  unfold jI nI
  first | exact Int32.ofInt_eq_ofNat | exact Int32.ofInt_eq_ofNat n | simp
theorem jL_nat (n : Nat) : jL (n : Int) = lN n := by
  unfold jL lN
  first | exact Int64.ofInt_eq_ofNat | exact Int64.ofInt_eq_ofNat n | simp
theorem jI_tn {i : Int} {n : Nat} (h : 0 ≤ i ∧ i < (n : Int)) (hn : n < 2147483648) : (jI i).toNatClampNeg = i.toNat := by
  obtain ⟨k, rfl⟩ : ∃ k : Nat, i = (k : Int) := ⟨i.toNat, by omega⟩
  rw [jI_nat, nI_clamp (by omega)]
  omega
theorem jI_in {i : Int} {n : Nat} (h : 0 ≤ i ∧ i < (n : Int)) (hn : n < 2147483648) : vp_in (jI i) n := by
  obtain ⟨k, rfl⟩ : ∃ k : Nat, i = (k : Int) := ⟨i.toNat, by omega⟩
  rw [jI_nat]
  exact vp_in_nI (by omega) (by omega)
theorem jI_rem {a d : Int} (ha : 0 ≤ a ∧ a < 2147483648) (hd : 0 < d ∧ d < 2147483648) : jI a - jI a / jI d * jI d = jI (a % d) := by
  obtain ⟨m, rfl⟩ : ∃ k : Nat, a = (k : Int) := ⟨a.toNat, by omega⟩
  obtain ⟨k, rfl⟩ : ∃ k : Nat, d = (k : Int) := ⟨d.toNat, by omega⟩
  rw [jI_nat, jI_nat, pk_rem (by omega) (by omega) (by omega), ← jI_nat]
  first | rfl | (congr 1; omega)
theorem jI_div {a d : Int} (ha : 0 ≤ a ∧ a < 2147483648) (hd : 0 < d ∧ d < 2147483648) : jI a / jI d = jI (a / d) := by
  obtain ⟨m, rfl⟩ : ∃ k : Nat, a = (k : Int) := ⟨a.toNat, by omega⟩
  obtain ⟨k, rfl⟩ : ∃ k : Nat, d = (k : Int) := ⟨d.toNat, by omega⟩
  rw [jI_nat, jI_nat, pk_div (by omega) (by omega) (by omega), ← jI_nat]
  first | rfl | (congr 1; omega)
theorem jL_rem {a d : Int} (ha : 0 ≤ a ∧ a < 9223372036854775808) (hd : 0 < d ∧ d < 9223372036854775808) : jL a - jL a / jL d * jL d = jL (a % d) := by
  obtain ⟨m, rfl⟩ : ∃ k : Nat, a = (k : Int) := ⟨a.toNat, by omega⟩
  obtain ⟨k, rfl⟩ : ∃ k : Nat, d = (k : Int) := ⟨d.toNat, by omega⟩
  rw [jL_nat, jL_nat, pk_lRem (by omega) (by omega) (by omega), ← jL_nat]
  first | rfl | (congr 1; omega)
theorem jI_i2l {a : Int} (h : inR a) : (jI a).toInt64 = jL a := by
  apply Int64.toInt_inj.mp
  rw [Int32.toInt_toInt64, jI_int h, jL_int ⟨by omega, by omega⟩]
theorem jL_l2i (a : Int) : (jL a).toInt32 = jI a := by
  unfold jL jI
  first | exact Int64.toInt32_ofInt a | exact Int64.toInt32_ofInt | simp
/-! ===== the memory of all objects: place i of cell k holds the number M k i ===== -/
abbrev Mm : Type := Nat → Int → Int
def mu (M : Mm) (k : Nat) (i v : Int) : Mm := fun a b => if a = k ∧ b = i then v else M a b
def mset (M : Mm) (k : Nat) (r : Int → Int) : Mm := fun a => if a = k then r else M a
def kd (k : Nat) : Nat := if k < 6 then [5, 10, 9, 7, 0, 10].getD k 7 else if k < 76 then [4, 7, 11, 7, 7, 7, 7].getD ((k - 6) % 7) 7 else if k < 96 then [3, 1, 7, 7, 7, 7, 7, 7, 7, 8].getD ((k - 76) % 10) 7 else if k < 105 then [2, 7, 7].getD ((k - 96) % 3) 7 else [6, 7, 7, 7, 7, 9, 7, 7, 7, 8, 9, 7, 7, 7].getD (k - 105) 7
def ln (k : Nat) : Nat := if k < 6 then [0, 2, 2, 30, 0, 6].getD k 0 else if k < 76 then [0, 6, 4, 10, 10, 10, 10].getD ((k - 6) % 7) 0 else if k < 96 then [0, 0, 10, 10, 11, 11, 1331, 1331, 1331, 1331].getD ((k - 76) % 10) 0 else if k < 105 then [0, 31, 31].getD ((k - 96) % 3) 0 else [0, 47, 47, 282, 94, 2, 30, 1331, 1331, 1331, 1331, 160, 160, 160].getD (k - 105) 0
def rfa (k i : Nat) : Nat := if k = 1 then 20 + 7 * i else if k = 5 then 34 + 7 * i else k + 1 + i
abbrev Gg : Type := va_G × (Nat → Prop) × (Nat → Nat) × (Nat → ClassId)
abbrev gD (g : Gg) : va_G := g.1
abbrev gA (g : Gg) : Nat → Prop := g.2.1
abbrev ga (g : Gg) : Nat → Nat := g.2.2.1
abbrev gc (g : Gg) : Nat → ClassId := g.2.2.2
abbrev vr (g : Gg) (k : Nat) : Value := Value.ref (ga g k)
def celr (g : Gg) (k : Nat) (r : Int → Int) : va_E := match kd k with
  | 0 => .inr (0, [vr g 5, vi (r 1), vi (r 2)])
  | 1 => .inr (1, [vi (r 0), vi (r 1), vi (r 2), vi (r 3), vi (r 4), vr g (k + 1), vr g (k + 2), vr g (k + 3), vr g (k + 4)])
  | 2 => .inr (2, [vr g (k + 1), vr g (k + 2), vi (r 2)])
  | 3 => .inr (3, [vr g (k + 1), vr g (k + 6), vr g (k + 7), vr g (k + 8), vr g (k + 9), vi (r 5)])
  | 4 => .inr (4, [vr g (k + 1), vr g (k + 2), vi (r 2)])
  | 5 => .inr (5, [vr g 6, vr g 13, vr g 1, vr g 2, vr g 4, vr g 76, vr g 86, vr g 96, vr g 99, vr g 102, vr g 3, vi (r 11), vi (r 12)])
  | 6 => .inr (6, [vr g 106, vr g 107, vi (r 2), vr g 108, vr g 109, vr g 110, vi (r 6), vr g 111, vr g 112, vr g 113, vr g 114, vr g 115, vi (r 12), vr g 116, vr g 117, vr g 118])
  | 8 => .inl (gc g k, ln k, .inr (.inl (fun i => jL (r (i : Int)))))
  | 10 => .inl (gc g k, ln k, .inr (.inr (.inr (.inr (fun i => some (ga g (rfa k i)))))))
  | 11 => .inl (gc g k, ln k, .inr (.inr (.inr (.inr (fun i => some (ga g (rfa k i)))))))
  | _ => .inl (gc g k, ln k, .inl (fun i => jI (r (i : Int))))
def ww (g : Gg) (M : Mm) : va_W := (List.range 119).map (fun k => (ga g k, celr g k (M k)))
theorem ww_at {g : Gg} {M : Mm} {k : Nat} (h : k < 119) : (ww g M)[k]? = some (ga g k, celr g k (M k)) := by
  unfold ww
  rw [List.getElem?_map, List.getElem?_range h]
  rfl
theorem ww_none {g : Gg} {M : Mm} {k : Nat} (h : ¬ k < 119) : (ww g M)[k]? = none := by
  unfold ww
  rw [List.getElem?_map, List.getElem?_eq_none (by rw [List.length_range]; omega)]
  rfl
theorem ww_set {g : Gg} {M : Mm} {k : Nat} {e : va_E} {r : Int → Int} (he : e = celr g k r) : (ww g M).set k (ga g k, e) = ww g (mset M k r) := by
  subst he
  apply List.ext_getElem?
  intro i
  by_cases hk : k < 119
  · by_cases hi : i = k
    · subst hi
      rw [List.getElem?_set_self (by simp [ww]; exact hk), ww_at hk]
      simp [mset]
    · rw [List.getElem?_set_ne (Ne.symm hi)]
      by_cases h2 : i < 119
      · rw [ww_at h2, ww_at h2]
        simp [mset, hi]
      · rw [ww_none h2, ww_none h2]
  · rw [List.set_eq_of_length_le (by simp [ww]; omega)]
    by_cases h2 : i < 119
    · rw [ww_at h2, ww_at h2]
      have : i ≠ k := by omega
      simp [mset, this]
    · rw [ww_none h2, ww_none h2]
theorem mset_mu (M : Mm) (k : Nat) (i v : Int) : mset M k (fun b => if b = i then v else M k b) = mu M k i v := by
  funext a b
  by_cases h : a = k
  · subst h
    simp [mset, mu]
  · simp [mset, mu, h]
def Dg (g : Gg) : Prop := (∀ i j, i < 119 → j < 119 → ga g i = ga g j → i = j) ∧ ∀ k, k < 119 → gA g (ga g k)
theorem ww_lt {g : Gg} {M : Mm} {k : Nat} {q : Nat × va_E} (h : (ww g M)[k]? = some q) : k < 119 ∧ q = (ga g k, celr g k (M k)) := by
  by_cases hk : k < 119
  · rw [ww_at hk] at h
    exact ⟨hk, (Option.some.inj h).symm⟩
  · rw [ww_none hk] at h
    cases h
theorem ww_D {g : Gg} (h : Dg g) (M : Mm) : va_D (gA g) (ww g M) := by
  refine ⟨fun i j p q hi hj e => ?_, fun k q hk => ?_⟩
  · obtain ⟨h1, rfl⟩ := ww_lt hi
    obtain ⟨h2, rfl⟩ := ww_lt hj
    exact h.1 i j h1 h2 e
  · obtain ⟨h1, rfl⟩ := ww_lt hk
    exact h.2 k h1
def tyw (g : Gg) (k : Nat) : ClassId × FieldType := match kd k with
  | 7 => (gc g k, .int)
  | 8 => (gc g k, .long)
  | 9 => (gc g k, .boolean)
  | 10 => (gc g k, .object "NearFigures$Setting")
  | 11 => (gc g k, .array .int)
  | _ => (gc g 3, .int)
def tys (g : Gg) : List (ClassId × FieldType) := (List.range 119).map (tyw g)
theorem tys_at {g : Gg} {k : Nat} (h : k < 119) : (tys g)[k]? = some (tyw g k) := by
  unfold tys
  rw [List.getElem?_map, List.getElem?_range h]
  rfl
abbrev Kg (g : Gg) (U : State) : Prop := va_K (gD g) vwCl (tys g) U
def Sta1 (g : Gg) (n : String) (N : Nat) (f : Nat → Int) (U : State) : Prop := ∃ t : Nat, va_Z "NearFigures" n "[I" (.ref t) (gA g) U U.heap ∧ va_T .int t N (fun j => vi (f j)) (gA g) U U.heap
def sLB (j : Nat) : Int := [0, 6, 1, 0, 1, 0].getD j 0
def sGB (j : Nat) : Int := [120, 40, 2, 40, 4, 1].getD j 0
def sLP (j : Nat) : Int := [1, 0, 0, 1].getD j 0
def sGP (j : Nat) : Int := [40, 1, 119, 9].getD j 0
def Sta (g : Gg) (U : State) : Prop := Sta1 g "LEAST_BOUND" 6 sLB U ∧ Sta1 g "GREATEST_BOUND" 6 sGB U ∧ Sta1 g "LEAST_PART" 4 sLP U ∧ Sta1 g "GREATEST_PART" 4 sGP U
theorem Sta1.to {g : Gg} {n : String} {N : Nat} {f : Nat → Int} {u U : State} (h : Sta1 g n N f u) (hvm : u.vm.Alike U.vm) (hq : ∀ a : Nat, a < u.heap.size → ¬ gA g a → U.heap[a]? = u.heap[a]?) : Sta1 g n N f U := by
  obtain ⟨t, h1, h2⟩ := h
  exact ⟨t, (h1.kept hq).moved hvm, (h2.kept hq).moved hvm⟩
theorem Sta.to {g : Gg} {u U : State} (h : Sta g u) (hvm : u.vm.Alike U.vm) (hq : ∀ a : Nat, a < u.heap.size → ¬ gA g a → U.heap[a]? = u.heap[a]?) : Sta g U := ⟨h.1.to hvm hq, h.2.1.to hvm hq, h.2.2.1.to hvm hq, h.2.2.2.to hvm hq⟩
def nT : List (String × Nat × String × String × String) := [("NearFigures$Measure", 24, "NearFigures$Setting", "bounds", "[I"), ("NearFigures", 74, "NearFigures$Setting", "bounds", "[I"), ("NearFigures$Measure", 47, "NearFigures$Setting", "parts", "[[I"), ("NearFigures", 109, "NearFigures$Setting", "parts", "[[I"), ("NearFigures$Measure", 33, "NearFigures$Setting", "figures", "I"), ("NearFigures", 86, "NearFigures$Setting", "figures", "I"), ("NearFigures", 124, "NearFigures$History", "size", "I"), ("NearFigures$Planner", 55, "NearFigures$Measure", "lines", "I"), ("NearFigures$Planner", 58, "NearFigures$Measure", "figures", "I"), ("NearFigures$Plan", 85, "NearFigures$Measure", "figures", "I"), ("NearFigures", 176, "NearFigures$Measure", "room", "I"), ("NearFigures$Planner", 46, "NearFigures$Measure", "clash", "I"), ("NearFigures$Plan", 38, "NearFigures$Measure", "clash", "I"), ("NearFigures", 136, "NearFigures$Measure", "clash", "I"), ("NearFigures", 158, "NearFigures$Measure", "due", "[I"), ("NearFigures$Plan", 74, "NearFigures$Measure", "due", "[I"), ("NearFigures$Plan", 67, "NearFigures$Measure", "weights", "[I"), ("NearFigures$Planner", 69, "NearFigures$Measure", "most", "[I"), ("NearFigures$Plan", 53, "NearFigures$Measure", "most", "[I"), ("NearFigures", 171, "NearFigures$Measure", "takenUpTo", "[I"), ("NearFigures$Plan", 32, "NearFigures$Planner", "measure", "LNearFigures$Measure;"), ("NearFigures", 132, "NearFigures$Planner", "measure", "LNearFigures$Measure;"), ("NearFigures", 148, "NearFigures$Planner", "places", "I"), ("NearFigures", 168, "NearFigures$Plan", "lines", "[I"), ("NearFigures", 174, "NearFigures$Plan", "figures", "[I"), ("NearFigures", 141, "NearFigures$Plan", "pages", "I"), ("NearFigures$Setting", 30, "NearFigures", "LEAST_BOUND", "[I"), ("NearFigures$Setting", 33, "NearFigures", "GREATEST_BOUND", "[I")]
abbrev nC (q : String × Nat × String × String × String) : Cond := .fieldLinkNest q.1 q.2.1 q.2.2.1 q.2.2.2.1 q.2.2.2.2 "NearFigures"
def Nst (U : State) : Prop := ∀ q ∈ nT, va_Nw (nC q) U
theorem Nst.warm {u U : State} (h : Nst u) (hW : u.WarmedH U.vm) : Nst U := fun q hq => (h q hq).warmF hW
theorem Nst.same {u U : State} (h : Nst u) (hv : u.vm = U.vm) : Nst U := fun q hq => (h q hq).same rfl hv
def Wd (g : Gg) (M : Mm) (U : State) : Prop := va_P (gD g) vwCl (ww g M) U.heap ∧ Kg g U ∧ Sta g U ∧ Nst U
def rv (ret : Option FieldType) (r : Int) : Option Value := match ret with
  | none => none
  | some .long => some (vl r)
  | some _ => some (vi r)
/-- a method: its name, its code, its locals, what it returns, the frames and words of locals that its calls want -/
abbrev Md : Type := MethodName × ByteArray × Nat × Option FieldType × Nat × Nat
abbrev dy (d : Md) : MethodName := d.1
abbrev dc (d : Md) : ByteArray := d.2.1
abbrev dn (d : Md) : Nat := d.2.2.1
abbrev dr (d : Md) : Option FieldType := d.2.2.2.1
abbrev df (d : Md) : Nat := d.2.2.2.2.1
abbrev dl (d : Md) : Nat := d.2.2.2.2.2
def Qq (g : Gg) (ret : Option FieldType) (post : Int → Mm → Prop) : Array Value → State → Outcome → State → Prop := fun _ st oc t => (∃ (r : Int) (M' : Mm), oc = .returned (rv ret r) ∧ post r M' ∧ va_P (gD g) vwCl (ww g M') t.heap) ∧ va_F (gA g) st t
/-- THE CONTRACT of a method at these arguments and this memory -/
def Ct (l : Launch) (g : Gg) (d : Md) (av : List Value) (M : Mm) (post : Int → Mm → Prop) : Prop :=
  Met l (dy d) (.code (dy d) (dc d) (dn d) (dr d) :: wsL_law) { frames := df d, cells := 0, slots := 0, locals := dl d } (va_Pc av (fun U => Wd g M U)) (Qq g (dr d) post) 0 0 (gA g)
/-- where a walk stands: the machine, and what it is to come to -/
abbrev Xx : Type := Program × Launch × Env × Room × State × MethodId × Array Value × List Frame × Method × Code × Gg × (State → Prop) × Nat × Nat
abbrev xp (x : Xx) : Program := x.1
abbrev xl (x : Xx) : Launch := x.2.1
abbrev xe (x : Xx) : Env := x.2.2.1
abbrev xR (x : Xx) : Room := x.2.2.2.1
abbrev xs (x : Xx) : State := x.2.2.2.2.1
abbrev xm (x : Xx) : MethodId := x.2.2.2.2.2.1
abbrev xa (x : Xx) : Array Value := x.2.2.2.2.2.2.1
abbrev xb (x : Xx) : List Frame := x.2.2.2.2.2.2.2.1
abbrev xt (x : Xx) : Method := x.2.2.2.2.2.2.2.2.1
abbrev xc (x : Xx) : Code := x.2.2.2.2.2.2.2.2.2.1
abbrev xg (x : Xx) : Gg := x.2.2.2.2.2.2.2.2.2.2.1
abbrev xQ (x : Xx) : State → Prop := x.2.2.2.2.2.2.2.2.2.2.2.1
abbrev xi (x : Xx) : Nat := x.2.2.2.2.2.2.2.2.2.2.2.2.1
abbrev xj (x : Xx) : Nat := x.2.2.2.2.2.2.2.2.2.2.2.2.2
abbrev Wx (x : Xx) (H : Heap) (locs : List Loc) (f : JFrame) : Prop := W (xp x) (xl x) (xe x) (xR x) (xs x) (xm x) (xa x) (xb x) (xt x) (xc x) H locs (xi x) (xj x) (xQ x) f
/-- the machine, at pc with these locals, this stack and this memory, comes to its aim -/
def Gx (x : Xx) (n pc : Nat) (L : List (Nat × Value)) (st : List Value) (M : Mm) : Prop :=
  ∀ (H : Heap) (locs : List Loc) (ls : Array Slot), va_P (gD (xg x)) vwCl (ww (xg x) M) H → va_S (gA (xg x)) (xs x).heap H locs → lv_has ls n L → Wx x H locs (F0 (xm x) pc ls st)
/-- what holds all along a walk of method d -/
def Cx (x : Xx) (d : Md) : Prop :=
  (xp x).tables.exec = Jvm.exec ∧ (xc x).code = dc d ∧ (xc x).maxLocals = dn d ∧ (xs x).vm.findClass (dy d).cls = some (xm x).cls ∧ (∀ w ∈ wsL_law, w.before (xa x) (xs x) = true) ∧ Kg (xg x) (xs x) ∧ Dg (xg x) ∧ Sta (xg x) (xs x) ∧ Nst (xs x) ∧ (xt x).sig.returnType = dr d ∧ (xt x).locks = false ∧ (df d ≤ (xR x).frames ∧ dl d ≤ (xR x).locals ∧ xi x ≤ (xR x).cells ∧ xj x ≤ (xR x).slots)
theorem Cx.ex {x : Xx} {d : Md} (C : Cx x d) : (xp x).tables.exec = Jvm.exec := C.1
theorem Cx.by_ {x : Xx} {d : Md} (C : Cx x d) : (xc x).code = dc d := C.2.1
theorem Cx.ml {x : Xx} {d : Md} (C : Cx x d) : (xc x).maxLocals = dn d := C.2.2.1
theorem Cx.ow {x : Xx} {d : Md} (C : Cx x d) : (xs x).vm.findClass (dy d).cls = some (xm x).cls := C.2.2.2.1
theorem Cx.ts {x : Xx} {d : Md} (C : Cx x d) : ∀ w ∈ wsL_law, w.before (xa x) (xs x) = true := C.2.2.2.2.1
theorem Cx.kk {x : Xx} {d : Md} (C : Cx x d) : Kg (xg x) (xs x) := C.2.2.2.2.2.1
theorem Cx.dd {x : Xx} {d : Md} (C : Cx x d) : Dg (xg x) := C.2.2.2.2.2.2.1
theorem Cx.st {x : Xx} {d : Md} (C : Cx x d) : Sta (xg x) (xs x) := C.2.2.2.2.2.2.2.1
theorem Cx.ns {x : Xx} {d : Md} (C : Cx x d) : Nst (xs x) := C.2.2.2.2.2.2.2.2.1
theorem Cx.re {x : Xx} {d : Md} (C : Cx x d) : (xt x).sig.returnType = dr d := C.2.2.2.2.2.2.2.2.2.1
theorem Cx.lo {x : Xx} {d : Md} (C : Cx x d) : (xt x).locks = false := C.2.2.2.2.2.2.2.2.2.2.1
theorem Cx.rm {x : Xx} {d : Md} (C : Cx x d) : df d ≤ (xR x).frames ∧ dl d ≤ (xR x).locals ∧ xi x ≤ (xR x).cells ∧ xj x ≤ (xR x).slots := C.2.2.2.2.2.2.2.2.2.2.2
/-- what a method's walk is to come to -/
def Rt (x : Xx) (d : Md) (post : Int → Mm → Prop) : Prop := xQ x = MQ (xb x) (Qq (xg x) (dr d) post) (xa x) (xs x) (xi x) (xj x) (gA (xg x))
theorem ct_of {l : Launch} {g : Gg} {d : Md} {av : List Value} {M : Mm} {post : Int → Mm → Prop} (hp : plainName (dy d).cls = true) (hD : Dg g) (hlen : (lg_sl av).length ≤ dn d)
    (h : ∀ x : Xx, xl x = l → xg x = g → Cx x d → Rt x d post → Gx x (dn d) 0 (lv_args 0 av) [] M) : Ct l g d av M post := by
  refine Met.ofW (cc := dc d) (maxL := dn d) (ret := dr d) hp rfl ?_
  intro p e s m args below meth c s₁ B hml hv
  obtain ⟨rfl, hP, hK, hSt, hNs⟩ := hv
  have hts := atoms_spec (ws := .code (dy d) (dc d) (dn d) (dr d) :: wsL_law) B.pre
  have hown : s.vm.findClass (dy d).cls = some m.cls := findClass_of_methodNamed B.named
  have hl := lv_entry av (n := dn d) hlen
  rw [lg_entry_eq]
  exact h (p, l, e, { frames := df d, cells := 0, slots := 0, locals := dl d }, s, m, av.toArray, below, meth, c, g, MQ below (Qq g (dr d) post) av.toArray s 0 0 (gA g), 0, 0) rfl rfl ⟨B.exec, B.bytes, hml, hown, fun w hw => hts w (List.mem_cons_of_mem _ hw), hK, hD, hSt, hNs, B.returns, B.notSynchronized, Nat.le_refl _, Nat.le_refl _, Nat.le_refl _, Nat.le_refl _⟩ rfl s.heap [] _ hP va_S.rf hl
end
section
theorem jL_ne0 {b : Int} (h : 0 < b ∧ b < 9223372036854775808) : ¬ jL b = 0 := by
  intro e
  have h2 := congrArg Int64.toInt e
  rw [jL_int ⟨by omega, by omega⟩] at h2
  have h3 : (0 : Int64).toInt = 0 := by decide
  omega
theorem jI_tb (a : Int) : (jI a).toBitVec.toNat = (a % 4294967296).toNat := by
  unfold jI
  rw [Int32.toBitVec_ofInt, BitVec.toNat_ofInt]
  rfl
theorem jI_bv {a b : Int} (h : a % 4294967296 = b % 4294967296) : jI a = jI b := by
  apply Int32.toBitVec_inj.mp
  apply BitVec.eq_of_toNat_eq
  rw [jI_tb, jI_tb, h]
theorem jI_and {a b p : Int} (w : Nat) (hb : b = 2 ^ w - 1 ∧ w ≤ 30) (hp : p = 2 ^ w) : jI a &&& jI b = jI (a % p) := by
  have hw : (2 : Int) ^ w = ((2 ^ w : Nat) : Int) := by norm_cast
  have hpos : 0 < 2 ^ w := Nat.two_pow_pos w
  have hle : 2 ^ w ≤ 2 ^ 30 := Nat.pow_le_pow_right (by decide) hb.2
  have hdv : (2 : Int) ^ w ∣ 4294967296 := ⟨2 ^ (32 - w), by rw [← Int.pow_add, show w + (32 - w) = 32 by omega]; rfl⟩
  have hm : (jI b).toBitVec.toNat = 2 ^ w - 1 := by
    rw [jI_tb, hb.1, hw]
    have : ((2 ^ w : Nat) : Int) - 1 = ((2 ^ w - 1 : Nat) : Int) := by omega
    rw [this]
    omega
  rw [pk_and (jI a) w hm, jI_tb, ← jI_nat]
  congr 1
  rw [hp]
  have h1 : ((a % 4294967296).toNat : Int) = a % 4294967296 := Int.toNat_of_nonneg (Int.emod_nonneg _ (by decide))
  rw [Int.natCast_emod, h1, ← hw, Int.emod_emod_of_dvd _ hdv]
theorem nI_or (a b : Nat) : nI a ||| nI b = nI (a ||| b) := by
  apply Int32.toBitVec_inj.mp
  show BitVec.ofNat 32 a ||| BitVec.ofNat 32 b = BitVec.ofNat 32 (a ||| b)
  exact BitVec.ofNat_or.symm
theorem jI_or {a b : Int} (h : 0 ≤ a ∧ 0 ≤ b) : jI a ||| jI b = jI ((a.toNat ||| b.toNat : Nat) : Int) := by
  obtain ⟨m, rfl⟩ : ∃ k : Nat, a = (k : Int) := ⟨a.toNat, by omega⟩
  obtain ⟨k, rfl⟩ : ∃ k : Nat, b = (k : Int) := ⟨b.toNat, by omega⟩
  rw [jI_nat, jI_nat, jI_nat, nI_or]
  rfl
theorem sm_l : ∀ n, n < 32 → ((nI n &&& 31).toBitVec.smod 32).toNat = n := by decide
theorem jI_shl {b : Int} (h : 0 ≤ b ∧ b < 31) : jI 1 <<< (jI b &&& 31) = jI (2 ^ b.toNat) := by
  obtain ⟨k, rfl⟩ : ∃ k : Nat, b = (k : Int) := ⟨b.toNat, by omega⟩
  have hk : k < 31 := by omega
  rw [jI_nat, show jI 1 = nI 1 from by decide, pk_shlN (n := 1) (nI k &&& 31) k (sm_l k (by omega)) (by rw [Nat.one_mul]; exact Nat.pow_lt_pow_right (by decide) (by omega)), Nat.one_mul, ← jI_nat]
  rfl
theorem jI_shr {a b : Int} (h : 0 ≤ a ∧ a < 2147483648) (hb : 0 ≤ b ∧ b < 31) : jI a >>> (jI b &&& 31) = jI (a / 2 ^ b.toNat) := by
  obtain ⟨m, rfl⟩ : ∃ k : Nat, a = (k : Int) := ⟨a.toNat, by omega⟩
  obtain ⟨k, rfl⟩ : ∃ k : Nat, b = (k : Int) := ⟨b.toNat, by omega⟩
  rw [jI_nat, jI_nat, pk_shrN (by omega) (nI k &&& 31) k (sm_l k (by omega)), ← jI_nat, Int.toNat_natCast]
  congr 1
theorem celr_0 {g : Gg} {k : Nat} {r : Int → Int} (h : kd k = 0) : celr g k r = .inr (0, [vr g 5, vi (r 1), vi (r 2)]) := by simp only [celr, h]
theorem celr_1 {g : Gg} {k : Nat} {r : Int → Int} (h : kd k = 1) : celr g k r = .inr (1, [vi (r 0), vi (r 1), vi (r 2), vi (r 3), vi (r 4), vr g (k + 1), vr g (k + 2), vr g (k + 3), vr g (k + 4)]) := by simp only [celr, h]
theorem celr_2 {g : Gg} {k : Nat} {r : Int → Int} (h : kd k = 2) : celr g k r = .inr (2, [vr g (k + 1), vr g (k + 2), vi (r 2)]) := by simp only [celr, h]
theorem celr_3 {g : Gg} {k : Nat} {r : Int → Int} (h : kd k = 3) : celr g k r = .inr (3, [vr g (k + 1), vr g (k + 6), vr g (k + 7), vr g (k + 8), vr g (k + 9), vi (r 5)]) := by simp only [celr, h]
theorem celr_4 {g : Gg} {k : Nat} {r : Int → Int} (h : kd k = 4) : celr g k r = .inr (4, [vr g (k + 1), vr g (k + 2), vi (r 2)]) := by simp only [celr, h]
theorem celr_5 {g : Gg} {k : Nat} {r : Int → Int} (h : kd k = 5) : celr g k r = .inr (5, [vr g 6, vr g 13, vr g 1, vr g 2, vr g 4, vr g 76, vr g 86, vr g 96, vr g 99, vr g 102, vr g 3, vi (r 11), vi (r 12)]) := by simp only [celr, h]
theorem celr_6 {g : Gg} {k : Nat} {r : Int → Int} (h : kd k = 6) : celr g k r = .inr (6, [vr g 106, vr g 107, vi (r 2), vr g 108, vr g 109, vr g 110, vi (r 6), vr g 111, vr g 112, vr g 113, vr g 114, vr g 115, vi (r 12), vr g 116, vr g 117, vr g 118]) := by simp only [celr, h]
theorem celr_7 {g : Gg} {k : Nat} {r : Int → Int} (h : kd k = 7) : celr g k r = .inl (gc g k, ln k, .inl (fun i => jI (r (i : Int)))) := by simp only [celr, h]
theorem celr_8 {g : Gg} {k : Nat} {r : Int → Int} (h : kd k = 8) : celr g k r = .inl (gc g k, ln k, .inr (.inl (fun i => jL (r (i : Int))))) := by simp only [celr, h]
theorem celr_9 {g : Gg} {k : Nat} {r : Int → Int} (h : kd k = 9) : celr g k r = .inl (gc g k, ln k, .inl (fun i => jI (r (i : Int)))) := by simp only [celr, h]
theorem celr_10 {g : Gg} {k : Nat} {r : Int → Int} (h : kd k = 10) : celr g k r = .inl (gc g k, ln k, .inr (.inr (.inr (.inr (fun i => some (ga g (rfa k i))))))) := by simp only [celr, h]
theorem celr_11 {g : Gg} {k : Nat} {r : Int → Int} (h : kd k = 11) : celr g k r = .inl (gc g k, ln k, .inr (.inr (.inr (.inr (fun i => some (ga g (rfa k i))))))) := by simp only [celr, h]
theorem ww_7 {g : Gg} {M : Mm} {k : Nat} (hk : k < 119) (h : kd k = 7) : (ww g M)[k]? = some (ga g k, .inl (gc g k, ln k, .inl (fun i => jI (M k (i : Int))))) := by rw [ww_at hk, celr_7 h]
theorem tys_7 {g : Gg} {k : Nat} (hk : k < 119) (h : kd k = 7) : (tys g)[k]? = some (gc g k, .int) := by rw [tys_at hk]; simp only [tyw, h]
theorem ww_8 {g : Gg} {M : Mm} {k : Nat} (hk : k < 119) (h : kd k = 8) : (ww g M)[k]? = some (ga g k, .inl (gc g k, ln k, .inr (.inl (fun i => jL (M k (i : Int)))))) := by rw [ww_at hk, celr_8 h]
theorem tys_8 {g : Gg} {k : Nat} (hk : k < 119) (h : kd k = 8) : (tys g)[k]? = some (gc g k, .long) := by rw [tys_at hk]; simp only [tyw, h]
theorem ww_9 {g : Gg} {M : Mm} {k : Nat} (hk : k < 119) (h : kd k = 9) : (ww g M)[k]? = some (ga g k, .inl (gc g k, ln k, .inl (fun i => jI (M k (i : Int))))) := by rw [ww_at hk, celr_9 h]
theorem tys_9 {g : Gg} {k : Nat} (hk : k < 119) (h : kd k = 9) : (tys g)[k]? = some (gc g k, .boolean) := by rw [tys_at hk]; simp only [tyw, h]
theorem ww_10 {g : Gg} {M : Mm} {k : Nat} (hk : k < 119) (h : kd k = 10) : (ww g M)[k]? = some (ga g k, .inl (gc g k, ln k, .inr (.inr (.inr (.inr (fun i => some (ga g (rfa k i)))))))) := by rw [ww_at hk, celr_10 h]
theorem tys_10 {g : Gg} {k : Nat} (hk : k < 119) (h : kd k = 10) : (tys g)[k]? = some (gc g k, .object "NearFigures$Setting") := by rw [tys_at hk]; simp only [tyw, h]
theorem ww_11 {g : Gg} {M : Mm} {k : Nat} (hk : k < 119) (h : kd k = 11) : (ww g M)[k]? = some (ga g k, .inl (gc g k, ln k, .inr (.inr (.inr (.inr (fun i => some (ga g (rfa k i)))))))) := by rw [ww_at hk, celr_11 h]
theorem tys_11 {g : Gg} {k : Nat} (hk : k < 119) (h : kd k = 11) : (tys g)[k]? = some (gc g k, .array .int) := by rw [tys_at hk]; simp only [tyw, h]
theorem up_7 {g : Gg} {M : Mm} {k : Nat} {i z : Int} (h : kd k = 7) (hi : 0 ≤ i) : (.inl (gc g k, ln k, .inl (upd (fun j => jI (M k (j : Int))) i.toNat (jI z))) : va_E) = celr g k (fun b => if b = i then z else M k b) := by
  rw [celr_7 h]
  congr 4
  funext j
  by_cases e : (j : Int) = i
  · have e2 : j = i.toNat := by omega
    subst e2
    simp [upd, e]
  · have e2 : ¬ j = i.toNat := by omega
    simp [upd, e, e2]
theorem up_9 {g : Gg} {M : Mm} {k : Nat} {i z : Int} (h : kd k = 9) (hz : z = 0 ∨ z = 1) (hi : 0 ≤ i) : (.inl (gc g k, ln k, .inl (upd (fun j => jI (M k (j : Int))) i.toNat (vp_nar .boolean (jI z)))) : va_E) = celr g k (fun b => if b = i then z else M k b) := by
  have hn : vp_nar .boolean (jI z) = jI z := by rcases hz with rfl | rfl <;> decide
  rw [celr_9 h, hn]
  congr 4
  funext j
  by_cases e : (j : Int) = i
  · have e2 : j = i.toNat := by omega
    subst e2
    simp [upd, e]
  · have e2 : ¬ j = i.toNat := by omega
    simp [upd, e, e2]
theorem up_8 {g : Gg} {M : Mm} {k : Nat} {i z : Int} (h : kd k = 8) (hi : 0 ≤ i) : (.inl (gc g k, ln k, .inr (.inl (vp_updL (fun j => jL (M k (j : Int))) i.toNat (jL z)))) : va_E) = celr g k (fun b => if b = i then z else M k b) := by
  rw [celr_8 h]
  congr 5
  funext j
  by_cases e : (j : Int) = i
  · have e2 : j = i.toNat := by omega
    subst e2
    simp [vp_updL, e]
  · have e2 : ¬ j = i.toNat := by omega
    simp [vp_updL, e, e2]
def mcp (M : Mm) (k0 : Nat) (sp : Int) (k1 : Nat) (dp c : Int) : Mm := mset M k1 (fun b => if dp ≤ b ∧ b < dp + c then M k0 (sp + (b - dp)) else M k1 b)
theorem cp_7 {g : Gg} {M : Mm} {k0 k1 : Nat} {sp dp c : Int} (h : kd k1 = 7) (h1 : 0 ≤ sp) (h2 : 0 ≤ dp) (h3 : 0 ≤ c) : (.inl (gc g k1, ln k1, .inl (va_cpy (fun j => jI (M k0 (j : Int))) (fun j => jI (M k1 (j : Int))) sp.toNat dp.toNat c.toNat)) : va_E) = celr g k1 (fun b => if dp ≤ b ∧ b < dp + c then M k0 (sp + (b - dp)) else M k1 b) := by
  rw [celr_7 h]
  congr 4
  funext j
  by_cases e : dp ≤ (j : Int) ∧ (j : Int) < dp + c
  · rw [pk_cpy_in (by omega) (by omega), if_pos e]
    congr 2
    omega
  · rw [pk_cpy_out (by omega), if_neg e]
section VMX
variable {p : Program} {l : Launch} {e : Env} {R : Room} {s : State} {m : MethodId} {args : Array Value} {below : List Frame} {meth : Method} {c : Code} {H : Heap} {locs : List Loc} {cells slots : Nat} {Q : State → Prop}
variable {cc : ByteArray} {pc : Nat} {ls : Array Slot} {rest : List Value} {D : va_G} {cl : List vw_C} {a : Nat} {tys : List (ClassId × FieldType)} {ws : va_W}
theorem vm_aald (hexec : p.tables.exec = Jvm.exec) (hb : c.code = cc) (hK : va_K D cl tys s) (hP : va_P D cl ws H) (q0 t0 : Nat) {cA : ClassId} {ty : FieldType} {n : Nat} {f : Nat → Option Nat} (ha : ws[q0]? = some (a, .inl (cA, n, .inr (.inr (.inr (.inr f)))))) (ht : tys[t0]? = some (cA, .array ty)) {i : Int32} (hin : vp_in i n) (hdg : decode cc pc = .ok (.aaload, 1))
    (kk : W p l e R s m args below meth c H locs cells slots Q (F0 m (pc + 1) ls (va_rf (f i.toNatClampNeg) :: rest))) : W p l e R s m args below meth c H locs cells slots Q (F0 m pc ls (.int i :: .ref a :: rest)) := by
  have hlt : i.toNatClampNeg < n := Nat.not_le.mp fun q => hin (Or.inr q)
  exact W.aald (v := va_rf (f i.toNatClampNeg)) (ty := .array ty) hexec hb (hP q0 _ ha) ((hK.2 t0 _ ht).1 n (fun j => va_rf (f j))) rfl (fun q => by cases q) (by show ¬ (i < 0 ∨ (arrV _ _ _).slots.size ≤ _); rw [arrV_size]; exact hin) (by show (arrV _ _ _).slots[_]? = _; rw [arrV_read _ _ hlt]) rfl rfl hdg kk
end VMX
theorem g_sub {x : Xx} {n pc : Nat} {L L2 : List (Nat × Value)} {st : List Value} {M : Mm} (ks : List Nat) (h : lv_pick L ks = L2) (k : Gx x n pc L2 st M) : Gx x n pc L st M := fun H locs ls hP hS hl => k H locs ls hP hS (lv_sub hl ks h)
theorem g_eqM {x : Xx} {n pc : Nat} {L : List (Nat × Value)} {st : List Value} {M M2 : Mm} (h : M = M2) (k : Gx x n pc L st M2) : Gx x n pc L st M := by subst h; exact k
theorem g_iconst {x : Xx} {d : Md} {n pc q : Nat} {L : List (Nat × Value)} {st : List Value} {M : Mm} (C : Cx x d) {z : Int} (hd : decode (dc d) pc = .ok (.iconst z, 1)) (hq : pc + 1 = q)  (k : Gx x n q L (vi z :: st) M) : Gx x n pc L (st) M := by
  subst hq
  exact fun H locs ls hP hS hl => lv_iconst C.ex C.by_ hd rfl (k H locs ls hP hS hl)
theorem g_bipush {x : Xx} {d : Md} {n pc q : Nat} {L : List (Nat × Value)} {st : List Value} {M : Mm} (C : Cx x d) {z : Int} (hd : decode (dc d) pc = .ok (.bipush z, 2)) (hq : pc + 2 = q) (hv : (Int8.ofInt z).toInt32 = jI z) (k : Gx x n q L (vi z :: st) M) : Gx x n pc L (st) M := by
  subst hq
  exact fun H locs ls hP hS hl => lv_bipush C.ex C.by_ hd hv (k H locs ls hP hS hl)
theorem g_sipush {x : Xx} {d : Md} {n pc q : Nat} {L : List (Nat × Value)} {st : List Value} {M : Mm} (C : Cx x d) {z : Int} (hd : decode (dc d) pc = .ok (.sipush z, 3)) (hq : pc + 3 = q) (hv : (Int16.ofInt z).toInt32 = jI z) (k : Gx x n q L (vi z :: st) M) : Gx x n pc L (st) M := by
  subst hq
  exact fun H locs ls hP hS hl => lv_sipush C.ex C.by_ hd hv (k H locs ls hP hS hl)
theorem g_lconst {x : Xx} {d : Md} {n pc q : Nat} {L : List (Nat × Value)} {st : List Value} {M : Mm} (C : Cx x d) {z : Fin 2} (hd : decode (dc d) pc = .ok (.lconst z, 1)) (hq : pc + 1 = q)  (k : Gx x n q L (vl ((z : Nat) : Int) :: st) M) : Gx x n pc L (st) M := by
  subst hq
  exact fun H locs ls hP hS hl => lv_lconst C.ex C.by_ hd (by rw [jL_nat]; rfl) (k H locs ls hP hS hl)
theorem g_ldc {x : Xx} {d : Md} {n pc q : Nat} {L : List (Nat × Value)} {st : List Value} {M : Mm} (C : Cx x d) {i : Nat} {z : Int} (hd : decode (dc d) pc = .ok (.ldc i, 2)) (hq : pc + 2 = q) (hw : Cond.constant (dy d).cls i (jI z) ∈ wsL_law) (k : Gx x n q L (vi z :: st) M) : Gx x n pc L (st) M := by
  subst hq
  exact fun H locs ls hP hS hl => lv_ldc C.ex C.by_ C.ow (C.ts _ hw) hd (k H locs ls hP hS hl)
theorem g_ldc2 {x : Xx} {d : Md} {n pc q : Nat} {L : List (Nat × Value)} {st : List Value} {M : Mm} (C : Cx x d) {i : Nat} {z : Int} (hd : decode (dc d) pc = .ok (.ldc2_w i, 3)) (hq : pc + 3 = q) (hw : Cond.constantLong (dy d).cls i (jL z) ∈ wsL_law) (k : Gx x n q L (vl z :: st) M) : Gx x n pc L (st) M := by
  subst hq
  exact fun H locs ls hP hS hl => lv_ldc2 C.ex C.by_ C.ow (C.ts _ hw) hd (k H locs ls hP hS hl)
theorem g_iload_n {x : Xx} {d : Md} {n pc q : Nat} {L : List (Nat × Value)} {st : List Value} {M : Mm} (C : Cx x d) {j : Fin 4} {i : Nat} {z : Int} (hd : decode (dc d) pc = .ok (.iload_n j, 1)) (hq : pc + 1 = q) (p : Nat) (hi : (j : Nat) = i) (hL : L[p]? = some (i, vi z)) (k : Gx x n q L (vi z :: st) M) : Gx x n pc L (st) M := by
  subst hq
  exact fun H locs ls hP hS hl => lv_iload_n C.ex C.by_ hd hi (lv_at hl p hL) (k H locs ls hP hS hl)
theorem g_iload {x : Xx} {d : Md} {n pc q : Nat} {L : List (Nat × Value)} {st : List Value} {M : Mm} (C : Cx x d) {i : Nat} {z : Int} (hd : decode (dc d) pc = .ok (.iload i, 2)) (hq : pc + 2 = q) (p : Nat) (hL : L[p]? = some (i, vi z)) (k : Gx x n q L (vi z :: st) M) : Gx x n pc L (st) M := by
  subst hq
  exact fun H locs ls hP hS hl => lv_iload C.ex C.by_ hd (lv_at hl p hL) (k H locs ls hP hS hl)
theorem g_lload_n {x : Xx} {d : Md} {n pc q : Nat} {L : List (Nat × Value)} {st : List Value} {M : Mm} (C : Cx x d) {j : Fin 4} {i : Nat} {z : Int} (hd : decode (dc d) pc = .ok (.lload_n j, 1)) (hq : pc + 1 = q) (p : Nat) (hi : (j : Nat) = i) (hL : L[p]? = some (i, vl z)) (k : Gx x n q L (vl z :: st) M) : Gx x n pc L (st) M := by
  subst hq
  exact fun H locs ls hP hS hl => lv_lload_n C.ex C.by_ hd hi (lv_at hl p hL) (k H locs ls hP hS hl)
theorem g_lload {x : Xx} {d : Md} {n pc q : Nat} {L : List (Nat × Value)} {st : List Value} {M : Mm} (C : Cx x d) {i : Nat} {z : Int} (hd : decode (dc d) pc = .ok (.lload i, 2)) (hq : pc + 2 = q) (p : Nat) (hL : L[p]? = some (i, vl z)) (k : Gx x n q L (vl z :: st) M) : Gx x n pc L (st) M := by
  subst hq
  exact fun H locs ls hP hS hl => lv_lload C.ex C.by_ hd (lv_at hl p hL) (k H locs ls hP hS hl)
theorem g_aload_n {x : Xx} {d : Md} {n pc q : Nat} {L : List (Nat × Value)} {st : List Value} {M : Mm} (C : Cx x d) {j : Fin 4} {i : Nat} {z : Nat} (hd : decode (dc d) pc = .ok (.aload_n j, 1)) (hq : pc + 1 = q) (p : Nat) (hi : (j : Nat) = i) (hL : L[p]? = some (i, .ref z)) (k : Gx x n q L (.ref z :: st) M) : Gx x n pc L (st) M := by
  subst hq
  exact fun H locs ls hP hS hl => lv_aload_n C.ex C.by_ hd hi (lv_at hl p hL) (k H locs ls hP hS hl)
theorem g_aload {x : Xx} {d : Md} {n pc q : Nat} {L : List (Nat × Value)} {st : List Value} {M : Mm} (C : Cx x d) {i : Nat} {z : Nat} (hd : decode (dc d) pc = .ok (.aload i, 2)) (hq : pc + 2 = q) (p : Nat) (hL : L[p]? = some (i, .ref z)) (k : Gx x n q L (.ref z :: st) M) : Gx x n pc L (st) M := by
  subst hq
  exact fun H locs ls hP hS hl => lv_aload C.ex C.by_ hd (lv_at hl p hL) (k H locs ls hP hS hl)
theorem g_istore_n {x : Xx} {d : Md} {n pc q : Nat} {L : List (Nat × Value)} {st : List Value} {M : Mm} (C : Cx x d) {L2 : List (Nat × Value)} {j : Fin 4} {i : Nat} {z : Int} (hd : decode (dc d) pc = .ok (.istore_n j, 1)) (hq : pc + 1 = q) (hi : (j : Nat) = i) (hn : i < n) (hL : (i, vi z) :: L.filter (fun q => !(q.1 == i) && !(q.1 + 1 == i && q.2.category == 2)) = L2) (k : Gx x n q L2 st M) : Gx x n pc L (vi z :: st) M := by
  subst hq
  exact fun H locs ls hP hS hl => lv_istore_n C.ex C.by_ hd hi hl hn hL (fun ls2 h2 => k H locs ls2 hP hS h2)
theorem g_istore {x : Xx} {d : Md} {n pc q : Nat} {L : List (Nat × Value)} {st : List Value} {M : Mm} (C : Cx x d) {L2 : List (Nat × Value)} {i : Nat} {z : Int} (hd : decode (dc d) pc = .ok (.istore i, 2)) (hq : pc + 2 = q) (hn : i < n) (hL : (i, vi z) :: L.filter (fun q => !(q.1 == i) && !(q.1 + 1 == i && q.2.category == 2)) = L2) (k : Gx x n q L2 st M) : Gx x n pc L (vi z :: st) M := by
  subst hq
  exact fun H locs ls hP hS hl => lv_istore C.ex C.by_ hd hl hn hL (fun ls2 h2 => k H locs ls2 hP hS h2)
theorem g_lstore_n {x : Xx} {d : Md} {n pc q : Nat} {L : List (Nat × Value)} {st : List Value} {M : Mm} (C : Cx x d) {L2 : List (Nat × Value)} {j : Fin 4} {i : Nat} {z : Int} (hd : decode (dc d) pc = .ok (.lstore_n j, 1)) (hq : pc + 1 = q) (hi : (j : Nat) = i) (hn : i + 1 < n) (hL : (i, vl z) :: L.filter (fun q => !(q.1 == i) && (!(q.1 == i + 1) && !(q.1 + 1 == i && q.2.category == 2))) = L2) (k : Gx x n q L2 st M) : Gx x n pc L (vl z :: st) M := by
  subst hq
  exact fun H locs ls hP hS hl => lv_lstore_n C.ex C.by_ hd hi hl hn hL (fun ls2 h2 => k H locs ls2 hP hS h2)
theorem g_lstore {x : Xx} {d : Md} {n pc q : Nat} {L : List (Nat × Value)} {st : List Value} {M : Mm} (C : Cx x d) {L2 : List (Nat × Value)} {i : Nat} {z : Int} (hd : decode (dc d) pc = .ok (.lstore i, 2)) (hq : pc + 2 = q) (hn : i + 1 < n) (hL : (i, vl z) :: L.filter (fun q => !(q.1 == i) && (!(q.1 == i + 1) && !(q.1 + 1 == i && q.2.category == 2))) = L2) (k : Gx x n q L2 st M) : Gx x n pc L (vl z :: st) M := by
  subst hq
  exact fun H locs ls hP hS hl => lv_lstore C.ex C.by_ hd hl hn hL (fun ls2 h2 => k H locs ls2 hP hS h2)
theorem g_astore_n {x : Xx} {d : Md} {n pc q : Nat} {L : List (Nat × Value)} {st : List Value} {M : Mm} (C : Cx x d) {L2 : List (Nat × Value)} {j : Fin 4} {i : Nat} {z : Nat} (hd : decode (dc d) pc = .ok (.astore_n j, 1)) (hq : pc + 1 = q) (hi : (j : Nat) = i) (hn : i < n) (hL : (i, .ref z) :: L.filter (fun q => !(q.1 == i) && !(q.1 + 1 == i && q.2.category == 2)) = L2) (k : Gx x n q L2 st M) : Gx x n pc L (.ref z :: st) M := by
  subst hq
  exact fun H locs ls hP hS hl => lv_astore_n C.ex C.by_ hd hi hl hn hL (fun ls2 h2 => k H locs ls2 hP hS h2)
theorem g_astore {x : Xx} {d : Md} {n pc q : Nat} {L : List (Nat × Value)} {st : List Value} {M : Mm} (C : Cx x d) {L2 : List (Nat × Value)} {i : Nat} {z : Nat} (hd : decode (dc d) pc = .ok (.astore i, 2)) (hq : pc + 2 = q) (hn : i < n) (hL : (i, .ref z) :: L.filter (fun q => !(q.1 == i) && !(q.1 + 1 == i && q.2.category == 2)) = L2) (k : Gx x n q L2 st M) : Gx x n pc L (.ref z :: st) M := by
  subst hq
  exact fun H locs ls hP hS hl => lv_astore C.ex C.by_ hd hl hn hL (fun ls2 h2 => k H locs ls2 hP hS h2)
theorem g_iinc {x : Xx} {d : Md} {n pc q : Nat} {L : List (Nat × Value)} {st : List Value} {M : Mm} (C : Cx x d) {L2 : List (Nat × Value)} {i : Nat} {z c : Int} (hd : decode (dc d) pc = .ok (.iinc i c, 3)) (hq : pc + 3 = q) (p : Nat) (hp : L[p]? = some (i, vi z)) (hn : i < n) (hL : (i, vi (z + c)) :: L.filter (fun q => !(q.1 == i) && !(q.1 + 1 == i && q.2.category == 2)) = L2) (k : Gx x n q L2 st M) : Gx x n pc L st M := by
  subst hq
  exact fun H locs ls hP hS hl => lv_iinc C.ex C.by_ hd hl hp (jI_add z c) hn hL (fun ls2 h2 => k H locs ls2 hP hS h2)
theorem g_iadd {x : Xx} {d : Md} {n pc q : Nat} {L : List (Nat × Value)} {st : List Value} {M : Mm} (C : Cx x d) {a b : Int} (hd : decode (dc d) pc = .ok (.iadd, 1)) (hq : pc + 1 = q)  (k : Gx x n q L (vi (a + b) :: st) M) : Gx x n pc L (vi b :: vi a :: st) M := by
  subst hq
  exact fun H locs ls hP hS hl => lv_iadd C.ex C.by_ hd (by rw [jI_add]; exact k H locs ls hP hS hl)
theorem g_isub {x : Xx} {d : Md} {n pc q : Nat} {L : List (Nat × Value)} {st : List Value} {M : Mm} (C : Cx x d) {a b : Int} (hd : decode (dc d) pc = .ok (.isub, 1)) (hq : pc + 1 = q)  (k : Gx x n q L (vi (a - b) :: st) M) : Gx x n pc L (vi b :: vi a :: st) M := by
  subst hq
  exact fun H locs ls hP hS hl => lv_isub C.ex C.by_ hd (by rw [jI_sub]; exact k H locs ls hP hS hl)
theorem g_imul {x : Xx} {d : Md} {n pc q : Nat} {L : List (Nat × Value)} {st : List Value} {M : Mm} (C : Cx x d) {a b : Int} (hd : decode (dc d) pc = .ok (.imul, 1)) (hq : pc + 1 = q)  (k : Gx x n q L (vi (a * b) :: st) M) : Gx x n pc L (vi b :: vi a :: st) M := by
  subst hq
  exact fun H locs ls hP hS hl => lv_imul C.ex C.by_ hd (by rw [jI_mul]; exact k H locs ls hP hS hl)
theorem g_ladd {x : Xx} {d : Md} {n pc q : Nat} {L : List (Nat × Value)} {st : List Value} {M : Mm} (C : Cx x d) {a b : Int} (hd : decode (dc d) pc = .ok (.ladd, 1)) (hq : pc + 1 = q)  (k : Gx x n q L (vl (a + b) :: st) M) : Gx x n pc L (vl b :: vl a :: st) M := by
  subst hq
  exact fun H locs ls hP hS hl => lv_ladd C.ex C.by_ hd (by rw [jL_add]; exact k H locs ls hP hS hl)
theorem g_lsub {x : Xx} {d : Md} {n pc q : Nat} {L : List (Nat × Value)} {st : List Value} {M : Mm} (C : Cx x d) {a b : Int} (hd : decode (dc d) pc = .ok (.lsub, 1)) (hq : pc + 1 = q)  (k : Gx x n q L (vl (a - b) :: st) M) : Gx x n pc L (vl b :: vl a :: st) M := by
  subst hq
  exact fun H locs ls hP hS hl => lv_lsub C.ex C.by_ hd (by rw [jL_sub]; exact k H locs ls hP hS hl)
theorem g_lmul {x : Xx} {d : Md} {n pc q : Nat} {L : List (Nat × Value)} {st : List Value} {M : Mm} (C : Cx x d) {a b : Int} (hd : decode (dc d) pc = .ok (.lmul, 1)) (hq : pc + 1 = q)  (k : Gx x n q L (vl (a * b) :: st) M) : Gx x n pc L (vl b :: vl a :: st) M := by
  subst hq
  exact fun H locs ls hP hS hl => lv_lmul C.ex C.by_ hd (by rw [jL_mul]; exact k H locs ls hP hS hl)
theorem g_ineg {x : Xx} {d : Md} {n pc q : Nat} {L : List (Nat × Value)} {st : List Value} {M : Mm} (C : Cx x d) {a : Int} (hd : decode (dc d) pc = .ok (.ineg, 1)) (hq : pc + 1 = q)  (k : Gx x n q L (vi (-a) :: st) M) : Gx x n pc L (vi a :: st) M := by
  subst hq
  exact fun H locs ls hP hS hl => lv_ineg C.ex C.by_ hd (by rw [jI_neg]; exact k H locs ls hP hS hl)
theorem g_irem {x : Xx} {d : Md} {n pc q : Nat} {L : List (Nat × Value)} {st : List Value} {M : Mm} (C : Cx x d) {a b : Int} (hd : decode (dc d) pc = .ok (.irem, 1)) (hq : pc + 1 = q) (hr : (0 ≤ a ∧ a < 2147483648) ∧ (0 < b ∧ b < 2147483648)) (k : Gx x n q L (vi (a % b) :: st) M) : Gx x n pc L (vi b :: vi a :: st) M := by
  subst hq
  exact fun H locs ls hP hS hl => lv_irem C.ex C.by_ hd (by rw [jI_0, jI_eq ⟨⟨by omega, by omega⟩, ⟨by omega, by omega⟩⟩]; omega) (by rw [jI_rem hr.1 hr.2]; exact k H locs ls hP hS hl)
theorem g_idiv {x : Xx} {d : Md} {n pc q : Nat} {L : List (Nat × Value)} {st : List Value} {M : Mm} (C : Cx x d) {a b : Int} (hd : decode (dc d) pc = .ok (.idiv, 1)) (hq : pc + 1 = q) (hr : (0 ≤ a ∧ a < 2147483648) ∧ (0 < b ∧ b < 2147483648)) (k : Gx x n q L (vi (a / b) :: st) M) : Gx x n pc L (vi b :: vi a :: st) M := by
  subst hq
  exact fun H locs ls hP hS hl => lv_idiv C.ex C.by_ hd (by rw [jI_0, jI_eq ⟨⟨by omega, by omega⟩, ⟨by omega, by omega⟩⟩]; omega) (by rw [jI_div hr.1 hr.2]; exact k H locs ls hP hS hl)
theorem g_lrem {x : Xx} {d : Md} {n pc q : Nat} {L : List (Nat × Value)} {st : List Value} {M : Mm} (C : Cx x d) {a b : Int} (hd : decode (dc d) pc = .ok (.lrem, 1)) (hq : pc + 1 = q) (hr : (0 ≤ a ∧ a < 9223372036854775808) ∧ (0 < b ∧ b < 9223372036854775808)) (k : Gx x n q L (vl (a % b) :: st) M) : Gx x n pc L (vl b :: vl a :: st) M := by
  subst hq
  exact fun H locs ls hP hS hl => lv_lrem C.ex C.by_ hd (jL_ne0 hr.2) (by rw [jL_rem hr.1 hr.2]; exact k H locs ls hP hS hl)
theorem g_i2l {x : Xx} {d : Md} {n pc q : Nat} {L : List (Nat × Value)} {st : List Value} {M : Mm} (C : Cx x d) {a : Int} (hd : decode (dc d) pc = .ok (.i2l, 1)) (hq : pc + 1 = q) (hr : inR a) (k : Gx x n q L (vl a :: st) M) : Gx x n pc L (vi a :: st) M := by
  subst hq
  exact fun H locs ls hP hS hl => lv_i2l C.ex C.by_ hd (jI_i2l hr) (k H locs ls hP hS hl)
theorem g_l2i {x : Xx} {d : Md} {n pc q : Nat} {L : List (Nat × Value)} {st : List Value} {M : Mm} (C : Cx x d) {a : Int} (hd : decode (dc d) pc = .ok (.l2i, 1)) (hq : pc + 1 = q)  (k : Gx x n q L (vi a :: st) M) : Gx x n pc L (vl a :: st) M := by
  subst hq
  exact fun H locs ls hP hS hl => lv_l2i C.ex C.by_ hd (jL_l2i a) (k H locs ls hP hS hl)
theorem g_iand {x : Xx} {d : Md} {n pc q : Nat} {L : List (Nat × Value)} {st : List Value} {M : Mm} (C : Cx x d) {a b p : Int} (hd : decode (dc d) pc = .ok (.iand, 1)) (hq : pc + 1 = q) (w : Nat) (hb : b = 2 ^ w - 1 ∧ w ≤ 30) (hp : p = 2 ^ w) (k : Gx x n q L (vi (a % p) :: st) M) : Gx x n pc L (vi b :: vi a :: st) M := by
  subst hq
  exact fun H locs ls hP hS hl => lv_iand C.ex C.by_ hd (by rw [jI_and w hb hp]; exact k H locs ls hP hS hl)
theorem g_ior {x : Xx} {d : Md} {n pc q : Nat} {L : List (Nat × Value)} {st : List Value} {M : Mm} (C : Cx x d) {a b : Int} (hd : decode (dc d) pc = .ok (.ior, 1)) (hq : pc + 1 = q) (hr : 0 ≤ a ∧ 0 ≤ b) (k : Gx x n q L (vi ((a.toNat ||| b.toNat : Nat) : Int) :: st) M) : Gx x n pc L (vi b :: vi a :: st) M := by
  subst hq
  exact fun H locs ls hP hS hl => lv_ior C.ex C.by_ hd (by rw [jI_or hr]; exact k H locs ls hP hS hl)
theorem g_ishl {x : Xx} {d : Md} {n pc q : Nat} {L : List (Nat × Value)} {st : List Value} {M : Mm} (C : Cx x d) {b : Int} (hd : decode (dc d) pc = .ok (.ishl, 1)) (hq : pc + 1 = q) (hr : 0 ≤ b ∧ b < 31) (k : Gx x n q L (vi (2 ^ b.toNat) :: st) M) : Gx x n pc L (vi b :: vi 1 :: st) M := by
  subst hq
  exact fun H locs ls hP hS hl => lv_ishl C.ex C.by_ hd (by rw [jI_shl hr]; exact k H locs ls hP hS hl)
theorem g_ishr {x : Xx} {d : Md} {n pc q : Nat} {L : List (Nat × Value)} {st : List Value} {M : Mm} (C : Cx x d) {a b : Int} (hd : decode (dc d) pc = .ok (.ishr, 1)) (hq : pc + 1 = q) (hr : (0 ≤ a ∧ a < 2147483648) ∧ (0 ≤ b ∧ b < 31)) (k : Gx x n q L (vi (a / 2 ^ b.toNat) :: st) M) : Gx x n pc L (vi b :: vi a :: st) M := by
  subst hq
  exact fun H locs ls hP hS hl => lv_ishr C.ex C.by_ hd (by rw [jI_shr hr.1 hr.2]; exact k H locs ls hP hS hl)
theorem g_dup {x : Xx} {d : Md} {n pc q : Nat} {L : List (Nat × Value)} {st : List Value} {M : Mm} (C : Cx x d) {v : Value} (hd : decode (dc d) pc = .ok (.dup, 1)) (hq : pc + 1 = q) (hv : v.category = 1) (k : Gx x n q L (v :: v :: st) M) : Gx x n pc L (v :: st) M := by
  subst hq
  exact fun H locs ls hP hS hl => lv_dup C.ex C.by_ hd hv (k H locs ls hP hS hl)
theorem g_pop {x : Xx} {d : Md} {n pc q : Nat} {L : List (Nat × Value)} {st : List Value} {M : Mm} (C : Cx x d) {v : Value} (hd : decode (dc d) pc = .ok (.pop, 1)) (hq : pc + 1 = q) (hv : v.category = 1) (k : Gx x n q L (st) M) : Gx x n pc L (v :: st) M := by
  subst hq
  exact fun H locs ls hP hS hl => lv_pop C.ex C.by_ hd hv (k H locs ls hP hS hl)
theorem g_dup2 {x : Xx} {d : Md} {n pc q : Nat} {L : List (Nat × Value)} {st : List Value} {M : Mm} (C : Cx x d) {v w : Value} (hd : decode (dc d) pc = .ok (.dup2, 1)) (hq : pc + 1 = q) (hv : v.category = 1) (hw : w.category = 1) (k : Gx x n q L (v :: w :: v :: w :: st) M) : Gx x n pc L (v :: w :: st) M := by
  subst hq
  exact fun H locs ls hP hS hl => lv_dup2_11 C.ex C.by_ hd hv hw (k H locs ls hP hS hl)
theorem g_icmp_eq {x : Xx} {d : Md} {n pc q : Nat} {L : List (Nat × Value)} {st : List Value} {M : Mm} (C : Cx x d) {a b : Int} {off : Int} {t : Nat} (hd : decode (dc d) pc = .ok (.if_icmp .eq off, 3)) (hq : pc + 3 = q) (ht : (pc : Int) + off = (t : Int)) (hr : inR a ∧ inR b) (kt : a = b → Gx x n t L st M) (kf : ¬ (a = b) → Gx x n q L st M) : Gx x n pc L (vi b :: vi a :: st) M := by
  subst hq
  have e := jI_eq hr
  exact fun H locs ls hP hS hl => lv_icmp_eq C.ex C.by_ hd ht (fun h => kt (e.mp h) H locs ls hP hS hl) (fun h => kf (fun z => h (e.mpr z)) H locs ls hP hS hl)
theorem g_if_eq {x : Xx} {d : Md} {n pc q : Nat} {L : List (Nat × Value)} {st : List Value} {M : Mm} (C : Cx x d) {a : Int} {off : Int} {t : Nat} (hd : decode (dc d) pc = .ok (.ifCond .eq off, 3)) (hq : pc + 3 = q) (ht : (pc : Int) + off = (t : Int)) (hr0 : inR a) (kt : a = 0 → Gx x n t L st M) (kf : ¬ (a = 0) → Gx x n q L st M) : Gx x n pc L (vi a :: st) M := by
  subst hq
  have hr : inR a ∧ inR 0 := ⟨hr0, by decide⟩
  have e := jI_eq hr
  exact fun H locs ls hP hS hl => lv_if_eq C.ex C.by_ hd ht (fun h => kt (e.mp h) H locs ls hP hS hl) (fun h => kf (fun z => h (e.mpr z)) H locs ls hP hS hl)
theorem g_icmp_ne {x : Xx} {d : Md} {n pc q : Nat} {L : List (Nat × Value)} {st : List Value} {M : Mm} (C : Cx x d) {a b : Int} {off : Int} {t : Nat} (hd : decode (dc d) pc = .ok (.if_icmp .ne off, 3)) (hq : pc + 3 = q) (ht : (pc : Int) + off = (t : Int)) (hr : inR a ∧ inR b) (kt : ¬ (a = b) → Gx x n t L st M) (kf : a = b → Gx x n q L st M) : Gx x n pc L (vi b :: vi a :: st) M := by
  subst hq
  have e := jI_eq hr
  exact fun H locs ls hP hS hl => lv_icmp_ne C.ex C.by_ hd ht (fun h => kt (fun z => h (e.mpr z)) H locs ls hP hS hl) (fun h => kf (e.mp h) H locs ls hP hS hl)
theorem g_if_ne {x : Xx} {d : Md} {n pc q : Nat} {L : List (Nat × Value)} {st : List Value} {M : Mm} (C : Cx x d) {a : Int} {off : Int} {t : Nat} (hd : decode (dc d) pc = .ok (.ifCond .ne off, 3)) (hq : pc + 3 = q) (ht : (pc : Int) + off = (t : Int)) (hr0 : inR a) (kt : ¬ (a = 0) → Gx x n t L st M) (kf : a = 0 → Gx x n q L st M) : Gx x n pc L (vi a :: st) M := by
  subst hq
  have hr : inR a ∧ inR 0 := ⟨hr0, by decide⟩
  have e := jI_eq hr
  exact fun H locs ls hP hS hl => lv_if_ne C.ex C.by_ hd ht (fun h => kt (fun z => h (e.mpr z)) H locs ls hP hS hl) (fun h => kf (e.mp h) H locs ls hP hS hl)
theorem g_icmp_lt {x : Xx} {d : Md} {n pc q : Nat} {L : List (Nat × Value)} {st : List Value} {M : Mm} (C : Cx x d) {a b : Int} {off : Int} {t : Nat} (hd : decode (dc d) pc = .ok (.if_icmp .lt off, 3)) (hq : pc + 3 = q) (ht : (pc : Int) + off = (t : Int)) (hr : inR a ∧ inR b) (kt : a < b → Gx x n t L st M) (kf : ¬ (a < b) → Gx x n q L st M) : Gx x n pc L (vi b :: vi a :: st) M := by
  subst hq
  have e := jI_lt hr
  exact fun H locs ls hP hS hl => lv_icmp_lt C.ex C.by_ hd ht (fun h => kt (e.mp h) H locs ls hP hS hl) (fun h => kf (fun z => h (e.mpr z)) H locs ls hP hS hl)
theorem g_if_lt {x : Xx} {d : Md} {n pc q : Nat} {L : List (Nat × Value)} {st : List Value} {M : Mm} (C : Cx x d) {a : Int} {off : Int} {t : Nat} (hd : decode (dc d) pc = .ok (.ifCond .lt off, 3)) (hq : pc + 3 = q) (ht : (pc : Int) + off = (t : Int)) (hr0 : inR a) (kt : a < 0 → Gx x n t L st M) (kf : ¬ (a < 0) → Gx x n q L st M) : Gx x n pc L (vi a :: st) M := by
  subst hq
  have hr : inR a ∧ inR 0 := ⟨hr0, by decide⟩
  have e := jI_lt hr
  exact fun H locs ls hP hS hl => lv_if_lt C.ex C.by_ hd ht (fun h => kt (e.mp h) H locs ls hP hS hl) (fun h => kf (fun z => h (e.mpr z)) H locs ls hP hS hl)
theorem g_icmp_ge {x : Xx} {d : Md} {n pc q : Nat} {L : List (Nat × Value)} {st : List Value} {M : Mm} (C : Cx x d) {a b : Int} {off : Int} {t : Nat} (hd : decode (dc d) pc = .ok (.if_icmp .ge off, 3)) (hq : pc + 3 = q) (ht : (pc : Int) + off = (t : Int)) (hr : inR a ∧ inR b) (kt : b ≤ a → Gx x n t L st M) (kf : ¬ (b ≤ a) → Gx x n q L st M) : Gx x n pc L (vi b :: vi a :: st) M := by
  subst hq
  have e := jI_le ⟨hr.2, hr.1⟩
  exact fun H locs ls hP hS hl => lv_icmp_ge C.ex C.by_ hd ht (fun h => kt (e.mp h) H locs ls hP hS hl) (fun h => kf (fun z => h (e.mpr z)) H locs ls hP hS hl)
theorem g_if_ge {x : Xx} {d : Md} {n pc q : Nat} {L : List (Nat × Value)} {st : List Value} {M : Mm} (C : Cx x d) {a : Int} {off : Int} {t : Nat} (hd : decode (dc d) pc = .ok (.ifCond .ge off, 3)) (hq : pc + 3 = q) (ht : (pc : Int) + off = (t : Int)) (hr0 : inR a) (kt : 0 ≤ a → Gx x n t L st M) (kf : ¬ (0 ≤ a) → Gx x n q L st M) : Gx x n pc L (vi a :: st) M := by
  subst hq
  have hr : inR a ∧ inR 0 := ⟨hr0, by decide⟩
  have e := jI_le ⟨hr.2, hr.1⟩
  exact fun H locs ls hP hS hl => lv_if_ge C.ex C.by_ hd ht (fun h => kt (e.mp h) H locs ls hP hS hl) (fun h => kf (fun z => h (e.mpr z)) H locs ls hP hS hl)
theorem g_icmp_gt {x : Xx} {d : Md} {n pc q : Nat} {L : List (Nat × Value)} {st : List Value} {M : Mm} (C : Cx x d) {a b : Int} {off : Int} {t : Nat} (hd : decode (dc d) pc = .ok (.if_icmp .gt off, 3)) (hq : pc + 3 = q) (ht : (pc : Int) + off = (t : Int)) (hr : inR a ∧ inR b) (kt : b < a → Gx x n t L st M) (kf : ¬ (b < a) → Gx x n q L st M) : Gx x n pc L (vi b :: vi a :: st) M := by
  subst hq
  have e := jI_lt ⟨hr.2, hr.1⟩
  exact fun H locs ls hP hS hl => lv_icmp_gt C.ex C.by_ hd ht (fun h => kt (e.mp h) H locs ls hP hS hl) (fun h => kf (fun z => h (e.mpr z)) H locs ls hP hS hl)
theorem g_if_gt {x : Xx} {d : Md} {n pc q : Nat} {L : List (Nat × Value)} {st : List Value} {M : Mm} (C : Cx x d) {a : Int} {off : Int} {t : Nat} (hd : decode (dc d) pc = .ok (.ifCond .gt off, 3)) (hq : pc + 3 = q) (ht : (pc : Int) + off = (t : Int)) (hr0 : inR a) (kt : 0 < a → Gx x n t L st M) (kf : ¬ (0 < a) → Gx x n q L st M) : Gx x n pc L (vi a :: st) M := by
  subst hq
  have hr : inR a ∧ inR 0 := ⟨hr0, by decide⟩
  have e := jI_lt ⟨hr.2, hr.1⟩
  exact fun H locs ls hP hS hl => lv_if_gt C.ex C.by_ hd ht (fun h => kt (e.mp h) H locs ls hP hS hl) (fun h => kf (fun z => h (e.mpr z)) H locs ls hP hS hl)
theorem g_icmp_le {x : Xx} {d : Md} {n pc q : Nat} {L : List (Nat × Value)} {st : List Value} {M : Mm} (C : Cx x d) {a b : Int} {off : Int} {t : Nat} (hd : decode (dc d) pc = .ok (.if_icmp .le off, 3)) (hq : pc + 3 = q) (ht : (pc : Int) + off = (t : Int)) (hr : inR a ∧ inR b) (kt : a ≤ b → Gx x n t L st M) (kf : ¬ (a ≤ b) → Gx x n q L st M) : Gx x n pc L (vi b :: vi a :: st) M := by
  subst hq
  have e := jI_le hr
  exact fun H locs ls hP hS hl => lv_icmp_le C.ex C.by_ hd ht (fun h => kt (e.mp h) H locs ls hP hS hl) (fun h => kf (fun z => h (e.mpr z)) H locs ls hP hS hl)
theorem g_if_le {x : Xx} {d : Md} {n pc q : Nat} {L : List (Nat × Value)} {st : List Value} {M : Mm} (C : Cx x d) {a : Int} {off : Int} {t : Nat} (hd : decode (dc d) pc = .ok (.ifCond .le off, 3)) (hq : pc + 3 = q) (ht : (pc : Int) + off = (t : Int)) (hr0 : inR a) (kt : a ≤ 0 → Gx x n t L st M) (kf : ¬ (a ≤ 0) → Gx x n q L st M) : Gx x n pc L (vi a :: st) M := by
  subst hq
  have hr : inR a ∧ inR 0 := ⟨hr0, by decide⟩
  have e := jI_le hr
  exact fun H locs ls hP hS hl => lv_if_le C.ex C.by_ hd ht (fun h => kt (e.mp h) H locs ls hP hS hl) (fun h => kf (fun z => h (e.mpr z)) H locs ls hP hS hl)
theorem g_goto {x : Xx} {d : Md} {n pc q : Nat} {L : List (Nat × Value)} {st : List Value} {M : Mm} (C : Cx x d) {off : Int} {t : Nat} (hd : decode (dc d) pc = .ok (.goto off, 3)) (ht : (pc : Int) + off = (t : Int)) (k : Gx x n t L st M) : Gx x n pc L st M := fun H locs ls hP hS hl => lv_goto C.ex C.by_ hd ht (k H locs ls hP hS hl)
theorem g_tabIn {x : Xx} {d : Md} {n pc q : Nat} {L : List (Nat × Value)} {st : List Value} {M : Mm} (C : Cx x d) {a : Int} {dflt lo hi : Int} {offs : Array Int} {len t : Nat} {off : Int} (hd : decode (dc d) pc = .ok (.tableswitch dflt lo hi offs, len)) (hr : inR a) (h1 : lo ≤ a ∧ a ≤ hi) (ho : offs[(a - lo).toNat]? = some off) (ht : (pc : Int) + off = (t : Int)) (k : Gx x n t L st M) : Gx x n pc L (vi a :: st) M := fun H locs ls hP hS hl => lv_tableIn C.ex C.by_ hd (by rw [jI_int hr]; omega) (by rw [jI_int hr]; omega) (by rw [jI_int hr]; exact ho) ht (k H locs ls hP hS hl)
theorem g_tabOut {x : Xx} {d : Md} {n pc q : Nat} {L : List (Nat × Value)} {st : List Value} {M : Mm} (C : Cx x d) {a : Int} {dflt lo hi : Int} {offs : Array Int} {len t : Nat} (hd : decode (dc d) pc = .ok (.tableswitch dflt lo hi offs, len)) (hr : inR a) (h1 : a < lo ∨ hi < a) (ht : (pc : Int) + dflt = (t : Int)) (k : Gx x n t L st M) : Gx x n pc L (vi a :: st) M := fun H locs ls hP hS hl => lv_tableOut C.ex C.by_ hd (by rw [jI_int hr]; exact h1) ht (k H locs ls hP hS hl)
theorem g_get {x : Xx} {d : Md} {n pc q : Nat} {L : List (Nat × Value)} {st : List Value} {M : Mm} (C : Cx x d) {k0 : Nat} (hk : k0 < 119) {ci i idx N : Nat} {fs : List Value} {R0 : String} {T0 : u_T} {v : Value} (hc : celr (xg x) k0 (M k0) = .inr (ci, fs)) (hv : vwCl[ci]? = some (R0, T0, N)) (hin : ∀ w ∈ u_ws R0 T0 N, w ∈ wsL_law) (hi : i < N) (hw : Cond.fieldLink (dy d).cls idx (T0 i).1 (T0 i).2.1 (T0 i).2.2.1 ∈ wsL_law) (hf : fs[i]? = some v) (hd : decode (dc d) pc = .ok (.getfield idx, 3)) (hq : pc + 3 = q) (k : Gx x n q L (v :: st) M) : Gx x n pc L (vr (xg x) k0 :: st) M := by
  subst hq
  exact fun H locs ls hP hS hl => va_get (D := gD (xg x)) (ci := ci) (v := v) C.ex C.by_ C.ts hin C.ow C.kk hP k0 (by rw [ww_at hk, hc]) hv i hi (C.ts _ hw) (fun _ h9 => h9) hf hd (k H locs ls hP hS hl)
theorem g_getN {x : Xx} {d : Md} {n pc q : Nat} {L : List (Nat × Value)} {st : List Value} {M : Mm} (C : Cx x d) {k0 : Nat} (hk : k0 < 119) {ci i idx N : Nat} {fs : List Value} {R0 : String} {T0 : u_T} {v : Value} (hc : celr (xg x) k0 (M k0) = .inr (ci, fs)) (hv : vwCl[ci]? = some (R0, T0, N)) (hin : ∀ w ∈ u_ws R0 T0 N, w ∈ wsL_law) (hi : i < N) (hw : ((dy d).cls, idx, (T0 i).1, (T0 i).2.1, (T0 i).2.2.1) ∈ nT) (hf : fs[i]? = some v) (hd : decode (dc d) pc = .ok (.getfield idx, 3)) (hq : pc + 3 = q) (k : Gx x n q L (v :: st) M) : Gx x n pc L (vr (xg x) k0 :: st) M := by
  subst hq
  exact fun H locs ls hP hS hl => va_getN (D := gD (xg x)) (ci := ci) (v := v) (host := "NearFigures") C.ex C.by_ C.ts hin C.ow C.kk hP k0 (by rw [ww_at hk, hc]) hv i hi (va_Nw.use rfl (C.ns _ hw)) (fun _ h9 => h9) hf hd (k H locs ls hP hS hl)
theorem g_put {x : Xx} {d : Md} {n pc q : Nat} {L : List (Nat × Value)} {st : List Value} {M : Mm} (C : Cx x d) {k0 : Nat} (hk : k0 < 119) {ci i idx N : Nat} {fs : List Value} {R0 : String} {T0 : u_T} {z : Int} {ty0 : Nat → FieldType} {ty : FieldType} (hc : celr (xg x) k0 (M k0) = .inr (ci, fs)) (hv : vwCl[ci]? = some (R0, T0, N)) (hin : ∀ w ∈ u_ws R0 T0 N, w ∈ wsL_law) (hty : ∀ k, k < N → parseFieldDescriptor (T0 k).2.2.1 = some (ty0 k)) (hnm : ∀ a, a < N → ∀ b, b < N → a ≠ b → (T0 a).2.1 ≠ (T0 b).2.1) (hi : i < N) (hw : Cond.fieldLink (dy d).cls idx (T0 i).1 (T0 i).2.1 (T0 i).2.2.1 ∈ wsL_law) (hfin : (T0 i).2.2.2 = false) (htd : parseFieldDescriptor (T0 i).2.2.1 = some ty) (hn : narrow ty (vi z) = vi z) (hfit : fits ty (vi z) = true) (hlen : i < fs.length) (he : (.inr (ci, fs.set i (vi z)) : va_E) = celr (xg x) k0 (fun b => if b = (i : Int) then z else M k0 b)) (hd : decode (dc d) pc = .ok (.putfield idx, 3)) (hq : pc + 3 = q) (k : Gx x n q L st (mu M k0 (i : Int) z)) : Gx x n pc L (vi z :: vr (xg x) k0 :: st) M := by
  subst hq
  exact fun H locs ls hP hS hl => va_put (D := gD (xg x)) (ci := ci) (v := vi z) (ty := ty) C.ex C.by_ C.ts hin ty0 hty hnm C.ow C.kk hP (ww_D C.dd M) hS k0 (by rw [ww_at hk, hc]) hv i hi (C.ts _ hw) (fun _ h9 => h9) hfin htd hn hfit hlen hd (fun H1 locs1 hP1 _ hS1 => k H1 locs1 ls (by rw [ww_set he, mset_mu] at hP1; exact hP1) hS1 hl)
theorem g_putN {x : Xx} {d : Md} {n pc q : Nat} {L : List (Nat × Value)} {st : List Value} {M : Mm} (C : Cx x d) {k0 : Nat} (hk : k0 < 119) {ci i idx N : Nat} {fs : List Value} {R0 : String} {T0 : u_T} {z : Int} {ty0 : Nat → FieldType} {ty : FieldType} (hc : celr (xg x) k0 (M k0) = .inr (ci, fs)) (hv : vwCl[ci]? = some (R0, T0, N)) (hin : ∀ w ∈ u_ws R0 T0 N, w ∈ wsL_law) (hty : ∀ k, k < N → parseFieldDescriptor (T0 k).2.2.1 = some (ty0 k)) (hnm : ∀ a, a < N → ∀ b, b < N → a ≠ b → (T0 a).2.1 ≠ (T0 b).2.1) (hi : i < N) (hw : ((dy d).cls, idx, (T0 i).1, (T0 i).2.1, (T0 i).2.2.1) ∈ nT) (hfin : (T0 i).2.2.2 = false) (htd : parseFieldDescriptor (T0 i).2.2.1 = some ty) (hn : narrow ty (vi z) = vi z) (hfit : fits ty (vi z) = true) (hlen : i < fs.length) (he : (.inr (ci, fs.set i (vi z)) : va_E) = celr (xg x) k0 (fun b => if b = (i : Int) then z else M k0 b)) (hd : decode (dc d) pc = .ok (.putfield idx, 3)) (hq : pc + 3 = q) (k : Gx x n q L st (mu M k0 (i : Int) z)) : Gx x n pc L (vi z :: vr (xg x) k0 :: st) M := by
  subst hq
  exact fun H locs ls hP hS hl => va_putN (host := "NearFigures") (D := gD (xg x)) (ci := ci) (v := vi z) (ty := ty) C.ex C.by_ C.ts hin ty0 hty hnm C.ow C.kk hP (ww_D C.dd M) hS k0 (by rw [ww_at hk, hc]) hv i hi (va_Nw.use rfl (C.ns _ hw)) (fun _ h9 => h9) hfin htd hn hfit hlen hd (fun H1 locs1 hP1 _ hS1 => k H1 locs1 ls (by rw [ww_set he, mset_mu] at hP1; exact hP1) hS1 hl)
theorem g_iald {x : Xx} {d : Md} {n pc q : Nat} {L : List (Nat × Value)} {st : List Value} {M : Mm} (C : Cx x d) {k0 m : Nat} {i : Int} (hk : k0 < 119) (hkd : kd k0 = 7) (hln : ln k0 = m) (hi : 0 ≤ i ∧ i < (m : Int)) (hm : m < 2147483648) (hd : decode (dc d) pc = .ok (.iaload, 1)) (hq : pc + 1 = q) (k : Gx x n q L (vi (M k0 i) :: st) M) : Gx x n pc L (vi i :: vr (xg x) k0 :: st) M := by
  subst hq
  subst hln
  exact fun H locs ls hP hS hl => va_iald C.ex C.by_ C.kk hP k0 k0 (ww_7 hk hkd) (tys_7 hk hkd) (jI_in hi hm) hd (by rw [jI_tn hi hm, Int.toNat_of_nonneg hi.1]; exact k H locs ls hP hS hl)
theorem g_zald {x : Xx} {d : Md} {n pc q : Nat} {L : List (Nat × Value)} {st : List Value} {M : Mm} (C : Cx x d) {k0 m : Nat} {i : Int} (hk : k0 < 119) (hkd : kd k0 = 9) (hln : ln k0 = m) (hi : 0 ≤ i ∧ i < (m : Int)) (hm : m < 2147483648) (hd : decode (dc d) pc = .ok (.baload, 1)) (hq : pc + 1 = q) (k : Gx x n q L (vi (M k0 i) :: st) M) : Gx x n pc L (vi i :: vr (xg x) k0 :: st) M := by
  subst hq
  subst hln
  exact fun H locs ls hP hS hl => va_zald C.ex C.by_ C.kk hP k0 k0 (ww_9 hk hkd) (tys_9 hk hkd) (jI_in hi hm) hd (by rw [jI_tn hi hm, Int.toNat_of_nonneg hi.1]; exact k H locs ls hP hS hl)
theorem g_lald {x : Xx} {d : Md} {n pc q : Nat} {L : List (Nat × Value)} {st : List Value} {M : Mm} (C : Cx x d) {k0 m : Nat} {i : Int} (hk : k0 < 119) (hkd : kd k0 = 8) (hln : ln k0 = m) (hi : 0 ≤ i ∧ i < (m : Int)) (hm : m < 2147483648) (hd : decode (dc d) pc = .ok (.laload, 1)) (hq : pc + 1 = q) (k : Gx x n q L (vl (M k0 i) :: st) M) : Gx x n pc L (vi i :: vr (xg x) k0 :: st) M := by
  subst hq
  subst hln
  exact fun H locs ls hP hS hl => va_lald C.ex C.by_ C.kk hP k0 k0 (ww_8 hk hkd) (tys_8 hk hkd) (jI_in hi hm) hd (by rw [jI_tn hi hm, Int.toNat_of_nonneg hi.1]; exact k H locs ls hP hS hl)
theorem g_sald {x : Xx} {d : Md} {n pc q : Nat} {L : List (Nat × Value)} {st : List Value} {M : Mm} (C : Cx x d) {k0 m r : Nat} {i : Int} (hk : k0 < 119) (hkd : kd k0 = 10) (hln : ln k0 = m) (hi : 0 ≤ i ∧ i < (m : Int)) (hm : m < 2147483648) (hr : rfa k0 i.toNat = r) (hd : decode (dc d) pc = .ok (.aaload, 1)) (hq : pc + 1 = q) (k : Gx x n q L (vr (xg x) r :: st) M) : Gx x n pc L (vi i :: vr (xg x) k0 :: st) M := by
  subst hq
  subst hln
  subst hr
  exact fun H locs ls hP hS hl => va_aldq (C := "NearFigures$Setting") C.ex C.by_ C.kk hP k0 k0 (ww_10 hk hkd) (tys_10 hk hkd) (jI_in hi hm) hd (by rw [jI_tn hi hm]; exact k H locs ls hP hS hl)
theorem g_aald {x : Xx} {d : Md} {n pc q : Nat} {L : List (Nat × Value)} {st : List Value} {M : Mm} (C : Cx x d) {k0 m r : Nat} {i : Int} (hk : k0 < 119) (hkd : kd k0 = 11) (hln : ln k0 = m) (hi : 0 ≤ i ∧ i < (m : Int)) (hm : m < 2147483648) (hr : rfa k0 i.toNat = r) (hd : decode (dc d) pc = .ok (.aaload, 1)) (hq : pc + 1 = q) (k : Gx x n q L (vr (xg x) r :: st) M) : Gx x n pc L (vi i :: vr (xg x) k0 :: st) M := by
  subst hq
  subst hln
  subst hr
  exact fun H locs ls hP hS hl => vm_aald C.ex C.by_ C.kk hP k0 k0 (ww_11 hk hkd) (tys_11 hk hkd) (jI_in hi hm) hd (by rw [jI_tn hi hm]; exact k H locs ls hP hS hl)
theorem g_iast {x : Xx} {d : Md} {n pc q : Nat} {L : List (Nat × Value)} {st : List Value} {M : Mm} (C : Cx x d) {k0 m : Nat} {i z : Int} (hk : k0 < 119) (hkd : kd k0 = 7) (hln : ln k0 = m) (hi : 0 ≤ i ∧ i < (m : Int)) (hm : m < 2147483648)  (hd : decode (dc d) pc = .ok (.iastore, 1)) (hq : pc + 1 = q) (k : Gx x n q L st (mu M k0 i z)) : Gx x n pc L (vi z :: vi i :: vr (xg x) k0 :: st) M := by
  subst hq
  subst hln
  exact fun H locs ls hP hS hl => va_iast C.ex C.by_ C.kk hP (ww_D C.dd M) hS k0 k0 (ww_7 hk hkd) (tys_7 hk hkd) (jI_in hi hm) hd (fun H1 locs1 hP1 _ hS1 => k H1 locs1 ls (by rw [jI_tn hi hm, ww_set (up_7 hkd hi.1), mset_mu] at hP1; exact hP1) hS1 hl)
theorem g_zast {x : Xx} {d : Md} {n pc q : Nat} {L : List (Nat × Value)} {st : List Value} {M : Mm} (C : Cx x d) {k0 m : Nat} {i z : Int} (hk : k0 < 119) (hkd : kd k0 = 9) (hln : ln k0 = m) (hi : 0 ≤ i ∧ i < (m : Int)) (hm : m < 2147483648) (hz : z = 0 ∨ z = 1) (hd : decode (dc d) pc = .ok (.bastore, 1)) (hq : pc + 1 = q) (k : Gx x n q L st (mu M k0 i z)) : Gx x n pc L (vi z :: vi i :: vr (xg x) k0 :: st) M := by
  subst hq
  subst hln
  exact fun H locs ls hP hS hl => va_zast C.ex C.by_ C.kk hP (ww_D C.dd M) hS k0 k0 (ww_9 hk hkd) (tys_9 hk hkd) (jI_in hi hm) hd (fun H1 locs1 hP1 _ hS1 => k H1 locs1 ls (by rw [jI_tn hi hm, ww_set (up_9 hkd hz hi.1), mset_mu] at hP1; exact hP1) hS1 hl)
theorem g_last {x : Xx} {d : Md} {n pc q : Nat} {L : List (Nat × Value)} {st : List Value} {M : Mm} (C : Cx x d) {k0 m : Nat} {i z : Int} (hk : k0 < 119) (hkd : kd k0 = 8) (hln : ln k0 = m) (hi : 0 ≤ i ∧ i < (m : Int)) (hm : m < 2147483648)  (hd : decode (dc d) pc = .ok (.lastore, 1)) (hq : pc + 1 = q) (k : Gx x n q L st (mu M k0 i z)) : Gx x n pc L (vl z :: vi i :: vr (xg x) k0 :: st) M := by
  subst hq
  subst hln
  exact fun H locs ls hP hS hl => va_last C.ex C.by_ C.kk hP (ww_D C.dd M) hS k0 k0 (ww_8 hk hkd) (tys_8 hk hkd) (jI_in hi hm) hd (fun H1 locs1 hP1 _ hS1 => k H1 locs1 ls (by rw [jI_tn hi hm, ww_set (up_8 hkd hi.1), mset_mu] at hP1; exact hP1) hS1 hl)
theorem g_alen {x : Xx} {d : Md} {n pc q : Nat} {L : List (Nat × Value)} {st : List Value} {M : Mm} (C : Cx x d) {k0 m : Nat} (hk : k0 < 119) (hkd : kd k0 = 7) (hln : ln k0 = m) (hd : decode (dc d) pc = .ok (.arraylength, 1)) (hq : pc + 1 = q) (k : Gx x n q L (vi (m : Int) :: st) M) : Gx x n pc L (vr (xg x) k0 :: st) M := by
  subst hq
  subst hln
  exact fun H locs ls hP hS hl => va_alen C.ex C.by_ C.kk hP k0 k0 (ww_7 hk hkd) (tys_7 hk hkd) (by rw [jI_nat]; rfl) hd (k H locs ls hP hS hl)
theorem g_gets {x : Xx} {d : Md} {n pc q : Nat} {L : List (Nat × Value)} {st : List Value} {M : Mm} (C : Cx x d) {nm : String} {N idx : Nat} {f : Nat → Int} (hs : Sta1 (xg x) nm N f (xs x)) (hw : Cond.fieldLink (dy d).cls idx "NearFigures" nm "[I" ∈ wsL_law) (hd : decode (dc d) pc = .ok (.getstatic idx, 3)) (hq : pc + 3 = q) (k : ∀ t : Nat, va_T .int t N (fun j => vi (f j)) (gA (xg x)) (xs x) (xs x).heap → Gx x n q L (.ref t :: st) M) : Gx x n pc L st M := by
  subst hq
  obtain ⟨t, h1, h2⟩ := hs
  exact fun H locs ls hP hS hl => va_gets C.ex C.by_ h1 hS C.ow (C.ts _ hw) (fun _ h => h) hd (k t h2 H locs ls hP hS hl)
theorem g_getsN {x : Xx} {d : Md} {n pc q : Nat} {L : List (Nat × Value)} {st : List Value} {M : Mm} (C : Cx x d) {nm : String} {N idx : Nat} {f : Nat → Int} (hs : Sta1 (xg x) nm N f (xs x)) (hw : ((dy d).cls, idx, "NearFigures", nm, "[I") ∈ nT) (hd : decode (dc d) pc = .ok (.getstatic idx, 3)) (hq : pc + 3 = q) (k : ∀ t : Nat, va_T .int t N (fun j => vi (f j)) (gA (xg x)) (xs x) (xs x).heap → Gx x n q L (.ref t :: st) M) : Gx x n pc L st M := by
  subst hq
  obtain ⟨t, h1, h2⟩ := hs
  exact fun H locs ls hP hS hl => va_getsN (host := "NearFigures") C.ex C.by_ h1 hS C.ow (va_Nw.use rfl (C.ns _ hw)) (fun _ h => h) hd (k t h2 H locs ls hP hS hl)
theorem g_ti {x : Xx} {d : Md} {n pc q : Nat} {L : List (Nat × Value)} {st : List Value} {M : Mm} (C : Cx x d) {t N : Nat} {f : Nat → Int} {i : Int} (hT : va_T .int t N (fun j => vi (f j)) (gA (xg x)) (xs x) (xs x).heap) (hi : 0 ≤ i ∧ i < (N : Int)) (hm : N < 2147483648) (hd : decode (dc d) pc = .ok (.iaload, 1)) (hq : pc + 1 = q) (k : Gx x n q L (vi (f i.toNat) :: st) M) : Gx x n pc L (vi i :: .ref t :: st) M := by
  subst hq
  exact fun H locs ls hP hS hl => va_ti C.ex C.by_ hT hS (jI_in hi hm) rfl hd (by rw [jI_tn hi hm]; exact k H locs ls hP hS hl)
theorem g_mmin {x : Xx} {d : Md} {n pc q : Nat} {L : List (Nat × Value)} {st : List Value} {M : Mm} (C : Cx x d) {a b : Int} {idx : Nat} (hr : inR a ∧ inR b) (hw : Cond.methodLink (dy d).cls idx Lib.Math.min.name ∈ wsL_law) (hw2 : Cond.static Lib.Math.min.name ∈ wsL_law) (hw3 : Cond.code Lib.Math.min.name Lib.Math.min.code 2 (some .int) ∈ wsL_law) (hw4 : Cond.initialized "java/lang/Math" ∈ wsL_law) (hn : dn d = n) (hfr : 1 ≤ df d) (hlo : (st.map fun v => v.category).sum + 13 ≤ dl d) (hd : decode (dc d) pc = .ok (.invokestatic idx, 3)) (hq : pc + 3 = q) (k : Gx x n q L (vi (if b < a then b else a) :: st) M) : Gx x n pc L (vi b :: vi a :: st) M := by
  subst hq
  exact fun H locs ls hP hS hl => va_mmin C.ex C.by_ (by rw [C.ml, hn]; exact hl.1.symm) C.ow (C.ts _ hw) (C.ts _ hw2) (C.ts _ hw4) (C.ts _ hw3) (Nat.le_trans hfr C.rm.1) (Nat.le_trans hlo C.rm.2.1) C.rm.2.2.1 C.rm.2.2.2 hd (by
    have e : (if jI b < jI a then jI b else jI a) = jI (if b < a then b else a) := by
      by_cases h : b < a
      · rw [if_pos h, if_pos ((jI_lt ⟨hr.2, hr.1⟩).mpr h)]
      · rw [if_neg h, if_neg (fun z => h ((jI_lt ⟨hr.2, hr.1⟩).mp z))]
    rw [e]
    exact k H locs ls hP hS hl)
theorem g_mmax {x : Xx} {d : Md} {n pc q : Nat} {L : List (Nat × Value)} {st : List Value} {M : Mm} (C : Cx x d) {a b : Int} {idx : Nat} (hr : inR a ∧ inR b) (hw : Cond.methodLink (dy d).cls idx Lib.Math.max.name ∈ wsL_law) (hw2 : Cond.static Lib.Math.max.name ∈ wsL_law) (hw3 : Cond.code Lib.Math.max.name Lib.Math.max.code 2 (some .int) ∈ wsL_law) (hw4 : Cond.initialized "java/lang/Math" ∈ wsL_law) (hn : dn d = n) (hfr : 1 ≤ df d) (hlo : (st.map fun v => v.category).sum + 13 ≤ dl d) (hd : decode (dc d) pc = .ok (.invokestatic idx, 3)) (hq : pc + 3 = q) (k : Gx x n q L (vi (if a < b then b else a) :: st) M) : Gx x n pc L (vi b :: vi a :: st) M := by
  subst hq
  exact fun H locs ls hP hS hl => va_mmax C.ex C.by_ (by rw [C.ml, hn]; exact hl.1.symm) C.ow (C.ts _ hw) (C.ts _ hw2) (C.ts _ hw4) (C.ts _ hw3) (Nat.le_trans hfr C.rm.1) (Nat.le_trans hlo C.rm.2.1) C.rm.2.2.1 C.rm.2.2.2 hd (by
    have e : (if jI a < jI b then jI b else jI a) = jI (if a < b then b else a) := by
      by_cases h : a < b
      · rw [if_pos h, if_pos ((jI_lt hr).mpr h)]
      · rw [if_neg h, if_neg (fun z => h ((jI_lt hr).mp z))]
    rw [e]
    exact k H locs ls hP hS hl)
theorem g_mabs {x : Xx} {d : Md} {n pc q : Nat} {L : List (Nat × Value)} {st : List Value} {M : Mm} (C : Cx x d) {a : Int} {idx : Nat} (hr : inR a) (hw : Cond.methodLink (dy d).cls idx Lib.Math.abs.name ∈ wsL_law) (hw2 : Cond.static Lib.Math.abs.name ∈ wsL_law) (hw3 : Cond.code Lib.Math.abs.name Lib.Math.abs.code 1 (some .int) ∈ wsL_law) (hw4 : Cond.initialized "java/lang/Math" ∈ wsL_law) (hn : dn d = n) (hfr : 1 ≤ df d) (hlo : (st.map fun v => v.category).sum + 13 ≤ dl d) (hd : decode (dc d) pc = .ok (.invokestatic idx, 3)) (hq : pc + 3 = q) (k : Gx x n q L (vi (if 0 ≤ a then a else 0 - a) :: st) M) : Gx x n pc L (vi a :: st) M := by
  subst hq
  exact fun H locs ls hP hS hl => va_mabs C.ex C.by_ (by rw [C.ml, hn]; exact hl.1.symm) C.ow (C.ts _ hw) (C.ts _ hw2) (C.ts _ hw4) (C.ts _ hw3) (Nat.le_trans hfr C.rm.1) (Nat.le_trans hlo C.rm.2.1) C.rm.2.2.1 C.rm.2.2.2 hd (by
    have e : (if 0 ≤ jI a then jI a else 0 - jI a) = jI (if 0 ≤ a then a else 0 - a) := by
      rw [jI_0]
      by_cases h : 0 ≤ a
      · rw [if_pos h, if_pos ((jI_le ⟨by decide, hr⟩).mpr h)]
      · rw [if_neg h, if_neg (fun z => h ((jI_le ⟨by decide, hr⟩).mp z)), jI_sub]
    rw [e]
    exact k H locs ls hP hS hl)
theorem g_copy {x : Xx} {d : Md} {n pc q : Nat} {L : List (Nat × Value)} {st : List Value} {M : Mm} (C : Cx x d) {k0 k1 m0 m1 : Nat} {sp dp c : Int} {idx : Nat} (hk0 : k0 < 119) (hkd0 : kd k0 = 7) (hln0 : ln k0 = m0) (hk1 : k1 < 119) (hkd1 : kd k1 = 7) (hln1 : ln k1 = m1) (hi : 0 ≤ sp ∧ 0 ≤ dp ∧ 0 ≤ c ∧ sp + c ≤ (m0 : Int) ∧ dp + c ≤ (m1 : Int)) (hm : m0 < 2147483647 ∧ m1 < 2147483647) (hw : Cond.methodLink (dy d).cls idx arraycopyName ∈ wsL_law) (hw2 : Cond.native arraycopyName ∈ wsL_law) (hw3 : Cond.static arraycopyName ∈ wsL_law) (hw4 : Cond.initialized "java/lang/System" ∈ wsL_law) (hn : dn d = n) (hfr : 1 ≤ df d) (hlo : (st.map fun v => v.category).sum + (nativeFrameWords "java/lang/System" "arraycopy" 5 + 11) ≤ dl d) (hd : decode (dc d) pc = .ok (.invokestatic idx, 3)) (hq : pc + 3 = q) (k : Gx x n q L st (mcp M k0 sp k1 dp c)) : Gx x n pc L (vi c :: vi dp :: vr (xg x) k1 :: vi sp :: vr (xg x) k0 :: st) M := by
  subst hq
  subst hln0
  subst hln1
  have t1 : (jI sp).toNatClampNeg = sp.toNat := jI_tn (n := ln k0 + 1) ⟨hi.1, by omega⟩ (by omega)
  have t2 : (jI dp).toNatClampNeg = dp.toNat := jI_tn (n := ln k1 + 1) ⟨hi.2.1, by omega⟩ (by omega)
  have t3 : (jI c).toNatClampNeg = c.toNat := jI_tn (n := ln k0 + 1) ⟨hi.2.2.1, by omega⟩ (by omega)
  have nn : ∀ z : Int, 0 ≤ z → z < 2147483648 → ¬ jI z < 0 := fun z h1 h2 => by rw [jI_0, jI_lt ⟨⟨by omega, h2⟩, by decide⟩]; omega
  exact fun H locs ls hP hS hl => va_copyi (ty := .int) C.ex C.by_ (by rw [C.ml, hn]; exact hl.1.symm) C.ow (C.ts _ hw) (C.ts _ hw2) (C.ts _ hw3) (C.ts _ hw4) C.kk hP (ww_D C.dd M) hS k0 k1 k0 k1 (ww_7 hk0 hkd0) (ww_7 hk1 hkd1) (tys_7 hk0 hkd0) (tys_7 hk1 hkd1) rfl (nn _ hi.1 (by omega)) (nn _ hi.2.1 (by omega)) (nn _ hi.2.2.1 (by omega)) (by rw [t1, t3]; omega) (by rw [t2, t3]; omega) (fun i _ => rfl) (Nat.le_trans hfr C.rm.1) (Nat.le_trans hlo C.rm.2.1) hd (fun H1 locs1 hP1 _ hS1 => k H1 locs1 ls (by rw [t1, t2, t3, ww_set (cp_7 hkd1 hi.1 hi.2.1 hi.2.2.1)] at hP1; exact hP1) hS1 hl)
theorem wd_call {x : Xx} {d : Md} {M : Mm} {H : Heap} {locs : List Loc} (C : Cx x d) (hP : va_P (gD (xg x)) vwCl (ww (xg x) M) H) (hS : va_S (gA (xg x)) (xs x).heap H locs) : ∀ U : State, U.heap = H → (xs x).WarmedH U.vm → Wd (xg x) M U := by
  intro U hU hW
  exact ⟨by rw [hU]; exact hP, va_K.moved hW.alike C.kk, C.st.to hW.alike (fun a h1 h2 => by rw [hU]; exact hS.2.1 a h1 h2), C.ns.warm hW⟩
theorem wd_blind {g : Gg} {M : Mm} {av : List Value} : FrameBlind (va_Pc av (fun U => Wd g M U)) := by
  intro a U f mk q
  obtain ⟨q0, q1, q2, q3, q4⟩ := q
  exact ⟨q0, q1, va_K.moved (u := U) (U := U.calling f mk a) (Vm.Alike.refl U.vm) q2, q3.to (U := U.calling f mk a) (Vm.Alike.refl U.vm) (fun _ _ _ => rfl), q4.same rfl⟩
theorem good_call {d2 : Md} (h : Cond.code (dy d2) (dc d2) (dn d2) (dr d2) ∈ wsL_law) : GoodIn wsL_law (Cond.code (dy d2) (dc d2) (dn d2) (dr d2) :: wsL_law) := by
  intro w hw
  rcases List.mem_cons.mp hw with e | e
  · rw [e]
    exact wq_self _ h
  · exact wq_self w e
theorem wx_call {x : Xx} {H : Heap} {locs : List Loc} {pc : Nat} {ls : Array Slot} {st0 rest : List Value} {a : Array Value} {ret : Option FieldType} {post : Int → Mm → Prop}
    (hr : va_Run (xp x) (xl x) (xe x) (xR x) (xs x) (xm x) (xa x) (xb x) (xt x) (xc x) H locs (xi x) (xj x) 0 0 (F0 (xm x) pc ls st0) rest (Qq (xg x) ret post a) (gA (xg x))) (hS : va_S (gA (xg x)) (xs x).heap H locs)
    (kk : ∀ (r : Int) (M1 : Mm) (H1 : Heap) (locs1 : List Loc), post r M1 → va_P (gD (xg x)) vwCl (ww (xg x) M1) H1 → va_S (gA (xg x)) (xs x).heap H1 locs1 → Wx x H1 locs1 (F0 (xm x) (pc + 3) ls ((rv ret r).toList ++ rest))) : Wx x H locs (F0 (xm x) pc ls st0) := by
  intro T hT X
  obtain ⟨v, st₀, t, T', L, h0, X', hL, e1, e2, ⟨⟨r, M1, hv, hp, hb⟩, hz, hk⟩, st⟩ := hr T hT X
  cases hv
  rw [h0] at hz hk
  obtain ⟨t2, a1, b1⟩ := kk r M1 T'.heap (locs ++ L) hp (by rw [e1]; exact hb)
    ⟨Nat.le_trans hS.1 (by rw [e1]; exact hz), fun q h1 h2 => by rw [e1, hk q (Nat.lt_of_lt_of_le h1 hS.1) h2]; exact hS.2.1 q h1 h2, fun q hq => by
      rcases List.mem_append.mp hq with h | h
      · exact hS.2.2 q h
      · exact hL q h⟩ T' rfl X'
  exact ⟨t2, st t2 a1, b1⟩
theorem g_callV {x : Xx} {d : Md} {n pc q : Nat} {L : List (Nat × Value)} {st st0 : List Value} {M : Mm} (C : Cx x d) (d2 : Md) {k0 ci idx na N : Nat} {T0 : u_T} {r0 : Int → Int} {fs : List Value} {As : List Value} {post : Int → Mm → Prop} (hk : k0 < 119) (hc : celr (xg x) k0 (M k0) = .inr (ci, fs)) (hv : vwCl[ci]? = some ((dy d2).cls, T0, N)) (hM : Ct (xl x) (xg x) d2 (vr (xg x) k0 :: As) M post)
    (hw : Cond.methodLink (dy d).cls idx (dy d2) ∈ wsL_law) (hw1 : Cond.instanceMethod (dy d2) ∈ wsL_law) (hw2 : Cond.selects (dy d2).cls (dy d2) (dy d2) ∈ wsL_law) (hw3 : Cond.initialized (dy d2).cls ∈ wsL_law) (hw4 : Cond.code (dy d2) (dc d2) (dn d2) (dr d2) ∈ wsL_law)
    (hdd : (dy d2).cls ≠ "java/lang/invoke/MethodHandle" ∧ (dy d2).cls ≠ "java/lang/invoke/VarHandle" ∧ (parseMethodDescriptor (dy d2).desc).map (fun d => d.parameters.length) = some na) (hna : As.length = na) (hn : dn d = n) (hfr : df d2 + 1 ≤ df d ∧ 8 + (dn d2 + 11) + dl d2 ≤ dl d) (hst : st0 = As.reverse ++ vr (xg x) k0 :: st) (hW : (st.map fun v => v.category).sum ≤ 8)
    (hd : decode (dc d) pc = .ok (.invokevirtual idx, 3)) (hq : pc + 3 = q) (k : ∀ r M1, post r M1 → Gx x n q L ((rv (dr d2) r).toList ++ st) M1) : Gx x n pc L st0 M := by
  subst hq
  intro H locs ls hP hS hl
  refine wx_call (va_runV (Ts := wsL_law) (own := (dy d).cls) (As := As) (rest := st) (C := (dy d2).cls) (n := na) ⟨C.ex, C.by_, C.ml, C.ow, C.ts⟩ hM ⟨callB_of na C.ts (good_call hw4) rfl rfl rfl (C.ts _ hw3) (C.ts _ hw) hdd ⟨Nat.le_trans hfr.1 C.rm.1, Nat.le_trans hfr.2 C.rm.2.1⟩, C.ts _ hw1, C.ts _ hw2⟩ ⟨wd_blind, va_recv C.kk hP (q0 := k0) hv (by rw [ww_at hk, hc]), fun U hU hW => ⟨rfl, wd_call C hP hS U hU hW⟩⟩ rfl hna (by rw [hn]; exact hl.1) hst (lv_room hW) hd ⟨C.rm.2.2.1, C.rm.2.2.2⟩) hS ?_
  intro r M1 H1 locs1 hp hP1 hS1
  exact k r M1 hp H1 locs1 ls hP1 hS1 hl
theorem g_callS {x : Xx} {d : Md} {n pc q : Nat} {L : List (Nat × Value)} {st st0 : List Value} {M : Mm} (C : Cx x d) (d2 : Md) {idx na : Nat} {As : List Value} {post : Int → Mm → Prop} (hM : Ct (xl x) (xg x) d2 As M post)
    (hw : Cond.methodLink (dy d).cls idx (dy d2) ∈ wsL_law) (hw1 : Cond.static (dy d2) ∈ wsL_law) (hw3 : Cond.initialized (dy d2).cls ∈ wsL_law) (hw4 : Cond.code (dy d2) (dc d2) (dn d2) (dr d2) ∈ wsL_law)
    (hdd : (dy d2).cls ≠ "java/lang/invoke/MethodHandle" ∧ (dy d2).cls ≠ "java/lang/invoke/VarHandle" ∧ (parseMethodDescriptor (dy d2).desc).map (fun d => d.parameters.length) = some na) (hna : As.length = na) (hn : dn d = n) (hfr : df d2 + 1 ≤ df d ∧ 8 + (dn d2 + 11) + dl d2 ≤ dl d) (hst : st0 = As.reverse ++ st) (hW : (st.map fun v => v.category).sum ≤ 8)
    (hd : decode (dc d) pc = .ok (.invokestatic idx, 3)) (hq : pc + 3 = q) (k : ∀ r M1, post r M1 → Gx x n q L ((rv (dr d2) r).toList ++ st) M1) : Gx x n pc L st0 M := by
  subst hq
  intro H locs ls hP hS hl
  refine wx_call (va_runS (Ts := wsL_law) (own := (dy d).cls) (As := As) (rest := st) (n := na) ⟨C.ex, C.by_, C.ml, C.ow, C.ts⟩ hM ⟨callB_of na C.ts (good_call hw4) rfl rfl rfl (C.ts _ hw3) (C.ts _ hw) hdd ⟨Nat.le_trans hfr.1 C.rm.1, Nat.le_trans hfr.2 C.rm.2.1⟩, C.ts _ hw1⟩ ⟨wd_blind, fun U hU hW => ⟨rfl, wd_call C hP hS U hU hW⟩⟩ rfl hna (by rw [hn]; exact hl.1) hst (lv_room hW) hd ⟨C.rm.2.2.1, C.rm.2.2.2⟩) hS ?_
  intro r M1 H1 locs1 hp hP1 hS1
  exact k r M1 hp H1 locs1 ls hP1 hS1 hl
theorem qq_of {x : Xx} {d : Md} {M : Mm} {H : Heap} {locs : List Loc} {post : Int → Mm → Prop} {r : Int} (hp : post r M) (hP : va_P (gD (xg x)) vwCl (ww (xg x) M) H) (hS : va_S (gA (xg x)) (xs x).heap H locs) : ∀ t : State, t.heap = H → (xs x).WarmedH t.vm → Qq (xg x) (dr d) post (xa x) (xs x) (.returned (rv (dr d) r)) t := fun t ht _ => ⟨⟨r, M, rfl, hp, by rw [ht]; exact hP⟩, hS.F ht⟩
theorem g_iret {x : Xx} {d : Md} {n pc : Nat} {L : List (Nat × Value)} {M : Mm} (C : Cx x d) {post : Int → Mm → Prop} {r : Int} (hR : Rt x d post) (hd : decode (dc d) pc = .ok (.ireturn, 1)) (hr : dr d = some .int) (hp : post r M) : Gx x n pc L [vi r] M := by
  intro H locs ls hP hS hl
  have hq := qq_of (d := d) hp hP hS
  unfold Rt at hR
  show W _ _ _ _ _ _ _ _ _ _ _ _ _ _ (xQ x) _
  rw [hR]
  rw [hr] at hq ⊢
  exact W.iret C.ex C.by_ (by rw [C.re, hr]) hq hS.2.2 hd C.lo
theorem g_zret {x : Xx} {d : Md} {n pc : Nat} {L : List (Nat × Value)} {M : Mm} (C : Cx x d) {post : Int → Mm → Prop} {r : Int} (hR : Rt x d post) (hd : decode (dc d) pc = .ok (.ireturn, 1)) (hr : dr d = some .boolean) (h01 : r = 0 ∨ r = 1) (hp : post r M) : Gx x n pc L [vi r] M := by
  intro H locs ls hP hS hl
  have hq := qq_of (d := d) hp hP hS
  unfold Rt at hR
  show W _ _ _ _ _ _ _ _ _ _ _ _ _ _ (xQ x) _
  rw [hR]
  rw [hr] at hq ⊢
  refine W.zret (ty := .boolean) C.ex C.by_ (by rw [C.re, hr]) ?_ hq hS.2.2 hd C.lo
  rcases h01 with rfl | rfl <;> decide
theorem g_lret {x : Xx} {d : Md} {n pc : Nat} {L : List (Nat × Value)} {M : Mm} (C : Cx x d) {post : Int → Mm → Prop} {r : Int} (hR : Rt x d post) (hd : decode (dc d) pc = .ok (.lreturn, 1)) (hr : dr d = some .long) (hp : post r M) : Gx x n pc L [vl r] M := by
  intro H locs ls hP hS hl
  have hq := qq_of (d := d) hp hP hS
  unfold Rt at hR
  show W _ _ _ _ _ _ _ _ _ _ _ _ _ _ (xQ x) _
  rw [hR]
  rw [hr] at hq ⊢
  exact W.lret C.ex C.by_ (by rw [C.re, hr]) hq hS.2.2 hd C.lo
theorem g_ret {x : Xx} {d : Md} {n pc : Nat} {L : List (Nat × Value)} {M : Mm} (C : Cx x d) {post : Int → Mm → Prop} (hR : Rt x d post) (hd : decode (dc d) pc = .ok (.return_, 1)) (hr : dr d = none) (hp : post 0 M) : Gx x n pc L [] M := by
  intro H locs ls hP hS hl
  have hq := qq_of (d := d) hp hP hS
  unfold Rt at hR
  show W _ _ _ _ _ _ _ _ _ _ _ _ _ _ (xQ x) _
  rw [hR]
  rw [hr] at hq ⊢
  exact W.vret C.ex C.by_ (by rw [C.re, hr]) hq hS.2.2 hd C.lo
end
