section
-- ===== PART A: goes FIRST, ahead of the names: the tables' words, and 'selects' of the private methods out of them =====
/-- a private method of a class that the tables say can be made, by its rows of tables_1 -/
def lw_okq (q : MethodName × Nat) : Prop := (q.1.cls ≠ "java/lang/invoke/MethodHandle" ∧ q.1.cls ≠ "java/lang/invoke/VarHandle") ∧ Cond.instantiable q.1.cls q.2 ∈ tables_1 ∧ Cond.privateMethod q.1 ∈ tables_1 ∧ Cond.instanceMethod q.1 ∈ tables_1
theorem lw_p0 : lw_okq (⟨"NearFigures", "aheadOfChange", "()V"⟩, 13) := ⟨⟨by decide +kernel, by decide +kernel⟩, List.mem_of_getElem? (i := 12) (by decide +kernel), List.mem_of_getElem? (i := 214) (by decide +kernel), List.mem_of_getElem? (i := 215) (by decide +kernel)⟩
theorem lw_p1 : lw_okq (⟨"NearFigures", "settle", "()V"⟩, 13) := ⟨⟨by decide +kernel, by decide +kernel⟩, List.mem_of_getElem? (i := 12) (by decide +kernel), List.mem_of_getElem? (i := 287) (by decide +kernel), List.mem_of_getElem? (i := 288) (by decide +kernel)⟩
theorem lw_p2 : lw_okq (⟨"NearFigures$Setting", "heightsChosen", "(III)I"⟩, 3) := ⟨⟨by decide +kernel, by decide +kernel⟩, List.mem_of_getElem? (i := 20) (by decide +kernel), List.mem_of_getElem? (i := 307) (by decide +kernel), List.mem_of_getElem? (i := 308) (by decide +kernel)⟩
theorem lw_p3 : lw_okq (⟨"NearFigures$Planner", "reachPlaces", "()V"⟩, 6) := ⟨⟨by decide +kernel, by decide +kernel⟩, List.mem_of_getElem? (i := 66) (by decide +kernel), List.mem_of_getElem? (i := 314) (by decide +kernel), List.mem_of_getElem? (i := 315) (by decide +kernel)⟩
theorem lw_p4 : lw_okq (⟨"NearFigures$Planner", "reachFrom", "(II)V"⟩, 6) := ⟨⟨by decide +kernel, by decide +kernel⟩, List.mem_of_getElem? (i := 66) (by decide +kernel), List.mem_of_getElem? (i := 322) (by decide +kernel), List.mem_of_getElem? (i := 323) (by decide +kernel)⟩
theorem lw_p5 : lw_okq (⟨"NearFigures$Planner", "placeBehind", "(III)I"⟩, 6) := ⟨⟨by decide +kernel, by decide +kernel⟩, List.mem_of_getElem? (i := 66) (by decide +kernel), List.mem_of_getElem? (i := 338) (by decide +kernel), List.mem_of_getElem? (i := 339) (by decide +kernel)⟩
theorem lw_p6 : lw_okq (⟨"NearFigures$Planner", "valuePlaces", "()V"⟩, 6) := ⟨⟨by decide +kernel, by decide +kernel⟩, List.mem_of_getElem? (i := 66) (by decide +kernel), List.mem_of_getElem? (i := 343) (by decide +kernel), List.mem_of_getElem? (i := 344) (by decide +kernel)⟩
theorem lw_p7 : lw_okq (⟨"NearFigures$Planner", "valuePlace", "(II)V"⟩, 6) := ⟨⟨by decide +kernel, by decide +kernel⟩, List.mem_of_getElem? (i := 66) (by decide +kernel), List.mem_of_getElem? (i := 347) (by decide +kernel), List.mem_of_getElem? (i := 348) (by decide +kernel)⟩
theorem lw_p8 : lw_okq (⟨"NearFigures$Plan", "mayGoOn", "(LNearFigures$Measure;)Z"⟩, 3) := ⟨⟨by decide +kernel, by decide +kernel⟩, List.mem_of_getElem? (i := 142) (by decide +kernel), List.mem_of_getElem? (i := 360) (by decide +kernel), List.mem_of_getElem? (i := 361) (by decide +kernel)⟩
theorem lw_p9 : lw_okq (⟨"NearFigures$Planner", "isPlace", "(II)Z"⟩, 6) := ⟨⟨by decide +kernel, by decide +kernel⟩, List.mem_of_getElem? (i := 66) (by decide +kernel), List.mem_of_getElem? (i := 369) (by decide +kernel), List.mem_of_getElem? (i := 370) (by decide +kernel)⟩
theorem lw_p10 : lw_okq (⟨"NearFigures$Plan", "addPage", "(LNearFigures$Measure;I)V"⟩, 3) := ⟨⟨by decide +kernel, by decide +kernel⟩, List.mem_of_getElem? (i := 142) (by decide +kernel), List.mem_of_getElem? (i := 373) (by decide +kernel), List.mem_of_getElem? (i := 374) (by decide +kernel)⟩
theorem lw_p11 : lw_okq (⟨"NearFigures$Plan", "firstAbove", "([II)I"⟩, 3) := ⟨⟨by decide +kernel, by decide +kernel⟩, List.mem_of_getElem? (i := 142) (by decide +kernel), List.mem_of_getElem? (i := 412) (by decide +kernel), List.mem_of_getElem? (i := 413) (by decide +kernel)⟩
theorem lw_p12 : lw_okq (⟨"NearFigures", "costOfTrial", "()I"⟩, 13) := ⟨⟨by decide +kernel, by decide +kernel⟩, List.mem_of_getElem? (i := 12) (by decide +kernel), List.mem_of_getElem? (i := 468) (by decide +kernel), List.mem_of_getElem? (i := 469) (by decide +kernel)⟩
theorem lw_p13 : lw_okq (⟨"NearFiguresModel", "isBound", "(II)Z"⟩, 16) := ⟨⟨by decide +kernel, by decide +kernel⟩, List.mem_of_getElem? (i := 509) (by decide +kernel), List.mem_of_getElem? (i := 571) (by decide +kernel), List.mem_of_getElem? (i := 572) (by decide +kernel)⟩
theorem lw_p14 : lw_okq (⟨"NearFiguresModel", "note", "()V"⟩, 16) := ⟨⟨by decide +kernel, by decide +kernel⟩, List.mem_of_getElem? (i := 509) (by decide +kernel), List.mem_of_getElem? (i := 576) (by decide +kernel), List.mem_of_getElem? (i := 577) (by decide +kernel)⟩
theorem lw_p15 : lw_okq (⟨"NearFiguresModel", "insert", "(IIIII)V"⟩, 16) := ⟨⟨by decide +kernel, by decide +kernel⟩, List.mem_of_getElem? (i := 509) (by decide +kernel), List.mem_of_getElem? (i := 588) (by decide +kernel), List.mem_of_getElem? (i := 589) (by decide +kernel)⟩
def lw_privs_1 : List (MethodName × Nat) := [(⟨"NearFigures", "aheadOfChange", "()V"⟩, 13), (⟨"NearFigures", "settle", "()V"⟩, 13), (⟨"NearFigures$Setting", "heightsChosen", "(III)I"⟩, 3), (⟨"NearFigures$Planner", "reachPlaces", "()V"⟩, 6), (⟨"NearFigures$Planner", "reachFrom", "(II)V"⟩, 6), (⟨"NearFigures$Planner", "placeBehind", "(III)I"⟩, 6), (⟨"NearFigures$Planner", "valuePlaces", "()V"⟩, 6), (⟨"NearFigures$Planner", "valuePlace", "(II)V"⟩, 6), (⟨"NearFigures$Plan", "mayGoOn", "(LNearFigures$Measure;)Z"⟩, 3), (⟨"NearFigures$Planner", "isPlace", "(II)Z"⟩, 6), (⟨"NearFigures$Plan", "addPage", "(LNearFigures$Measure;I)V"⟩, 3), (⟨"NearFigures$Plan", "firstAbove", "([II)I"⟩, 3), (⟨"NearFigures", "costOfTrial", "()I"⟩, 13), (⟨"NearFiguresModel", "isBound", "(II)Z"⟩, 16), (⟨"NearFiguresModel", "note", "()V"⟩, 16), (⟨"NearFiguresModel", "insert", "(IIIII)V"⟩, 16)]
theorem lw_r1 : ∀ q ∈ lw_privs_1, lw_okq q := List.forall_mem_cons.mpr ⟨lw_p0, List.forall_mem_cons.mpr ⟨lw_p1, List.forall_mem_cons.mpr ⟨lw_p2, List.forall_mem_cons.mpr ⟨lw_p3, List.forall_mem_cons.mpr ⟨lw_p4, List.forall_mem_cons.mpr ⟨lw_p5, List.forall_mem_cons.mpr ⟨lw_p6, List.forall_mem_cons.mpr ⟨lw_p7, List.forall_mem_cons.mpr ⟨lw_p8, List.forall_mem_cons.mpr ⟨lw_p9, List.forall_mem_cons.mpr ⟨lw_p10, List.forall_mem_cons.mpr ⟨lw_p11, List.forall_mem_cons.mpr ⟨lw_p12, List.forall_mem_cons.mpr ⟨lw_p13, List.forall_mem_cons.mpr ⟨lw_p14, List.forall_mem_cons.mpr ⟨lw_p15, fun _ h => absurd h List.not_mem_nil⟩⟩⟩⟩⟩⟩⟩⟩⟩⟩⟩⟩⟩⟩⟩⟩
theorem lw_p16 : lw_okq (⟨"NearFiguresModel", "isFigure", "(I)Z"⟩, 16) := ⟨⟨by decide +kernel, by decide +kernel⟩, List.mem_of_getElem? (i := 509) (by decide +kernel), List.mem_of_getElem? (i := 596) (by decide +kernel), List.mem_of_getElem? (i := 597) (by decide +kernel)⟩
theorem lw_p17 : lw_okq (⟨"NearFiguresModel", "remove", "(I)V"⟩, 16) := ⟨⟨by decide +kernel, by decide +kernel⟩, List.mem_of_getElem? (i := 509) (by decide +kernel), List.mem_of_getElem? (i := 601) (by decide +kernel), List.mem_of_getElem? (i := 602) (by decide +kernel)⟩
theorem lw_p18 : lw_okq (⟨"NearFiguresModel", "bestOf", "()I"⟩, 16) := ⟨⟨by decide +kernel, by decide +kernel⟩, List.mem_of_getElem? (i := 509) (by decide +kernel), List.mem_of_getElem? (i := 618) (by decide +kernel), List.mem_of_getElem? (i := 619) (by decide +kernel)⟩
theorem lw_p19 : lw_okq (⟨"NearFiguresModel", "lay", "()V"⟩, 16) := ⟨⟨by decide +kernel, by decide +kernel⟩, List.mem_of_getElem? (i := 509) (by decide +kernel), List.mem_of_getElem? (i := 622) (by decide +kernel), List.mem_of_getElem? (i := 623) (by decide +kernel)⟩
theorem lw_p20 : lw_okq (⟨"NearFiguresModel", "layPlace", "(II)V"⟩, 16) := ⟨⟨by decide +kernel, by decide +kernel⟩, List.mem_of_getElem? (i := 509) (by decide +kernel), List.mem_of_getElem? (i := 626) (by decide +kernel), List.mem_of_getElem? (i := 627) (by decide +kernel)⟩
theorem lw_p21 : lw_okq (⟨"NearFiguresModel", "isPage", "(III)Z"⟩, 16) := ⟨⟨by decide +kernel, by decide +kernel⟩, List.mem_of_getElem? (i := 509) (by decide +kernel), List.mem_of_getElem? (i := 631) (by decide +kernel), List.mem_of_getElem? (i := 632) (by decide +kernel)⟩
theorem lw_p22 : lw_okq (⟨"NearFiguresModel", "isFit", "(II)Z"⟩, 16) := ⟨⟨by decide +kernel, by decide +kernel⟩, List.mem_of_getElem? (i := 509) (by decide +kernel), List.mem_of_getElem? (i := 635) (by decide +kernel), List.mem_of_getElem? (i := 636) (by decide +kernel)⟩
theorem lw_p23 : lw_okq (⟨"NearFiguresModel", "column", "(IIIZ)I"⟩, 16) := ⟨⟨by decide +kernel, by decide +kernel⟩, List.mem_of_getElem? (i := 509) (by decide +kernel), List.mem_of_getElem? (i := 639) (by decide +kernel), List.mem_of_getElem? (i := 640) (by decide +kernel)⟩
theorem lw_p24 : lw_okq (⟨"NearFiguresModel", "isWide", "(I)Z"⟩, 16) := ⟨⟨by decide +kernel, by decide +kernel⟩, List.mem_of_getElem? (i := 509) (by decide +kernel), List.mem_of_getElem? (i := 643) (by decide +kernel), List.mem_of_getElem? (i := 644) (by decide +kernel)⟩
theorem lw_p25 : lw_okq (⟨"NearFiguresModel", "high", "(I)I"⟩, 16) := ⟨⟨by decide +kernel, by decide +kernel⟩, List.mem_of_getElem? (i := 509) (by decide +kernel), List.mem_of_getElem? (i := 647) (by decide +kernel), List.mem_of_getElem? (i := 648) (by decide +kernel)⟩
theorem lw_p26 : lw_okq (⟨"NearFiguresModel", "linesBehind", "(III)I"⟩, 16) := ⟨⟨by decide +kernel, by decide +kernel⟩, List.mem_of_getElem? (i := 509) (by decide +kernel), List.mem_of_getElem? (i := 651) (by decide +kernel), List.mem_of_getElem? (i := 652) (by decide +kernel)⟩
theorem lw_p27 : lw_okq (⟨"NearFiguresModel", "taken", "(II)I"⟩, 16) := ⟨⟨by decide +kernel, by decide +kernel⟩, List.mem_of_getElem? (i := 509) (by decide +kernel), List.mem_of_getElem? (i := 655) (by decide +kernel), List.mem_of_getElem? (i := 656) (by decide +kernel)⟩
theorem lw_p28 : lw_okq (⟨"NearFiguresModel", "areMentioned", "(III)Z"⟩, 16) := ⟨⟨by decide +kernel, by decide +kernel⟩, List.mem_of_getElem? (i := 509) (by decide +kernel), List.mem_of_getElem? (i := 659) (by decide +kernel), List.mem_of_getElem? (i := 660) (by decide +kernel)⟩
theorem lw_p29 : lw_okq (⟨"NearFiguresModel", "mentionLine", "(I)I"⟩, 16) := ⟨⟨by decide +kernel, by decide +kernel⟩, List.mem_of_getElem? (i := 509) (by decide +kernel), List.mem_of_getElem? (i := 663) (by decide +kernel), List.mem_of_getElem? (i := 664) (by decide +kernel)⟩
theorem lw_p30 : lw_okq (⟨"NearFiguresModel", "paid", "(II)I"⟩, 16) := ⟨⟨by decide +kernel, by decide +kernel⟩, List.mem_of_getElem? (i := 509) (by decide +kernel), List.mem_of_getElem? (i := 667) (by decide +kernel), List.mem_of_getElem? (i := 668) (by decide +kernel)⟩
theorem lw_p31 : lw_okq (⟨"NearFiguresModel", "between", "(IIZ)I"⟩, 16) := ⟨⟨by decide +kernel, by decide +kernel⟩, List.mem_of_getElem? (i := 509) (by decide +kernel), List.mem_of_getElem? (i := 671) (by decide +kernel), List.mem_of_getElem? (i := 672) (by decide +kernel)⟩
def lw_privs_2 : List (MethodName × Nat) := [(⟨"NearFiguresModel", "isFigure", "(I)Z"⟩, 16), (⟨"NearFiguresModel", "remove", "(I)V"⟩, 16), (⟨"NearFiguresModel", "bestOf", "()I"⟩, 16), (⟨"NearFiguresModel", "lay", "()V"⟩, 16), (⟨"NearFiguresModel", "layPlace", "(II)V"⟩, 16), (⟨"NearFiguresModel", "isPage", "(III)Z"⟩, 16), (⟨"NearFiguresModel", "isFit", "(II)Z"⟩, 16), (⟨"NearFiguresModel", "column", "(IIIZ)I"⟩, 16), (⟨"NearFiguresModel", "isWide", "(I)Z"⟩, 16), (⟨"NearFiguresModel", "high", "(I)I"⟩, 16), (⟨"NearFiguresModel", "linesBehind", "(III)I"⟩, 16), (⟨"NearFiguresModel", "taken", "(II)I"⟩, 16), (⟨"NearFiguresModel", "areMentioned", "(III)Z"⟩, 16), (⟨"NearFiguresModel", "mentionLine", "(I)I"⟩, 16), (⟨"NearFiguresModel", "paid", "(II)I"⟩, 16), (⟨"NearFiguresModel", "between", "(IIZ)I"⟩, 16)]
theorem lw_r2 : ∀ q ∈ lw_privs_2, lw_okq q := List.forall_mem_cons.mpr ⟨lw_p16, List.forall_mem_cons.mpr ⟨lw_p17, List.forall_mem_cons.mpr ⟨lw_p18, List.forall_mem_cons.mpr ⟨lw_p19, List.forall_mem_cons.mpr ⟨lw_p20, List.forall_mem_cons.mpr ⟨lw_p21, List.forall_mem_cons.mpr ⟨lw_p22, List.forall_mem_cons.mpr ⟨lw_p23, List.forall_mem_cons.mpr ⟨lw_p24, List.forall_mem_cons.mpr ⟨lw_p25, List.forall_mem_cons.mpr ⟨lw_p26, List.forall_mem_cons.mpr ⟨lw_p27, List.forall_mem_cons.mpr ⟨lw_p28, List.forall_mem_cons.mpr ⟨lw_p29, List.forall_mem_cons.mpr ⟨lw_p30, List.forall_mem_cons.mpr ⟨lw_p31, fun _ h => absurd h List.not_mem_nil⟩⟩⟩⟩⟩⟩⟩⟩⟩⟩⟩⟩⟩⟩⟩⟩
theorem lw_p32 : lw_okq (⟨"NearFiguresModel", "isMentioned", "(II)Z"⟩, 16) := ⟨⟨by decide +kernel, by decide +kernel⟩, List.mem_of_getElem? (i := 509) (by decide +kernel), List.mem_of_getElem? (i := 675) (by decide +kernel), List.mem_of_getElem? (i := 676) (by decide +kernel)⟩
theorem lw_p33 : lw_okq (⟨"NearFiguresModel", "weightOf", "(I)I"⟩, 16) := ⟨⟨by decide +kernel, by decide +kernel⟩, List.mem_of_getElem? (i := 509) (by decide +kernel), List.mem_of_getElem? (i := 679) (by decide +kernel), List.mem_of_getElem? (i := 680) (by decide +kernel)⟩
theorem lw_p34 : lw_okq (⟨"NearFiguresModel", "weight", "(I)I"⟩, 16) := ⟨⟨by decide +kernel, by decide +kernel⟩, List.mem_of_getElem? (i := 509) (by decide +kernel), List.mem_of_getElem? (i := 683) (by decide +kernel), List.mem_of_getElem? (i := 684) (by decide +kernel)⟩
theorem lw_p35 : lw_okq (⟨"NearFiguresModel", "clashing", "()I"⟩, 16) := ⟨⟨by decide +kernel, by decide +kernel⟩, List.mem_of_getElem? (i := 509) (by decide +kernel), List.mem_of_getElem? (i := 696) (by decide +kernel), List.mem_of_getElem? (i := 697) (by decide +kernel)⟩
theorem lw_p36 : lw_okq (⟨"NearFiguresModel", "isGreedy", "()Z"⟩, 16) := ⟨⟨by decide +kernel, by decide +kernel⟩, List.mem_of_getElem? (i := 509) (by decide +kernel), List.mem_of_getElem? (i := 700) (by decide +kernel), List.mem_of_getElem? (i := 701) (by decide +kernel)⟩
theorem lw_p37 : lw_okq (⟨"NearFiguresModel", "addPage", "(III)V"⟩, 16) := ⟨⟨by decide +kernel, by decide +kernel⟩, List.mem_of_getElem? (i := 509) (by decide +kernel), List.mem_of_getElem? (i := 704) (by decide +kernel), List.mem_of_getElem? (i := 705) (by decide +kernel)⟩
theorem lw_p38 : lw_okq (⟨"NearFiguresModel", "paidOfAll", "()I"⟩, 16) := ⟨⟨by decide +kernel, by decide +kernel⟩, List.mem_of_getElem? (i := 509) (by decide +kernel), List.mem_of_getElem? (i := 708) (by decide +kernel), List.mem_of_getElem? (i := 709) (by decide +kernel)⟩
theorem lw_p39 : lw_okq (⟨"NearFiguresModel", "layPlaces", "()I"⟩, 16) := ⟨⟨by decide +kernel, by decide +kernel⟩, List.mem_of_getElem? (i := 509) (by decide +kernel), List.mem_of_getElem? (i := 712) (by decide +kernel), List.mem_of_getElem? (i := 713) (by decide +kernel)⟩
theorem lw_p40 : lw_okq (⟨"NearFiguresModel", "heaviest", "()I"⟩, 16) := ⟨⟨by decide +kernel, by decide +kernel⟩, List.mem_of_getElem? (i := 509) (by decide +kernel), List.mem_of_getElem? (i := 716) (by decide +kernel), List.mem_of_getElem? (i := 717) (by decide +kernel)⟩
theorem lw_p41 : lw_okq (⟨"NearFiguresModel", "isPlanned", "()Z"⟩, 16) := ⟨⟨by decide +kernel, by decide +kernel⟩, List.mem_of_getElem? (i := 509) (by decide +kernel), List.mem_of_getElem? (i := 720) (by decide +kernel), List.mem_of_getElem? (i := 721) (by decide +kernel)⟩
theorem lw_p42 : lw_okq (⟨"NearFiguresModel", "isBestPage", "(III)Z"⟩, 16) := ⟨⟨by decide +kernel, by decide +kernel⟩, List.mem_of_getElem? (i := 509) (by decide +kernel), List.mem_of_getElem? (i := 724) (by decide +kernel), List.mem_of_getElem? (i := 725) (by decide +kernel)⟩
theorem lw_p43 : lw_okq (⟨"NearFiguresModel", "costOf", "(I)I"⟩, 16) := ⟨⟨by decide +kernel, by decide +kernel⟩, List.mem_of_getElem? (i := 509) (by decide +kernel), List.mem_of_getElem? (i := 728) (by decide +kernel), List.mem_of_getElem? (i := 729) (by decide +kernel)⟩
theorem lw_p44 : lw_okq (⟨"NearFiguresModel", "pageOfFigure", "(I)I"⟩, 16) := ⟨⟨by decide +kernel, by decide +kernel⟩, List.mem_of_getElem? (i := 509) (by decide +kernel), List.mem_of_getElem? (i := 732) (by decide +kernel), List.mem_of_getElem? (i := 733) (by decide +kernel)⟩
theorem lw_p45 : lw_okq (⟨"NearFiguresModel", "pageOfMention", "(I)I"⟩, 16) := ⟨⟨by decide +kernel, by decide +kernel⟩, List.mem_of_getElem? (i := 509) (by decide +kernel), List.mem_of_getElem? (i := 736) (by decide +kernel), List.mem_of_getElem? (i := 737) (by decide +kernel)⟩
theorem lw_p46 : lw_okq (⟨"NearFiguresModel", "pageOfLine", "(I)I"⟩, 16) := ⟨⟨by decide +kernel, by decide +kernel⟩, List.mem_of_getElem? (i := 509) (by decide +kernel), List.mem_of_getElem? (i := 740) (by decide +kernel), List.mem_of_getElem? (i := 741) (by decide +kernel)⟩
def lw_privs_3 : List (MethodName × Nat) := [(⟨"NearFiguresModel", "isMentioned", "(II)Z"⟩, 16), (⟨"NearFiguresModel", "weightOf", "(I)I"⟩, 16), (⟨"NearFiguresModel", "weight", "(I)I"⟩, 16), (⟨"NearFiguresModel", "clashing", "()I"⟩, 16), (⟨"NearFiguresModel", "isGreedy", "()Z"⟩, 16), (⟨"NearFiguresModel", "addPage", "(III)V"⟩, 16), (⟨"NearFiguresModel", "paidOfAll", "()I"⟩, 16), (⟨"NearFiguresModel", "layPlaces", "()I"⟩, 16), (⟨"NearFiguresModel", "heaviest", "()I"⟩, 16), (⟨"NearFiguresModel", "isPlanned", "()Z"⟩, 16), (⟨"NearFiguresModel", "isBestPage", "(III)Z"⟩, 16), (⟨"NearFiguresModel", "costOf", "(I)I"⟩, 16), (⟨"NearFiguresModel", "pageOfFigure", "(I)I"⟩, 16), (⟨"NearFiguresModel", "pageOfMention", "(I)I"⟩, 16), (⟨"NearFiguresModel", "pageOfLine", "(I)I"⟩, 16)]
theorem lw_r3 : ∀ q ∈ lw_privs_3, lw_okq q := List.forall_mem_cons.mpr ⟨lw_p32, List.forall_mem_cons.mpr ⟨lw_p33, List.forall_mem_cons.mpr ⟨lw_p34, List.forall_mem_cons.mpr ⟨lw_p35, List.forall_mem_cons.mpr ⟨lw_p36, List.forall_mem_cons.mpr ⟨lw_p37, List.forall_mem_cons.mpr ⟨lw_p38, List.forall_mem_cons.mpr ⟨lw_p39, List.forall_mem_cons.mpr ⟨lw_p40, List.forall_mem_cons.mpr ⟨lw_p41, List.forall_mem_cons.mpr ⟨lw_p42, List.forall_mem_cons.mpr ⟨lw_p43, List.forall_mem_cons.mpr ⟨lw_p44, List.forall_mem_cons.mpr ⟨lw_p45, List.forall_mem_cons.mpr ⟨lw_p46, fun _ h => absurd h List.not_mem_nil⟩⟩⟩⟩⟩⟩⟩⟩⟩⟩⟩⟩⟩⟩⟩
def lw_privs : List (MethodName × Nat) := lw_privs_1 ++ (lw_privs_2 ++ (lw_privs_3))
def lw_tbl : List Cond := k2_sels lw_privs ++ tables_1
theorem lw_privs_ok : ∀ q ∈ lw_privs, lw_okq q := by
  show ∀ q ∈ lw_privs_1 ++ (lw_privs_2 ++ (lw_privs_3)), lw_okq q
  exact List.forall_mem_append.mpr ⟨lw_r1, List.forall_mem_append.mpr ⟨lw_r2, lw_r3⟩⟩
/-! ===== BEGIN printed: names, fields, word lists, decode rows ===== -/
def RX0 : String := "NearFigures$History"
def TX0 : u_T := fun k => match k with
  | 0 => ("NearFigures$History", "ring", "[LNearFigures$Setting;", true)
  | 1 => ("NearFigures$History", "end", "I", false)
  | _ => ("NearFigures$History", "size", "I", false)
def tyX0 : Nat → FieldType := fun k => match k with
  | 0 => .array (.object "NearFigures$Setting")
  | 1 => .int
  | _ => .int
abbrev wsX00 : List Cond := u_ws RX0 TX0 3
theorem nmX0 : ∀ a, a < 3 → ∀ b, b < 3 → a ≠ b → (TX0 a).2.1 ≠ (TX0 b).2.1 := by decide +kernel
theorem tyX0_ok : ∀ k, k < 3 → parseFieldDescriptor (TX0 k).2.2.1 = some (tyX0 k) := by decide +kernel
abbrev cX0_init : ByteArray := prog_2_method_1_code
def yX0_init : MethodName := ⟨RX0, "<init>", "()V"⟩
abbrev cX0_remember : ByteArray := prog_2_method_2_code
def yX0_remember : MethodName := ⟨RX0, "remember", "(LNearFigures$Setting;)V"⟩
abbrev cX0_bringBack : ByteArray := prog_2_method_3_code
def yX0_bringBack : MethodName := ⟨RX0, "bringBack", "(LNearFigures$Setting;)V"⟩
def RX1 : String := "NearFigures$Measure"
def TX1 : u_T := fun k => match k with
  | 0 => ("NearFigures$Measure", "lines", "I", false)
  | 1 => ("NearFigures$Measure", "figures", "I", false)
  | 2 => ("NearFigures$Measure", "room", "I", false)
  | 3 => ("NearFigures$Measure", "early", "Z", false)
  | 4 => ("NearFigures$Measure", "clash", "I", false)
  | 5 => ("NearFigures$Measure", "due", "[I", true)
  | 6 => ("NearFigures$Measure", "weights", "[I", true)
  | 7 => ("NearFigures$Measure", "most", "[I", true)
  | _ => ("NearFigures$Measure", "takenUpTo", "[I", true)
def tyX1 : Nat → FieldType := fun k => match k with
  | 0 => .int
  | 1 => .int
  | 2 => .int
  | 3 => .boolean
  | 4 => .int
  | 5 => .array .int
  | 6 => .array .int
  | 7 => .array .int
  | _ => .array .int
abbrev wsX10 : List Cond := u_ws RX1 TX1 9
theorem nmX1 : ∀ a, a < 9 → ∀ b, b < 9 → a ≠ b → (TX1 a).2.1 ≠ (TX1 b).2.1 := by decide +kernel
theorem tyX1_ok : ∀ k, k < 9 → parseFieldDescriptor (TX1 k).2.2.1 = some (tyX1 k) := by decide +kernel
abbrev cX1_init : ByteArray := prog_3_method_1_code
def yX1_init : MethodName := ⟨RX1, "<init>", "()V"⟩
abbrev cX1_take : ByteArray := prog_3_method_2_code
def yX1_take : MethodName := ⟨RX1, "take", "(LNearFigures$Setting;)V"⟩
abbrev cX1_mostFrom : ByteArray := prog_3_method_3_code
def yX1_mostFrom : MethodName := ⟨RX1, "mostFrom", "(LNearFigures$Setting;I)I"⟩
abbrev cX1_isEnd : ByteArray := prog_3_method_4_code
def yX1_isEnd : MethodName := ⟨RX1, "isEnd", "(II)Z"⟩
abbrev cX1_linesBehind : ByteArray := prog_3_method_5_code
def yX1_linesBehind : MethodName := ⟨RX1, "linesBehind", "(III)I"⟩
abbrev cX1_areMentioned : ByteArray := prog_3_method_6_code
def yX1_areMentioned : MethodName := ⟨RX1, "areMentioned", "(III)Z"⟩
abbrev cX1_mayTake : ByteArray := prog_3_method_7_code
def yX1_mayTake : MethodName := ⟨RX1, "mayTake", "(III)Z"⟩
abbrev cX1_toll : ByteArray := prog_3_method_8_code
def yX1_toll : MethodName := ⟨RX1, "toll", "(II)I"⟩
abbrev cX1_waiting : ByteArray := prog_3_method_9_code
def yX1_waiting : MethodName := ⟨RX1, "waiting", "(II)I"⟩
abbrev cX1_unmentioned : ByteArray := prog_3_method_10_code
def yX1_unmentioned : MethodName := ⟨RX1, "unmentioned", "(II)I"⟩
def RX2 : String := "NearFigures$Plan"
def TX2 : u_T := fun k => match k with
  | 0 => ("NearFigures$Plan", "lines", "[I", true)
  | 1 => ("NearFigures$Plan", "figures", "[I", true)
  | _ => ("NearFigures$Plan", "pages", "I", false)
def tyX2 : Nat → FieldType := fun k => match k with
  | 0 => .array .int
  | 1 => .array .int
  | _ => .int
abbrev wsX20 : List Cond := u_ws RX2 TX2 3
theorem nmX2 : ∀ a, a < 3 → ∀ b, b < 3 → a ≠ b → (TX2 a).2.1 ≠ (TX2 b).2.1 := by decide +kernel
theorem tyX2_ok : ∀ k, k < 3 → parseFieldDescriptor (TX2 k).2.2.1 = some (tyX2 k) := by decide +kernel
abbrev cX2_init : ByteArray := prog_4_method_1_code
def yX2_init : MethodName := ⟨RX2, "<init>", "()V"⟩
abbrev cX2_addPage : ByteArray := prog_4_method_2_code
def yX2_addPage : MethodName := ⟨RX2, "addPage", "(LNearFigures$Measure;I)V"⟩
abbrev cX2_mayGoOn : ByteArray := prog_4_method_3_code
def yX2_mayGoOn : MethodName := ⟨RX2, "mayGoOn", "(LNearFigures$Measure;)Z"⟩
abbrev cX2_follow : ByteArray := prog_4_method_4_code
def yX2_follow : MethodName := ⟨RX2, "follow", "(LNearFigures$Planner;)V"⟩
abbrev cX2_takeMost : ByteArray := prog_4_method_5_code
def yX2_takeMost : MethodName := ⟨RX2, "takeMost", "(LNearFigures$Measure;)V"⟩
abbrev cX2_takeHanded : ByteArray := prog_4_method_6_code
def yX2_takeHanded : MethodName := ⟨RX2, "takeHanded", "(LNearFigures$Measure;[II)I"⟩
abbrev cX2_pageWithLine : ByteArray := prog_4_method_7_code
def yX2_pageWithLine : MethodName := ⟨RX2, "pageWithLine", "(I)I"⟩
abbrev cX2_pageOfFigure : ByteArray := prog_4_method_8_code
def yX2_pageOfFigure : MethodName := ⟨RX2, "pageOfFigure", "(I)I"⟩
abbrev cX2_firstAbove : ByteArray := prog_4_method_9_code
def yX2_firstAbove : MethodName := ⟨RX2, "firstAbove", "([II)I"⟩
abbrev cX2_costOfFigure : ByteArray := prog_4_method_10_code
def yX2_costOfFigure : MethodName := ⟨RX2, "costOfFigure", "(LNearFigures$Measure;I)I"⟩
abbrev cX2_cost : ByteArray := prog_4_method_11_code
def yX2_cost : MethodName := ⟨RX2, "cost", "(LNearFigures$Measure;)I"⟩
abbrev cX2_heavy : ByteArray := prog_4_method_12_code
def yX2_heavy : MethodName := ⟨RX2, "heavy", "(LNearFigures$Measure;)I"⟩
def RX3 : String := "NearFigures$Planner"
def TX3 : u_T := fun k => match k with
  | 0 => ("NearFigures$Planner", "measure", "LNearFigures$Measure;", true)
  | 1 => ("NearFigures$Planner", "values", "[I", true)
  | 2 => ("NearFigures$Planner", "tolls", "[I", true)
  | 3 => ("NearFigures$Planner", "taken", "[I", true)
  | 4 => ("NearFigures$Planner", "plans", "[J", true)
  | _ => ("NearFigures$Planner", "places", "I", false)
def tyX3 : Nat → FieldType := fun k => match k with
  | 0 => .object "NearFigures$Measure"
  | 1 => .array .int
  | 2 => .array .int
  | 3 => .array .int
  | 4 => .array .long
  | _ => .int
abbrev wsX30 : List Cond := u_ws RX3 TX3 6
theorem nmX3 : ∀ a, a < 6 → ∀ b, b < 6 → a ≠ b → (TX3 a).2.1 ≠ (TX3 b).2.1 := by decide +kernel
theorem tyX3_ok : ∀ k, k < 6 → parseFieldDescriptor (TX3 k).2.2.1 = some (tyX3 k) := by decide +kernel
abbrev cX3_init : ByteArray := prog_5_method_1_code
def yX3_init : MethodName := ⟨RX3, "<init>", "()V"⟩
abbrev cX3_solve : ByteArray := prog_5_method_2_code
def yX3_solve : MethodName := ⟨RX3, "solve", "(LNearFigures$Setting;)V"⟩
abbrev cX3_reachPlaces : ByteArray := prog_5_method_3_code
def yX3_reachPlaces : MethodName := ⟨RX3, "reachPlaces", "()V"⟩
abbrev cX3_reachFrom : ByteArray := prog_5_method_4_code
def yX3_reachFrom : MethodName := ⟨RX3, "reachFrom", "(II)V"⟩
abbrev cX3_placeBehind : ByteArray := prog_5_method_5_code
def yX3_placeBehind : MethodName := ⟨RX3, "placeBehind", "(III)I"⟩
abbrev cX3_valuePlaces : ByteArray := prog_5_method_6_code
def yX3_valuePlaces : MethodName := ⟨RX3, "valuePlaces", "()V"⟩
abbrev cX3_valuePlace : ByteArray := prog_5_method_7_code
def yX3_valuePlace : MethodName := ⟨RX3, "valuePlace", "(II)V"⟩
abbrev cX3_isPlace : ByteArray := prog_5_method_8_code
def yX3_isPlace : MethodName := ⟨RX3, "isPlace", "(II)Z"⟩
abbrev cX3_costFrom : ByteArray := prog_5_method_9_code
def yX3_costFrom : MethodName := ⟨RX3, "costFrom", "(II)I"⟩
abbrev cX3_pagesFrom : ByteArray := prog_5_method_10_code
def yX3_pagesFrom : MethodName := ⟨RX3, "pagesFrom", "(II)I"⟩
abbrev cX3_takenFrom : ByteArray := prog_5_method_11_code
def yX3_takenFrom : MethodName := ⟨RX3, "takenFrom", "(II)I"⟩
abbrev cX3_waysOfBest : ByteArray := prog_5_method_12_code
def yX3_waysOfBest : MethodName := ⟨RX3, "waysOfBest", "()J"⟩
def RX4 : String := "NearFigures$Setting"
def TX4 : u_T := fun k => match k with
  | 0 => ("NearFigures$Setting", "bounds", "[I", true)
  | 1 => ("NearFigures$Setting", "parts", "[[I", true)
  | _ => ("NearFigures$Setting", "figures", "I", false)
def tyX4 : Nat → FieldType := fun k => match k with
  | 0 => .array .int
  | 1 => .array (.array .int)
  | _ => .int
abbrev wsX40 : List Cond := u_ws RX4 TX4 3
theorem nmX4 : ∀ a, a < 3 → ∀ b, b < 3 → a ≠ b → (TX4 a).2.1 ≠ (TX4 b).2.1 := by decide +kernel
theorem tyX4_ok : ∀ k, k < 3 → parseFieldDescriptor (TX4 k).2.2.1 = some (tyX4 k) := by decide +kernel
abbrev cX4_init : ByteArray := prog_6_method_1_code
def yX4_init : MethodName := ⟨RX4, "<init>", "()V"⟩
abbrev cX4_becomes : ByteArray := prog_6_method_2_code
def yX4_becomes : MethodName := ⟨RX4, "becomes", "(LNearFigures$Setting;)V"⟩
abbrev cX4_has : ByteArray := prog_6_method_3_code
def yX4_has : MethodName := ⟨RX4, "has", "(I)Z"⟩
abbrev cX4_boundMayBe : ByteArray := prog_6_method_4_code
def yX4_boundMayBe : MethodName := ⟨RX4, "boundMayBe", "(II)Z"⟩
abbrev cX4_openAt : ByteArray := prog_6_method_5_code
def yX4_openAt : MethodName := ⟨RX4, "openAt", "(I)V"⟩
abbrev cX4_closeAt : ByteArray := prog_6_method_6_code
def yX4_closeAt : MethodName := ⟨RX4, "closeAt", "(I)V"⟩
abbrev cX4_describe : ByteArray := prog_6_method_7_code
def yX4_describe : MethodName := ⟨RX4, "describe", "(IIIII)V"⟩
abbrev cX4_drawLots : ByteArray := prog_6_method_8_code
def yX4_drawLots : MethodName := ⟨RX4, "drawLots", "(II)V"⟩
abbrev cX4_nextLot : ByteArray := prog_6_method_9_code
def yX4_nextLot : MethodName := ⟨RX4, "nextLot", "(I)I"⟩
abbrev cX4_standTogether : ByteArray := prog_6_method_10_code
def yX4_standTogether : MethodName := ⟨RX4, "standTogether", "(II)Z"⟩
abbrev cX4_heightsChosen : ByteArray := prog_6_method_11_code
def yX4_heightsChosen : MethodName := ⟨RX4, "heightsChosen", "(III)I"⟩
def RX5 : String := "NearFigures"
def TX5 : u_T := fun k => match k with
  | 0 => ("NearFigures", "now", "LNearFigures$Setting;", true)
  | 1 => ("NearFigures", "trial", "LNearFigures$Setting;", true)
  | 2 => ("NearFigures", "images", "[LNearFigures$Setting;", true)
  | 3 => ("NearFigures", "imageKept", "[Z", true)
  | 4 => ("NearFigures", "history", "LNearFigures$History;", true)
  | 5 => ("NearFigures", "planner", "LNearFigures$Planner;", true)
  | 6 => ("NearFigures", "trialPlanner", "LNearFigures$Planner;", true)
  | 7 => ("NearFigures", "best", "LNearFigures$Plan;", true)
  | 8 => ("NearFigures", "greedy", "LNearFigures$Plan;", true)
  | 9 => ("NearFigures", "made", "LNearFigures$Plan;", true)
  | 10 => ("NearFigures", "handed", "[I", true)
  | 11 => ("NearFigures", "handedPages", "I", false)
  | _ => ("NearFigures", "stale", "Z", false)
def tyX5 : Nat → FieldType := fun k => match k with
  | 0 => .object "NearFigures$Setting"
  | 1 => .object "NearFigures$Setting"
  | 2 => .array (.object "NearFigures$Setting")
  | 3 => .array .boolean
  | 4 => .object "NearFigures$History"
  | 5 => .object "NearFigures$Planner"
  | 6 => .object "NearFigures$Planner"
  | 7 => .object "NearFigures$Plan"
  | 8 => .object "NearFigures$Plan"
  | 9 => .object "NearFigures$Plan"
  | 10 => .array .int
  | 11 => .int
  | _ => .boolean
abbrev wsX50 : List Cond := u_ws RX5 TX5 13
theorem nmX5 : ∀ a, a < 13 → ∀ b, b < 13 → a ≠ b → (TX5 a).2.1 ≠ (TX5 b).2.1 := by decide +kernel
theorem tyX5_ok : ∀ k, k < 13 → parseFieldDescriptor (TX5 k).2.2.1 = some (tyX5 k) := by decide +kernel
abbrev cX5_init : ByteArray := prog_1_method_1_code
def yX5_init : MethodName := ⟨RX5, "<init>", "()V"⟩
abbrev cX5_layout : ByteArray := prog_1_method_2_code
def yX5_layout : MethodName := ⟨RX5, "layout", "(II)I"⟩
abbrev cX5_figure : ByteArray := prog_1_method_3_code
def yX5_figure : MethodName := ⟨RX5, "figure", "(IIIII)I"⟩
abbrev cX5_drop : ByteArray := prog_1_method_4_code
def yX5_drop : MethodName := ⟨RX5, "drop", "(I)I"⟩
abbrev cX5_mention : ByteArray := prog_1_method_5_code
def yX5_mention : MethodName := ⟨RX5, "mention", "(II)I"⟩
abbrev cX5_drift : ByteArray := prog_1_method_6_code
def yX5_drift : MethodName := ⟨RX5, "drift", "(II)I"⟩
abbrev cX5_undo : ByteArray := prog_1_method_7_code
def yX5_undo : MethodName := ⟨RX5, "undo", "()I"⟩
abbrev cX5_told : ByteArray := prog_1_method_8_code
def yX5_told : MethodName := ⟨RX5, "told", "(I)I"⟩
abbrev cX5_figureOf : ByteArray := prog_1_method_9_code
def yX5_figureOf : MethodName := ⟨RX5, "figureOf", "(II)I"⟩
abbrev cX5_page : ByteArray := prog_1_method_10_code
def yX5_page : MethodName := ⟨RX5, "page", "(II)I"⟩
abbrev cX5_pageOf : ByteArray := prog_1_method_11_code
def yX5_pageOf : MethodName := ⟨RX5, "pageOf", "(I)I"⟩
abbrev cX5_fits : ByteArray := prog_1_method_12_code
def yX5_fits : MethodName := ⟨RX5, "fits", "(II)I"⟩
abbrev cX5_ways : ByteArray := prog_1_method_13_code
def yX5_ways : MethodName := ⟨RX5, "ways", "()J"⟩
abbrev cX5_without : ByteArray := prog_1_method_14_code
def yX5_without : MethodName := ⟨RX5, "without", "(I)I"⟩
abbrev cX5_moved : ByteArray := prog_1_method_15_code
def yX5_moved : MethodName := ⟨RX5, "moved", "(II)I"⟩
abbrev cX5_from : ByteArray := prog_1_method_16_code
def yX5_from : MethodName := ⟨RX5, "from", "(III)I"⟩
abbrev cX5_hand : ByteArray := prog_1_method_17_code
def yX5_hand : MethodName := ⟨RX5, "hand", "(I)I"⟩
abbrev cX5_clear : ByteArray := prog_1_method_18_code
def yX5_clear : MethodName := ⟨RX5, "clear", "()I"⟩
abbrev cX5_judge : ByteArray := prog_1_method_19_code
def yX5_judge : MethodName := ⟨RX5, "judge", "(I)I"⟩
abbrev cX5_keep : ByteArray := prog_1_method_20_code
def yX5_keep : MethodName := ⟨RX5, "keep", "(I)I"⟩
abbrev cX5_goBack : ByteArray := prog_1_method_21_code
def yX5_goBack : MethodName := ⟨RX5, "goBack", "(I)I"⟩
abbrev cX5_partMayBe : ByteArray := prog_1_method_22_code
def yX5_partMayBe : MethodName := ⟨RX5, "partMayBe", "(II)Z"⟩
abbrev cX5_aheadOfChange : ByteArray := prog_1_method_23_code
def yX5_aheadOfChange : MethodName := ⟨RX5, "aheadOfChange", "()V"⟩
abbrev cX5_settle : ByteArray := prog_1_method_24_code
def yX5_settle : MethodName := ⟨RX5, "settle", "()V"⟩
abbrev cX5_costOfTrial : ByteArray := prog_1_method_25_code
def yX5_costOfTrial : MethodName := ⟨RX5, "costOfTrial", "()I"⟩
def RX6 : String := "NearFiguresModel"
def TX6 : u_T := fun k => match k with
  | 0 => ("NearFiguresModel", "now", "[I", true)
  | 1 => ("NearFiguresModel", "was", "[I", true)
  | 2 => ("NearFiguresModel", "backs", "I", false)
  | 3 => ("NearFiguresModel", "back", "[I", true)
  | 4 => ("NearFiguresModel", "image", "[I", true)
  | 5 => ("NearFiguresModel", "isKept", "[Z", true)
  | 6 => ("NearFiguresModel", "pages", "I", false)
  | 7 => ("NearFiguresModel", "hand", "[I", true)
  | 8 => ("NearFiguresModel", "cost", "[I", true)
  | 9 => ("NearFiguresModel", "size", "[I", true)
  | 10 => ("NearFiguresModel", "ways", "[J", true)
  | 11 => ("NearFiguresModel", "place", "[Z", true)
  | 12 => ("NearFiguresModel", "planned", "I", false)
  | 13 => ("NearFiguresModel", "count", "[I", true)
  | 14 => ("NearFiguresModel", "line", "[I", true)
  | _ => ("NearFiguresModel", "figure", "[I", true)
def tyX6 : Nat → FieldType := fun k => match k with
  | 0 => .array .int
  | 1 => .array .int
  | 2 => .int
  | 3 => .array .int
  | 4 => .array .int
  | 5 => .array .boolean
  | 6 => .int
  | 7 => .array .int
  | 8 => .array .int
  | 9 => .array .int
  | 10 => .array .long
  | 11 => .array .boolean
  | 12 => .int
  | 13 => .array .int
  | 14 => .array .int
  | _ => .array .int
abbrev wsX60 : List Cond := u_ws RX6 TX6 16
theorem nmX6 : ∀ a, a < 16 → ∀ b, b < 16 → a ≠ b → (TX6 a).2.1 ≠ (TX6 b).2.1 := by decide +kernel
theorem tyX6_ok : ∀ k, k < 16 → parseFieldDescriptor (TX6 k).2.2.1 = some (tyX6 k) := by decide +kernel
abbrev cX6_init : ByteArray := prog_8_method_1_code
def yX6_init : MethodName := ⟨RX6, "<init>", "()V"⟩
abbrev cX6_in : ByteArray := prog_8_method_2_code
def yX6_in : MethodName := ⟨RX6, "in", "(III)Z"⟩
abbrev cX6_bring : ByteArray := prog_8_method_3_code
def yX6_bring : MethodName := ⟨RX6, "bring", "([II[III)V"⟩
abbrev cX6_isFigure : ByteArray := prog_8_method_4_code
def yX6_isFigure : MethodName := ⟨RX6, "isFigure", "(I)Z"⟩
abbrev cX6_high : ByteArray := prog_8_method_5_code
def yX6_high : MethodName := ⟨RX6, "high", "(I)I"⟩
abbrev cX6_isWide : ByteArray := prog_8_method_6_code
def yX6_isWide : MethodName := ⟨RX6, "isWide", "(I)Z"⟩
abbrev cX6_weight : ByteArray := prog_8_method_7_code
def yX6_weight : MethodName := ⟨RX6, "weight", "(I)I"⟩
abbrev cX6_mentionLine : ByteArray := prog_8_method_8_code
def yX6_mentionLine : MethodName := ⟨RX6, "mentionLine", "(I)I"⟩
abbrev cX6_column : ByteArray := prog_8_method_9_code
def yX6_column : MethodName := ⟨RX6, "column", "(IIIZ)I"⟩
abbrev cX6_isFit : ByteArray := prog_8_method_10_code
def yX6_isFit : MethodName := ⟨RX6, "isFit", "(II)Z"⟩
abbrev cX6_taken : ByteArray := prog_8_method_11_code
def yX6_taken : MethodName := ⟨RX6, "taken", "(II)I"⟩
abbrev cX6_linesBehind : ByteArray := prog_8_method_12_code
def yX6_linesBehind : MethodName := ⟨RX6, "linesBehind", "(III)I"⟩
abbrev cX6_areMentioned : ByteArray := prog_8_method_13_code
def yX6_areMentioned : MethodName := ⟨RX6, "areMentioned", "(III)Z"⟩
abbrev cX6_clashing : ByteArray := prog_8_method_14_code
def yX6_clashing : MethodName := ⟨RX6, "clashing", "()I"⟩
abbrev cX6_isMentioned : ByteArray := prog_8_method_15_code
def yX6_isMentioned : MethodName := ⟨RX6, "isMentioned", "(II)Z"⟩
abbrev cX6_between : ByteArray := prog_8_method_16_code
def yX6_between : MethodName := ⟨RX6, "between", "(IIZ)I"⟩
abbrev cX6_weightOf : ByteArray := prog_8_method_17_code
def yX6_weightOf : MethodName := ⟨RX6, "weightOf", "(I)I"⟩
abbrev cX6_paid : ByteArray := prog_8_method_18_code
def yX6_paid : MethodName := ⟨RX6, "paid", "(II)I"⟩
abbrev cX6_isPage : ByteArray := prog_8_method_19_code
def yX6_isPage : MethodName := ⟨RX6, "isPage", "(III)Z"⟩
abbrev cX6_layPlace : ByteArray := prog_8_method_20_code
def yX6_layPlace : MethodName := ⟨RX6, "layPlace", "(II)V"⟩
abbrev cX6_lay : ByteArray := prog_8_method_21_code
def yX6_lay : MethodName := ⟨RX6, "lay", "()V"⟩
abbrev cX6_bestOf : ByteArray := prog_8_method_22_code
def yX6_bestOf : MethodName := ⟨RX6, "bestOf", "()I"⟩
abbrev cX6_addPage : ByteArray := prog_8_method_23_code
def yX6_addPage : MethodName := ⟨RX6, "addPage", "(III)V"⟩
abbrev cX6_isPlanned : ByteArray := prog_8_method_24_code
def yX6_isPlanned : MethodName := ⟨RX6, "isPlanned", "()Z"⟩
abbrev cX6_isBestPage : ByteArray := prog_8_method_25_code
def yX6_isBestPage : MethodName := ⟨RX6, "isBestPage", "(III)Z"⟩
abbrev cX6_isGreedy : ByteArray := prog_8_method_26_code
def yX6_isGreedy : MethodName := ⟨RX6, "isGreedy", "()Z"⟩
abbrev cX6_paidOfAll : ByteArray := prog_8_method_27_code
def yX6_paidOfAll : MethodName := ⟨RX6, "paidOfAll", "()I"⟩
abbrev cX6_pageOfFigure : ByteArray := prog_8_method_28_code
def yX6_pageOfFigure : MethodName := ⟨RX6, "pageOfFigure", "(I)I"⟩
abbrev cX6_pageOfLine : ByteArray := prog_8_method_29_code
def yX6_pageOfLine : MethodName := ⟨RX6, "pageOfLine", "(I)I"⟩
abbrev cX6_pageOfMention : ByteArray := prog_8_method_30_code
def yX6_pageOfMention : MethodName := ⟨RX6, "pageOfMention", "(I)I"⟩
abbrev cX6_costOf : ByteArray := prog_8_method_31_code
def yX6_costOf : MethodName := ⟨RX6, "costOf", "(I)I"⟩
abbrev cX6_layPlaces : ByteArray := prog_8_method_32_code
def yX6_layPlaces : MethodName := ⟨RX6, "layPlaces", "()I"⟩
abbrev cX6_heaviest : ByteArray := prog_8_method_33_code
def yX6_heaviest : MethodName := ⟨RX6, "heaviest", "()I"⟩
abbrev cX6_note : ByteArray := prog_8_method_34_code
def yX6_note : MethodName := ⟨RX6, "note", "()V"⟩
abbrev cX6_isBound : ByteArray := prog_8_method_35_code
def yX6_isBound : MethodName := ⟨RX6, "isBound", "(II)Z"⟩
abbrev cX6_layout : ByteArray := prog_8_method_36_code
def yX6_layout : MethodName := ⟨RX6, "layout", "(II)I"⟩
abbrev cX6_insert : ByteArray := prog_8_method_37_code
def yX6_insert : MethodName := ⟨RX6, "insert", "(IIIII)V"⟩
abbrev cX6_figure : ByteArray := prog_8_method_38_code
def yX6_figure : MethodName := ⟨RX6, "figure", "(IIIII)I"⟩
abbrev cX6_remove : ByteArray := prog_8_method_39_code
def yX6_remove : MethodName := ⟨RX6, "remove", "(I)V"⟩
abbrev cX6_drop : ByteArray := prog_8_method_40_code
def yX6_drop : MethodName := ⟨RX6, "drop", "(I)I"⟩
abbrev cX6_mention : ByteArray := prog_8_method_41_code
def yX6_mention : MethodName := ⟨RX6, "mention", "(II)I"⟩
abbrev cX6_drift : ByteArray := prog_8_method_42_code
def yX6_drift : MethodName := ⟨RX6, "drift", "(II)I"⟩
abbrev cX6_undo : ByteArray := prog_8_method_43_code
def yX6_undo : MethodName := ⟨RX6, "undo", "()I"⟩
abbrev cX6_told : ByteArray := prog_8_method_44_code
def yX6_told : MethodName := ⟨RX6, "told", "(I)I"⟩
abbrev cX6_figureOf : ByteArray := prog_8_method_45_code
def yX6_figureOf : MethodName := ⟨RX6, "figureOf", "(II)I"⟩
abbrev cX6_page : ByteArray := prog_8_method_46_code
def yX6_page : MethodName := ⟨RX6, "page", "(II)I"⟩
abbrev cX6_pageOf : ByteArray := prog_8_method_47_code
def yX6_pageOf : MethodName := ⟨RX6, "pageOf", "(I)I"⟩
abbrev cX6_fits : ByteArray := prog_8_method_48_code
def yX6_fits : MethodName := ⟨RX6, "fits", "(II)I"⟩
abbrev cX6_ways : ByteArray := prog_8_method_49_code
def yX6_ways : MethodName := ⟨RX6, "ways", "()J"⟩
abbrev cX6_without : ByteArray := prog_8_method_50_code
def yX6_without : MethodName := ⟨RX6, "without", "(I)I"⟩
abbrev cX6_moved : ByteArray := prog_8_method_51_code
def yX6_moved : MethodName := ⟨RX6, "moved", "(II)I"⟩
abbrev cX6_from : ByteArray := prog_8_method_52_code
def yX6_from : MethodName := ⟨RX6, "from", "(III)I"⟩
abbrev cX6_hand : ByteArray := prog_8_method_53_code
def yX6_hand : MethodName := ⟨RX6, "hand", "(I)I"⟩
abbrev cX6_clear : ByteArray := prog_8_method_54_code
def yX6_clear : MethodName := ⟨RX6, "clear", "()I"⟩
abbrev cX6_judge : ByteArray := prog_8_method_55_code
def yX6_judge : MethodName := ⟨RX6, "judge", "(I)I"⟩
abbrev cX6_keep : ByteArray := prog_8_method_56_code
def yX6_keep : MethodName := ⟨RX6, "keep", "(I)I"⟩
abbrev cX6_goBack : ByteArray := prog_8_method_57_code
def yX6_goBack : MethodName := ⟨RX6, "goBack", "(I)I"⟩
def RJ9 : String := "java/lang/Math"
def TJ9 : u_T := fun k => match k with
  | _ => ("", "", "", false)
def tyJ9 : Nat → FieldType := fun k => match k with
  | _ => .int
abbrev wsJ90 : List Cond := u_ws RJ9 TJ9 0
theorem nmJ9 : ∀ a, a < 0 → ∀ b, b < 0 → a ≠ b → (TJ9 a).2.1 ≠ (TJ9 b).2.1 := by decide +kernel
theorem tyJ9_ok : ∀ k, k < 0 → parseFieldDescriptor (TJ9 k).2.2.1 = some (tyJ9 k) := by decide +kernel
abbrev cJ9_abs_0f7a4 : ByteArray := prog_9_method_59_code
def yJ9_abs_0f7a4 : MethodName := ⟨RJ9, "abs", "(I)I"⟩
abbrev cJ9_max_7cf53 : ByteArray := prog_9_method_65_code
def yJ9_max_7cf53 : MethodName := ⟨RJ9, "max", "(II)I"⟩
abbrev cJ9_min_7cf53 : ByteArray := prog_9_method_69_code
def yJ9_min_7cf53 : MethodName := ⟨RJ9, "min", "(II)I"⟩
def RJ10 : String := "java/lang/System"
def TJ10 : u_T := fun k => match k with
  | _ => ("", "", "", false)
def tyJ10 : Nat → FieldType := fun k => match k with
  | _ => .int
abbrev wsJ100 : List Cond := u_ws RJ10 TJ10 0
theorem nmJ10 : ∀ a, a < 0 → ∀ b, b < 0 → a ≠ b → (TJ10 a).2.1 ≠ (TJ10 b).2.1 := by decide +kernel
theorem tyJ10_ok : ∀ k, k < 0 → parseFieldDescriptor (TJ10 k).2.2.1 = some (tyJ10 k) := by decide +kernel
def RJ7 : String := "java/util/Arrays"
def TJ7 : u_T := fun k => match k with
  | _ => ("", "", "", false)
def tyJ7 : Nat → FieldType := fun k => match k with
  | _ => .int
abbrev wsJ70 : List Cond := u_ws RJ7 TJ7 0
theorem nmJ7 : ∀ a, a < 0 → ∀ b, b < 0 → a ≠ b → (TJ7 a).2.1 ≠ (TJ7 b).2.1 := by decide +kernel
theorem tyJ7_ok : ∀ k, k < 0 → parseFieldDescriptor (TJ7 k).2.2.1 = some (tyJ7 k) := by decide +kernel
abbrev cJ7_fill_53178 : ByteArray := prog_11_method_103_code
def yJ7_fill_53178 : MethodName := ⟨RJ7, "fill", "([II)V"⟩
def RL : String := "NearFiguresLaw"
abbrev cL_law : ByteArray := code
def yL_law : MethodName := ⟨RL, "law", "([I)Z"⟩
def wsL_law_r1 : List Cond := [Cond.classLink RL 7 RX5, Cond.instantiable RX5 13, Cond.initialized RX5, Cond.classLink RL 10 RX6, Cond.instantiable RX6 16, Cond.initialized RX6, Cond.methodLink RL 9 yX5_init, Cond.instanceMethod yX5_init, Cond.code yX5_init cX5_init 2 none, Cond.methodLink RX5 1 objectInit, Cond.instanceMethod objectInit, Cond.code objectInit ⟨#[0xb1]⟩ 1 none, Cond.classLink RX5 7 RX4, Cond.instantiable RX4 3, Cond.initialized RX4, Cond.fieldLink RX5 10 "NearFigures" "now" "LNearFigures$Setting;", Cond.fieldLink RX5 16 "NearFigures" "trial" "LNearFigures$Setting;", Cond.fieldLink RX5 19 "NearFigures" "images" "[LNearFigures$Setting;", Cond.arrayClass .boolean, Cond.fieldLink RX5 23 "NearFigures" "imageKept" "[Z", Cond.classLink RX5 27 RX0, Cond.instantiable RX0 3, Cond.initialized RX0, Cond.fieldLink RX5 30 "NearFigures" "history" "LNearFigures$History;"]
def wsL_law_r2 : List Cond := [Cond.classLink RX5 34 RX3, Cond.instantiable RX3 6, Cond.initialized RX3, Cond.fieldLink RX5 37 "NearFigures" "planner" "LNearFigures$Planner;", Cond.fieldLink RX5 41 "NearFigures" "trialPlanner" "LNearFigures$Planner;", Cond.classLink RX5 44 RX2, Cond.instantiable RX2 3, Cond.initialized RX2, Cond.fieldLink RX5 47 "NearFigures" "best" "LNearFigures$Plan;", Cond.fieldLink RX5 51 "NearFigures" "greedy" "LNearFigures$Plan;", Cond.fieldLink RX5 54 "NearFigures" "made" "LNearFigures$Plan;", Cond.arrayClass .int, Cond.fieldLink RX5 57 "NearFigures" "handed" "[I", Cond.fieldLink RX5 61 "NearFigures" "handedPages" "I", Cond.fieldLink RX5 65 "NearFigures" "stale" "Z", Cond.instanceMethod yX4_init, Cond.code yX4_init cX4_init 1 none, Cond.methodLink RX4 3 objectInit, Cond.fieldLink RX4 9 "NearFigures$Setting" "bounds" "[I", Cond.classLink RX4 15 "[[I", Cond.fieldLink RX4 17 "NearFigures$Setting" "parts" "[[I", Cond.fieldLink RX4 20 "NearFigures$Setting" "figures" "I", Cond.methodLink RX5 29 yX0_init, Cond.instanceMethod yX0_init]
def wsL_law_r3 : List Cond := [Cond.code yX0_init cX0_init 2 none, Cond.methodLink RX0 3 objectInit, Cond.classLink RX0 9 RX4, Cond.fieldLink RX0 11 "NearFigures$History" "ring" "[LNearFigures$Setting;", Cond.fieldLink RX0 17 "NearFigures$History" "end" "I", Cond.fieldLink RX0 21 "NearFigures$History" "size" "I", Cond.instanceMethod yX3_init, Cond.code yX3_init cX3_init 1 none, Cond.methodLink RX3 5 objectInit, Cond.classLink RX3 11 RX1, Cond.instantiable RX1 9, Cond.initialized RX1, Cond.fieldLink RX3 14 "NearFigures$Planner" "measure" "LNearFigures$Measure;", Cond.fieldLink RX3 18 "NearFigures$Planner" "values" "[I", Cond.fieldLink RX3 22 "NearFigures$Planner" "tolls" "[I", Cond.fieldLink RX3 25 "NearFigures$Planner" "taken" "[I", Cond.arrayClass .long, Cond.fieldLink RX3 28 "NearFigures$Planner" "plans" "[J", Cond.instanceMethod yX1_init, Cond.code yX1_init cX1_init 1 none, Cond.methodLink RX1 3 objectInit, Cond.fieldLink RX1 9 "NearFigures$Measure" "due" "[I", Cond.fieldLink RX1 15 "NearFigures$Measure" "weights" "[I", Cond.fieldLink RX1 18 "NearFigures$Measure" "most" "[I"]
def wsL_law_r4 : List Cond := [Cond.fieldLink RX1 21 "NearFigures$Measure" "takenUpTo" "[I", Cond.instanceMethod yX2_init, Cond.code yX2_init cX2_init 1 none, Cond.methodLink RX2 3 objectInit, Cond.fieldLink RX2 9 "NearFigures$Plan" "lines" "[I", Cond.fieldLink RX2 15 "NearFigures$Plan" "figures" "[I", Cond.fieldLink RX2 18 "NearFigures$Plan" "pages" "I", Cond.methodLink RL 12 yX6_init, Cond.instanceMethod yX6_init, Cond.code yX6_init cX6_init 1 none, Cond.methodLink RX6 1 objectInit, Cond.fieldLink RX6 7 "NearFiguresModel" "now" "[I", Cond.fieldLink RX6 13 "NearFiguresModel" "was" "[I", Cond.fieldLink RX6 16 "NearFiguresModel" "back" "[I", Cond.fieldLink RX6 19 "NearFiguresModel" "image" "[I", Cond.fieldLink RX6 22 "NearFiguresModel" "isKept" "[Z", Cond.fieldLink RX6 26 "NearFiguresModel" "hand" "[I", Cond.fieldLink RX6 29 "NearFiguresModel" "cost" "[I", Cond.fieldLink RX6 32 "NearFiguresModel" "size" "[I", Cond.fieldLink RX6 35 "NearFiguresModel" "ways" "[J", Cond.fieldLink RX6 39 "NearFiguresModel" "place" "[Z", Cond.fieldLink RX6 42 "NearFiguresModel" "count" "[I", Cond.fieldLink RX6 45 "NearFiguresModel" "line" "[I", Cond.fieldLink RX6 48 "NearFiguresModel" "figure" "[I"]
def wsL_law_r5 : List Cond := [Cond.methodLink RL 13 yX5_layout, Cond.instanceMethod yX5_layout, Cond.selects RX5 yX5_layout yX5_layout, Cond.code yX5_layout cX5_layout 4 (some .int), Cond.constant RX5 73 (-1000000002), Cond.methodLink RX5 80 Lib.Math.min.name, Cond.static Lib.Math.min.name, Cond.initialized "java/lang/Math", Cond.code Lib.Math.min.name Lib.Math.min.code 2 (some .int), Cond.methodLink RX5 69 yX4_boundMayBe, Cond.instanceMethod yX4_boundMayBe, Cond.selects RX4 yX4_boundMayBe yX4_boundMayBe, Cond.code yX4_boundMayBe cX4_boundMayBe 3 (some .boolean), Cond.methodLink RX5 77 yX5_aheadOfChange, Cond.instanceMethod yX5_aheadOfChange, Cond.selects RX5 yX5_aheadOfChange yX5_aheadOfChange, Cond.code yX5_aheadOfChange cX5_aheadOfChange 1 none, Cond.methodLink RX5 212 yX0_remember, Cond.instanceMethod yX0_remember, Cond.selects RX0 yX0_remember yX0_remember, Cond.code yX0_remember cX0_remember 2 none, Cond.methodLink RX0 29 Lib.Math.min.name, Cond.methodLink RX0 25 yX4_becomes, Cond.instanceMethod yX4_becomes]
def wsL_law_r6 : List Cond := [Cond.selects RX4 yX4_becomes yX4_becomes, Cond.code yX4_becomes cX4_becomes 3 none, Cond.methodLink RX4 24 arraycopyName, Cond.native arraycopyName, Cond.static arraycopyName, Cond.initialized "java/lang/System", Cond.methodLink RL 17 yX6_layout, Cond.instanceMethod yX6_layout, Cond.selects RX6 yX6_layout yX6_layout, Cond.code yX6_layout cX6_layout 4 (some .int), Cond.constant RX6 156 (-1000000002), Cond.methodLink RX6 51 yX6_in, Cond.static yX6_in, Cond.code yX6_in cX6_in 3 (some .boolean), Cond.methodLink RX6 153 yX6_isBound, Cond.instanceMethod yX6_isBound, Cond.selects RX6 yX6_isBound yX6_isBound, Cond.code yX6_isBound cX6_isBound 3 (some .boolean), Cond.methodLink RX6 157 yX6_note, Cond.instanceMethod yX6_note, Cond.selects RX6 yX6_note yX6_note, Cond.code yX6_note cX6_note 1 none, Cond.fieldLink RX6 146 "NearFiguresModel" "backs" "I", Cond.methodLink RX6 149 yX6_bring]
def wsL_law_r7 : List Cond := [Cond.static yX6_bring, Cond.code yX6_bring cX6_bring 6 none, Cond.methodLink RL 18 yX5_figure, Cond.instanceMethod yX5_figure, Cond.selects RX5 yX5_figure yX5_figure, Cond.code yX5_figure cX5_figure 6 (some .int), Cond.constant RX5 92 (-1000000004), Cond.methodLink RX5 89 yX5_partMayBe, Cond.static yX5_partMayBe, Cond.code yX5_partMayBe cX5_partMayBe 2 (some .boolean), Cond.fieldLink RX5 206 "NearFigures" "LEAST_PART" "[I", Cond.fieldLink RX5 209 "NearFigures" "GREATEST_PART" "[I", Cond.methodLink RX5 93 yX4_openAt, Cond.instanceMethod yX4_openAt, Cond.selects RX4 yX4_openAt yX4_openAt, Cond.code yX4_openAt cX4_openAt 3 none, Cond.methodLink RX5 97 yX4_describe, Cond.instanceMethod yX4_describe, Cond.selects RX4 yX4_describe yX4_describe, Cond.code yX4_describe cX4_describe 6 none, Cond.methodLink RL 22 yX6_figure, Cond.instanceMethod yX6_figure, Cond.selects RX6 yX6_figure yX6_figure, Cond.code yX6_figure cX6_figure 6 (some .int)]
def wsL_law_r8 : List Cond := [Cond.constant RX6 160 (-1000000004), Cond.methodLink RX6 161 yX6_insert, Cond.instanceMethod yX6_insert, Cond.selects RX6 yX6_insert yX6_insert, Cond.code yX6_insert cX6_insert 7 none, Cond.methodLink RL 23 yX5_drop, Cond.instanceMethod yX5_drop, Cond.selects RX5 yX5_drop yX5_drop, Cond.code yX5_drop cX5_drop 2 (some .int), Cond.constant RX5 105 (-1000000001), Cond.methodLink RX5 101 yX4_has, Cond.instanceMethod yX4_has, Cond.selects RX4 yX4_has yX4_has, Cond.code yX4_has cX4_has 2 (some .boolean), Cond.methodLink RX5 106 yX4_closeAt, Cond.instanceMethod yX4_closeAt, Cond.selects RX4 yX4_closeAt yX4_closeAt, Cond.code yX4_closeAt cX4_closeAt 3 none, Cond.methodLink RL 27 yX6_drop, Cond.instanceMethod yX6_drop, Cond.selects RX6 yX6_drop yX6_drop, Cond.code yX6_drop cX6_drop 2 (some .int), Cond.constant RX6 168 (-1000000001), Cond.methodLink RX6 165 yX6_isFigure]
def wsL_law_r9 : List Cond := [Cond.instanceMethod yX6_isFigure, Cond.selects RX6 yX6_isFigure yX6_isFigure, Cond.code yX6_isFigure cX6_isFigure 2 (some .boolean), Cond.methodLink RX6 169 yX6_remove, Cond.instanceMethod yX6_remove, Cond.selects RX6 yX6_remove yX6_remove, Cond.code yX6_remove cX6_remove 3 none, Cond.methodLink RL 28 yX5_mention, Cond.instanceMethod yX5_mention, Cond.selects RX5 yX5_mention yX5_mention, Cond.code yX5_mention cX5_mention 4 (some .int), Cond.methodLink RL 31 yX6_mention, Cond.instanceMethod yX6_mention, Cond.selects RX6 yX6_mention yX6_mention, Cond.code yX6_mention cX6_mention 4 (some .int), Cond.methodLink RL 32 yX5_drift, Cond.instanceMethod yX5_drift, Cond.selects RX5 yX5_drift yX5_drift, Cond.code yX5_drift cX5_drift 3 (some .int), Cond.constant RX5 113 (999999), Cond.methodLink RX5 114 yX4_drawLots, Cond.instanceMethod yX4_drawLots, Cond.selects RX4 yX4_drawLots yX4_drawLots, Cond.code yX4_drawLots cX4_drawLots 7 none]
def wsL_law_r10 : List Cond := [Cond.methodLink RX4 36 Lib.Math.max.name, Cond.static Lib.Math.max.name, Cond.code Lib.Math.max.name Lib.Math.max.code 2 (some .int), Cond.methodLink RX4 42 yX4_nextLot, Cond.static yX4_nextLot, Cond.code yX4_nextLot cX4_nextLot 1 (some .int), Cond.constantLong RX4 46 (16807), Cond.constantLong RX4 48 (2147483647), Cond.methodLink RX5 118 yX5_settle, Cond.instanceMethod yX5_settle, Cond.selects RX5 yX5_settle yX5_settle, Cond.code yX5_settle cX5_settle 1 none, Cond.methodLink RX5 215 yX3_solve, Cond.instanceMethod yX3_solve, Cond.selects RX3 yX3_solve yX3_solve, Cond.code yX3_solve cX3_solve 2 none, Cond.fieldLink RX3 42 "NearFigures$Planner" "places" "I", Cond.methodLink RX3 32 yX1_take, Cond.instanceMethod yX1_take, Cond.selects RX1 yX1_take yX1_take, Cond.code yX1_take cX1_take 4 none, Cond.fieldLink RX1 29 "NearFigures$Measure" "lines" "I", Cond.fieldLink RX1 36 "NearFigures$Measure" "figures" "I", Cond.fieldLink RX1 37 "NearFigures$Measure" "room" "I"]
def wsL_law_r11 : List Cond := [Cond.fieldLink RX1 40 "NearFigures$Measure" "early" "Z", Cond.fieldLink RX1 44 "NearFigures$Measure" "clash" "I", Cond.methodLink RX1 51 Lib.Math.min.name, Cond.methodLink RX1 57 yX1_mostFrom, Cond.static yX1_mostFrom, Cond.code yX1_mostFrom cX1_mostFrom 4 (some .int), Cond.methodLink RX1 61 yX4_standTogether, Cond.instanceMethod yX4_standTogether, Cond.selects RX4 yX4_standTogether yX4_standTogether, Cond.code yX4_standTogether cX4_standTogether 8 (some .boolean), Cond.methodLink RX4 50 yX4_heightsChosen, Cond.instanceMethod yX4_heightsChosen, Cond.selects RX4 yX4_heightsChosen yX4_heightsChosen, Cond.code yX4_heightsChosen cX4_heightsChosen 6 (some .int), Cond.methodLink RX3 36 yJ7_fill_53178, Cond.static yJ7_fill_53178, Cond.initialized RJ7, Cond.code yJ7_fill_53178 cJ7_fill_53178 4 none, Cond.methodLink RX3 49 yX3_reachPlaces, Cond.instanceMethod yX3_reachPlaces, Cond.selects RX3 yX3_reachPlaces yX3_reachPlaces, Cond.code yX3_reachPlaces cX3_reachPlaces 4 none, Cond.methodLink RX3 61 yX1_toll, Cond.instanceMethod yX1_toll]
def wsL_law_r12 : List Cond := [Cond.selects RX1 yX1_toll yX1_toll, Cond.code yX1_toll cX1_toll 5 (some .int), Cond.methodLink RX3 65 yX3_reachFrom, Cond.instanceMethod yX3_reachFrom, Cond.selects RX3 yX3_reachFrom yX3_reachFrom, Cond.code yX3_reachFrom cX3_reachFrom 4 none, Cond.methodLink RX3 72 yX1_mayTake, Cond.instanceMethod yX1_mayTake, Cond.selects RX1 yX1_mayTake yX1_mayTake, Cond.code yX1_mayTake cX1_mayTake 5 (some .boolean), Cond.methodLink RX1 65 yX1_linesBehind, Cond.instanceMethod yX1_linesBehind, Cond.selects RX1 yX1_linesBehind yX1_linesBehind, Cond.code yX1_linesBehind cX1_linesBehind 5 (some .int), Cond.methodLink RX1 69 yX1_areMentioned, Cond.instanceMethod yX1_areMentioned, Cond.selects RX1 yX1_areMentioned yX1_areMentioned, Cond.code yX1_areMentioned cX1_areMentioned 5 (some .boolean), Cond.methodLink RX3 76 yX3_placeBehind, Cond.instanceMethod yX3_placeBehind, Cond.selects RX3 yX3_placeBehind yX3_placeBehind, Cond.code yX3_placeBehind cX3_placeBehind 4 (some .int), Cond.methodLink RX3 80 yX1_linesBehind, Cond.methodLink RX3 52 yX3_valuePlaces]
def wsL_law_r13 : List Cond := [Cond.instanceMethod yX3_valuePlaces, Cond.selects RX3 yX3_valuePlaces yX3_valuePlaces, Cond.code yX3_valuePlaces cX3_valuePlaces 3 none, Cond.methodLink RX3 83 yX3_valuePlace, Cond.instanceMethod yX3_valuePlace, Cond.selects RX3 yX3_valuePlace yX3_valuePlace, Cond.code yX3_valuePlace cX3_valuePlace 11 none, Cond.constant RX3 92 (2147483647), Cond.methodLink RX3 86 yX1_isEnd, Cond.instanceMethod yX1_isEnd, Cond.selects RX1 yX1_isEnd yX1_isEnd, Cond.code yX1_isEnd cX1_isEnd 3 (some .boolean), Cond.methodLink RX5 218 yX2_follow, Cond.instanceMethod yX2_follow, Cond.selects RX2 yX2_follow yX2_follow, Cond.code yX2_follow cX2_follow 3 none, Cond.methodLink RX2 41 yX2_mayGoOn, Cond.instanceMethod yX2_mayGoOn, Cond.selects RX2 yX2_mayGoOn yX2_mayGoOn, Cond.code yX2_mayGoOn cX2_mayGoOn 2 (some .boolean), Cond.methodLink RX2 28 yX1_isEnd, Cond.methodLink RX2 45 yX3_takenFrom, Cond.instanceMethod yX3_takenFrom, Cond.selects RX3 yX3_takenFrom yX3_takenFrom]
def wsL_law_r14 : List Cond := [Cond.code yX3_takenFrom cX3_takenFrom 3 (some .int), Cond.methodLink RX3 93 yX3_isPlace, Cond.instanceMethod yX3_isPlace, Cond.selects RX3 yX3_isPlace yX3_isPlace, Cond.code yX3_isPlace cX3_isPlace 3 (some .boolean), Cond.methodLink RX2 49 yX2_addPage, Cond.instanceMethod yX2_addPage, Cond.selects RX2 yX2_addPage yX2_addPage, Cond.code yX2_addPage cX2_addPage 5 none, Cond.methodLink RX2 22 yX1_linesBehind, Cond.methodLink RX5 222 yX2_takeMost, Cond.instanceMethod yX2_takeMost, Cond.selects RX2 yX2_takeMost yX2_takeMost, Cond.code yX2_takeMost cX2_takeMost 5 none, Cond.methodLink RX2 56 yX1_areMentioned, Cond.methodLink RX5 121 yX3_costFrom, Cond.instanceMethod yX3_costFrom, Cond.selects RX3 yX3_costFrom yX3_costFrom, Cond.code yX3_costFrom cX3_costFrom 3 (some .int), Cond.methodLink RL 35 yX6_drift, Cond.instanceMethod yX6_drift, Cond.selects RX6 yX6_drift yX6_drift, Cond.code yX6_drift cX6_drift 9 (some .int), Cond.constant RX6 173 (999999)]
def wsL_law_r15 : List Cond := [Cond.constantLong RX6 174 (16807), Cond.constantLong RX6 176 (2147483647), Cond.constantLong RX6 178 (2), Cond.constantLong RX6 180 (9), Cond.methodLink RX6 116 yX6_bestOf, Cond.instanceMethod yX6_bestOf, Cond.selects RX6 yX6_bestOf yX6_bestOf, Cond.code yX6_bestOf cX6_bestOf 1 (some .int), Cond.constant RX6 98 (100000000), Cond.methodLink RX6 109 yX6_lay, Cond.instanceMethod yX6_lay, Cond.selects RX6 yX6_lay yX6_lay, Cond.code yX6_lay cX6_lay 3 none, Cond.methodLink RX6 105 yX6_layPlace, Cond.instanceMethod yX6_layPlace, Cond.selects RX6 yX6_layPlace yX6_layPlace, Cond.code yX6_layPlace cX6_layPlace 11 none, Cond.methodLink RX6 99 yX6_isPage, Cond.instanceMethod yX6_isPage, Cond.selects RX6 yX6_isPage yX6_isPage, Cond.code yX6_isPage cX6_isPage 5 (some .boolean), Cond.methodLink RX6 74 yX6_isFit, Cond.instanceMethod yX6_isFit, Cond.selects RX6 yX6_isFit yX6_isFit]
def wsL_law_r16 : List Cond := [Cond.code yX6_isFit cX6_isFit 7 (some .boolean), Cond.methodLink RX6 63 yX6_column, Cond.instanceMethod yX6_column, Cond.selects RX6 yX6_column yX6_column, Cond.code yX6_column cX6_column 8 (some .int), Cond.methodLink RX6 55 yX6_isWide, Cond.instanceMethod yX6_isWide, Cond.selects RX6 yX6_isWide yX6_isWide, Cond.code yX6_isWide cX6_isWide 2 (some .boolean), Cond.methodLink RX6 59 yX6_high, Cond.instanceMethod yX6_high, Cond.selects RX6 yX6_high yX6_high, Cond.code yX6_high cX6_high 2 (some .int), Cond.methodLink RX6 91 yX6_linesBehind, Cond.instanceMethod yX6_linesBehind, Cond.selects RX6 yX6_linesBehind yX6_linesBehind, Cond.code yX6_linesBehind cX6_linesBehind 5 (some .int), Cond.methodLink RX6 67 yX6_taken, Cond.instanceMethod yX6_taken, Cond.selects RX6 yX6_taken yX6_taken, Cond.code yX6_taken cX6_taken 5 (some .int), Cond.methodLink RX6 95 yX6_areMentioned, Cond.instanceMethod yX6_areMentioned, Cond.selects RX6 yX6_areMentioned yX6_areMentioned]
def wsL_law_r17 : List Cond := [Cond.code yX6_areMentioned cX6_areMentioned 6 (some .boolean), Cond.methodLink RX6 71 yX6_mentionLine, Cond.instanceMethod yX6_mentionLine, Cond.selects RX6 yX6_mentionLine yX6_mentionLine, Cond.code yX6_mentionLine cX6_mentionLine 3 (some .int), Cond.methodLink RX6 102 yX6_paid, Cond.instanceMethod yX6_paid, Cond.selects RX6 yX6_paid yX6_paid, Cond.code yX6_paid cX6_paid 3 (some .int), Cond.methodLink RX6 84 yX6_between, Cond.instanceMethod yX6_between, Cond.selects RX6 yX6_between yX6_between, Cond.code yX6_between cX6_between 7 (some .int), Cond.methodLink RX6 78 yX6_isMentioned, Cond.instanceMethod yX6_isMentioned, Cond.selects RX6 yX6_isMentioned yX6_isMentioned, Cond.code yX6_isMentioned cX6_isMentioned 3 (some .boolean), Cond.methodLink RX6 88 yX6_weightOf, Cond.instanceMethod yX6_weightOf, Cond.selects RX6 yX6_weightOf yX6_weightOf, Cond.code yX6_weightOf cX6_weightOf 4 (some .int), Cond.methodLink RX6 81 yX6_weight, Cond.instanceMethod yX6_weight, Cond.selects RX6 yX6_weight yX6_weight]
def wsL_law_r18 : List Cond := [Cond.code yX6_weight cX6_weight 2 (some .int), Cond.methodLink RL 36 yX5_undo, Cond.instanceMethod yX5_undo, Cond.selects RX5 yX5_undo yX5_undo, Cond.code yX5_undo cX5_undo 1 (some .int), Cond.constant RX5 127 (-1000000003), Cond.methodLink RX5 128 yX0_bringBack, Cond.instanceMethod yX0_bringBack, Cond.selects RX0 yX0_bringBack yX0_bringBack, Cond.code yX0_bringBack cX0_bringBack 2 none, Cond.methodLink RL 40 yX6_undo, Cond.instanceMethod yX6_undo, Cond.selects RX6 yX6_undo yX6_undo, Cond.code yX6_undo cX6_undo 1 (some .int), Cond.constant RX6 182 (-1000000003), Cond.methodLink RL 41 yX5_told, Cond.instanceMethod yX5_told, Cond.selects RX5 yX5_told yX5_told, Cond.code yX5_told cX5_told 2 (some .int), Cond.methodLink RX5 144 yX2_cost, Cond.instanceMethod yX2_cost, Cond.selects RX2 yX2_cost yX2_cost, Cond.code yX2_cost cX2_cost 4 (some .int), Cond.methodLink RX2 87 yX2_costOfFigure]
def wsL_law_r19 : List Cond := [Cond.instanceMethod yX2_costOfFigure, Cond.selects RX2 yX2_costOfFigure yX2_costOfFigure, Cond.code yX2_costOfFigure cX2_costOfFigure 3 (some .int), Cond.methodLink RX2 80 Lib.Math.abs.name, Cond.static Lib.Math.abs.name, Cond.code Lib.Math.abs.name Lib.Math.abs.code 1 (some .int), Cond.methodLink RX2 70 yX2_pageOfFigure, Cond.instanceMethod yX2_pageOfFigure, Cond.selects RX2 yX2_pageOfFigure yX2_pageOfFigure, Cond.code yX2_pageOfFigure cX2_pageOfFigure 2 (some .int), Cond.methodLink RX2 63 yX2_firstAbove, Cond.instanceMethod yX2_firstAbove, Cond.selects RX2 yX2_firstAbove yX2_firstAbove, Cond.code yX2_firstAbove cX2_firstAbove 4 (some .int), Cond.methodLink RX2 77 yX2_pageWithLine, Cond.instanceMethod yX2_pageWithLine, Cond.selects RX2 yX2_pageWithLine yX2_pageWithLine, Cond.code yX2_pageWithLine cX2_pageWithLine 2 (some .int), Cond.methodLink RX5 151 yX2_heavy, Cond.instanceMethod yX2_heavy, Cond.selects RX2 yX2_heavy yX2_heavy, Cond.code yX2_heavy cX2_heavy 6 (some .int), Cond.methodLink RL 44 yX6_told, Cond.instanceMethod yX6_told]
def wsL_law_r20 : List Cond := [Cond.selects RX6 yX6_told yX6_told, Cond.code yX6_told cX6_told 2 (some .int), Cond.fieldLink RX6 112 "NearFiguresModel" "planned" "I", Cond.fieldLink RX6 195 "NearFiguresModel" "pages" "I", Cond.methodLink RX6 127 yX6_clashing, Cond.instanceMethod yX6_clashing, Cond.selects RX6 yX6_clashing yX6_clashing, Cond.code yX6_clashing cX6_clashing 2 (some .int), Cond.methodLink RX6 183 yX6_isGreedy, Cond.instanceMethod yX6_isGreedy, Cond.selects RX6 yX6_isGreedy yX6_isGreedy, Cond.code yX6_isGreedy cX6_isGreedy 4 (some .boolean), Cond.methodLink RX6 123 yX6_addPage, Cond.instanceMethod yX6_addPage, Cond.selects RX6 yX6_addPage yX6_addPage, Cond.code yX6_addPage cX6_addPage 4 none, Cond.methodLink RX6 186 yX6_paidOfAll, Cond.instanceMethod yX6_paidOfAll, Cond.selects RX6 yX6_paidOfAll yX6_paidOfAll, Cond.code yX6_paidOfAll cX6_paidOfAll 3 (some .int), Cond.methodLink RX6 189 yX6_layPlaces, Cond.instanceMethod yX6_layPlaces, Cond.selects RX6 yX6_layPlaces yX6_layPlaces, Cond.code yX6_layPlaces cX6_layPlaces 6 (some .int)]
def wsL_law_r21 : List Cond := [Cond.methodLink RX6 192 yX6_heaviest, Cond.instanceMethod yX6_heaviest, Cond.selects RX6 yX6_heaviest yX6_heaviest, Cond.code yX6_heaviest cX6_heaviest 4 (some .int), Cond.methodLink RX6 139 yX6_isPlanned, Cond.instanceMethod yX6_isPlanned, Cond.selects RX6 yX6_isPlanned yX6_isPlanned, Cond.code yX6_isPlanned cX6_isPlanned 4 (some .boolean), Cond.methodLink RX6 120 yX6_isBestPage, Cond.instanceMethod yX6_isBestPage, Cond.selects RX6 yX6_isBestPage yX6_isBestPage, Cond.code yX6_isBestPage cX6_isBestPage 7 (some .boolean), Cond.methodLink RX6 143 yX6_costOf, Cond.instanceMethod yX6_costOf, Cond.selects RX6 yX6_costOf yX6_costOf, Cond.code yX6_costOf cX6_costOf 3 (some .int), Cond.methodLink RX6 133 yX6_pageOfFigure, Cond.instanceMethod yX6_pageOfFigure, Cond.selects RX6 yX6_pageOfFigure yX6_pageOfFigure, Cond.code yX6_pageOfFigure cX6_pageOfFigure 3 (some .int), Cond.methodLink RX6 136 yX6_pageOfMention, Cond.instanceMethod yX6_pageOfMention, Cond.selects RX6 yX6_pageOfMention yX6_pageOfMention, Cond.code yX6_pageOfMention cX6_pageOfMention 2 (some .int)]
def wsL_law_r22 : List Cond := [Cond.methodLink RX6 130 yX6_pageOfLine, Cond.instanceMethod yX6_pageOfLine, Cond.selects RX6 yX6_pageOfLine yX6_pageOfLine, Cond.code yX6_pageOfLine cX6_pageOfLine 3 (some .int), Cond.methodLink RL 45 yX5_figureOf, Cond.instanceMethod yX5_figureOf, Cond.selects RX5 yX5_figureOf yX5_figureOf, Cond.code yX5_figureOf cX5_figureOf 3 (some .int), Cond.methodLink RX5 154 yX2_pageOfFigure, Cond.methodLink RX5 161 yX2_pageWithLine, Cond.methodLink RX5 164 yX2_costOfFigure, Cond.methodLink RL 48 yX6_figureOf, Cond.instanceMethod yX6_figureOf, Cond.selects RX6 yX6_figureOf yX6_figureOf, Cond.code yX6_figureOf cX6_figureOf 4 (some .int), Cond.methodLink RL 49 yX5_page, Cond.instanceMethod yX5_page, Cond.selects RX5 yX5_page yX5_page, Cond.code yX5_page cX5_page 6 (some .int), Cond.methodLink RX5 179 yX1_waiting, Cond.instanceMethod yX1_waiting, Cond.selects RX1 yX1_waiting yX1_waiting, Cond.code yX1_waiting cX1_waiting 5 (some .int), Cond.methodLink RX5 182 yX1_unmentioned]
def wsL_law_r23 : List Cond := [Cond.instanceMethod yX1_unmentioned, Cond.selects RX1 yX1_unmentioned yX1_unmentioned, Cond.code yX1_unmentioned cX1_unmentioned 5 (some .int), Cond.methodLink RL 52 yX6_page, Cond.instanceMethod yX6_page, Cond.selects RX6 yX6_page yX6_page, Cond.code yX6_page cX6_page 6 (some .int), Cond.methodLink RL 53 yX5_pageOf, Cond.instanceMethod yX5_pageOf, Cond.selects RX5 yX5_pageOf yX5_pageOf, Cond.code yX5_pageOf cX5_pageOf 2 (some .int), Cond.methodLink RL 56 yX6_pageOf, Cond.instanceMethod yX6_pageOf, Cond.selects RX6 yX6_pageOf yX6_pageOf, Cond.code yX6_pageOf cX6_pageOf 2 (some .int), Cond.methodLink RL 57 yX5_fits, Cond.instanceMethod yX5_fits, Cond.selects RX5 yX5_fits yX5_fits, Cond.code yX5_fits cX5_fits 3 (some .int), Cond.methodLink RX5 185 yX4_standTogether, Cond.methodLink RL 60 yX6_fits, Cond.instanceMethod yX6_fits, Cond.selects RX6 yX6_fits yX6_fits, Cond.code yX6_fits cX6_fits 3 (some .int)]
def wsL_law_r24 : List Cond := [Cond.methodLink RL 61 yX5_ways, Cond.instanceMethod yX5_ways, Cond.selects RX5 yX5_ways yX5_ways, Cond.code yX5_ways cX5_ways 1 (some .long), Cond.methodLink RX5 188 yX3_waysOfBest, Cond.instanceMethod yX3_waysOfBest, Cond.selects RX3 yX3_waysOfBest yX3_waysOfBest, Cond.code yX3_waysOfBest cX3_waysOfBest 1 (some .long), Cond.methodLink RL 65 yX6_ways, Cond.instanceMethod yX6_ways, Cond.selects RX6 yX6_ways yX6_ways, Cond.code yX6_ways cX6_ways 1 (some .long), Cond.methodLink RL 66 yX5_without, Cond.instanceMethod yX5_without, Cond.selects RX5 yX5_without yX5_without, Cond.code yX5_without cX5_without 2 (some .int), Cond.methodLink RX5 192 yX4_becomes, Cond.methodLink RX5 195 yX5_costOfTrial, Cond.instanceMethod yX5_costOfTrial, Cond.selects RX5 yX5_costOfTrial yX5_costOfTrial, Cond.code yX5_costOfTrial cX5_costOfTrial 1 (some .int), Cond.methodLink RL 69 yX6_without, Cond.instanceMethod yX6_without, Cond.selects RX6 yX6_without yX6_without]
def wsL_law_r25 : List Cond := [Cond.code yX6_without cX6_without 3 (some .int), Cond.methodLink RL 70 yX5_moved, Cond.instanceMethod yX5_moved, Cond.selects RX5 yX5_moved yX5_moved, Cond.code yX5_moved cX5_moved 3 (some .int), Cond.methodLink RL 73 yX6_moved, Cond.instanceMethod yX6_moved, Cond.selects RX6 yX6_moved yX6_moved, Cond.code yX6_moved cX6_moved 5 (some .int), Cond.methodLink RL 74 yX5_from, Cond.instanceMethod yX5_from, Cond.selects RX5 yX5_from yX5_from, Cond.code yX5_from cX5_from 4 (some .int), Cond.methodLink RX5 199 yX3_pagesFrom, Cond.instanceMethod yX3_pagesFrom, Cond.selects RX3 yX3_pagesFrom yX3_pagesFrom, Cond.code yX3_pagesFrom cX3_pagesFrom 3 (some .int), Cond.methodLink RL 78 yX6_from, Cond.instanceMethod yX6_from, Cond.selects RX6 yX6_from yX6_from, Cond.code yX6_from cX6_from 4 (some .int), Cond.methodLink RL 79 yX5_hand, Cond.instanceMethod yX5_hand, Cond.selects RX5 yX5_hand yX5_hand]
def wsL_law_r26 : List Cond := [Cond.code yX5_hand cX5_hand 2 (some .int), Cond.methodLink RL 82 yX6_hand, Cond.instanceMethod yX6_hand, Cond.selects RX6 yX6_hand yX6_hand, Cond.code yX6_hand cX6_hand 2 (some .int), Cond.methodLink RL 83 yX5_clear, Cond.instanceMethod yX5_clear, Cond.selects RX5 yX5_clear yX5_clear, Cond.code yX5_clear cX5_clear 2 (some .int), Cond.methodLink RL 86 yX6_clear, Cond.instanceMethod yX6_clear, Cond.selects RX6 yX6_clear yX6_clear, Cond.code yX6_clear cX6_clear 2 (some .int), Cond.methodLink RL 87 yX5_judge, Cond.instanceMethod yX5_judge, Cond.selects RX5 yX5_judge yX5_judge, Cond.code yX5_judge cX5_judge 3 (some .int), Cond.methodLink RX5 202 yX2_takeHanded, Cond.instanceMethod yX2_takeHanded, Cond.selects RX2 yX2_takeHanded yX2_takeHanded, Cond.code yX2_takeHanded cX2_takeHanded 5 (some .int), Cond.methodLink RX2 60 yX1_mayTake, Cond.methodLink RL 90 yX6_judge, Cond.instanceMethod yX6_judge]
def wsL_law_r27 : List Cond := [Cond.selects RX6 yX6_judge yX6_judge, Cond.code yX6_judge cX6_judge 6 (some .int), Cond.methodLink RL 91 yX5_keep, Cond.instanceMethod yX5_keep, Cond.selects RX5 yX5_keep yX5_keep, Cond.code yX5_keep cX5_keep 2 (some .int), Cond.methodLink RL 94 yX6_keep, Cond.instanceMethod yX6_keep, Cond.selects RX6 yX6_keep yX6_keep, Cond.code yX6_keep cX6_keep 2 (some .int), Cond.methodLink RL 95 yX5_goBack, Cond.instanceMethod yX5_goBack, Cond.selects RX5 yX5_goBack yX5_goBack, Cond.code yX5_goBack cX5_goBack 2 (some .int), Cond.methodLink RL 98 yX6_goBack, Cond.instanceMethod yX6_goBack, Cond.selects RX6 yX6_goBack yX6_goBack, Cond.code yX6_goBack cX6_goBack 2 (some .int)]
def wsL_law : List Cond := (wsL_law_r1 ++ (wsL_law_r2 ++ (wsL_law_r3 ++ (wsL_law_r4 ++ (wsL_law_r5 ++ (wsL_law_r6 ++ (wsL_law_r7 ++ (wsL_law_r8 ++ (wsL_law_r9 ++ (wsL_law_r10 ++ (wsL_law_r11 ++ (wsL_law_r12 ++ (wsL_law_r13 ++ (wsL_law_r14 ++ (wsL_law_r15 ++ (wsL_law_r16 ++ (wsL_law_r17 ++ (wsL_law_r18 ++ (wsL_law_r19 ++ (wsL_law_r20 ++ (wsL_law_r21 ++ (wsL_law_r22 ++ (wsL_law_r23 ++ (wsL_law_r24 ++ (wsL_law_r25 ++ (wsL_law_r26 ++ wsL_law_r27)))))))))))))))))))))))))) ++ wsX50 ++ wsX60 ++ wsX40 ++ wsX00 ++ wsX30 ++ wsX20 ++ wsX10 ++ ([] : List Cond)
theorem inlX0 : ∀ w ∈ wsX00, w ∈ wsL_law := fun _ h => List.mem_append_left _ (List.mem_append_left _ (List.mem_append_left _ (List.mem_append_left _ (List.mem_append_right _ h))))
theorem inlX1 : ∀ w ∈ wsX10, w ∈ wsL_law := fun _ h => List.mem_append_left _ (List.mem_append_right _ h)
theorem inlX2 : ∀ w ∈ wsX20, w ∈ wsL_law := fun _ h => List.mem_append_left _ (List.mem_append_left _ (List.mem_append_right _ h))
theorem inlX3 : ∀ w ∈ wsX30, w ∈ wsL_law := fun _ h => List.mem_append_left _ (List.mem_append_left _ (List.mem_append_left _ (List.mem_append_right _ h)))
theorem inlX4 : ∀ w ∈ wsX40, w ∈ wsL_law := fun _ h => List.mem_append_left _ (List.mem_append_left _ (List.mem_append_left _ (List.mem_append_left _ (List.mem_append_left _ (List.mem_append_right _ h)))))
theorem inlX5 : ∀ w ∈ wsX50, w ∈ wsL_law := fun _ h => List.mem_append_left _ (List.mem_append_left _ (List.mem_append_left _ (List.mem_append_left _ (List.mem_append_left _ (List.mem_append_left _ (List.mem_append_left _ (List.mem_append_right _ h)))))))
theorem inlX6 : ∀ w ∈ wsX60, w ∈ wsL_law := fun _ h => List.mem_append_left _ (List.mem_append_left _ (List.mem_append_left _ (List.mem_append_left _ (List.mem_append_left _ (List.mem_append_left _ (List.mem_append_right _ h))))))
abbrev vwCl : List vw_C := [(RX0, TX0, 3), (RX1, TX1, 9), (RX2, TX2, 3), (RX3, TX3, 6), (RX4, TX4, 3), (RX5, TX5, 13), (RX6, TX6, 16)]
end
section
theorem goodIn_ap {big a b : List Cond} (ha : GoodIn big a) (hb : GoodIn big b) : GoodIn big (a ++ b) := fun w h => (List.mem_append.mp h).elim (ha w) (hb w)
set_option maxRecDepth 20000 in
theorem wq_r1 : GoodIn lw_tbl wsL_law_r1 := goodIn_p wsL_law_r1 [62, 65] rfl (by decide +kernel)
set_option maxRecDepth 20000 in
theorem wq_r2 : GoodIn lw_tbl wsL_law_r2 := goodIn_p wsL_law_r2 [70] rfl (by decide +kernel)
set_option maxRecDepth 20000 in
theorem wq_r3 : GoodIn lw_tbl wsL_law_r3 := goodIn_p wsL_law_r3 [96, 116, 122] rfl (by decide +kernel)
set_option maxRecDepth 20000 in
theorem wq_r4 : GoodIn lw_tbl wsL_law_r4 := goodIn_p wsL_law_r4 [192, 559] rfl (by decide +kernel)
set_option maxRecDepth 20000 in
theorem wq_r5 : GoodIn lw_tbl wsL_law_r5 := goodIn_p wsL_law_r5 [250, 277, 254, 263, 267] rfl (by decide +kernel)
set_option maxRecDepth 20000 in
theorem wq_r6 : GoodIn lw_tbl wsL_law_r6 := goodIn_p wsL_law_r6 [271, 613, 616, 620, 625] rfl (by decide +kernel)
set_option maxRecDepth 20000 in
theorem wq_r7 : GoodIn lw_tbl wsL_law_r7 := goodIn_p wsL_law_r7 [628, 282, 285, 294, 298, 632] rfl (by decide +kernel)
set_option maxRecDepth 20000 in
theorem wq_r8 : GoodIn lw_tbl wsL_law_r8 := goodIn_p wsL_law_r8 [637, 302, 306, 311, 641] rfl (by decide +kernel)
set_option maxRecDepth 20000 in
theorem wq_r9 : GoodIn lw_tbl wsL_law_r9 := goodIn_p wsL_law_r9 [645, 650, 315, 654, 319, 324] rfl (by decide +kernel)
set_option maxRecDepth 20000 in
theorem wq_r10 : GoodIn lw_tbl wsL_law_r10 := goodIn_p wsL_law_r10 [327, 330, 336, 340, 344] rfl (by decide +kernel)
set_option maxRecDepth 20000 in
theorem wq_r11 : GoodIn lw_tbl wsL_law_r11 := goodIn_p wsL_law_r11 [348, 352, 356, 359, 363] rfl (by decide +kernel)
set_option maxRecDepth 20000 in
theorem wq_r12 : GoodIn lw_tbl wsL_law_r12 := goodIn_p wsL_law_r12 [367, 371, 375, 379, 383, 387] rfl (by decide +kernel)
set_option maxRecDepth 20000 in
theorem wq_r13 : GoodIn lw_tbl wsL_law_r13 := goodIn_p wsL_law_r13 [392, 396, 400, 405, 409] rfl (by decide +kernel)
set_option maxRecDepth 20000 in
theorem wq_r14 : GoodIn lw_tbl wsL_law_r14 := goodIn_p wsL_law_r14 [414, 418, 422, 427, 432, 658] rfl (by decide +kernel)
set_option maxRecDepth 20000 in
theorem wq_r15 : GoodIn lw_tbl wsL_law_r15 := goodIn_p wsL_law_r15 [667, 671, 675, 680] rfl (by decide +kernel)
set_option maxRecDepth 20000 in
theorem wq_r16 : GoodIn lw_tbl wsL_law_r16 := goodIn_p wsL_law_r16 [684, 688, 692, 696, 700, 704] rfl (by decide +kernel)
set_option maxRecDepth 20000 in
theorem wq_r17 : GoodIn lw_tbl wsL_law_r17 := goodIn_p wsL_law_r17 [708, 712, 716, 720, 724, 728] rfl (by decide +kernel)
set_option maxRecDepth 20000 in
theorem wq_r18 : GoodIn lw_tbl wsL_law_r18 := goodIn_p wsL_law_r18 [732, 436, 441, 736, 445, 449] rfl (by decide +kernel)
set_option maxRecDepth 20000 in
theorem wq_r19 : GoodIn lw_tbl wsL_law_r19 := goodIn_p wsL_law_r19 [453, 468, 457, 461, 465, 472] rfl (by decide +kernel)
set_option maxRecDepth 20000 in
theorem wq_r20 : GoodIn lw_tbl wsL_law_r20 := goodIn_p wsL_law_r20 [741, 745, 749, 753, 757, 761] rfl (by decide +kernel)
set_option maxRecDepth 20000 in
theorem wq_r21 : GoodIn lw_tbl wsL_law_r21 := goodIn_p wsL_law_r21 [765, 769, 773, 777, 781, 785] rfl (by decide +kernel)
set_option maxRecDepth 20000 in
theorem wq_r22 : GoodIn lw_tbl wsL_law_r22 := goodIn_p wsL_law_r22 [789, 476, 793, 483, 487] rfl (by decide +kernel)
set_option maxRecDepth 20000 in
theorem wq_r23 : GoodIn lw_tbl wsL_law_r23 := goodIn_p wsL_law_r23 [491, 797, 495, 801, 499, 805] rfl (by decide +kernel)
set_option maxRecDepth 20000 in
theorem wq_r24 : GoodIn lw_tbl wsL_law_r24 := goodIn_p wsL_law_r24 [504, 508, 809, 512, 517] rfl (by decide +kernel)
set_option maxRecDepth 20000 in
theorem wq_r25 : GoodIn lw_tbl wsL_law_r25 := goodIn_p wsL_law_r25 [813, 521, 817, 525, 529, 821] rfl (by decide +kernel)
set_option maxRecDepth 20000 in
theorem wq_r26 : GoodIn lw_tbl wsL_law_r26 := goodIn_p wsL_law_r26 [533, 825, 537, 829, 541, 545] rfl (by decide +kernel)
set_option maxRecDepth 20000 in
theorem wq_r27 : GoodIn lw_tbl wsL_law_r27 := goodIn_p wsL_law_r27 [833, 550, 837, 554, 841] rfl (by decide +kernel)
theorem wq_X5 : GoodIn lw_tbl wsX50 := goodIn_p wsX50 [] rfl (by decide +kernel)
theorem wq_X6 : GoodIn lw_tbl wsX60 := goodIn_p wsX60 [] rfl (by decide +kernel)
theorem wq_X4 : GoodIn lw_tbl wsX40 := goodIn_p wsX40 [] rfl (by decide +kernel)
theorem wq_X0 : GoodIn lw_tbl wsX00 := goodIn_p wsX00 [] rfl (by decide +kernel)
theorem wq_X3 : GoodIn lw_tbl wsX30 := goodIn_p wsX30 [] rfl (by decide +kernel)
theorem wq_X2 : GoodIn lw_tbl wsX20 := goodIn_p wsX20 [] rfl (by decide +kernel)
theorem wq_X1 : GoodIn lw_tbl wsX10 := goodIn_p wsX10 [] rfl (by decide +kernel)
theorem wq_all : GoodIn lw_tbl wsL_law := goodIn_ap (goodIn_ap (goodIn_ap (goodIn_ap (goodIn_ap (goodIn_ap (goodIn_ap (goodIn_ap (goodIn_ap wq_r1 (goodIn_ap wq_r2 (goodIn_ap wq_r3 (goodIn_ap wq_r4 (goodIn_ap wq_r5 (goodIn_ap wq_r6 (goodIn_ap wq_r7 (goodIn_ap wq_r8 (goodIn_ap wq_r9 (goodIn_ap wq_r10 (goodIn_ap wq_r11 (goodIn_ap wq_r12 (goodIn_ap wq_r13 (goodIn_ap wq_r14 (goodIn_ap wq_r15 (goodIn_ap wq_r16 (goodIn_ap wq_r17 (goodIn_ap wq_r18 (goodIn_ap wq_r19 (goodIn_ap wq_r20 (goodIn_ap wq_r21 (goodIn_ap wq_r22 (goodIn_ap wq_r23 (goodIn_ap wq_r24 (goodIn_ap wq_r25 (goodIn_ap wq_r26 wq_r27)))))))))))))))))))))))))) wq_X5) wq_X6) wq_X4) wq_X0) wq_X3) wq_X2) wq_X1) (fun _ h => absurd h List.not_mem_nil)
theorem wq_in : ∀ w ∈ wsL_law, w ∈ lw_tbl := fun w h => (wq_all w h).1
theorem wq_good : ∀ w ∈ wsL_law, (w.onTables && w.keeps) = true ∨ ∃ ty, w = .arrayClass ty := fun w h => (wq_all w h).2
theorem wq_self : GoodIn wsL_law wsL_law := fun w h => ⟨h, wq_good w h⟩
end
