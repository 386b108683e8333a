theorem goodIn_ap {big a b : List Cond} (ha : GoodIn big a) (hb : GoodIn big b) : GoodIn big (a ++ b) := fun w h => (List.mem_append.mp h).elim (ha w) (hb w)
set_option maxRecDepth 20000 in
theorem wq_r1 : GoodIn lw_tbl wsL_law_r1 := goodIn_p wsL_law_r1 [62, 65] rfl (by decide +kernel)
set_option maxRecDepth 20000 in
theorem wq_r2 : GoodIn lw_tbl wsL_law_r2 := goodIn_p wsL_law_r2 [70] rfl (by decide +kernel)
set_option maxRecDepth 20000 in
theorem wq_r3 : GoodIn lw_tbl wsL_law_r3 := goodIn_p wsL_law_r3 [96, 116, 122] rfl (by decide +kernel)
set_option maxRecDepth 20000 in
theorem wq_r4 : GoodIn lw_tbl wsL_law_r4 := goodIn_p wsL_law_r4 [192, 559] rfl (by decide +kernel)
set_option maxRecDepth 20000 in
theorem wq_r5 : GoodIn lw_tbl wsL_law_r5 := goodIn_p wsL_law_r5 [250, 277, 254, 263, 267] rfl (by decide +kernel)
set_option maxRecDepth 20000 in
theorem wq_r6 : GoodIn lw_tbl wsL_law_r6 := goodIn_p wsL_law_r6 [271, 613, 616, 620, 625] rfl (by decide +kernel)
set_option maxRecDepth 20000 in
theorem wq_r7 : GoodIn lw_tbl wsL_law_r7 := goodIn_p wsL_law_r7 [628, 282, 285, 294, 298, 632] rfl (by decide +kernel)
set_option maxRecDepth 20000 in
theorem wq_r8 : GoodIn lw_tbl wsL_law_r8 := goodIn_p wsL_law_r8 [637, 302, 306, 311, 641] rfl (by decide +kernel)
set_option maxRecDepth 20000 in
theorem wq_r9 : GoodIn lw_tbl wsL_law_r9 := goodIn_p wsL_law_r9 [645, 650, 315, 654, 319, 324] rfl (by decide +kernel)
set_option maxRecDepth 20000 in
theorem wq_r10 : GoodIn lw_tbl wsL_law_r10 := goodIn_p wsL_law_r10 [327, 330, 336, 340, 344] rfl (by decide +kernel)
set_option maxRecDepth 20000 in
theorem wq_r11 : GoodIn lw_tbl wsL_law_r11 := goodIn_p wsL_law_r11 [348, 352, 356, 359, 363] rfl (by decide +kernel)
set_option maxRecDepth 20000 in
theorem wq_r12 : GoodIn lw_tbl wsL_law_r12 := goodIn_p wsL_law_r12 [367, 371, 375, 379, 383, 387] rfl (by decide +kernel)
set_option maxRecDepth 20000 in
theorem wq_r13 : GoodIn lw_tbl wsL_law_r13 := goodIn_p wsL_law_r13 [392, 396, 400, 405, 409] rfl (by decide +kernel)
set_option maxRecDepth 20000 in
theorem wq_r14 : GoodIn lw_tbl wsL_law_r14 := goodIn_p wsL_law_r14 [414, 418, 422, 427, 432, 658] rfl (by decide +kernel)
set_option maxRecDepth 20000 in
theorem wq_r15 : GoodIn lw_tbl wsL_law_r15 := goodIn_p wsL_law_r15 [667, 671, 675, 680] rfl (by decide +kernel)
set_option maxRecDepth 20000 in
theorem wq_r16 : GoodIn lw_tbl wsL_law_r16 := goodIn_p wsL_law_r16 [684, 688, 692, 696, 700, 704] rfl (by decide +kernel)
set_option maxRecDepth 20000 in
theorem wq_r17 : GoodIn lw_tbl wsL_law_r17 := goodIn_p wsL_law_r17 [708, 712, 716, 720, 724, 728] rfl (by decide +kernel)
set_option maxRecDepth 20000 in
theorem wq_r18 : GoodIn lw_tbl wsL_law_r18 := goodIn_p wsL_law_r18 [732, 436, 441, 736, 445, 449] rfl (by decide +kernel)
set_option maxRecDepth 20000 in
theorem wq_r19 : GoodIn lw_tbl wsL_law_r19 := goodIn_p wsL_law_r19 [453, 468, 457, 461, 465, 472] rfl (by decide +kernel)
set_option maxRecDepth 20000 in
theorem wq_r20 : GoodIn lw_tbl wsL_law_r20 := goodIn_p wsL_law_r20 [741, 745, 749, 753, 757, 761] rfl (by decide +kernel)
set_option maxRecDepth 20000 in
theorem wq_r21 : GoodIn lw_tbl wsL_law_r21 := goodIn_p wsL_law_r21 [765, 769, 773, 777, 781, 785] rfl (by decide +kernel)
set_option maxRecDepth 20000 in
theorem wq_r22 : GoodIn lw_tbl wsL_law_r22 := goodIn_p wsL_law_r22 [789, 476, 793, 483, 487] rfl (by decide +kernel)
set_option maxRecDepth 20000 in
theorem wq_r23 : GoodIn lw_tbl wsL_law_r23 := goodIn_p wsL_law_r23 [491, 797, 495, 801, 499, 805] rfl (by decide +kernel)
set_option maxRecDepth 20000 in
theorem wq_r24 : GoodIn lw_tbl wsL_law_r24 := goodIn_p wsL_law_r24 [504, 508, 809, 512, 517] rfl (by decide +kernel)
set_option maxRecDepth 20000 in
theorem wq_r25 : GoodIn lw_tbl wsL_law_r25 := goodIn_p wsL_law_r25 [813, 521, 817, 525, 529, 821] rfl (by decide +kernel)
set_option maxRecDepth 20000 in
theorem wq_r26 : GoodIn lw_tbl wsL_law_r26 := goodIn_p wsL_law_r26 [533, 825, 537, 829, 541, 545] rfl (by decide +kernel)
set_option maxRecDepth 20000 in
theorem wq_r27 : GoodIn lw_tbl wsL_law_r27 := goodIn_p wsL_law_r27 [833, 550, 837, 554, 841] rfl (by decide +kernel)
theorem wq_X5 : GoodIn lw_tbl wsX50 := goodIn_p wsX50 [] rfl (by decide +kernel)
theorem wq_X6 : GoodIn lw_tbl wsX60 := goodIn_p wsX60 [] rfl (by decide +kernel)
theorem wq_X4 : GoodIn lw_tbl wsX40 := goodIn_p wsX40 [] rfl (by decide +kernel)
theorem wq_X0 : GoodIn lw_tbl wsX00 := goodIn_p wsX00 [] rfl (by decide +kernel)
theorem wq_X3 : GoodIn lw_tbl wsX30 := goodIn_p wsX30 [] rfl (by decide +kernel)
theorem wq_X2 : GoodIn lw_tbl wsX20 := goodIn_p wsX20 [] rfl (by decide +kernel)
theorem wq_X1 : GoodIn lw_tbl wsX10 := goodIn_p wsX10 [] rfl (by decide +kernel)
theorem wq_all : GoodIn lw_tbl wsL_law := goodIn_ap (goodIn_ap (goodIn_ap (goodIn_ap (goodIn_ap (goodIn_ap (goodIn_ap (goodIn_ap (goodIn_ap wq_r1 (goodIn_ap wq_r2 (goodIn_ap wq_r3 (goodIn_ap wq_r4 (goodIn_ap wq_r5 (goodIn_ap wq_r6 (goodIn_ap wq_r7 (goodIn_ap wq_r8 (goodIn_ap wq_r9 (goodIn_ap wq_r10 (goodIn_ap wq_r11 (goodIn_ap wq_r12 (goodIn_ap wq_r13 (goodIn_ap wq_r14 (goodIn_ap wq_r15 (goodIn_ap wq_r16 (goodIn_ap wq_r17 (goodIn_ap wq_r18 (goodIn_ap wq_r19 (goodIn_ap wq_r20 (goodIn_ap wq_r21 (goodIn_ap wq_r22 (goodIn_ap wq_r23 (goodIn_ap wq_r24 (goodIn_ap wq_r25 (goodIn_ap wq_r26 wq_r27)))))))))))))))))))))))))) wq_X5) wq_X6) wq_X4) wq_X0) wq_X3) wq_X2) wq_X1) (fun _ h => absurd h List.not_mem_nil)
theorem wq_in : ∀ w ∈ wsL_law, w ∈ lw_tbl := fun w h => (wq_all w h).1
theorem wq_good : ∀ w ∈ wsL_law, (w.onTables && w.keeps) = true ∨ ∃ ty, w = .arrayClass ty := fun w h => (wq_all w h).2
theorem wq_self : GoodIn wsL_law wsL_law := fun w h => ⟨h, wq_good w h⟩
