/-! ===== what is made ===== -/
theorem jN_t (N : Nat) {z : Int} (hz : z = (N : Int)) (h : N < 2147483647) : (jI z).toNatClampNeg = N := by
  subst hz
  rw [jI_tn (n := 2147483647) ⟨by omega, by omega⟩ (by omega)]
  omega
theorem jN_n (N : Nat) {z : Int} (hz : z = (N : Int)) (h : N < 2147483647) : ¬ jI z < 0 := by
  subst hz
  rw [jI_0, jI_lt ⟨⟨by omega, by omega⟩, by decide⟩]
  omega
abbrev stL (t : T5) (a0 a1 a2 : Nat) : va_W := ([(a0, .inr (4, [.ref a1, .ref a2, vi 0]))] ++ [(a1, .inl (t.1, 6, .inl (upd (upd (upd (upd (upd (upd (fun _ => jI 0) 0 (jI 40)) 1 (jI 10)) 2 (jI 2)) 3 (jI 6)) 4 (jI 3)) 5 (jI 0))))]) ++ mnL t a2
abbrev meL (t : T5) (a0 a1 a2 a3 a4 : Nat) : va_W := ((([(a0, .inr (1, [vi 0, vi 0, vi 0, vi 0, vi 0, .ref a1, .ref a2, .ref a3, .ref a4]))] ++ [(a1, .inl (t.1, 10, .inl (fun _ => jI 0)))]) ++ [(a2, .inl (t.1, 10, .inl (fun _ => jI 0)))]) ++ [(a3, .inl (t.1, 11, .inl (fun _ => jI 0)))]) ++ [(a4, .inl (t.1, 11, .inl (fun _ => jI 0)))]
abbrev plL (t : T5) (a0 a1 a2 : Nat) : va_W := ([(a0, .inr (2, [.ref a1, .ref a2, vi (-1)]))] ++ [(a1, .inl (t.1, 31, .inl (fun _ => jI 0)))]) ++ [(a2, .inl (t.1, 31, .inl (fun _ => jI 0)))]
abbrev pnL (t : T5) (a0 a1 a2 a3 a4 a5 a6 a7 a8 a9 : Nat) : va_W := (a0, .inr (3, [.ref a1, .ref a6, .ref a7, .ref a8, .ref a9, vi 0])) :: ((((([] ++ meL t a1 a2 a3 a4 a5) ++ [(a6, .inl (t.1, 1331, .inl (fun _ => jI 0)))]) ++ [(a7, .inl (t.1, 1331, .inl (fun _ => jI 0)))]) ++ [(a8, .inl (t.1, 1331, .inl (fun _ => jI 0)))]) ++ [(a9, .inl (t.2.1, 1331, .inr (.inl (fun _ => jL 0))))])
abbrev hiL (t : T5) (a0 a1 s0_0 s0_1 s0_2 s1_0 s1_1 s1_2 s2_0 s2_1 s2_2 s3_0 s3_1 s3_2 s4_0 s4_1 s4_2 s5_0 s5_1 s5_2 : Nat) : va_W := (a0, .inr (0, [.ref a1, vi 0, vi 0])) :: ((((((([] ++ [(a1, .inl (t.2.2.2.1, 6, .inr (.inr (.inr (.inr (va_up (va_up (va_up (va_up (va_up (va_up (fun _ => none) 0 (some s0_0)) 1 (some s1_0)) 2 (some s2_0)) 3 (some s3_0)) 4 (some s4_0)) 5 (some s5_0)))))))]) ++ stL t s0_0 s0_1 s0_2) ++ stL t s1_0 s1_1 s1_2) ++ stL t s2_0 s2_1 s2_2) ++ stL t s3_0 s3_1 s3_2) ++ stL t s4_0 s4_1 s4_2) ++ stL t s5_0 s5_1 s5_2)
abbrev nfL (t : T5) (a0 a1 a2 a3 n0_0 n0_1 n0_2 n1_0 n1_1 n1_2 n2_0 n2_1 n2_2 n3_0 n3_1 n3_2 h_0 h_1 h_2 h_3 h_4 h_5 h_6 h_7 h_8 h_9 h_10 h_11 h_12 h_13 h_14 h_15 h_16 h_17 h_18 h_19 p0_0 p0_1 p0_2 p0_3 p0_4 p0_5 p0_6 p0_7 p0_8 p0_9 p1_0 p1_1 p1_2 p1_3 p1_4 p1_5 p1_6 p1_7 p1_8 p1_9 l0_0 l0_1 l0_2 l1_0 l1_1 l1_2 l2_0 l2_1 l2_2 : Nat) : va_W := (a0, .inr (5, [.ref n0_0, .ref n1_0, .ref a1, .ref a2, .ref h_0, .ref p0_0, .ref p1_0, .ref l0_0, .ref l1_0, .ref l2_0, .ref a3, vi 0, vi 1])) :: ((((((((((((([] ++ stL t n0_0 n0_1 n0_2) ++ stL t n1_0 n1_1 n1_2) ++ [(a1, .inl (t.2.2.2.1, 2, .inr (.inr (.inr (.inr (va_up (va_up (fun _ => none) 0 (some n2_0)) 1 (some n3_0)))))))]) ++ stL t n2_0 n2_1 n2_2) ++ stL t n3_0 n3_1 n3_2) ++ [(a2, .inl (t.2.2.1, 2, .inl (fun _ => jI 0)))]) ++ hiL t h_0 h_1 h_2 h_3 h_4 h_5 h_6 h_7 h_8 h_9 h_10 h_11 h_12 h_13 h_14 h_15 h_16 h_17 h_18 h_19) ++ pnL t p0_0 p0_1 p0_2 p0_3 p0_4 p0_5 p0_6 p0_7 p0_8 p0_9) ++ pnL t p1_0 p1_1 p1_2 p1_3 p1_4 p1_5 p1_6 p1_7 p1_8 p1_9) ++ plL t l0_0 l0_1 l0_2) ++ plL t l1_0 l1_1 l1_2) ++ plL t l2_0 l2_1 l2_2) ++ [(a3, .inl (t.1, 30, .inl (fun _ => jI 0)))])
abbrev moL (t : T5) (a0 a1 a2 a3 a4 a5 a6 a7 a8 a9 a10 a11 a12 a13 : Nat) : va_W := (a0, .inr (6, [.ref a1, .ref a2, vi 0, .ref a3, .ref a4, .ref a5, vi 0, .ref a6, .ref a7, .ref a8, .ref a9, .ref a10, vi 0, .ref a11, .ref a12, .ref a13])) :: ((((((((((((([] ++ [(a1, .inl (t.1, 47, .inl (upd (upd (upd (upd (upd (fun _ => jI 0) 0 (jI 40)) 1 (jI 10)) 2 (jI 2)) 3 (jI 6)) 4 (jI 3))))]) ++ [(a2, .inl (t.1, 47, .inl (fun _ => jI 0)))]) ++ [(a3, .inl (t.1, 282, .inl (fun _ => jI 0)))]) ++ [(a4, .inl (t.1, 94, .inl (fun _ => jI 0)))]) ++ [(a5, .inl (t.2.2.1, 2, .inl (fun _ => jI 0)))]) ++ [(a6, .inl (t.1, 30, .inl (fun _ => jI 0)))]) ++ [(a7, .inl (t.1, 1331, .inl (fun _ => jI 0)))]) ++ [(a8, .inl (t.1, 1331, .inl (fun _ => jI 0)))]) ++ [(a9, .inl (t.2.1, 1331, .inr (.inl (fun _ => jL 0))))]) ++ [(a10, .inl (t.2.2.1, 1331, .inl (fun _ => jI 0)))]) ++ [(a11, .inl (t.1, 160, .inl (fun _ => jI 0)))]) ++ [(a12, .inl (t.1, 160, .inl (fun _ => jI 0)))]) ++ [(a13, .inl (t.1, 160, .inl (fun _ => jI 0)))])
theorem hfsX4 : ∀ j, j < 3 → defaultValue (tyX4 j) = vp_V ([.null, .null, vi 0]) j := by
  intro j hj
  rcases (show j = 0 ∨ j = 1 ∨ j = 2 by omega) with rfl | rfl | rfl <;> rfl
abbrev mX4_init : Md := (yX4_init, cX4_init, 1, none, 1, 12)
theorem hfsX1 : ∀ j, j < 9 → defaultValue (tyX1 j) = vp_V ([vi 0, vi 0, vi 0, vi 0, vi 0, .null, .null, .null, .null]) j := by
  intro j hj
  rcases (show j = 0 ∨ j = 1 ∨ j = 2 ∨ j = 3 ∨ j = 4 ∨ j = 5 ∨ j = 6 ∨ j = 7 ∨ j = 8 by omega) with rfl | rfl | rfl | rfl | rfl | rfl | rfl | rfl | rfl <;> rfl
abbrev mX1_init : Md := (yX1_init, cX1_init, 1, none, 1, 12)
theorem hfsX2 : ∀ j, j < 3 → defaultValue (tyX2 j) = vp_V ([.null, .null, vi 0]) j := by
  intro j hj
  rcases (show j = 0 ∨ j = 1 ∨ j = 2 by omega) with rfl | rfl | rfl <;> rfl
abbrev mX2_init : Md := (yX2_init, cX2_init, 1, none, 1, 12)
theorem hfsX0 : ∀ j, j < 3 → defaultValue (tyX0 j) = vp_V ([.null, vi 0, vi 0]) j := by
  intro j hj
  rcases (show j = 0 ∨ j = 1 ∨ j = 2 by omega) with rfl | rfl | rfl <;> rfl
abbrev mX0_init : Md := (yX0_init, cX0_init, 2, none, 2, 32)
theorem hfsX3 : ∀ j, j < 6 → defaultValue (tyX3 j) = vp_V ([.null, .null, .null, .null, .null, vi 0]) j := by
  intro j hj
  rcases (show j = 0 ∨ j = 1 ∨ j = 2 ∨ j = 3 ∨ j = 4 ∨ j = 5 by omega) with rfl | rfl | rfl | rfl | rfl | rfl <;> rfl
abbrev mX3_init : Md := (yX3_init, cX3_init, 1, none, 2, 32)
theorem hfsX5 : ∀ j, j < 13 → defaultValue (tyX5 j) = vp_V ([.null, .null, .null, .null, .null, .null, .null, .null, .null, .null, .null, vi 0, vi 0]) j := by
  intro j hj
  rcases (show j = 0 ∨ j = 1 ∨ j = 2 ∨ j = 3 ∨ j = 4 ∨ j = 5 ∨ j = 6 ∨ j = 7 ∨ j = 8 ∨ j = 9 ∨ j = 10 ∨ j = 11 ∨ j = 12 by omega) with rfl | rfl | rfl | rfl | rfl | rfl | rfl | rfl | rfl | rfl | rfl | rfl | rfl <;> rfl
abbrev mX5_init : Md := (yX5_init, cX5_init, 2, none, 3, 53)
theorem hfsX6 : ∀ j, j < 16 → defaultValue (tyX6 j) = vp_V ([.null, .null, vi 0, .null, .null, .null, vi 0, .null, .null, .null, .null, .null, vi 0, .null, .null, .null]) j := by
  intro j hj
  rcases (show j = 0 ∨ j = 1 ∨ j = 2 ∨ j = 3 ∨ j = 4 ∨ j = 5 ∨ j = 6 ∨ j = 7 ∨ j = 8 ∨ j = 9 ∨ j = 10 ∨ j = 11 ∨ j = 12 ∨ j = 13 ∨ j = 14 ∨ j = 15 by omega) with rfl | rfl | rfl | rfl | rfl | rfl | rfl | rfl | rfl | rfl | rfl | rfl | rfl | rfl | rfl | rfl <;> rfl
abbrev mX6_init : Md := (yX6_init, cX6_init, 1, none, 1, 12)
theorem wk_2 : ∀ w ∈ wsL_law_r2, w ∈ wsL_law := fun _ h => List.mem_append_left _ (List.mem_append_left _ (List.mem_append_left _ (List.mem_append_left _ (List.mem_append_left _ (List.mem_append_left _ (List.mem_append_left _ (List.mem_append_left _ (List.mem_append_right _ (List.mem_append_left _ h)))))))))
theorem wk_3 : ∀ w ∈ wsL_law_r3, w ∈ wsL_law := fun _ h => List.mem_append_left _ (List.mem_append_left _ (List.mem_append_left _ (List.mem_append_left _ (List.mem_append_left _ (List.mem_append_left _ (List.mem_append_left _ (List.mem_append_left _ (List.mem_append_right _ (List.mem_append_right _ (List.mem_append_left _ h))))))))))
theorem wk_4 : ∀ w ∈ wsL_law_r4, w ∈ wsL_law := fun _ h => List.mem_append_left _ (List.mem_append_left _ (List.mem_append_left _ (List.mem_append_left _ (List.mem_append_left _ (List.mem_append_left _ (List.mem_append_left _ (List.mem_append_left _ (List.mem_append_right _ (List.mem_append_right _ (List.mem_append_right _ (List.mem_append_left _ h)))))))))))
theorem wn_1_9 : Cond.methodLink RX5 1 objectInit ∈ wsL_law := wk_1 _ (List.mem_of_getElem? (i := 9) rfl)
theorem wn_1_10 : Cond.instanceMethod objectInit ∈ wsL_law := wk_1 _ (List.mem_of_getElem? (i := 10) rfl)
theorem wn_1_11 : Cond.code objectInit ⟨#[0xb1]⟩ 1 none ∈ wsL_law := wk_1 _ (List.mem_of_getElem? (i := 11) rfl)
theorem wn_1_12 : Cond.classLink RX5 7 RX4 ∈ wsL_law := wk_1 _ (List.mem_of_getElem? (i := 12) rfl)
theorem wn_1_13 : Cond.instantiable RX4 3 ∈ wsL_law := wk_1 _ (List.mem_of_getElem? (i := 13) rfl)
theorem wn_1_14 : Cond.initialized RX4 ∈ wsL_law := wk_1 _ (List.mem_of_getElem? (i := 14) rfl)
theorem wn_1_15 : Cond.fieldLink RX5 10 "NearFigures" "now" "LNearFigures$Setting;" ∈ wsL_law := wk_1 _ (List.mem_of_getElem? (i := 15) rfl)
theorem wn_1_16 : Cond.fieldLink RX5 16 "NearFigures" "trial" "LNearFigures$Setting;" ∈ wsL_law := wk_1 _ (List.mem_of_getElem? (i := 16) rfl)
theorem wn_1_17 : Cond.fieldLink RX5 19 "NearFigures" "images" "[LNearFigures$Setting;" ∈ wsL_law := wk_1 _ (List.mem_of_getElem? (i := 17) rfl)
theorem wn_1_18 : Cond.arrayClass .boolean ∈ wsL_law := wk_1 _ (List.mem_of_getElem? (i := 18) rfl)
theorem wn_1_19 : Cond.fieldLink RX5 23 "NearFigures" "imageKept" "[Z" ∈ wsL_law := wk_1 _ (List.mem_of_getElem? (i := 19) rfl)
theorem wn_1_20 : Cond.classLink RX5 27 RX0 ∈ wsL_law := wk_1 _ (List.mem_of_getElem? (i := 20) rfl)
theorem wn_1_21 : Cond.instantiable RX0 3 ∈ wsL_law := wk_1 _ (List.mem_of_getElem? (i := 21) rfl)
theorem wn_1_22 : Cond.initialized RX0 ∈ wsL_law := wk_1 _ (List.mem_of_getElem? (i := 22) rfl)
theorem wn_1_23 : Cond.fieldLink RX5 30 "NearFigures" "history" "LNearFigures$History;" ∈ wsL_law := wk_1 _ (List.mem_of_getElem? (i := 23) rfl)
theorem wn_2_0 : Cond.classLink RX5 34 RX3 ∈ wsL_law := wk_2 _ (List.mem_of_getElem? (i := 0) rfl)
theorem wn_2_1 : Cond.instantiable RX3 6 ∈ wsL_law := wk_2 _ (List.mem_of_getElem? (i := 1) rfl)
theorem wn_2_2 : Cond.initialized RX3 ∈ wsL_law := wk_2 _ (List.mem_of_getElem? (i := 2) rfl)
theorem wn_2_3 : Cond.fieldLink RX5 37 "NearFigures" "planner" "LNearFigures$Planner;" ∈ wsL_law := wk_2 _ (List.mem_of_getElem? (i := 3) rfl)
theorem wn_2_4 : Cond.fieldLink RX5 41 "NearFigures" "trialPlanner" "LNearFigures$Planner;" ∈ wsL_law := wk_2 _ (List.mem_of_getElem? (i := 4) rfl)
theorem wn_2_5 : Cond.classLink RX5 44 RX2 ∈ wsL_law := wk_2 _ (List.mem_of_getElem? (i := 5) rfl)
theorem wn_2_6 : Cond.instantiable RX2 3 ∈ wsL_law := wk_2 _ (List.mem_of_getElem? (i := 6) rfl)
theorem wn_2_7 : Cond.initialized RX2 ∈ wsL_law := wk_2 _ (List.mem_of_getElem? (i := 7) rfl)
theorem wn_2_8 : Cond.fieldLink RX5 47 "NearFigures" "best" "LNearFigures$Plan;" ∈ wsL_law := wk_2 _ (List.mem_of_getElem? (i := 8) rfl)
theorem wn_2_9 : Cond.fieldLink RX5 51 "NearFigures" "greedy" "LNearFigures$Plan;" ∈ wsL_law := wk_2 _ (List.mem_of_getElem? (i := 9) rfl)
theorem wn_2_10 : Cond.fieldLink RX5 54 "NearFigures" "made" "LNearFigures$Plan;" ∈ wsL_law := wk_2 _ (List.mem_of_getElem? (i := 10) rfl)
theorem wn_2_11 : Cond.arrayClass .int ∈ wsL_law := wk_2 _ (List.mem_of_getElem? (i := 11) rfl)
theorem wn_2_12 : Cond.fieldLink RX5 57 "NearFigures" "handed" "[I" ∈ wsL_law := wk_2 _ (List.mem_of_getElem? (i := 12) rfl)
theorem wn_2_13 : Cond.fieldLink RX5 61 "NearFigures" "handedPages" "I" ∈ wsL_law := wk_2 _ (List.mem_of_getElem? (i := 13) rfl)
theorem wn_2_14 : Cond.fieldLink RX5 65 "NearFigures" "stale" "Z" ∈ wsL_law := wk_2 _ (List.mem_of_getElem? (i := 14) rfl)
theorem wn_2_15 : Cond.instanceMethod yX4_init ∈ wsL_law := wk_2 _ (List.mem_of_getElem? (i := 15) rfl)
theorem wn_2_16 : Cond.code yX4_init cX4_init 1 none ∈ wsL_law := wk_2 _ (List.mem_of_getElem? (i := 16) rfl)
theorem wn_2_17 : Cond.methodLink RX4 3 objectInit ∈ wsL_law := wk_2 _ (List.mem_of_getElem? (i := 17) rfl)
theorem wn_2_18 : Cond.fieldLink RX4 9 "NearFigures$Setting" "bounds" "[I" ∈ wsL_law := wk_2 _ (List.mem_of_getElem? (i := 18) rfl)
theorem wn_2_19 : Cond.classLink RX4 15 "[[I" ∈ wsL_law := wk_2 _ (List.mem_of_getElem? (i := 19) rfl)
theorem wn_2_20 : Cond.fieldLink RX4 17 "NearFigures$Setting" "parts" "[[I" ∈ wsL_law := wk_2 _ (List.mem_of_getElem? (i := 20) rfl)
theorem wn_2_21 : Cond.fieldLink RX4 20 "NearFigures$Setting" "figures" "I" ∈ wsL_law := wk_2 _ (List.mem_of_getElem? (i := 21) rfl)
theorem wn_2_22 : Cond.methodLink RX5 29 yX0_init ∈ wsL_law := wk_2 _ (List.mem_of_getElem? (i := 22) rfl)
theorem wn_2_23 : Cond.instanceMethod yX0_init ∈ wsL_law := wk_2 _ (List.mem_of_getElem? (i := 23) rfl)
theorem wn_3_0 : Cond.code yX0_init cX0_init 2 none ∈ wsL_law := wk_3 _ (List.mem_of_getElem? (i := 0) rfl)
theorem wn_3_1 : Cond.methodLink RX0 3 objectInit ∈ wsL_law := wk_3 _ (List.mem_of_getElem? (i := 1) rfl)
theorem wn_3_2 : Cond.classLink RX0 9 RX4 ∈ wsL_law := wk_3 _ (List.mem_of_getElem? (i := 2) rfl)
theorem wn_3_3 : Cond.fieldLink RX0 11 "NearFigures$History" "ring" "[LNearFigures$Setting;" ∈ wsL_law := wk_3 _ (List.mem_of_getElem? (i := 3) rfl)
theorem wn_3_4 : Cond.fieldLink RX0 17 "NearFigures$History" "end" "I" ∈ wsL_law := wk_3 _ (List.mem_of_getElem? (i := 4) rfl)
theorem wn_3_5 : Cond.fieldLink RX0 21 "NearFigures$History" "size" "I" ∈ wsL_law := wk_3 _ (List.mem_of_getElem? (i := 5) rfl)
theorem wn_3_6 : Cond.instanceMethod yX3_init ∈ wsL_law := wk_3 _ (List.mem_of_getElem? (i := 6) rfl)
theorem wn_3_7 : Cond.code yX3_init cX3_init 1 none ∈ wsL_law := wk_3 _ (List.mem_of_getElem? (i := 7) rfl)
theorem wn_3_8 : Cond.methodLink RX3 5 objectInit ∈ wsL_law := wk_3 _ (List.mem_of_getElem? (i := 8) rfl)
theorem wn_3_9 : Cond.classLink RX3 11 RX1 ∈ wsL_law := wk_3 _ (List.mem_of_getElem? (i := 9) rfl)
theorem wn_3_10 : Cond.instantiable RX1 9 ∈ wsL_law := wk_3 _ (List.mem_of_getElem? (i := 10) rfl)
theorem wn_3_11 : Cond.initialized RX1 ∈ wsL_law := wk_3 _ (List.mem_of_getElem? (i := 11) rfl)
theorem wn_3_12 : Cond.fieldLink RX3 14 "NearFigures$Planner" "measure" "LNearFigures$Measure;" ∈ wsL_law := wk_3 _ (List.mem_of_getElem? (i := 12) rfl)
theorem wn_3_13 : Cond.fieldLink RX3 18 "NearFigures$Planner" "values" "[I" ∈ wsL_law := wk_3 _ (List.mem_of_getElem? (i := 13) rfl)
theorem wn_3_14 : Cond.fieldLink RX3 22 "NearFigures$Planner" "tolls" "[I" ∈ wsL_law := wk_3 _ (List.mem_of_getElem? (i := 14) rfl)
theorem wn_3_15 : Cond.fieldLink RX3 25 "NearFigures$Planner" "taken" "[I" ∈ wsL_law := wk_3 _ (List.mem_of_getElem? (i := 15) rfl)
theorem wn_3_16 : Cond.arrayClass .long ∈ wsL_law := wk_3 _ (List.mem_of_getElem? (i := 16) rfl)
theorem wn_3_17 : Cond.fieldLink RX3 28 "NearFigures$Planner" "plans" "[J" ∈ wsL_law := wk_3 _ (List.mem_of_getElem? (i := 17) rfl)
theorem wn_3_18 : Cond.instanceMethod yX1_init ∈ wsL_law := wk_3 _ (List.mem_of_getElem? (i := 18) rfl)
theorem wn_3_19 : Cond.code yX1_init cX1_init 1 none ∈ wsL_law := wk_3 _ (List.mem_of_getElem? (i := 19) rfl)
theorem wn_3_20 : Cond.methodLink RX1 3 objectInit ∈ wsL_law := wk_3 _ (List.mem_of_getElem? (i := 20) rfl)
theorem wn_3_21 : Cond.fieldLink RX1 9 "NearFigures$Measure" "due" "[I" ∈ wsL_law := wk_3 _ (List.mem_of_getElem? (i := 21) rfl)
theorem wn_3_22 : Cond.fieldLink RX1 15 "NearFigures$Measure" "weights" "[I" ∈ wsL_law := wk_3 _ (List.mem_of_getElem? (i := 22) rfl)
theorem wn_3_23 : Cond.fieldLink RX1 18 "NearFigures$Measure" "most" "[I" ∈ wsL_law := wk_3 _ (List.mem_of_getElem? (i := 23) rfl)
theorem wn_4_0 : Cond.fieldLink RX1 21 "NearFigures$Measure" "takenUpTo" "[I" ∈ wsL_law := wk_4 _ (List.mem_of_getElem? (i := 0) rfl)
theorem wn_4_1 : Cond.instanceMethod yX2_init ∈ wsL_law := wk_4 _ (List.mem_of_getElem? (i := 1) rfl)
theorem wn_4_2 : Cond.code yX2_init cX2_init 1 none ∈ wsL_law := wk_4 _ (List.mem_of_getElem? (i := 2) rfl)
theorem wn_4_3 : Cond.methodLink RX2 3 objectInit ∈ wsL_law := wk_4 _ (List.mem_of_getElem? (i := 3) rfl)
theorem wn_4_4 : Cond.fieldLink RX2 9 "NearFigures$Plan" "lines" "[I" ∈ wsL_law := wk_4 _ (List.mem_of_getElem? (i := 4) rfl)
theorem wn_4_5 : Cond.fieldLink RX2 15 "NearFigures$Plan" "figures" "[I" ∈ wsL_law := wk_4 _ (List.mem_of_getElem? (i := 5) rfl)
theorem wn_4_6 : Cond.fieldLink RX2 18 "NearFigures$Plan" "pages" "I" ∈ wsL_law := wk_4 _ (List.mem_of_getElem? (i := 6) rfl)
theorem wn_4_10 : Cond.methodLink RX6 1 objectInit ∈ wsL_law := wk_4 _ (List.mem_of_getElem? (i := 10) rfl)
theorem wn_4_11 : Cond.fieldLink RX6 7 "NearFiguresModel" "now" "[I" ∈ wsL_law := wk_4 _ (List.mem_of_getElem? (i := 11) rfl)
theorem wn_4_12 : Cond.fieldLink RX6 13 "NearFiguresModel" "was" "[I" ∈ wsL_law := wk_4 _ (List.mem_of_getElem? (i := 12) rfl)
theorem wn_4_13 : Cond.fieldLink RX6 16 "NearFiguresModel" "back" "[I" ∈ wsL_law := wk_4 _ (List.mem_of_getElem? (i := 13) rfl)
theorem wn_4_14 : Cond.fieldLink RX6 19 "NearFiguresModel" "image" "[I" ∈ wsL_law := wk_4 _ (List.mem_of_getElem? (i := 14) rfl)
theorem wn_4_15 : Cond.fieldLink RX6 22 "NearFiguresModel" "isKept" "[Z" ∈ wsL_law := wk_4 _ (List.mem_of_getElem? (i := 15) rfl)
theorem wn_4_16 : Cond.fieldLink RX6 26 "NearFiguresModel" "hand" "[I" ∈ wsL_law := wk_4 _ (List.mem_of_getElem? (i := 16) rfl)
theorem wn_4_17 : Cond.fieldLink RX6 29 "NearFiguresModel" "cost" "[I" ∈ wsL_law := wk_4 _ (List.mem_of_getElem? (i := 17) rfl)
theorem wn_4_18 : Cond.fieldLink RX6 32 "NearFiguresModel" "size" "[I" ∈ wsL_law := wk_4 _ (List.mem_of_getElem? (i := 18) rfl)
theorem wn_4_19 : Cond.fieldLink RX6 35 "NearFiguresModel" "ways" "[J" ∈ wsL_law := wk_4 _ (List.mem_of_getElem? (i := 19) rfl)
theorem wn_4_20 : Cond.fieldLink RX6 39 "NearFiguresModel" "place" "[Z" ∈ wsL_law := wk_4 _ (List.mem_of_getElem? (i := 20) rfl)
theorem wn_4_21 : Cond.fieldLink RX6 42 "NearFiguresModel" "count" "[I" ∈ wsL_law := wk_4 _ (List.mem_of_getElem? (i := 21) rfl)
theorem wn_4_22 : Cond.fieldLink RX6 45 "NearFiguresModel" "line" "[I" ∈ wsL_law := wk_4 _ (List.mem_of_getElem? (i := 22) rfl)
theorem wn_4_23 : Cond.fieldLink RX6 48 "NearFiguresModel" "figure" "[I" ∈ wsL_law := wk_4 _ (List.mem_of_getElem? (i := 23) rfl)
set_option maxRecDepth 20000 in
set_option maxHeartbeats 4000000 in
theorem kX4_init {l : Launch} {D : va_G} {t : T5} : Cc l D t mX4_init 6 50 (.inr (4, [.null, .null, vi 0])) (fun h0 w => ∃ (a0 a1 a2 : Nat), a0 = h0 ∧ w = stL t a0 a1 a2) := by
  refine cc_of (by decide) (by decide) rfl ?_
  intro x h0 hl hD C hR
  subst hl
  subst hD
  refine n_aload_n (q := 1) C dX4_init_0 rfl 0 rfl rfl ?_
  refine n_objInit (q := 4) (st := []) C wn_2_17 wn_1_10 wn_1_11 rfl (by decide) dX4_init_1 rfl ?_
  refine n_aload_n (q := 5) C dX4_init_4 rfl 0 rfl rfl ?_
  refine n_bipush (q := 7) (z := 6) C dX4_init_5 rfl (by decide) ?_
  refine n_newa (q := 9) (atype := .int) (N := 6) (a0 := (6, .inl (fun _ => jI 0))) (cA := t.1) (c2 := 1) (s2 := 6) C wn_2_11 rfl 0 rfl (ha_i 6) (jN_n 6 rfl (Nat.le_of_ble_eq_true rfl)) (jN_t 6 rfl (Nat.le_of_ble_eq_true rfl)) (Nat.le_of_ble_eq_true rfl) ⟨Nat.le_of_ble_eq_true rfl, Nat.le_of_ble_eq_true rfl⟩ ⟨rfl, rfl⟩ dX4_init_7 rfl (fun a7 => ?_)
  refine n_dup (q := 10) C dX4_init_9 rfl rfl ?_
  refine n_iconst (q := 11) (z := 0) C dX4_init_10 rfl ?_
  refine n_bipush (q := 13) (z := 40) C dX4_init_11 rfl (by decide) ?_
  refine n_iast (q := 14) (ws2 := [(h0, .inr (4, [.null, .null, vi 0]))] ++ [(a7, .inl (t.1, 6, .inl (upd (fun _ => jI 0) 0 (jI 40))))]) C 1 rfl (by decide) (by decide) rfl dX4_init_13 rfl ?_
  refine n_dup (q := 15) C dX4_init_14 rfl rfl ?_
  refine n_iconst (q := 16) (z := 1) C dX4_init_15 rfl ?_
  refine n_bipush (q := 18) (z := 10) C dX4_init_16 rfl (by decide) ?_
  refine n_iast (q := 19) (ws2 := [(h0, .inr (4, [.null, .null, vi 0]))] ++ [(a7, .inl (t.1, 6, .inl (upd (upd (fun _ => jI 0) 0 (jI 40)) 1 (jI 10))))]) C 1 rfl (by decide) (by decide) rfl dX4_init_18 rfl ?_
  refine n_dup (q := 20) C dX4_init_19 rfl rfl ?_
  refine n_iconst (q := 21) (z := 2) C dX4_init_20 rfl ?_
  refine n_iconst (q := 22) (z := 2) C dX4_init_21 rfl ?_
  refine n_iast (q := 23) (ws2 := [(h0, .inr (4, [.null, .null, vi 0]))] ++ [(a7, .inl (t.1, 6, .inl (upd (upd (upd (fun _ => jI 0) 0 (jI 40)) 1 (jI 10)) 2 (jI 2))))]) C 1 rfl (by decide) (by decide) rfl dX4_init_22 rfl ?_
  refine n_dup (q := 24) C dX4_init_23 rfl rfl ?_
  refine n_iconst (q := 25) (z := 3) C dX4_init_24 rfl ?_
  refine n_bipush (q := 27) (z := 6) C dX4_init_25 rfl (by decide) ?_
  refine n_iast (q := 28) (ws2 := [(h0, .inr (4, [.null, .null, vi 0]))] ++ [(a7, .inl (t.1, 6, .inl (upd (upd (upd (upd (fun _ => jI 0) 0 (jI 40)) 1 (jI 10)) 2 (jI 2)) 3 (jI 6))))]) C 1 rfl (by decide) (by decide) rfl dX4_init_27 rfl ?_
  refine n_dup (q := 29) C dX4_init_28 rfl rfl ?_
  refine n_iconst (q := 30) (z := 4) C dX4_init_29 rfl ?_
  refine n_iconst (q := 31) (z := 3) C dX4_init_30 rfl ?_
  refine n_iast (q := 32) (ws2 := [(h0, .inr (4, [.null, .null, vi 0]))] ++ [(a7, .inl (t.1, 6, .inl (upd (upd (upd (upd (upd (fun _ => jI 0) 0 (jI 40)) 1 (jI 10)) 2 (jI 2)) 3 (jI 6)) 4 (jI 3))))]) C 1 rfl (by decide) (by decide) rfl dX4_init_31 rfl ?_
  refine n_dup (q := 33) C dX4_init_32 rfl rfl ?_
  refine n_iconst (q := 34) (z := 5) C dX4_init_33 rfl ?_
  refine n_iconst (q := 35) (z := 0) C dX4_init_34 rfl ?_
  refine n_iast (q := 36) (ws2 := [(h0, .inr (4, [.null, .null, vi 0]))] ++ [(a7, .inl (t.1, 6, .inl (upd (upd (upd (upd (upd (upd (fun _ => jI 0) 0 (jI 40)) 1 (jI 10)) 2 (jI 2)) 3 (jI 6)) 4 (jI 3)) 5 (jI 0))))]) C 1 rfl (by decide) (by decide) rfl dX4_init_35 rfl ?_
  refine n_putF (q := 39) (i := 0) (v := .ref a7) (ws2 := [(h0, .inr (4, [.ref a7, .null, vi 0]))] ++ [(a7, .inl (t.1, 6, .inl (upd (upd (upd (upd (upd (upd (fun _ => jI 0) 0 (jI 40)) 1 (jI 10)) 2 (jI 2)) 3 (jI 6)) 4 (jI 3)) 5 (jI 0))))]) C hR.1 0 rfl rfl inlX4 tyX4_ok nmX4 (by decide) wn_2_18 rfl rfl (tyX4_ok 0 (by decide)) rfl rfl (Nat.le_of_ble_eq_true rfl) rfl dX4_init_36 rfl ?_
  refine n_aload_n (q := 40) C dX4_init_39 rfl 0 rfl rfl ?_
  refine n_iconst (q := 41) (z := 4) C dX4_init_40 rfl ?_
  refine n_bipush (q := 43) (z := 10) C dX4_init_41 rfl (by decide) ?_
  refine n_mna (q := 47) (c2 := 6) (s2 := 50) C wn_2_19 wn_2_11 ⟨Nat.le_of_ble_eq_true rfl, Nat.le_of_ble_eq_true rfl⟩ ⟨rfl, rfl⟩ dX4_init_43 rfl (fun a43 => ?_)
  refine n_putF (q := 50) (i := 1) (v := .ref a43) (ws2 := ([(h0, .inr (4, [.ref a7, .ref a43, vi 0]))] ++ [(a7, .inl (t.1, 6, .inl (upd (upd (upd (upd (upd (upd (fun _ => jI 0) 0 (jI 40)) 1 (jI 10)) 2 (jI 2)) 3 (jI 6)) 4 (jI 3)) 5 (jI 0))))]) ++ mnL t a43) C hR.1 0 rfl rfl inlX4 tyX4_ok nmX4 (by decide) wn_2_20 rfl rfl (tyX4_ok 1 (by decide)) rfl rfl (Nat.le_of_ble_eq_true rfl) rfl dX4_init_47 rfl ?_
  refine n_aload_n (q := 51) C dX4_init_50 rfl 0 rfl rfl ?_
  refine n_iconst (q := 52) (z := 0) C dX4_init_51 rfl ?_
  refine n_put (q := 55) (i := 2) (v := vi 0) (ws2 := ([(h0, .inr (4, [.ref a7, .ref a43, vi 0]))] ++ [(a7, .inl (t.1, 6, .inl (upd (upd (upd (upd (upd (upd (fun _ => jI 0) 0 (jI 40)) 1 (jI 10)) 2 (jI 2)) 3 (jI 6)) 4 (jI 3)) 5 (jI 0))))]) ++ mnL t a43) C 0 rfl rfl inlX4 tyX4_ok nmX4 (by decide) wn_2_21 rfl (tyX4_ok 2 (by decide)) rfl rfl (Nat.le_of_ble_eq_true rfl) rfl dX4_init_52 rfl ?_
  exact n_ret C hR ⟨rfl, rfl⟩ dX4_init_55 ⟨h0, a7, a43, rfl, rfl⟩
set_option maxRecDepth 20000 in
set_option maxHeartbeats 4000000 in
theorem kX1_init {l : Launch} {D : va_G} {t : T5} : Cc l D t mX1_init 4 42 (.inr (1, [vi 0, vi 0, vi 0, vi 0, vi 0, .null, .null, .null, .null])) (fun h0 w => ∃ (a0 a1 a2 a3 a4 : Nat), a0 = h0 ∧ w = meL t a0 a1 a2 a3 a4) := by
  refine cc_of (by decide) (by decide) rfl ?_
  intro x h0 hl hD C hR
  subst hl
  subst hD
  refine n_aload_n (q := 1) C dX1_init_0 rfl 0 rfl rfl ?_
  refine n_objInit (q := 4) (st := []) C wn_3_20 wn_1_10 wn_1_11 rfl (by decide) dX1_init_1 rfl ?_
  refine n_aload_n (q := 5) C dX1_init_4 rfl 0 rfl rfl ?_
  refine n_bipush (q := 7) (z := 10) C dX1_init_5 rfl (by decide) ?_
  refine n_newa (q := 9) (atype := .int) (N := 10) (a0 := (10, .inl (fun _ => jI 0))) (cA := t.1) (c2 := 1) (s2 := 10) C wn_2_11 rfl 0 rfl (ha_i 10) (jN_n 10 rfl (Nat.le_of_ble_eq_true rfl)) (jN_t 10 rfl (Nat.le_of_ble_eq_true rfl)) (Nat.le_of_ble_eq_true rfl) ⟨Nat.le_of_ble_eq_true rfl, Nat.le_of_ble_eq_true rfl⟩ ⟨rfl, rfl⟩ dX1_init_7 rfl (fun a7 => ?_)
  refine n_putF (q := 12) (i := 5) (v := .ref a7) (ws2 := [(h0, .inr (1, [vi 0, vi 0, vi 0, vi 0, vi 0, .ref a7, .null, .null, .null]))] ++ [(a7, .inl (t.1, 10, .inl (fun _ => jI 0)))]) C hR.1 0 rfl rfl inlX1 tyX1_ok nmX1 (by decide) wn_3_21 rfl rfl (tyX1_ok 5 (by decide)) rfl rfl (Nat.le_of_ble_eq_true rfl) rfl dX1_init_9 rfl ?_
  refine n_aload_n (q := 13) C dX1_init_12 rfl 0 rfl rfl ?_
  refine n_bipush (q := 15) (z := 10) C dX1_init_13 rfl (by decide) ?_
  refine n_newa (q := 17) (atype := .int) (N := 10) (a0 := (10, .inl (fun _ => jI 0))) (cA := t.1) (c2 := 2) (s2 := 20) C wn_2_11 rfl 0 rfl (ha_i 10) (jN_n 10 rfl (Nat.le_of_ble_eq_true rfl)) (jN_t 10 rfl (Nat.le_of_ble_eq_true rfl)) (Nat.le_of_ble_eq_true rfl) ⟨Nat.le_of_ble_eq_true rfl, Nat.le_of_ble_eq_true rfl⟩ ⟨rfl, rfl⟩ dX1_init_15 rfl (fun a15 => ?_)
  refine n_putF (q := 20) (i := 6) (v := .ref a15) (ws2 := ([(h0, .inr (1, [vi 0, vi 0, vi 0, vi 0, vi 0, .ref a7, .ref a15, .null, .null]))] ++ [(a7, .inl (t.1, 10, .inl (fun _ => jI 0)))]) ++ [(a15, .inl (t.1, 10, .inl (fun _ => jI 0)))]) C hR.1 0 rfl rfl inlX1 tyX1_ok nmX1 (by decide) wn_3_22 rfl rfl (tyX1_ok 6 (by decide)) rfl rfl (Nat.le_of_ble_eq_true rfl) rfl dX1_init_17 rfl ?_
  refine n_aload_n (q := 21) C dX1_init_20 rfl 0 rfl rfl ?_
  refine n_bipush (q := 23) (z := 11) C dX1_init_21 rfl (by decide) ?_
  refine n_newa (q := 25) (atype := .int) (N := 11) (a0 := (11, .inl (fun _ => jI 0))) (cA := t.1) (c2 := 3) (s2 := 31) C wn_2_11 rfl 0 rfl (ha_i 11) (jN_n 11 rfl (Nat.le_of_ble_eq_true rfl)) (jN_t 11 rfl (Nat.le_of_ble_eq_true rfl)) (Nat.le_of_ble_eq_true rfl) ⟨Nat.le_of_ble_eq_true rfl, Nat.le_of_ble_eq_true rfl⟩ ⟨rfl, rfl⟩ dX1_init_23 rfl (fun a23 => ?_)
  refine n_putF (q := 28) (i := 7) (v := .ref a23) (ws2 := (([(h0, .inr (1, [vi 0, vi 0, vi 0, vi 0, vi 0, .ref a7, .ref a15, .ref a23, .null]))] ++ [(a7, .inl (t.1, 10, .inl (fun _ => jI 0)))]) ++ [(a15, .inl (t.1, 10, .inl (fun _ => jI 0)))]) ++ [(a23, .inl (t.1, 11, .inl (fun _ => jI 0)))]) C hR.1 0 rfl rfl inlX1 tyX1_ok nmX1 (by decide) wn_3_23 rfl rfl (tyX1_ok 7 (by decide)) rfl rfl (Nat.le_of_ble_eq_true rfl) rfl dX1_init_25 rfl ?_
  refine n_aload_n (q := 29) C dX1_init_28 rfl 0 rfl rfl ?_
  refine n_bipush (q := 31) (z := 11) C dX1_init_29 rfl (by decide) ?_
  refine n_newa (q := 33) (atype := .int) (N := 11) (a0 := (11, .inl (fun _ => jI 0))) (cA := t.1) (c2 := 4) (s2 := 42) C wn_2_11 rfl 0 rfl (ha_i 11) (jN_n 11 rfl (Nat.le_of_ble_eq_true rfl)) (jN_t 11 rfl (Nat.le_of_ble_eq_true rfl)) (Nat.le_of_ble_eq_true rfl) ⟨Nat.le_of_ble_eq_true rfl, Nat.le_of_ble_eq_true rfl⟩ ⟨rfl, rfl⟩ dX1_init_31 rfl (fun a31 => ?_)
  refine n_putF (q := 36) (i := 8) (v := .ref a31) (ws2 := ((([(h0, .inr (1, [vi 0, vi 0, vi 0, vi 0, vi 0, .ref a7, .ref a15, .ref a23, .ref a31]))] ++ [(a7, .inl (t.1, 10, .inl (fun _ => jI 0)))]) ++ [(a15, .inl (t.1, 10, .inl (fun _ => jI 0)))]) ++ [(a23, .inl (t.1, 11, .inl (fun _ => jI 0)))]) ++ [(a31, .inl (t.1, 11, .inl (fun _ => jI 0)))]) C hR.1 0 rfl rfl inlX1 tyX1_ok nmX1 (by decide) wn_4_0 rfl rfl (tyX1_ok 8 (by decide)) rfl rfl (Nat.le_of_ble_eq_true rfl) rfl dX1_init_33 rfl ?_
  exact n_ret C hR ⟨rfl, rfl⟩ dX1_init_36 ⟨h0, a7, a15, a23, a31, rfl, rfl⟩
set_option maxRecDepth 20000 in
set_option maxHeartbeats 4000000 in
theorem kX2_init {l : Launch} {D : va_G} {t : T5} : Cc l D t mX2_init 2 62 (.inr (2, [.null, .null, vi 0])) (fun h0 w => ∃ (a0 a1 a2 : Nat), a0 = h0 ∧ w = plL t a0 a1 a2) := by
  refine cc_of (by decide) (by decide) rfl ?_
  intro x h0 hl hD C hR
  subst hl
  subst hD
  refine n_aload_n (q := 1) C dX2_init_0 rfl 0 rfl rfl ?_
  refine n_objInit (q := 4) (st := []) C wn_4_3 wn_1_10 wn_1_11 rfl (by decide) dX2_init_1 rfl ?_
  refine n_aload_n (q := 5) C dX2_init_4 rfl 0 rfl rfl ?_
  refine n_bipush (q := 7) (z := 31) C dX2_init_5 rfl (by decide) ?_
  refine n_newa (q := 9) (atype := .int) (N := 31) (a0 := (31, .inl (fun _ => jI 0))) (cA := t.1) (c2 := 1) (s2 := 31) C wn_2_11 rfl 0 rfl (ha_i 31) (jN_n 31 rfl (Nat.le_of_ble_eq_true rfl)) (jN_t 31 rfl (Nat.le_of_ble_eq_true rfl)) (Nat.le_of_ble_eq_true rfl) ⟨Nat.le_of_ble_eq_true rfl, Nat.le_of_ble_eq_true rfl⟩ ⟨rfl, rfl⟩ dX2_init_7 rfl (fun a7 => ?_)
  refine n_putF (q := 12) (i := 0) (v := .ref a7) (ws2 := [(h0, .inr (2, [.ref a7, .null, vi 0]))] ++ [(a7, .inl (t.1, 31, .inl (fun _ => jI 0)))]) C hR.1 0 rfl rfl inlX2 tyX2_ok nmX2 (by decide) wn_4_4 rfl rfl (tyX2_ok 0 (by decide)) rfl rfl (Nat.le_of_ble_eq_true rfl) rfl dX2_init_9 rfl ?_
  refine n_aload_n (q := 13) C dX2_init_12 rfl 0 rfl rfl ?_
  refine n_bipush (q := 15) (z := 31) C dX2_init_13 rfl (by decide) ?_
  refine n_newa (q := 17) (atype := .int) (N := 31) (a0 := (31, .inl (fun _ => jI 0))) (cA := t.1) (c2 := 2) (s2 := 62) C wn_2_11 rfl 0 rfl (ha_i 31) (jN_n 31 rfl (Nat.le_of_ble_eq_true rfl)) (jN_t 31 rfl (Nat.le_of_ble_eq_true rfl)) (Nat.le_of_ble_eq_true rfl) ⟨Nat.le_of_ble_eq_true rfl, Nat.le_of_ble_eq_true rfl⟩ ⟨rfl, rfl⟩ dX2_init_15 rfl (fun a15 => ?_)
  refine n_putF (q := 20) (i := 1) (v := .ref a15) (ws2 := ([(h0, .inr (2, [.ref a7, .ref a15, vi 0]))] ++ [(a7, .inl (t.1, 31, .inl (fun _ => jI 0)))]) ++ [(a15, .inl (t.1, 31, .inl (fun _ => jI 0)))]) C hR.1 0 rfl rfl inlX2 tyX2_ok nmX2 (by decide) wn_4_5 rfl rfl (tyX2_ok 1 (by decide)) rfl rfl (Nat.le_of_ble_eq_true rfl) rfl dX2_init_17 rfl ?_
  refine n_aload_n (q := 21) C dX2_init_20 rfl 0 rfl rfl ?_
  refine n_iconst (q := 22) (z := -1) C dX2_init_21 rfl ?_
  refine n_put (q := 25) (i := 2) (v := vi (-1)) (ws2 := ([(h0, .inr (2, [.ref a7, .ref a15, vi (-1)]))] ++ [(a7, .inl (t.1, 31, .inl (fun _ => jI 0)))]) ++ [(a15, .inl (t.1, 31, .inl (fun _ => jI 0)))]) C 0 rfl rfl inlX2 tyX2_ok nmX2 (by decide) wn_4_6 rfl (tyX2_ok 2 (by decide)) rfl rfl (Nat.le_of_ble_eq_true rfl) rfl dX2_init_22 rfl ?_
  exact n_ret C hR ⟨rfl, rfl⟩ dX2_init_25 ⟨h0, a7, a15, rfl, rfl⟩
