/-! ===== the law's loop ===== -/
abbrev mL : Md := (yL_law, cL_law, 4, (some .boolean), 12, 476)
theorem g_isame {x : Xx} {d : Md} {n pc : Nat} {L : List (Nat × Value)} {st : List Value} {M : Mm} (C : Cx x d) {a : Int} {off : Int} {t : Nat} (hd : decode (dc d) pc = .ok (.if_icmp .eq off, 3)) (ht : (pc : Int) + off = (t : Int)) (k : Gx x n t L st M) : Gx x n pc L (vi a :: vi a :: st) M :=
  fun H locs ls hP hS hl => lv_icmp_eq C.ex C.by_ hd ht (fun _ => k H locs ls hP hS hl) (fun z => absurd rfl z)
theorem vm_lsame {p : Program} {l : Launch} {e : Env} {R : Room} {s : State} {m : MethodId} {args : Array Value} {below : List Frame} {meth : Method} {c : Code} {H : Heap} {locs : List Loc} {cells slots : Nat} {Q : State → Prop} {cc : ByteArray} {pc : Nat} {ls : Array Slot} {rest : List Value} (hexec : p.tables.exec = Jvm.exec) (hb : c.code = cc) {z : Int64} (hdg : decode cc pc = .ok (.lcmp, 1))
    (k : W p l e R s m args below meth c H locs cells slots Q (F0 m (pc + 1) ls (.int 0 :: rest))) : W p l e R s m args below meth c H locs cells slots Q (F0 m pc ls (.long z :: .long z :: rest)) := by
  intro T hT X
  obtain ⟨t, a, b⟩ := k T hT X
  refine ⟨t, ?_, b⟩
  have z1 : ¬ z > z := Int64.lt_irrefl
  jvm_step X.here [X.here.top, hexec, hb, hdg, z1]
  exact a
theorem g_lsame {x : Xx} {d : Md} {n pc q : Nat} {L : List (Nat × Value)} {st : List Value} {M : Mm} (C : Cx x d) {a : Int} (hd : decode (dc d) pc = .ok (.lcmp, 1)) (hq : pc + 1 = q) (k : Gx x n q L (vi 0 :: st) M) : Gx x n pc L (vl a :: vl a :: st) M := by
  subst hq
  exact fun H locs ls hP hS hl => vm_lsame C.ex C.by_ hd (by
    have := k H locs ls hP hS hl
    rw [show vi 0 = Value.int 0 from rfl] at this
    exact this)
theorem g_sld {x : Xx} {d : Md} {n pc q : Nat} {L : List (Nat × Value)} {st : List Value} {M : Mm} (C : Cx x d) {b N : Nat} {sv : Nat → Int32} (hX : va_X b N sv (xs x) (xs x).heap) (hbl : b < (xs x).heap.size) (hbA : ¬ gA (xg x) b) {i : Int} (hi : 0 ≤ i ∧ i < (N : Int)) (hm : N < 2147483648) (hd : decode (dc d) pc = .ok (.iaload, 1)) (hq : pc + 1 = q) (k : Gx x n q L (vi (sv i.toNat).toInt :: st) M) : Gx x n pc L (vi i :: .ref b :: st) M := by
  subst hq
  intro H locs ls hP hS hl
  refine va_sld C.ex C.by_ hX hbl hbA hS (jI_in hi hm) hd ?_
  have := k H locs ls hP hS hl
  rw [show vi (sv i.toNat).toInt = Value.int (sv i.toNat) from congrArg Value.int (jI_of _).symm] at this
  rw [jI_tn hi hm]
  exact this
theorem g_slen {x : Xx} {d : Md} {n pc q : Nat} {L : List (Nat × Value)} {st : List Value} {M : Mm} (C : Cx x d) {b N : Nat} {sv : Nat → Int32} (hX : va_X b N sv (xs x) (xs x).heap) (hbl : b < (xs x).heap.size) (hbA : ¬ gA (xg x) b) (hd : decode (dc d) pc = .ok (.arraylength, 1)) (hq : pc + 1 = q) (k : Gx x n q L (vi (N : Int) :: st) M) : Gx x n pc L (.ref b :: st) M := by
  subst hq
  intro H locs ls hP hS hl
  refine va_slen C.ex C.by_ hX hbl hbA hS hd ?_
  have := k H locs ls hP hS hl
  rw [show vi (N : Int) = Value.int (Int32.ofNat N) from congrArg Value.int (jI_nat N)] at this
  exact this
theorem wk_1 : ∀ w ∈ wsL_law_r1, w ∈ wsL_law := fun _ h => List.mem_append_left _ (List.mem_append_left _ (List.mem_append_left _ (List.mem_append_left _ (List.mem_append_left _ (List.mem_append_left _ (List.mem_append_left _ (List.mem_append_left _ (List.mem_append_left _ h))))))))
theorem wk_5 : ∀ w ∈ wsL_law_r5, w ∈ wsL_law := fun _ h => List.mem_append_left _ (List.mem_append_left _ (List.mem_append_left _ (List.mem_append_left _ (List.mem_append_left _ (List.mem_append_left _ (List.mem_append_left _ (List.mem_append_left _ (List.mem_append_right _ (List.mem_append_right _ (List.mem_append_right _ (List.mem_append_right _ (List.mem_append_left _ h))))))))))))
theorem wk_6 : ∀ w ∈ wsL_law_r6, w ∈ wsL_law := fun _ h => List.mem_append_left _ (List.mem_append_left _ (List.mem_append_left _ (List.mem_append_left _ (List.mem_append_left _ (List.mem_append_left _ (List.mem_append_left _ (List.mem_append_left _ (List.mem_append_right _ (List.mem_append_right _ (List.mem_append_right _ (List.mem_append_right _ (List.mem_append_right _ (List.mem_append_left _ h)))))))))))))
theorem wk_7 : ∀ w ∈ wsL_law_r7, w ∈ wsL_law := fun _ h => List.mem_append_left _ (List.mem_append_left _ (List.mem_append_left _ (List.mem_append_left _ (List.mem_append_left _ (List.mem_append_left _ (List.mem_append_left _ (List.mem_append_left _ (List.mem_append_right _ (List.mem_append_right _ (List.mem_append_right _ (List.mem_append_right _ (List.mem_append_right _ (List.mem_append_right _ (List.mem_append_left _ h))))))))))))))
theorem wk_8 : ∀ w ∈ wsL_law_r8, w ∈ wsL_law := fun _ h => List.mem_append_left _ (List.mem_append_left _ (List.mem_append_left _ (List.mem_append_left _ (List.mem_append_left _ (List.mem_append_left _ (List.mem_append_left _ (List.mem_append_left _ (List.mem_append_right _ (List.mem_append_right _ (List.mem_append_right _ (List.mem_append_right _ (List.mem_append_right _ (List.mem_append_right _ (List.mem_append_right _ (List.mem_append_left _ h)))))))))))))))
theorem wk_9 : ∀ w ∈ wsL_law_r9, w ∈ wsL_law := fun _ h => List.mem_append_left _ (List.mem_append_left _ (List.mem_append_left _ (List.mem_append_left _ (List.mem_append_left _ (List.mem_append_left _ (List.mem_append_left _ (List.mem_append_left _ (List.mem_append_right _ (List.mem_append_right _ (List.mem_append_right _ (List.mem_append_right _ (List.mem_append_right _ (List.mem_append_right _ (List.mem_append_right _ (List.mem_append_right _ (List.mem_append_left _ h))))))))))))))))
theorem wk_14 : ∀ w ∈ wsL_law_r14, w ∈ wsL_law := fun _ h => List.mem_append_left _ (List.mem_append_left _ (List.mem_append_left _ (List.mem_append_left _ (List.mem_append_left _ (List.mem_append_left _ (List.mem_append_left _ (List.mem_append_left _ (List.mem_append_right _ (List.mem_append_right _ (List.mem_append_right _ (List.mem_append_right _ (List.mem_append_right _ (List.mem_append_right _ (List.mem_append_right _ (List.mem_append_right _ (List.mem_append_right _ (List.mem_append_right _ (List.mem_append_right _ (List.mem_append_right _ (List.mem_append_right _ (List.mem_append_left _ h)))))))))))))))))))))
theorem wk_18 : ∀ w ∈ wsL_law_r18, w ∈ wsL_law := fun _ h => List.mem_append_left _ (List.mem_append_left _ (List.mem_append_left _ (List.mem_append_left _ (List.mem_append_left _ (List.mem_append_left _ (List.mem_append_left _ (List.mem_append_left _ (List.mem_append_right _ (List.mem_append_right _ (List.mem_append_right _ (List.mem_append_right _ (List.mem_append_right _ (List.mem_append_right _ (List.mem_append_right _ (List.mem_append_right _ (List.mem_append_right _ (List.mem_append_right _ (List.mem_append_right _ (List.mem_append_right _ (List.mem_append_right _ (List.mem_append_right _ (List.mem_append_right _ (List.mem_append_right _ (List.mem_append_right _ (List.mem_append_left _ h)))))))))))))))))))))))))
theorem wk_19 : ∀ w ∈ wsL_law_r19, w ∈ wsL_law := fun _ h => List.mem_append_left _ (List.mem_append_left _ (List.mem_append_left _ (List.mem_append_left _ (List.mem_append_left _ (List.mem_append_left _ (List.mem_append_left _ (List.mem_append_left _ (List.mem_append_right _ (List.mem_append_right _ (List.mem_append_right _ (List.mem_append_right _ (List.mem_append_right _ (List.mem_append_right _ (List.mem_append_right _ (List.mem_append_right _ (List.mem_append_right _ (List.mem_append_right _ (List.mem_append_right _ (List.mem_append_right _ (List.mem_append_right _ (List.mem_append_right _ (List.mem_append_right _ (List.mem_append_right _ (List.mem_append_right _ (List.mem_append_right _ (List.mem_append_left _ h))))))))))))))))))))))))))
theorem wk_20 : ∀ w ∈ wsL_law_r20, w ∈ wsL_law := fun _ h => List.mem_append_left _ (List.mem_append_left _ (List.mem_append_left _ (List.mem_append_left _ (List.mem_append_left _ (List.mem_append_left _ (List.mem_append_left _ (List.mem_append_left _ (List.mem_append_right _ (List.mem_append_right _ (List.mem_append_right _ (List.mem_append_right _ (List.mem_append_right _ (List.mem_append_right _ (List.mem_append_right _ (List.mem_append_right _ (List.mem_append_right _ (List.mem_append_right _ (List.mem_append_right _ (List.mem_append_right _ (List.mem_append_right _ (List.mem_append_right _ (List.mem_append_right _ (List.mem_append_right _ (List.mem_append_right _ (List.mem_append_right _ (List.mem_append_right _ (List.mem_append_left _ h)))))))))))))))))))))))))))
theorem wk_22 : ∀ w ∈ wsL_law_r22, w ∈ wsL_law := fun _ h => List.mem_append_left _ (List.mem_append_left _ (List.mem_append_left _ (List.mem_append_left _ (List.mem_append_left _ (List.mem_append_left _ (List.mem_append_left _ (List.mem_append_left _ (List.mem_append_right _ (List.mem_append_right _ (List.mem_append_right _ (List.mem_append_right _ (List.mem_append_right _ (List.mem_append_right _ (List.mem_append_right _ (List.mem_append_right _ (List.mem_append_right _ (List.mem_append_right _ (List.mem_append_right _ (List.mem_append_right _ (List.mem_append_right _ (List.mem_append_right _ (List.mem_append_right _ (List.mem_append_right _ (List.mem_append_right _ (List.mem_append_right _ (List.mem_append_right _ (List.mem_append_right _ (List.mem_append_right _ (List.mem_append_left _ h)))))))))))))))))))))))))))))
theorem wk_23 : ∀ w ∈ wsL_law_r23, w ∈ wsL_law := fun _ h => List.mem_append_left _ (List.mem_append_left _ (List.mem_append_left _ (List.mem_append_left _ (List.mem_append_left _ (List.mem_append_left _ (List.mem_append_left _ (List.mem_append_left _ (List.mem_append_right _ (List.mem_append_right _ (List.mem_append_right _ (List.mem_append_right _ (List.mem_append_right _ (List.mem_append_right _ (List.mem_append_right _ (List.mem_append_right _ (List.mem_append_right _ (List.mem_append_right _ (List.mem_append_right _ (List.mem_append_right _ (List.mem_append_right _ (List.mem_append_right _ (List.mem_append_right _ (List.mem_append_right _ (List.mem_append_right _ (List.mem_append_right _ (List.mem_append_right _ (List.mem_append_right _ (List.mem_append_right _ (List.mem_append_right _ (List.mem_append_left _ h))))))))))))))))))))))))))))))
theorem wk_24 : ∀ w ∈ wsL_law_r24, w ∈ wsL_law := fun _ h => List.mem_append_left _ (List.mem_append_left _ (List.mem_append_left _ (List.mem_append_left _ (List.mem_append_left _ (List.mem_append_left _ (List.mem_append_left _ (List.mem_append_left _ (List.mem_append_right _ (List.mem_append_right _ (List.mem_append_right _ (List.mem_append_right _ (List.mem_append_right _ (List.mem_append_right _ (List.mem_append_right _ (List.mem_append_right _ (List.mem_append_right _ (List.mem_append_right _ (List.mem_append_right _ (List.mem_append_right _ (List.mem_append_right _ (List.mem_append_right _ (List.mem_append_right _ (List.mem_append_right _ (List.mem_append_right _ (List.mem_append_right _ (List.mem_append_right _ (List.mem_append_right _ (List.mem_append_right _ (List.mem_append_right _ (List.mem_append_right _ (List.mem_append_left _ h)))))))))))))))))))))))))))))))
theorem wk_25 : ∀ w ∈ wsL_law_r25, w ∈ wsL_law := fun _ h => List.mem_append_left _ (List.mem_append_left _ (List.mem_append_left _ (List.mem_append_left _ (List.mem_append_left _ (List.mem_append_left _ (List.mem_append_left _ (List.mem_append_left _ (List.mem_append_right _ (List.mem_append_right _ (List.mem_append_right _ (List.mem_append_right _ (List.mem_append_right _ (List.mem_append_right _ (List.mem_append_right _ (List.mem_append_right _ (List.mem_append_right _ (List.mem_append_right _ (List.mem_append_right _ (List.mem_append_right _ (List.mem_append_right _ (List.mem_append_right _ (List.mem_append_right _ (List.mem_append_right _ (List.mem_append_right _ (List.mem_append_right _ (List.mem_append_right _ (List.mem_append_right _ (List.mem_append_right _ (List.mem_append_right _ (List.mem_append_right _ (List.mem_append_right _ (List.mem_append_left _ h))))))))))))))))))))))))))))))))
theorem wk_26 : ∀ w ∈ wsL_law_r26, w ∈ wsL_law := fun _ h => List.mem_append_left _ (List.mem_append_left _ (List.mem_append_left _ (List.mem_append_left _ (List.mem_append_left _ (List.mem_append_left _ (List.mem_append_left _ (List.mem_append_left _ (List.mem_append_right _ (List.mem_append_right _ (List.mem_append_right _ (List.mem_append_right _ (List.mem_append_right _ (List.mem_append_right _ (List.mem_append_right _ (List.mem_append_right _ (List.mem_append_right _ (List.mem_append_right _ (List.mem_append_right _ (List.mem_append_right _ (List.mem_append_right _ (List.mem_append_right _ (List.mem_append_right _ (List.mem_append_right _ (List.mem_append_right _ (List.mem_append_right _ (List.mem_append_right _ (List.mem_append_right _ (List.mem_append_right _ (List.mem_append_right _ (List.mem_append_right _ (List.mem_append_right _ (List.mem_append_right _ (List.mem_append_left _ h)))))))))))))))))))))))))))))))))
theorem wk_27 : ∀ w ∈ wsL_law_r27, w ∈ wsL_law := fun _ h => List.mem_append_left _ (List.mem_append_left _ (List.mem_append_left _ (List.mem_append_left _ (List.mem_append_left _ (List.mem_append_left _ (List.mem_append_left _ (List.mem_append_left _ (List.mem_append_right _ (List.mem_append_right _ (List.mem_append_right _ (List.mem_append_right _ (List.mem_append_right _ (List.mem_append_right _ (List.mem_append_right _ (List.mem_append_right _ (List.mem_append_right _ (List.mem_append_right _ (List.mem_append_right _ (List.mem_append_right _ (List.mem_append_right _ (List.mem_append_right _ (List.mem_append_right _ (List.mem_append_right _ (List.mem_append_right _ (List.mem_append_right _ (List.mem_append_right _ (List.mem_append_right _ (List.mem_append_right _ (List.mem_append_right _ (List.mem_append_right _ (List.mem_append_right _ (List.mem_append_right _ (List.mem_append_right _ (h))))))))))))))))))))))))))))))))))
theorem wn_1_2 : Cond.initialized RX5 ∈ wsL_law := wk_1 _ (List.mem_of_getElem? (i := 2) rfl)
theorem wn_1_5 : Cond.initialized RX6 ∈ wsL_law := wk_1 _ (List.mem_of_getElem? (i := 5) rfl)
theorem wn_5_0 : Cond.methodLink RL 13 yX5_layout ∈ wsL_law := wk_5 _ (List.mem_of_getElem? (i := 0) rfl)
theorem wn_5_1 : Cond.instanceMethod yX5_layout ∈ wsL_law := wk_5 _ (List.mem_of_getElem? (i := 1) rfl)
theorem wn_5_2 : Cond.selects RX5 yX5_layout yX5_layout ∈ wsL_law := wk_5 _ (List.mem_of_getElem? (i := 2) rfl)
theorem wn_5_3 : Cond.code yX5_layout cX5_layout 4 (some .int) ∈ wsL_law := wk_5 _ (List.mem_of_getElem? (i := 3) rfl)
theorem wn_6_6 : Cond.methodLink RL 17 yX6_layout ∈ wsL_law := wk_6 _ (List.mem_of_getElem? (i := 6) rfl)
theorem wn_6_7 : Cond.instanceMethod yX6_layout ∈ wsL_law := wk_6 _ (List.mem_of_getElem? (i := 7) rfl)
theorem wn_6_8 : Cond.selects RX6 yX6_layout yX6_layout ∈ wsL_law := wk_6 _ (List.mem_of_getElem? (i := 8) rfl)
theorem wn_6_9 : Cond.code yX6_layout cX6_layout 4 (some .int) ∈ wsL_law := wk_6 _ (List.mem_of_getElem? (i := 9) rfl)
theorem wn_7_2 : Cond.methodLink RL 18 yX5_figure ∈ wsL_law := wk_7 _ (List.mem_of_getElem? (i := 2) rfl)
theorem wn_7_3 : Cond.instanceMethod yX5_figure ∈ wsL_law := wk_7 _ (List.mem_of_getElem? (i := 3) rfl)
theorem wn_7_4 : Cond.selects RX5 yX5_figure yX5_figure ∈ wsL_law := wk_7 _ (List.mem_of_getElem? (i := 4) rfl)
theorem wn_7_5 : Cond.code yX5_figure cX5_figure 6 (some .int) ∈ wsL_law := wk_7 _ (List.mem_of_getElem? (i := 5) rfl)
theorem wn_7_20 : Cond.methodLink RL 22 yX6_figure ∈ wsL_law := wk_7 _ (List.mem_of_getElem? (i := 20) rfl)
theorem wn_7_21 : Cond.instanceMethod yX6_figure ∈ wsL_law := wk_7 _ (List.mem_of_getElem? (i := 21) rfl)
theorem wn_7_22 : Cond.selects RX6 yX6_figure yX6_figure ∈ wsL_law := wk_7 _ (List.mem_of_getElem? (i := 22) rfl)
theorem wn_7_23 : Cond.code yX6_figure cX6_figure 6 (some .int) ∈ wsL_law := wk_7 _ (List.mem_of_getElem? (i := 23) rfl)
theorem wn_8_5 : Cond.methodLink RL 23 yX5_drop ∈ wsL_law := wk_8 _ (List.mem_of_getElem? (i := 5) rfl)
theorem wn_8_6 : Cond.instanceMethod yX5_drop ∈ wsL_law := wk_8 _ (List.mem_of_getElem? (i := 6) rfl)
theorem wn_8_7 : Cond.selects RX5 yX5_drop yX5_drop ∈ wsL_law := wk_8 _ (List.mem_of_getElem? (i := 7) rfl)
theorem wn_8_8 : Cond.code yX5_drop cX5_drop 2 (some .int) ∈ wsL_law := wk_8 _ (List.mem_of_getElem? (i := 8) rfl)
theorem wn_8_18 : Cond.methodLink RL 27 yX6_drop ∈ wsL_law := wk_8 _ (List.mem_of_getElem? (i := 18) rfl)
theorem wn_8_19 : Cond.instanceMethod yX6_drop ∈ wsL_law := wk_8 _ (List.mem_of_getElem? (i := 19) rfl)
theorem wn_8_20 : Cond.selects RX6 yX6_drop yX6_drop ∈ wsL_law := wk_8 _ (List.mem_of_getElem? (i := 20) rfl)
theorem wn_8_21 : Cond.code yX6_drop cX6_drop 2 (some .int) ∈ wsL_law := wk_8 _ (List.mem_of_getElem? (i := 21) rfl)
theorem wn_9_7 : Cond.methodLink RL 28 yX5_mention ∈ wsL_law := wk_9 _ (List.mem_of_getElem? (i := 7) rfl)
theorem wn_9_8 : Cond.instanceMethod yX5_mention ∈ wsL_law := wk_9 _ (List.mem_of_getElem? (i := 8) rfl)
theorem wn_9_9 : Cond.selects RX5 yX5_mention yX5_mention ∈ wsL_law := wk_9 _ (List.mem_of_getElem? (i := 9) rfl)
theorem wn_9_10 : Cond.code yX5_mention cX5_mention 4 (some .int) ∈ wsL_law := wk_9 _ (List.mem_of_getElem? (i := 10) rfl)
theorem wn_9_11 : Cond.methodLink RL 31 yX6_mention ∈ wsL_law := wk_9 _ (List.mem_of_getElem? (i := 11) rfl)
theorem wn_9_12 : Cond.instanceMethod yX6_mention ∈ wsL_law := wk_9 _ (List.mem_of_getElem? (i := 12) rfl)
theorem wn_9_13 : Cond.selects RX6 yX6_mention yX6_mention ∈ wsL_law := wk_9 _ (List.mem_of_getElem? (i := 13) rfl)
theorem wn_9_14 : Cond.code yX6_mention cX6_mention 4 (some .int) ∈ wsL_law := wk_9 _ (List.mem_of_getElem? (i := 14) rfl)
theorem wn_9_15 : Cond.methodLink RL 32 yX5_drift ∈ wsL_law := wk_9 _ (List.mem_of_getElem? (i := 15) rfl)
theorem wn_9_16 : Cond.instanceMethod yX5_drift ∈ wsL_law := wk_9 _ (List.mem_of_getElem? (i := 16) rfl)
theorem wn_9_17 : Cond.selects RX5 yX5_drift yX5_drift ∈ wsL_law := wk_9 _ (List.mem_of_getElem? (i := 17) rfl)
theorem wn_9_18 : Cond.code yX5_drift cX5_drift 3 (some .int) ∈ wsL_law := wk_9 _ (List.mem_of_getElem? (i := 18) rfl)
theorem wn_14_19 : Cond.methodLink RL 35 yX6_drift ∈ wsL_law := wk_14 _ (List.mem_of_getElem? (i := 19) rfl)
theorem wn_14_20 : Cond.instanceMethod yX6_drift ∈ wsL_law := wk_14 _ (List.mem_of_getElem? (i := 20) rfl)
theorem wn_14_21 : Cond.selects RX6 yX6_drift yX6_drift ∈ wsL_law := wk_14 _ (List.mem_of_getElem? (i := 21) rfl)
theorem wn_14_22 : Cond.code yX6_drift cX6_drift 9 (some .int) ∈ wsL_law := wk_14 _ (List.mem_of_getElem? (i := 22) rfl)
theorem wn_18_1 : Cond.methodLink RL 36 yX5_undo ∈ wsL_law := wk_18 _ (List.mem_of_getElem? (i := 1) rfl)
theorem wn_18_2 : Cond.instanceMethod yX5_undo ∈ wsL_law := wk_18 _ (List.mem_of_getElem? (i := 2) rfl)
theorem wn_18_3 : Cond.selects RX5 yX5_undo yX5_undo ∈ wsL_law := wk_18 _ (List.mem_of_getElem? (i := 3) rfl)
theorem wn_18_4 : Cond.code yX5_undo cX5_undo 1 (some .int) ∈ wsL_law := wk_18 _ (List.mem_of_getElem? (i := 4) rfl)
theorem wn_18_10 : Cond.methodLink RL 40 yX6_undo ∈ wsL_law := wk_18 _ (List.mem_of_getElem? (i := 10) rfl)
theorem wn_18_11 : Cond.instanceMethod yX6_undo ∈ wsL_law := wk_18 _ (List.mem_of_getElem? (i := 11) rfl)
theorem wn_18_12 : Cond.selects RX6 yX6_undo yX6_undo ∈ wsL_law := wk_18 _ (List.mem_of_getElem? (i := 12) rfl)
theorem wn_18_13 : Cond.code yX6_undo cX6_undo 1 (some .int) ∈ wsL_law := wk_18 _ (List.mem_of_getElem? (i := 13) rfl)
theorem wn_18_15 : Cond.methodLink RL 41 yX5_told ∈ wsL_law := wk_18 _ (List.mem_of_getElem? (i := 15) rfl)
theorem wn_18_16 : Cond.instanceMethod yX5_told ∈ wsL_law := wk_18 _ (List.mem_of_getElem? (i := 16) rfl)
theorem wn_18_17 : Cond.selects RX5 yX5_told yX5_told ∈ wsL_law := wk_18 _ (List.mem_of_getElem? (i := 17) rfl)
theorem wn_18_18 : Cond.code yX5_told cX5_told 2 (some .int) ∈ wsL_law := wk_18 _ (List.mem_of_getElem? (i := 18) rfl)
theorem wn_19_22 : Cond.methodLink RL 44 yX6_told ∈ wsL_law := wk_19 _ (List.mem_of_getElem? (i := 22) rfl)
theorem wn_19_23 : Cond.instanceMethod yX6_told ∈ wsL_law := wk_19 _ (List.mem_of_getElem? (i := 23) rfl)
theorem wn_20_0 : Cond.selects RX6 yX6_told yX6_told ∈ wsL_law := wk_20 _ (List.mem_of_getElem? (i := 0) rfl)
theorem wn_20_1 : Cond.code yX6_told cX6_told 2 (some .int) ∈ wsL_law := wk_20 _ (List.mem_of_getElem? (i := 1) rfl)
theorem wn_22_4 : Cond.methodLink RL 45 yX5_figureOf ∈ wsL_law := wk_22 _ (List.mem_of_getElem? (i := 4) rfl)
theorem wn_22_5 : Cond.instanceMethod yX5_figureOf ∈ wsL_law := wk_22 _ (List.mem_of_getElem? (i := 5) rfl)
theorem wn_22_6 : Cond.selects RX5 yX5_figureOf yX5_figureOf ∈ wsL_law := wk_22 _ (List.mem_of_getElem? (i := 6) rfl)
theorem wn_22_7 : Cond.code yX5_figureOf cX5_figureOf 3 (some .int) ∈ wsL_law := wk_22 _ (List.mem_of_getElem? (i := 7) rfl)
theorem wn_22_11 : Cond.methodLink RL 48 yX6_figureOf ∈ wsL_law := wk_22 _ (List.mem_of_getElem? (i := 11) rfl)
theorem wn_22_12 : Cond.instanceMethod yX6_figureOf ∈ wsL_law := wk_22 _ (List.mem_of_getElem? (i := 12) rfl)
theorem wn_22_13 : Cond.selects RX6 yX6_figureOf yX6_figureOf ∈ wsL_law := wk_22 _ (List.mem_of_getElem? (i := 13) rfl)
theorem wn_22_14 : Cond.code yX6_figureOf cX6_figureOf 4 (some .int) ∈ wsL_law := wk_22 _ (List.mem_of_getElem? (i := 14) rfl)
theorem wn_22_15 : Cond.methodLink RL 49 yX5_page ∈ wsL_law := wk_22 _ (List.mem_of_getElem? (i := 15) rfl)
theorem wn_22_16 : Cond.instanceMethod yX5_page ∈ wsL_law := wk_22 _ (List.mem_of_getElem? (i := 16) rfl)
theorem wn_22_17 : Cond.selects RX5 yX5_page yX5_page ∈ wsL_law := wk_22 _ (List.mem_of_getElem? (i := 17) rfl)
theorem wn_22_18 : Cond.code yX5_page cX5_page 6 (some .int) ∈ wsL_law := wk_22 _ (List.mem_of_getElem? (i := 18) rfl)
theorem wn_23_3 : Cond.methodLink RL 52 yX6_page ∈ wsL_law := wk_23 _ (List.mem_of_getElem? (i := 3) rfl)
theorem wn_23_4 : Cond.instanceMethod yX6_page ∈ wsL_law := wk_23 _ (List.mem_of_getElem? (i := 4) rfl)
theorem wn_23_5 : Cond.selects RX6 yX6_page yX6_page ∈ wsL_law := wk_23 _ (List.mem_of_getElem? (i := 5) rfl)
theorem wn_23_6 : Cond.code yX6_page cX6_page 6 (some .int) ∈ wsL_law := wk_23 _ (List.mem_of_getElem? (i := 6) rfl)
theorem wn_23_7 : Cond.methodLink RL 53 yX5_pageOf ∈ wsL_law := wk_23 _ (List.mem_of_getElem? (i := 7) rfl)
theorem wn_23_8 : Cond.instanceMethod yX5_pageOf ∈ wsL_law := wk_23 _ (List.mem_of_getElem? (i := 8) rfl)
theorem wn_23_9 : Cond.selects RX5 yX5_pageOf yX5_pageOf ∈ wsL_law := wk_23 _ (List.mem_of_getElem? (i := 9) rfl)
theorem wn_23_10 : Cond.code yX5_pageOf cX5_pageOf 2 (some .int) ∈ wsL_law := wk_23 _ (List.mem_of_getElem? (i := 10) rfl)
theorem wn_23_11 : Cond.methodLink RL 56 yX6_pageOf ∈ wsL_law := wk_23 _ (List.mem_of_getElem? (i := 11) rfl)
theorem wn_23_12 : Cond.instanceMethod yX6_pageOf ∈ wsL_law := wk_23 _ (List.mem_of_getElem? (i := 12) rfl)
theorem wn_23_13 : Cond.selects RX6 yX6_pageOf yX6_pageOf ∈ wsL_law := wk_23 _ (List.mem_of_getElem? (i := 13) rfl)
theorem wn_23_14 : Cond.code yX6_pageOf cX6_pageOf 2 (some .int) ∈ wsL_law := wk_23 _ (List.mem_of_getElem? (i := 14) rfl)
theorem wn_23_15 : Cond.methodLink RL 57 yX5_fits ∈ wsL_law := wk_23 _ (List.mem_of_getElem? (i := 15) rfl)
theorem wn_23_16 : Cond.instanceMethod yX5_fits ∈ wsL_law := wk_23 _ (List.mem_of_getElem? (i := 16) rfl)
theorem wn_23_17 : Cond.selects RX5 yX5_fits yX5_fits ∈ wsL_law := wk_23 _ (List.mem_of_getElem? (i := 17) rfl)
theorem wn_23_18 : Cond.code yX5_fits cX5_fits 3 (some .int) ∈ wsL_law := wk_23 _ (List.mem_of_getElem? (i := 18) rfl)
theorem wn_23_20 : Cond.methodLink RL 60 yX6_fits ∈ wsL_law := wk_23 _ (List.mem_of_getElem? (i := 20) rfl)
theorem wn_23_21 : Cond.instanceMethod yX6_fits ∈ wsL_law := wk_23 _ (List.mem_of_getElem? (i := 21) rfl)
theorem wn_23_22 : Cond.selects RX6 yX6_fits yX6_fits ∈ wsL_law := wk_23 _ (List.mem_of_getElem? (i := 22) rfl)
theorem wn_23_23 : Cond.code yX6_fits cX6_fits 3 (some .int) ∈ wsL_law := wk_23 _ (List.mem_of_getElem? (i := 23) rfl)
theorem wn_24_0 : Cond.methodLink RL 61 yX5_ways ∈ wsL_law := wk_24 _ (List.mem_of_getElem? (i := 0) rfl)
theorem wn_24_1 : Cond.instanceMethod yX5_ways ∈ wsL_law := wk_24 _ (List.mem_of_getElem? (i := 1) rfl)
theorem wn_24_2 : Cond.selects RX5 yX5_ways yX5_ways ∈ wsL_law := wk_24 _ (List.mem_of_getElem? (i := 2) rfl)
theorem wn_24_3 : Cond.code yX5_ways cX5_ways 1 (some .long) ∈ wsL_law := wk_24 _ (List.mem_of_getElem? (i := 3) rfl)
theorem wn_24_8 : Cond.methodLink RL 65 yX6_ways ∈ wsL_law := wk_24 _ (List.mem_of_getElem? (i := 8) rfl)
theorem wn_24_9 : Cond.instanceMethod yX6_ways ∈ wsL_law := wk_24 _ (List.mem_of_getElem? (i := 9) rfl)
theorem wn_24_10 : Cond.selects RX6 yX6_ways yX6_ways ∈ wsL_law := wk_24 _ (List.mem_of_getElem? (i := 10) rfl)
theorem wn_24_11 : Cond.code yX6_ways cX6_ways 1 (some .long) ∈ wsL_law := wk_24 _ (List.mem_of_getElem? (i := 11) rfl)
theorem wn_24_12 : Cond.methodLink RL 66 yX5_without ∈ wsL_law := wk_24 _ (List.mem_of_getElem? (i := 12) rfl)
theorem wn_24_13 : Cond.instanceMethod yX5_without ∈ wsL_law := wk_24 _ (List.mem_of_getElem? (i := 13) rfl)
theorem wn_24_14 : Cond.selects RX5 yX5_without yX5_without ∈ wsL_law := wk_24 _ (List.mem_of_getElem? (i := 14) rfl)
theorem wn_24_15 : Cond.code yX5_without cX5_without 2 (some .int) ∈ wsL_law := wk_24 _ (List.mem_of_getElem? (i := 15) rfl)
theorem wn_24_21 : Cond.methodLink RL 69 yX6_without ∈ wsL_law := wk_24 _ (List.mem_of_getElem? (i := 21) rfl)
theorem wn_24_22 : Cond.instanceMethod yX6_without ∈ wsL_law := wk_24 _ (List.mem_of_getElem? (i := 22) rfl)
theorem wn_24_23 : Cond.selects RX6 yX6_without yX6_without ∈ wsL_law := wk_24 _ (List.mem_of_getElem? (i := 23) rfl)
theorem wn_25_0 : Cond.code yX6_without cX6_without 3 (some .int) ∈ wsL_law := wk_25 _ (List.mem_of_getElem? (i := 0) rfl)
theorem wn_25_1 : Cond.methodLink RL 70 yX5_moved ∈ wsL_law := wk_25 _ (List.mem_of_getElem? (i := 1) rfl)
theorem wn_25_2 : Cond.instanceMethod yX5_moved ∈ wsL_law := wk_25 _ (List.mem_of_getElem? (i := 2) rfl)
theorem wn_25_3 : Cond.selects RX5 yX5_moved yX5_moved ∈ wsL_law := wk_25 _ (List.mem_of_getElem? (i := 3) rfl)
theorem wn_25_4 : Cond.code yX5_moved cX5_moved 3 (some .int) ∈ wsL_law := wk_25 _ (List.mem_of_getElem? (i := 4) rfl)
theorem wn_25_5 : Cond.methodLink RL 73 yX6_moved ∈ wsL_law := wk_25 _ (List.mem_of_getElem? (i := 5) rfl)
theorem wn_25_6 : Cond.instanceMethod yX6_moved ∈ wsL_law := wk_25 _ (List.mem_of_getElem? (i := 6) rfl)
theorem wn_25_7 : Cond.selects RX6 yX6_moved yX6_moved ∈ wsL_law := wk_25 _ (List.mem_of_getElem? (i := 7) rfl)
theorem wn_25_8 : Cond.code yX6_moved cX6_moved 5 (some .int) ∈ wsL_law := wk_25 _ (List.mem_of_getElem? (i := 8) rfl)
theorem wn_25_9 : Cond.methodLink RL 74 yX5_from ∈ wsL_law := wk_25 _ (List.mem_of_getElem? (i := 9) rfl)
theorem wn_25_10 : Cond.instanceMethod yX5_from ∈ wsL_law := wk_25 _ (List.mem_of_getElem? (i := 10) rfl)
theorem wn_25_11 : Cond.selects RX5 yX5_from yX5_from ∈ wsL_law := wk_25 _ (List.mem_of_getElem? (i := 11) rfl)
theorem wn_25_12 : Cond.code yX5_from cX5_from 4 (some .int) ∈ wsL_law := wk_25 _ (List.mem_of_getElem? (i := 12) rfl)
theorem wn_25_17 : Cond.methodLink RL 78 yX6_from ∈ wsL_law := wk_25 _ (List.mem_of_getElem? (i := 17) rfl)
theorem wn_25_18 : Cond.instanceMethod yX6_from ∈ wsL_law := wk_25 _ (List.mem_of_getElem? (i := 18) rfl)
theorem wn_25_19 : Cond.selects RX6 yX6_from yX6_from ∈ wsL_law := wk_25 _ (List.mem_of_getElem? (i := 19) rfl)
theorem wn_25_20 : Cond.code yX6_from cX6_from 4 (some .int) ∈ wsL_law := wk_25 _ (List.mem_of_getElem? (i := 20) rfl)
theorem wn_25_21 : Cond.methodLink RL 79 yX5_hand ∈ wsL_law := wk_25 _ (List.mem_of_getElem? (i := 21) rfl)
theorem wn_25_22 : Cond.instanceMethod yX5_hand ∈ wsL_law := wk_25 _ (List.mem_of_getElem? (i := 22) rfl)
theorem wn_25_23 : Cond.selects RX5 yX5_hand yX5_hand ∈ wsL_law := wk_25 _ (List.mem_of_getElem? (i := 23) rfl)
theorem wn_26_0 : Cond.code yX5_hand cX5_hand 2 (some .int) ∈ wsL_law := wk_26 _ (List.mem_of_getElem? (i := 0) rfl)
theorem wn_26_1 : Cond.methodLink RL 82 yX6_hand ∈ wsL_law := wk_26 _ (List.mem_of_getElem? (i := 1) rfl)
theorem wn_26_2 : Cond.instanceMethod yX6_hand ∈ wsL_law := wk_26 _ (List.mem_of_getElem? (i := 2) rfl)
theorem wn_26_3 : Cond.selects RX6 yX6_hand yX6_hand ∈ wsL_law := wk_26 _ (List.mem_of_getElem? (i := 3) rfl)
theorem wn_26_4 : Cond.code yX6_hand cX6_hand 2 (some .int) ∈ wsL_law := wk_26 _ (List.mem_of_getElem? (i := 4) rfl)
theorem wn_26_5 : Cond.methodLink RL 83 yX5_clear ∈ wsL_law := wk_26 _ (List.mem_of_getElem? (i := 5) rfl)
theorem wn_26_6 : Cond.instanceMethod yX5_clear ∈ wsL_law := wk_26 _ (List.mem_of_getElem? (i := 6) rfl)
theorem wn_26_7 : Cond.selects RX5 yX5_clear yX5_clear ∈ wsL_law := wk_26 _ (List.mem_of_getElem? (i := 7) rfl)
theorem wn_26_8 : Cond.code yX5_clear cX5_clear 2 (some .int) ∈ wsL_law := wk_26 _ (List.mem_of_getElem? (i := 8) rfl)
theorem wn_26_9 : Cond.methodLink RL 86 yX6_clear ∈ wsL_law := wk_26 _ (List.mem_of_getElem? (i := 9) rfl)
theorem wn_26_10 : Cond.instanceMethod yX6_clear ∈ wsL_law := wk_26 _ (List.mem_of_getElem? (i := 10) rfl)
theorem wn_26_11 : Cond.selects RX6 yX6_clear yX6_clear ∈ wsL_law := wk_26 _ (List.mem_of_getElem? (i := 11) rfl)
theorem wn_26_12 : Cond.code yX6_clear cX6_clear 2 (some .int) ∈ wsL_law := wk_26 _ (List.mem_of_getElem? (i := 12) rfl)
theorem wn_26_13 : Cond.methodLink RL 87 yX5_judge ∈ wsL_law := wk_26 _ (List.mem_of_getElem? (i := 13) rfl)
theorem wn_26_14 : Cond.instanceMethod yX5_judge ∈ wsL_law := wk_26 _ (List.mem_of_getElem? (i := 14) rfl)
theorem wn_26_15 : Cond.selects RX5 yX5_judge yX5_judge ∈ wsL_law := wk_26 _ (List.mem_of_getElem? (i := 15) rfl)
theorem wn_26_16 : Cond.code yX5_judge cX5_judge 3 (some .int) ∈ wsL_law := wk_26 _ (List.mem_of_getElem? (i := 16) rfl)
theorem wn_26_22 : Cond.methodLink RL 90 yX6_judge ∈ wsL_law := wk_26 _ (List.mem_of_getElem? (i := 22) rfl)
theorem wn_26_23 : Cond.instanceMethod yX6_judge ∈ wsL_law := wk_26 _ (List.mem_of_getElem? (i := 23) rfl)
theorem wn_27_0 : Cond.selects RX6 yX6_judge yX6_judge ∈ wsL_law := wk_27 _ (List.mem_of_getElem? (i := 0) rfl)
theorem wn_27_1 : Cond.code yX6_judge cX6_judge 6 (some .int) ∈ wsL_law := wk_27 _ (List.mem_of_getElem? (i := 1) rfl)
theorem wn_27_2 : Cond.methodLink RL 91 yX5_keep ∈ wsL_law := wk_27 _ (List.mem_of_getElem? (i := 2) rfl)
theorem wn_27_3 : Cond.instanceMethod yX5_keep ∈ wsL_law := wk_27 _ (List.mem_of_getElem? (i := 3) rfl)
theorem wn_27_4 : Cond.selects RX5 yX5_keep yX5_keep ∈ wsL_law := wk_27 _ (List.mem_of_getElem? (i := 4) rfl)
theorem wn_27_5 : Cond.code yX5_keep cX5_keep 2 (some .int) ∈ wsL_law := wk_27 _ (List.mem_of_getElem? (i := 5) rfl)
theorem wn_27_6 : Cond.methodLink RL 94 yX6_keep ∈ wsL_law := wk_27 _ (List.mem_of_getElem? (i := 6) rfl)
theorem wn_27_7 : Cond.instanceMethod yX6_keep ∈ wsL_law := wk_27 _ (List.mem_of_getElem? (i := 7) rfl)
theorem wn_27_8 : Cond.selects RX6 yX6_keep yX6_keep ∈ wsL_law := wk_27 _ (List.mem_of_getElem? (i := 8) rfl)
theorem wn_27_9 : Cond.code yX6_keep cX6_keep 2 (some .int) ∈ wsL_law := wk_27 _ (List.mem_of_getElem? (i := 9) rfl)
theorem wn_27_10 : Cond.methodLink RL 95 yX5_goBack ∈ wsL_law := wk_27 _ (List.mem_of_getElem? (i := 10) rfl)
theorem wn_27_11 : Cond.instanceMethod yX5_goBack ∈ wsL_law := wk_27 _ (List.mem_of_getElem? (i := 11) rfl)
theorem wn_27_12 : Cond.selects RX5 yX5_goBack yX5_goBack ∈ wsL_law := wk_27 _ (List.mem_of_getElem? (i := 12) rfl)
theorem wn_27_13 : Cond.code yX5_goBack cX5_goBack 2 (some .int) ∈ wsL_law := wk_27 _ (List.mem_of_getElem? (i := 13) rfl)
theorem wn_27_14 : Cond.methodLink RL 98 yX6_goBack ∈ wsL_law := wk_27 _ (List.mem_of_getElem? (i := 14) rfl)
theorem wn_27_15 : Cond.instanceMethod yX6_goBack ∈ wsL_law := wk_27 _ (List.mem_of_getElem? (i := 15) rfl)
theorem wn_27_16 : Cond.selects RX6 yX6_goBack yX6_goBack ∈ wsL_law := wk_27 _ (List.mem_of_getElem? (i := 16) rfl)
theorem wn_27_17 : Cond.code yX6_goBack cX6_goBack 2 (some .int) ∈ wsL_law := wk_27 _ (List.mem_of_getElem? (i := 17) rfl)
set_option maxRecDepth 10000 in
set_option maxHeartbeats 1000000 in
theorem lw_layout {x : Xx} (C : Cx x mL) {b N : Nat} {sv : Nat → Int32} (hX : va_X b N sv (xs x) (xs x).heap) (hbl : b < (xs x).heap.size) (hbA : ¬ gA (xg x) b) (hN : N ≤ 3072) {i : Int} (hi : 0 ≤ i ∧ i + 6 ≤ (N : Int)) {M : Mm} (h : INV M) (kk : ∀ B, INV B → Gx x 4 689 [(0, .ref b), (1, vr (xg x) 0), (2, vr (xg x) 105), (3, vi i)] [] B) : Gx x 4 128 [(0, .ref b), (1, vr (xg x) 0), (2, vr (xg x) 105), (3, vi i)] [] M := by
  obtain ⟨p1, h1, k1⟩ := pr_layout (l := xl x) (g := xg x) h (inR_of _) (inR_of _)
  refine g_aload_n (q := 129) C dL_law_128 rfl 1 rfl rfl ?_
  refine g_aload_n (q := 130) C dL_law_129 rfl 0 rfl rfl ?_
  refine g_iload_n (q := 131) C dL_law_130 rfl 3 rfl rfl ?_
  refine g_iconst (q := 132) (z := 1) C dL_law_131 rfl ?_
  refine g_iadd (q := 133) C dL_law_132 rfl ?_
  refine g_sld (q := 134) C hX hbl hbA (i := i + 1) ⟨by omega, by omega⟩ (by omega) dL_law_133 rfl ?_
  refine g_aload_n (q := 135) C dL_law_134 rfl 0 rfl rfl ?_
  refine g_iload_n (q := 136) C dL_law_135 rfl 3 rfl rfl ?_
  refine g_iconst (q := 137) (z := 2) C dL_law_136 rfl ?_
  refine g_iadd (q := 138) C dL_law_137 rfl ?_
  refine g_sld (q := 139) C hX hbl hbA (i := i + 2) ⟨by omega, by omega⟩ (by omega) dL_law_138 rfl ?_
  refine g_callV (q := 142) (k0 := 0) (As := [vi (sv (i + 1).toNat).toInt, vi (sv (i + 2).toNat).toInt]) (st := []) (na := 2) C mX5_layout (by decide) (celr_5 (by decide)) rfl h1 wn_5_0 wn_5_1 wn_5_2 wn_1_2 wn_5_3 (by decide +kernel) rfl rfl (by decide) rfl (Nat.le_of_ble_eq_true rfl) dL_law_139 rfl (fun r1 A hA => ?_)
  obtain ⟨p2, h2, k2⟩ := k1 r1 A hA
  show Gx x 4 142 [(0, .ref b), (1, vr (xg x) 0), (2, vr (xg x) 105), (3, vi i)] [vi r1] A
  refine g_aload_n (q := 143) C dL_law_142 rfl 2 rfl rfl ?_
  refine g_aload_n (q := 144) C dL_law_143 rfl 0 rfl rfl ?_
  refine g_iload_n (q := 145) C dL_law_144 rfl 3 rfl rfl ?_
  refine g_iconst (q := 146) (z := 1) C dL_law_145 rfl ?_
  refine g_iadd (q := 147) C dL_law_146 rfl ?_
  refine g_sld (q := 148) C hX hbl hbA (i := i + 1) ⟨by omega, by omega⟩ (by omega) dL_law_147 rfl ?_
  refine g_aload_n (q := 149) C dL_law_148 rfl 0 rfl rfl ?_
  refine g_iload_n (q := 150) C dL_law_149 rfl 3 rfl rfl ?_
  refine g_iconst (q := 151) (z := 2) C dL_law_150 rfl ?_
  refine g_iadd (q := 152) C dL_law_151 rfl ?_
  refine g_sld (q := 153) C hX hbl hbA (i := i + 2) ⟨by omega, by omega⟩ (by omega) dL_law_152 rfl ?_
  refine g_callV (q := 156) (k0 := 105) (As := [vi (sv (i + 1).toNat).toInt, vi (sv (i + 2).toNat).toInt]) (st := [vi r1]) (na := 2) C mX6_layout (by decide) (celr_6 (by decide)) rfl h2 wn_6_6 wn_6_7 wn_6_8 wn_1_5 wn_6_9 (by decide +kernel) rfl rfl (by decide) rfl (Nat.le_of_ble_eq_true rfl) dL_law_153 rfl (fun r2 B hB => ?_)
  obtain ⟨e, hI⟩ := k2 r2 B hB
  subst e
  show Gx x 4 156 [(0, .ref b), (1, vr (xg x) 0), (2, vr (xg x) 105), (3, vi i)] [vi r1, vi r1] B
  exact g_isame (t := 689) C dL_law_156 (by decide) (kk B hI)
set_option maxRecDepth 10000 in
set_option maxHeartbeats 1000000 in
theorem lw_figure {x : Xx} (C : Cx x mL) {b N : Nat} {sv : Nat → Int32} (hX : va_X b N sv (xs x) (xs x).heap) (hbl : b < (xs x).heap.size) (hbA : ¬ gA (xg x) b) (hN : N ≤ 3072) {i : Int} (hi : 0 ≤ i ∧ i + 6 ≤ (N : Int)) {M : Mm} (h : INV M) (kk : ∀ B, INV B → Gx x 4 689 [(0, .ref b), (1, vr (xg x) 0), (2, vr (xg x) 105), (3, vi i)] [] B) : Gx x 4 161 [(0, .ref b), (1, vr (xg x) 0), (2, vr (xg x) 105), (3, vi i)] [] M := by
  obtain ⟨p1, h1, k1⟩ := pr_figure (l := xl x) (g := xg x) h (inR_of _) (inR_of _) (inR_of _) (inR_of _) (inR_of _)
  refine g_aload_n (q := 162) C dL_law_161 rfl 1 rfl rfl ?_
  refine g_aload_n (q := 163) C dL_law_162 rfl 0 rfl rfl ?_
  refine g_iload_n (q := 164) C dL_law_163 rfl 3 rfl rfl ?_
  refine g_iconst (q := 165) (z := 1) C dL_law_164 rfl ?_
  refine g_iadd (q := 166) C dL_law_165 rfl ?_
  refine g_sld (q := 167) C hX hbl hbA (i := i + 1) ⟨by omega, by omega⟩ (by omega) dL_law_166 rfl ?_
  refine g_aload_n (q := 168) C dL_law_167 rfl 0 rfl rfl ?_
  refine g_iload_n (q := 169) C dL_law_168 rfl 3 rfl rfl ?_
  refine g_iconst (q := 170) (z := 2) C dL_law_169 rfl ?_
  refine g_iadd (q := 171) C dL_law_170 rfl ?_
  refine g_sld (q := 172) C hX hbl hbA (i := i + 2) ⟨by omega, by omega⟩ (by omega) dL_law_171 rfl ?_
  refine g_aload_n (q := 173) C dL_law_172 rfl 0 rfl rfl ?_
  refine g_iload_n (q := 174) C dL_law_173 rfl 3 rfl rfl ?_
  refine g_iconst (q := 175) (z := 3) C dL_law_174 rfl ?_
  refine g_iadd (q := 176) C dL_law_175 rfl ?_
  refine g_sld (q := 177) C hX hbl hbA (i := i + 3) ⟨by omega, by omega⟩ (by omega) dL_law_176 rfl ?_
  refine g_aload_n (q := 178) C dL_law_177 rfl 0 rfl rfl ?_
  refine g_iload_n (q := 179) C dL_law_178 rfl 3 rfl rfl ?_
  refine g_iconst (q := 180) (z := 4) C dL_law_179 rfl ?_
  refine g_iadd (q := 181) C dL_law_180 rfl ?_
  refine g_sld (q := 182) C hX hbl hbA (i := i + 4) ⟨by omega, by omega⟩ (by omega) dL_law_181 rfl ?_
  refine g_aload_n (q := 183) C dL_law_182 rfl 0 rfl rfl ?_
  refine g_iload_n (q := 184) C dL_law_183 rfl 3 rfl rfl ?_
  refine g_iconst (q := 185) (z := 5) C dL_law_184 rfl ?_
  refine g_iadd (q := 186) C dL_law_185 rfl ?_
  refine g_sld (q := 187) C hX hbl hbA (i := i + 5) ⟨by omega, by omega⟩ (by omega) dL_law_186 rfl ?_
  refine g_callV (q := 190) (k0 := 0) (As := [vi (sv (i + 1).toNat).toInt, vi (sv (i + 2).toNat).toInt, vi (sv (i + 3).toNat).toInt, vi (sv (i + 4).toNat).toInt, vi (sv (i + 5).toNat).toInt]) (st := []) (na := 5) C mX5_figure (by decide) (celr_5 (by decide)) rfl h1 wn_7_2 wn_7_3 wn_7_4 wn_1_2 wn_7_5 (by decide +kernel) rfl rfl (by decide) rfl (Nat.le_of_ble_eq_true rfl) dL_law_187 rfl (fun r1 A hA => ?_)
  obtain ⟨p2, h2, k2⟩ := k1 r1 A hA
  show Gx x 4 190 [(0, .ref b), (1, vr (xg x) 0), (2, vr (xg x) 105), (3, vi i)] [vi r1] A
  refine g_aload_n (q := 191) C dL_law_190 rfl 2 rfl rfl ?_
  refine g_aload_n (q := 192) C dL_law_191 rfl 0 rfl rfl ?_
  refine g_iload_n (q := 193) C dL_law_192 rfl 3 rfl rfl ?_
  refine g_iconst (q := 194) (z := 1) C dL_law_193 rfl ?_
  refine g_iadd (q := 195) C dL_law_194 rfl ?_
  refine g_sld (q := 196) C hX hbl hbA (i := i + 1) ⟨by omega, by omega⟩ (by omega) dL_law_195 rfl ?_
  refine g_aload_n (q := 197) C dL_law_196 rfl 0 rfl rfl ?_
  refine g_iload_n (q := 198) C dL_law_197 rfl 3 rfl rfl ?_
  refine g_iconst (q := 199) (z := 2) C dL_law_198 rfl ?_
  refine g_iadd (q := 200) C dL_law_199 rfl ?_
  refine g_sld (q := 201) C hX hbl hbA (i := i + 2) ⟨by omega, by omega⟩ (by omega) dL_law_200 rfl ?_
  refine g_aload_n (q := 202) C dL_law_201 rfl 0 rfl rfl ?_
  refine g_iload_n (q := 203) C dL_law_202 rfl 3 rfl rfl ?_
  refine g_iconst (q := 204) (z := 3) C dL_law_203 rfl ?_
  refine g_iadd (q := 205) C dL_law_204 rfl ?_
  refine g_sld (q := 206) C hX hbl hbA (i := i + 3) ⟨by omega, by omega⟩ (by omega) dL_law_205 rfl ?_
  refine g_aload_n (q := 207) C dL_law_206 rfl 0 rfl rfl ?_
  refine g_iload_n (q := 208) C dL_law_207 rfl 3 rfl rfl ?_
  refine g_iconst (q := 209) (z := 4) C dL_law_208 rfl ?_
  refine g_iadd (q := 210) C dL_law_209 rfl ?_
  refine g_sld (q := 211) C hX hbl hbA (i := i + 4) ⟨by omega, by omega⟩ (by omega) dL_law_210 rfl ?_
  refine g_aload_n (q := 212) C dL_law_211 rfl 0 rfl rfl ?_
  refine g_iload_n (q := 213) C dL_law_212 rfl 3 rfl rfl ?_
  refine g_iconst (q := 214) (z := 5) C dL_law_213 rfl ?_
  refine g_iadd (q := 215) C dL_law_214 rfl ?_
  refine g_sld (q := 216) C hX hbl hbA (i := i + 5) ⟨by omega, by omega⟩ (by omega) dL_law_215 rfl ?_
  refine g_callV (q := 219) (k0 := 105) (As := [vi (sv (i + 1).toNat).toInt, vi (sv (i + 2).toNat).toInt, vi (sv (i + 3).toNat).toInt, vi (sv (i + 4).toNat).toInt, vi (sv (i + 5).toNat).toInt]) (st := [vi r1]) (na := 5) C mX6_figure (by decide) (celr_6 (by decide)) rfl h2 wn_7_20 wn_7_21 wn_7_22 wn_1_5 wn_7_23 (by decide +kernel) rfl rfl (by decide) rfl (Nat.le_of_ble_eq_true rfl) dL_law_216 rfl (fun r2 B hB => ?_)
  obtain ⟨e, hI⟩ := k2 r2 B hB
  subst e
  show Gx x 4 219 [(0, .ref b), (1, vr (xg x) 0), (2, vr (xg x) 105), (3, vi i)] [vi r1, vi r1] B
  exact g_isame (t := 689) C dL_law_219 (by decide) (kk B hI)
set_option maxRecDepth 10000 in
set_option maxHeartbeats 1000000 in
theorem lw_drop {x : Xx} (C : Cx x mL) {b N : Nat} {sv : Nat → Int32} (hX : va_X b N sv (xs x) (xs x).heap) (hbl : b < (xs x).heap.size) (hbA : ¬ gA (xg x) b) (hN : N ≤ 3072) {i : Int} (hi : 0 ≤ i ∧ i + 6 ≤ (N : Int)) {M : Mm} (h : INV M) (kk : ∀ B, INV B → Gx x 4 689 [(0, .ref b), (1, vr (xg x) 0), (2, vr (xg x) 105), (3, vi i)] [] B) : Gx x 4 224 [(0, .ref b), (1, vr (xg x) 0), (2, vr (xg x) 105), (3, vi i)] [] M := by
  obtain ⟨p1, h1, k1⟩ := pr_drop (l := xl x) (g := xg x) h (inR_of _)
  refine g_aload_n (q := 225) C dL_law_224 rfl 1 rfl rfl ?_
  refine g_aload_n (q := 226) C dL_law_225 rfl 0 rfl rfl ?_
  refine g_iload_n (q := 227) C dL_law_226 rfl 3 rfl rfl ?_
  refine g_iconst (q := 228) (z := 1) C dL_law_227 rfl ?_
  refine g_iadd (q := 229) C dL_law_228 rfl ?_
  refine g_sld (q := 230) C hX hbl hbA (i := i + 1) ⟨by omega, by omega⟩ (by omega) dL_law_229 rfl ?_
  refine g_callV (q := 233) (k0 := 0) (As := [vi (sv (i + 1).toNat).toInt]) (st := []) (na := 1) C mX5_drop (by decide) (celr_5 (by decide)) rfl h1 wn_8_5 wn_8_6 wn_8_7 wn_1_2 wn_8_8 (by decide +kernel) rfl rfl (by decide) rfl (Nat.le_of_ble_eq_true rfl) dL_law_230 rfl (fun r1 A hA => ?_)
  obtain ⟨p2, h2, k2⟩ := k1 r1 A hA
  show Gx x 4 233 [(0, .ref b), (1, vr (xg x) 0), (2, vr (xg x) 105), (3, vi i)] [vi r1] A
  refine g_aload_n (q := 234) C dL_law_233 rfl 2 rfl rfl ?_
  refine g_aload_n (q := 235) C dL_law_234 rfl 0 rfl rfl ?_
  refine g_iload_n (q := 236) C dL_law_235 rfl 3 rfl rfl ?_
  refine g_iconst (q := 237) (z := 1) C dL_law_236 rfl ?_
  refine g_iadd (q := 238) C dL_law_237 rfl ?_
  refine g_sld (q := 239) C hX hbl hbA (i := i + 1) ⟨by omega, by omega⟩ (by omega) dL_law_238 rfl ?_
  refine g_callV (q := 242) (k0 := 105) (As := [vi (sv (i + 1).toNat).toInt]) (st := [vi r1]) (na := 1) C mX6_drop (by decide) (celr_6 (by decide)) rfl h2 wn_8_18 wn_8_19 wn_8_20 wn_1_5 wn_8_21 (by decide +kernel) rfl rfl (by decide) rfl (Nat.le_of_ble_eq_true rfl) dL_law_239 rfl (fun r2 B hB => ?_)
  obtain ⟨e, hI⟩ := k2 r2 B hB
  subst e
  show Gx x 4 242 [(0, .ref b), (1, vr (xg x) 0), (2, vr (xg x) 105), (3, vi i)] [vi r1, vi r1] B
  exact g_isame (t := 689) C dL_law_242 (by decide) (kk B hI)
set_option maxRecDepth 10000 in
set_option maxHeartbeats 1000000 in
theorem lw_mention {x : Xx} (C : Cx x mL) {b N : Nat} {sv : Nat → Int32} (hX : va_X b N sv (xs x) (xs x).heap) (hbl : b < (xs x).heap.size) (hbA : ¬ gA (xg x) b) (hN : N ≤ 3072) {i : Int} (hi : 0 ≤ i ∧ i + 6 ≤ (N : Int)) {M : Mm} (h : INV M) (kk : ∀ B, INV B → Gx x 4 689 [(0, .ref b), (1, vr (xg x) 0), (2, vr (xg x) 105), (3, vi i)] [] B) : Gx x 4 247 [(0, .ref b), (1, vr (xg x) 0), (2, vr (xg x) 105), (3, vi i)] [] M := by
  obtain ⟨p1, h1, k1⟩ := pr_mention (l := xl x) (g := xg x) h (inR_of _) (inR_of _)
  refine g_aload_n (q := 248) C dL_law_247 rfl 1 rfl rfl ?_
  refine g_aload_n (q := 249) C dL_law_248 rfl 0 rfl rfl ?_
  refine g_iload_n (q := 250) C dL_law_249 rfl 3 rfl rfl ?_
  refine g_iconst (q := 251) (z := 1) C dL_law_250 rfl ?_
  refine g_iadd (q := 252) C dL_law_251 rfl ?_
  refine g_sld (q := 253) C hX hbl hbA (i := i + 1) ⟨by omega, by omega⟩ (by omega) dL_law_252 rfl ?_
  refine g_aload_n (q := 254) C dL_law_253 rfl 0 rfl rfl ?_
  refine g_iload_n (q := 255) C dL_law_254 rfl 3 rfl rfl ?_
  refine g_iconst (q := 256) (z := 2) C dL_law_255 rfl ?_
  refine g_iadd (q := 257) C dL_law_256 rfl ?_
  refine g_sld (q := 258) C hX hbl hbA (i := i + 2) ⟨by omega, by omega⟩ (by omega) dL_law_257 rfl ?_
  refine g_callV (q := 261) (k0 := 0) (As := [vi (sv (i + 1).toNat).toInt, vi (sv (i + 2).toNat).toInt]) (st := []) (na := 2) C mX5_mention (by decide) (celr_5 (by decide)) rfl h1 wn_9_7 wn_9_8 wn_9_9 wn_1_2 wn_9_10 (by decide +kernel) rfl rfl (by decide) rfl (Nat.le_of_ble_eq_true rfl) dL_law_258 rfl (fun r1 A hA => ?_)
  obtain ⟨p2, h2, k2⟩ := k1 r1 A hA
  show Gx x 4 261 [(0, .ref b), (1, vr (xg x) 0), (2, vr (xg x) 105), (3, vi i)] [vi r1] A
  refine g_aload_n (q := 262) C dL_law_261 rfl 2 rfl rfl ?_
  refine g_aload_n (q := 263) C dL_law_262 rfl 0 rfl rfl ?_
  refine g_iload_n (q := 264) C dL_law_263 rfl 3 rfl rfl ?_
  refine g_iconst (q := 265) (z := 1) C dL_law_264 rfl ?_
  refine g_iadd (q := 266) C dL_law_265 rfl ?_
  refine g_sld (q := 267) C hX hbl hbA (i := i + 1) ⟨by omega, by omega⟩ (by omega) dL_law_266 rfl ?_
  refine g_aload_n (q := 268) C dL_law_267 rfl 0 rfl rfl ?_
  refine g_iload_n (q := 269) C dL_law_268 rfl 3 rfl rfl ?_
  refine g_iconst (q := 270) (z := 2) C dL_law_269 rfl ?_
  refine g_iadd (q := 271) C dL_law_270 rfl ?_
  refine g_sld (q := 272) C hX hbl hbA (i := i + 2) ⟨by omega, by omega⟩ (by omega) dL_law_271 rfl ?_
  refine g_callV (q := 275) (k0 := 105) (As := [vi (sv (i + 1).toNat).toInt, vi (sv (i + 2).toNat).toInt]) (st := [vi r1]) (na := 2) C mX6_mention (by decide) (celr_6 (by decide)) rfl h2 wn_9_11 wn_9_12 wn_9_13 wn_1_5 wn_9_14 (by decide +kernel) rfl rfl (by decide) rfl (Nat.le_of_ble_eq_true rfl) dL_law_272 rfl (fun r2 B hB => ?_)
  obtain ⟨e, hI⟩ := k2 r2 B hB
  subst e
  show Gx x 4 275 [(0, .ref b), (1, vr (xg x) 0), (2, vr (xg x) 105), (3, vi i)] [vi r1, vi r1] B
  exact g_isame (t := 689) C dL_law_275 (by decide) (kk B hI)
set_option maxRecDepth 10000 in
set_option maxHeartbeats 1000000 in
theorem lw_drift {x : Xx} (C : Cx x mL) {b N : Nat} {sv : Nat → Int32} (hX : va_X b N sv (xs x) (xs x).heap) (hbl : b < (xs x).heap.size) (hbA : ¬ gA (xg x) b) (hN : N ≤ 3072) {i : Int} (hi : 0 ≤ i ∧ i + 6 ≤ (N : Int)) {M : Mm} (h : INV M) (kk : ∀ B, INV B → Gx x 4 689 [(0, .ref b), (1, vr (xg x) 0), (2, vr (xg x) 105), (3, vi i)] [] B) : Gx x 4 280 [(0, .ref b), (1, vr (xg x) 0), (2, vr (xg x) 105), (3, vi i)] [] M := by
  obtain ⟨p1, h1, k1⟩ := pr_drift (l := xl x) (g := xg x) h (inR_of _) (inR_of _)
  refine g_aload_n (q := 281) C dL_law_280 rfl 1 rfl rfl ?_
  refine g_aload_n (q := 282) C dL_law_281 rfl 0 rfl rfl ?_
  refine g_iload_n (q := 283) C dL_law_282 rfl 3 rfl rfl ?_
  refine g_iconst (q := 284) (z := 1) C dL_law_283 rfl ?_
  refine g_iadd (q := 285) C dL_law_284 rfl ?_
  refine g_sld (q := 286) C hX hbl hbA (i := i + 1) ⟨by omega, by omega⟩ (by omega) dL_law_285 rfl ?_
  refine g_aload_n (q := 287) C dL_law_286 rfl 0 rfl rfl ?_
  refine g_iload_n (q := 288) C dL_law_287 rfl 3 rfl rfl ?_
  refine g_iconst (q := 289) (z := 2) C dL_law_288 rfl ?_
  refine g_iadd (q := 290) C dL_law_289 rfl ?_
  refine g_sld (q := 291) C hX hbl hbA (i := i + 2) ⟨by omega, by omega⟩ (by omega) dL_law_290 rfl ?_
  refine g_callV (q := 294) (k0 := 0) (As := [vi (sv (i + 1).toNat).toInt, vi (sv (i + 2).toNat).toInt]) (st := []) (na := 2) C mX5_drift (by decide) (celr_5 (by decide)) rfl h1 wn_9_15 wn_9_16 wn_9_17 wn_1_2 wn_9_18 (by decide +kernel) rfl rfl (by decide) rfl (Nat.le_of_ble_eq_true rfl) dL_law_291 rfl (fun r1 A hA => ?_)
  obtain ⟨p2, h2, k2⟩ := k1 r1 A hA
  show Gx x 4 294 [(0, .ref b), (1, vr (xg x) 0), (2, vr (xg x) 105), (3, vi i)] [vi r1] A
  refine g_aload_n (q := 295) C dL_law_294 rfl 2 rfl rfl ?_
  refine g_aload_n (q := 296) C dL_law_295 rfl 0 rfl rfl ?_
  refine g_iload_n (q := 297) C dL_law_296 rfl 3 rfl rfl ?_
  refine g_iconst (q := 298) (z := 1) C dL_law_297 rfl ?_
  refine g_iadd (q := 299) C dL_law_298 rfl ?_
  refine g_sld (q := 300) C hX hbl hbA (i := i + 1) ⟨by omega, by omega⟩ (by omega) dL_law_299 rfl ?_
  refine g_aload_n (q := 301) C dL_law_300 rfl 0 rfl rfl ?_
  refine g_iload_n (q := 302) C dL_law_301 rfl 3 rfl rfl ?_
  refine g_iconst (q := 303) (z := 2) C dL_law_302 rfl ?_
  refine g_iadd (q := 304) C dL_law_303 rfl ?_
  refine g_sld (q := 305) C hX hbl hbA (i := i + 2) ⟨by omega, by omega⟩ (by omega) dL_law_304 rfl ?_
  refine g_callV (q := 308) (k0 := 105) (As := [vi (sv (i + 1).toNat).toInt, vi (sv (i + 2).toNat).toInt]) (st := [vi r1]) (na := 2) C mX6_drift (by decide) (celr_6 (by decide)) rfl h2 wn_14_19 wn_14_20 wn_14_21 wn_1_5 wn_14_22 (by decide +kernel) rfl rfl (by decide) rfl (Nat.le_of_ble_eq_true rfl) dL_law_305 rfl (fun r2 B hB => ?_)
  obtain ⟨e, hI⟩ := k2 r2 B hB
  subst e
  show Gx x 4 308 [(0, .ref b), (1, vr (xg x) 0), (2, vr (xg x) 105), (3, vi i)] [vi r1, vi r1] B
  exact g_isame (t := 689) C dL_law_308 (by decide) (kk B hI)
set_option maxRecDepth 10000 in
set_option maxHeartbeats 1000000 in
theorem lw_undo {x : Xx} (C : Cx x mL) {b N : Nat} {sv : Nat → Int32} (hX : va_X b N sv (xs x) (xs x).heap) (hbl : b < (xs x).heap.size) (hbA : ¬ gA (xg x) b) (hN : N ≤ 3072) {i : Int} (hi : 0 ≤ i ∧ i + 6 ≤ (N : Int)) {M : Mm} (h : INV M) (kk : ∀ B, INV B → Gx x 4 689 [(0, .ref b), (1, vr (xg x) 0), (2, vr (xg x) 105), (3, vi i)] [] B) : Gx x 4 313 [(0, .ref b), (1, vr (xg x) 0), (2, vr (xg x) 105), (3, vi i)] [] M := by
  obtain ⟨p1, h1, k1⟩ := pr_undo (l := xl x) (g := xg x) h
  refine g_aload_n (q := 314) C dL_law_313 rfl 1 rfl rfl ?_
  refine g_callV (q := 317) (k0 := 0) (As := []) (st := []) (na := 0) C mX5_undo (by decide) (celr_5 (by decide)) rfl h1 wn_18_1 wn_18_2 wn_18_3 wn_1_2 wn_18_4 (by decide +kernel) rfl rfl (by decide) rfl (Nat.le_of_ble_eq_true rfl) dL_law_314 rfl (fun r1 A hA => ?_)
  obtain ⟨p2, h2, k2⟩ := k1 r1 A hA
  show Gx x 4 317 [(0, .ref b), (1, vr (xg x) 0), (2, vr (xg x) 105), (3, vi i)] [vi r1] A
  refine g_aload_n (q := 318) C dL_law_317 rfl 2 rfl rfl ?_
  refine g_callV (q := 321) (k0 := 105) (As := []) (st := [vi r1]) (na := 0) C mX6_undo (by decide) (celr_6 (by decide)) rfl h2 wn_18_10 wn_18_11 wn_18_12 wn_1_5 wn_18_13 (by decide +kernel) rfl rfl (by decide) rfl (Nat.le_of_ble_eq_true rfl) dL_law_318 rfl (fun r2 B hB => ?_)
  obtain ⟨e, hI⟩ := k2 r2 B hB
  subst e
  show Gx x 4 321 [(0, .ref b), (1, vr (xg x) 0), (2, vr (xg x) 105), (3, vi i)] [vi r1, vi r1] B
  exact g_isame (t := 689) C dL_law_321 (by decide) (kk B hI)
set_option maxRecDepth 10000 in
set_option maxHeartbeats 1000000 in
theorem lw_told {x : Xx} (C : Cx x mL) {b N : Nat} {sv : Nat → Int32} (hX : va_X b N sv (xs x) (xs x).heap) (hbl : b < (xs x).heap.size) (hbA : ¬ gA (xg x) b) (hN : N ≤ 3072) {i : Int} (hi : 0 ≤ i ∧ i + 6 ≤ (N : Int)) {M : Mm} (h : INV M) (kk : ∀ B, INV B → Gx x 4 689 [(0, .ref b), (1, vr (xg x) 0), (2, vr (xg x) 105), (3, vi i)] [] B) : Gx x 4 326 [(0, .ref b), (1, vr (xg x) 0), (2, vr (xg x) 105), (3, vi i)] [] M := by
  obtain ⟨p1, h1, k1⟩ := pr_told (l := xl x) (g := xg x) h (inR_of _)
  refine g_aload_n (q := 327) C dL_law_326 rfl 1 rfl rfl ?_
  refine g_aload_n (q := 328) C dL_law_327 rfl 0 rfl rfl ?_
  refine g_iload_n (q := 329) C dL_law_328 rfl 3 rfl rfl ?_
  refine g_iconst (q := 330) (z := 1) C dL_law_329 rfl ?_
  refine g_iadd (q := 331) C dL_law_330 rfl ?_
  refine g_sld (q := 332) C hX hbl hbA (i := i + 1) ⟨by omega, by omega⟩ (by omega) dL_law_331 rfl ?_
  refine g_callV (q := 335) (k0 := 0) (As := [vi (sv (i + 1).toNat).toInt]) (st := []) (na := 1) C mX5_told (by decide) (celr_5 (by decide)) rfl h1 wn_18_15 wn_18_16 wn_18_17 wn_1_2 wn_18_18 (by decide +kernel) rfl rfl (by decide) rfl (Nat.le_of_ble_eq_true rfl) dL_law_332 rfl (fun r1 A hA => ?_)
  obtain ⟨p2, h2, k2⟩ := k1 r1 A hA
  show Gx x 4 335 [(0, .ref b), (1, vr (xg x) 0), (2, vr (xg x) 105), (3, vi i)] [vi r1] A
  refine g_aload_n (q := 336) C dL_law_335 rfl 2 rfl rfl ?_
  refine g_aload_n (q := 337) C dL_law_336 rfl 0 rfl rfl ?_
  refine g_iload_n (q := 338) C dL_law_337 rfl 3 rfl rfl ?_
  refine g_iconst (q := 339) (z := 1) C dL_law_338 rfl ?_
  refine g_iadd (q := 340) C dL_law_339 rfl ?_
  refine g_sld (q := 341) C hX hbl hbA (i := i + 1) ⟨by omega, by omega⟩ (by omega) dL_law_340 rfl ?_
  refine g_callV (q := 344) (k0 := 105) (As := [vi (sv (i + 1).toNat).toInt]) (st := [vi r1]) (na := 1) C mX6_told (by decide) (celr_6 (by decide)) rfl h2 wn_19_22 wn_19_23 wn_20_0 wn_1_5 wn_20_1 (by decide +kernel) rfl rfl (by decide) rfl (Nat.le_of_ble_eq_true rfl) dL_law_341 rfl (fun r2 B hB => ?_)
  obtain ⟨e, hI⟩ := k2 r2 B hB
  subst e
  show Gx x 4 344 [(0, .ref b), (1, vr (xg x) 0), (2, vr (xg x) 105), (3, vi i)] [vi r1, vi r1] B
  exact g_isame (t := 689) C dL_law_344 (by decide) (kk B hI)
set_option maxRecDepth 10000 in
set_option maxHeartbeats 1000000 in
theorem lw_figureOf {x : Xx} (C : Cx x mL) {b N : Nat} {sv : Nat → Int32} (hX : va_X b N sv (xs x) (xs x).heap) (hbl : b < (xs x).heap.size) (hbA : ¬ gA (xg x) b) (hN : N ≤ 3072) {i : Int} (hi : 0 ≤ i ∧ i + 6 ≤ (N : Int)) {M : Mm} (h : INV M) (kk : ∀ B, INV B → Gx x 4 689 [(0, .ref b), (1, vr (xg x) 0), (2, vr (xg x) 105), (3, vi i)] [] B) : Gx x 4 349 [(0, .ref b), (1, vr (xg x) 0), (2, vr (xg x) 105), (3, vi i)] [] M := by
  obtain ⟨p1, h1, k1⟩ := pr_figureOf (l := xl x) (g := xg x) h (inR_of _) (inR_of _)
  refine g_aload_n (q := 350) C dL_law_349 rfl 1 rfl rfl ?_
  refine g_aload_n (q := 351) C dL_law_350 rfl 0 rfl rfl ?_
  refine g_iload_n (q := 352) C dL_law_351 rfl 3 rfl rfl ?_
  refine g_iconst (q := 353) (z := 1) C dL_law_352 rfl ?_
  refine g_iadd (q := 354) C dL_law_353 rfl ?_
  refine g_sld (q := 355) C hX hbl hbA (i := i + 1) ⟨by omega, by omega⟩ (by omega) dL_law_354 rfl ?_
  refine g_aload_n (q := 356) C dL_law_355 rfl 0 rfl rfl ?_
  refine g_iload_n (q := 357) C dL_law_356 rfl 3 rfl rfl ?_
  refine g_iconst (q := 358) (z := 2) C dL_law_357 rfl ?_
  refine g_iadd (q := 359) C dL_law_358 rfl ?_
  refine g_sld (q := 360) C hX hbl hbA (i := i + 2) ⟨by omega, by omega⟩ (by omega) dL_law_359 rfl ?_
  refine g_callV (q := 363) (k0 := 0) (As := [vi (sv (i + 1).toNat).toInt, vi (sv (i + 2).toNat).toInt]) (st := []) (na := 2) C mX5_figureOf (by decide) (celr_5 (by decide)) rfl h1 wn_22_4 wn_22_5 wn_22_6 wn_1_2 wn_22_7 (by decide +kernel) rfl rfl (by decide) rfl (Nat.le_of_ble_eq_true rfl) dL_law_360 rfl (fun r1 A hA => ?_)
  obtain ⟨p2, h2, k2⟩ := k1 r1 A hA
  show Gx x 4 363 [(0, .ref b), (1, vr (xg x) 0), (2, vr (xg x) 105), (3, vi i)] [vi r1] A
  refine g_aload_n (q := 364) C dL_law_363 rfl 2 rfl rfl ?_
  refine g_aload_n (q := 365) C dL_law_364 rfl 0 rfl rfl ?_
  refine g_iload_n (q := 366) C dL_law_365 rfl 3 rfl rfl ?_
  refine g_iconst (q := 367) (z := 1) C dL_law_366 rfl ?_
  refine g_iadd (q := 368) C dL_law_367 rfl ?_
  refine g_sld (q := 369) C hX hbl hbA (i := i + 1) ⟨by omega, by omega⟩ (by omega) dL_law_368 rfl ?_
  refine g_aload_n (q := 370) C dL_law_369 rfl 0 rfl rfl ?_
  refine g_iload_n (q := 371) C dL_law_370 rfl 3 rfl rfl ?_
  refine g_iconst (q := 372) (z := 2) C dL_law_371 rfl ?_
  refine g_iadd (q := 373) C dL_law_372 rfl ?_
  refine g_sld (q := 374) C hX hbl hbA (i := i + 2) ⟨by omega, by omega⟩ (by omega) dL_law_373 rfl ?_
  refine g_callV (q := 377) (k0 := 105) (As := [vi (sv (i + 1).toNat).toInt, vi (sv (i + 2).toNat).toInt]) (st := [vi r1]) (na := 2) C mX6_figureOf (by decide) (celr_6 (by decide)) rfl h2 wn_22_11 wn_22_12 wn_22_13 wn_1_5 wn_22_14 (by decide +kernel) rfl rfl (by decide) rfl (Nat.le_of_ble_eq_true rfl) dL_law_374 rfl (fun r2 B hB => ?_)
  obtain ⟨e, hI⟩ := k2 r2 B hB
  subst e
  show Gx x 4 377 [(0, .ref b), (1, vr (xg x) 0), (2, vr (xg x) 105), (3, vi i)] [vi r1, vi r1] B
  exact g_isame (t := 689) C dL_law_377 (by decide) (kk B hI)
set_option maxRecDepth 10000 in
set_option maxHeartbeats 1000000 in
theorem lw_page {x : Xx} (C : Cx x mL) {b N : Nat} {sv : Nat → Int32} (hX : va_X b N sv (xs x) (xs x).heap) (hbl : b < (xs x).heap.size) (hbA : ¬ gA (xg x) b) (hN : N ≤ 3072) {i : Int} (hi : 0 ≤ i ∧ i + 6 ≤ (N : Int)) {M : Mm} (h : INV M) (kk : ∀ B, INV B → Gx x 4 689 [(0, .ref b), (1, vr (xg x) 0), (2, vr (xg x) 105), (3, vi i)] [] B) : Gx x 4 382 [(0, .ref b), (1, vr (xg x) 0), (2, vr (xg x) 105), (3, vi i)] [] M := by
  obtain ⟨p1, h1, k1⟩ := pr_page (l := xl x) (g := xg x) h (inR_of _) (inR_of _)
  refine g_aload_n (q := 383) C dL_law_382 rfl 1 rfl rfl ?_
  refine g_aload_n (q := 384) C dL_law_383 rfl 0 rfl rfl ?_
  refine g_iload_n (q := 385) C dL_law_384 rfl 3 rfl rfl ?_
  refine g_iconst (q := 386) (z := 1) C dL_law_385 rfl ?_
  refine g_iadd (q := 387) C dL_law_386 rfl ?_
  refine g_sld (q := 388) C hX hbl hbA (i := i + 1) ⟨by omega, by omega⟩ (by omega) dL_law_387 rfl ?_
  refine g_aload_n (q := 389) C dL_law_388 rfl 0 rfl rfl ?_
  refine g_iload_n (q := 390) C dL_law_389 rfl 3 rfl rfl ?_
  refine g_iconst (q := 391) (z := 2) C dL_law_390 rfl ?_
  refine g_iadd (q := 392) C dL_law_391 rfl ?_
  refine g_sld (q := 393) C hX hbl hbA (i := i + 2) ⟨by omega, by omega⟩ (by omega) dL_law_392 rfl ?_
  refine g_callV (q := 396) (k0 := 0) (As := [vi (sv (i + 1).toNat).toInt, vi (sv (i + 2).toNat).toInt]) (st := []) (na := 2) C mX5_page (by decide) (celr_5 (by decide)) rfl h1 wn_22_15 wn_22_16 wn_22_17 wn_1_2 wn_22_18 (by decide +kernel) rfl rfl (by decide) rfl (Nat.le_of_ble_eq_true rfl) dL_law_393 rfl (fun r1 A hA => ?_)
  obtain ⟨p2, h2, k2⟩ := k1 r1 A hA
  show Gx x 4 396 [(0, .ref b), (1, vr (xg x) 0), (2, vr (xg x) 105), (3, vi i)] [vi r1] A
  refine g_aload_n (q := 397) C dL_law_396 rfl 2 rfl rfl ?_
  refine g_aload_n (q := 398) C dL_law_397 rfl 0 rfl rfl ?_
  refine g_iload_n (q := 399) C dL_law_398 rfl 3 rfl rfl ?_
  refine g_iconst (q := 400) (z := 1) C dL_law_399 rfl ?_
  refine g_iadd (q := 401) C dL_law_400 rfl ?_
  refine g_sld (q := 402) C hX hbl hbA (i := i + 1) ⟨by omega, by omega⟩ (by omega) dL_law_401 rfl ?_
  refine g_aload_n (q := 403) C dL_law_402 rfl 0 rfl rfl ?_
  refine g_iload_n (q := 404) C dL_law_403 rfl 3 rfl rfl ?_
  refine g_iconst (q := 405) (z := 2) C dL_law_404 rfl ?_
  refine g_iadd (q := 406) C dL_law_405 rfl ?_
  refine g_sld (q := 407) C hX hbl hbA (i := i + 2) ⟨by omega, by omega⟩ (by omega) dL_law_406 rfl ?_
  refine g_callV (q := 410) (k0 := 105) (As := [vi (sv (i + 1).toNat).toInt, vi (sv (i + 2).toNat).toInt]) (st := [vi r1]) (na := 2) C mX6_page (by decide) (celr_6 (by decide)) rfl h2 wn_23_3 wn_23_4 wn_23_5 wn_1_5 wn_23_6 (by decide +kernel) rfl rfl (by decide) rfl (Nat.le_of_ble_eq_true rfl) dL_law_407 rfl (fun r2 B hB => ?_)
  obtain ⟨e, hI⟩ := k2 r2 B hB
  subst e
  show Gx x 4 410 [(0, .ref b), (1, vr (xg x) 0), (2, vr (xg x) 105), (3, vi i)] [vi r1, vi r1] B
  exact g_isame (t := 689) C dL_law_410 (by decide) (kk B hI)
set_option maxRecDepth 10000 in
set_option maxHeartbeats 1000000 in
theorem lw_pageOf {x : Xx} (C : Cx x mL) {b N : Nat} {sv : Nat → Int32} (hX : va_X b N sv (xs x) (xs x).heap) (hbl : b < (xs x).heap.size) (hbA : ¬ gA (xg x) b) (hN : N ≤ 3072) {i : Int} (hi : 0 ≤ i ∧ i + 6 ≤ (N : Int)) {M : Mm} (h : INV M) (kk : ∀ B, INV B → Gx x 4 689 [(0, .ref b), (1, vr (xg x) 0), (2, vr (xg x) 105), (3, vi i)] [] B) : Gx x 4 415 [(0, .ref b), (1, vr (xg x) 0), (2, vr (xg x) 105), (3, vi i)] [] M := by
  obtain ⟨p1, h1, k1⟩ := pr_pageOf (l := xl x) (g := xg x) h (inR_of _)
  refine g_aload_n (q := 416) C dL_law_415 rfl 1 rfl rfl ?_
  refine g_aload_n (q := 417) C dL_law_416 rfl 0 rfl rfl ?_
  refine g_iload_n (q := 418) C dL_law_417 rfl 3 rfl rfl ?_
  refine g_iconst (q := 419) (z := 1) C dL_law_418 rfl ?_
  refine g_iadd (q := 420) C dL_law_419 rfl ?_
  refine g_sld (q := 421) C hX hbl hbA (i := i + 1) ⟨by omega, by omega⟩ (by omega) dL_law_420 rfl ?_
  refine g_callV (q := 424) (k0 := 0) (As := [vi (sv (i + 1).toNat).toInt]) (st := []) (na := 1) C mX5_pageOf (by decide) (celr_5 (by decide)) rfl h1 wn_23_7 wn_23_8 wn_23_9 wn_1_2 wn_23_10 (by decide +kernel) rfl rfl (by decide) rfl (Nat.le_of_ble_eq_true rfl) dL_law_421 rfl (fun r1 A hA => ?_)
  obtain ⟨p2, h2, k2⟩ := k1 r1 A hA
  show Gx x 4 424 [(0, .ref b), (1, vr (xg x) 0), (2, vr (xg x) 105), (3, vi i)] [vi r1] A
  refine g_aload_n (q := 425) C dL_law_424 rfl 2 rfl rfl ?_
  refine g_aload_n (q := 426) C dL_law_425 rfl 0 rfl rfl ?_
  refine g_iload_n (q := 427) C dL_law_426 rfl 3 rfl rfl ?_
  refine g_iconst (q := 428) (z := 1) C dL_law_427 rfl ?_
  refine g_iadd (q := 429) C dL_law_428 rfl ?_
  refine g_sld (q := 430) C hX hbl hbA (i := i + 1) ⟨by omega, by omega⟩ (by omega) dL_law_429 rfl ?_
  refine g_callV (q := 433) (k0 := 105) (As := [vi (sv (i + 1).toNat).toInt]) (st := [vi r1]) (na := 1) C mX6_pageOf (by decide) (celr_6 (by decide)) rfl h2 wn_23_11 wn_23_12 wn_23_13 wn_1_5 wn_23_14 (by decide +kernel) rfl rfl (by decide) rfl (Nat.le_of_ble_eq_true rfl) dL_law_430 rfl (fun r2 B hB => ?_)
  obtain ⟨e, hI⟩ := k2 r2 B hB
  subst e
  show Gx x 4 433 [(0, .ref b), (1, vr (xg x) 0), (2, vr (xg x) 105), (3, vi i)] [vi r1, vi r1] B
  exact g_isame (t := 689) C dL_law_433 (by decide) (kk B hI)
set_option maxRecDepth 10000 in
set_option maxHeartbeats 1000000 in
theorem lw_fits {x : Xx} (C : Cx x mL) {b N : Nat} {sv : Nat → Int32} (hX : va_X b N sv (xs x) (xs x).heap) (hbl : b < (xs x).heap.size) (hbA : ¬ gA (xg x) b) (hN : N ≤ 3072) {i : Int} (hi : 0 ≤ i ∧ i + 6 ≤ (N : Int)) {M : Mm} (h : INV M) (kk : ∀ B, INV B → Gx x 4 689 [(0, .ref b), (1, vr (xg x) 0), (2, vr (xg x) 105), (3, vi i)] [] B) : Gx x 4 438 [(0, .ref b), (1, vr (xg x) 0), (2, vr (xg x) 105), (3, vi i)] [] M := by
  obtain ⟨p1, h1, k1⟩ := pr_fits (l := xl x) (g := xg x) h (inR_of _) (inR_of _)
  refine g_aload_n (q := 439) C dL_law_438 rfl 1 rfl rfl ?_
  refine g_aload_n (q := 440) C dL_law_439 rfl 0 rfl rfl ?_
  refine g_iload_n (q := 441) C dL_law_440 rfl 3 rfl rfl ?_
  refine g_iconst (q := 442) (z := 1) C dL_law_441 rfl ?_
  refine g_iadd (q := 443) C dL_law_442 rfl ?_
  refine g_sld (q := 444) C hX hbl hbA (i := i + 1) ⟨by omega, by omega⟩ (by omega) dL_law_443 rfl ?_
  refine g_aload_n (q := 445) C dL_law_444 rfl 0 rfl rfl ?_
  refine g_iload_n (q := 446) C dL_law_445 rfl 3 rfl rfl ?_
  refine g_iconst (q := 447) (z := 2) C dL_law_446 rfl ?_
  refine g_iadd (q := 448) C dL_law_447 rfl ?_
  refine g_sld (q := 449) C hX hbl hbA (i := i + 2) ⟨by omega, by omega⟩ (by omega) dL_law_448 rfl ?_
  refine g_callV (q := 452) (k0 := 0) (As := [vi (sv (i + 1).toNat).toInt, vi (sv (i + 2).toNat).toInt]) (st := []) (na := 2) C mX5_fits (by decide) (celr_5 (by decide)) rfl h1 wn_23_15 wn_23_16 wn_23_17 wn_1_2 wn_23_18 (by decide +kernel) rfl rfl (by decide) rfl (Nat.le_of_ble_eq_true rfl) dL_law_449 rfl (fun r1 A hA => ?_)
  obtain ⟨p2, h2, k2⟩ := k1 r1 A hA
  show Gx x 4 452 [(0, .ref b), (1, vr (xg x) 0), (2, vr (xg x) 105), (3, vi i)] [vi r1] A
  refine g_aload_n (q := 453) C dL_law_452 rfl 2 rfl rfl ?_
  refine g_aload_n (q := 454) C dL_law_453 rfl 0 rfl rfl ?_
  refine g_iload_n (q := 455) C dL_law_454 rfl 3 rfl rfl ?_
  refine g_iconst (q := 456) (z := 1) C dL_law_455 rfl ?_
  refine g_iadd (q := 457) C dL_law_456 rfl ?_
  refine g_sld (q := 458) C hX hbl hbA (i := i + 1) ⟨by omega, by omega⟩ (by omega) dL_law_457 rfl ?_
  refine g_aload_n (q := 459) C dL_law_458 rfl 0 rfl rfl ?_
  refine g_iload_n (q := 460) C dL_law_459 rfl 3 rfl rfl ?_
  refine g_iconst (q := 461) (z := 2) C dL_law_460 rfl ?_
  refine g_iadd (q := 462) C dL_law_461 rfl ?_
  refine g_sld (q := 463) C hX hbl hbA (i := i + 2) ⟨by omega, by omega⟩ (by omega) dL_law_462 rfl ?_
  refine g_callV (q := 466) (k0 := 105) (As := [vi (sv (i + 1).toNat).toInt, vi (sv (i + 2).toNat).toInt]) (st := [vi r1]) (na := 2) C mX6_fits (by decide) (celr_6 (by decide)) rfl h2 wn_23_20 wn_23_21 wn_23_22 wn_1_5 wn_23_23 (by decide +kernel) rfl rfl (by decide) rfl (Nat.le_of_ble_eq_true rfl) dL_law_463 rfl (fun r2 B hB => ?_)
  obtain ⟨e, hI⟩ := k2 r2 B hB
  subst e
  show Gx x 4 466 [(0, .ref b), (1, vr (xg x) 0), (2, vr (xg x) 105), (3, vi i)] [vi r1, vi r1] B
  exact g_isame (t := 689) C dL_law_466 (by decide) (kk B hI)
set_option maxRecDepth 10000 in
set_option maxHeartbeats 1000000 in
theorem lw_ways {x : Xx} (C : Cx x mL) {b N : Nat} {sv : Nat → Int32} (hX : va_X b N sv (xs x) (xs x).heap) (hbl : b < (xs x).heap.size) (hbA : ¬ gA (xg x) b) (hN : N ≤ 3072) {i : Int} (hi : 0 ≤ i ∧ i + 6 ≤ (N : Int)) {M : Mm} (h : INV M) (kk : ∀ B, INV B → Gx x 4 689 [(0, .ref b), (1, vr (xg x) 0), (2, vr (xg x) 105), (3, vi i)] [] B) : Gx x 4 471 [(0, .ref b), (1, vr (xg x) 0), (2, vr (xg x) 105), (3, vi i)] [] M := by
  obtain ⟨p1, h1, k1⟩ := pr_ways (l := xl x) (g := xg x) h
  refine g_aload_n (q := 472) C dL_law_471 rfl 1 rfl rfl ?_
  refine g_callV (q := 475) (k0 := 0) (As := []) (st := []) (na := 0) C mX5_ways (by decide) (celr_5 (by decide)) rfl h1 wn_24_0 wn_24_1 wn_24_2 wn_1_2 wn_24_3 (by decide +kernel) rfl rfl (by decide) rfl (Nat.le_of_ble_eq_true rfl) dL_law_472 rfl (fun r1 A hA => ?_)
  obtain ⟨p2, h2, k2⟩ := k1 r1 A hA
  show Gx x 4 475 [(0, .ref b), (1, vr (xg x) 0), (2, vr (xg x) 105), (3, vi i)] [vl r1] A
  refine g_aload_n (q := 476) C dL_law_475 rfl 2 rfl rfl ?_
  refine g_callV (q := 479) (k0 := 105) (As := []) (st := [vl r1]) (na := 0) C mX6_ways (by decide) (celr_6 (by decide)) rfl h2 wn_24_8 wn_24_9 wn_24_10 wn_1_5 wn_24_11 (by decide +kernel) rfl rfl (by decide) rfl (Nat.le_of_ble_eq_true rfl) dL_law_476 rfl (fun r2 B hB => ?_)
  obtain ⟨e, hI⟩ := k2 r2 B hB
  subst e
  show Gx x 4 479 [(0, .ref b), (1, vr (xg x) 0), (2, vr (xg x) 105), (3, vi i)] [vl r1, vl r1] B
  refine g_lsame (q := 480) C dL_law_479 rfl ?_
  exact g_if_eq (q := 483) (t := 689) C dL_law_480 rfl (by decide) (by decide) (fun _ => kk B hI) (fun z => absurd rfl z)
set_option maxRecDepth 10000 in
set_option maxHeartbeats 1000000 in
theorem lw_without {x : Xx} (C : Cx x mL) {b N : Nat} {sv : Nat → Int32} (hX : va_X b N sv (xs x) (xs x).heap) (hbl : b < (xs x).heap.size) (hbA : ¬ gA (xg x) b) (hN : N ≤ 3072) {i : Int} (hi : 0 ≤ i ∧ i + 6 ≤ (N : Int)) {M : Mm} (h : INV M) (kk : ∀ B, INV B → Gx x 4 689 [(0, .ref b), (1, vr (xg x) 0), (2, vr (xg x) 105), (3, vi i)] [] B) : Gx x 4 485 [(0, .ref b), (1, vr (xg x) 0), (2, vr (xg x) 105), (3, vi i)] [] M := by
  obtain ⟨p1, h1, k1⟩ := pr_without (l := xl x) (g := xg x) h (inR_of _)
  refine g_aload_n (q := 486) C dL_law_485 rfl 1 rfl rfl ?_
  refine g_aload_n (q := 487) C dL_law_486 rfl 0 rfl rfl ?_
  refine g_iload_n (q := 488) C dL_law_487 rfl 3 rfl rfl ?_
  refine g_iconst (q := 489) (z := 1) C dL_law_488 rfl ?_
  refine g_iadd (q := 490) C dL_law_489 rfl ?_
  refine g_sld (q := 491) C hX hbl hbA (i := i + 1) ⟨by omega, by omega⟩ (by omega) dL_law_490 rfl ?_
  refine g_callV (q := 494) (k0 := 0) (As := [vi (sv (i + 1).toNat).toInt]) (st := []) (na := 1) C mX5_without (by decide) (celr_5 (by decide)) rfl h1 wn_24_12 wn_24_13 wn_24_14 wn_1_2 wn_24_15 (by decide +kernel) rfl rfl (by decide) rfl (Nat.le_of_ble_eq_true rfl) dL_law_491 rfl (fun r1 A hA => ?_)
  obtain ⟨p2, h2, k2⟩ := k1 r1 A hA
  show Gx x 4 494 [(0, .ref b), (1, vr (xg x) 0), (2, vr (xg x) 105), (3, vi i)] [vi r1] A
  refine g_aload_n (q := 495) C dL_law_494 rfl 2 rfl rfl ?_
  refine g_aload_n (q := 496) C dL_law_495 rfl 0 rfl rfl ?_
  refine g_iload_n (q := 497) C dL_law_496 rfl 3 rfl rfl ?_
  refine g_iconst (q := 498) (z := 1) C dL_law_497 rfl ?_
  refine g_iadd (q := 499) C dL_law_498 rfl ?_
  refine g_sld (q := 500) C hX hbl hbA (i := i + 1) ⟨by omega, by omega⟩ (by omega) dL_law_499 rfl ?_
  refine g_callV (q := 503) (k0 := 105) (As := [vi (sv (i + 1).toNat).toInt]) (st := [vi r1]) (na := 1) C mX6_without (by decide) (celr_6 (by decide)) rfl h2 wn_24_21 wn_24_22 wn_24_23 wn_1_5 wn_25_0 (by decide +kernel) rfl rfl (by decide) rfl (Nat.le_of_ble_eq_true rfl) dL_law_500 rfl (fun r2 B hB => ?_)
  obtain ⟨e, hI⟩ := k2 r2 B hB
  subst e
  show Gx x 4 503 [(0, .ref b), (1, vr (xg x) 0), (2, vr (xg x) 105), (3, vi i)] [vi r1, vi r1] B
  exact g_isame (t := 689) C dL_law_503 (by decide) (kk B hI)
set_option maxRecDepth 10000 in
set_option maxHeartbeats 1000000 in
theorem lw_moved {x : Xx} (C : Cx x mL) {b N : Nat} {sv : Nat → Int32} (hX : va_X b N sv (xs x) (xs x).heap) (hbl : b < (xs x).heap.size) (hbA : ¬ gA (xg x) b) (hN : N ≤ 3072) {i : Int} (hi : 0 ≤ i ∧ i + 6 ≤ (N : Int)) {M : Mm} (h : INV M) (kk : ∀ B, INV B → Gx x 4 689 [(0, .ref b), (1, vr (xg x) 0), (2, vr (xg x) 105), (3, vi i)] [] B) : Gx x 4 508 [(0, .ref b), (1, vr (xg x) 0), (2, vr (xg x) 105), (3, vi i)] [] M := by
  obtain ⟨p1, h1, k1⟩ := pr_moved (l := xl x) (g := xg x) h (inR_of _) (inR_of _)
  refine g_aload_n (q := 509) C dL_law_508 rfl 1 rfl rfl ?_
  refine g_aload_n (q := 510) C dL_law_509 rfl 0 rfl rfl ?_
  refine g_iload_n (q := 511) C dL_law_510 rfl 3 rfl rfl ?_
  refine g_iconst (q := 512) (z := 1) C dL_law_511 rfl ?_
  refine g_iadd (q := 513) C dL_law_512 rfl ?_
  refine g_sld (q := 514) C hX hbl hbA (i := i + 1) ⟨by omega, by omega⟩ (by omega) dL_law_513 rfl ?_
  refine g_aload_n (q := 515) C dL_law_514 rfl 0 rfl rfl ?_
  refine g_iload_n (q := 516) C dL_law_515 rfl 3 rfl rfl ?_
  refine g_iconst (q := 517) (z := 2) C dL_law_516 rfl ?_
  refine g_iadd (q := 518) C dL_law_517 rfl ?_
  refine g_sld (q := 519) C hX hbl hbA (i := i + 2) ⟨by omega, by omega⟩ (by omega) dL_law_518 rfl ?_
  refine g_callV (q := 522) (k0 := 0) (As := [vi (sv (i + 1).toNat).toInt, vi (sv (i + 2).toNat).toInt]) (st := []) (na := 2) C mX5_moved (by decide) (celr_5 (by decide)) rfl h1 wn_25_1 wn_25_2 wn_25_3 wn_1_2 wn_25_4 (by decide +kernel) rfl rfl (by decide) rfl (Nat.le_of_ble_eq_true rfl) dL_law_519 rfl (fun r1 A hA => ?_)
  obtain ⟨p2, h2, k2⟩ := k1 r1 A hA
  show Gx x 4 522 [(0, .ref b), (1, vr (xg x) 0), (2, vr (xg x) 105), (3, vi i)] [vi r1] A
  refine g_aload_n (q := 523) C dL_law_522 rfl 2 rfl rfl ?_
  refine g_aload_n (q := 524) C dL_law_523 rfl 0 rfl rfl ?_
  refine g_iload_n (q := 525) C dL_law_524 rfl 3 rfl rfl ?_
  refine g_iconst (q := 526) (z := 1) C dL_law_525 rfl ?_
  refine g_iadd (q := 527) C dL_law_526 rfl ?_
  refine g_sld (q := 528) C hX hbl hbA (i := i + 1) ⟨by omega, by omega⟩ (by omega) dL_law_527 rfl ?_
  refine g_aload_n (q := 529) C dL_law_528 rfl 0 rfl rfl ?_
  refine g_iload_n (q := 530) C dL_law_529 rfl 3 rfl rfl ?_
  refine g_iconst (q := 531) (z := 2) C dL_law_530 rfl ?_
  refine g_iadd (q := 532) C dL_law_531 rfl ?_
  refine g_sld (q := 533) C hX hbl hbA (i := i + 2) ⟨by omega, by omega⟩ (by omega) dL_law_532 rfl ?_
  refine g_callV (q := 536) (k0 := 105) (As := [vi (sv (i + 1).toNat).toInt, vi (sv (i + 2).toNat).toInt]) (st := [vi r1]) (na := 2) C mX6_moved (by decide) (celr_6 (by decide)) rfl h2 wn_25_5 wn_25_6 wn_25_7 wn_1_5 wn_25_8 (by decide +kernel) rfl rfl (by decide) rfl (Nat.le_of_ble_eq_true rfl) dL_law_533 rfl (fun r2 B hB => ?_)
  obtain ⟨e, hI⟩ := k2 r2 B hB
  subst e
  show Gx x 4 536 [(0, .ref b), (1, vr (xg x) 0), (2, vr (xg x) 105), (3, vi i)] [vi r1, vi r1] B
  exact g_isame (t := 689) C dL_law_536 (by decide) (kk B hI)
set_option maxRecDepth 10000 in
set_option maxHeartbeats 1000000 in
theorem lw_from {x : Xx} (C : Cx x mL) {b N : Nat} {sv : Nat → Int32} (hX : va_X b N sv (xs x) (xs x).heap) (hbl : b < (xs x).heap.size) (hbA : ¬ gA (xg x) b) (hN : N ≤ 3072) {i : Int} (hi : 0 ≤ i ∧ i + 6 ≤ (N : Int)) {M : Mm} (h : INV M) (kk : ∀ B, INV B → Gx x 4 689 [(0, .ref b), (1, vr (xg x) 0), (2, vr (xg x) 105), (3, vi i)] [] B) : Gx x 4 541 [(0, .ref b), (1, vr (xg x) 0), (2, vr (xg x) 105), (3, vi i)] [] M := by
  obtain ⟨p1, h1, k1⟩ := pr_from (l := xl x) (g := xg x) h (inR_of _) (inR_of _) (inR_of _)
  refine g_aload_n (q := 542) C dL_law_541 rfl 1 rfl rfl ?_
  refine g_aload_n (q := 543) C dL_law_542 rfl 0 rfl rfl ?_
  refine g_iload_n (q := 544) C dL_law_543 rfl 3 rfl rfl ?_
  refine g_iconst (q := 545) (z := 1) C dL_law_544 rfl ?_
  refine g_iadd (q := 546) C dL_law_545 rfl ?_
  refine g_sld (q := 547) C hX hbl hbA (i := i + 1) ⟨by omega, by omega⟩ (by omega) dL_law_546 rfl ?_
  refine g_aload_n (q := 548) C dL_law_547 rfl 0 rfl rfl ?_
  refine g_iload_n (q := 549) C dL_law_548 rfl 3 rfl rfl ?_
  refine g_iconst (q := 550) (z := 2) C dL_law_549 rfl ?_
  refine g_iadd (q := 551) C dL_law_550 rfl ?_
  refine g_sld (q := 552) C hX hbl hbA (i := i + 2) ⟨by omega, by omega⟩ (by omega) dL_law_551 rfl ?_
  refine g_aload_n (q := 553) C dL_law_552 rfl 0 rfl rfl ?_
  refine g_iload_n (q := 554) C dL_law_553 rfl 3 rfl rfl ?_
  refine g_iconst (q := 555) (z := 3) C dL_law_554 rfl ?_
  refine g_iadd (q := 556) C dL_law_555 rfl ?_
  refine g_sld (q := 557) C hX hbl hbA (i := i + 3) ⟨by omega, by omega⟩ (by omega) dL_law_556 rfl ?_
  refine g_callV (q := 560) (k0 := 0) (As := [vi (sv (i + 1).toNat).toInt, vi (sv (i + 2).toNat).toInt, vi (sv (i + 3).toNat).toInt]) (st := []) (na := 3) C mX5_from (by decide) (celr_5 (by decide)) rfl h1 wn_25_9 wn_25_10 wn_25_11 wn_1_2 wn_25_12 (by decide +kernel) rfl rfl (by decide) rfl (Nat.le_of_ble_eq_true rfl) dL_law_557 rfl (fun r1 A hA => ?_)
  obtain ⟨p2, h2, k2⟩ := k1 r1 A hA
  show Gx x 4 560 [(0, .ref b), (1, vr (xg x) 0), (2, vr (xg x) 105), (3, vi i)] [vi r1] A
  refine g_aload_n (q := 561) C dL_law_560 rfl 2 rfl rfl ?_
  refine g_aload_n (q := 562) C dL_law_561 rfl 0 rfl rfl ?_
  refine g_iload_n (q := 563) C dL_law_562 rfl 3 rfl rfl ?_
  refine g_iconst (q := 564) (z := 1) C dL_law_563 rfl ?_
  refine g_iadd (q := 565) C dL_law_564 rfl ?_
  refine g_sld (q := 566) C hX hbl hbA (i := i + 1) ⟨by omega, by omega⟩ (by omega) dL_law_565 rfl ?_
  refine g_aload_n (q := 567) C dL_law_566 rfl 0 rfl rfl ?_
  refine g_iload_n (q := 568) C dL_law_567 rfl 3 rfl rfl ?_
  refine g_iconst (q := 569) (z := 2) C dL_law_568 rfl ?_
  refine g_iadd (q := 570) C dL_law_569 rfl ?_
  refine g_sld (q := 571) C hX hbl hbA (i := i + 2) ⟨by omega, by omega⟩ (by omega) dL_law_570 rfl ?_
  refine g_aload_n (q := 572) C dL_law_571 rfl 0 rfl rfl ?_
  refine g_iload_n (q := 573) C dL_law_572 rfl 3 rfl rfl ?_
  refine g_iconst (q := 574) (z := 3) C dL_law_573 rfl ?_
  refine g_iadd (q := 575) C dL_law_574 rfl ?_
  refine g_sld (q := 576) C hX hbl hbA (i := i + 3) ⟨by omega, by omega⟩ (by omega) dL_law_575 rfl ?_
  refine g_callV (q := 579) (k0 := 105) (As := [vi (sv (i + 1).toNat).toInt, vi (sv (i + 2).toNat).toInt, vi (sv (i + 3).toNat).toInt]) (st := [vi r1]) (na := 3) C mX6_from (by decide) (celr_6 (by decide)) rfl h2 wn_25_17 wn_25_18 wn_25_19 wn_1_5 wn_25_20 (by decide +kernel) rfl rfl (by decide) rfl (Nat.le_of_ble_eq_true rfl) dL_law_576 rfl (fun r2 B hB => ?_)
  obtain ⟨e, hI⟩ := k2 r2 B hB
  subst e
  show Gx x 4 579 [(0, .ref b), (1, vr (xg x) 0), (2, vr (xg x) 105), (3, vi i)] [vi r1, vi r1] B
  exact g_isame (t := 689) C dL_law_579 (by decide) (kk B hI)
set_option maxRecDepth 10000 in
set_option maxHeartbeats 1000000 in
theorem lw_hand {x : Xx} (C : Cx x mL) {b N : Nat} {sv : Nat → Int32} (hX : va_X b N sv (xs x) (xs x).heap) (hbl : b < (xs x).heap.size) (hbA : ¬ gA (xg x) b) (hN : N ≤ 3072) {i : Int} (hi : 0 ≤ i ∧ i + 6 ≤ (N : Int)) {M : Mm} (h : INV M) (kk : ∀ B, INV B → Gx x 4 689 [(0, .ref b), (1, vr (xg x) 0), (2, vr (xg x) 105), (3, vi i)] [] B) : Gx x 4 584 [(0, .ref b), (1, vr (xg x) 0), (2, vr (xg x) 105), (3, vi i)] [] M := by
  obtain ⟨p1, h1, k1⟩ := pr_hand (l := xl x) (g := xg x) h (inR_of _)
  refine g_aload_n (q := 585) C dL_law_584 rfl 1 rfl rfl ?_
  refine g_aload_n (q := 586) C dL_law_585 rfl 0 rfl rfl ?_
  refine g_iload_n (q := 587) C dL_law_586 rfl 3 rfl rfl ?_
  refine g_iconst (q := 588) (z := 1) C dL_law_587 rfl ?_
  refine g_iadd (q := 589) C dL_law_588 rfl ?_
  refine g_sld (q := 590) C hX hbl hbA (i := i + 1) ⟨by omega, by omega⟩ (by omega) dL_law_589 rfl ?_
  refine g_callV (q := 593) (k0 := 0) (As := [vi (sv (i + 1).toNat).toInt]) (st := []) (na := 1) C mX5_hand (by decide) (celr_5 (by decide)) rfl h1 wn_25_21 wn_25_22 wn_25_23 wn_1_2 wn_26_0 (by decide +kernel) rfl rfl (by decide) rfl (Nat.le_of_ble_eq_true rfl) dL_law_590 rfl (fun r1 A hA => ?_)
  obtain ⟨p2, h2, k2⟩ := k1 r1 A hA
  show Gx x 4 593 [(0, .ref b), (1, vr (xg x) 0), (2, vr (xg x) 105), (3, vi i)] [vi r1] A
  refine g_aload_n (q := 594) C dL_law_593 rfl 2 rfl rfl ?_
  refine g_aload_n (q := 595) C dL_law_594 rfl 0 rfl rfl ?_
  refine g_iload_n (q := 596) C dL_law_595 rfl 3 rfl rfl ?_
  refine g_iconst (q := 597) (z := 1) C dL_law_596 rfl ?_
  refine g_iadd (q := 598) C dL_law_597 rfl ?_
  refine g_sld (q := 599) C hX hbl hbA (i := i + 1) ⟨by omega, by omega⟩ (by omega) dL_law_598 rfl ?_
  refine g_callV (q := 602) (k0 := 105) (As := [vi (sv (i + 1).toNat).toInt]) (st := [vi r1]) (na := 1) C mX6_hand (by decide) (celr_6 (by decide)) rfl h2 wn_26_1 wn_26_2 wn_26_3 wn_1_5 wn_26_4 (by decide +kernel) rfl rfl (by decide) rfl (Nat.le_of_ble_eq_true rfl) dL_law_599 rfl (fun r2 B hB => ?_)
  obtain ⟨e, hI⟩ := k2 r2 B hB
  subst e
  show Gx x 4 602 [(0, .ref b), (1, vr (xg x) 0), (2, vr (xg x) 105), (3, vi i)] [vi r1, vi r1] B
  exact g_isame (t := 689) C dL_law_602 (by decide) (kk B hI)
set_option maxRecDepth 10000 in
set_option maxHeartbeats 1000000 in
theorem lw_clear {x : Xx} (C : Cx x mL) {b N : Nat} {sv : Nat → Int32} (hX : va_X b N sv (xs x) (xs x).heap) (hbl : b < (xs x).heap.size) (hbA : ¬ gA (xg x) b) (hN : N ≤ 3072) {i : Int} (hi : 0 ≤ i ∧ i + 6 ≤ (N : Int)) {M : Mm} (h : INV M) (kk : ∀ B, INV B → Gx x 4 689 [(0, .ref b), (1, vr (xg x) 0), (2, vr (xg x) 105), (3, vi i)] [] B) : Gx x 4 607 [(0, .ref b), (1, vr (xg x) 0), (2, vr (xg x) 105), (3, vi i)] [] M := by
  obtain ⟨p1, h1, k1⟩ := pr_clear (l := xl x) (g := xg x) h
  refine g_aload_n (q := 608) C dL_law_607 rfl 1 rfl rfl ?_
  refine g_callV (q := 611) (k0 := 0) (As := []) (st := []) (na := 0) C mX5_clear (by decide) (celr_5 (by decide)) rfl h1 wn_26_5 wn_26_6 wn_26_7 wn_1_2 wn_26_8 (by decide +kernel) rfl rfl (by decide) rfl (Nat.le_of_ble_eq_true rfl) dL_law_608 rfl (fun r1 A hA => ?_)
  obtain ⟨p2, h2, k2⟩ := k1 r1 A hA
  show Gx x 4 611 [(0, .ref b), (1, vr (xg x) 0), (2, vr (xg x) 105), (3, vi i)] [vi r1] A
  refine g_aload_n (q := 612) C dL_law_611 rfl 2 rfl rfl ?_
  refine g_callV (q := 615) (k0 := 105) (As := []) (st := [vi r1]) (na := 0) C mX6_clear (by decide) (celr_6 (by decide)) rfl h2 wn_26_9 wn_26_10 wn_26_11 wn_1_5 wn_26_12 (by decide +kernel) rfl rfl (by decide) rfl (Nat.le_of_ble_eq_true rfl) dL_law_612 rfl (fun r2 B hB => ?_)
  obtain ⟨e, hI⟩ := k2 r2 B hB
  subst e
  show Gx x 4 615 [(0, .ref b), (1, vr (xg x) 0), (2, vr (xg x) 105), (3, vi i)] [vi r1, vi r1] B
  exact g_isame (t := 689) C dL_law_615 (by decide) (kk B hI)
set_option maxRecDepth 10000 in
set_option maxHeartbeats 1000000 in
theorem lw_judge {x : Xx} (C : Cx x mL) {b N : Nat} {sv : Nat → Int32} (hX : va_X b N sv (xs x) (xs x).heap) (hbl : b < (xs x).heap.size) (hbA : ¬ gA (xg x) b) (hN : N ≤ 3072) {i : Int} (hi : 0 ≤ i ∧ i + 6 ≤ (N : Int)) {M : Mm} (h : INV M) (kk : ∀ B, INV B → Gx x 4 689 [(0, .ref b), (1, vr (xg x) 0), (2, vr (xg x) 105), (3, vi i)] [] B) : Gx x 4 620 [(0, .ref b), (1, vr (xg x) 0), (2, vr (xg x) 105), (3, vi i)] [] M := by
  obtain ⟨p1, h1, k1⟩ := pr_judge (l := xl x) (g := xg x) h (inR_of _)
  refine g_aload_n (q := 621) C dL_law_620 rfl 1 rfl rfl ?_
  refine g_aload_n (q := 622) C dL_law_621 rfl 0 rfl rfl ?_
  refine g_iload_n (q := 623) C dL_law_622 rfl 3 rfl rfl ?_
  refine g_iconst (q := 624) (z := 1) C dL_law_623 rfl ?_
  refine g_iadd (q := 625) C dL_law_624 rfl ?_
  refine g_sld (q := 626) C hX hbl hbA (i := i + 1) ⟨by omega, by omega⟩ (by omega) dL_law_625 rfl ?_
  refine g_callV (q := 629) (k0 := 0) (As := [vi (sv (i + 1).toNat).toInt]) (st := []) (na := 1) C mX5_judge (by decide) (celr_5 (by decide)) rfl h1 wn_26_13 wn_26_14 wn_26_15 wn_1_2 wn_26_16 (by decide +kernel) rfl rfl (by decide) rfl (Nat.le_of_ble_eq_true rfl) dL_law_626 rfl (fun r1 A hA => ?_)
  obtain ⟨p2, h2, k2⟩ := k1 r1 A hA
  show Gx x 4 629 [(0, .ref b), (1, vr (xg x) 0), (2, vr (xg x) 105), (3, vi i)] [vi r1] A
  refine g_aload_n (q := 630) C dL_law_629 rfl 2 rfl rfl ?_
  refine g_aload_n (q := 631) C dL_law_630 rfl 0 rfl rfl ?_
  refine g_iload_n (q := 632) C dL_law_631 rfl 3 rfl rfl ?_
  refine g_iconst (q := 633) (z := 1) C dL_law_632 rfl ?_
  refine g_iadd (q := 634) C dL_law_633 rfl ?_
  refine g_sld (q := 635) C hX hbl hbA (i := i + 1) ⟨by omega, by omega⟩ (by omega) dL_law_634 rfl ?_
  refine g_callV (q := 638) (k0 := 105) (As := [vi (sv (i + 1).toNat).toInt]) (st := [vi r1]) (na := 1) C mX6_judge (by decide) (celr_6 (by decide)) rfl h2 wn_26_22 wn_26_23 wn_27_0 wn_1_5 wn_27_1 (by decide +kernel) rfl rfl (by decide) rfl (Nat.le_of_ble_eq_true rfl) dL_law_635 rfl (fun r2 B hB => ?_)
  obtain ⟨e, hI⟩ := k2 r2 B hB
  subst e
  show Gx x 4 638 [(0, .ref b), (1, vr (xg x) 0), (2, vr (xg x) 105), (3, vi i)] [vi r1, vi r1] B
  exact g_isame (t := 689) C dL_law_638 (by decide) (kk B hI)
set_option maxRecDepth 10000 in
set_option maxHeartbeats 1000000 in
theorem lw_keep {x : Xx} (C : Cx x mL) {b N : Nat} {sv : Nat → Int32} (hX : va_X b N sv (xs x) (xs x).heap) (hbl : b < (xs x).heap.size) (hbA : ¬ gA (xg x) b) (hN : N ≤ 3072) {i : Int} (hi : 0 ≤ i ∧ i + 6 ≤ (N : Int)) {M : Mm} (h : INV M) (kk : ∀ B, INV B → Gx x 4 689 [(0, .ref b), (1, vr (xg x) 0), (2, vr (xg x) 105), (3, vi i)] [] B) : Gx x 4 643 [(0, .ref b), (1, vr (xg x) 0), (2, vr (xg x) 105), (3, vi i)] [] M := by
  obtain ⟨p1, h1, k1⟩ := pr_keep (l := xl x) (g := xg x) h (inR_of _)
  refine g_aload_n (q := 644) C dL_law_643 rfl 1 rfl rfl ?_
  refine g_aload_n (q := 645) C dL_law_644 rfl 0 rfl rfl ?_
  refine g_iload_n (q := 646) C dL_law_645 rfl 3 rfl rfl ?_
  refine g_iconst (q := 647) (z := 1) C dL_law_646 rfl ?_
  refine g_iadd (q := 648) C dL_law_647 rfl ?_
  refine g_sld (q := 649) C hX hbl hbA (i := i + 1) ⟨by omega, by omega⟩ (by omega) dL_law_648 rfl ?_
  refine g_callV (q := 652) (k0 := 0) (As := [vi (sv (i + 1).toNat).toInt]) (st := []) (na := 1) C mX5_keep (by decide) (celr_5 (by decide)) rfl h1 wn_27_2 wn_27_3 wn_27_4 wn_1_2 wn_27_5 (by decide +kernel) rfl rfl (by decide) rfl (Nat.le_of_ble_eq_true rfl) dL_law_649 rfl (fun r1 A hA => ?_)
  obtain ⟨p2, h2, k2⟩ := k1 r1 A hA
  show Gx x 4 652 [(0, .ref b), (1, vr (xg x) 0), (2, vr (xg x) 105), (3, vi i)] [vi r1] A
  refine g_aload_n (q := 653) C dL_law_652 rfl 2 rfl rfl ?_
  refine g_aload_n (q := 654) C dL_law_653 rfl 0 rfl rfl ?_
  refine g_iload_n (q := 655) C dL_law_654 rfl 3 rfl rfl ?_
  refine g_iconst (q := 656) (z := 1) C dL_law_655 rfl ?_
  refine g_iadd (q := 657) C dL_law_656 rfl ?_
  refine g_sld (q := 658) C hX hbl hbA (i := i + 1) ⟨by omega, by omega⟩ (by omega) dL_law_657 rfl ?_
  refine g_callV (q := 661) (k0 := 105) (As := [vi (sv (i + 1).toNat).toInt]) (st := [vi r1]) (na := 1) C mX6_keep (by decide) (celr_6 (by decide)) rfl h2 wn_27_6 wn_27_7 wn_27_8 wn_1_5 wn_27_9 (by decide +kernel) rfl rfl (by decide) rfl (Nat.le_of_ble_eq_true rfl) dL_law_658 rfl (fun r2 B hB => ?_)
  obtain ⟨e, hI⟩ := k2 r2 B hB
  subst e
  show Gx x 4 661 [(0, .ref b), (1, vr (xg x) 0), (2, vr (xg x) 105), (3, vi i)] [vi r1, vi r1] B
  exact g_isame (t := 689) C dL_law_661 (by decide) (kk B hI)
set_option maxRecDepth 10000 in
set_option maxHeartbeats 1000000 in
theorem lw_goBack {x : Xx} (C : Cx x mL) {b N : Nat} {sv : Nat → Int32} (hX : va_X b N sv (xs x) (xs x).heap) (hbl : b < (xs x).heap.size) (hbA : ¬ gA (xg x) b) (hN : N ≤ 3072) {i : Int} (hi : 0 ≤ i ∧ i + 6 ≤ (N : Int)) {M : Mm} (h : INV M) (kk : ∀ B, INV B → Gx x 4 689 [(0, .ref b), (1, vr (xg x) 0), (2, vr (xg x) 105), (3, vi i)] [] B) : Gx x 4 666 [(0, .ref b), (1, vr (xg x) 0), (2, vr (xg x) 105), (3, vi i)] [] M := by
  obtain ⟨p1, h1, k1⟩ := pr_goBack (l := xl x) (g := xg x) h (inR_of _)
  refine g_aload_n (q := 667) C dL_law_666 rfl 1 rfl rfl ?_
  refine g_aload_n (q := 668) C dL_law_667 rfl 0 rfl rfl ?_
  refine g_iload_n (q := 669) C dL_law_668 rfl 3 rfl rfl ?_
  refine g_iconst (q := 670) (z := 1) C dL_law_669 rfl ?_
  refine g_iadd (q := 671) C dL_law_670 rfl ?_
  refine g_sld (q := 672) C hX hbl hbA (i := i + 1) ⟨by omega, by omega⟩ (by omega) dL_law_671 rfl ?_
  refine g_callV (q := 675) (k0 := 0) (As := [vi (sv (i + 1).toNat).toInt]) (st := []) (na := 1) C mX5_goBack (by decide) (celr_5 (by decide)) rfl h1 wn_27_10 wn_27_11 wn_27_12 wn_1_2 wn_27_13 (by decide +kernel) rfl rfl (by decide) rfl (Nat.le_of_ble_eq_true rfl) dL_law_672 rfl (fun r1 A hA => ?_)
  obtain ⟨p2, h2, k2⟩ := k1 r1 A hA
  show Gx x 4 675 [(0, .ref b), (1, vr (xg x) 0), (2, vr (xg x) 105), (3, vi i)] [vi r1] A
  refine g_aload_n (q := 676) C dL_law_675 rfl 2 rfl rfl ?_
  refine g_aload_n (q := 677) C dL_law_676 rfl 0 rfl rfl ?_
  refine g_iload_n (q := 678) C dL_law_677 rfl 3 rfl rfl ?_
  refine g_iconst (q := 679) (z := 1) C dL_law_678 rfl ?_
  refine g_iadd (q := 680) C dL_law_679 rfl ?_
  refine g_sld (q := 681) C hX hbl hbA (i := i + 1) ⟨by omega, by omega⟩ (by omega) dL_law_680 rfl ?_
  refine g_callV (q := 684) (k0 := 105) (As := [vi (sv (i + 1).toNat).toInt]) (st := [vi r1]) (na := 1) C mX6_goBack (by decide) (celr_6 (by decide)) rfl h2 wn_27_14 wn_27_15 wn_27_16 wn_1_5 wn_27_17 (by decide +kernel) rfl rfl (by decide) rfl (Nat.le_of_ble_eq_true rfl) dL_law_681 rfl (fun r2 B hB => ?_)
  obtain ⟨e, hI⟩ := k2 r2 B hB
  subst e
  show Gx x 4 684 [(0, .ref b), (1, vr (xg x) 0), (2, vr (xg x) 105), (3, vi i)] [vi r1, vi r1] B
  exact g_isame (t := 689) C dL_law_684 (by decide) (kk B hI)
set_option maxRecDepth 10000 in
set_option maxHeartbeats 1000000 in
theorem lw_sw {x : Xx} (C : Cx x mL) {b N : Nat} {sv : Nat → Int32} (hX : va_X b N sv (xs x) (xs x).heap) (hbl : b < (xs x).heap.size) (hbA : ¬ gA (xg x) b) (hN : N ≤ 3072) {i : Int} (hi : 0 ≤ i ∧ i + 6 ≤ (N : Int)) {M : Mm} (h : INV M) (kk : ∀ B, INV B → Gx x 4 689 [(0, .ref b), (1, vr (xg x) 0), (2, vr (xg x) 105), (3, vi i)] [] B) {a : Int} (ha : 0 ≤ a ∧ a < 32) : Gx x 4 33 [(0, .ref b), (1, vr (xg x) 0), (2, vr (xg x) 105), (3, vi i)] [vi a] M := by
  by_cases q : a ≤ 19
  · rcases (show a = 0 ∨ a = 1 ∨ a = 2 ∨ a = 3 ∨ a = 4 ∨ a = 5 ∨ a = 6 ∨ a = 7 ∨ a = 8 ∨ a = 9 ∨ a = 10 ∨ a = 11 ∨ a = 12 ∨ a = 13 ∨ a = 14 ∨ a = 15 ∨ a = 16 ∨ a = 17 ∨ a = 18 ∨ a = 19 by omega) with rfl | rfl | rfl | rfl | rfl | rfl | rfl | rfl | rfl | rfl | rfl | rfl | rfl | rfl | rfl | rfl | rfl | rfl | rfl | rfl
    · exact g_tabIn (t := 128) C dL_law_33 (by decide) (by decide) rfl (by decide) (lw_layout C hX hbl hbA hN hi h kk)
    · exact g_tabIn (t := 161) C dL_law_33 (by decide) (by decide) rfl (by decide) (lw_figure C hX hbl hbA hN hi h kk)
    · exact g_tabIn (t := 224) C dL_law_33 (by decide) (by decide) rfl (by decide) (lw_drop C hX hbl hbA hN hi h kk)
    · exact g_tabIn (t := 247) C dL_law_33 (by decide) (by decide) rfl (by decide) (lw_mention C hX hbl hbA hN hi h kk)
    · exact g_tabIn (t := 280) C dL_law_33 (by decide) (by decide) rfl (by decide) (lw_drift C hX hbl hbA hN hi h kk)
    · exact g_tabIn (t := 313) C dL_law_33 (by decide) (by decide) rfl (by decide) (lw_undo C hX hbl hbA hN hi h kk)
    · exact g_tabIn (t := 326) C dL_law_33 (by decide) (by decide) rfl (by decide) (lw_told C hX hbl hbA hN hi h kk)
    · exact g_tabIn (t := 349) C dL_law_33 (by decide) (by decide) rfl (by decide) (lw_figureOf C hX hbl hbA hN hi h kk)
    · exact g_tabIn (t := 382) C dL_law_33 (by decide) (by decide) rfl (by decide) (lw_page C hX hbl hbA hN hi h kk)
    · exact g_tabIn (t := 415) C dL_law_33 (by decide) (by decide) rfl (by decide) (lw_pageOf C hX hbl hbA hN hi h kk)
    · exact g_tabIn (t := 438) C dL_law_33 (by decide) (by decide) rfl (by decide) (lw_fits C hX hbl hbA hN hi h kk)
    · exact g_tabIn (t := 471) C dL_law_33 (by decide) (by decide) rfl (by decide) (lw_ways C hX hbl hbA hN hi h kk)
    · exact g_tabIn (t := 485) C dL_law_33 (by decide) (by decide) rfl (by decide) (lw_without C hX hbl hbA hN hi h kk)
    · exact g_tabIn (t := 508) C dL_law_33 (by decide) (by decide) rfl (by decide) (lw_moved C hX hbl hbA hN hi h kk)
    · exact g_tabIn (t := 541) C dL_law_33 (by decide) (by decide) rfl (by decide) (lw_from C hX hbl hbA hN hi h kk)
    · exact g_tabIn (t := 584) C dL_law_33 (by decide) (by decide) rfl (by decide) (lw_hand C hX hbl hbA hN hi h kk)
    · exact g_tabIn (t := 607) C dL_law_33 (by decide) (by decide) rfl (by decide) (lw_clear C hX hbl hbA hN hi h kk)
    · exact g_tabIn (t := 620) C dL_law_33 (by decide) (by decide) rfl (by decide) (lw_judge C hX hbl hbA hN hi h kk)
    · exact g_tabIn (t := 643) C dL_law_33 (by decide) (by decide) rfl (by decide) (lw_keep C hX hbl hbA hN hi h kk)
    · exact g_tabIn (t := 666) C dL_law_33 (by decide) (by decide) rfl (by decide) (lw_goBack C hX hbl hbA hN hi h kk)
  · exact g_tabOut (t := 689) C dL_law_33 ⟨by omega, by omega⟩ (Or.inr (by omega)) (by decide) (kk M h)
set_option maxRecDepth 10000 in
set_option maxHeartbeats 1000000 in
theorem lw_loop {x : Xx} (C : Cx x mL) {b N : Nat} {sv : Nat → Int32} (hX : va_X b N sv (xs x) (xs x).heap) (hbl : b < (xs x).heap.size) (hbA : ¬ gA (xg x) b) (hN : N ≤ 3072) (he : ∀ M, INV M → ∀ i : Int, Gx x 4 695 [(0, .ref b), (1, vr (xg x) 0), (2, vr (xg x) 105), (3, vi i)] [] M) : ∀ (d : Nat) (i : Int), 0 ≤ i → i ≤ 4000 → (N : Int) - i ≤ 6 * (d : Int) → ∀ M, INV M → Gx x 4 18 [(0, .ref b), (1, vr (xg x) 0), (2, vr (xg x) 105), (3, vi i)] [] M := by
  intro d
  induction d with
  | zero =>
    intro i i0 i1 hd M h
    refine g_iload_n (q := 19) C dL_law_18 rfl 3 rfl rfl ?_
    refine g_aload_n (q := 20) C dL_law_19 rfl 0 rfl rfl ?_
    refine g_slen (q := 21) C hX hbl hbA dL_law_20 rfl ?_
    refine g_bipush (q := 23) (z := 6) C dL_law_21 rfl (by decide) ?_
    refine g_isub (q := 24) C dL_law_23 rfl ?_
    exact g_icmp_gt (q := 27) (t := 695) C dL_law_24 rfl (by decide) ⟨⟨by omega, by omega⟩, by omega, by omega⟩ (fun _ => he M h i) (fun z => absurd (by omega) z)
  | succ d ih =>
    intro i i0 i1 hd M h
    refine g_iload_n (q := 19) C dL_law_18 rfl 3 rfl rfl ?_
    refine g_aload_n (q := 20) C dL_law_19 rfl 0 rfl rfl ?_
    refine g_slen (q := 21) C hX hbl hbA dL_law_20 rfl ?_
    refine g_bipush (q := 23) (z := 6) C dL_law_21 rfl (by decide) ?_
    refine g_isub (q := 24) C dL_law_23 rfl ?_
    refine g_icmp_gt (q := 27) (t := 695) C dL_law_24 rfl (by decide) ⟨⟨by omega, by omega⟩, by omega, by omega⟩ (fun _ => he M h i) (fun z => ?_)
    refine g_aload_n (q := 28) C dL_law_27 rfl 0 rfl rfl ?_
    refine g_iload_n (q := 29) C dL_law_28 rfl 3 rfl rfl ?_
    refine g_sld (q := 30) C hX hbl hbA ⟨by omega, by omega⟩ (by omega) dL_law_29 rfl ?_
    refine g_bipush (q := 32) (z := 31) C dL_law_30 rfl (by decide) ?_
    refine g_iand (q := 33) (p := 32) C dL_law_32 rfl 5 (by decide) (by decide) ?_
    refine lw_sw C hX hbl hbA hN ⟨i0, by omega⟩ h (fun B hB => ?_) ⟨by omega, by omega⟩
    refine g_iinc (q := 692) (L2 := [(3, vi (i + 6)), (0, .ref b), (1, vr (xg x) 0), (2, vr (xg x) 105)]) C dL_law_689 rfl 3 rfl (by decide) rfl ?_
    refine g_goto (t := 18) C dL_law_692 (by decide) ?_
    refine g_sub [1, 2, 3, 0] rfl ?_
    exact ih (i + 6) (by omega) (by omega) (by omega) B hB
