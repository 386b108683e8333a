/-! THE CLAIM OUT OF ONE WALK OF THE LAW'S BODY. Your part is whole_start (and what it stands on); all else here is the same for every law, but numbers. -/
def R_law : String := "NearFiguresLaw"
def lw_P (b : Addr) (xs : List Int32) (args : Array Value) (s : State) : Prop := args = #[.ref b] ∧ s.IntsAt b xs ∧ xs.length ≤ 3072 ∧ (Jvm.Cond.and given_1 narrow_1).before args s = true
def lw_Q (_ : Array Value) (s : State) (o : Outcome) (t : State) : Prop := o = .returned (some (.int 1)) ∧ Framed s o t [] 600000 7302249
def lw_Z (below : List Frame) (a : Array Value) (s : State) : State → Prop := fun t => ∃ o, t.status = .running ∧ Ended t below o ∧ lw_Q a s o t
/-- the law's own end, with 1 on the stack, nothing written that was there before, its room as the claim has it -/
theorem lw_ret {p : Program} {l : Launch} {e : Env} {s : State} {m : MethodId} {below : List Frame} {meth : Method} {c : Code} {b : Nat} (hx : p.tables.exec = Jvm.exec) (hb : c.code = code) (hr : meth.sig.returnType = ret) (hlocks : meth.locks = false) {pc : Nat} {H : Heap} {ls : Array Slot} (hdg : decode code pc = .ok (.ireturn, 1)) : W p l e room_1 s m #[Value.ref b] below meth c H [] 600000 7302249 (lw_Z below #[Value.ref b] s) (F0 m pc ls [.int 1]) := by
  intro T hT X
  obtain ⟨fs, hret, hrun, hended, hW, hframe⟩ := X.leave (v := some (.int 1)) (hlocks := hlocks) (fun h => by rw [hr] at h; cases h)
  have hmeth' : T.vm.method? m = some meth := X.method'
  refine ⟨T.setFrames fs, ?_, .returned (some (.int 1)), hrun, hended, rfl, ⟨_, rfl⟩, hW, hframe⟩
  jvm_step X.here [X.here.top, hx, hb, hdg, hmeth', hr, ret, narrow_b1]
  (try refine ⟨rfl, ?_⟩); (try refine ⟨rfl, ?_⟩)
  first | (intro acts; rw [hret _ acts rfl rfl rfl]) | rw [hret _ _ rfl rfl rfl]
  exact Steps.refl _
/-- what holds at the law's entry: the machine, the code, the tables' words (any of lw_tbl by 'hts w (by decide +kernel)'), the script of L ints xs at the cell b, what the Statement gives of the start (any of its parts by flat_of_before) -/
def lw_At (p : Program) (s : State) (m : MethodId) (meth : Method) (c : Code) (b L : Nat) (xs : Nat → Int32) : Prop :=
  p.tables.exec = Jvm.exec ∧ c.code = code ∧ meth.sig.returnType = ret ∧ c.maxLocals = 4 ∧ s.vm.findClass R_law = some m.cls ∧ (∀ w ∈ lw_tbl, w.before #[Value.ref b] s = true) ∧ va_X b L xs s s.heap ∧ b < s.heap.size ∧ meth.locks = false ∧ (Jvm.Cond.and given_1 narrow_1).before #[Value.ref b] s = true
/-! ===== what the Statement gives ===== -/
theorem tb {a : Array Value} {s : State} (hts : ∀ w ∈ lw_tbl, w.before a s = true) {w : Cond} (i : Nat) (h : tables_1[i]? = some w) : w.before a s = true := hts w (List.mem_append_right _ (List.mem_of_getElem? h))
theorem nst_of {a : Array Value} {s : State} (hts : ∀ w ∈ lw_tbl, w.before a s = true) : Nst s := by
  intro q hq
  unfold nT at hq
  simp only [List.mem_cons, List.not_mem_nil, or_false] at hq
  rcases hq with rfl | rfl | rfl | rfl | rfl | rfl | rfl | rfl | rfl | rfl | rfl | rfl | rfl | rfl | rfl | rfl | rfl | rfl | rfl | rfl | rfl | rfl | rfl | rfl | rfl | rfl | rfl | rfl
  · exact va_Nw.of rfl (tb hts 28 (by decide +kernel))
  · exact va_Nw.of rfl (tb hts 29 (by decide +kernel))
  · exact va_Nw.of rfl (tb hts 31 (by decide +kernel))
  · exact va_Nw.of rfl (tb hts 32 (by decide +kernel))
  · exact va_Nw.of rfl (tb hts 34 (by decide +kernel))
  · exact va_Nw.of rfl (tb hts 35 (by decide +kernel))
  · exact va_Nw.of rfl (tb hts 56 (by decide +kernel))
  · exact va_Nw.of rfl (tb hts 78 (by decide +kernel))
  · exact va_Nw.of rfl (tb hts 80 (by decide +kernel))
  · exact va_Nw.of rfl (tb hts 81 (by decide +kernel))
  · exact va_Nw.of rfl (tb hts 83 (by decide +kernel))
  · exact va_Nw.of rfl (tb hts 85 (by decide +kernel))
  · exact va_Nw.of rfl (tb hts 87 (by decide +kernel))
  · exact va_Nw.of rfl (tb hts 88 (by decide +kernel))
  · exact va_Nw.of rfl (tb hts 90 (by decide +kernel))
  · exact va_Nw.of rfl (tb hts 91 (by decide +kernel))
  · exact va_Nw.of rfl (tb hts 93 (by decide +kernel))
  · exact va_Nw.of rfl (tb hts 95 (by decide +kernel))
  · exact va_Nw.of rfl (tb hts 96 (by decide +kernel))
  · exact va_Nw.of rfl (tb hts 98 (by decide +kernel))
  · exact va_Nw.of rfl (tb hts 119 (by decide +kernel))
  · exact va_Nw.of rfl (tb hts 120 (by decide +kernel))
  · exact va_Nw.of rfl (tb hts 126 (by decide +kernel))
  · exact va_Nw.of rfl (tb hts 148 (by decide +kernel))
  · exact va_Nw.of rfl (tb hts 150 (by decide +kernel))
  · exact va_Nw.of rfl (tb hts 152 (by decide +kernel))
  · exact va_Nw.of rfl (tb hts 208 (by decide +kernel))
  · exact va_Nw.of rfl (tb hts 210 (by decide +kernel))
theorem ctr_of {a : Array Value} {s : State} (hts : ∀ w ∈ lw_tbl, w.before a s = true) : Ctr s := by
  have h1 := tb hts (w := Cond.arrayOver (.object "NearFigures$Setting")) 44 (by decide +kernel)
  have h2 := tb hts (w := Cond.arrayOver (.array .int)) 26 (by decide +kernel)
  refine ⟨?_, va_AO.of h1, h2⟩
  intro q hq
  unfold nM at hq
  simp only [List.mem_cons, List.not_mem_nil, or_false] at hq
  rcases hq with rfl | rfl | rfl | rfl | rfl
  · exact va_Nw.of rfl (tb hts 21 (by decide +kernel))
  · exact va_Nw.of rfl (tb hts 52 (by decide +kernel))
  · exact va_Nw.of rfl (tb hts 67 (by decide +kernel))
  · exact va_Nw.of rfl (tb hts 73 (by decide +kernel))
  · exact va_Nw.of rfl (tb hts 143 (by decide +kernel))
theorem sta1_of {a : Array Value} {s : State} {g : Gg} {n : String} {N : Nat} {f : Nat → Int} (hN : N < 2 ^ 31) (hA : ∀ q : Nat, q < s.heap.size → ¬ gA g q) (hl : (Cond.laysStatic "NearFigures" n "[I").before a s = true) (hini : (Cond.initialized "NearFigures").before a s = true) (harr : (Cond.arrayOf (.static "NearFigures" n "[I") .int).before a s = true) (hlen : (Cond.eq (.length (.static "NearFigures" n "[I")) (.int (Int32.ofNat N))).before a s = true) (hel : ∀ j : Nat, j < N → (Cond.eq (.elem (.static "NearFigures" n "[I") (.int (Int32.ofNat j))) (.int (jI (f j)))).before a s = true) : Sta1 g n N f s := by
  obtain ⟨t, h1, h2⟩ := va_Tof (f := fun j => vi (f j)) hN harr (va_eqt hlen) (fun j hj => va_eqt (hel j hj)) hA
  exact ⟨t, va_Zref hl hini h1 hA, h2⟩
set_option maxRecDepth 10000 in
theorem sta_of {b : Nat} {s : State} {g : Gg} (hts : ∀ w ∈ lw_tbl, w.before #[Value.ref b] s = true) (hgv : (Jvm.Cond.and given_1 narrow_1).before #[Value.ref b] s = true) (hA : ∀ q : Nat, q < s.heap.size → ¬ gA g q) : Sta g s := by
  have hs := flat_of_before _ hgv
  have hi : (Cond.initialized "NearFigures").before #[Value.ref b] s = true := hts _ (wq_in _ wn_1_2)
  exact ⟨sta1_of (by decide) hA (tb hts 209 (by decide +kernel)) hi (hs _ (by decide +kernel)) (hs _ (by decide +kernel)) (lt6 (hs _ (by decide +kernel)) (hs _ (by decide +kernel)) (hs _ (by decide +kernel)) (hs _ (by decide +kernel)) (hs _ (by decide +kernel)) (hs _ (by decide +kernel))), sta1_of (by decide) hA (tb hts 211 (by decide +kernel)) hi (hs _ (by decide +kernel)) (hs _ (by decide +kernel)) (lt6 (hs _ (by decide +kernel)) (hs _ (by decide +kernel)) (hs _ (by decide +kernel)) (hs _ (by decide +kernel)) (hs _ (by decide +kernel)) (hs _ (by decide +kernel))), sta1_of (by decide) hA (tb hts 240 (by decide +kernel)) hi (hs _ (by decide +kernel)) (hs _ (by decide +kernel)) (lt4 (hs _ (by decide +kernel)) (hs _ (by decide +kernel)) (hs _ (by decide +kernel)) (hs _ (by decide +kernel))), sta1_of (by decide) hA (tb hts 242 (by decide +kernel)) hi (hs _ (by decide +kernel)) (hs _ (by decide +kernel)) (lt4 (hs _ (by decide +kernel)) (hs _ (by decide +kernel)) (hs _ (by decide +kernel)) (hs _ (by decide +kernel)))⟩
theorem wn_1_0 : Cond.classLink RL 7 RX5 ∈ wsL_law := wk_1 _ (List.mem_of_getElem? (i := 0) rfl)
theorem wn_1_1 : Cond.instantiable RX5 13 ∈ wsL_law := wk_1 _ (List.mem_of_getElem? (i := 1) rfl)
theorem wn_1_3 : Cond.classLink RL 10 RX6 ∈ wsL_law := wk_1 _ (List.mem_of_getElem? (i := 3) rfl)
theorem wn_1_4 : Cond.instantiable RX6 16 ∈ wsL_law := wk_1 _ (List.mem_of_getElem? (i := 4) rfl)
theorem wn_1_6 : Cond.methodLink RL 9 yX5_init ∈ wsL_law := wk_1 _ (List.mem_of_getElem? (i := 6) rfl)
theorem wn_1_7 : Cond.instanceMethod yX5_init ∈ wsL_law := wk_1 _ (List.mem_of_getElem? (i := 7) rfl)
theorem wn_1_8 : Cond.code yX5_init cX5_init 2 none ∈ wsL_law := wk_1 _ (List.mem_of_getElem? (i := 8) rfl)
theorem wn_4_7 : Cond.methodLink RL 12 yX6_init ∈ wsL_law := wk_4 _ (List.mem_of_getElem? (i := 7) rfl)
theorem wn_4_8 : Cond.instanceMethod yX6_init ∈ wsL_law := wk_4 _ (List.mem_of_getElem? (i := 8) rfl)
theorem wn_4_9 : Cond.code yX6_init cX6_init 1 none ∈ wsL_law := wk_4 _ (List.mem_of_getElem? (i := 9) rfl)
theorem k5_of {a : Array Value} {s : State} (hts : ∀ w ∈ lw_tbl, w.before a s = true) (hw : ∀ w ∈ wsL_law, w.before a s = true) : ∃ t : T5, ∀ (k : Nat) (q : ClassId × FieldType), (k5 t)[k]? = some q → ArrOfT s q.1 q.2 ∧ va_RA s q.1 q.2 := by
  obtain ⟨c1, k1, m1, f1, h1, e1⟩ := Cond.arrayClass_spec (hw _ wn_2_11)
  obtain ⟨c2, k2, m2, f2, h2, e2⟩ := Cond.arrayClass_spec (hw _ wn_3_16)
  obtain ⟨c3, k3, m3, f3, h3, e3⟩ := Cond.arrayClass_spec (hw _ wn_1_18)
  have o4 := tb hts (w := Cond.arrayOver (.object "NearFigures$Setting")) 44 (by decide +kernel)
  have o5 := tb hts (w := Cond.arrayOver (.array .int)) 26 (by decide +kernel)
  obtain ⟨m4, c4, k4, n4, -, h4, e4, f4⟩ := Cond.arrayOver_spec o4
  obtain ⟨m5, c5, k5, n5, h5, e5, f5⟩ := mq_over o5
  refine ⟨(c1, c2, c3, c4, c5), fun k q hq => ?_⟩
  match k, hq with
  | 0, hq => cases hq; exact ⟨fun n z => ⟨fun k h => (by cases h), k1, h1, m1, e1⟩, f1⟩
  | 1, hq => cases hq; exact ⟨fun n z => ⟨fun k h => (by cases h), k2, h2, m2, e2⟩, f2⟩
  | 2, hq => cases hq; exact ⟨fun n z => ⟨fun k h => (by cases h), k3, h3, m3, e3⟩, f3⟩
  | 3, hq => cases hq; exact ⟨fun n z => ⟨fun k h => (by cases h), k4, h4, m4, e4⟩, k4, m4, h4, e4, n4, f4⟩
  | 4, hq => cases hq; exact ⟨fun n z => ⟨fun k h => (by cases h), k5, h5, m5, e5⟩, f5⟩
  | k + 5, hq => simp at hq
theorem kc_of {a : Array Value} {s : State} (hw : ∀ w ∈ wsL_law, w.before a s = true) : ∃ D : va_G, ∀ (c : Nat) (q : vw_C), vwCl[c]? = some q → u_Kn s q.1 q.2.1 q.2.2 (D.1 c) (D.2 c) := by
  obtain ⟨c0, i0, h0⟩ := u_known (C := RX0) (T := TX0) (N := 3) (n := 3) hw inlX0 (hw _ wn_1_21)
  obtain ⟨c1, i1, h1⟩ := u_known (C := RX1) (T := TX1) (N := 9) (n := 9) hw inlX1 (hw _ wn_3_10)
  obtain ⟨c2, i2, h2⟩ := u_known (C := RX2) (T := TX2) (N := 3) (n := 3) hw inlX2 (hw _ wn_2_6)
  obtain ⟨c3, i3, h3⟩ := u_known (C := RX3) (T := TX3) (N := 6) (n := 6) hw inlX3 (hw _ wn_2_1)
  obtain ⟨c4, i4, h4⟩ := u_known (C := RX4) (T := TX4) (N := 3) (n := 3) hw inlX4 (hw _ wn_1_13)
  obtain ⟨c5, i5, h5⟩ := u_known (C := RX5) (T := TX5) (N := 13) (n := 13) hw inlX5 (hw _ wn_1_1)
  obtain ⟨c6, i6, h6⟩ := u_known (C := RX6) (T := TX6) (N := 16) (n := 16) hw inlX6 (hw _ wn_1_4)
  refine ⟨(fun k => [c0, c1, c2, c3, c4, c5, c6].getD k c0, fun k => [i0, i1, i2, i3, i4, i5, i6].getD k i0), fun k q hq => ?_⟩
  match k, hq with
  | 0, hq => cases hq; exact h0
  | 1, hq => cases hq; exact h1
  | 2, hq => cases hq; exact h2
  | 3, hq => cases hq; exact h3
  | 4, hq => cases hq; exact h4
  | 5, hq => cases hq; exact h5
  | 6, hq => cases hq; exact h6
  | k + 7, hq => simp [vwCl] at hq
