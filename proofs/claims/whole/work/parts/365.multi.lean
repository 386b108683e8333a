/-! ===== arrays of arrays: the word of the tables, and multianewarray of 4 rows of 10 ints ===== -/
theorem mq_alike {ty : FieldType} {a a' : Array Value} {U U' : State} (hal : U.vm.Alike U'.vm) (h : (Cond.arrayOver ty).before a U = true) : (Cond.arrayOver ty).before a' U' = true := by
  rw [← Cond.arrayOver_setVmC hal ty] at h
  exact h
theorem mq_over {a : Array Value} {U : State} {ty : FieldType} (h : (Cond.arrayOver (.array ty)).before a U = true) : ∃ (comp c : ClassId) (k : Class), U.vm.findClass (FieldType.array ty).toString = some comp ∧ U.vm.classes[c]? = some k ∧ k.kind = .array comp (.array ty) ∧ U.vm.findClass ("[" ++ (FieldType.array ty).toString) = some c := by
  simp only [Cond.before, Cond.holds, Cond.value, beq_iff_eq, Option.bind_eq_some_iff, Option.map_eq_some_iff] at h
  obtain ⟨comp, h1, c, h2, k, h3, h4⟩ := h
  have h5 := (Array.findIdx?_eq_some_iff_getElem.mp h2).2.1
  rw [(Array.getElem?_eq_some_iff.mp h3).2] at h5
  refine ⟨comp, c, k, h1, h3, ?_⟩
  split at h4
  · rename_i co ty2 e
    rw [e] at h5 ⊢
    simp only [Bool.and_eq_true, decide_eq_true_eq] at h4
    simp only [beq_iff_eq] at h5
    exact ⟨by rw [h5, h4.1], h4.2⟩
  · exact absurd h4 (by decide)
def mq_O (cA : ClassId) (b i : Nat) : Cell := arrV cA 4 (fun j => if j < i then .ref (b + j) else .null)
def mq_I (cI : ClassId) : Cell := arrV cI 10 (fun _ => .int 0)
/-- the state behind the i-th row -/
def mq_T (T : State) (cA cI : ClassId) (i : Nat) : State := Nat.rec (T.pushCell (mq_O cA (T.heap.size + 1) 0)) (fun k U => (U.pushCell (mq_I cI)).setCell T.heap.size (mq_O cA (T.heap.size + 1) (k + 1))) i
theorem mq_O_next (cA : ClassId) (b i : Nat) : (mq_O cA b i).setSlot i (.ref (b + i)) = mq_O cA b (i + 1) := by
  refine (arrV_store _ _ _ _ _).trans (congrArg (arrV cA 4) (funext fun j => ?_))
  simp only [updV]
  rcases Nat.lt_trichotomy j i with h | h | h
  · rw [if_neg (by omega), if_pos h, if_pos (by omega)]
  · subst h
    rw [if_pos rfl, if_pos (by omega)]
  · rw [if_neg (by omega), if_neg (by omega), if_neg (by omega)]
theorem mq_heap (T : State) (cA cI : ClassId) : ∀ i : Nat, (mq_T T cA cI i).heap.size = T.heap.size + 1 + i ∧ (mq_T T cA cI i).heap[T.heap.size]? = some (mq_O cA (T.heap.size + 1) i) ∧ (∀ j : Nat, j < i → (mq_T T cA cI i).heap[T.heap.size + 1 + j]? = some (mq_I cI)) ∧ (∀ y : Nat, y < T.heap.size → (mq_T T cA cI i).heap[y]? = T.heap[y]?) ∧ (mq_T T cA cI i).vm = T.vm
  | 0 => by
    have e : (mq_T T cA cI 0).heap = T.heap.push (mq_O cA (T.heap.size + 1) 0) := rfl
    rw [e]
    refine ⟨by rw [Array.size_push], by rw [Array.getElem?_push_size], fun j hj => absurd hj (Nat.not_lt_zero j), fun y hy => ?_, rfl⟩
    rw [Array.getElem?_push_lt hy, Array.getElem?_eq_getElem hy]
  | i + 1 => by
    obtain ⟨h1, h2, h3, h4, h5⟩ := mq_heap T cA cI i
    have e : (mq_T T cA cI (i + 1)).heap = ((mq_T T cA cI i).heap.push (mq_I cI)).setIfInBounds T.heap.size (mq_O cA (T.heap.size + 1) (i + 1)) := rfl
    rw [e]
    refine ⟨by rw [Array.size_setIfInBounds, Array.size_push, h1]; omega, ?_, fun j hj => ?_, fun y hy => ?_, h5⟩
    · rw [Array.getElem?_setIfInBounds, if_pos rfl, if_pos (by rw [Array.size_push, h1]; omega)]
    · rw [Array.getElem?_setIfInBounds, if_neg (by omega), Array.getElem?_push, h1]
      by_cases ej : j = i
      · subst ej
        rw [if_pos rfl]
      · rw [if_neg (by omega)]
        exact h3 j (by omega)
    · rw [Array.getElem?_setIfInBounds, if_neg (by omega), Array.getElem?_push, h1, if_neg (by omega)]
      exact h4 y hy
def mq_L (a : Nat) (i : Nat) : List Loc := Nat.rec [] (fun k l => l ++ [⟨a, k⟩]) i
theorem mq_L_mem (a : Nat) : ∀ (i : Nat) (q : Loc), q ∈ mq_L a i → q.base = a
  | 0, q, h => absurd h (List.not_mem_nil)
  | i + 1, q, h => by
    rcases List.mem_append.mp (show q ∈ mq_L a i ++ [⟨a, i⟩] from h) with h | h
    · exact mq_L_mem a i q h
    · rw [List.mem_singleton.mp h]
theorem mq_stand {p : Program} {l : Launch} {e : Env} {R : Room} {s : State} {m : MethodId} {args : Array Value} {below : List Frame} {meth : Method} {c : Code} {T : State} {locs : List Loc} {cells slots : Nat} (X : Stand p l e R s m args below meth c T locs cells slots) (cA cI : ClassId) : ∀ i : Nat, Stand p l e R s m args below meth c (mq_T T cA cI i) (locs ++ mq_L T.heap.size i) (cells + 1 + i) (slots + 4 + 10 * i)
  | 0 => by
    have h := X.pushed (mq_O cA (T.heap.size + 1) 0)
    rw [show (mq_O cA (T.heap.size + 1) 0).slots.size = 4 from arrV_size _ _ _] at h
    rw [show locs ++ mq_L T.heap.size 0 = locs from List.append_nil _]
    exact h
  | i + 1 => by
    obtain ⟨h1, h2, -, -, -⟩ := mq_heap T cA cI i
    have h := (mq_stand X cA cI i).pushed (mq_I cI)
    rw [show (mq_I cI).slots.size = 10 from arrV_size _ _ _] at h
    have h3 : ((mq_T T cA cI i).pushCell (mq_I cI)).heap[T.heap.size]? = some (mq_O cA (T.heap.size + 1) i) := by
      show ((mq_T T cA cI i).heap.push (mq_I cI))[T.heap.size]? = _
      rw [Array.getElem?_push, if_neg (by omega), h2]
    have g := h.stored h3 i (.ref (T.heap.size + 1 + i))
    rw [mq_O_next, List.append_assoc] at g
    rw [show slots + 4 + 10 * (i + 1) = slots + 4 + 10 * i + 10 by omega]
    exact g
theorem mq_new {Q : Addr → Jvm.Pre} {E : CtlPost} {e : Env} {d : Bool} {acts : List Action} {s : State} {c comp : ClassId} {k : Class} {ty : FieldType} {N : Nat} {v : Value} (hk : s.vm.classes[c]? = some k) (hkind : k.kind = .array comp ty) (hv : fits ty v = true) (hd : v.isDefault = true) (hl : N ≤ e.platform.arrayLengthLimit) (hh : N * componentBytes ty ≤ e.platform.maxHeapBytes) (h1 : s.heap.size + 1 ≤ e.platform.maxCells) (h2 : s.slotsUsed + N ≤ e.platform.maxSlots) (h : Q s.heap.size d acts (s.pushCell (arrV c N (fun _ => v)))) : wp (Jvm.newArray c N v) Q E e d acts s := by
  have hdef : allocActs (Array.replicate N v) s.heap.size acts = acts := by
    unfold allocActs
    refine if_pos ?_
    rw [Array.all_replicate]
    split
    · rfl
    · exact hd
  simp only [Jvm.newArray, Jvm.arrayFits, wp_bind', Jvm.W.ite, wp_pure', Jvm.W.theClass, hk, Option.some.injEq, exists_eq_left', hkind, Jvm.W.ask, Jvm.W.alloc, Jvm.W.stop]
  rw [if_neg (by omega), if_neg (by omega), if_neg (by omega)]
  refine ⟨h1, by rw [Array.size_replicate]; exact h2, fun i w hw => ?_, ?_⟩
  · rw [Array.getElem?_replicate] at hw
    split at hw
    · cases hw
      simp [State.fitsSlot, State.slotType?, hk, hkind, hv]
    · cases hw
  · rw [hdef]
    rw [← arrV_new] at h
    exact h
theorem mq_make1 {Q : Addr → Jvm.Pre} {E : CtlPost} {e : Env} {d : Bool} {acts : List Action} {s : State} {c comp : ClassId} {k : Class} (hk : s.vm.classes[c]? = some k) (hkind : k.kind = .array comp .int) (hl : 10 ≤ e.platform.arrayLengthLimit) (hh : 40 ≤ e.platform.maxHeapBytes) (h1 : s.heap.size + 1 ≤ e.platform.maxCells) (h2 : s.slotsUsed + 10 ≤ e.platform.maxSlots) (h : Q s.heap.size d acts (s.pushCell (mq_I c))) : wp (multianewarray.make c [10]) Q E e d acts s := by
  rw [multianewarray.make]
  simp only [wp_bind', Jvm.W.ite, show ¬ (10 : Int32) < 0 by decide, if_false, wp_pure', Jvm.W.theClass, hk, Option.some.injEq, exists_eq_left', hkind, show (10 : Int32).toNatClampNeg = 10 by decide]
  exact mq_new hk hkind rfl rfl hl hh h1 h2 h
theorem mq_row {p : Program} {l : Launch} {e : Env} {R : Room} {s : State} {m : MethodId} {args : Array Value} {below : List Frame} {meth : Method} {c : Code} {T : State} {locs : List Loc} {cells slots : Nat} (X : Stand p l e R s m args below meth c T locs cells slots) {cA cI comp : ClassId} {kA kI : Class} (hA : T.vm.classes[cA]? = some kA) (hAk : kA.kind = .array cI (.array .int)) (hI : T.vm.classes[cI]? = some kI) (hIk : kI.kind = .array comp .int) (hc : cells + 5 ≤ R.cells) (hs : slots + 44 ≤ R.slots) (i : Nat) (hi : i < 4) {f : JFrame} {Q : Unit → Jvm.Pre} {K : Addr → Jvm.Pre} {E : CtlPost} {d : Bool} {acts : List Action} (hK : ∀ r d2 acts2 s2, wp (Jvm.writeLoc T.heap.size i (.ref r)) Q E e d2 acts2 s2 → K r d2 acts2 s2) (h : ∀ acts2, Q () true acts2 ((mq_T T cA cI (i + 1)).setTop f)) : wp (multianewarray.make cI [10]) K E e d acts ((mq_T T cA cI i).setTop f) := by
  have hl : 10 ≤ e.platform.arrayLengthLimit := by rw [Launch.admits_arrayLengthLimit X.admits]; omega
  have hh : 40 ≤ e.platform.maxHeapBytes := by rw [Launch.admits_maxHeapBytes X.admits]; omega
  obtain ⟨g1, g2, -, -, g5⟩ := mq_heap T cA cI i
  obtain ⟨r1, r2⟩ := (mq_stand X cA cI i).roomAbove (a := 1) (b := 10) (by omega) (by omega)
  refine mq_make1 (s := (mq_T T cA cI i).setTop f) (by show (mq_T T cA cI i).vm.classes[cI]? = some kI; rw [g5]; exact hI) hIk hl hh r1 r2 ?_
  refine hK _ _ _ _ ((Jvm.W.writeLoc _ _ _ _).mpr ⟨mq_O cA (T.heap.size + 1) i, ?_, by simp [mq_O, arrV], by rw [show (mq_O cA (T.heap.size + 1) i).slots.size = 4 from arrV_size _ _ _]; exact hi, ?_, ?_⟩)
  · show ((mq_T T cA cI i).heap.push (mq_I cI))[T.heap.size]? = _
    rw [Array.getElem?_push, if_neg (by omega), g2]
  · have hA2 : (mq_T T cA cI i).vm.classes[cA]? = some kA := by rw [g5]; exact hA
    show (mq_T T cA cI i).fitsSlot cA .none i _ = true
    simp [State.fitsSlot, State.slotType?, hA2, hAk, fits]
  · rw [show ((mq_T T cA cI i).setTop f).heap.size = T.heap.size + 1 + i from g1, mq_O_next]
    exact h _
theorem mq_make2 {p : Program} {l : Launch} {e : Env} {R : Room} {s : State} {m : MethodId} {args : Array Value} {below : List Frame} {meth : Method} {c : Code} {T : State} {locs : List Loc} {cells slots : Nat} (X : Stand p l e R s m args below meth c T locs cells slots) {cA cI comp : ClassId} {kA kI : Class} (hA : T.vm.classes[cA]? = some kA) (hAk : kA.kind = .array cI (.array .int)) (hI : T.vm.classes[cI]? = some kI) (hIk : kI.kind = .array comp .int) (hc : cells + 5 ≤ R.cells) (hs : slots + 44 ≤ R.slots) {f : JFrame} {Q : Addr → Jvm.Pre} {E : CtlPost} {d : Bool} {acts : List Action} (h : ∀ acts2, Q T.heap.size true acts2 ((mq_T T cA cI 4).setTop f)) : wp (multianewarray.make cA [4, 10]) Q E e d acts (T.setTop f) := by
  have hl : 10 ≤ e.platform.arrayLengthLimit := by rw [Launch.admits_arrayLengthLimit X.admits]; omega
  have hh : 40 ≤ e.platform.maxHeapBytes := by rw [Launch.admits_maxHeapBytes X.admits]; omega
  rw [multianewarray.make]
  simp only [wp_bind', Jvm.W.ite, show ¬ (4 : Int32) < 0 by decide, if_false, wp_pure', Jvm.W.theClass, State.vm_setTop, hA, Option.some.injEq, exists_eq_left', hAk, show (4 : Int32).toNatClampNeg = 4 by decide]
  obtain ⟨r1, r2⟩ := X.roomAbove (a := 1) (b := 4) (by omega) (by omega)
  refine mq_new (s := T.setTop f) hA hAk rfl rfl (by omega) (by show 4 * 4 ≤ _; omega) r1 r2 ?_
  rw [if_neg (by decide)]
  simp only [Std.Legacy.Range.forIn_eq_forIn_range', Std.Legacy.Range.size, List.range', List.forIn_cons, List.forIn_nil, wp_bind', wp_pure']
  refine mq_row X hA hAk hI hIk hc hs 0 (by omega) (fun r d2 a2 s2 k => (wp_bind' ..).mpr k) (fun a2 => ?_)
  simp only [wp_bind', wp_pure']
  refine mq_row X hA hAk hI hIk hc hs 1 (by omega) (fun r d2 a2 s2 k => (wp_bind' ..).mpr k) (fun a2 => ?_)
  simp only [wp_bind', wp_pure']
  refine mq_row X hA hAk hI hIk hc hs 2 (by omega) (fun r d2 a2 s2 k => (wp_bind' ..).mpr k) (fun a2 => ?_)
  simp only [wp_bind', wp_pure']
  refine mq_row X hA hAk hI hIk hc hs 3 (by omega) (fun r d2 a2 s2 k => (wp_bind' ..).mpr k) (fun a2 => ?_)
  simp only [wp_bind', wp_pure']
  exact h _
theorem mq_step {p : Program} {l : Launch} {e : Env} {R : Room} {s : State} {m : MethodId} {args : Array Value} {below : List Frame} {meth : Method} {c : Code} {T : State} {locs : List Loc} {cells slots : Nat} (X : Stand p l e R s m args below meth c T locs cells slots) (hexec : p.tables.exec = Jvm.exec) {own : String} {index : Nat} (hown : s.vm.findClass own = some m.cls) (hclink : (Cond.classLink own index "[[I").before args s = true) {a0 : Array Value} (hover : (Cond.arrayOver (.array .int)).before a0 s = true) (harr : (Cond.arrayClass .int).before args s = true) {g : JFrame} (hg : g.method = m) (hdg : decode c.code g.pc = .ok (.multianewarray index 2, 4)) {rest : List Value} (hstack : g.stack = .int 10 :: .int 4 :: rest) (hcells : cells + 5 ≤ R.cells) (hslots : slots + 44 ≤ R.slots) :
    ∃ (vm₁ : Vm) (cA cI : ClassId), s.vm.findClass "[[I" = some cA ∧ s.vm.findClass "[I" = some cI ∧ Stand p l e R s m args below meth c (mq_T (T.setVm vm₁) cA cI 4) (locs ++ mq_L T.heap.size 4) (cells + 1 + 4) (slots + 4 + 10 * 4) ∧ ∀ target, Steps p.tables e below ((mq_T (T.setVm vm₁) cA cI 4).setTop { g with pc := g.pc + 4, stack := .ref T.heap.size :: rest }) target → Steps p.tables e below (T.setTop g) target := by
  subst hg
  have hpl : e.platform.magicAccessors = ({} : Platform).magicAccessors := by rw [X.admits.platform]
  obtain ⟨cI, cA, kA, n1, hkA, hAk, n2⟩ := mq_over hover
  obtain ⟨cJ, kI, comp, n3, hkI, hIk⟩ := Cond.arrayClass_spec harr
  have e1 : (FieldType.array .int).toString = "[I" := by decide
  have e2 : "[" ++ FieldType.int.toString = "[I" := by decide
  have e3 : "[" ++ "[I" = "[[I" := by decide
  rw [e1] at n1 n2
  rw [e2] at n3
  rw [e3] at n2
  cases n1.symm.trans n3
  obtain ⟨cB, n4, hcl⟩ := Cond.classLink_spec hown hclink e.platform hpl
  cases n2.symm.trans n4
  obtain ⟨w1, w2, w3⟩ := State.classEntry (e := e) X.warmed hcl
  generalize T.vm.noted g.method.cls index (.cls cA) = vm₁ at w1 w2 w3
  have X1 := X.noted w2
  obtain ⟨kA1, hkA1, eA⟩ := w2.alike.2.2 _ _ hkA
  obtain ⟨kI1, hkI1, eI⟩ := w2.alike.2.2 _ _ hkI
  refine ⟨vm₁, cA, cI, n2, n1, mq_stand X1 cA cI 4, fun target hrest => ?_⟩
  refine Steps.instr (c := c) X.here ?_
  rw [hdg]
  show wpRun (p.tables.exec (.multianewarray index 2)) _ _ e (T.setTop g)
  rw [hexec]
  show wp (multianewarray.sem index 2) _ _ e false [] (T.setTop g)
  simp only [multianewarray.sem, wp_bind']
  refine (Jvm.W.resolveClassAt_transfer (s := T.setTop g) (State.method?_setTop g X.here.top) w1 w3).mpr ?_
  refine (Jvm.W.resolveClassAt_ready (s := (T.setVm vm₁).setTop g) (State.method?_setTop g X1.here.top) w3).mpr ?_
  rw [wp_bind']
  refine (popN_top (s := T.setVm vm₁) (f := g) (args := [.int 4, .int 10]) (rest := rest) X1.here.top hstack).mpr ?_
  simp only [List.mapM_cons, List.mapM_nil, wp_bind', wp_pure']
  refine mq_make2 X1 hkA1 (by rw [eA]; exact hAk) hkI1 (by rw [eI]; exact hIk) hcells hslots (fun acts2 => ?_)
  have ht := (mq_stand X1 cA cI 4).here.top
  simp only [wp_bind', Jvm.W.mark, Jvm.W.pushRef, State.topJava?_setTop' _ ht, Option.some.injEq, exists_eq_left', State.setTop_setTop]
  intro acts3
  rw [afterInstr_ok]
  exact hrest
