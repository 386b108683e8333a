/-! ===== new objects: worlds that grow ===== -/
theorem arrV_ext {c : ClassId} {N : Nat} {f f' : Nat → Value} (h : ∀ j, j < N → f j = f' j) : arrV c N f = arrV c N f' := by
  have e : (arrV c N f).slots = (arrV c N f').slots := by
    apply Array.ext_getElem?
    intro i
    by_cases hi : i < N
    · rw [arrV_read _ _ hi, arrV_read _ _ hi, h i hi]
    · rw [Array.getElem?_eq_none (by rw [arrV_size]; omega), Array.getElem?_eq_none (by rw [arrV_size]; omega)]
  have r : ∀ g : Nat → Value, arrV c N g = { cls := c, slots := (arrV c N g).slots, vm := .none } := fun _ => rfl
  rw [r f, r f', e]
abbrev T5 : Type := ClassId × ClassId × ClassId × ClassId × ClassId
abbrev k5 (t : T5) : List (ClassId × FieldType) := [(t.1, .int), (t.2.1, .long), (t.2.2.1, .boolean), (t.2.2.2.1, .object "NearFigures$Setting"), (t.2.2.2.2, .array .int)]
def nM : List (String × Nat × MethodName) := [("NearFigures", 9, yX4_init), ("NearFigures$History", 24, yX4_init), ("NearFigures", 36, yX3_init), ("NearFigures$Planner", 13, yX1_init), ("NearFigures", 46, yX2_init)]
def Ctr (U : State) : Prop := (∀ q ∈ nM, va_Nw (.methodLinkNest q.1 q.2.1 q.2.2 "NearFigures") U) ∧ va_AO "NearFigures$Setting" U ∧ (Cond.arrayOver (.array .int)).before #[] U = true
theorem Ctr.warm {u U : State} (h : Ctr u) (hW : u.WarmedH U.vm) : Ctr U := ⟨fun q hq => (h.1 q hq).warmM hW, h.2.1.moved hW.alike, mq_alike hW.alike h.2.2⟩
theorem Ctr.same {u U : State} (h : Ctr u) (hv : u.vm = U.vm) : Ctr U := ⟨fun q hq => (h.1 q hq).same rfl hv, h.2.1.moved (by rw [hv]; exact Vm.Alike.refl U.vm), mq_alike (by rw [hv]; exact Vm.Alike.refl U.vm) h.2.2⟩
def Cn (x : Xx) (d : Md) (t : T5) (mc ms : Nat) : Prop :=
  (xp x).tables.exec = Jvm.exec ∧ (xc x).code = dc d ∧ (xc x).maxLocals = dn d ∧ (xs x).vm.findClass (dy d).cls = some (xm x).cls ∧ (∀ w ∈ wsL_law, w.before (xa x) (xs x) = true) ∧ va_K (gD (xg x)) vwCl (k5 t) (xs x) ∧ Ctr (xs x) ∧ (∀ q, (xs x).heap.size ≤ q → gA (xg x) q) ∧ (df d ≤ (xR x).frames ∧ dl d ≤ (xR x).locals ∧ mc ≤ (xR x).cells ∧ ms ≤ (xR x).slots)
theorem Cn.ex {x : Xx} {d : Md} {t : T5} {mc ms : Nat} (C : Cn x d t mc ms) : (xp x).tables.exec = Jvm.exec := C.1
theorem Cn.by_ {x : Xx} {d : Md} {t : T5} {mc ms : Nat} (C : Cn x d t mc ms) : (xc x).code = dc d := C.2.1
theorem Cn.ml {x : Xx} {d : Md} {t : T5} {mc ms : Nat} (C : Cn x d t mc ms) : (xc x).maxLocals = dn d := C.2.2.1
theorem Cn.ow {x : Xx} {d : Md} {t : T5} {mc ms : Nat} (C : Cn x d t mc ms) : (xs x).vm.findClass (dy d).cls = some (xm x).cls := C.2.2.2.1
theorem Cn.ts {x : Xx} {d : Md} {t : T5} {mc ms : Nat} (C : Cn x d t mc ms) : ∀ w ∈ wsL_law, w.before (xa x) (xs x) = true := C.2.2.2.2.1
theorem Cn.kk {x : Xx} {d : Md} {t : T5} {mc ms : Nat} (C : Cn x d t mc ms) : va_K (gD (xg x)) vwCl (k5 t) (xs x) := C.2.2.2.2.2.1
theorem Cn.cr {x : Xx} {d : Md} {t : T5} {mc ms : Nat} (C : Cn x d t mc ms) : Ctr (xs x) := C.2.2.2.2.2.2.1
theorem Cn.aa {x : Xx} {d : Md} {t : T5} {mc ms : Nat} (C : Cn x d t mc ms) : ∀ q, (xs x).heap.size ≤ q → gA (xg x) q := C.2.2.2.2.2.2.2.1
theorem Cn.rm {x : Xx} {d : Md} {t : T5} {mc ms : Nat} (C : Cn x d t mc ms) : df d ≤ (xR x).frames ∧ dl d ≤ (xR x).locals ∧ mc ≤ (xR x).cells ∧ ms ≤ (xR x).slots := C.2.2.2.2.2.2.2.2
abbrev Wn (x : Xx) (H : Heap) (locs : List Loc) (c s : Nat) (f : JFrame) : Prop := W (xp x) (xl x) (xe x) (xR x) (xs x) (xm x) (xa x) (xb x) (xt x) (xc x) H locs c s (xQ x) f
def Nx (x : Xx) (n pc : Nat) (L : List (Nat × Value)) (st : List Value) (ws : va_W) (c s : Nat) : Prop :=
  ∀ (H : Heap) (locs : List Loc) (ls : Array Slot), va_P (gD (xg x)) vwCl ws H → va_D (gA (xg x)) ws → va_S (gA (xg x)) (xs x).heap H locs → lv_has ls n L → Wn x H locs c s (F0 (xm x) pc ls st)
theorem n_iconst {x : Xx} {d : Md} {t : T5} {mc ms n pc q c s : Nat} {L : List (Nat × Value)} {st : List Value} {ws : va_W} (C : Cn x d t mc ms) {z : Int} (hd : decode (dc d) pc = .ok (.iconst z, 1)) (hq : pc + 1 = q) (k : Nx x n q L (vi z :: st) ws c s) : Nx x n pc L st ws c s := by
  subst hq
  exact fun H locs ls hP hD hS hl => lv_iconst C.ex C.by_ hd rfl (k H locs ls hP hD hS hl)
theorem n_bipush {x : Xx} {d : Md} {t : T5} {mc ms n pc q c s : Nat} {L : List (Nat × Value)} {st : List Value} {ws : va_W} (C : Cn x d t mc ms) {z : Int} (hd : decode (dc d) pc = .ok (.bipush z, 2)) (hq : pc + 2 = q) (hv : (Int8.ofInt z).toInt32 = jI z) (k : Nx x n q L (vi z :: st) ws c s) : Nx x n pc L st ws c s := by
  subst hq
  exact fun H locs ls hP hD hS hl => lv_bipush C.ex C.by_ hd hv (k H locs ls hP hD hS hl)
theorem n_sipush {x : Xx} {d : Md} {t : T5} {mc ms n pc q c s : Nat} {L : List (Nat × Value)} {st : List Value} {ws : va_W} (C : Cn x d t mc ms) {z : Int} (hd : decode (dc d) pc = .ok (.sipush z, 3)) (hq : pc + 3 = q) (hv : (Int16.ofInt z).toInt32 = jI z) (k : Nx x n q L (vi z :: st) ws c s) : Nx x n pc L st ws c s := by
  subst hq
  exact fun H locs ls hP hD hS hl => lv_sipush C.ex C.by_ hd hv (k H locs ls hP hD hS hl)
theorem n_iload_n {x : Xx} {d : Md} {t : T5} {mc ms n pc q c s : Nat} {L : List (Nat × Value)} {st : List Value} {ws : va_W} (C : Cn x d t mc ms) {j : Fin 4} {i : Nat} {z : Int} (hd : decode (dc d) pc = .ok (.iload_n j, 1)) (hq : pc + 1 = q) (p : Nat) (hi : (j : Nat) = i) (hL : L[p]? = some (i, vi z)) (k : Nx x n q L (vi z :: st) ws c s) : Nx x n pc L st ws c s := by
  subst hq
  exact fun H locs ls hP hD hS hl => lv_iload_n C.ex C.by_ hd hi (lv_at hl p hL) (k H locs ls hP hD hS hl)
theorem n_aload_n {x : Xx} {d : Md} {t : T5} {mc ms n pc q c s : Nat} {L : List (Nat × Value)} {st : List Value} {ws : va_W} (C : Cn x d t mc ms) {j : Fin 4} {i : Nat} {z : Nat} (hd : decode (dc d) pc = .ok (.aload_n j, 1)) (hq : pc + 1 = q) (p : Nat) (hi : (j : Nat) = i) (hL : L[p]? = some (i, .ref z)) (k : Nx x n q L (.ref z :: st) ws c s) : Nx x n pc L st ws c s := by
  subst hq
  exact fun H locs ls hP hD hS hl => lv_aload_n C.ex C.by_ hd hi (lv_at hl p hL) (k H locs ls hP hD hS hl)
theorem n_istore_n {x : Xx} {d : Md} {t : T5} {mc ms n pc q c s : Nat} {L : List (Nat × Value)} {st : List Value} {ws : va_W} (C : Cn x d t mc ms) {L2 : List (Nat × Value)} {j : Fin 4} {i : Nat} {z : Int} (hd : decode (dc d) pc = .ok (.istore_n j, 1)) (hq : pc + 1 = q) (hi : (j : Nat) = i) (hn : i < n) (hL : (i, vi z) :: L.filter (fun q => !(q.1 == i) && !(q.1 + 1 == i && q.2.category == 2)) = L2) (k : Nx x n q L2 st ws c s) : Nx x n pc L (vi z :: st) ws c s := by
  subst hq
  exact fun H locs ls hP hD hS hl => lv_istore_n C.ex C.by_ hd hi hl hn hL (fun ls2 h2 => k H locs ls2 hP hD hS h2)
theorem n_astore_n {x : Xx} {d : Md} {t : T5} {mc ms n pc q c s : Nat} {L : List (Nat × Value)} {st : List Value} {ws : va_W} (C : Cn x d t mc ms) {L2 : List (Nat × Value)} {j : Fin 4} {i : Nat} {z : Nat} (hd : decode (dc d) pc = .ok (.astore_n j, 1)) (hq : pc + 1 = q) (hi : (j : Nat) = i) (hn : i < n) (hL : (i, .ref z) :: L.filter (fun q => !(q.1 == i) && !(q.1 + 1 == i && q.2.category == 2)) = L2) (k : Nx x n q L2 st ws c s) : Nx x n pc L (.ref z :: st) ws c s := by
  subst hq
  exact fun H locs ls hP hD hS hl => lv_astore_n C.ex C.by_ hd hi hl hn hL (fun ls2 h2 => k H locs ls2 hP hD hS h2)
theorem n_iinc {x : Xx} {d : Md} {t : T5} {mc ms n pc q c s : Nat} {L : List (Nat × Value)} {st : List Value} {ws : va_W} (C : Cn x d t mc ms) {L2 : List (Nat × Value)} {i : Nat} {z z2 e : Int} (hd : decode (dc d) pc = .ok (.iinc i e, 3)) (hq : pc + 3 = q) (p : Nat) (hp : L[p]? = some (i, vi z)) (hn : i < n) (hz : z + e = z2) (hL : (i, vi z2) :: L.filter (fun q => !(q.1 == i) && !(q.1 + 1 == i && q.2.category == 2)) = L2) (k : Nx x n q L2 st ws c s) : Nx x n pc L st ws c s := by
  subst hq
  subst hz
  exact fun H locs ls hP hD hS hl => lv_iinc C.ex C.by_ hd hl hp (jI_add z e) hn hL (fun ls2 h2 => k H locs ls2 hP hD hS h2)
theorem n_dup {x : Xx} {d : Md} {t : T5} {mc ms n pc q c s : Nat} {L : List (Nat × Value)} {st : List Value} {ws : va_W} (C : Cn x d t mc ms) {v : Value} (hd : decode (dc d) pc = .ok (.dup, 1)) (hq : pc + 1 = q) (hv : v.category = 1) (k : Nx x n q L (v :: v :: st) ws c s) : Nx x n pc L (v :: st) ws c s := by
  subst hq
  exact fun H locs ls hP hD hS hl => lv_dup C.ex C.by_ hd hv (k H locs ls hP hD hS hl)
theorem n_goto {x : Xx} {d : Md} {t : T5} {mc ms n pc c s : Nat} {L : List (Nat × Value)} {st : List Value} {ws : va_W} (C : Cn x d t mc ms) {off : Int} {u : Nat} (hd : decode (dc d) pc = .ok (.goto off, 3)) (ht : (pc : Int) + off = (u : Int)) (k : Nx x n u L st ws c s) : Nx x n pc L st ws c s := fun H locs ls hP hD hS hl => lv_goto C.ex C.by_ hd ht (k H locs ls hP hD hS hl)
theorem n_geT {x : Xx} {d : Md} {t : T5} {mc ms n pc c s : Nat} {L : List (Nat × Value)} {st : List Value} {ws : va_W} (C : Cn x d t mc ms) {a b off : Int} {u : Nat} (hd : decode (dc d) pc = .ok (.if_icmp .ge off, 3)) (ht : (pc : Int) + off = (u : Int)) (hr : jI b ≤ jI a) (k : Nx x n u L st ws c s) : Nx x n pc L (vi b :: vi a :: st) ws c s := fun H locs ls hP hD hS hl => lv_icmp_ge C.ex C.by_ hd ht (fun _ => k H locs ls hP hD hS hl) (fun h => absurd hr h)
theorem n_geF {x : Xx} {d : Md} {t : T5} {mc ms n pc q c s : Nat} {L : List (Nat × Value)} {st : List Value} {ws : va_W} (C : Cn x d t mc ms) {a b off : Int} {u : Nat} (hd : decode (dc d) pc = .ok (.if_icmp .ge off, 3)) (hq : pc + 3 = q) (ht : (pc : Int) + off = (u : Int)) (hr : ¬ jI b ≤ jI a) (k : Nx x n q L st ws c s) : Nx x n pc L (vi b :: vi a :: st) ws c s := by
  subst hq
  exact fun H locs ls hP hD hS hl => lv_icmp_ge C.ex C.by_ hd ht (fun h => absurd h hr) (fun _ => k H locs ls hP hD hS hl)
theorem n_objInit {x : Xx} {d : Md} {t : T5} {mc ms n pc q c s : Nat} {L : List (Nat × Value)} {st : List Value} {ws : va_W} (C : Cn x d t mc ms) {idx h : Nat} (hw : Cond.methodLink (dy d).cls idx objectInit ∈ wsL_law) (hw1 : Cond.instanceMethod objectInit ∈ wsL_law) (hw2 : Cond.code objectInit ⟨#[0xb1]⟩ 1 none ∈ wsL_law) (hn : dn d = n) (hfr : 1 ≤ df d ∧ 12 ≤ dl d) (hd : decode (dc d) pc = .ok (.invokespecial idx, 3)) (hq : pc + 3 = q) (k : Nx x n q L [] ws c s) : Nx x n pc L [.ref h] ws c s := by
  subst hq
  exact fun H locs ls hP hD hS hl => W.objInit C.ex C.by_ C.ow (C.ts _ hw) (C.ts _ hw1) (C.ts _ hw2) rfl (by rw [C.ml, hn]; exact hl.1) rfl hd (Nat.le_trans hfr.1 C.rm.1) (Nat.le_trans hfr.2 C.rm.2.1) (W.eq (g2 := F0 (xm x) (pc + 3) ls []) rfl (k H locs ls hP hD hS hl))
theorem k5_uniq {D : va_G} {t : T5} {U : State} {cA : ClassId} {ty : FieldType} {i : Nat} (hK : va_K D vwCl (k5 t) U) {cB : ClassId} (hi : (k5 t)[i]? = some (cB, ty)) (hA : va_RA U cA ty) : cA = cB := by
  have h := (hK.2 i _ hi).2
  have f : ∀ z, va_RA U z ty → U.vm.findClass ("[" ++ ty.toString) = some z := by
    intro z hz
    cases ty with
    | object C => obtain ⟨kA, comp, h1, h2, h3, h4⟩ := hz; exact h4
    | _ => exact hz
  exact Option.some.inj ((f _ hA).symm.trans (f _ h))
theorem n_newa {x : Xx} {d : Md} {t : T5} {mc ms n pc q c s c2 s2 : Nat} {L : List (Nat × Value)} {st : List Value} {ws : va_W} (C : Cn x d t mc ms) {atype : ArrayType} {ty : FieldType} {z : Int} {N : Nat} {a0 : vp_A} {cA : ClassId} (hw : Cond.arrayClass (newarray.typeOf atype) ∈ wsL_law) (hty : newarray.typeOf atype = ty) (ti : Nat) (hti : (k5 t)[ti]? = some (cA, ty)) (ha : ∀ cA : ClassId, vp_cell cA a0 = arrV cA N (fun _ => defaultValue ty)) (hn : ¬ jI z < 0) (hN : (jI z).toNatClampNeg = N) (hb : N * componentBytes ty ≤ 536870912) (hc : c + 1 ≤ mc ∧ s + N ≤ ms) (hc2 : c + 1 = c2 ∧ s + N = s2) (hd : decode (dc d) pc = .ok (.newarray atype, 2)) (hq : pc + 2 = q)
    (k : ∀ a, Nx x n q L (.ref a :: st) (ws ++ [(a, .inl (cA, a0))]) c2 s2) : Nx x n pc L (vi z :: st) ws c s := by
  subst hq
  obtain ⟨rfl, rfl⟩ := hc2
  intro H locs ls hP hD hS hl
  refine va_newa C.ex C.by_ (C.ts _ hw) hty C.kk hP hD hS C.aa ha hn hN hb (Nat.le_trans hc.1 C.rm.2.2.1) (Nat.le_trans hc.2 C.rm.2.2.2) hd (fun a cB H1 hK1 hP1 hD1 hS1 => ?_)
  have e : cB = cA := by
    have h5 : (k5 t ++ [(cB, ty)])[5]? = some (cB, ty) := rfl
    exact k5_uniq C.kk hti (hK1.2 5 _ h5).2
  subst e
  exact k a H1 locs ls hP1 hD1 hS1 hl
theorem n_newq {x : Xx} {d : Md} {t : T5} {mc ms n pc q c s c2 s2 : Nat} {L : List (Nat × Value)} {st : List Value} {ws : va_W} (C : Cn x d t mc ms) {idx : Nat} {z : Int} {N : Nat} (hw : Cond.classLink (dy d).cls idx "NearFigures$Setting" ∈ wsL_law) (hn : ¬ jI z < 0) (hN : (jI z).toNatClampNeg = N) (hb : N * 4 ≤ 536870912) (hc : c + 1 ≤ mc ∧ s + N ≤ ms) (hc2 : c + 1 = c2 ∧ s + N = s2) (hd : decode (dc d) pc = .ok (.anewarray idx, 3)) (hq : pc + 3 = q)
    (k : ∀ a, Nx x n q L (.ref a :: st) (ws ++ [(a, .inl (t.2.2.2.1, N, .inr (.inr (.inr (.inr (fun _ => none))))))]) c2 s2) : Nx x n pc L (vi z :: st) ws c s := by
  subst hq
  obtain ⟨rfl, rfl⟩ := hc2
  intro H locs ls hP hD hS hl
  refine va_newq C.ex C.by_ C.ow (C.ts _ hw) C.cr.2.1 C.kk hP hD hS C.aa hn hN hb (Nat.le_trans hc.1 C.rm.2.2.1) (Nat.le_trans hc.2 C.rm.2.2.2) hd (fun a cB H1 hK1 hP1 hD1 hS1 => ?_)
  have e : cB = t.2.2.2.1 := by
    have h5 : (k5 t ++ [(cB, .object "NearFigures$Setting")])[5]? = some (cB, .object "NearFigures$Setting") := rfl
    exact k5_uniq (i := 3) C.kk rfl (hK1.2 5 _ h5).2
  subst e
  exact k a H1 locs ls hP1 hD1 hS1 hl
theorem n_new {x : Xx} {d : Md} {t : T5} {mc ms n pc q c s c2 s2 : Nat} {L : List (Nat × Value)} {st : List Value} {ws : va_W} (C : Cn x d t mc ms) {idx ci N : Nat} {R0 : String} {T0 : u_T} {fs : List Value} {ty0 : Nat → FieldType} (hv : vwCl[ci]? = some (R0, T0, N)) (hin : ∀ w ∈ u_ws R0 T0 N, w ∈ wsL_law) (hty : ∀ k, k < N → parseFieldDescriptor (T0 k).2.2.1 = some (ty0 k)) (hw : Cond.classLink (dy d).cls idx R0 ∈ wsL_law) (hw1 : Cond.instantiable R0 N ∈ wsL_law) (hw2 : Cond.initialized R0 ∈ wsL_law) (hfs : ∀ j, j < N → defaultValue (ty0 j) = vp_V fs j) (hc : c + 1 ≤ mc ∧ s + N ≤ ms) (hc2 : c + 1 = c2 ∧ s + N = s2) (hd : decode (dc d) pc = .ok (.new idx, 3)) (hq : pc + 3 = q)
    (k : ∀ a, Nx x n q L (.ref a :: st) (ws ++ [(a, .inr (ci, fs))]) c2 s2) : Nx x n pc L st ws c s := by
  subst hq
  obtain ⟨rfl, rfl⟩ := hc2
  intro H locs ls hP hD hS hl
  exact va_new C.ex C.by_ C.ts hin ty0 hty C.ow (C.ts _ hw) (C.ts _ hw1) (C.ts _ hw2) C.kk hP hD hS C.aa hv hfs (Nat.le_trans hc.1 C.rm.2.2.1) (Nat.le_trans hc.2 C.rm.2.2.2) hd (fun a H1 hP1 hD1 hS1 => k a H1 locs ls hP1 hD1 hS1 hl)
theorem n_putF {x : Xx} {d : Md} {t : T5} {mc ms n pc q c s : Nat} {L : List (Nat × Value)} {st : List Value} {ws ws2 : va_W} (C : Cn x d t mc ms) (hin2 : (xt x).name = "<init>") {a ci i idx N : Nat} {fs : List Value} {R0 : String} {T0 : u_T} {v : Value} {ty0 : Nat → FieldType} {ty : FieldType} (q0 : Nat) (he : ws[q0]? = some (a, .inr (ci, fs))) (hv : vwCl[ci]? = some (R0, T0, N)) (hin : ∀ w ∈ u_ws R0 T0 N, w ∈ wsL_law) (hty : ∀ k, k < N → parseFieldDescriptor (T0 k).2.2.1 = some (ty0 k)) (hnm : ∀ a, a < N → ∀ b, b < N → a ≠ b → (T0 a).2.1 ≠ (T0 b).2.1) (hi : i < N) (hw : Cond.fieldLink (dy d).cls idx (T0 i).1 (T0 i).2.1 (T0 i).2.2.1 ∈ wsL_law) (hfin : (T0 i).2.2.2 = true) (hdecl : (T0 i).1 = (dy d).cls) (htd : parseFieldDescriptor (T0 i).2.2.1 = some ty) (hn : narrow ty v = v) (hfit : fits ty v = true) (hlen : i < fs.length) (hws : ws.set q0 (a, .inr (ci, fs.set i v)) = ws2) (hd : decode (dc d) pc = .ok (.putfield idx, 3)) (hq : pc + 3 = q) (k : Nx x n q L st ws2 c s) : Nx x n pc L (v :: .ref a :: st) ws c s := by
  subst hq
  subst hws
  intro H locs ls hP hD hS hl
  exact va_putF (D := gD (xg x)) (ci := ci) (v := v) (ty := ty) C.ex C.by_ C.ts hin ty0 hty hnm C.ow C.kk hP hD hS q0 he hv i hi (C.ts _ hw) (fun _ h9 => h9) hfin hin2 hdecl htd hn hfit hlen hd (fun H1 locs1 hP1 hD1 hS1 => k H1 locs1 ls hP1 hD1 hS1 hl)
theorem n_put {x : Xx} {d : Md} {t : T5} {mc ms n pc q c s : Nat} {L : List (Nat × Value)} {st : List Value} {ws ws2 : va_W} (C : Cn x d t mc ms) {a ci i idx N : Nat} {fs : List Value} {R0 : String} {T0 : u_T} {v : Value} {ty0 : Nat → FieldType} {ty : FieldType} (q0 : Nat) (he : ws[q0]? = some (a, .inr (ci, fs))) (hv : vwCl[ci]? = some (R0, T0, N)) (hin : ∀ w ∈ u_ws R0 T0 N, w ∈ wsL_law) (hty : ∀ k, k < N → parseFieldDescriptor (T0 k).2.2.1 = some (ty0 k)) (hnm : ∀ a, a < N → ∀ b, b < N → a ≠ b → (T0 a).2.1 ≠ (T0 b).2.1) (hi : i < N) (hw : Cond.fieldLink (dy d).cls idx (T0 i).1 (T0 i).2.1 (T0 i).2.2.1 ∈ wsL_law) (hfin : (T0 i).2.2.2 = false) (htd : parseFieldDescriptor (T0 i).2.2.1 = some ty) (hn : narrow ty v = v) (hfit : fits ty v = true) (hlen : i < fs.length) (hws : ws.set q0 (a, .inr (ci, fs.set i v)) = ws2) (hd : decode (dc d) pc = .ok (.putfield idx, 3)) (hq : pc + 3 = q) (k : Nx x n q L st ws2 c s) : Nx x n pc L (v :: .ref a :: st) ws c s := by
  subst hq
  subst hws
  intro H locs ls hP hD hS hl
  exact va_put (D := gD (xg x)) (ci := ci) (v := v) (ty := ty) C.ex C.by_ C.ts hin ty0 hty hnm C.ow C.kk hP hD hS q0 he hv i hi (C.ts _ hw) (fun _ h9 => h9) hfin htd hn hfit hlen hd (fun H1 locs1 hP1 hD1 hS1 => k H1 locs1 ls hP1 hD1 hS1 hl)
theorem n_get {x : Xx} {d : Md} {t : T5} {mc ms n pc q c s : Nat} {L : List (Nat × Value)} {st : List Value} {ws : va_W} (C : Cn x d t mc ms) {a ci i idx N : Nat} {fs : List Value} {R0 : String} {T0 : u_T} {v : Value} (q0 : Nat) (he : ws[q0]? = some (a, .inr (ci, fs))) (hv : vwCl[ci]? = some (R0, T0, N)) (hin : ∀ w ∈ u_ws R0 T0 N, w ∈ wsL_law) (hi : i < N) (hw : Cond.fieldLink (dy d).cls idx (T0 i).1 (T0 i).2.1 (T0 i).2.2.1 ∈ wsL_law) (hf : fs[i]? = some v) (hd : decode (dc d) pc = .ok (.getfield idx, 3)) (hq : pc + 3 = q) (k : Nx x n q L (v :: st) ws c s) : Nx x n pc L (.ref a :: st) ws c s := by
  subst hq
  exact fun H locs ls hP hD hS hl => va_get (D := gD (xg x)) (ci := ci) (v := v) C.ex C.by_ C.ts hin C.ow C.kk hP q0 he hv i hi (C.ts _ hw) (fun _ h9 => h9) hf hd (k H locs ls hP hD hS hl)
theorem n_iast {x : Xx} {d : Md} {t : T5} {mc ms n pc q c s : Nat} {L : List (Nat × Value)} {st : List Value} {ws ws2 : va_W} (C : Cn x d t mc ms) {a N : Nat} {f : Nat → Int32} {i z : Int} (q0 : Nat) (he : ws[q0]? = some (a, .inl (t.1, N, .inl f))) (hi : 0 ≤ i ∧ i < (N : Int)) (hm : N < 2147483648) (hws : ws.set q0 (a, .inl (t.1, N, .inl (upd f i.toNat (jI z)))) = ws2) (hd : decode (dc d) pc = .ok (.iastore, 1)) (hq : pc + 1 = q) (k : Nx x n q L st ws2 c s) : Nx x n pc L (vi z :: vi i :: .ref a :: st) ws c s := by
  subst hq
  subst hws
  intro H locs ls hP hD hS hl
  refine va_iast C.ex C.by_ C.kk hP hD hS q0 0 he rfl (jI_in hi hm) hd (fun H1 locs1 hP1 hD1 hS1 => ?_)
  rw [jI_tn hi hm] at hP1 hD1
  exact k H1 locs1 ls hP1 hD1 hS1 hl
theorem n_aast {x : Xx} {d : Md} {t : T5} {mc ms n pc q c s : Nat} {L : List (Nat × Value)} {st : List Value} {ws ws2 : va_W} (C : Cn x d t mc ms) {a N v : Nat} {f : Nat → Option Nat} {vs : List Value} {i : Int} (q0 qk : Nat) (he : ws[q0]? = some (a, .inl (t.2.2.2.1, N, .inr (.inr (.inr (.inr f)))))) (hv : ws[qk]? = some (v, .inr (4, vs))) (hi : 0 ≤ i ∧ i < (N : Int)) (hm : N < 2147483648) (hws : ws.set q0 (a, .inl (t.2.2.2.1, N, .inr (.inr (.inr (.inr (va_up f i.toNat (some v))))))) = ws2) (hd : decode (dc d) pc = .ok (.aastore, 1)) (hq : pc + 1 = q) (k : Nx x n q L st ws2 c s) : Nx x n pc L (.ref v :: vi i :: .ref a :: st) ws c s := by
  subst hq
  subst hws
  intro H locs ls hP hD hS hl
  refine va_astq (r := (RX4, TX4, 3)) C.ex C.by_ C.kk hP hD hS q0 3 qk 4 he rfl hv rfl (jI_in hi hm) hd (fun H1 locs1 hP1 hD1 hS1 => ?_)
  rw [jI_tn hi hm] at hP1 hD1
  exact k H1 locs1 ls hP1 hD1 hS1 hl
