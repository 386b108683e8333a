/-! ===== worlds by their head: the object that is being made, and all else ===== -/
theorem n_getH {x : Xx} {d : Md} {t : T5} {mc ms n pc q c s : Nat} {L : List (Nat × Value)} {st : List Value} {rest : va_W} (C : Cn x d t mc ms) {a ci i idx N : Nat} {fs : List Value} {R0 : String} {T0 : u_T} {v : Value} (hv : vwCl[ci]? = some (R0, T0, N)) (hin : ∀ w ∈ u_ws R0 T0 N, w ∈ wsL_law) (hi : i < N) (hw : Cond.fieldLink (dy d).cls idx (T0 i).1 (T0 i).2.1 (T0 i).2.2.1 ∈ wsL_law) (hf : fs[i]? = some v) (hd : decode (dc d) pc = .ok (.getfield idx, 3)) (hq : pc + 3 = q) (k : Nx x n q L (v :: st) ((a, .inr (ci, fs)) :: rest) c s) : Nx x n pc L (.ref a :: st) ((a, .inr (ci, fs)) :: rest) c s :=
  n_get C 0 rfl hv hin hi hw hf hd hq k
theorem n_putHF {x : Xx} {d : Md} {t : T5} {mc ms n pc q c s : Nat} {L : List (Nat × Value)} {st : List Value} {rest : va_W} (C : Cn x d t mc ms) (hin2 : (xt x).name = "<init>") {a ci i idx N : Nat} {fs fs2 : List Value} {R0 : String} {T0 : u_T} {v : Value} {ty0 : Nat → FieldType} {ty : FieldType} (hv : vwCl[ci]? = some (R0, T0, N)) (hin : ∀ w ∈ u_ws R0 T0 N, w ∈ wsL_law) (hty : ∀ k, k < N → parseFieldDescriptor (T0 k).2.2.1 = some (ty0 k)) (hnm : ∀ a, a < N → ∀ b, b < N → a ≠ b → (T0 a).2.1 ≠ (T0 b).2.1) (hi : i < N) (hw : Cond.fieldLink (dy d).cls idx (T0 i).1 (T0 i).2.1 (T0 i).2.2.1 ∈ wsL_law) (hfin : (T0 i).2.2.2 = true) (hdecl : (T0 i).1 = (dy d).cls) (htd : parseFieldDescriptor (T0 i).2.2.1 = some ty) (hn : narrow ty v = v) (hfit : fits ty v = true) (hlen : i < fs.length) (hfs : fs.set i v = fs2) (hd : decode (dc d) pc = .ok (.putfield idx, 3)) (hq : pc + 3 = q) (k : Nx x n q L st ((a, .inr (ci, fs2)) :: rest) c s) : Nx x n pc L (v :: .ref a :: st) ((a, .inr (ci, fs)) :: rest) c s := by
  subst hfs
  exact n_putF C hin2 0 rfl hv hin hty hnm hi hw hfin hdecl htd hn hfit hlen rfl hd hq k
theorem n_putH {x : Xx} {d : Md} {t : T5} {mc ms n pc q c s : Nat} {L : List (Nat × Value)} {st : List Value} {rest : va_W} (C : Cn x d t mc ms) {a ci i idx N : Nat} {fs fs2 : List Value} {R0 : String} {T0 : u_T} {v : Value} {ty0 : Nat → FieldType} {ty : FieldType} (hv : vwCl[ci]? = some (R0, T0, N)) (hin : ∀ w ∈ u_ws R0 T0 N, w ∈ wsL_law) (hty : ∀ k, k < N → parseFieldDescriptor (T0 k).2.2.1 = some (ty0 k)) (hnm : ∀ a, a < N → ∀ b, b < N → a ≠ b → (T0 a).2.1 ≠ (T0 b).2.1) (hi : i < N) (hw : Cond.fieldLink (dy d).cls idx (T0 i).1 (T0 i).2.1 (T0 i).2.2.1 ∈ wsL_law) (hfin : (T0 i).2.2.2 = false) (htd : parseFieldDescriptor (T0 i).2.2.1 = some ty) (hn : narrow ty v = v) (hfit : fits ty v = true) (hlen : i < fs.length) (hfs : fs.set i v = fs2) (hd : decode (dc d) pc = .ok (.putfield idx, 3)) (hq : pc + 3 = q) (k : Nx x n q L st ((a, .inr (ci, fs2)) :: rest) c s) : Nx x n pc L (v :: .ref a :: st) ((a, .inr (ci, fs)) :: rest) c s := by
  subst hfs
  exact n_put C 0 rfl hv hin hty hnm hi hw hfin htd hn hfit hlen rfl hd hq k
theorem n_newaH {x : Xx} {d : Md} {t : T5} {mc ms n pc q c s c2 s2 : Nat} {L : List (Nat × Value)} {st : List Value} {o : Nat × va_E} {rest : va_W} (C : Cn x d t mc ms) {atype : ArrayType} {ty : FieldType} {z : Int} {N : Nat} {a0 : vp_A} {cA : ClassId} (hw : Cond.arrayClass (newarray.typeOf atype) ∈ wsL_law) (hty : newarray.typeOf atype = ty) (ti : Nat) (hti : (k5 t)[ti]? = some (cA, ty)) (ha : ∀ cA : ClassId, vp_cell cA a0 = arrV cA N (fun _ => defaultValue ty)) (hn : ¬ jI z < 0) (hN : (jI z).toNatClampNeg = N) (hb : N * componentBytes ty ≤ 536870912) (hc : c + 1 ≤ mc ∧ s + N ≤ ms) (hc2 : c + 1 = c2 ∧ s + N = s2) (hd : decode (dc d) pc = .ok (.newarray atype, 2)) (hq : pc + 2 = q)
    (k : ∀ a, Nx x n q L (.ref a :: st) (o :: (rest ++ [(a, .inl (cA, a0))])) c2 s2) : Nx x n pc L (vi z :: st) (o :: rest) c s :=
  n_newa C hw hty ti hti ha hn hN hb hc hc2 hd hq k
theorem n_newqH {x : Xx} {d : Md} {t : T5} {mc ms n pc q c s c2 s2 : Nat} {L : List (Nat × Value)} {st : List Value} {o : Nat × va_E} {rest : va_W} (C : Cn x d t mc ms) {idx : Nat} {z : Int} {N : Nat} (hw : Cond.classLink (dy d).cls idx "NearFigures$Setting" ∈ wsL_law) (hn : ¬ jI z < 0) (hN : (jI z).toNatClampNeg = N) (hb : N * 4 ≤ 536870912) (hc : c + 1 ≤ mc ∧ s + N ≤ ms) (hc2 : c + 1 = c2 ∧ s + N = s2) (hd : decode (dc d) pc = .ok (.anewarray idx, 3)) (hq : pc + 3 = q)
    (k : ∀ a, Nx x n q L (.ref a :: st) (o :: (rest ++ [(a, .inl (t.2.2.2.1, N, .inr (.inr (.inr (.inr (fun _ => none))))))])) c2 s2) : Nx x n pc L (vi z :: st) (o :: rest) c s :=
  n_newq C hw hn hN hb hc hc2 hd hq k
theorem n_newH {x : Xx} {d : Md} {t : T5} {mc ms n pc q c s c2 s2 : Nat} {L : List (Nat × Value)} {st : List Value} {o : Nat × va_E} {rest : va_W} (C : Cn x d t mc ms) {idx ci N : Nat} {R0 : String} {T0 : u_T} {fs : List Value} {ty0 : Nat → FieldType} (hv : vwCl[ci]? = some (R0, T0, N)) (hin : ∀ w ∈ u_ws R0 T0 N, w ∈ wsL_law) (hty : ∀ k, k < N → parseFieldDescriptor (T0 k).2.2.1 = some (ty0 k)) (hw : Cond.classLink (dy d).cls idx R0 ∈ wsL_law) (hw1 : Cond.instantiable R0 N ∈ wsL_law) (hw2 : Cond.initialized R0 ∈ wsL_law) (hfs : ∀ j, j < N → defaultValue (ty0 j) = vp_V fs j) (hc : c + 1 ≤ mc ∧ s + N ≤ ms) (hc2 : c + 1 = c2 ∧ s + N = s2) (hd : decode (dc d) pc = .ok (.new idx, 3)) (hq : pc + 3 = q)
    (k : ∀ a, Nx x n q L (.ref a :: st) (o :: (rest ++ [(a, .inr (ci, fs))])) c2 s2) : Nx x n pc L st (o :: rest) c s :=
  n_new C hv hin hty hw hw1 hw2 hfs hc hc2 hd hq k
theorem n_callINH {x : Xx} {d : Md} {t : T5} {mc ms n pc q c s c2 s2 : Nat} {L : List (Nat × Value)} {st : List Value} {o : Nat × va_E} {rest : va_W} (C : Cn x d t mc ms) (d2 : Md) {e0 : va_E} {post : Nat → va_W → Prop} {mc2 ms2 idx a : Nat} (hM : Cc (xl x) (gD (xg x)) t d2 mc2 ms2 e0 post) (hmem : ((dy d).cls, idx, dy d2) ∈ nM) (hw1 : Cond.instanceMethod (dy d2) ∈ wsL_law) (hw3 : Cond.initialized (dy d2).cls ∈ wsL_law) (hw4 : Cond.code (dy d2) (dc d2) (dn d2) none ∈ wsL_law) (hnm : (dy d2).name = "<init>")
    (hdd : (dy d2).cls ≠ "java/lang/invoke/MethodHandle" ∧ (dy d2).cls ≠ "java/lang/invoke/VarHandle" ∧ (parseMethodDescriptor (dy d2).desc).map (fun d => d.parameters.length) = some 0) (hn : dn d = n) (hfr : df d2 + 1 ≤ df d ∧ 8 + (dn d2 + 11) + dl d2 ≤ dl d) (hW : (st.map fun v => v.category).sum ≤ 8) (hc : c + mc2 ≤ mc ∧ s + ms2 ≤ ms) (hc2 : c + mc2 = c2 ∧ s + ms2 = s2)
    (hd : decode (dc d) pc = .ok (.invokespecial idx, 3)) (hq : pc + 3 = q) (k : ∀ ws1, post a ws1 → Nx x n q L st (o :: (rest ++ ws1)) c2 s2) : Nx x n pc L (.ref a :: st) (o :: (rest ++ [(a, e0)])) c s :=
  n_callIN (ws := o :: rest) C d2 hM hmem hw1 hw3 hw4 hnm hdd hn hfr hW hc hc2 hd hq k
theorem n_callIH {x : Xx} {d : Md} {t : T5} {mc ms n pc q c s c2 s2 : Nat} {L : List (Nat × Value)} {st : List Value} {o : Nat × va_E} {rest : va_W} (C : Cn x d t mc ms) (d2 : Md) {e0 : va_E} {post : Nat → va_W → Prop} {mc2 ms2 idx a : Nat} (hM : Cc (xl x) (gD (xg x)) t d2 mc2 ms2 e0 post) (hw : Cond.methodLink (dy d).cls idx (dy d2) ∈ wsL_law) (hw1 : Cond.instanceMethod (dy d2) ∈ wsL_law) (hw3 : Cond.initialized (dy d2).cls ∈ wsL_law) (hw4 : Cond.code (dy d2) (dc d2) (dn d2) none ∈ wsL_law) (hnm : (dy d2).name = "<init>")
    (hdd : (dy d2).cls ≠ "java/lang/invoke/MethodHandle" ∧ (dy d2).cls ≠ "java/lang/invoke/VarHandle" ∧ (parseMethodDescriptor (dy d2).desc).map (fun d => d.parameters.length) = some 0) (hn : dn d = n) (hfr : df d2 + 1 ≤ df d ∧ 8 + (dn d2 + 11) + dl d2 ≤ dl d) (hW : (st.map fun v => v.category).sum ≤ 8) (hc : c + mc2 ≤ mc ∧ s + ms2 ≤ ms) (hc2 : c + mc2 = c2 ∧ s + ms2 = s2)
    (hd : decode (dc d) pc = .ok (.invokespecial idx, 3)) (hq : pc + 3 = q) (k : ∀ ws1, post a ws1 → Nx x n q L st (o :: (rest ++ ws1)) c2 s2) : Nx x n pc L (.ref a :: st) (o :: (rest ++ [(a, e0)])) c s :=
  n_callI (ws := o :: rest) C d2 hM hw hw1 hw3 hw4 hnm hdd hn hfr hW hc hc2 hd hq k
/-- ws2 is ws, but that the cell a holds e where it held e0 -/
def Rep (ws : va_W) (a : Nat) (e0 e : va_E) (ws2 : va_W) : Prop := ∃ p : Nat, ws[p]? = some (a, e0) ∧ ws.set p (a, e) = ws2
theorem Rep.here {a : Nat} {e0 e : va_E} {r : va_W} : Rep ((a, e0) :: r) a e0 e ((a, e) :: r) := ⟨0, rfl, rfl⟩
theorem Rep.tail {a : Nat} {e0 e : va_E} {o : Nat × va_E} {r r2 : va_W} (h : Rep r a e0 e r2) : Rep (o :: r) a e0 e (o :: r2) := by
  obtain ⟨p, h1, h2⟩ := h
  refine ⟨p + 1, by rw [List.getElem?_cons_succ]; exact h1, ?_⟩
  rw [List.set_cons_succ, h2]
theorem Rep.left {a : Nat} {e0 e : va_E} {A A2 B : va_W} (h : Rep A a e0 e A2) : Rep (A ++ B) a e0 e (A2 ++ B) := by
  obtain ⟨p, h1, h2⟩ := h
  have hp : p < A.length := (List.getElem?_eq_some_iff.mp h1).1
  refine ⟨p, by rw [List.getElem?_append_left hp]; exact h1, ?_⟩
  rw [List.set_append_left _ _ hp, h2]
theorem Rep.right {a : Nat} {e0 e : va_E} {A B B2 : va_W} (h : Rep B a e0 e B2) : Rep (A ++ B) a e0 e (A ++ B2) := by
  obtain ⟨p, h1, h2⟩ := h
  refine ⟨A.length + p, by rw [List.getElem?_append_right (by omega), show A.length + p - A.length = p by omega]; exact h1, ?_⟩
  rw [List.set_append_right _ _ (by omega), show A.length + p - A.length = p by omega, h2]
def Att (ws : va_W) (y : Nat × va_E) : Prop := ∃ p : Nat, ws[p]? = some y
theorem Att.here {y : Nat × va_E} {r : va_W} : Att (y :: r) y := ⟨0, rfl⟩
theorem Att.tail {y o : Nat × va_E} {r : va_W} (h : Att r y) : Att (o :: r) y := by
  obtain ⟨p, h1⟩ := h
  exact ⟨p + 1, by rw [List.getElem?_cons_succ]; exact h1⟩
theorem Att.left {y : Nat × va_E} {A B : va_W} (h : Att A y) : Att (A ++ B) y := by
  obtain ⟨p, h1⟩ := h
  exact ⟨p, by rw [List.getElem?_append_left (List.getElem?_eq_some_iff.mp h1).1]; exact h1⟩
theorem Att.right {y : Nat × va_E} {A B : va_W} (h : Att B y) : Att (A ++ B) y := by
  obtain ⟨p, h1⟩ := h
  exact ⟨A.length + p, by rw [List.getElem?_append_right (by omega), show A.length + p - A.length = p by omega]; exact h1⟩
theorem n_iastR {x : Xx} {d : Md} {t : T5} {mc ms n pc q c s : Nat} {L : List (Nat × Value)} {st : List Value} {ws ws2 : va_W} (C : Cn x d t mc ms) {a N : Nat} {f : Nat → Int32} {i z : Int} (hr : Rep ws a (.inl (t.1, N, .inl f)) (.inl (t.1, N, .inl (upd f i.toNat (jI z)))) ws2) (hi : 0 ≤ i ∧ i < (N : Int)) (hm : N < 2147483648) (hd : decode (dc d) pc = .ok (.iastore, 1)) (hq : pc + 1 = q) (k : Nx x n q L st ws2 c s) : Nx x n pc L (vi z :: vi i :: .ref a :: st) ws c s := by
  obtain ⟨p, h1, h2⟩ := hr
  exact n_iast C p h1 hi hm h2 hd hq k
theorem n_aastR {x : Xx} {d : Md} {t : T5} {mc ms n pc q c s : Nat} {L : List (Nat × Value)} {st : List Value} {ws ws2 : va_W} (C : Cn x d t mc ms) {a N v : Nat} {f : Nat → Option Nat} {vs : List Value} {i : Int} (hr : Rep ws a (.inl (t.2.2.2.1, N, .inr (.inr (.inr (.inr f))))) (.inl (t.2.2.2.1, N, .inr (.inr (.inr (.inr (va_up f i.toNat (some v))))))) ws2) (hv : Att ws (v, .inr (4, vs))) (hi : 0 ≤ i ∧ i < (N : Int)) (hm : N < 2147483648) (hd : decode (dc d) pc = .ok (.aastore, 1)) (hq : pc + 1 = q) (k : Nx x n q L st ws2 c s) : Nx x n pc L (.ref v :: vi i :: .ref a :: st) ws c s := by
  obtain ⟨p, h1, h2⟩ := hr
  obtain ⟨p2, h3⟩ := hv
  exact n_aast C p p2 h1 h3 hi hm h2 hd hq k
