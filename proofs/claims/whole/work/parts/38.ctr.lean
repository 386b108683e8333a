/-! ===== constructors: contracts, calls, ends ===== -/
theorem ha_i (N : Nat) : ∀ cA : ClassId, vp_cell cA (N, .inl (fun _ => jI 0)) = arrV cA N (fun _ => defaultValue .int) := fun cA => by rw [vp_cell_i, ← jI_0]; rfl
theorem ha_z (N : Nat) : ∀ cA : ClassId, vp_cell cA (N, .inl (fun _ => jI 0)) = arrV cA N (fun _ => defaultValue .boolean) := fun cA => by rw [vp_cell_i, ← jI_0]; rfl
theorem ha_l (N : Nat) : ∀ cA : ClassId, vp_cell cA (N, .inr (.inl (fun _ => jL 0))) = arrV cA N (fun _ => defaultValue .long) := fun cA => by
  have : (0 : Int64) = jL 0 := by decide
  show arrV cA N (fun _ => .long (jL 0)) = _
  rw [← this]
  rfl
abbrev mnL (t : T5) (a : Nat) : va_W := [(a, .inl (t.2.2.2.2, 4, .inr (.inr (.inr (.inr (fun i => some (a + 1 + i))))))), (a + 1, .inl (t.1, 10, .inl (fun _ => jI 0))), (a + 2, .inl (t.1, 10, .inl (fun _ => jI 0))), (a + 3, .inl (t.1, 10, .inl (fun _ => jI 0))), (a + 4, .inl (t.1, 10, .inl (fun _ => jI 0)))]
set_option maxHeartbeats 1000000 in
theorem n_mna {x : Xx} {d : Md} {t : T5} {mc ms n pc q c s c2 s2 : Nat} {L : List (Nat × Value)} {st : List Value} {ws : va_W} (C : Cn x d t mc ms) {idx : Nat} (hw : Cond.classLink (dy d).cls idx "[[I" ∈ wsL_law) (hw2 : Cond.arrayClass .int ∈ wsL_law) (hc : c + (1 + 4) ≤ mc ∧ s + (4 + 4 * 10) ≤ ms) (hc2 : c + 1 + 4 = c2 ∧ s + 4 + 4 * 10 = s2) (hd : decode (dc d) pc = .ok (.multianewarray idx 2, 4)) (hq : pc + 4 = q)
    (k : ∀ a, Nx x n q L (.ref a :: st) (ws ++ mnL t a) c2 s2) : Nx x n pc L (vi 10 :: vi 4 :: st) ws c s := by
  subst hq
  obtain ⟨rfl, rfl⟩ := hc2
  intro H locs ls hP hD hS hl T hT Xs
  obtain ⟨vm₁, cA, cI, fA, fC, X', step⟩ := mq_step Xs C.ex C.ow (C.ts _ hw) C.cr.2.2 (C.ts _ hw2) (g := F0 (xm x) pc ls (vi 10 :: vi 4 :: st)) rfl (by rw [C.by_]; exact hd) (rest := st) rfl (Nat.le_trans hc.1 C.rm.2.2.1) (Nat.le_trans hc.2 C.rm.2.2.2)
  have ea : cA = t.2.2.2.2 := k5_uniq (i := 4) C.kk rfl (show (xs x).vm.findClass "[[I" = some cA from fA)
  have ec : cI = t.1 := k5_uniq (i := 0) C.kk rfl (show (xs x).vm.findClass "[I" = some cI from fC)
  subst ea
  subst ec
  have hTh : (T.setVm vm₁).heap = H := hT
  have hTs : T.heap = H := hT
  obtain ⟨f1, f2, f3, hold, -⟩ := mq_heap (T.setVm vm₁) t.2.2.2.2 t.1 4
  rw [hTs] at X' step
  generalize hF : mq_T (T.setVm vm₁) t.2.2.2.2 t.1 4 = F at X' step f1 f2 f3 hold
  rw [hTh] at f1 f2 f3 hold
  have hrow : ∀ j : Nat, j < 4 → F.heap[H.size + 1 + j]? = some (vp_cell t.1 (10, .inl (fun _ => jI 0))) := fun j hj => by
    rw [f3 j hj, ha_i]
    rfl
  have hout : F.heap[H.size]? = some (vp_cell t.2.2.2.2 (4, .inr (.inr (.inr (.inr (fun i => some (H.size + 1 + i))))))) := by
    rw [f2, vp_cell_q]
    exact congrArg some (arrV_ext (fun j hj => by rw [if_pos hj]; rfl))
  have hw5 : ∀ (k9 : Nat) (y : Nat × va_E), (mnL t H.size)[k9]? = some y → k9 < 5 ∧ y.1 = H.size + k9 ∧ va_at (gD (xg x)) vwCl y F.heap := by
    intro k9 y hy
    have h5 : k9 < 5 := (List.getElem?_eq_some_iff.mp hy).1
    rcases (show k9 = 0 ∨ k9 = 1 ∨ k9 = 2 ∨ k9 = 3 ∨ k9 = 4 by omega) with rfl | rfl | rfl | rfl | rfl
    · cases hy; exact ⟨h5, rfl, hout⟩
    · cases hy; exact ⟨h5, rfl, hrow 0 (by decide)⟩
    · cases hy; exact ⟨h5, rfl, hrow 1 (by decide)⟩
    · cases hy; exact ⟨h5, rfl, hrow 2 (by decide)⟩
    · cases hy; exact ⟨h5, rfl, hrow 3 (by decide)⟩
  have hP2 : va_P (gD (xg x)) vwCl (ws ++ mnL t H.size) F.heap := (hP.kept (fun k9 y hy => hold y.1 ((hP k9 y hy).lt))).app (fun k9 y hy => (hw5 k9 y hy).2.2)
  have hD2 : va_D (gA (xg x)) (ws ++ mnL t H.size) := by
    refine va_D.app hD ⟨fun i j p1 p2 h1 h2 e => ?_, fun k9 y hy => ?_⟩ (fun i j p1 p2 h1 h2 e => ?_)
    · have := (hw5 i p1 h1).2.1
      have := (hw5 j p2 h2).2.1
      omega
    · have := (hw5 k9 y hy).2.1
      exact C.aa _ (by have := hS.1; omega)
    · have := (hP i p1 h1).lt
      have := (hw5 j p2 h2).2.1
      omega
  have hS2 : va_S (gA (xg x)) (xs x).heap F.heap (locs ++ mq_L H.size 4) := by
    refine ⟨by rw [f1]; have := hS.1; omega, fun y h1 h2 => (hold y (Nat.lt_of_lt_of_le h1 hS.1)).trans (hS.2.1 y h1 h2), fun q hq => ?_⟩
    rcases List.mem_append.mp hq with h | h
    · exact hS.2.2 q h
    · rw [mq_L_mem _ _ q h]
      exact C.aa _ hS.1
  obtain ⟨u, a1, b1⟩ := k H.size F.heap (locs ++ mq_L H.size 4) ls hP2 hD2 hS2 hl F rfl X'
  exact ⟨u, step u a1, b1⟩
theorem va_joinL {A0 : Nat → Prop} {D : va_G} {cl : List vw_C} {wr wc w1 : va_W} {H H1 : Heap} (hP : va_P D cl (wr ++ wc) H) (hD : va_D A0 (wr ++ wc)) (hk : ∀ q : Nat, q < H.size → ¬ va_A wc H.size q → H1[q]? = H[q]?) (hF : ∀ q, va_A wc H.size q → A0 q) (hP1 : va_P D cl w1 H1) (hD1 : va_D (va_A wc H.size) w1) : va_P D cl (wr ++ w1) H1 ∧ va_D A0 (wr ++ w1) := by
  have at' : ∀ (k : Nat) (q : Nat × va_E), wr[k]? = some q → k < wr.length ∧ (wr ++ wc)[k]? = some q := fun k q hq => by
    have h := (List.getElem?_eq_some_iff.mp hq).1
    exact ⟨h, by rw [List.getElem?_append_left h]; exact hq⟩
  have apart : ∀ (k : Nat) (q : Nat × va_E), wr[k]? = some q → q.1 < H.size ∧ ¬ va_A wc H.size q.1 := by
    intro k q hq
    obtain ⟨h1, h2⟩ := at' k q hq
    have hl := (hP k q h2).lt
    refine ⟨hl, fun h => ?_⟩
    rcases h with ⟨k2, e, h⟩ | h
    · have h3 : (wr ++ wc)[wr.length + k2]? = some (q.1, e) := by
        rw [List.getElem?_append_right (by omega), show wr.length + k2 - wr.length = k2 by omega]
        exact h
      have := hD.1 k (wr.length + k2) q (q.1, e) h2 h3 rfl
      omega
    · omega
  refine ⟨va_P.app (fun k q hq => ?_) hP1, va_D.app ⟨fun i j p q hi hj e => hD.1 i j p q (at' i p hi).2 (at' j q hj).2 e, fun k q hq => hD.2 k q (at' k q hq).2⟩ (hD1.weaken (fun k q _ h => hF q.1 h)) (fun i j p q hi hj e => ?_)⟩
  · obtain ⟨g1, g2⟩ := apart k q hq
    exact (hP k q (at' k q hq).2).kept (hk q.1 g1 g2)
  · exact (apart i p hi).2 (by rw [e]; exact hD1.2 j q hj)
/-- a constructor's contract: e0 is the new object before it; then the world is one of which post tells -/
def Cc (l : Launch) (D : va_G) (t : T5) (d : Md) (mc ms : Nat) (e0 : va_E) (post : Nat → va_W → Prop) : Prop := ∀ (h0 sz : Nat),
  Met l (dy d) (.code (dy d) (dc d) (dn d) none :: wsL_law) { frames := df d, cells := mc, slots := ms, locals := dl d } (va_Pc [.ref h0] (fun U => U.heap.size = sz ∧ va_P D vwCl [(h0, e0)] U.heap ∧ va_K D vwCl (k5 t) U ∧ Ctr U)) (va_Qv (fun ws1 : va_W => post h0 ws1) (fun ws1 u => va_P D vwCl ws1 u.heap ∧ va_D (va_A [(h0, e0)] sz) ws1) (va_A [(h0, e0)] sz)) mc ms (va_A [(h0, e0)] sz)
def Rn (x : Xx) (mc ms : Nat) (post : va_W → Prop) : Prop := (xt x).name = "<init>" ∧ (xt x).sig.returnType = none ∧ (xt x).locks = false ∧ xQ x = MQ (xb x) (va_Qv post (fun ws1 u => va_P (gD (xg x)) vwCl ws1 u.heap ∧ va_D (gA (xg x)) ws1) (gA (xg x))) (xa x) (xs x) mc ms (gA (xg x))
theorem cc_of {l : Launch} {D : va_G} {t : T5} {d : Md} {mc ms : Nat} {e0 : va_E} {post : Nat → va_W → Prop} (hp : plainName (dy d).cls = true) (hlen : 1 ≤ dn d) (hin : (dy d).name = "<init>")
    (h : ∀ (x : Xx) (h0 : Nat), xl x = l → gD (xg x) = D → Cn x d t mc ms → Rn x mc ms (post h0) → Nx x (dn d) 0 [(0, .ref h0)] [] [(h0, e0)] 0 0) : Cc l D t d mc ms e0 post := by
  intro h0 sz
  refine Met.ofW (cc := dc d) (maxL := dn d) (ret := none) hp rfl ?_
  intro p e s m args below meth c s₁ B hml hv
  obtain ⟨rfl, rfl, hP, hK, hCt⟩ := hv
  have hts := atoms_spec (ws := .code (dy d) (dc d) (dn d) none :: wsL_law) B.pre
  have hown : s.vm.findClass (dy d).cls = some m.cls := findClass_of_methodNamed B.named
  have hname : meth.name = "<init>" := (name_of_methodNamed B.named B.method).1.trans hin
  have hl := lv_entry [Value.ref h0] (n := dn d) hlen
  rw [lg_entry_eq]
  have hD : va_D (va_A [(h0, e0)] s.heap.size) [(h0, e0)] := by
    refine ⟨fun i j p q hi hj _ => ?_, fun k q hk => va_A.in hk⟩
    have h1 : i < 1 := (List.getElem?_eq_some_iff.mp hi).1
    have h2 : j < 1 := (List.getElem?_eq_some_iff.mp hj).1
    omega
  exact h (p, l, e, { frames := df d, cells := mc, slots := ms, locals := dl d }, s, m, [Value.ref h0].toArray, below, meth, c, (D, va_A [(h0, e0)] s.heap.size, fun _ => 0, fun _ => t.1), MQ below (va_Qv (post h0) (fun ws1 u => va_P D vwCl ws1 u.heap ∧ va_D (va_A [(h0, e0)] s.heap.size) ws1) (va_A [(h0, e0)] s.heap.size)) [Value.ref h0].toArray s mc ms (va_A [(h0, e0)] s.heap.size), 0, 0) h0 rfl rfl ⟨B.exec, B.bytes, hml, hown, fun w hw => hts w (List.mem_cons_of_mem _ hw), hK, hCt, fun q hq => Or.inr hq, Nat.le_refl _, Nat.le_refl _, Nat.le_refl _, Nat.le_refl _⟩ ⟨hname, B.returns, B.notSynchronized, rfl⟩ s.heap [] _ hP hD va_S.rf hl
theorem n_ret {x : Xx} {d : Md} {t : T5} {mc ms n pc c s : Nat} {L : List (Nat × Value)} {ws : va_W} (C : Cn x d t mc ms) {post : va_W → Prop} (hR : Rn x mc ms post) (hc : c = mc ∧ s = ms) (hd : decode (dc d) pc = .ok (.return_, 1)) (hp : post ws) : Nx x n pc L [] ws c s := by
  obtain ⟨rfl, rfl⟩ := hc
  intro H locs ls hP hD hS hl
  obtain ⟨-, hr, hlo, hQ⟩ := hR
  show W _ _ _ _ _ _ _ _ _ _ _ _ _ _ (xQ x) _
  rw [hQ]
  exact W.vret C.ex C.by_ hr (fun u hu hW => ⟨⟨ws, rfl, hp, by rw [hu]; exact hP, hD⟩, hS.F hu⟩) hS.2.2 hd hlo
theorem cc_blind {D : va_G} {t : T5} {av : List Value} {sz : Nat} {w : va_W} : FrameBlind (va_Pc av (fun U => U.heap.size = sz ∧ va_P D vwCl w U.heap ∧ va_K D vwCl (k5 t) U ∧ Ctr U)) := by
  intro a U f mk q
  obtain ⟨q0, q1, q2, q3, q4⟩ := q
  exact ⟨q0, q1, q2, va_K.moved (u := U) (U := U.calling f mk a) (Vm.Alike.refl U.vm) q3, q4.same rfl⟩
theorem good_call2 {d2 : Md} (h : Cond.code (dy d2) (dc d2) (dn d2) none ∈ wsL_law) : GoodIn wsL_law (Cond.code (dy d2) (dc d2) (dn d2) none :: wsL_law) := by
  intro w hw
  rcases List.mem_cons.mp hw with e | e
  · rw [e]
    exact wq_self _ h
  · exact wq_self w e
theorem last_P {D : va_G} {cl : List vw_C} {ws : va_W} {y : Nat × va_E} {H : Heap} (hP : va_P D cl (ws ++ [y]) H) : va_P D cl [y] H := by
  intro k q hq
  have h1 : k < 1 := (List.getElem?_eq_some_iff.mp hq).1
  rw [show k = 0 by omega] at hq
  exact hP ws.length q (by rw [List.getElem?_append_right (Nat.le_refl _), Nat.sub_self]; exact hq)
theorem last_A {A : Nat → Prop} {ws : va_W} {a : Nat} {e0 : va_E} {H0 H : Heap} {locs : List Loc} (hD : va_D A (ws ++ [(a, e0)])) (hS : va_S A H0 H locs) (hA : ∀ q, H0.size ≤ q → A q) : ∀ q, va_A [(a, e0)] H.size q → A q := by
  intro q h
  rcases h with ⟨k, e, h⟩ | h
  · have h1 : k < 1 := (List.getElem?_eq_some_iff.mp h).1
    rw [show k = 0 by omega] at h
    cases h
    exact hD.2 ws.length (a, e0) (by rw [List.getElem?_append_right (Nat.le_refl _), Nat.sub_self]; rfl)
  · exact hA q (Nat.le_trans hS.1 h)
theorem n_callIN {x : Xx} {d : Md} {t : T5} {mc ms n pc q c s c2 s2 : Nat} {L : List (Nat × Value)} {st : List Value} {ws : va_W} (C : Cn x d t mc ms) (d2 : Md) {e0 : va_E} {post : Nat → va_W → Prop} {mc2 ms2 idx a : Nat} (hM : Cc (xl x) (gD (xg x)) t d2 mc2 ms2 e0 post) (hmem : ((dy d).cls, idx, dy d2) ∈ nM) (hw1 : Cond.instanceMethod (dy d2) ∈ wsL_law) (hw3 : Cond.initialized (dy d2).cls ∈ wsL_law) (hw4 : Cond.code (dy d2) (dc d2) (dn d2) none ∈ wsL_law) (hnm : (dy d2).name = "<init>")
    (hdd : (dy d2).cls ≠ "java/lang/invoke/MethodHandle" ∧ (dy d2).cls ≠ "java/lang/invoke/VarHandle" ∧ (parseMethodDescriptor (dy d2).desc).map (fun d => d.parameters.length) = some 0) (hn : dn d = n) (hfr : df d2 + 1 ≤ df d ∧ 8 + (dn d2 + 11) + dl d2 ≤ dl d) (hW : (st.map fun v => v.category).sum ≤ 8) (hc : c + mc2 ≤ mc ∧ s + ms2 ≤ ms) (hc2 : c + mc2 = c2 ∧ s + ms2 = s2)
    (hd : decode (dc d) pc = .ok (.invokespecial idx, 3)) (hq : pc + 3 = q) (k : ∀ ws1, post a ws1 → Nx x n q L st (ws ++ ws1) c2 s2) : Nx x n pc L (.ref a :: st) (ws ++ [(a, e0)]) c s := by
  subst hq
  obtain ⟨rfl, rfl⟩ := hc2
  intro H locs ls hP hD hS hl
  have hFc := last_A hD hS C.aa
  refine va_callv (va_runIN (Ts := wsL_law) (own := (dy d).cls) (host := "NearFigures") (As := []) (rest := st) ⟨C.ex, C.by_, C.ml, C.ow, C.ts⟩ (hM a H.size) ⟨va_cnB 0 C.ts (good_call2 hw4) rfl rfl rfl (C.cr.1 _ hmem) (C.ts _ hw3) hdd ⟨Nat.le_trans hfr.1 C.rm.1, Nat.le_trans hfr.2 C.rm.2.1⟩, hnm, C.ts _ hw1⟩ ⟨cc_blind, fun U hU hW => ⟨rfl, by rw [hU], by rw [hU]; exact last_P hP, va_K.moved hW.alike C.kk, C.cr.warm hW⟩⟩ rfl rfl (by rw [hn]; exact hl.1) rfl (lv_room hW) hd ⟨Nat.le_trans hc.1 C.rm.2.2.1, Nat.le_trans hc.2 C.rm.2.2.2⟩) hS (fun q _ h => hFc q h) hFc (fun ws1 u H1 locs1 hu hvm hp hB hz1 hk1 hS1 => ?_)
  obtain ⟨hP1, hD1⟩ := hB
  rw [hu] at hP1
  obtain ⟨hP2, hD2⟩ := va_joinL hP hD hk1 hFc hP1 hD1
  exact k ws1 hp H1 locs1 ls hP2 hD2 hS1 hl
theorem n_callI {x : Xx} {d : Md} {t : T5} {mc ms n pc q c s c2 s2 : Nat} {L : List (Nat × Value)} {st : List Value} {ws : va_W} (C : Cn x d t mc ms) (d2 : Md) {e0 : va_E} {post : Nat → va_W → Prop} {mc2 ms2 idx a : Nat} (hM : Cc (xl x) (gD (xg x)) t d2 mc2 ms2 e0 post) (hw : Cond.methodLink (dy d).cls idx (dy d2) ∈ wsL_law) (hw1 : Cond.instanceMethod (dy d2) ∈ wsL_law) (hw3 : Cond.initialized (dy d2).cls ∈ wsL_law) (hw4 : Cond.code (dy d2) (dc d2) (dn d2) none ∈ wsL_law) (hnm : (dy d2).name = "<init>")
    (hdd : (dy d2).cls ≠ "java/lang/invoke/MethodHandle" ∧ (dy d2).cls ≠ "java/lang/invoke/VarHandle" ∧ (parseMethodDescriptor (dy d2).desc).map (fun d => d.parameters.length) = some 0) (hn : dn d = n) (hfr : df d2 + 1 ≤ df d ∧ 8 + (dn d2 + 11) + dl d2 ≤ dl d) (hW : (st.map fun v => v.category).sum ≤ 8) (hc : c + mc2 ≤ mc ∧ s + ms2 ≤ ms) (hc2 : c + mc2 = c2 ∧ s + ms2 = s2)
    (hd : decode (dc d) pc = .ok (.invokespecial idx, 3)) (hq : pc + 3 = q) (k : ∀ ws1, post a ws1 → Nx x n q L st (ws ++ ws1) c2 s2) : Nx x n pc L (.ref a :: st) (ws ++ [(a, e0)]) c s := by
  subst hq
  obtain ⟨rfl, rfl⟩ := hc2
  intro H locs ls hP hD hS hl
  have hFc := last_A hD hS C.aa
  refine va_callv (va_runI (Ts := wsL_law) (own := (dy d).cls) (As := []) (rest := st) ⟨C.ex, C.by_, C.ml, C.ow, C.ts⟩ (hM a H.size) ⟨callB_of 0 C.ts (good_call2 hw4) rfl rfl rfl (C.ts _ hw3) (C.ts _ hw) hdd ⟨Nat.le_trans hfr.1 C.rm.1, Nat.le_trans hfr.2 C.rm.2.1⟩, hnm, C.ts _ hw1⟩ ⟨cc_blind, fun U hU hW => ⟨rfl, by rw [hU], by rw [hU]; exact last_P hP, va_K.moved hW.alike C.kk, C.cr.warm hW⟩⟩ rfl rfl (by rw [hn]; exact hl.1) rfl (lv_room hW) hd ⟨Nat.le_trans hc.1 C.rm.2.2.1, Nat.le_trans hc.2 C.rm.2.2.2⟩) hS (fun q _ h => hFc q h) hFc (fun ws1 u H1 locs1 hu hvm hp hB hz1 hk1 hS1 => ?_)
  obtain ⟨hP1, hD1⟩ := hB
  rw [hu] at hP1
  obtain ⟨hP2, hD2⟩ := va_joinL hP hD hk1 hFc hP1 hD1
  exact k ws1 hp H1 locs1 ls hP2 hD2 hS1 hl
