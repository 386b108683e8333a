/-! ===== the law from its beginning to its end ===== -/
theorem ww_of {g : Gg} {M : Mm} {H : Heap} (h : ∀ k, k < 119 → va_at (gD g) vwCl (ga g k, celr g k (M k)) H) : va_P (gD g) vwCl (ww g M) H := by
  intro k q hq
  obtain ⟨h1, h2⟩ := ww_lt hq
  rw [h2]
  exact h k h1
set_option maxRecDepth 10000 in
set_option maxHeartbeats 1000000 in
theorem whole_loop {p : Program} {e : Env} {s : State} {m : MethodId} {below : List Frame} {meth : Method} {c : Code} (l : Launch) {b L : Nat} {xs : Nat → Int32} (hL : L ≤ 3072) (C0 : lw_At p s m meth c b L xs) {D : va_G} {ad : Nat → Nat} {gt : Nat → ClassId} (hK : Kg (D, (fun q => s.heap.size ≤ q), ad, gt) s) (hD : Dg (D, (fun q => s.heap.size ≤ q), ad, gt)) {cc ss : Nat} (hcc : cc ≤ 600000) (hss : ss ≤ 7302249) {H : Heap} {locs : List Loc} {ls : Array Slot} (hP : va_P D vwCl (ww (D, (fun q => s.heap.size ≤ q), ad, gt) M0) H) (hS : va_S (fun q => s.heap.size ≤ q) s.heap H locs) (hl : lv_has ls 4 [(0, .ref b), (1, .ref (ad 0)), (2, .ref (ad 105)), (3, vi 0)]) : W p l e room_1 s m #[Value.ref b] below meth c H locs cc ss (lw_Z below #[Value.ref b] s) (F0 m 18 ls []) := by
  obtain ⟨hx, hb, hr, hml, hown, hts, hX, hbl, hlocks, hgv⟩ := id C0
  have hA : ∀ q : Nat, q < s.heap.size → ¬ gA ((D, (fun q => s.heap.size ≤ q), ad, gt) : Gg) q := fun q hq h => absurd hq (Nat.not_lt.mpr h)
  have hSt : Sta (D, (fun q => s.heap.size ≤ q), ad, gt) s := sta_of hts hgv hA
  have C : Cx (p, l, e, room_1, s, m, #[Value.ref b], below, meth, c, (D, (fun q => s.heap.size ≤ q), ad, gt), lw_Z below #[Value.ref b] s, cc, ss) mL := ⟨hx, hb, hml, hown, fun w hw => hts w (wq_in w hw), hK, hD, hSt, nst_of hts, hr, hlocks, Nat.le_refl _, Nat.le_refl _, hcc, hss⟩
  refine lw_loop C hX hbl (hA b hbl) hL ?_ 600 0 (by omega) (by omega) (by omega) M0 inv0 H locs ls hP hS hl
  intro M _ i H locs ls hP hS hl
  show W p l e room_1 s m #[Value.ref b] below meth c H locs cc ss (lw_Z below #[Value.ref b] s) (F0 m 695 ls [])
  refine va_forget (fun q hq => hS.2.2 q hq) ?_
  refine W.widen hcc hss ?_
  exact lv_iconst (v := 1) hx hb dL_law_695 (by decide) (lw_ret hx hb hr hlocks dL_law_696)
set_option maxRecDepth 20000 in
set_option maxHeartbeats 4000000 in
theorem whole_start {p : Program} {e : Env} {s : State} {m : MethodId} {below : List Frame} {meth : Method} {c : Code} (l : Launch) (hflags : l.flags = flags0) {b L : Nat} {xs : Nat → Int32} (hL : L ≤ 3072) (C0 : lw_At p s m meth c b L xs) : W p l e room_1 s m #[Value.ref b] below meth c s.heap [] 0 0 (lw_Z below #[Value.ref b] s) (entryFrame m ([Value.ref b] : List Value).toArray 4) := by
  obtain ⟨hx, hb, hr, hml, hown, hts, hX, hbl, hlocks, hgv⟩ := id C0
  have hw : ∀ w ∈ wsL_law, w.before #[Value.ref b] s = true := fun w h => hts w (wq_in w h)
  obtain ⟨D, hKc⟩ := kc_of hw
  obtain ⟨t, hKt⟩ := k5_of hts hw
  have hK : va_K D vwCl (k5 t) s := ⟨hKc, hKt⟩
  have C : Cn (p, l, e, room_1, s, m, #[Value.ref b], below, meth, c, (D, (fun q => s.heap.size ≤ q), (fun _ => 0), (fun _ => t.1)), lw_Z below #[Value.ref b] s, 0, 0) mL t 600000 7302249 := ⟨hx, hb, hml, hown, hw, hK, ctr_of hts, fun q h => h, Nat.le_refl _, Nat.le_refl _, Nat.le_refl _, Nat.le_refl _⟩
  have main : Nx (p, l, e, room_1, s, m, #[Value.ref b], below, meth, c, (D, (fun q => s.heap.size ≤ q), (fun _ => 0), (fun _ => t.1)), lw_Z below #[Value.ref b] s, 0, 0) 4 0 [(0, .ref b)] [] [] 0 0 := by
    refine n_new (q := 3) (ci := 5) (fs := [.null, .null, .null, .null, .null, .null, .null, .null, .null, .null, .null, vi 0, vi 0]) (c2 := 1) (s2 := 13) C rfl inlX5 tyX5_ok wn_1_0 wn_1_1 wn_1_2 hfsX5 ⟨Nat.le_of_ble_eq_true rfl, Nat.le_of_ble_eq_true rfl⟩ ⟨rfl, rfl⟩ dL_law_0 rfl (fun a => ?_)
    refine n_dup (q := 4) C dL_law_3 rfl rfl ?_
    refine n_callI (q := 7) (ws := []) (st := [.ref a]) (c2 := 105) (s2 := 11543) C mX5_init kX5_init wn_1_6 wn_1_7 wn_1_2 wn_1_8 rfl (by decide +kernel) rfl (by decide) (Nat.le_of_ble_eq_true rfl) ⟨Nat.le_of_ble_eq_true rfl, Nat.le_of_ble_eq_true rfl⟩ ⟨rfl, rfl⟩ dL_law_4 rfl (fun w hw => ?_)
    obtain ⟨a0, a1, a2, a3, n0_0, n0_1, n0_2, n1_0, n1_1, n1_2, n2_0, n2_1, n2_2, n3_0, n3_1, n3_2, h_0, h_1, h_2, h_3, h_4, h_5, h_6, h_7, h_8, h_9, h_10, h_11, h_12, h_13, h_14, h_15, h_16, h_17, h_18, h_19, p0_0, p0_1, p0_2, p0_3, p0_4, p0_5, p0_6, p0_7, p0_8, p0_9, p1_0, p1_1, p1_2, p1_3, p1_4, p1_5, p1_6, p1_7, p1_8, p1_9, l0_0, l0_1, l0_2, l1_0, l1_1, l1_2, l2_0, l2_1, l2_2, ea, rfl⟩ := hw
    subst ea
    refine n_astore_n (q := 8) (L2 := [(1, .ref a0), (0, .ref b)]) C dL_law_7 rfl rfl (by decide) rfl ?_
    refine n_new (q := 11) (ci := 6) (fs := [.null, .null, vi 0, .null, .null, .null, vi 0, .null, .null, .null, .null, .null, vi 0, .null, .null, .null]) (c2 := 106) (s2 := 11559) C rfl inlX6 tyX6_ok wn_1_3 wn_1_4 wn_1_5 hfsX6 ⟨Nat.le_of_ble_eq_true rfl, Nat.le_of_ble_eq_true rfl⟩ ⟨rfl, rfl⟩ dL_law_8 rfl (fun a9 => ?_)
    refine n_dup (q := 12) C dL_law_11 rfl rfl ?_
    refine n_callI (q := 15) (st := [.ref a9]) (c2 := 119) (s2 := 17865) C mX6_init kX6_init wn_4_7 wn_4_8 wn_1_5 wn_4_9 rfl (by decide +kernel) rfl (by decide) (Nat.le_of_ble_eq_true rfl) ⟨Nat.le_of_ble_eq_true rfl, Nat.le_of_ble_eq_true rfl⟩ ⟨rfl, rfl⟩ dL_law_12 rfl (fun w hw => ?_)
    obtain ⟨m0, m1, m2, m3, m4, m5, m6, m7, m8, m9, m10, m11, m12, m13, em, rfl⟩ := hw
    subst em
    refine n_astore_n (q := 16) (L2 := [(2, .ref m0), (1, .ref a0), (0, .ref b)]) C dL_law_15 rfl rfl (by decide) rfl ?_
    refine n_iconst (q := 17) (z := 0) C dL_law_16 rfl ?_
    refine n_istore_n (q := 18) (L2 := [(3, vi 0), (2, .ref m0), (1, .ref a0), (0, .ref b)]) C dL_law_17 rfl rfl (by decide) rfl ?_
    intro H locs ls hP hD hS hl
    have hP0 := ww_of (wW_at (A := fun q => s.heap.size ≤ q) hP)
    have hD0 := dg_of (D := D) (t := t) hD (ad_map t a0 a1 a2 a3 n0_0 n0_1 n0_2 n1_0 n1_1 n1_2 n2_0 n2_1 n2_2 n3_0 n3_1 n3_2 h_0 h_1 h_2 h_3 h_4 h_5 h_6 h_7 h_8 h_9 h_10 h_11 h_12 h_13 h_14 h_15 h_16 h_17 h_18 h_19 p0_0 p0_1 p0_2 p0_3 p0_4 p0_5 p0_6 p0_7 p0_8 p0_9 p1_0 p1_1 p1_2 p1_3 p1_4 p1_5 p1_6 p1_7 p1_8 p1_9 l0_0 l0_1 l0_2 l1_0 l1_1 l1_2 l2_0 l2_1 l2_2 m0 m1 m2 m3 m4 m5 m6 m7 m8 m9 m10 m11 m12 m13) rfl
    exact whole_loop l hL C0 (kg_of hK) hD0 (Nat.le_of_ble_eq_true rfl) (Nat.le_of_ble_eq_true rfl) hP0 hS (lv_sub hl [3, 2, 1, 0] rfl)
  have hl := lv_entry ([Value.ref b]) (n := 4) (Nat.le_of_ble_eq_true rfl)
  rw [lg_entry_eq]
  exact main s.heap [] _ (fun k q h => by simp at h) ⟨fun i j p q h => by simp at h, fun k q h => by simp at h⟩ va_S.rf hl
