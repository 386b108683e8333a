/-! ===== the reference: calls that change ===== -/
def figB (s : Sg) (i h w m z : Int) : Bool := decide (0 ≤ i ∧ i ≤ s 6) && (decide (1 ≤ h ∧ h ≤ 40) && (decide (0 ≤ w ∧ w ≤ 1) && (decide (0 ≤ m ∧ m ≤ 119) && decide (1 ≤ z ∧ z ≤ 9))))
set_option maxRecDepth 10000 in
set_option maxHeartbeats 1000000 in
theorem c6_figure {l : Launch} {g : Gg} {M : Mm} {i h w m z : Int} (hw : WF (M 106)) (hz : 0 ≤ M 105 2 ∧ M 105 2 ≤ 6) (r1 : inR i) (r2 : inR h) (r3 : inR w) (r4 : inR m) (r5 : inR z) : Ct l g mX6_figure [vr g 105, vi i, vi h, vi w, vi m, vi z] M (fun r M2 => (figB (M 106) i h w m z = false ∧ r = -1000000002 ∧ M2 = M) ∨ (figB (M 106) i h w m z = true ∧ M 106 6 = 10 ∧ r = -1000000004 ∧ M2 = M) ∨ (figB (M 106) i h w m z = true ∧ ¬ M 106 6 = 10 ∧ r = M 106 6 + 1 ∧ M2 106 = insS (M 106) i h w m z ∧ ChM M M2)) := by
  refine ct_of (by decide) (Nat.le_of_ble_eq_true rfl) ?_
  intro x hl hg C hR
  subst hl
  subst hg
  have h6 := hw.2.2.2.2.2.2.1
  refine X6_figure_0 C hR i h w m z M ⟨_, c6_in r1 (by decide) ⟨by omega, by omega⟩, ?_⟩
  rintro r M1 ⟨rfl, rfl⟩
  refine ⟨b2_inR _, fun q => Or.inl ⟨by simp only [figB, b2_z q, Bool.false_and], rfl, rfl⟩, fun q1 => ⟨_, c6_in r2 (by decide) (by decide), ?_⟩⟩
  rintro r M1 ⟨rfl, rfl⟩
  refine ⟨b2_inR _, fun q => Or.inl ⟨by simp only [figB, b2_z q, Bool.false_and, Bool.and_false], rfl, rfl⟩, fun q2 => ⟨_, c6_in r3 (by decide) (by decide), ?_⟩⟩
  rintro r M1 ⟨rfl, rfl⟩
  refine ⟨b2_inR _, fun q => Or.inl ⟨by simp only [figB, b2_z q, Bool.false_and, Bool.and_false], rfl, rfl⟩, fun q3 => ⟨_, c6_in r4 (by decide) (by decide), ?_⟩⟩
  rintro r M1 ⟨rfl, rfl⟩
  refine ⟨b2_inR _, fun q => Or.inl ⟨by simp only [figB, b2_z q, Bool.false_and, Bool.and_false], rfl, rfl⟩, fun q4 => ⟨_, c6_in r5 (by decide) (by decide), ?_⟩⟩
  rintro r M1 ⟨rfl, rfl⟩
  refine ⟨b2_inR _, fun q5 => ?_, fun q => Or.inl ⟨by simp only [figB, b2_z q, Bool.and_false], rfl, rfl⟩⟩
  have hb : figB (M1 106) i h w m z = true := by simp only [figB, b2_nz q1, b2_nz q2, b2_nz q3, b2_nz q4, b2_nz q5, Bool.and_true]
  have i1 := b2_nz q1
  rw [decide_eq_true_eq] at i1
  refine ⟨⟨by omega, by omega⟩, fun q6 => ⟨_, c6_note hz, ?_⟩, fun q6 => Or.inr (Or.inl ⟨hb, q6, rfl, rfl⟩)⟩
  intro r M2 hN
  have e6 : M2 106 = M1 106 := hN.1 106 (by decide) (by decide)
  refine ⟨_, c6_insert (by rw [e6]; omega) (by rw [e6]; exact i1), ?_⟩
  rintro r M3 ⟨k1, k2⟩
  rw [e6] at k2
  refine Or.inr (Or.inr ⟨hb, q6, ?_, k2, chM_of hN (fun a a1 _ _ _ => k1 a a1)⟩)
  rw [k2, ins_6]
set_option maxRecDepth 10000 in
set_option maxHeartbeats 1000000 in
theorem c6_drop {l : Launch} {g : Gg} {M : Mm} {f : Int} (hw : WF (M 106)) (hz : 0 ≤ M 105 2 ∧ M 105 2 ≤ 6) (hf : inR f) : Ct l g mX6_drop [vr g 105, vi f] M (fun r M2 => ((0 ≤ f ∧ f < M 106 6) ∧ r = M 106 6 - 1 ∧ M2 106 = rmS (M 106) f ∧ ChM M M2) ∨ (¬ (0 ≤ f ∧ f < M 106 6) ∧ r = -1000000001 ∧ M2 = M)) := by
  refine ct_of (by decide) (Nat.le_of_ble_eq_true rfl) ?_
  intro x hl hg C hR
  subst hl
  subst hg
  refine X6_drop_0 C hR f M ⟨_, c6_isFigure hw hf, ?_⟩
  rintro r M1 ⟨rfl, rfl⟩
  refine ⟨b2_inR _, fun q => ⟨_, c6_note hz, ?_⟩, fun q => Or.inr ⟨by have := b2_z q; rwa [decide_eq_false_iff_not] at this, rfl, rfl⟩⟩
  have hr := b2_nz q
  rw [decide_eq_true_eq] at hr
  intro r M2 hN
  have e6 : M2 106 = M1 106 := hN.1 106 (by decide) (by decide)
  refine ⟨_, c6_remove (by rw [e6]; exact hw) (by rw [e6]; exact hr), ?_⟩
  rintro r M3 ⟨k1, k2⟩
  rw [e6] at k2
  refine Or.inl ⟨hr, ?_, k2, chM_of hN (fun a a1 _ _ _ => k1 a a1)⟩
  rw [k2, rm_6]
set_option maxRecDepth 10000 in
set_option maxHeartbeats 1000000 in
theorem c6_mention {l : Launch} {g : Gg} {M : Mm} {f v : Int} (hw : WF (M 106)) (hz : 0 ≤ M 105 2 ∧ M 105 2 ≤ 6) (hf : inR f) (hv : inR v) : Ct l g mX6_mention [vr g 105, vi f, vi v] M (fun r M2 => (¬ (0 ≤ f ∧ f < M 106 6) ∧ r = -1000000001 ∧ M2 = M) ∨ ((0 ≤ f ∧ f < M 106 6) ∧ ¬ (0 ≤ v ∧ v ≤ 119) ∧ r = -1000000002 ∧ M2 = M) ∨ ((0 ≤ f ∧ f < M 106 6) ∧ (0 ≤ v ∧ v ≤ 119) ∧ r = M 106 (7 + 4 * f + 2) ∧ M2 106 = sUp (M 106) (7 + 4 * f + 2) v ∧ ChM M M2)) := by
  refine ct_of (by decide) (Nat.le_of_ble_eq_true rfl) ?_
  intro x hl hg C hR
  subst hl
  subst hg
  have h6 := hw.2.2.2.2.2.2.1
  refine X6_mention_0 C hR f v M ⟨_, c6_isFigure hw hf, ?_⟩
  rintro r M1 ⟨rfl, rfl⟩
  refine ⟨b2_inR _, fun q => ⟨_, c6_in hv (by decide) (by decide), ?_⟩, fun q => Or.inl ⟨by have := b2_z q; rwa [decide_eq_false_iff_not] at this, rfl, rfl⟩⟩
  have hr := b2_nz q
  rw [decide_eq_true_eq] at hr
  rintro r M1 ⟨rfl, rfl⟩
  refine ⟨b2_inR _, fun q2 => ⟨_, c6_note hz, ?_⟩, fun q2 => Or.inr (Or.inl ⟨hr, by have := b2_z q2; rwa [decide_eq_false_iff_not] at this, rfl, rfl⟩)⟩
  have hr2 := b2_nz q2
  rw [decide_eq_true_eq] at hr2
  intro r M2 hN
  have e6 : M2 106 = M1 106 := hN.1 106 (by decide) (by decide)
  refine ⟨⟨by omega, by omega⟩, fun w hwq => ⟨⟨by omega, by omega⟩, fun M3 h3 => Or.inr (Or.inr ⟨hr, hr2, by rw [hwq, e6], by rw [h3, mu_sUp, e6], chM_of hN (fun a a1 _ _ _ => by rw [h3, mu_ne a1])⟩)⟩⟩
set_option maxRecDepth 10000 in
set_option maxHeartbeats 1000000 in
theorem c6_drift_c {x : Xx} {post : Int → Mm → Prop} (C : Cx x mX6_drift) (hR : Rt x mX6_drift post) {M : Mm} {s : Sg} (hw : WF s) {n seed : Int} (hseed : 1 ≤ seed ∧ seed ≤ 999999) (hp : ∀ M2, (∀ a, a ≠ 106 → M2 a = M a) → M2 106 = clS s 0 → Gx x 9 59 [(0, vr (xg x) 105), (1, vi n), (3, vl seed), (5, vi 0)] [] M2) : ∀ (d : Nat), (d : Int) ≤ s 6 → ∀ M2, (∀ a, a ≠ 106 → M2 a = M a) → M2 106 = clS s d → Gx x 9 27 [(0, vr (xg x) 105), (1, vi n), (2, vi seed)] [] M2 := by
  have h6 := hw.2.2.2.2.2.2.1
  have c6 : ∀ c : Int, clS s c 6 = c := fun c => by unfold clS; rw [if_pos rfl]
  intro d
  induction d with
  | zero =>
    intro hd M2 h1 h2
    refine X6_drift_27 C hR n seed M2 ?_
    rw [h2, c6]
    exact ⟨by decide, fun _ => ⟨⟨by omega, by omega⟩, hp M2 h1 h2⟩, fun q => absurd (by decide) q⟩
  | succ d ih =>
    intro hd M2 h1 h2
    have e6 : M2 106 6 = (d : Int) + 1 := by rw [h2, c6]; omega
    refine X6_drift_27 C hR n seed M2 ?_
    rw [e6]
    refine ⟨⟨by omega, by omega⟩, fun q => absurd q (by omega), fun _ => ⟨_, c6_remove (by rw [h2]; exact WF_cl hw ⟨by omega, by omega⟩) (by rw [e6]; omega), ?_⟩⟩
    rintro r M3 ⟨k1, k2⟩
    refine ih (by omega) M3 (fun a ha => (k1 a ha).trans (h1 a ha)) ?_
    rw [k2]
    funext j
    unfold rmS
    rw [e6, h2]
    unfold clS
    grind
set_option maxRecDepth 10000 in
set_option maxHeartbeats 1000000 in
theorem c6_drift_l {x : Xx} {post : Int → Mm → Prop} (C : Cx x mX6_drift) (hR : Rt x mX6_drift post) {M : Mm} {s : Sg} (hw : WF s) {n seed : Int} (hn : 0 ≤ n ∧ n ≤ 10) (hseed : 1 ≤ seed ∧ seed ≤ 999999) (hp : ∀ M2, (∀ a, a ≠ 106 → a ≠ 112 → a ≠ 113 → a ≠ 114 → M2 a = M a) → M2 106 = (lot s seed n.toNat).1 → post (bst (lot s seed n.toNat).1) M2) : ∀ (d k : Nat), k + d = n.toNat → ∀ M2, (∀ a, a ≠ 106 → M2 a = M a) → M2 106 = (lot s seed k).1 → Gx x 9 59 [(0, vr (xg x) 105), (1, vi n), (3, vl (lot s seed k).2), (5, vi (k : Int))] [] M2 := by
  have h0 := hw.1
  have h1 := hw.2.1
  have h3 := hw.2.2.2.1
  intro d
  induction d with
  | zero =>
    intro k hk M2 k1 k2
    have ok := lot_ok hw (seed := seed) ⟨by omega, by omega⟩ k (by omega)
    have : k = n.toNat := by omega
    subst this
    refine X6_drift_59 C hR n _ _ M2 ⟨⟨⟨by omega, by omega⟩, by omega, by omega⟩, fun _ => ⟨_, c6_bestOf (by rw [k2]; exact ok.1), ?_⟩, fun q => absurd q (by omega)⟩
    rintro r M3 ⟨rfl, f3, -⟩
    rw [k2]
    exact hp M3 (fun a a1 a2 a3 a4 => (f3 a a2 a3 a4).trans (k1 a a1)) ((f3 106 (by decide) (by decide) (by decide)).trans k2)
  | succ d ih =>
    intro k hk M2 k1 k2
    have ok := lot_ok hw (seed := seed) ⟨by omega, by omega⟩ k (by omega)
    have nxt := ih (k + 1) (by omega)
    simp only [lot] at nxt
    generalize hx : (lot s seed k).2 = y at ok nxt
    have b1 := nx_bd y
    have b2' := nx_bd (nx y)
    have b3 := nx_bd (nx (nx y))
    have b4 := nx_bd (nx (nx (nx y)))
    have e3 : M2 106 3 = s 3 := by rw [k2]; exact ok.2.2.1 3 (by omega)
    have e0 : M2 106 0 = s 0 := by rw [k2]; exact ok.2.2.1 0 (by omega)
    have e6 : M2 106 6 = (k : Int) := by rw [k2]; exact ok.2.1
    have last : ∀ t : Int, t = (if s 0 = 0 then 1 else s 0) → Gx x 9 150 [(0, vr (xg x) 105), (1, vi n), (3, vl (nx (nx (nx y)))), (5, vi (k : Int)), (6, vi (nx y % (if s 3 = 0 then 1 else s 3) + 1)), (7, vi (nx (nx y) % 2))] [vi t, vl (nx (nx (nx y)))] M2 := by
      intro t ht
      have t0 : 0 < t ∧ t ≤ 120 := by rw [ht]; split <;> omega
      refine X6_drift_150 C hR n _ _ _ _ t _ M2 ⟨⟨by omega, by omega⟩, ⟨⟨by omega, by omega⟩, by omega, by omega⟩, fun w1 hw1 => ⟨⟨by omega, by omega⟩, fun w2 hw2 => ?_⟩⟩
      have ew2 : w2 = nx (nx (nx (nx y))) := hw2
      refine ⟨⟨by omega, by omega⟩, _, c6_insert (by rw [e6]; omega) (by rw [e6]; omega), ?_⟩
      rintro r M3 ⟨m1, m2⟩
      rw [ew2]
      refine nxt M3 (fun a ha => (m1 a ha).trans (k1 a ha)) ?_
      rw [m2, k2, hw1, ht, ew2]
    have first : ∀ t : Int, t = (if s 3 = 0 then 1 else s 3) → Gx x 9 95 [(0, vr (xg x) 105), (1, vi n), (3, vl (nx y)), (5, vi (k : Int))] [vi t, vl (nx y)] M2 := by
      intro t ht
      have t0 : 0 < t ∧ t ≤ 40 := by rw [ht]; split <;> omega
      refine X6_drift_95 C hR n _ _ t _ M2 ⟨⟨by omega, by omega⟩, ⟨⟨by omega, by omega⟩, by omega, by omega⟩, fun w1 hw1 => ⟨⟨by omega, by omega⟩, fun w2 hw2 => ?_⟩⟩
      have ew2 : w2 = nx (nx y) := hw2
      refine ⟨⟨by omega, by omega⟩, fun w3 hw3 => ⟨⟨by omega, by omega⟩, fun w4 hw4 => ?_⟩⟩
      have ew4 : w4 = nx (nx (nx y)) := by rw [hw4, ew2]; rfl
      rw [e0, hw1, ht, hw3, ew4, ew2]
      exact ⟨⟨by omega, by omega⟩, fun q => last _ (by rw [if_neg q]), fun q => last _ (by rw [if_pos q])⟩
    refine X6_drift_59 C hR n _ _ M2 ⟨⟨⟨by omega, by omega⟩, by omega, by omega⟩, fun q => absurd q (by omega), fun q => ⟨⟨by omega, by omega⟩, fun w1 hw1 => ?_⟩⟩
    have ew1 : w1 = nx y := hw1
    rw [e3, ew1]
    exact ⟨⟨by omega, by omega⟩, fun q => first _ (by rw [if_neg q]), fun q => first _ (by rw [if_pos q])⟩
set_option maxRecDepth 10000 in
set_option maxHeartbeats 1000000 in
theorem c6_drift {l : Launch} {g : Gg} {M : Mm} {n seed : Int} (hw : WF (M 106)) (hz : 0 ≤ M 105 2 ∧ M 105 2 ≤ 6) (hn : inR n) (hs : inR seed) : Ct l g mX6_drift [vr g 105, vi n, vi seed] M (fun r M2 => (((0 ≤ n ∧ n ≤ 10) ∧ (1 ≤ seed ∧ seed ≤ 999999)) ∧ r = bst (lot (M 106) seed n.toNat).1 ∧ M2 106 = (lot (M 106) seed n.toNat).1 ∧ ChM M M2) ∨ (¬ ((0 ≤ n ∧ n ≤ 10) ∧ (1 ≤ seed ∧ seed ≤ 999999)) ∧ r = -1000000002 ∧ M2 = M)) := by
  refine ct_of (by decide) (Nat.le_of_ble_eq_true rfl) ?_
  intro x hl hg C hR
  subst hl
  subst hg
  have h6 := hw.2.2.2.2.2.2.1
  refine X6_drift_0 C hR n seed M ⟨_, c6_in hn (by decide) (by decide), ?_⟩
  rintro r M1 ⟨rfl, rfl⟩
  refine ⟨b2_inR _, fun q => Or.inr ⟨fun z => by have := b2_z q; rw [decide_eq_false_iff_not] at this; exact this z.1, rfl, rfl⟩, fun q => ⟨_, c6_in hs (by decide) (by decide), ?_⟩⟩
  have hr := b2_nz q
  rw [decide_eq_true_eq] at hr
  rintro r M1 ⟨rfl, rfl⟩
  refine ⟨b2_inR _, fun q2 => ⟨_, c6_note hz, ?_⟩, fun q2 => Or.inr ⟨fun z => by have := b2_z q2; rw [decide_eq_false_iff_not] at this; exact this z.2, rfl, rfl⟩⟩
  have hr2 := b2_nz q2
  rw [decide_eq_true_eq] at hr2
  intro r M2 hN
  have e6 : M2 106 = M1 106 := hN.1 106 (by decide) (by decide)
  refine c6_drift_c C hR (M := M2) (s := M1 106) hw hr2 ?_ (M1 106 6).toNat (by omega) M2 (fun _ _ => rfl) ?_
  · intro M3 k1 k2
    refine c6_drift_l C hR (M := M3) (s := M1 106) hw hr hr2 ?_ n.toNat 0 (by omega) M3 (fun _ _ => rfl) k2
    intro M4 j1 j2
    exact Or.inl ⟨⟨hr, hr2⟩, rfl, j2, chM_of hN (fun a a1 a2 a3 a4 => (j1 a a1 a2 a3 a4).trans (k1 a a1))⟩
  · rw [e6]
    funext j
    unfold clS
    rw [Int.toNat_of_nonneg h6.1]
    split
    · rename_i hj
      rw [hj]
    · rw [if_neg (by omega)]
/-- undone -/
def UnP (M M2 : Mm) (z : Int) : Prop := (∀ a, a < 105 → M2 a = M a) ∧ M2 108 = M 108 ∧ M2 109 = M 109 ∧ M2 110 = M 110 ∧ M2 111 = M 111 ∧ M2 105 6 = M 105 6 ∧ M2 105 2 = z
set_option maxRecDepth 10000 in
set_option maxHeartbeats 1000000 in
theorem c6_undo {l : Launch} {g : Gg} {M : Mm} (hz : 0 ≤ M 105 2 ∧ M 105 2 ≤ 6) : Ct l g mX6_undo [vr g 105] M (fun r M2 => (M 105 2 = 0 ∧ r = -1000000003 ∧ M2 = M) ∨ (¬ M 105 2 = 0 ∧ r = M 105 2 - 1 ∧ (∀ i : Int, 0 ≤ i → i < 47 → M2 106 i = M 108 (47 * (M 105 2 - 1) + i)) ∧ UnP M M2 (M 105 2 - 1))) := by
  refine ct_of (by decide) (Nat.le_of_ble_eq_true rfl) ?_
  intro x hl hg C hR
  subst hl
  subst hg
  refine X6_undo_0 C hR M ⟨⟨by omega, by omega⟩, fun q A hA => ?_, fun q => Or.inl ⟨q, rfl, rfl⟩⟩
  have e2 : A 105 2 = M 105 2 - 1 := by rw [hA, mu_at]
  rw [e2]
  refine ⟨_, c6_bring isA_108 isA_106 ⟨by omega, by omega⟩ ⟨by omega, by omega⟩ (by omega) (fun h => absurd h (by decide)), ?_⟩
  rintro r B rfl
  have e5 : mcp A 108 (47 * (M 105 2 - 1)) 106 0 47 105 = A 105 := mcp_ne (by decide)
  refine Or.inr ⟨q, by rw [e5, e2], fun i i0 i1 => ?_, fun a ha => ?_, ?_, ?_, ?_, ?_, ?_, ?_⟩
  · rw [mcp_in (by omega), hA, mu_ne (by decide)]
    congr 1
    omega
  · rw [mcp_ne (by omega), hA, mu_ne (by omega)]
  · rw [mcp_ne (by decide), hA, mu_ne (by decide)]
  · rw [mcp_ne (by decide), hA, mu_ne (by decide)]
  · rw [mcp_ne (by decide), hA, mu_ne (by decide)]
  · rw [mcp_ne (by decide), hA, mu_ne (by decide)]
  · rw [e5, hA, mu_off (by decide)]
  · rw [e5, e2]
set_option maxRecDepth 10000 in
set_option maxHeartbeats 1000000 in
theorem c6_keep {l : Launch} {g : Gg} {M : Mm} {i : Int} (hi : inR i) : Ct l g mX6_keep [vr g 105, vi i] M (fun r M2 => (¬ (0 ≤ i ∧ i ≤ 1) ∧ r = -1000000001 ∧ M2 = M) ∨ ((0 ≤ i ∧ i ≤ 1) ∧ r = M 106 6 ∧ M2 106 = M 106 ∧ (∀ a, a < 105 → M2 a = M a) ∧ M2 111 = M 111 ∧ M2 105 6 = M 105 6 ∧ M2 105 2 = 0 ∧ M2 110 i = 1 ∧ (∀ j, j ≠ i → M2 110 j = M 110 j) ∧ (∀ j : Int, 0 ≤ j → j < 47 → M2 109 (47 * i + j) = M 106 j) ∧ (∀ k j : Int, k ≠ i → 0 ≤ j → j < 47 → M2 109 (47 * k + j) = M 109 (47 * k + j)))) := by
  refine ct_of (by decide) (Nat.le_of_ble_eq_true rfl) ?_
  intro x hl hg C hR
  subst hl
  subst hg
  refine X6_keep_0 C hR i M ⟨_, c6_in hi (by decide) (by decide), ?_⟩
  rintro r M1 ⟨rfl, rfl⟩
  refine ⟨b2_inR _, fun q => ?_, fun q => Or.inl ⟨by have := b2_z q; rwa [decide_eq_false_iff_not] at this, rfl, rfl⟩⟩
  have hr := b2_nz q
  rw [decide_eq_true_eq] at hr
  refine ⟨_, c6_bring isA_106 isA_109 ⟨by omega, by omega⟩ ⟨by omega, by omega⟩ (by omega) (fun h => absurd h (by decide)), ?_⟩
  rintro r B rfl
  refine ⟨⟨by omega, by omega⟩, fun D hD E hE => Or.inr ⟨hr, ?_, ?_, fun a ha => ?_, ?_, ?_, ?_, ?_, fun j hj => ?_, fun j j0 j1 => ?_, fun k j hk j0 j1 => ?_⟩⟩
  · rw [hE, mu_ne (by decide), hD, mu_ne (by decide), mcp_ne (by decide)]
  · rw [hE, mu_ne (by decide), hD, mu_ne (by decide), mcp_ne (by decide)]
  · rw [hE, mu_ne (by omega), hD, mu_ne (by omega), mcp_ne (by omega)]
  · rw [hE, mu_ne (by decide), hD, mu_ne (by decide), mcp_ne (by decide)]
  · rw [hE, mu_off (by decide), hD, mu_ne (by decide), mcp_ne (by decide)]
  · rw [hE, mu_at]
  · rw [hE, mu_ne (by decide), hD, mu_at]
  · rw [hE, mu_ne (by decide), hD, mu_off hj, mcp_ne (by decide)]
  · rw [hE, mu_ne (by decide), hD, mu_ne (by decide), mcp_in (by omega)]
    congr 1
    omega
  · rw [hE, mu_ne (by decide), hD, mu_ne (by decide), mcp_out (by omega)]
set_option maxRecDepth 10000 in
set_option maxHeartbeats 1000000 in
theorem c6_goBack {l : Launch} {g : Gg} {M : Mm} {i : Int} (hi : inR i) (hk : ∀ j : Int, 0 ≤ j → j ≤ 1 → M 110 j = 0 ∨ M 110 j = 1) : Ct l g mX6_goBack [vr g 105, vi i] M (fun r M2 => (¬ (0 ≤ i ∧ i ≤ 1) ∧ r = -1000000001 ∧ M2 = M) ∨ ((0 ≤ i ∧ i ≤ 1) ∧ M 110 i = 0 ∧ r = -1000000003 ∧ M2 = M) ∨ ((0 ≤ i ∧ i ≤ 1) ∧ M 110 i = 1 ∧ r = M 109 (47 * i + 6) ∧ (∀ j : Int, 0 ≤ j → j < 47 → M2 106 j = M 109 (47 * i + j)) ∧ UnP M M2 0)) := by
  refine ct_of (by decide) (Nat.le_of_ble_eq_true rfl) ?_
  intro x hl hg C hR
  subst hl
  subst hg
  refine X6_goBack_0 C hR i M ⟨_, c6_in hi (by decide) (by decide), ?_⟩
  rintro r M1 ⟨rfl, rfl⟩
  refine ⟨b2_inR _, fun q => ?_, fun q => Or.inl ⟨by have := b2_z q; rwa [decide_eq_false_iff_not] at this, rfl, rfl⟩⟩
  have hr := b2_nz q
  rw [decide_eq_true_eq] at hr
  have hk2 := hk i hr.1 hr.2
  refine ⟨⟨by omega, by omega⟩, ⟨by omega, by omega⟩, fun q2 => ?_, fun q2 => Or.inr (Or.inl ⟨hr, q2, rfl, rfl⟩)⟩
  refine ⟨_, c6_bring isA_109 isA_106 ⟨by omega, by omega⟩ ⟨by omega, by omega⟩ (by omega) (fun h => absurd h (by decide)), ?_⟩
  rintro r B rfl
  intro D hD
  have key : ∀ j : Int, 0 ≤ j → j < 47 → D 106 j = M1 109 (47 * i + j) := by
    intro j j0 j1
    rw [hD, mu_ne (by decide), mcp_in (by omega)]
    congr 1
    omega
  refine Or.inr (Or.inr ⟨hr, by omega, key 6 (by omega) (by omega), key, fun a ha => ?_, ?_, ?_, ?_, ?_, ?_, ?_⟩)
  · rw [hD, mu_ne (by omega), mcp_ne (by omega)]
  · rw [hD, mu_ne (by decide), mcp_ne (by decide)]
  · rw [hD, mu_ne (by decide), mcp_ne (by decide)]
  · rw [hD, mu_ne (by decide), mcp_ne (by decide)]
  · rw [hD, mu_ne (by decide), mcp_ne (by decide)]
  · rw [hD, mu_off (by decide), mcp_ne (by decide)]
  · rw [hD, mu_at]
set_option maxRecDepth 10000 in
set_option maxHeartbeats 1000000 in
theorem c6_hand {l : Launch} {g : Gg} {M : Mm} {n : Int} (hn : inR n) (hp : 0 ≤ M 105 6 ∧ M 105 6 ≤ 30) : Ct l g mX6_hand [vr g 105, vi n] M (fun r M2 => (¬ (0 ≤ n ∧ n ≤ 4) ∧ r = -1000000002 ∧ M2 = M) ∨ ((0 ≤ n ∧ n ≤ 4) ∧ M 105 6 = 30 ∧ r = -1000000004 ∧ M2 = M) ∨ ((0 ≤ n ∧ n ≤ 4) ∧ ¬ M 105 6 = 30 ∧ r = M 105 6 + 1 ∧ M2 = mu (mu M 111 (M 105 6) n) 105 6 (M 105 6 + 1))) := by
  refine ct_of (by decide) (Nat.le_of_ble_eq_true rfl) ?_
  intro x hl hg C hR
  subst hl
  subst hg
  refine X6_hand_0 C hR n M ⟨_, c6_in hn (by decide) (by decide), ?_⟩
  rintro r M1 ⟨rfl, rfl⟩
  refine ⟨b2_inR _, fun q => ?_, fun q => Or.inl ⟨by have := b2_z q; rwa [decide_eq_false_iff_not] at this, rfl, rfl⟩⟩
  have hr := b2_nz q
  rw [decide_eq_true_eq] at hr
  refine ⟨⟨by omega, by omega⟩, fun q2 => ⟨⟨by omega, by omega⟩, fun A hA B hB => ?_⟩, fun q2 => Or.inr (Or.inl ⟨hr, q2, rfl, rfl⟩)⟩
  have e : A 105 6 = M1 105 6 := by rw [hA, mu_ne (by decide)]
  rw [e] at hB
  exact Or.inr (Or.inr ⟨hr, q2, by rw [hB, mu_at], by rw [hB, hA]⟩)
set_option maxRecDepth 10000 in
set_option maxHeartbeats 1000000 in
theorem c6_clear {l : Launch} {g : Gg} {M : Mm} : Ct l g mX6_clear [vr g 105] M (fun r M2 => r = M 105 6 ∧ M2 = mu M 105 6 0) := by
  refine ct_of (by decide) (Nat.le_of_ble_eq_true rfl) ?_
  intro x hl hg C hR
  subst hl
  subst hg
  exact X6_clear_0 C hR M (fun w hwq A hA => ⟨hwq, hA⟩)
set_option maxRecDepth 10000 in
set_option maxHeartbeats 1000000 in
theorem c6_without {l : Launch} {g : Gg} {M : Mm} {f : Int} (hw : WF (M 106)) (hf : inR f) : Ct l g mX6_without [vr g 105, vi f] M (fun r M2 => Sm M M2 ∧ (((0 ≤ f ∧ f < M 106 6) ∧ r = bst (rmS (M 106) f)) ∨ (¬ (0 ≤ f ∧ f < M 106 6) ∧ r = -1000000001))) := by
  refine ct_of (by decide) (Nat.le_of_ble_eq_true rfl) ?_
  intro x hl hg C hR
  subst hl
  subst hg
  refine X6_without_0 C hR f M ⟨_, c6_isFigure hw hf, ?_⟩
  rintro r M1 ⟨rfl, rfl⟩
  refine ⟨b2_inR _, fun q => ?_, fun q => ⟨Sm.rf _, Or.inr ⟨by have := b2_z q; rwa [decide_eq_false_iff_not] at this, rfl⟩⟩⟩
  have hr := b2_nz q
  rw [decide_eq_true_eq] at hr
  refine ⟨_, c6_bring isA_106 isA_107 ⟨by omega, by omega⟩ ⟨by omega, by omega⟩ (by omega) (fun h => absurd h (by decide)), ?_⟩
  rintro r A rfl
  have eA : mcp M1 106 0 107 0 47 106 = M1 106 := mcp_ne (by decide)
  refine ⟨_, c6_remove (by rw [eA]; exact hw) (by rw [eA]; exact hr), ?_⟩
  rintro r B ⟨b1, b2'⟩
  rw [eA] at b2'
  refine ⟨_, c6_bestOf (by rw [b2']; exact WF_rm hw hr), ?_⟩
  rintro r D ⟨rfl, d1, -⟩
  refine ⟨_, c6_bring isA_107 isA_106 ⟨by omega, by omega⟩ ⟨by omega, by omega⟩ (by omega) (fun h => absurd h (by decide)), ?_⟩
  rintro r E rfl
  have keep : ∀ a, a ≠ 106 → a ≠ 107 → a ≠ 112 → a ≠ 113 → a ≠ 114 → mcp D 107 0 106 0 47 a = M1 a := by
    intro a a1 a2 a3 a4 a5
    rw [mcp_ne a1, d1 a a3 a4 a5, b1 a a1, mcp_ne a2]
  refine ⟨⟨fun a ha => keep a (by omega) (by omega) (by omega) (by omega) (by omega), ?_, keep 108 (by decide) (by decide) (by decide) (by decide) (by decide), keep 109 (by decide) (by decide) (by decide) (by decide) (by decide), keep 110 (by decide) (by decide) (by decide) (by decide) (by decide), keep 111 (by decide) (by decide) (by decide) (by decide) (by decide), fun i _ => by rw [keep 105 (by decide) (by decide) (by decide) (by decide) (by decide)]⟩, Or.inl ⟨hr, by rw [b2']⟩⟩
  have h6 := hw.2.2.2.2.2.2.1
  funext j
  by_cases q : 0 ≤ j ∧ j < 47
  · rw [mcp_in (by omega), d1 107 (by decide) (by decide) (by decide), b1 107 (by decide), mcp_in (by omega)]
    congr 1
    omega
  · rw [mcp_out (by omega), d1 106 (by decide) (by decide) (by decide), b2']
    unfold rmS
    rw [if_neg (by omega), if_neg (by omega), if_neg (by omega)]
set_option maxRecDepth 10000 in
set_option maxHeartbeats 1000000 in
theorem c6_moved {l : Launch} {g : Gg} {M : Mm} {f v : Int} (hw : WF (M 106)) (hf : inR f) (hv : inR v) : Ct l g mX6_moved [vr g 105, vi f, vi v] M (fun r M2 => Sm M M2 ∧ ((¬ (0 ≤ f ∧ f < M 106 6) ∧ r = -1000000001) ∨ ((0 ≤ f ∧ f < M 106 6) ∧ ¬ (0 ≤ v ∧ v ≤ 119) ∧ r = -1000000002) ∨ ((0 ≤ f ∧ f < M 106 6) ∧ (0 ≤ v ∧ v ≤ 119) ∧ r = bst (sUp (M 106) (7 + 4 * f + 2) v)))) := by
  refine ct_of (by decide) (Nat.le_of_ble_eq_true rfl) ?_
  intro x hl hg C hR
  subst hl
  subst hg
  have h6 := hw.2.2.2.2.2.2.1
  refine X6_moved_0 C hR f v M ⟨_, c6_isFigure hw hf, ?_⟩
  rintro r M1 ⟨rfl, rfl⟩
  refine ⟨b2_inR _, fun q => ⟨_, c6_in hv (by decide) (by decide), ?_⟩, fun q => ⟨Sm.rf _, Or.inl ⟨by have := b2_z q; rwa [decide_eq_false_iff_not] at this, rfl⟩⟩⟩
  have hr := b2_nz q
  rw [decide_eq_true_eq] at hr
  rintro r M1 ⟨rfl, rfl⟩
  refine ⟨b2_inR _, fun q2 => ?_, fun q2 => ⟨Sm.rf _, Or.inr (Or.inl ⟨hr, by have := b2_z q2; rwa [decide_eq_false_iff_not] at this, rfl⟩)⟩⟩
  have hr2 := b2_nz q2
  rw [decide_eq_true_eq] at hr2
  refine ⟨⟨by omega, by omega⟩, fun w hwq => ⟨⟨by omega, by omega⟩, fun A hA => ?_⟩⟩
  have eA : A 106 = sUp (M1 106) (7 + 4 * f + 2) v := by rw [hA, mu_sUp]
  refine ⟨_, c6_bestOf (by rw [eA]; exact WF_men hw hr hr2), ?_⟩
  rintro r D ⟨rfl, d1, -⟩
  refine ⟨⟨by omega, by omega⟩, fun E hE => ?_⟩
  have keep : ∀ a, a ≠ 106 → a ≠ 112 → a ≠ 113 → a ≠ 114 → E a = M1 a := by
    intro a a1 a3 a4 a5
    rw [hE, mu_ne a1, d1 a a3 a4 a5, hA, mu_ne a1]
  refine ⟨⟨fun a ha => keep a (by omega) (by omega) (by omega) (by omega), ?_, keep 108 (by decide) (by decide) (by decide) (by decide), keep 109 (by decide) (by decide) (by decide) (by decide), keep 110 (by decide) (by decide) (by decide) (by decide), keep 111 (by decide) (by decide) (by decide) (by decide), fun i _ => by rw [keep 105 (by decide) (by decide) (by decide) (by decide)]⟩, Or.inr (Or.inr ⟨hr, hr2, by rw [eA]⟩)⟩
  rw [hE, mu_sUp, d1 106 (by decide) (by decide) (by decide), eA, hwq]
  funext j
  unfold sUp
  split
  · rename_i hj
    rw [hj]
  · rfl
