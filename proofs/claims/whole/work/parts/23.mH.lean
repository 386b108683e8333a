/-! ===== what each question is answered, and the reference answers so ===== -/
noncomputable def nP (s : Sg) (c : Cf) : Nat := Classical.epsilon (fun P => Plan s c P)
theorem nP_eq {s : Sg} {c : Cf} {P : Nat} (h : Plan s c P) : nP s c = P := plan_one (Classical.epsilon_spec ⟨P, h⟩) h
abbrev ckS (s : Sg) : Int := clash s (s 6).toNat
noncomputable def tdF (s : Sg) (z pgs what : Int) : Int :=
  if ¬ (0 ≤ what ∧ what ≤ 15) then -1000000002 else if what < 7 then s what else if what = 7 then ckS s else if what = 8 then bst s else if what = 9 then (if ckS s = -1 then (VV s 0 0).2.1 else -1) else if what = 10 then (if ckS s = -1 then paS s (cG s) (nP s (cG s)) else -1) else if what = 11 then (if ckS s = -1 then (nP s (cG s) : Int) else -1) else if what = 12 then (if ckS s = -1 then nR s ((s 0).toNat + 1) else 0) else if what = 13 then (if ckS s = -1 then (hvy s (cB s) (nP s (cB s)) (s 6).toNat).1 else -1) else if what = 14 then pgs else z
set_option maxRecDepth 10000 in
set_option maxHeartbeats 1000000 in
theorem c6_told {l : Launch} {g : Gg} {M : Mm} {what : Int} (hw : WF (M 106)) (hz : inR (M 105 2)) (hr : inR what) : Ct l g mX6_told [vr g 105, vi what] M (fun r M2 => Sm M M2 ∧ r = tdF (M 106) (M 105 2) (M 105 6) what) := by
  refine ct_of (by decide) (Nat.le_of_ble_eq_true rfl) ?_
  intro x hl hg C hR
  subst hl
  subst hg
  have h0 := hw.1
  have h6 := hw.2.2.2.2.2.2.1
  have hb := bst_m1 hw
  have hv := VV_ok hw (ll := 0) (f := 0) (by omega) (by omega)
  unfold Vok at hv
  refine X6_told_0 C hR what M ⟨_, c6_in hr (by decide) (by decide), ?_⟩
  rintro r M1 ⟨rfl, rfl⟩
  refine ⟨b2_inR _, fun q => ?_, fun q => ⟨Sm.rf _, ?_⟩⟩
  · have hq := b2_nz q
    rw [decide_eq_true_eq] at hq
    have e0 : ¬ ¬ (0 ≤ what ∧ what ≤ 15) := fun z => z hq
    unfold tdF
    rw [if_neg e0]
    refine ⟨hr, fun q7 => ?_, fun q7 => ⟨⟨by omega, by omega⟩, Sm.rf _, by rw [if_pos (by omega)]⟩⟩
    rw [if_neg (by omega)]
    refine ⟨hr, fun q8 => ⟨Sm.rf _, ?_⟩, fun q8 => ⟨_, c6_clashing hw, ?_⟩, fun q8 => ⟨_, c6_bestOf hw, ?_⟩, fun q8 => ⟨_, c6_bestOf hw, ?_⟩, fun q8 => ⟨_, c6_isGreedy hw rfl, ?_⟩, fun q8 => ⟨_, c6_isGreedy hw rfl, ?_⟩, fun q8 => ⟨_, c6_layPlaces hw rfl, ?_⟩, fun q8 => ⟨_, c6_heaviest hw rfl, ?_⟩, fun q8 => ⟨Sm.rf _, ?_⟩⟩
    · rw [if_neg (by omega), if_neg (by omega), if_neg (by omega), if_neg (by omega), if_neg (by omega), if_neg (by omega), if_neg (by omega), if_neg (by omega)]
    · rintro r M2 ⟨rfl, rfl⟩
      exact ⟨Sm.rf _, by rw [if_pos q8]⟩
    · rintro r M2 ⟨rfl, f2, -⟩
      exact ⟨f2.F.Sm, by rw [if_neg (by omega), if_pos q8]⟩
    · rintro r M2 ⟨rfl, f2, t2⟩
      have e := (t2 0 0 (by omega) (by omega) (by omega) (by omega)).2.1
      have e2 : M2 113 0 = (VV (M1 106) 0 0).2.1 := e
      rw [if_neg (by omega), if_neg (by omega), if_pos q8, e2]
      refine ⟨by unfold bst; split <;> omega, fun z => ⟨f2.F.Sm, ?_⟩, fun z => ⟨f2.F.Sm, ?_⟩⟩
      · rw [if_pos]
        by_cases w : ckS (M1 106) = -1
        · exact w
        · exact absurd (hb.mpr w) z
      · rw [if_neg (hb.mp z)]
    · rintro r M2 ⟨f2, h2⟩
      rw [if_neg (by omega), if_neg (by omega), if_neg (by omega), if_pos q8]
      rcases h2 with ⟨hc, rfl, P, hP, hM⟩ | ⟨hc, rfl⟩
      · refine ⟨by decide, fun z => absurd z (by decide), fun _ => ⟨_, c6_paidOfAll hw f2.s hP.1 hM, ?_⟩⟩
        rintro r M3 ⟨rfl, rfl⟩
        exact ⟨f2.Sm, by rw [if_pos hc, nP_eq hP]⟩
      · exact ⟨by decide, fun _ => ⟨f2.Sm, by rw [if_neg hc]⟩, fun z => absurd rfl z⟩
    · rintro r M2 ⟨f2, h2⟩
      rw [if_neg (by omega), if_neg (by omega), if_neg (by omega), if_neg (by omega), if_pos q8]
      rcases h2 with ⟨hc, rfl, P, hP, hM⟩ | ⟨hc, rfl⟩
      · exact ⟨by decide, fun z => absurd z (by decide), fun _ => ⟨f2.Sm, by rw [if_pos hc, nP_eq hP]; exact hM.1⟩⟩
      · exact ⟨by decide, fun _ => ⟨f2.Sm, by rw [if_neg hc]⟩, fun z => absurd rfl z⟩
    · rintro r M2 ⟨f2, -, h2⟩
      rw [if_neg (by omega), if_neg (by omega), if_neg (by omega), if_neg (by omega), if_neg (by omega), if_pos q8]
      rcases h2 with ⟨hc, rfl, -⟩ | ⟨hc, rfl⟩
      · exact ⟨f2.Sm, by rw [if_pos hc]⟩
      · exact ⟨f2.Sm, by rw [if_neg hc]⟩
    · rintro r M2 ⟨f2, h2⟩
      rw [if_neg (by omega), if_neg (by omega), if_neg (by omega), if_neg (by omega), if_neg (by omega), if_neg (by omega), if_pos q8]
      rcases h2 with ⟨hc, P, hP, rfl⟩ | ⟨hc, rfl⟩
      · exact ⟨f2.Sm, by rw [if_pos hc, nP_eq hP]⟩
      · exact ⟨f2.Sm, by rw [if_neg hc]⟩
    · rw [if_neg (by omega), if_neg (by omega), if_neg (by omega), if_neg (by omega), if_neg (by omega), if_neg (by omega), if_neg (by omega), if_pos q8]
  · have hq := b2_z q
    rw [decide_eq_false_iff_not] at hq
    unfold tdF
    rw [if_pos hq]
noncomputable def fgF (s : Sg) (f what : Int) : Int :=
  if ¬ (0 ≤ f ∧ f < s 6) then -1000000001 else if ¬ (0 ≤ what ∧ what ≤ 7) then -1000000002 else if what < 4 then s (7 + 4 * f + what) else if ¬ ckS s = -1 then -1 else if what = 5 then pgL s (cB s) (nP s (cB s)) (due s f) else if what = 6 then cst s (cB s) (nP s (cB s)) f else if what = 7 then pgF s (cG s) (nP s (cG s)) f else pgF s (cB s) (nP s (cB s)) f
set_option maxRecDepth 10000 in
set_option maxHeartbeats 1000000 in
theorem c6_figureOf {l : Launch} {g : Gg} {M : Mm} {f what : Int} (hw : WF (M 106)) (hf : inR f) (hr : inR what) : Ct l g mX6_figureOf [vr g 105, vi f, vi what] M (fun r M2 => Sm M M2 ∧ r = fgF (M 106) f what) := by
  refine ct_of (by decide) (Nat.le_of_ble_eq_true rfl) ?_
  intro x hl hg C hR
  subst hl
  subst hg
  have h6 := hw.2.2.2.2.2.2.1
  refine X6_figureOf_0 C hR f what M ⟨_, c6_isFigure hw hf, ?_⟩
  rintro r M1 ⟨rfl, rfl⟩
  unfold fgF
  refine ⟨b2_inR _, fun q => ⟨_, c6_in hr (by decide) (by decide), ?_⟩, fun q => ⟨Sm.rf _, ?_⟩⟩
  rotate_left
  · have hq := b2_z q
    rw [decide_eq_false_iff_not] at hq
    rw [if_pos hq]
  have hq := b2_nz q
  rw [decide_eq_true_eq] at hq
  have n1 : ¬ ¬ (0 ≤ f ∧ f < M1 106 6) := fun z => z hq
  rintro r M1 ⟨rfl, rfl⟩
  rw [if_neg n1]
  refine ⟨b2_inR _, fun q2 => ?_, fun q2 => ⟨Sm.rf _, ?_⟩⟩
  rotate_left
  · have hq2 := b2_z q2
    rw [decide_eq_false_iff_not] at hq2
    rw [if_pos hq2]
  have hq2 := b2_nz q2
  rw [decide_eq_true_eq] at hq2
  have n2 : ¬ ¬ (0 ≤ what ∧ what ≤ 7) := fun z => z hq2
  rw [if_neg n2]
  have e : ¬ what < 4 → fgF (M1 106) f what = (if ¬ ckS (M1 106) = -1 then -1 else if what = 5 then pgL (M1 106) (cB (M1 106)) (nP (M1 106) (cB (M1 106))) (due (M1 106) f) else if what = 6 then cst (M1 106) (cB (M1 106)) (nP (M1 106) (cB (M1 106))) f else if what = 7 then pgF (M1 106) (cG (M1 106)) (nP (M1 106) (cG (M1 106))) f else pgF (M1 106) (cB (M1 106)) (nP (M1 106) (cB (M1 106))) f) := fun z => by
    unfold fgF
    rw [if_neg n1, if_neg n2, if_neg z]
  refine ⟨hr, fun q4 => ⟨hr, fun q7 => ⟨_, c6_isPlanned hw rfl, ?_⟩, fun q7 => ⟨_, c6_isGreedy hw rfl, ?_⟩⟩, fun q4 => ⟨⟨by omega, by omega⟩, Sm.rf _, by rw [if_pos (by omega)]⟩⟩
  · rintro r M2 ⟨f2, -, h2⟩
    have es := f2.s
    rcases h2 with ⟨hc, rfl, P, hP, hM⟩ | ⟨hc, rfl⟩
    · have n3 : ¬ ¬ ckS (M1 106) = -1 := fun z => z hc
      refine X6_figureOf_60 C hR f what _ M2 ⟨by decide, fun _ => ⟨hr, fun q5 => ⟨hr, fun q6 => ⟨_, c6_pageOfFigure hw hP hM hq, ?_⟩, fun q6 => ⟨_, c6_costOf hw es hP hM hq, ?_⟩⟩, fun q5 => ⟨_, c6_pageOfMention hw es hP hM hq, ?_⟩⟩, fun z => absurd z (by decide)⟩
      · rintro r M3 ⟨rfl, rfl⟩
        exact ⟨f2.Sm, by rw [e (by omega), if_neg n3, nP_eq hP, if_neg q5, if_neg q6, if_neg q7]⟩
      · rintro r M3 ⟨rfl, rfl⟩
        exact ⟨f2.Sm, by rw [e (by omega), if_neg n3, nP_eq hP, if_neg q5, if_pos q6]⟩
      · rintro r M3 ⟨rfl, rfl⟩
        exact ⟨f2.Sm, by rw [e (by omega), if_neg n3, nP_eq hP, if_pos q5]⟩
    · exact X6_figureOf_60 C hR f what _ M2 ⟨by decide, fun z => absurd rfl z, fun _ => ⟨f2.Sm, by rw [e (by omega), if_pos hc]⟩⟩
  · rintro r M2 ⟨f2, h2⟩
    have es := f2.s
    rcases h2 with ⟨hc, rfl, P, hP, hM⟩ | ⟨hc, rfl⟩
    · have n3 : ¬ ¬ ckS (M1 106) = -1 := fun z => z hc
      refine X6_figureOf_60 C hR f what _ M2 ⟨by decide, fun _ => ⟨hr, fun q5 => ⟨hr, fun q6 => ⟨_, c6_pageOfFigure hw hP hM hq, ?_⟩, fun q6 => absurd q6 (by omega)⟩, fun q5 => absurd q5 (by omega)⟩, fun z => absurd z (by decide)⟩
      rintro r M3 ⟨rfl, rfl⟩
      exact ⟨f2.Sm, by rw [e (by omega), if_neg n3, if_neg q5, if_neg q6, if_pos q7, nP_eq hP]⟩
    · exact X6_figureOf_60 C hR f what _ M2 ⟨by decide, fun z => absurd rfl z, fun _ => ⟨f2.Sm, by rw [e (by omega), if_pos hc]⟩⟩
noncomputable def pgA (s : Sg) (p : Nat) (what : Int) : Int :=
  if what = 0 then pn s (cB s) p else if what = 1 then pl s (cB s) (p + 1) - pl s (cB s) p else if what = 2 then (if pl s (cB s) (p + 1) - pl s (cB s) p = 0 then -1 else pl s (cB s) p) else if what = 3 then tk s (pf s (cB s) p) (pn s (cB s) p).toNat else if what = 4 then s 2 * s 1 - tk s (pf s (cB s) p) (pn s (cB s) p).toNat - (pl s (cB s) (p + 1) - pl s (cB s) p) else if what = 5 then ((setB (bwP s (pl s (cB s) (p + 1)) (pf s (cB s) (p + 1)) 0) (s 6).toNat : Nat) : Int) else ((setB (bwP s (pl s (cB s) (p + 1)) (pf s (cB s) (p + 1)) 1) (s 6).toNat : Nat) : Int)
noncomputable def pgQ (s : Sg) (p what : Int) : Int :=
  if ¬ (ckS s = -1 ∧ 0 ≤ p ∧ p < (nP s (cB s) : Int)) then -1000000001 else if ¬ (0 ≤ what ∧ what ≤ 6) then -1000000002 else pgA s p.toNat what
set_option maxRecDepth 10000 in
set_option maxHeartbeats 1000000 in
theorem c6_page {l : Launch} {g : Gg} {M : Mm} {p what : Int} (hw : WF (M 106)) (hp : inR p) (hr : inR what) : Ct l g mX6_page [vr g 105, vi p, vi what] M (fun r M2 => Sm M M2 ∧ r = pgQ (M 106) p what) := by
  refine ct_of (by decide) (Nat.le_of_ble_eq_true rfl) ?_
  intro x hl hg C hR
  subst hl
  subst hg
  have h0 := hw.1
  have h6 := hw.2.2.2.2.2.2.1
  refine X6_page_0 C hR p what M ⟨_, c6_isPlanned hw rfl, ?_⟩
  rintro r M1 ⟨f1, -, h1⟩
  have es := f1.s
  unfold pgQ
  rcases h1 with ⟨hc, rfl, P, hP, hM⟩ | ⟨hc, rfl⟩
  rotate_left
  · refine ⟨by decide, fun _ => ⟨f1.Sm, ?_⟩, fun z => absurd rfl z⟩
    rw [if_pos (fun z => hc z.1)]
  have p30 := pre_30 hw hP.1
  rw [nP_eq hP]
  refine ⟨by decide, fun z => absurd z (by decide), fun _ => ⟨_, c6_in hp (by decide) (by rw [hM.1]; exact ⟨by omega, by omega⟩), ?_⟩⟩
  rintro r M1 ⟨rfl, rfl⟩
  rw [hM.1]
  refine ⟨b2_inR _, fun q => ⟨_, c6_in hr (by decide) (by decide), ?_⟩, fun q => ⟨f1.Sm, ?_⟩⟩
  rotate_left
  · have hq := b2_z q
    rw [decide_eq_false_iff_not] at hq
    rw [if_pos (fun z => hq ⟨z.2.1, by omega⟩)]
  have hq := b2_nz q
  rw [decide_eq_true_eq] at hq
  have n1 : ¬ ¬ (ckS (M 106) = -1 ∧ 0 ≤ p ∧ p < (P : Int)) := fun z => z ⟨hc, hq.1, by omega⟩
  rintro r M1 ⟨rfl, rfl⟩
  rw [if_neg n1]
  refine ⟨b2_inR _, fun q2 => ?_, fun q2 => ⟨f1.Sm, ?_⟩⟩
  rotate_left
  · have hq2 := b2_z q2
    rw [decide_eq_false_iff_not] at hq2
    rw [if_pos hq2]
  have hq2 := b2_nz q2
  rw [decide_eq_true_eq] at hq2
  have n2 : ¬ ¬ (0 ≤ what ∧ what ≤ 6) := fun z => z hq2
  obtain ⟨k, rfl⟩ : ∃ k : Nat, p = (k : Int) := ⟨p.toNat, by omega⟩
  have ea : pgQ (M 106) (k : Int) what = pgA (M 106) k what := by
    unfold pgQ
    rw [nP_eq hP, if_neg n1, if_neg n2, Int.toNat_natCast]
  have ek := hM.2 k (by omega)
  have bd := pre_bd hw (hP.1.less (Q := k) (by omega))
  have bd1 := pre_bd hw (hP.1.less (Q := k + 1) (by omega))
  have gs := (hP.1 k (by omega)).1
  have mid : ∀ t : Int, t = pl (M 106) (cB (M 106)) k → Gx x 6 53 [(0, vr (xg x) 105), (1, vi (k : Int)), (2, vi what)] [vi t] M1 := by
    intro t ht
    refine X6_page_53 C hR _ what t M1 ⟨⟨by omega, by omega⟩, fun w hwq => ⟨⟨by omega, by omega⟩, ⟨by omega, by omega⟩, ⟨by omega, by omega⟩, ?_⟩⟩
    rw [ek.2.1, ht] at hwq
    rw [ek.1, ek.2.2]
    have ef : pf (M 106) (cB (M 106)) (k + 1) - pn (M 106) (cB (M 106)) k = pf (M 106) (cB (M 106)) k := by rw [pf_s]; omega
    rw [ef]
    have gn := gs.1
    have gl := gs.2.1
    refine ⟨_, c6_taken (by rw [es]; exact hw) bd.2.2.1 (by rw [es]; exact ⟨gn, by omega, gl⟩), ?_⟩
    rintro r M2 ⟨rfl, rfl⟩
    rw [es, ea]
    unfold pgA
    refine ⟨hr, fun z => ⟨⟨by omega, by omega⟩, ⟨by omega, by omega⟩, ?_⟩, fun z => ⟨⟨by omega, by omega⟩, f1.Sm, by rw [if_pos z, ek.1]⟩, fun z => ⟨f1.Sm, by rw [if_neg (by omega), if_pos z, hwq]⟩, fun z => ?_, fun z => ⟨f1.Sm, by rw [if_neg (by omega), if_neg (by omega), if_neg (by omega), if_pos z]⟩, fun z => ⟨f1.Sm, by rw [if_neg (by omega), if_neg (by omega), if_neg (by omega), if_neg (by omega), if_pos z, hwq]⟩⟩
    · rw [ek.2.1, ek.2.2, if_neg (by omega), if_neg (by omega), if_neg (by omega), if_neg (by omega), if_neg (by omega)]
      refine ⟨hr, fun y => ⟨_, c6_between (by rw [es]; exact hw) ⟨by omega, by omega⟩ ⟨by omega, by omega⟩ (Or.inl rfl), ?_⟩, fun y => ⟨_, c6_between (by rw [es]; exact hw) ⟨by omega, by omega⟩ ⟨by omega, by omega⟩ (Or.inr rfl), ?_⟩⟩
      · rintro r M3 ⟨rfl, rfl⟩
        exact ⟨f1.Sm, by rw [if_pos (by omega), es]⟩
      · rintro r M3 ⟨rfl, rfl⟩
        exact ⟨f1.Sm, by rw [if_neg (by omega), es]⟩
    · rw [if_neg (by omega), if_neg (by omega), if_pos z, ← hwq]
      exact ⟨⟨by omega, by omega⟩, fun y => ⟨f1.Sm, by rw [if_neg y, ht]⟩, fun y => ⟨f1.Sm, by rw [if_pos y]⟩⟩
  refine ⟨⟨by omega, by omega⟩, fun z => ⟨⟨by omega, by omega⟩, mid _ ?_⟩, fun z => mid 0 ?_⟩
  · have e1 : (k : Int) - 1 = ((k - 1 : Nat) : Int) := by omega
    rw [e1, (hM.2 (k - 1) (by omega)).2.1]
    congr 1
    omega
  · have : k = 0 := by omega
    subst this
    rfl
noncomputable def poF (s : Sg) (v : Int) : Int := if ¬ (0 ≤ v ∧ v < s 0) then -1000000001 else if ¬ ckS s = -1 then -1000000003 else pgL s (cB s) (nP s (cB s)) v
set_option maxRecDepth 10000 in
set_option maxHeartbeats 1000000 in
theorem c6_pageOf {l : Launch} {g : Gg} {M : Mm} {v : Int} (hw : WF (M 106)) (hv : inR v) : Ct l g mX6_pageOf [vr g 105, vi v] M (fun r M2 => Sm M M2 ∧ r = poF (M 106) v) := by
  refine ct_of (by decide) (Nat.le_of_ble_eq_true rfl) ?_
  intro x hl hg C hR
  subst hl
  subst hg
  have h0 := hw.1
  refine X6_pageOf_0 C hR v M ⟨_, c6_in hv (by decide) ⟨by omega, by omega⟩, ?_⟩
  rintro r M1 ⟨rfl, rfl⟩
  unfold poF
  refine ⟨b2_inR _, fun q => ⟨_, c6_isPlanned hw rfl, ?_⟩, fun q => ⟨Sm.rf _, ?_⟩⟩
  rotate_left
  · have hq := b2_z q
    rw [decide_eq_false_iff_not] at hq
    rw [if_pos (fun z => hq ⟨z.1, by omega⟩)]
  have hq := b2_nz q
  rw [decide_eq_true_eq] at hq
  have n1 : ¬ ¬ (0 ≤ v ∧ v < M1 106 0) := fun z => z ⟨hq.1, by omega⟩
  rintro r M2 ⟨f2, -, h2⟩
  rw [if_neg n1]
  rcases h2 with ⟨hc, rfl, P, hP, hM⟩ | ⟨hc, rfl⟩
  · have n3 : ¬ ¬ ckS (M1 106) = -1 := fun z => z hc
    rw [if_neg n3, nP_eq hP]
    refine ⟨by decide, fun z => absurd z (by decide), fun _ => ⟨_, c6_pageOfLine hw hP hM ⟨by omega, by omega⟩ (plan_pos hP (Or.inl (by omega))), ?_⟩⟩
    rintro r M3 ⟨rfl, rfl⟩
    exact ⟨f2.Sm, rfl⟩
  · rw [if_pos hc]
    exact ⟨by decide, fun _ => ⟨f2.Sm, rfl⟩, fun z => absurd rfl z⟩
def ftF (s : Sg) (f n : Int) : Int := if n < 0 then -1000000002 else if n = 0 then 1 else if ¬ (0 ≤ f ∧ f < s 6) then -1000000001 else if s 6 - f < n then -1000000002 else b2 (fitB s f n)
set_option maxRecDepth 10000 in
set_option maxHeartbeats 1000000 in
theorem c6_fits {l : Launch} {g : Gg} {M : Mm} {f n : Int} (hw : WF (M 106)) (hf : inR f) (hn : inR n) : Ct l g mX6_fits [vr g 105, vi f, vi n] M (fun r M2 => M2 = M ∧ r = ftF (M 106) f n) := by
  refine ct_of (by decide) (Nat.le_of_ble_eq_true rfl) ?_
  intro x hl hg C hR
  subst hl
  subst hg
  have h6 := hw.2.2.2.2.2.2.1
  refine X6_fits_0 C hR f n M ?_
  unfold ftF
  refine ⟨hn, fun q => ⟨hn, fun q0 => ⟨_, c6_isFigure hw hf, ?_⟩, fun q0 => ⟨rfl, by rw [if_neg (by omega), if_pos q0]⟩⟩, fun q => ⟨rfl, by rw [if_pos (by omega)]⟩⟩
  rintro r M1 ⟨rfl, rfl⟩
  rw [if_neg (by omega), if_neg q0]
  refine ⟨b2_inR _, fun q1 => ?_, fun q1 => ⟨rfl, ?_⟩⟩
  rotate_left
  · have hq := b2_z q1
    rw [decide_eq_false_iff_not] at hq
    rw [if_pos hq]
  have hq := b2_nz q1
  rw [decide_eq_true_eq] at hq
  have n1 : ¬ ¬ (0 ≤ f ∧ f < M1 106 6) := fun z => z hq
  rw [if_neg n1]
  refine ⟨⟨hn, by omega, by omega⟩, fun q2 => ⟨_, c6_isFit hw hq.1 ⟨q, by omega, by omega⟩, ?_⟩, fun q2 => ⟨rfl, by rw [if_pos (by omega)]⟩⟩
  rintro r M2 ⟨rfl, rfl⟩
  rw [if_neg (by omega)]
  exact ⟨b2_inR _, fun z => ⟨rfl, z.symm⟩, fun z => ⟨rfl, by rw [b2_nz z]; rfl⟩⟩
def wyF (s : Sg) : Int := if ckS s = -1 then (VV s 0 0).2.2.1 else 0
set_option maxRecDepth 10000 in
set_option maxHeartbeats 1000000 in
theorem c6_ways {l : Launch} {g : Gg} {M : Mm} (hw : WF (M 106)) : Ct l g mX6_ways [vr g 105] M (fun r M2 => Sm M M2 ∧ r = wyF (M 106)) := by
  refine ct_of (by decide) (Nat.le_of_ble_eq_true rfl) ?_
  intro x hl hg C hR
  subst hl
  subst hg
  have h0 := hw.1
  have h6 := hw.2.2.2.2.2.2.1
  have hb := bst_m1 hw
  have hv := VV_ok hw (ll := 0) (f := 0) (by omega) (by omega)
  unfold Vok at hv
  refine X6_ways_0 C hR M ⟨_, c6_bestOf hw, ?_⟩
  rintro r M1 ⟨rfl, f1, t1⟩
  have e : M1 114 0 = (VV (M 106) 0 0).2.2.1 := (t1 0 0 (by omega) (by omega) (by omega) (by omega)).2.2
  rw [e]
  unfold wyF
  refine ⟨by unfold bst; split <;> omega, fun z => ⟨f1.F.Sm, ?_⟩, fun z => ⟨f1.F.Sm, ?_⟩⟩
  · rw [if_pos]
    by_cases w : ckS (M 106) = -1
    · exact w
    · exact absurd (hb.mpr w) z
  · rw [if_neg (hb.mp z)]
noncomputable def frF (s : Sg) (ll f what : Int) : Int := if ¬ (0 ≤ what ∧ what ≤ 1) then -1000000002 else if ckS s = -1 ∧ rI s ll f = 1 then (if what = 0 then (VV s ll f).1 else (VV s ll f).2.1) else -1
set_option maxRecDepth 10000 in
set_option maxHeartbeats 1000000 in
theorem c6_from {l : Launch} {g : Gg} {M : Mm} {ll f what : Int} (hw : WF (M 106)) (hl : inR ll) (hf : inR f) (hr : inR what) : Ct l g mX6_from [vr g 105, vi ll, vi f, vi what] M (fun r M2 => Sm M M2 ∧ r = frF (M 106) ll f what) := by
  refine ct_of (by decide) (Nat.le_of_ble_eq_true rfl) ?_
  intro x hl hg C hR
  subst hl
  subst hg
  have h0 := hw.1
  have h6 := hw.2.2.2.2.2.2.1
  refine X6_from_0 C hR ll f what M ⟨_, c6_in hr (by decide) (by decide), ?_⟩
  rintro r M1 ⟨rfl, rfl⟩
  unfold frF
  refine ⟨b2_inR _, fun q => ⟨_, c6_in hl (by decide) ⟨by omega, by omega⟩, ?_⟩, fun q => ⟨Sm.rf _, ?_⟩⟩
  rotate_left
  · have hq := b2_z q
    rw [decide_eq_false_iff_not] at hq
    rw [if_pos hq]
  have hq := b2_nz q
  rw [decide_eq_true_eq] at hq
  have n1 : ¬ ¬ (0 ≤ what ∧ what ≤ 1) := fun z => z hq
  rw [if_neg n1]
  have out : ¬ ((0 ≤ ll ∧ ll ≤ M1 106 0) ∧ (0 ≤ f ∧ f ≤ M1 106 6)) → ¬ (ckS (M1 106) = -1 ∧ rI (M1 106) ll f = 1) := by
    intro z w
    by_cases y : Rch (M1 106) ll f
    · exact z (rch_bd hw y)
    · rw [rI_0 y] at w
      exact absurd w.2 (by decide)
  rintro r M2 ⟨rfl, rfl⟩
  refine ⟨b2_inR _, fun q2 => ⟨Sm.rf _, ?_⟩, fun q2 => ⟨_, c6_in hf (by decide) ⟨by omega, by omega⟩, ?_⟩⟩
  · have hq2 := b2_z q2
    rw [decide_eq_false_iff_not] at hq2
    rw [if_neg (out (fun z => hq2 z.1))]
  have hq2 := b2_nz q2
  rw [decide_eq_true_eq] at hq2
  rintro r M2 ⟨rfl, rfl⟩
  refine ⟨b2_inR _, fun q3 => ⟨Sm.rf _, ?_⟩, fun q3 => ⟨_, c6_layPlaces hw rfl, ?_⟩⟩
  · have hq3 := b2_z q3
    rw [decide_eq_false_iff_not] at hq3
    rw [if_neg (out (fun z => hq3 z.2))]
  have hq3 := b2_nz q3
  rw [decide_eq_true_eq] at hq3
  rintro r M3 ⟨f3, t3, h3⟩
  have nb := nR_bd hw ((M2 106 0).toNat + 1)
  rcases h3 with ⟨hc, rfl, h3⟩ | ⟨hc, rfl⟩
  · have hpos : 0 < nR (M2 106) ((M2 106 0).toNat + 1) := by
      have p1 : rowR (M2 106) ((0 : Nat) : Int) ((M2 106 6).toNat + 1) ≤ nR (M2 106) ((M2 106 0).toNat + 1) := sm_part (F := fun a => rowR (M2 106) a ((M2 106 6).toNat + 1)) (fun j _ => (rowR_bd _ _ _).1) (by omega)
      have p2 : rI (M2 106) ((0 : Nat) : Int) ((0 : Nat) : Int) ≤ rowR (M2 106) ((0 : Nat) : Int) ((M2 106 6).toNat + 1) := sm_part (F := fun b => rI (M2 106) ((0 : Nat) : Int) b) (fun j _ => (rI_bd _ _ _).1) (by omega)
      have p3 : rI (M2 106) ((0 : Nat) : Int) ((0 : Nat) : Int) = 1 := rI_1 (rch_0 _)
      omega
    have e := h3 ll f hq2.1 hq2.2 hq3.1 hq3.2
    have ent := t3 ll f hq2.1 hq2.2 hq3.1 hq3.2
    unfold Ent at ent
    have rb := rI_bd (M2 106) ll f
    refine ⟨⟨by omega, by omega⟩, fun z => absurd z (by omega), fun _ => ⟨⟨by omega, by omega⟩, ?_⟩⟩
    rw [e, ent.1, ent.2.1]
    refine ⟨⟨by omega, by omega⟩, fun z => ⟨hr, fun w => ⟨⟨by omega, by omega⟩, f3.Sm, ?_⟩, fun w => ⟨⟨by omega, by omega⟩, f3.Sm, ?_⟩⟩, fun z => ⟨f3.Sm, ?_⟩⟩
    · rw [if_pos ⟨hc, by omega⟩, if_neg w]
    · rw [if_pos ⟨hc, by omega⟩, if_pos w]
    · rw [if_neg (fun y => by omega)]
  · refine ⟨by decide, fun _ => ⟨f3.Sm, ?_⟩, fun z => absurd rfl z⟩
    rw [if_neg (fun y => hc y.1)]
