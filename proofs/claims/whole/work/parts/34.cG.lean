/-! ===== the class: its questions, undo, images, hand ===== -/
set_option maxRecDepth 10000 in
set_option maxHeartbeats 1000000 in
theorem c5_undo {l : Launch} {g : Gg} {M : Mm} {s t : Sg} (ci : CI M s) (he : 0 ≤ M 4 1 ∧ M 4 1 < 6) (hz : 0 ≤ M 4 2 ∧ M 4 2 ≤ 6) (ht : ¬ M 4 2 = 0 → SE M (34 + 7 * ((M 4 1 + 5) % 6).toNat) t ∧ 0 ≤ t 6 ∧ t 6 ≤ 10) : Ct l g mX5_undo [vr g 0] M (fun r M2 => (M 4 2 = 0 ∧ r = -1000000003 ∧ M2 = M) ∨ (¬ M 4 2 = 0 ∧ r = M 4 2 - 1 ∧ CI M2 t ∧ M2 4 1 = (M 4 1 + 5) % 6 ∧ M2 4 2 = M 4 2 - 1 ∧ (∀ a, ((1 ≤ a ∧ a < 4) ∨ (20 ≤ a ∧ a < 76) ∨ 105 ≤ a) → M2 a = M a) ∧ M2 0 11 = M 0 11 ∧ M2 0 12 = 1)) := by
  refine ct_of (by decide) (Nat.le_of_ble_eq_true rfl) ?_
  intro x hl hg C hR
  subst hl
  subst hg
  refine X5_undo_0 C hR M ⟨⟨by omega, by omega⟩, fun q => ⟨_, c0_bringBack (ht q).2 he (ht q).1, ?_⟩, fun q => Or.inl ⟨q, rfl, rfl⟩⟩
  rintro r A ⟨sA, a1, a2, a3⟩ B hB
  have e1 : ∀ a, a ≠ 0 → B a = A a := fun a ha => by rw [hB, mu_ne ha]
  have s1 : B 0 12 = 1 := by rw [hB, mu_at]
  refine Or.inr ⟨q, by rw [e1 4 (by decide)]; exact a2, ⟨sA.kept (fun a h1 h2 => e1 a (by omega)), ci.2.1.kept (fun a h1 h2 => by rw [e1 a (by omega), a3 a (by omega) (by omega)]), Or.inr s1, fun y => by rw [s1] at y; exact absurd y (by decide)⟩, by rw [e1 4 (by decide)]; exact a1, by rw [e1 4 (by decide)]; exact a2, fun a ha => by rw [e1 a (by omega)]; exact a3 a (by omega) (by omega), ?_, s1⟩
  rw [hB, mu_off (by decide), a3 0 (by decide) (by omega)]
set_option maxRecDepth 10000 in
set_option maxHeartbeats 1000000 in
theorem c5_told {l : Launch} {g : Gg} {M : Mm} {s : Sg} {what : Int} (hw : WF s) (ci : CI M s) (hr : inR what) : Ct l g mX5_told [vr g 0, vi what] M (fun r M2 => r = tdF s (M 4 2) (M 0 11) what ∧ CI M2 s ∧ QF M M2) := by
  refine ct_of (by decide) (Nat.le_of_ble_eq_true rfl) ?_
  intro x hl hg C hR
  subst hl
  subst hg
  have h0 := hw.1
  have h6 := hw.2.2.2.2.2.2.1
  have td : ∀ y z : Int, tdF s y z what = if ¬ (0 ≤ what ∧ what ≤ 15) then -1000000002 else if what < 7 then s what else if what = 7 then ckS s else if what = 8 then bst s else if what = 9 then (if ckS s = -1 then (VV s 0 0).2.1 else -1) else if what = 10 then (if ckS s = -1 then paS s (cG s) (nP s (cG s)) else -1) else if what = 11 then (if ckS s = -1 then (nP s (cG s) : Int) else -1) else if what = 12 then (if ckS s = -1 then nR s ((s 0).toNat + 1) else 0) else if what = 13 then (if ckS s = -1 then (hvy s (cB s) (nP s (cB s)) (s 6).toNat).1 else -1) else if what = 14 then z else y := fun _ _ => rfl
  refine X5_told_0 C hR what M ⟨hr, fun q => ⟨?_, ci, QF.rf M⟩, fun q => ⟨hr, fun q1 => ⟨hr, fun q2 => ⟨_, c5_settle hw ci, ?_⟩, fun q2 => ⟨⟨by omega, by omega⟩, ?_, ci, QF.rf M⟩⟩, fun q1 => ⟨?_, ci, QF.rf M⟩⟩⟩
  · rw [td, if_pos (by omega)]
  · rintro r A ⟨cA, sA, qA⟩
    have e4 : A 4 = M 4 := qA.1 4 (by omega)
    rw [e4]
    refine ⟨hr, fun y => ⟨?_, cA, qA⟩, fun y => ⟨?_, cA, qA⟩, fun y => ⟨?_, cA, qA⟩, fun y => ⟨_, c3_costFrom isP_76 hw sA.1 (by decide) (by decide), ?_⟩, fun y => ⟨?_, cA, qA⟩, fun y => ?_, fun y => ⟨?_, cA, qA⟩, fun y => ⟨?_, cA, qA⟩, fun y => ?_, fun y => ⟨?_, cA, qA⟩⟩
    · rw [td, if_neg (by omega), if_neg (by omega), if_neg (by omega), if_neg (by omega), if_neg (by omega), if_neg (by omega), if_neg (by omega), if_neg (by omega), if_neg (by omega), if_neg (by omega)]
    · subst y
      rw [td, if_neg (by omega), if_pos (by omega)]
      exact cA.1.2.1
    · subst y
      rw [td, if_neg (by omega), if_neg (by omega), if_pos rfl]
      exact sA.1.1.2.2.2.2.1
    · rintro r B ⟨rfl, rfl⟩
      subst y
      refine ⟨?_, cA, qA⟩
      rw [bst_pl hw, td, if_neg (by omega), if_neg (by omega), if_neg (by omega), if_pos rfl]
    · subst y
      rw [td, if_neg (by omega), if_neg (by omega), if_neg (by omega), if_neg (by omega), if_pos rfl]
      rcases sA.2 with ⟨c1, ⟨P, p1, p2⟩, -⟩ | ⟨c1, c2, c3⟩
      · rw [if_pos c1, best_pages hw c1 p1]
        exact p2.1
      · rw [if_neg c1]
        exact c2
    · subst y
      rw [td, if_neg (by omega), if_neg (by omega), if_neg (by omega), if_neg (by omega), if_neg (by omega), if_pos rfl]
      rcases sA.2 with ⟨c1, -, ⟨P, p1, p2⟩⟩ | ⟨c1, c2, c3⟩
      · rw [if_pos c1, nP_eq p1]
        refine ⟨_, c2_cost isPl_99 isMe_77 hw sA.1.1 p1 p2, ?_⟩
        rintro r B ⟨rfl, rfl⟩
        exact ⟨rfl, cA, qA⟩
      · rw [if_neg c1]
        refine ⟨_, c2_cost_n isPl_99 isMe_77 c3, ?_⟩
        rintro r B ⟨rfl, rfl⟩
        exact ⟨rfl, cA, qA⟩
    · subst y
      rw [td, if_neg (by omega), if_neg (by omega), if_neg (by omega), if_neg (by omega), if_neg (by omega), if_neg (by omega), if_pos rfl]
      rcases sA.2 with ⟨c1, -, ⟨P, p1, p2⟩⟩ | ⟨c1, c2, c3⟩
      · rw [if_pos c1, nP_eq p1]
        exact p2.1
      · rw [if_neg c1]
        exact c3
    · subst y
      rw [td, if_neg (by omega), if_neg (by omega), if_neg (by omega), if_neg (by omega), if_neg (by omega), if_neg (by omega), if_neg (by omega), if_pos rfl]
      rcases sA.1.2 with ⟨c1, c2, -⟩ | ⟨c1, c2, -⟩
      · rw [if_neg c1]
        exact c2
      · rw [if_pos c1]
        exact c2
    · subst y
      rw [td, if_neg (by omega), if_neg (by omega), if_neg (by omega), if_neg (by omega), if_neg (by omega), if_neg (by omega), if_neg (by omega), if_neg (by omega), if_pos rfl]
      rcases sA.2 with ⟨c1, ⟨P, p1, p2⟩, -⟩ | ⟨c1, c2, c3⟩
      · rw [if_pos c1, nP_eq p1]
        refine ⟨_, c2_heavy isPl_96 isMe_77 hw sA.1.1 p1 p2, ?_⟩
        rintro r B ⟨rfl, rfl⟩
        exact ⟨rfl, cA, qA⟩
      · rw [if_neg c1]
        refine ⟨_, c2_heavy_n isPl_96 isMe_77 hw sA.1.1 c2, ?_⟩
        rintro r B ⟨rfl, rfl⟩
        exact ⟨rfl, cA, qA⟩
    · subst y
      rw [td, if_neg (by omega), if_neg (by omega), if_neg (by omega), if_neg (by omega), if_neg (by omega), if_neg (by omega), if_neg (by omega), if_neg (by omega), if_neg (by omega), if_pos rfl]
      exact qA.2 11 (by decide)
  · rw [td, if_neg (by omega), if_pos (by omega)]
    exact ci.1.1 what (by omega) (by omega)
  · rw [td, if_pos (by omega)]
set_option maxRecDepth 10000 in
set_option maxHeartbeats 1000000 in
theorem c5_figureOf {l : Launch} {g : Gg} {M : Mm} {s : Sg} {f what : Int} (hw : WF s) (ci : CI M s) (hf : inR f) (hr : inR what) : Ct l g mX5_figureOf [vr g 0, vi f, vi what] M (fun r M2 => r = fgF s f what ∧ CI M2 s ∧ QF M M2) := by
  refine ct_of (by decide) (Nat.le_of_ble_eq_true rfl) ?_
  intro x hl hg C hR
  subst hl
  subst hg
  have h0 := hw.1
  have h6 := hw.2.2.2.2.2.2.1
  refine X5_figureOf_0 C hR f what M ⟨_, c4_has isS_6 h6 ci.1 hf, ?_⟩
  rintro r A ⟨rfl, rfl⟩
  unfold fgF
  refine ⟨b2_inR _, fun q => ?_, fun q => ⟨?_, ci, QF.rf A⟩⟩
  rotate_left
  · rw [if_pos (of_decide_eq_false (b2_z q))]
  have hq := of_decide_eq_true (b2_nz q)
  rw [if_neg (fun y => y hq)]
  refine ⟨hr, fun q1 => ⟨?_, ci, QF.rf A⟩, fun q1 => ⟨hr, fun q2 => ⟨hr, fun q3 => ⟨_, c5_settle hw ci, ?_⟩, fun q3 => ⟨⟨by omega, by omega⟩, ⟨by omega, by omega⟩, ?_, ci, QF.rf A⟩⟩, fun q2 => ⟨?_, ci, QF.rf A⟩⟩⟩
  · rw [if_pos (by omega)]
  · rintro r B ⟨cB', sB, qB⟩
    rw [if_neg (by omega), if_neg (by omega)]
    have du := (sB.1.1.2.2.2.2.2.1 f hq.1 hq.2).1
    have db := due_bd hw hq.1 hq.2
    rcases sB.2 with ⟨c1, ⟨P, p1, p2⟩, ⟨Q, r1, r2⟩⟩ | ⟨c1, c2, c3⟩
    · rw [if_neg (fun y => y c1), nP_eq p1, nP_eq r1]
      refine ⟨hr, fun y => ⟨_, c2_pageOfFigure isPl_99 hw r1 r2 hf, ?_⟩, fun y => ⟨_, c2_pageOfFigure isPl_96 hw p1 p2 hf, ?_⟩, fun y => ⟨⟨by omega, by omega⟩, ?_⟩, fun y => ⟨_, c2_costOfFigure isPl_96 isMe_77 hw sB.1.1 p1 p2 hq, ?_⟩⟩
      · rintro r D ⟨rfl, rfl⟩
        rw [if_neg (by omega), if_neg (by omega), if_pos (by omega)]
        exact ⟨rfl, cB', qB⟩
      · rintro r D ⟨rfl, rfl⟩
        rw [if_neg (by omega), if_neg (by omega), if_neg (by omega)]
        exact ⟨rfl, cB', qB⟩
      · have du2 : B 78 f = due s f := du
        rw [du2]
        refine ⟨_, c2_pageWithLine isPl_96 hw p1 p2 ⟨by omega, by omega⟩, ?_⟩
        rintro r D ⟨rfl, rfl⟩
        rw [if_pos y]
        exact ⟨rfl, cB', qB⟩
      · rintro r D ⟨rfl, rfl⟩
        rw [if_neg (by omega), if_pos y]
        exact ⟨rfl, cB', qB⟩
    · rw [if_pos c1]
      have du2 : B 78 f = due s f := du
      rw [du2]
      refine ⟨hr, fun y => ⟨_, c2_pageOfFigure_n isPl_99 c3 hf, ?_⟩, fun y => ⟨_, c2_pageOfFigure_n isPl_96 c2 hf, ?_⟩, fun y => ⟨⟨by omega, by omega⟩, _, c2_pageWithLine_n isPl_96 c2 ⟨by omega, by omega⟩, ?_⟩, fun y => ⟨_, c2_costOfFigure_n isPl_96 isMe_77 c2, ?_⟩⟩
      all_goals rintro r D ⟨rfl, rfl⟩
      all_goals exact ⟨rfl, cB', qB⟩
  · rw [if_neg (by omega), if_pos (by omega)]
    have := ci.1.2.2 what.toNat f (by omega) hq.1 hq.2
    rw [show ((what.toNat : Nat) : Int) = what by omega] at this
    exact this
  · rw [if_pos (by omega)]
set_option maxRecDepth 10000 in
set_option maxHeartbeats 1000000 in
theorem c5_page {l : Launch} {g : Gg} {M : Mm} {s : Sg} {p what : Int} (hw : WF s) (ci : CI M s) (hp : inR p) (hr : inR what) : Ct l g mX5_page [vr g 0, vi p, vi what] M (fun r M2 => r = pgQ s p what ∧ CI M2 s ∧ QF M M2) := by
  refine ct_of (by decide) (Nat.le_of_ble_eq_true rfl) ?_
  intro x hl hg C hR
  subst hl
  subst hg
  have h0 := hw.1
  have h6 := hw.2.2.2.2.2.2.1
  refine X5_page_0 C hR p what M ⟨_, c5_settle hw ci, ?_⟩
  rintro r A ⟨cA, sA, qA⟩
  unfold pgQ
  refine ⟨hp, fun q => ⟨?_, cA, qA⟩, fun q => ?_⟩
  · rw [if_pos (by omega)]
  rcases sA.2 with ⟨c1, ⟨P, p1, p2⟩, -⟩ | ⟨c1, c2, c3⟩
  rotate_left
  · rw [c2]
    exact ⟨⟨hp, by decide⟩, fun y => absurd y (by omega), fun _ => ⟨by rw [if_pos (fun z => c1 z.1)], cA, qA⟩⟩
  have p30 := pre_30 hw p1.1
  rw [p2.1, nP_eq p1]
  refine ⟨⟨hp, by omega, by omega⟩, fun q1 => ?_, fun q1 => ⟨by rw [if_pos (by omega)], cA, qA⟩⟩
  obtain ⟨n, rfl⟩ : ∃ n : Nat, p = (n : Int) := ⟨p.toNat, by omega⟩
  rw [if_neg (fun y => y ⟨c1, by omega, q1⟩)]
  refine ⟨hr, fun q2 => ⟨by rw [if_pos (by omega)], cA, qA⟩, fun q2 => ⟨hr, fun q3 => ?_, fun q3 => ⟨by rw [if_pos (by omega)], cA, qA⟩⟩⟩
  rw [if_neg (by omega), Int.toNat_natCast]
  have b1 := pre_bd hw (p1.1.less (show n ≤ P by omega))
  have b2' := pre_bd hw (p1.1.less (show n + 1 ≤ P by omega))
  have gs := (p1.1 n (by omega)).1
  have g0 := gs.1
  have l0 : A 97 n = pl s (cB s) n := (p2.2 n (by omega)).1
  have l1 : A 97 ((n : Int) + 1) = pl s (cB s) (n + 1) := by
    have := (p2.2 (n + 1) (by omega)).1
    rw [show ((n + 1 : Nat) : Int) = (n : Int) + 1 by omega] at this
    exact this
  have f0 : A 98 n = pf s (cB s) n := (p2.2 n (by omega)).2
  have f1 : A 98 ((n : Int) + 1) = pf s (cB s) (n + 1) := by
    have := (p2.2 (n + 1) (by omega)).2
    rw [show ((n + 1 : Nat) : Int) = (n : Int) + 1 by omega] at this
    exact this
  have t0 : A 81 (pf s (cB s) n) = tk s 0 (pf s (cB s) n).toNat := (sA.1.1.2.2.2.2.2.2 (pf s (cB s) n) (by omega) (by omega)).2
  have t1 : A 81 (pf s (cB s) (n + 1)) = tk s 0 (pf s (cB s) (n + 1)).toNat := (sA.1.1.2.2.2.2.2.2 (pf s (cB s) (n + 1)) (by omega) (by omega)).2
  have t2 := tk_at (s := s) (f := pf s (cB s) n) (by omega) (pn s (cB s) n).toNat
  have pfs := pf_s s (cB s) n
  rw [show (pf s (cB s) n).toNat + (pn s (cB s) n).toNat = (pf s (cB s) (n + 1)).toNat by omega] at t2
  have e2 : A 77 2 = s 2 * s 1 := sA.1.1.2.2.1
  rw [l0, l1, f0, f1, t0, t1, e2]
  refine ⟨⟨by omega, by omega⟩, ⟨by omega, by omega⟩, fun w64 h64 => ⟨⟨by omega, by omega⟩, ⟨by omega, by omega⟩, ⟨by omega, by omega⟩, ⟨by omega, by omega⟩, fun w97 h97 => ?_⟩⟩
  have e97 : w97 = tk s (pf s (cB s) n) (pn s (cB s) n).toNat := by omega
  unfold pgA
  refine ⟨hr, fun y => ⟨⟨by omega, by omega⟩, ⟨by omega, by omega⟩, _, c1_unmentioned isMe_77 hw sA.1.1 ⟨by omega, by omega⟩ ⟨by omega, by omega⟩, ?_⟩, fun y => ⟨⟨by omega, by omega⟩, ⟨by omega, by omega⟩, ?_, cA, qA⟩, fun y => ⟨?_, cA, qA⟩, fun y => ⟨⟨by omega, by omega⟩, fun z => ⟨⟨by omega, by omega⟩, ?_, cA, qA⟩, fun z => ⟨?_, cA, qA⟩⟩, fun y => ⟨?_, cA, qA⟩, fun y => ⟨?_, cA, qA⟩, fun y => ⟨⟨by omega, by omega⟩, ⟨by omega, by omega⟩, _, c1_waiting isMe_77 hw sA.1.1 ⟨by omega, by omega⟩ ⟨by omega, by omega⟩, ?_⟩⟩
  · rintro r D ⟨rfl, rfl⟩
    rw [if_neg (by omega), if_neg (by omega), if_neg (by omega), if_neg (by omega), if_neg (by omega), if_neg (by omega)]
    exact ⟨rfl, cA, qA⟩
  · rw [if_pos y]
    omega
  · rw [if_neg (by omega), if_pos y]
    exact h64
  · rw [if_neg (by omega), if_neg (by omega), if_pos y, if_neg (by omega)]
  · rw [if_neg (by omega), if_neg (by omega), if_pos y, if_pos (by omega)]
  · rw [if_neg (by omega), if_neg (by omega), if_neg (by omega), if_pos y]
    exact e97
  · rw [if_neg (by omega), if_neg (by omega), if_neg (by omega), if_neg (by omega), if_pos y, e97, h64]
  · rintro r D ⟨rfl, rfl⟩
    rw [if_neg (by omega), if_neg (by omega), if_neg (by omega), if_neg (by omega), if_neg (by omega), if_pos y]
    exact ⟨rfl, cA, qA⟩
set_option maxRecDepth 10000 in
set_option maxHeartbeats 1000000 in
theorem c5_pageOf {l : Launch} {g : Gg} {M : Mm} {s : Sg} {v : Int} (hw : WF s) (ci : CI M s) (hv : inR v) : Ct l g mX5_pageOf [vr g 0, vi v] M (fun r M2 => r = poF s v ∧ CI M2 s ∧ QF M M2) := by
  refine ct_of (by decide) (Nat.le_of_ble_eq_true rfl) ?_
  intro x hl hg C hR
  subst hl
  subst hg
  have h0 := hw.1
  have e0 : M 7 0 = s 0 := ci.1.1 0 (by omega) (by omega)
  refine X5_pageOf_0 C hR v M ?_
  unfold poF
  rw [e0]
  refine ⟨hv, fun q => ⟨by rw [if_pos (by omega)], ci, QF.rf M⟩, fun q => ⟨⟨hv, by omega, by omega⟩, fun q1 => ⟨_, c5_settle hw ci, ?_⟩, fun q1 => ⟨by rw [if_pos (by omega)], ci, QF.rf M⟩⟩⟩
  rintro r A ⟨cA, sA, qA⟩
  rw [if_neg (by omega)]
  rcases sA.2 with ⟨c1, ⟨P, p1, p2⟩, -⟩ | ⟨c1, c2, c3⟩
  · rw [p2.1, nP_eq p1, if_neg (fun y => y c1)]
    have p30 := pre_30 hw p1.1
    refine ⟨⟨by omega, by omega⟩, fun _ => ⟨_, c2_pageWithLine isPl_96 hw p1 p2 hv, ?_⟩, fun y => absurd y (by omega)⟩
    rintro r B ⟨rfl, rfl⟩
    exact ⟨rfl, cA, qA⟩
  · rw [c2, if_pos c1]
    exact ⟨by decide, fun y => absurd rfl y, fun _ => ⟨rfl, cA, qA⟩⟩
set_option maxRecDepth 10000 in
set_option maxHeartbeats 1000000 in
theorem c5_fits {l : Launch} {g : Gg} {M : Mm} {s : Sg} {f n : Int} (hw : WF s) (ci : CI M s) (hf : inR f) (hn : inR n) : Ct l g mX5_fits [vr g 0, vi f, vi n] M (fun r M2 => r = ftF s f n ∧ M2 = M) := by
  refine ct_of (by decide) (Nat.le_of_ble_eq_true rfl) ?_
  intro x hl hg C hR
  subst hl
  subst hg
  have h6 := hw.2.2.2.2.2.2.1
  have e6 := ci.1.2.1
  have ft : ftF s f n = if n < 0 then -1000000002 else if n = 0 then 1 else if ¬ (0 ≤ f ∧ f < s 6) then -1000000001 else if s 6 - f < n then -1000000002 else b2 (fitB s f n) := rfl
  refine X5_fits_0 C hR f n M ⟨hn, fun q => X5_fits_18 C hR f n M ?_, fun q => ⟨_, c4_has isS_6 h6 ci.1 hf, ?_⟩⟩
  · rw [e6]
    refine ⟨hn, fun q1 => ⟨hn, fun q2 => ⟨by rw [ft, if_pos q2], rfl⟩, fun q2 => absurd (by omega) q2⟩, fun q1 => ⟨by rw [ft, if_neg (by omega), if_pos q1], rfl⟩⟩
  · rintro r A ⟨rfl, rfl⟩
    refine ⟨b2_inR _, fun q1 => X5_fits_18 C hR f n A ?_, fun q1 => ⟨by rw [ft, if_neg (by omega), if_neg (by omega), if_pos (of_decide_eq_false (b2_z q1))], rfl⟩⟩
    have hq := of_decide_eq_true (b2_nz q1)
    rw [e6]
    refine ⟨hn, fun q2 => ⟨hn, fun q3 => absurd q3 (by omega), fun q3 => ⟨⟨hn, by omega, by omega⟩, fun q4 => ⟨_, c4_standTogether isS_6 hw ci.1 hq.1 ⟨by omega, by omega⟩, ?_⟩, fun q4 => ⟨by rw [ft, if_neg (by omega), if_neg (by omega), if_neg (fun y => y hq), if_pos (by omega)], rfl⟩⟩⟩, fun q2 => absurd q2 (by omega)⟩
    rintro r B ⟨rfl, rfl⟩
    rw [ft, if_neg (by omega), if_neg (by omega), if_neg (fun y => y hq), if_neg (by omega)]
    exact ⟨b2_inR _, fun y => ⟨y.symm, rfl⟩, fun y => ⟨by rw [b2_nz y]; rfl, rfl⟩⟩
set_option maxRecDepth 10000 in
set_option maxHeartbeats 1000000 in
theorem c5_ways {l : Launch} {g : Gg} {M : Mm} {s : Sg} (hw : WF s) (ci : CI M s) : Ct l g mX5_ways [vr g 0] M (fun r M2 => r = wyF s ∧ CI M2 s ∧ QF M M2) := by
  refine ct_of (by decide) (Nat.le_of_ble_eq_true rfl) ?_
  intro x hl hg C hR
  subst hl
  subst hg
  refine X5_ways_0 C hR M ⟨_, c5_settle hw ci, ?_⟩
  rintro r A ⟨cA, sA, qA⟩
  refine ⟨_, c3_waysOfBest isP_76 hw sA.1, ?_⟩
  rintro r B ⟨rfl, rfl⟩
  exact ⟨rfl, cA, qA⟩
set_option maxRecDepth 10000 in
set_option maxHeartbeats 1000000 in
theorem c5_costOfTrial {l : Launch} {g : Gg} {M : Mm} {t : Sg} (hw : WF t) (hs : SE M 13 t) (hz : M 91 0 = 0) : Ct l g mX5_costOfTrial [vr g 0] M (fun r M2 => r = bst t ∧ M2 91 0 = 0 ∧ ∀ a, (a < 86 ∨ 96 ≤ a) → M2 a = M a) := by
  refine ct_of (by decide) (Nat.le_of_ble_eq_true rfl) ?_
  intro x hl hg C hR
  subst hl
  subst hg
  refine X5_costOfTrial_0 C hR M ⟨_, c3_solve isP_86 isS_13 hw hs hz, ?_⟩
  rintro r A ⟨pA, fA⟩
  refine ⟨_, c3_costFrom isP_86 hw pA (by decide) (by decide), ?_⟩
  rintro r B ⟨rfl, rfl⟩
  refine ⟨bst_pl hw, ?_, fA⟩
  have := (pA.1.2.2.2.2.2.2 0 (by omega) (by have := hw.2.2.2.2.2.2.1; omega)).2
  exact this
theorem ci_tr {M A B : Mm} {s : Sg} (ci : CI M s) (hA : ∀ a, (a < 13 ∨ 20 ≤ a) → A a = M a) (hB : ∀ a, (a < 86 ∨ 96 ≤ a) → B a = A a) (h91 : B 91 0 = 0) : CI B s ∧ QF M B := by
  have low : ∀ a, (a < 13 ∨ (20 ≤ a ∧ a < 86) ∨ 96 ≤ a) → B a = M a := fun a ha => by rw [hB a (by omega), hA a (by omega)]
  refine ⟨⟨ci.1.kept (fun a a1 a2 => low a (by omega)), ?_, ?_, fun q => ?_⟩, fun a ha => low a (by omega), fun i _ => by rw [low 0 (by omega)]⟩
  · have b := ci.2.1
    unfold Bas Z0 at b ⊢
    rw [low 81 (by decide), low (96 + 1) (by decide), low (96 + 2) (by decide), low (99 + 1) (by decide), low (99 + 2) (by decide), low (102 + 1) (by decide), low (102 + 2) (by decide)]
    exact ⟨b.1, h91, b.2.2⟩
  · rw [low 0 (by omega)]; exact ci.2.2.1
  · rw [low 0 (by omega)] at q
    exact (ci.2.2.2 q).kept (fun a ha => low a (by omega))
set_option maxRecDepth 10000 in
set_option maxHeartbeats 1000000 in
theorem c5_without {l : Launch} {g : Gg} {M : Mm} {s : Sg} {f : Int} (hw : WF s) (ci : CI M s) (hf : inR f) : Ct l g mX5_without [vr g 0, vi f] M (fun r M2 => (((0 ≤ f ∧ f < s 6) ∧ r = bst (rmS s f)) ∨ (¬ (0 ≤ f ∧ f < s 6) ∧ r = -1000000001)) ∧ CI M2 s ∧ QF M M2) := by
  refine ct_of (by decide) (Nat.le_of_ble_eq_true rfl) ?_
  intro x hl hg C hR
  subst hl
  subst hg
  have h6 := hw.2.2.2.2.2.2.1
  refine X5_without_0 C hR f M ⟨_, c4_has isS_6 h6 ci.1 hf, ?_⟩
  rintro r A ⟨rfl, rfl⟩
  refine ⟨b2_inR _, fun q => ⟨_, c4_becomes isS_13 isS_6 (by decide) h6 ci.1, ?_⟩, fun q => ⟨Or.inr ⟨of_decide_eq_false (b2_z q), rfl⟩, ci, QF.rf A⟩⟩
  have hq := of_decide_eq_true (b2_nz q)
  rintro r B ⟨fB, sB⟩
  refine ⟨_, c4_closeAt isS_13 sB hq h6.2, ?_⟩
  rintro r D ⟨sD, fD⟩
  have low : ∀ a, (a < 13 ∨ 20 ≤ a) → D a = A a := fun a ha => by rw [fD a (by omega), fB a (by omega)]
  refine ⟨_, c5_costOfTrial (WF_rm hw hq) sD (by rw [low 91 (by omega)]; exact ci.2.1.2.1), ?_⟩
  rintro r E ⟨rfl, e91, fE⟩
  exact ⟨Or.inl ⟨hq, rfl⟩, ci_tr ci low fE e91⟩
set_option maxRecDepth 10000 in
set_option maxHeartbeats 1000000 in
theorem c5_moved {l : Launch} {g : Gg} {M : Mm} {s : Sg} {f v : Int} (hw : WF s) (ci : CI M s) (hf : inR f) (hv : inR v) : Ct l g mX5_moved [vr g 0, vi f, vi v] M (fun r M2 => ((¬ (0 ≤ f ∧ f < s 6) ∧ r = -1000000001) ∨ ((0 ≤ f ∧ f < s 6) ∧ ¬ (0 ≤ v ∧ v ≤ 119) ∧ r = -1000000002) ∨ ((0 ≤ f ∧ f < s 6) ∧ (0 ≤ v ∧ v ≤ 119) ∧ r = bst (sUp s (7 + 4 * f + 2) v))) ∧ CI M2 s ∧ QF M M2) := by
  refine ct_of (by decide) (Nat.le_of_ble_eq_true rfl) ?_
  intro x hl hg C hR
  subst hl
  subst hg
  have h6 := hw.2.2.2.2.2.2.1
  have k2 : sLP (2 : Int).toNat = 0 ∧ sGP (2 : Int).toNat = 119 := by decide
  refine X5_moved_0 C hR f v M ⟨_, c4_has isS_6 h6 ci.1 hf, ?_⟩
  rintro r A ⟨rfl, rfl⟩
  refine ⟨b2_inR _, fun q => ⟨_, c5_partMayBe (by decide) hv, ?_⟩, fun q => ⟨Or.inl ⟨of_decide_eq_false (b2_z q), rfl⟩, ci, QF.rf A⟩⟩
  have hq := of_decide_eq_true (b2_nz q)
  rintro r A ⟨rfl, rfl⟩
  refine ⟨b2_inR _, fun q2 => ⟨_, c4_becomes isS_13 isS_6 (by decide) h6 ci.1, ?_⟩, fun q2 => ⟨Or.inr (Or.inl ⟨hq, by have := of_decide_eq_false (b2_z q2); omega, rfl⟩), ci, QF.rf A⟩⟩
  have hq2 := of_decide_eq_true (b2_nz q2)
  rintro r B ⟨fB, sB⟩
  refine ⟨⟨by omega, by omega⟩, fun D hD => ?_⟩
  have sD : SE D 13 (sUp s (7 + 4 * f + 2) v) := se_men sB hq hD
  have low : ∀ a, (a < 13 ∨ 20 ≤ a) → D a = A a := fun a ha => by rw [hD, mu_ne (by omega), fB a (by omega)]
  refine ⟨_, c5_costOfTrial (WF_men hw hq (by omega)) sD (by rw [low 91 (by omega)]; exact ci.2.1.2.1), ?_⟩
  rintro r E ⟨rfl, e91, fE⟩
  exact ⟨Or.inr (Or.inr ⟨hq, by omega, rfl⟩), ci_tr ci low fE e91⟩
set_option maxRecDepth 10000 in
set_option maxHeartbeats 1000000 in
theorem c5_from {l : Launch} {g : Gg} {M : Mm} {s : Sg} {ll f what : Int} (hw : WF s) (ci : CI M s) (hl : inR ll) (hf : inR f) (hr : inR what) : Ct l g mX5_from [vr g 0, vi ll, vi f, vi what] M (fun r M2 => r = frF s ll f what ∧ CI M2 s ∧ QF M M2) := by
  refine ct_of (by decide) (Nat.le_of_ble_eq_true rfl) ?_
  intro x hl hg C hR
  subst hl
  subst hg
  have fr : frF s ll f what = if ¬ (0 ≤ what ∧ what ≤ 1) then -1000000002 else if plB s ll f then (if what = 0 then (VV s ll f).1 else (VV s ll f).2.1) else -1 := rfl
  refine X5_from_0 C hR ll f what M ?_
  rw [fr]
  refine ⟨hr, fun q => ⟨by rw [if_pos (by omega)], ci, QF.rf M⟩, fun q => ⟨hr, fun q1 => ⟨_, c5_settle hw ci, ?_⟩, fun q1 => ⟨by rw [if_pos (by omega)], ci, QF.rf M⟩⟩⟩
  rintro r A ⟨cA, sA, qA⟩
  rw [if_neg (by omega)]
  refine ⟨hr, fun y => ⟨_, c3_pagesFrom isP_76 hw sA.1 hl hf, ?_⟩, fun y => ⟨_, c3_costFrom isP_76 hw sA.1 hl hf, ?_⟩⟩
  · rintro r B ⟨rfl, rfl⟩
    rw [if_neg y]
    exact ⟨rfl, cA, qA⟩
  · rintro r B ⟨rfl, rfl⟩
    rw [if_pos y]
    exact ⟨rfl, cA, qA⟩
set_option maxRecDepth 10000 in
set_option maxHeartbeats 1000000 in
theorem c5_hand {l : Launch} {g : Gg} {M : Mm} {n : Int} (hn : inR n) (hp : 0 ≤ M 0 11 ∧ M 0 11 ≤ 30) : Ct l g mX5_hand [vr g 0, vi n] M (fun r M2 => (¬ (0 ≤ n ∧ n ≤ 4) ∧ r = -1000000002 ∧ M2 = M) ∨ ((0 ≤ n ∧ n ≤ 4) ∧ M 0 11 = 30 ∧ r = -1000000004 ∧ M2 = M) ∨ ((0 ≤ n ∧ n ≤ 4) ∧ ¬ M 0 11 = 30 ∧ r = M 0 11 + 1 ∧ M2 = mu (mu M 3 (M 0 11) n) 0 11 (M 0 11 + 1))) := by
  refine ct_of (by decide) (Nat.le_of_ble_eq_true rfl) ?_
  intro x hl hg C hR
  subst hl
  subst hg
  refine X5_hand_0 C hR n M ⟨hn, fun q => Or.inl ⟨by omega, rfl, rfl⟩, fun q => ⟨hn, fun q1 => ⟨⟨by omega, by omega⟩, fun q2 => ⟨⟨by omega, by omega⟩, fun A hA B hB => ?_⟩, fun q2 => Or.inr (Or.inl ⟨by omega, by omega, rfl, rfl⟩)⟩, fun q1 => Or.inl ⟨by omega, rfl, rfl⟩⟩⟩
  have e : A 0 11 = M 0 11 := by rw [hA, mu_ne (by decide)]
  rw [e] at hB
  refine Or.inr (Or.inr ⟨by omega, by omega, by rw [hB, mu_at], by rw [hB, hA]⟩)
set_option maxRecDepth 10000 in
set_option maxHeartbeats 1000000 in
theorem c5_clear {l : Launch} {g : Gg} {M : Mm} : Ct l g mX5_clear [vr g 0] M (fun r M2 => r = M 0 11 ∧ M2 = mu M 0 11 0) := by
  refine ct_of (by decide) (Nat.le_of_ble_eq_true rfl) ?_
  intro x hl hg C hR
  subst hl
  subst hg
  exact X5_clear_0 C hR M (fun w hw A hA => ⟨hw, hA⟩)
set_option maxRecDepth 10000 in
set_option maxHeartbeats 1000000 in
theorem c5_judge {l : Launch} {g : Gg} {M : Mm} {s : Sg} {what : Int} {P : Nat} (hw : WF s) (ci : CI M s) (hP : M 0 11 = (P : Int)) (hP2 : P ≤ 30) (hok : HdOk (M 3) P) (hr : inR what) : Ct l g mX5_judge [vr g 0, vi what] M (fun r M2 => r = jdF s (M 3) P what ∧ CI M2 s ∧ QF M M2) := by
  refine ct_of (by decide) (Nat.le_of_ble_eq_true rfl) ?_
  intro x hl hg C hR
  subst hl
  subst hg
  refine X5_judge_0 C hR what M ?_
  unfold jdF
  refine ⟨hr, fun q => ⟨by rw [if_pos (by omega)], ci, QF.rf M⟩, fun q => ⟨hr, fun q1 => ⟨_, c5_settle hw ci, ?_⟩, fun q1 => ⟨by rw [if_pos (by omega)], ci, QF.rf M⟩⟩⟩
  rintro r A ⟨cA, sA, qA⟩
  rw [if_neg (by omega), qA.2 11 (by decide), hP]
  have e3 : A 3 = M 3 := qA.1 3 (by omega)
  refine ⟨_, c2_takeHanded isPl_102 isMe_77 hw sA.1.1 e3 hP2 hok cA.2.1.2.2.2.2, ?_⟩
  rintro r B ⟨fB, zB, rfl, hB⟩
  have cB' : CI B s := by
    refine ⟨cA.1.kept (fun a a1 a2 => fB a (by omega)), ?_, by rw [fB 0 (by omega)]; exact cA.2.2.1, fun y => ?_⟩
    · have b := cA.2.1
      unfold Bas Z0 at b ⊢
      unfold Z0 at zB
      rw [fB 81 (by decide), fB 91 (by decide), fB (96 + 1) (by decide), fB (96 + 2) (by decide), fB (99 + 1) (by decide), fB (99 + 2) (by decide)]
      exact ⟨b.1, b.2.1, b.2.2.1, b.2.2.2.1, zB⟩
    · exact sA.kept (fun a ha => fB a (by omega))
  have qB : QF M B := qA.tr ⟨fun a ha => fB a (by omega), fun i _ => by rw [fB 0 (by omega)]⟩
  have jb : inR (jr s (M 3) P) := by
    have := jw_nn s (M 3) P
    unfold jr
    split
    · split <;> exact ⟨by omega, by omega⟩
    · exact ⟨by omega, by omega⟩
  refine ⟨hr, fun y => ⟨jb, fun z => ⟨by rw [if_neg y, if_neg z], cB', qB⟩, fun z => ?_⟩, fun y => ⟨by rw [if_pos y], cB', qB⟩⟩
  obtain ⟨pl1, pn1⟩ := hB z
  have sB : StE B s := sA.kept (fun a ha => fB a (by omega))
  refine ⟨_, c2_cost isPl_102 isMe_77 hw sB.1.1 pl1 pn1, ?_⟩
  rintro r D ⟨rfl, rfl⟩
  exact ⟨by rw [if_neg y, if_pos z], cB', qB⟩
set_option maxRecDepth 10000 in
set_option maxHeartbeats 1000000 in
theorem c5_keep {l : Launch} {g : Gg} {M : Mm} {s : Sg} {i : Int} (hw : WF s) (ci : CI M s) (hi : inR i) : Ct l g mX5_keep [vr g 0, vi i] M (fun r M2 => (¬ (0 ≤ i ∧ i ≤ 1) ∧ r = -1000000001 ∧ M2 = M) ∨ ((0 ≤ i ∧ i ≤ 1) ∧ r = s 6 ∧ CI M2 s ∧ SE M2 (20 + 7 * i.toNat) s ∧ M2 2 i = 1 ∧ (∀ j, j ≠ i → M2 2 j = M 2 j) ∧ M2 4 1 = M 4 1 ∧ M2 4 2 = 0 ∧ (∀ a, (a = 3 ∨ (20 ≤ a ∧ a < 76 ∧ ¬ (20 + 7 * i.toNat ≤ a ∧ a < 20 + 7 * i.toNat + 7)) ∨ 105 ≤ a) → M2 a = M a) ∧ M2 0 11 = M 0 11)) := by
  refine ct_of (by decide) (Nat.le_of_ble_eq_true rfl) ?_
  intro x hl hg C hR
  subst hl
  subst hg
  have h6 := hw.2.2.2.2.2.2.1
  refine X5_keep_0 C hR i M ⟨hi, fun q => Or.inl ⟨by omega, rfl, rfl⟩, fun q => ⟨hi, fun q1 => ⟨⟨by omega, by omega⟩, _, c4_becomes (imgS ⟨by omega, by omega⟩) isS_6 (by omega) h6 ci.1, ?_⟩, fun q1 => Or.inl ⟨by omega, rfl, rfl⟩⟩⟩
  rintro r A ⟨fA, sA⟩
  refine ⟨⟨by omega, by omega⟩, fun B hB D hD => ?_⟩
  have low : ∀ a, a ≠ 2 → a ≠ 4 → (a < 20 + 7 * i.toNat ∨ 20 + 7 * i.toNat + 7 ≤ a) → D a = M a := fun a a2 a4 ha => by rw [hD, mu_ne a4, hB, mu_ne a2, fA a ha]
  have hc : CI D s := ci.kept (fun a ha => low a (by omega) (by omega) (by omega)) (by rw [low 0 (by omega) (by omega) (by omega)])
  refine Or.inr ⟨by omega, hc.1.2.1, hc, sA.kept (fun a a1 a2 => by rw [hD, mu_ne (by omega), hB, mu_ne (by omega)]), ?_, fun j hj => ?_, ?_, ?_, fun a ha => low a (by omega) (by omega) (by omega), by rw [low 0 (by omega) (by omega) (by omega)]⟩
  · rw [hD, mu_ne (by decide), hB, mu_at]
  · rw [hD, mu_ne (by decide), hB, mu_off hj, fA 2 (by omega)]
  · rw [hD, mu_off (by decide), hB, mu_ne (by decide), fA 4 (by omega)]
  · rw [hD, mu_at]
set_option maxRecDepth 10000 in
set_option maxHeartbeats 1000000 in
theorem c5_goBack {l : Launch} {g : Gg} {M : Mm} {s t : Sg} {i : Int} (ci : CI M s) (hi : inR i) (h01 : (0 ≤ i ∧ i ≤ 1) → M 2 i = 0 ∨ M 2 i = 1) (ht : (0 ≤ i ∧ i ≤ 1) → M 2 i = 1 → SE M (20 + 7 * i.toNat) t ∧ 0 ≤ t 6 ∧ t 6 ≤ 10) : Ct l g mX5_goBack [vr g 0, vi i] M (fun r M2 => (¬ (0 ≤ i ∧ i ≤ 1) ∧ r = -1000000001 ∧ M2 = M) ∨ ((0 ≤ i ∧ i ≤ 1) ∧ M 2 i = 0 ∧ r = -1000000003 ∧ M2 = M) ∨ ((0 ≤ i ∧ i ≤ 1) ∧ M 2 i = 1 ∧ r = t 6 ∧ CI M2 t ∧ M2 4 1 = M 4 1 ∧ M2 4 2 = 0 ∧ (∀ a, ((1 ≤ a ∧ a < 4) ∨ (20 ≤ a ∧ a < 76) ∨ 105 ≤ a) → M2 a = M a) ∧ M2 0 11 = M 0 11 ∧ M2 0 12 = 1)) := by
  refine ct_of (by decide) (Nat.le_of_ble_eq_true rfl) ?_
  intro x hl hg C hR
  subst hl
  subst hg
  refine X5_goBack_0 C hR i M ⟨hi, fun q => Or.inl ⟨by omega, rfl, rfl⟩, fun q => ⟨hi, fun q1 => ⟨⟨by omega, by omega⟩, ?_⟩, fun q1 => Or.inl ⟨by omega, rfl, rfl⟩⟩⟩
  have hr2 : inR (M 2 i) := by
    rcases h01 ⟨by omega, by omega⟩ with y | y <;> rw [y] <;> decide
  refine ⟨hr2, fun q2 => ?_, fun q2 => Or.inr (Or.inl ⟨by omega, q2, rfl, rfl⟩)⟩
  have e1 : M 2 i = 1 := by
    rcases h01 ⟨by omega, by omega⟩ with y | y
    · exact absurd y q2
    · exact y
  obtain ⟨hs, h6⟩ := ht ⟨by omega, by omega⟩ e1
  refine ⟨⟨by omega, by omega⟩, _, c4_becomes isS_6 (imgS ⟨by omega, by omega⟩) (by omega) h6 hs, ?_⟩
  rintro r A ⟨fA, sA⟩ B hB D hD
  have low : ∀ a, a ≠ 0 → a ≠ 4 → (a < 6 ∨ 13 ≤ a) → D a = M a := fun a a0 a4 ha => by rw [hD, mu_ne a0, hB, mu_ne a4, fA a (by omega)]
  have sD : SE D 6 t := sA.kept (fun a a1 a2 => by rw [hD, mu_ne (by omega), hB, mu_ne (by omega)])
  have s1 : D 0 12 = 1 := by rw [hD, mu_at]
  refine Or.inr (Or.inr ⟨by omega, e1, sD.2.1, ⟨sD, ci.2.1.kept (fun a a1 a2 => low a (by omega) (by omega) (by omega)), Or.inr s1, fun y => by rw [s1] at y; exact absurd y (by decide)⟩, ?_, ?_, fun a ha => low a (by omega) (by omega) (by omega), ?_, s1⟩)
  · rw [hD, mu_ne (by decide), hB, mu_off (by decide), fA 4 (by omega)]
  · rw [hD, mu_ne (by decide), hB, mu_at]
  · rw [hD, mu_off (by decide), hB, mu_ne (by decide), fA 0 (by omega)]
