/-! ===== plans by hand, judged: the reference ===== -/
abbrev cH (h : Int → Int) : Cf := fun p _ _ => h (p : Int)
def jw (s : Sg) (h : Int → Int) : Nat → Int
  | 0 => 0
  | p + 1 => if jw s h p = 0 then (if pgB s (pl s (cH h) p) (pf s (cH h) p) (h (p : Int)) = true then 0 else (p : Int) + 1) else jw s h p
def jr (s : Sg) (h : Int → Int) (P : Nat) : Int := if jw s h P = 0 then (if pl s (cH h) P = s 0 ∧ pf s (cH h) P = s 6 then 0 else (P : Int) + 1) else jw s h P
def jdF (s : Sg) (h : Int → Int) (P : Nat) (what : Int) : Int := if ¬ (0 ≤ what ∧ what ≤ 1) then -1000000002 else if what = 0 then jr s h P else if jr s h P = 0 then paS s (cH h) P else -1
theorem jw_nn (s : Sg) (h : Int → Int) : ∀ P : Nat, 0 ≤ jw s h P ∧ jw s h P ≤ (P : Int)
  | 0 => by simp [jw]
  | P + 1 => by
    have := jw_nn s h P
    simp only [jw]
    split
    · split <;> omega
    · omega
theorem jw_pre {s : Sg} (hw : WF s) {h : Int → Int} : ∀ {P : Nat}, (∀ p : Nat, p < P → 0 ≤ h p ∧ h p ≤ 4) → jw s h P = 0 → Pre s (cH h) P ∧ ∀ p, p < P → pgB s (pl s (cH h) p) (pf s (cH h) p) (h (p : Int)) = true
  | 0, _, _ => ⟨fun p hp => absurd hp (by omega), fun p hp => absurd hp (by omega)⟩
  | P + 1, hh, hj => by
    simp only [jw] at hj
    by_cases q : jw s h P = 0
    · rw [if_pos q] at hj
      by_cases z : pgB s (pl s (cH h) P) (pf s (cH h) P) (h (P : Int)) = true
      · obtain ⟨i1, i2⟩ := jw_pre hw (P := P) (fun p hp => hh p (by omega)) q
        have bd := pre_bd hw i1
        have hP := hh P (by omega)
        have gs := gs_of hw (ll := pl s (cH h) P) (f := pf s (cH h) P) ⟨by omega, by omega⟩ (by omega) (n := h (P : Int)) ⟨by omega, by omega⟩ z
        refine ⟨fun p hp => ?_, fun p hp => ?_⟩
        · rcases Nat.lt_or_ge p P with w | w
          · exact i1 p w
          · have : p = P := by omega
            subst this
            refine ⟨gs, fun e => ?_⟩
            rw [e.1, e.2, pg_end hw ⟨by omega, by omega⟩] at z
            cases z
        · rcases Nat.lt_or_ge p P with w | w
          · exact i2 p w
          · have : p = P := by omega
            subst this
            exact z
      · rw [if_neg z] at hj
        omega
    · rw [if_neg q] at hj
      exact absurd hj q
theorem jw_stop {s : Sg} {h : Int → Int} {p : Nat} : ∀ {P : Nat}, p < P → jw s h p = 0 → ¬ pgB s (pl s (cH h) p) (pf s (cH h) p) (h (p : Int)) = true → jw s h P = (p : Int) + 1
  | 0, hp, _, _ => absurd hp (by omega)
  | P + 1, hp, h1, h2 => by
    simp only [jw]
    rcases Nat.lt_or_ge p P with w | w
    · have := jw_stop w h1 h2
      rw [if_neg (by omega), this]
    · have : p = P := by omega
      subst this
      rw [if_pos h1, if_neg h2]
def HdOk (h : Int → Int) (P : Nat) : Prop := ∀ p : Nat, p < P → 0 ≤ h p ∧ h p ≤ 4
set_option maxRecDepth 10000 in
set_option maxHeartbeats 1000000 in
theorem c6_judge_l {x : Xx} {post : Int → Mm → Prop} (C : Cx x mX6_judge) (hR : Rt x mX6_judge post) {M : Mm} {s : Sg} (hw : WF s) (hs : M 106 = s) {h : Int → Int} (hh : M 111 = h) {P : Nat} (hP : M 105 6 = (P : Int)) (hP2 : P ≤ 30) (hok : HdOk h P) {what : Int} (hwh : what = 0 ∨ what = 1) (hp : ∀ r M2, FrP M M2 → r = (if what = 0 then jr s h P else if jr s h P = 0 then paS s (cH h) P else -1) → post r M2) : ∀ (d p : Nat), p + d = P → jw s h p = 0 → ∀ M2, FrP M M2 → PlM s (cH h) M2 p → Gx x 6 24 [(0, vr (xg x) 105), (1, vi what), (2, vi (pl s (cH h) p)), (3, vi (pf s (cH h) p)), (4, vi (p : Int))] [] M2 := by
  have h0 := hw.1
  have h6 := hw.2.2.2.2.2.2.1
  intro d
  induction d with
  | zero =>
    intro p hpd hj M2 f2 k2
    have ep : p = P := by omega
    subst ep
    have es : M2 106 = s := f2.s.trans hs
    have e6 : M2 105 6 = (p : Int) := (f2.2 6 (by decide)).trans hP
    have pre := (jw_pre hw hok hj).1
    have bd := pre_bd hw pre
    have last : ∀ t : Int, (t = 0 ∨ t = 1) → (t = 1 ↔ (pl s (cH h) p = s 0 ∧ pf s (cH h) p = s 6)) → Gx x 6 158 [(0, vr (xg x) 105), (1, vi what)] [vi t] M2 := by
      intro t ht he
      refine X6_judge_158 C hR what t M2 ⟨⟨by omega, by omega⟩, fun q => ⟨⟨by omega, by omega⟩, fun q2 => hp _ _ f2 ?_, fun q2 => ⟨_, c6_paidOfAll hw es pre k2, ?_⟩⟩, fun q => ⟨⟨by omega, by omega⟩, fun q2 => hp _ _ f2 ?_, fun q2 => hp _ _ f2 ?_⟩⟩
      · have hne : ¬ (pl s (cH h) p = s 0 ∧ pf s (cH h) p = s 6) := fun z => by have := he.mpr z; omega
        rw [if_neg q]
        unfold jr
        rw [if_pos hj, if_neg hne, if_neg (by omega)]
      · rintro r M3 ⟨rfl, rfl⟩
        refine hp _ _ f2 ?_
        rw [if_neg q]
        unfold jr
        rw [if_pos hj, if_pos (he.mp (by omega)), if_pos rfl]
      · have hne : ¬ (pl s (cH h) p = s 0 ∧ pf s (cH h) p = s 6) := fun z => by have := he.mpr z; omega
        rw [if_pos q, e6]
        unfold jr
        rw [if_pos hj, if_neg hne]
      · rw [if_pos q]
        unfold jr
        rw [if_pos hj, if_pos (he.mp (by omega))]
    refine X6_judge_24 C hR what _ _ _ M2 ⟨⟨⟨by omega, by omega⟩, by rw [e6]; omega, by rw [e6]; omega⟩, fun _ => ?_, fun q => absurd q (by rw [e6]; omega)⟩
    rw [es]
    exact ⟨⟨⟨by omega, by omega⟩, by omega, by omega⟩, fun q => last 0 (Or.inl rfl) (by omega), fun q => ⟨⟨⟨by omega, by omega⟩, by omega, by omega⟩, fun q2 => last 0 (Or.inl rfl) (by omega), fun q2 => last 1 (Or.inr rfl) ⟨fun _ => ⟨q, q2⟩, fun _ => rfl⟩⟩⟩
  | succ d ih =>
    intro p hpd hj M2 f2 k2
    have es : M2 106 = s := f2.s.trans hs
    have eh : M2 111 = h := (f2.1 111 (by decide) (by decide) (by decide) (by decide) (by decide) (by decide) (by decide)).trans hh
    have e6 : M2 105 6 = (P : Int) := (f2.2 6 (by decide)).trans hP
    have pre := (jw_pre hw (fun q hq => hok q (by omega)) hj).1
    have bd := pre_bd hw pre
    have hn := hok p (by omega)
    have bad : ¬ pgB s (pl s (cH h) p) (pf s (cH h) p) (h (p : Int)) = true → ∀ M3, FrP M M3 → ∀ r, r = (if what = 0 then (p : Int) + 1 else -1) → post r M3 := by
      intro hb M3 f3 r hr
      have e := jw_stop (P := P) (by omega) hj hb
      have ejr : jr s h P = (p : Int) + 1 := by
        unfold jr
        rw [e, if_neg (show ¬ ((p : Int) + 1 = 0) by omega)]
      refine hp r M3 f3 ?_
      rw [hr, ejr, if_neg (show ¬ ((p : Int) + 1 = 0) by omega)]
    have mid : ∀ t : Int, (t = 0 ∨ t = 1) → (t = 1 → (pl s (cH h) p = s 0 ∧ pf s (cH h) p = s 6)) → Gx x 6 59 [(0, vr (xg x) 105), (1, vi what), (2, vi (pl s (cH h) p)), (3, vi (pf s (cH h) p)), (4, vi (p : Int))] [vi t] M2 := by
      intro t ht he
      refine X6_judge_59 C hR what _ _ _ t M2 ⟨⟨by omega, by omega⟩, fun q => ?_, fun q => ⟨⟨by omega, by omega⟩, ?_⟩⟩
      · have e := he (by omega)
        have hb : ¬ pgB s (pl s (cH h) p) (pf s (cH h) p) (h (p : Int)) = true := by
          rw [e.1, e.2, pg_end hw ⟨by omega, by omega⟩]
          decide
        exact ⟨⟨by omega, by omega⟩, fun q2 => bad hb M2 f2 _ (by rw [if_neg q2]), fun q2 => bad hb M2 f2 _ (by rw [if_pos q2])⟩
      · rw [eh]
        refine ⟨_, c6_isPage (by rw [es]; exact hw) (by rw [es]; exact ⟨by omega, by omega⟩) (by rw [es]; exact ⟨by omega, by omega⟩) ⟨by omega, by omega⟩, ?_⟩
        rintro r M3 ⟨rfl, rfl⟩
        rw [es]
        refine ⟨b2_inR _, fun q2 => ⟨⟨by omega, by omega⟩, ?_⟩, fun q2 => ?_⟩
        · have hpg := b2_nz q2
          have gs := gs_of hw (ll := pl s (cH h) p) (f := pf s (cH h) p) ⟨by omega, by omega⟩ (by omega) (n := h (p : Int)) ⟨by omega, by omega⟩ hpg
          rw [eh]
          refine ⟨_, c6_addPage (p := (p : Int)) (by rw [es]; exact hw) ⟨by omega, by omega⟩ (by omega) (by rw [es]; exact ⟨hn.1, by omega, gs.2.1⟩) k2.1 ⟨by omega, by omega⟩, ?_⟩
          rintro r M4 rfl
          rw [es]
          have e1 : adP M3 (p : Int) (h (p : Int)) (lb s (pl s (cH h) p) (pf s (cH h) p) (h (p : Int))) (pf s (cH h) p + h (p : Int)) = adP M3 p (pn s (cH h) p) (pl s (cH h) (p + 1)) (pf s (cH h) (p + 1)) := rfl
          rw [e1]
          have ha := adP_pl k2
          have fa := f2.tr (adP_fr M3 p (pn s (cH h) p) (pl s (cH h) (p + 1)) (pf s (cH h) (p + 1)))
          refine ⟨⟨by omega, by omega⟩, fun w1 hw1 => ⟨⟨by omega, by omega⟩, fun w2 hw2 => ?_⟩⟩
          rw [(ha.2 p (by omega)).2.1] at hw1
          have eh2 : (adP M3 p (pn s (cH h) p) (pl s (cH h) (p + 1)) (pf s (cH h) (p + 1))) 111 = h := (fa.1 111 (by decide) (by decide) (by decide) (by decide) (by decide) (by decide) (by decide)).trans hh
          rw [eh2] at hw2
          rw [hw1, hw2]
          refine ih (p + 1) (by omega) ?_ _ fa ha
          simp only [jw]
          rw [if_pos hj, if_pos hpg]
        · have hb : ¬ pgB s (pl s (cH h) p) (pf s (cH h) p) (h (p : Int)) = true := by rw [b2_z q2]; decide
          exact ⟨⟨by omega, by omega⟩, fun q3 => bad hb _ f2 _ (by rw [if_neg q3]), fun q3 => bad hb _ f2 _ (by rw [if_pos q3])⟩
    refine X6_judge_24 C hR what _ _ _ M2 ⟨⟨⟨by omega, by omega⟩, by rw [e6]; omega, by rw [e6]; omega⟩, fun q => absurd q (by rw [e6]; omega), fun _ => ?_⟩
    rw [es]
    exact ⟨⟨⟨by omega, by omega⟩, by omega, by omega⟩, fun q => mid 0 (Or.inl rfl) (fun z => absurd z (by decide)), fun q => ⟨⟨⟨by omega, by omega⟩, by omega, by omega⟩, fun q2 => mid 0 (Or.inl rfl) (fun z => absurd z (by decide)), fun q2 => mid 1 (Or.inr rfl) (fun _ => ⟨q, q2⟩)⟩⟩
set_option maxRecDepth 10000 in
set_option maxHeartbeats 1000000 in
theorem c6_judge {l : Launch} {g : Gg} {M : Mm} {what : Int} {P : Nat} (hw : WF (M 106)) (hP : M 105 6 = (P : Int)) (hP2 : P ≤ 30) (hok : HdOk (M 111) P) (hr : inR what) : Ct l g mX6_judge [vr g 105, vi what] M (fun r M2 => Sm M M2 ∧ r = jdF (M 106) (M 111) P what) := by
  refine ct_of (by decide) (Nat.le_of_ble_eq_true rfl) ?_
  intro x hl hg C hR
  subst hl
  subst hg
  refine X6_judge_0 C hR what M ⟨_, c6_in hr (by decide) (by decide), ?_⟩
  rintro r M1 ⟨rfl, rfl⟩
  refine ⟨b2_inR _, fun q A hA => ?_, fun q => ⟨Sm.rf _, ?_⟩⟩
  rotate_left
  · have hq := b2_z q
    rw [decide_eq_false_iff_not] at hq
    unfold jdF
    rw [if_pos hq]
  have hq := b2_nz q
  rw [decide_eq_true_eq] at hq
  have n1 : ¬ ¬ (0 ≤ what ∧ what ≤ 1) := fun z => z hq
  have fA : FrP M1 A := ⟨fun a a1 _ _ _ _ _ _ => by rw [hA, mu_ne a1], fun i hi => by rw [hA, mu_off hi]⟩
  refine c6_judge_l C hR (M := A) hw fA.s (by rw [hA, mu_ne (by decide)]) (P := P) ((fA.2 6 (by decide)).trans hP) hP2 hok (by omega) ?_ P 0 (by omega) rfl A (FrP.rf A) ⟨by rw [hA, mu_at]; rfl, fun p hp => absurd hp (by omega)⟩
  intro r M2 f2 h2
  refine ⟨(fA.tr f2).Sm, ?_⟩
  rw [h2]
  unfold jdF
  rw [if_neg n1]
