/-! ===== the class: its own methods; what it keeps ===== -/
def Bas (M : Mm) : Prop := M 81 0 = 0 ∧ M 91 0 = 0 ∧ Z0 M 96 ∧ Z0 M 99 ∧ Z0 M 102
def StE (M : Mm) (s : Sg) : Prop := PlE M 76 s ∧ ((ckS s = -1 ∧ (∃ P, Plan s (cB s) P ∧ PnE M 96 s (cB s) P) ∧ ∃ P, Plan s (cG s) P ∧ PnE M 99 s (cG s) P) ∨ (¬ ckS s = -1 ∧ M 96 2 = -1 ∧ M 99 2 = -1))
def CI (M : Mm) (s : Sg) : Prop := SE M 6 s ∧ Bas M ∧ (M 0 12 = 0 ∨ M 0 12 = 1) ∧ (M 0 12 = 0 → StE M s)
def QF (M M2 : Mm) : Prop := (∀ a, ((1 ≤ a ∧ a < 13) ∨ (20 ≤ a ∧ a < 76) ∨ 105 ≤ a) → M2 a = M a) ∧ ∀ i : Int, i ≠ 12 → M2 0 i = M 0 i
theorem QF.rf (M : Mm) : QF M M := ⟨fun _ _ => rfl, fun _ _ => rfl⟩
theorem QF.tr {A B D : Mm} (h : QF A B) (j : QF B D) : QF A D := ⟨fun a ha => (j.1 a ha).trans (h.1 a ha), fun i hi => (j.2 i hi).trans (h.2 i hi)⟩
theorem Bas.kept {M M2 : Mm} (h : Bas M) (e : ∀ a, 76 ≤ a → a < 105 → M2 a = M a) : Bas M2 := by
  unfold Bas Z0 at h ⊢
  rw [e 81 (by decide) (by decide), e 91 (by decide) (by decide), e (96 + 1) (by decide) (by decide), e (96 + 2) (by decide) (by decide), e (99 + 1) (by decide) (by decide), e (99 + 2) (by decide) (by decide), e (102 + 1) (by decide) (by decide), e (102 + 2) (by decide) (by decide)]
  exact h
theorem StE.kept {M M2 : Mm} {s : Sg} (h : StE M s) (e : ∀ a, (76 ≤ a ∧ a < 86) ∨ (96 ≤ a ∧ a < 102) → M2 a = M a) : StE M2 s := by
  refine ⟨h.1.kept (fun a a1 a2 => e a (by omega)), ?_⟩
  rcases h.2 with ⟨q, ⟨P, p1, p2⟩, ⟨Q, q1, q2⟩⟩ | ⟨q, q1, q2⟩
  · exact Or.inl ⟨q, ⟨P, p1, p2.kept (fun a a1 a2 => e a (by omega))⟩, ⟨Q, q1, q2.kept (fun a a1 a2 => e a (by omega))⟩⟩
  · refine Or.inr ⟨q, ?_, ?_⟩
    · rw [e 96 (by omega)]; exact q1
    · rw [e 99 (by omega)]; exact q2
theorem CI.kept {M M2 : Mm} {s : Sg} (h : CI M s) (e : ∀ a, (6 ≤ a ∧ a < 13) ∨ (76 ≤ a ∧ a < 105) → M2 a = M a) (e0 : M2 0 12 = M 0 12) : CI M2 s := by
  refine ⟨h.1.kept (fun a a1 a2 => e a (by omega)), h.2.1.kept (fun a a1 a2 => e a (by omega)), by rw [e0]; exact h.2.2.1, fun q => ?_⟩
  rw [e0] at q
  exact (h.2.2.2 q).kept (fun a ha => e a (by omega))
theorem CI.same {M M2 : Mm} {s : Sg} (h : CI M s) (e : ∀ a, a < 105 → M2 a = M a) : CI M2 s := h.kept (fun a ha => e a (by omega)) (by rw [e 0 (by omega)])
set_option maxRecDepth 10000 in
set_option maxHeartbeats 1000000 in
theorem c5_settle {l : Launch} {g : Gg} {M : Mm} {s : Sg} (hw : WF s) (ci : CI M s) : Ct l g mX5_settle [vr g 0] M (fun r M2 => CI M2 s ∧ StE M2 s ∧ QF M M2) := by
  refine ct_of (by decide) (Nat.le_of_ble_eq_true rfl) ?_
  intro x hl hg C hR
  subst hl
  subst hg
  obtain ⟨sE, bs, s01, st⟩ := ci
  refine X5_settle_0 C hR M ⟨by rcases s01 with q | q <;> rw [q] <;> decide, fun q => ⟨_, c3_solve isP_76 isS_6 hw sE bs.1, ?_⟩, fun q => ⟨⟨sE, bs, s01, st⟩, st q, QF.rf M⟩⟩
  rintro r A ⟨pA, fA⟩
  have zA : Z0 A 96 ∧ Z0 A 99 ∧ Z0 A 102 := by
    unfold Z0
    rw [fA (96 + 1) (by omega), fA (96 + 2) (by omega), fA (99 + 1) (by omega), fA (99 + 2) (by omega), fA (102 + 1) (by omega), fA (102 + 2) (by omega)]
    exact bs.2.2
  refine ⟨_, c2_follow isPl_96 isP_76 hw pA zA.1, ?_⟩
  rintro r B ⟨fB, zB, hB⟩
  have pB : PlE B 76 s := pA.kept (fun a a1 a2 => fB a (by omega))
  have z9 : Z0 B 99 := by
    unfold Z0
    rw [fB (99 + 1) (by omega), fB (99 + 2) (by omega)]
    exact zA.2.1
  refine ⟨_, c2_takeMost isPl_99 isMe_77 hw pB.1 z9, ?_⟩
  rintro r D ⟨fD, zD, hD⟩ E hE
  have e1 : ∀ a, a ≠ 0 → E a = D a := fun a ha => by rw [hE, mu_ne ha]
  have sS : StE E s := by
    refine ⟨pB.kept (fun a a1 a2 => by rw [e1 a (by omega), fD a (by omega)]), ?_⟩
    rcases hB with ⟨q1, P, p1, p2⟩ | ⟨q1, p1⟩
    · rcases hD with ⟨-, Q, r1, r2⟩ | ⟨q2, -⟩
      · exact Or.inl ⟨q1, ⟨P, p1, p2.kept (fun a a1 a2 => by rw [e1 a (by omega), fD a (by omega)])⟩, ⟨Q, r1, r2.kept (fun a a1 a2 => by rw [e1 a (by omega)])⟩⟩
      · exact absurd q1 q2
    · rcases hD with ⟨q2, -⟩ | ⟨-, r1⟩
      · exact absurd q2 q1
      · refine Or.inr ⟨q1, ?_, ?_⟩
        · rw [e1 96 (by omega), fD 96 (by omega)]; exact p1
        · rw [e1 99 (by omega)]; exact r1
  have low : ∀ a, a ≠ 0 → (a < 76 ∨ (86 ≤ a ∧ a < 96) ∨ 102 ≤ a) → E a = M a := by
    intro a a0 ha
    rw [e1 a a0, fD a (by omega), fB a (by omega), fA a (by omega)]
  refine ⟨⟨sE.kept (fun a a1 a2 => low a (by omega) (by omega)), ⟨?_, ?_, ?_, ?_, ?_⟩, Or.inl (by rw [hE, mu_at]), fun _ => sS⟩, sS, fun a ha => low a (by omega) (by omega), fun i hi => ?_⟩
  · have := (sS.1.1.2.2.2.2.2.2 0 (by omega) (by have := hw.2.2.2.2.2.2.1; omega)).2
    exact this
  · rw [low 91 (by omega) (by omega)]; exact bs.2.1
  · unfold Z0
    rw [e1 (96 + 1) (by omega), e1 (96 + 2) (by omega), fD (96 + 1) (by omega), fD (96 + 2) (by omega)]
    exact zB
  · unfold Z0
    rw [e1 (99 + 1) (by omega), e1 (99 + 2) (by omega)]
    exact zD
  · unfold Z0
    rw [low (102 + 1) (by omega) (by omega), low (102 + 2) (by omega) (by omega)]
    exact bs.2.2.2.2
  · rw [hE, mu_off hi, fD 0 (by omega), fB 0 (by omega), fA 0 (by omega)]
def AhP (M M2 : Mm) (s : Sg) : Prop := SE M2 (34 + 7 * (M 4 1).toNat) s ∧ M2 4 1 = (M 4 1 + 1) % 6 ∧ M2 4 2 = (if M 4 2 = 6 then 6 else M 4 2 + 1) ∧ (∀ a, a ≠ 0 → a ≠ 4 → (a < 34 + 7 * (M 4 1).toNat ∨ 34 + 7 * (M 4 1).toNat + 7 ≤ a) → M2 a = M a) ∧ M2 0 12 = 1 ∧ ∀ i : Int, i ≠ 12 → M2 0 i = M 0 i
set_option maxRecDepth 10000 in
set_option maxHeartbeats 1000000 in
theorem c5_aheadOfChange {l : Launch} {g : Gg} {M : Mm} {s : Sg} (h6 : 0 ≤ s 6 ∧ s 6 ≤ 10) (hs : SE M 6 s) (he : 0 ≤ M 4 1 ∧ M 4 1 < 6) (hz : 0 ≤ M 4 2 ∧ M 4 2 ≤ 6) : Ct l g mX5_aheadOfChange [vr g 0] M (fun r M2 => AhP M M2 s) := by
  refine ct_of (by decide) (Nat.le_of_ble_eq_true rfl) ?_
  intro x hl hg C hR
  subst hl
  subst hg
  refine X5_aheadOfChange_0 C hR M ⟨_, c0_remember h6 hs he hz, ?_⟩
  rintro r A ⟨a1, a2, a3, a4⟩ B hB
  have e1 : ∀ a, a ≠ 0 → B a = A a := fun a ha => by rw [hB, mu_ne ha]
  refine ⟨a1.kept (fun a h1 h2 => e1 a (by omega)), by rw [e1 4 (by decide)]; exact a2, by rw [e1 4 (by decide)]; exact a3, fun a h0 h4 hr => by rw [e1 a h0]; exact a4 a h4 hr, by rw [hB, mu_at], fun i hi => by rw [hB, mu_off hi, a4 0 (by decide) (by omega)]⟩
def CgP (M M2 : Mm) (s t : Sg) : Prop := CI M2 t ∧ SE M2 (34 + 7 * (M 4 1).toNat) s ∧ M2 4 1 = (M 4 1 + 1) % 6 ∧ M2 4 2 = (if M 4 2 = 6 then 6 else M 4 2 + 1) ∧ (∀ a, ((1 ≤ a ∧ a < 4) ∨ (20 ≤ a ∧ a < 76 ∧ ¬ (34 + 7 * (M 4 1).toNat ≤ a ∧ a < 34 + 7 * (M 4 1).toNat + 7)) ∨ 105 ≤ a) → M2 a = M a) ∧ M2 0 11 = M 0 11
theorem cgp_of {M A B : Mm} {s t : Sg} (ci : CI M s) (he : 0 ≤ M 4 1 ∧ M 4 1 < 6) (ah : AhP M A s) (hB : ∀ a, (a < 6 ∨ 13 ≤ a) → B a = A a) (hS : SE B 6 t) : CgP M B s t := by
  obtain ⟨a1, a2, a3, a4, a5, a6⟩ := ah
  have b0 : B 0 = A 0 := hB 0 (by omega)
  have b4 : B 4 = A 4 := hB 4 (by omega)
  have s1 : B 0 12 = 1 := by rw [b0]; exact a5
  refine ⟨⟨hS, ci.2.1.kept (fun a h1 h2 => by rw [hB a (by omega), a4 a (by omega) (by omega) (by omega)]), Or.inr s1, fun q => by rw [s1] at q; exact absurd q (by decide)⟩, a1.kept (fun a h1 h2 => hB a (by omega)), by rw [b4]; exact a2, by rw [b4]; exact a3, fun a ha => ?_, by rw [b0]; exact a6 11 (by decide)⟩
  rw [hB a (by omega), a4 a (by omega) (by omega) (by omega)]
theorem ah_se {M A : Mm} {s : Sg} (hs : SE M 6 s) (ah : AhP M A s) : SE A 6 s := hs.kept (fun a h1 h2 => ah.2.2.2.1 a (by omega) (by omega) (by omega))
set_option maxRecDepth 10000 in
set_option maxHeartbeats 1000000 in
theorem c5_layout {l : Launch} {g : Gg} {M : Mm} {s : Sg} {what v : Int} (hw : WF s) (ci : CI M s) (he : 0 ≤ M 4 1 ∧ M 4 1 < 6) (hz : 0 ≤ M 4 2 ∧ M 4 2 ≤ 6) (h1 : inR what) (h2 : inR v) : Ct l g mX5_layout [vr g 0, vi what, vi v] M (fun r M2 => (bdB s what v = true ∧ r = s what ∧ CgP M M2 s (lyS s what v)) ∨ (bdB s what v = false ∧ r = -1000000002 ∧ M2 = M)) := by
  refine ct_of (by decide) (Nat.le_of_ble_eq_true rfl) ?_
  intro x hl hg C hR
  subst hl
  subst hg
  have h6 := hw.2.2.2.2.2.2.1
  refine X5_layout_0 C hR what v M ⟨_, c4_boundMayBe isS_6 hw ci.1 h1 h2, ?_⟩
  rintro r A ⟨rfl, rfl⟩
  refine ⟨b2_inR _, fun q => ?_, fun q => Or.inr ⟨b2_z q, rfl, rfl⟩⟩
  have hb := b2_nz q
  have hwh : 0 ≤ what ∧ what ≤ 5 := by
    unfold bdB at hb
    rw [Bool.and_eq_true, decide_eq_true_eq] at hb
    exact hb.1
  have wf2 := WF_ly hw hb
  have e1 := ci.1.1 what hwh.1 (by omega)
  refine ⟨⟨by omega, by omega⟩, fun w24 h24 => ⟨_, c5_aheadOfChange h6 ci.1 he hz, ?_⟩⟩
  rintro r B hB
  have sB := ah_se ci.1 hB
  refine ⟨⟨by omega, by omega⟩, fun D hD => ?_⟩
  have dq : ∀ i : Int, 0 ≤ i → i < 6 → D 7 i = sUp s what v i := by
    intro i i0 i1
    rw [hD]
    by_cases e : i = what
    · subst e
      rw [mu_at, sUp_at]
    · rw [mu_off e, sUp_ne e]
      exact sB.1 i i0 i1
  rw [dq 3 (by omega) (by omega), dq 1 (by omega) (by omega)]
  have r3 : inR (sUp s what v 3) ∧ inR (sUp s what v 1) := by
    have k1 := hw.2.1
    have k3 := hw.2.2.2.1
    unfold sUp
    refine ⟨?_, ?_⟩ <;> split <;> first | exact h2 | exact ⟨by omega, by omega⟩
  refine ⟨r3, fun E hE => Or.inl ⟨hb, by rw [h24]; exact e1, cgp_of ci he hB (fun a ha => by rw [hE, mu_ne (by omega), hD, mu_ne (by omega)]) ⟨fun i i0 i1 => ?_, ?_, fun p f hp f0 f1 => ?_⟩⟩⟩
  · show E 7 i = _
    rw [hE]
    unfold lyS
    by_cases e : i = 3
    · subst e
      rw [mu_at, sUp_at]
      grind
    · rw [mu_off e, sUp_ne e]
      exact dq i i0 i1
  · rw [hE, mu_ne (by decide), hD, mu_ne (by decide), sB.2.1]
    unfold lyS
    rw [sUp_ne (by decide), sUp_ne (by omega)]
  · have e6 : lyS s what v 6 = s 6 := by
      unfold lyS
      rw [sUp_ne (by decide), sUp_ne (by omega)]
    rw [e6] at f1
    rw [hE, mu_ne (by omega), hD, mu_ne (by omega), sB.2.2 p f hp f0 f1]
    unfold lyS
    rw [sUp_ne (by omega), sUp_ne (by omega)]
set_option maxRecDepth 10000 in
set_option maxHeartbeats 1000000 in
theorem c5_partMayBe {l : Launch} {g : Gg} {M : Mm} {p v : Int} (hp : 0 ≤ p ∧ p < 4) (hv : inR v) : Ct l g mX5_partMayBe [vi p, vi v] M (fun r M2 => r = b2 (decide (sLP p.toNat ≤ v ∧ v ≤ sGP p.toNat)) ∧ M2 = M) := by
  refine ct_of (by decide) (Nat.le_of_ble_eq_true rfl) ?_
  intro x hl hg C hR
  subst hl
  subst hg
  have tab : inR (sLP p.toNat) ∧ inR (sGP p.toNat) := by
    rcases (show p = 0 ∨ p = 1 ∨ p = 2 ∨ p = 3 by omega) with rfl | rfl | rfl | rfl <;> decide
  refine X5_partMayBe_0 C hR p v M ⟨hp, ⟨hv, tab.1⟩, fun q => ⟨?_, rfl⟩, fun q => ⟨hp, ⟨hv, tab.2⟩, fun q2 => ⟨?_, rfl⟩, fun q2 => ⟨?_, rfl⟩⟩⟩
  · rw [decide_eq_false (by omega)]; rfl
  · rw [decide_eq_false (by omega)]; rfl
  · rw [decide_eq_true (by omega)]; rfl
set_option maxRecDepth 10000 in
set_option maxHeartbeats 1000000 in
theorem c5_figure {l : Launch} {g : Gg} {M : Mm} {s : Sg} {i h w m z : Int} (hw : WF s) (ci : CI M s) (he : 0 ≤ M 4 1 ∧ M 4 1 < 6) (hz : 0 ≤ M 4 2 ∧ M 4 2 ≤ 6) (r1 : inR i) (r2 : inR h) (r3 : inR w) (r4 : inR m) (r5 : inR z) : Ct l g mX5_figure [vr g 0, vi i, vi h, vi w, vi m, vi z] M (fun r M2 => (figB s i h w m z = false ∧ r = -1000000002 ∧ M2 = M) ∨ (figB s i h w m z = true ∧ s 6 = 10 ∧ r = -1000000004 ∧ M2 = M) ∨ (figB s i h w m z = true ∧ ¬ s 6 = 10 ∧ r = s 6 + 1 ∧ CgP M M2 s (insS s i h w m z))) := by
  refine ct_of (by decide) (Nat.le_of_ble_eq_true rfl) ?_
  intro x hl hg C hR
  subst hl
  subst hg
  have h6 := hw.2.2.2.2.2.2.1
  have e6 := ci.1.2.1
  have no : ¬ ((0 ≤ i ∧ i ≤ s 6) ∧ (1 ≤ h ∧ h ≤ 40) ∧ (0 ≤ w ∧ w ≤ 1) ∧ (0 ≤ m ∧ m ≤ 119) ∧ (1 ≤ z ∧ z ≤ 9)) → figB s i h w m z = false := by
    intro y
    cases hq : figB s i h w m z with
    | false => rfl
    | true =>
      unfold figB at hq
      simp only [Bool.and_eq_true, decide_eq_true_eq] at hq
      exact absurd hq y
  refine X5_figure_0 C hR i h w m z M ?_
  rw [e6]
  refine ⟨r1, fun q => Or.inl ⟨no (by omega), rfl, rfl⟩, fun q => ⟨⟨r1, by omega, by omega⟩, fun q1 => Or.inl ⟨no (by omega), rfl, rfl⟩, fun q1 => ⟨_, c5_partMayBe (by decide) r2, ?_⟩⟩⟩
  rintro r A ⟨rfl, rfl⟩
  have k0 : sLP (0 : Int).toNat = 1 ∧ sGP (0 : Int).toNat = 40 := by decide
  have k1 : sLP (1 : Int).toNat = 0 ∧ sGP (1 : Int).toNat = 1 := by decide
  have k2 : sLP (2 : Int).toNat = 0 ∧ sGP (2 : Int).toNat = 119 := by decide
  have k3 : sLP (3 : Int).toNat = 1 ∧ sGP (3 : Int).toNat = 9 := by decide
  refine ⟨b2_inR _, fun q2 => Or.inl ⟨no (fun y => by have := of_decide_eq_false (b2_z q2); omega), rfl, rfl⟩, fun q2 => ⟨_, c5_partMayBe (by decide) r3, ?_⟩⟩
  rintro r A ⟨rfl, rfl⟩
  refine ⟨b2_inR _, fun q3 => Or.inl ⟨no (fun y => by have := of_decide_eq_false (b2_z q3); omega), rfl, rfl⟩, fun q3 => ⟨_, c5_partMayBe (by decide) r4, ?_⟩⟩
  rintro r A ⟨rfl, rfl⟩
  refine ⟨b2_inR _, fun q4 => Or.inl ⟨no (fun y => by have := of_decide_eq_false (b2_z q4); omega), rfl, rfl⟩, fun q4 => ⟨_, c5_partMayBe (by decide) r5, ?_⟩⟩
  rintro r A ⟨rfl, rfl⟩
  refine ⟨b2_inR _, fun q5 => ?_, fun q5 => Or.inl ⟨no (fun y => by have := of_decide_eq_false (b2_z q5); omega), rfl, rfl⟩⟩
  have t2 := of_decide_eq_true (b2_nz q2)
  have t3 := of_decide_eq_true (b2_nz q3)
  have t4 := of_decide_eq_true (b2_nz q4)
  have t5 := of_decide_eq_true (b2_nz q5)
  have yes : figB s i h w m z = true := by
    unfold figB
    simp only [Bool.and_eq_true, decide_eq_true_eq]
    omega
  rw [e6]
  refine ⟨⟨by omega, by omega⟩, fun q6 => ⟨_, c5_aheadOfChange h6 ci.1 he hz, ?_⟩, fun q6 => Or.inr (Or.inl ⟨yes, by omega, rfl, rfl⟩)⟩
  rintro r B hB
  have sB := ah_se ci.1 hB
  have b6 := sB.2.1
  refine ⟨_, c4_openAt isS_6 (by rw [b6]; omega) (by rw [b6]; omega), ?_⟩
  rintro r D hD
  refine ⟨_, c4_describe isS_6 ⟨by omega, by omega⟩, ?_⟩
  rintro r E rfl
  obtain ⟨sE, fE⟩ := se_ins (h := h) (w := w) (m := m) (z := z) sB ⟨by omega, by omega⟩ ⟨by omega, by omega⟩ hD
  refine Or.inr (Or.inr ⟨yes, by omega, ?_, cgp_of ci he hB (fun a ha => fE a (by omega)) sE⟩)
  rw [sE.2.1, ins_6]
set_option maxRecDepth 10000 in
set_option maxHeartbeats 1000000 in
theorem c5_drop {l : Launch} {g : Gg} {M : Mm} {s : Sg} {f : Int} (hw : WF s) (ci : CI M s) (he : 0 ≤ M 4 1 ∧ M 4 1 < 6) (hz : 0 ≤ M 4 2 ∧ M 4 2 ≤ 6) (hf : inR f) : Ct l g mX5_drop [vr g 0, vi f] M (fun r M2 => ((0 ≤ f ∧ f < s 6) ∧ r = s 6 - 1 ∧ CgP M M2 s (rmS s f)) ∨ (¬ (0 ≤ f ∧ f < s 6) ∧ r = -1000000001 ∧ M2 = M)) := by
  refine ct_of (by decide) (Nat.le_of_ble_eq_true rfl) ?_
  intro x hl hg C hR
  subst hl
  subst hg
  have h6 := hw.2.2.2.2.2.2.1
  refine X5_drop_0 C hR f M ⟨_, c4_has isS_6 h6 ci.1 hf, ?_⟩
  rintro r A ⟨rfl, rfl⟩
  refine ⟨b2_inR _, fun q => ⟨_, c5_aheadOfChange h6 ci.1 he hz, ?_⟩, fun q => Or.inr ⟨of_decide_eq_false (b2_z q), rfl, rfl⟩⟩
  have hq := of_decide_eq_true (b2_nz q)
  rintro r B hB
  have sB := ah_se ci.1 hB
  refine ⟨_, c4_closeAt isS_6 sB hq h6.2, ?_⟩
  rintro r D ⟨sD, fD⟩
  refine Or.inl ⟨hq, ?_, cgp_of ci he hB (fun a ha => fD a (by omega)) sD⟩
  rw [sD.2.1, rm_6]
theorem se_men {M A : Mm} {k : Nat} {s : Sg} {f v : Int} (hs : SE M k s) (hf : 0 ≤ f ∧ f < s 6) (hA : A = mu M (k + 5) f v) : SE A k (sUp s (7 + 4 * f + 2) v) := by
  have e6 : sUp s (7 + 4 * f + 2) v 6 = s 6 := sUp_ne (by omega)
  refine ⟨fun i i0 i1 => ?_, ?_, fun p q hp q0 q1 => ?_⟩
  · rw [hA, mu_ne (by omega), sUp_ne (by omega)]
    exact hs.1 i i0 i1
  · rw [hA, mu_ne (by omega), e6]
    exact hs.2.1
  · rw [e6] at q1
    rw [hA]
    by_cases e : p = 2 ∧ q = f
    · obtain ⟨rfl, rfl⟩ := e
      show mu M (k + 5) q v (k + 5) q = sUp s (7 + 4 * q + 2) v (7 + 4 * q + 2)
      rw [mu_at, sUp_at]
    · rw [sUp_ne (by omega)]
      by_cases e2 : p = 2
      · subst e2
        have : q ≠ f := fun y => e ⟨rfl, y⟩
        show mu M (k + 5) f v (k + 5) q = _
        rw [mu_off this]
        exact hs.2.2 2 q hp q0 q1
      · rw [mu_ne (by omega)]
        exact hs.2.2 p q hp q0 q1
set_option maxRecDepth 10000 in
set_option maxHeartbeats 1000000 in
theorem c5_mention {l : Launch} {g : Gg} {M : Mm} {s : Sg} {f v : Int} (hw : WF s) (ci : CI M s) (he : 0 ≤ M 4 1 ∧ M 4 1 < 6) (hz : 0 ≤ M 4 2 ∧ M 4 2 ≤ 6) (hf : inR f) (hv : inR v) : Ct l g mX5_mention [vr g 0, vi f, vi v] M (fun r M2 => (¬ (0 ≤ f ∧ f < s 6) ∧ r = -1000000001 ∧ M2 = M) ∨ ((0 ≤ f ∧ f < s 6) ∧ ¬ (0 ≤ v ∧ v ≤ 119) ∧ r = -1000000002 ∧ M2 = M) ∨ ((0 ≤ f ∧ f < s 6) ∧ (0 ≤ v ∧ v ≤ 119) ∧ r = s (7 + 4 * f + 2) ∧ CgP M M2 s (sUp s (7 + 4 * f + 2) v))) := by
  refine ct_of (by decide) (Nat.le_of_ble_eq_true rfl) ?_
  intro x hl hg C hR
  subst hl
  subst hg
  have h6 := hw.2.2.2.2.2.2.1
  have k2 : sLP (2 : Int).toNat = 0 ∧ sGP (2 : Int).toNat = 119 := by decide
  refine X5_mention_0 C hR f v M ⟨_, c4_has isS_6 h6 ci.1 hf, ?_⟩
  rintro r A ⟨rfl, rfl⟩
  refine ⟨b2_inR _, fun q => ⟨_, c5_partMayBe (by decide) hv, ?_⟩, fun q => Or.inl ⟨of_decide_eq_false (b2_z q), rfl, rfl⟩⟩
  have hq := of_decide_eq_true (b2_nz q)
  rintro r A ⟨rfl, rfl⟩
  refine ⟨b2_inR _, fun q2 => ⟨⟨by omega, by omega⟩, fun w36 h36 => ⟨_, c5_aheadOfChange h6 ci.1 he hz, ?_⟩⟩, fun q2 => Or.inr (Or.inl ⟨hq, by have := of_decide_eq_false (b2_z q2); omega, rfl, rfl⟩)⟩
  have hq2 := of_decide_eq_true (b2_nz q2)
  rintro r B hB
  have sB := ah_se ci.1 hB
  refine ⟨⟨by omega, by omega⟩, fun D hD => Or.inr (Or.inr ⟨hq, by omega, ?_, cgp_of ci he hB (fun a ha => by rw [hD, mu_ne (by omega)]) (se_men sB hq hD)⟩)⟩
  rw [h36]
  exact ci.1.m hq.1 hq.2
theorem bst_pl {s : Sg} (hw : WF s) : (if plB s 0 0 then (VV s 0 0).1 else -1) = bst s := by
  have h0 := hw.1
  have h6 := hw.2.2.2.2.2.2.1
  by_cases e : ckS s = -1
  · rw [if_pos ⟨e, rI_1 (rch_0 s)⟩]
    have := no_clash hw e (mz s 0 0) 0 0 ⟨by omega, by omega⟩ ⟨by omega, by omega⟩ (Nat.le_refl _)
    unfold bst
    rw [if_neg (by omega)]
  · rw [if_neg (fun y => e y.1), (bst_m1 hw).mpr e]
set_option maxRecDepth 10000 in
set_option maxHeartbeats 1000000 in
theorem c5_drift {l : Launch} {g : Gg} {M : Mm} {s : Sg} {n seed : Int} (hw : WF s) (ci : CI M s) (he : 0 ≤ M 4 1 ∧ M 4 1 < 6) (hz : 0 ≤ M 4 2 ∧ M 4 2 ≤ 6) (hn : inR n) (hs : inR seed) : Ct l g mX5_drift [vr g 0, vi n, vi seed] M (fun r M2 => (((0 ≤ n ∧ n ≤ 10) ∧ (1 ≤ seed ∧ seed ≤ 999999)) ∧ r = bst (lot s seed n.toNat).1 ∧ CgP M M2 s (lot s seed n.toNat).1) ∨ (¬ ((0 ≤ n ∧ n ≤ 10) ∧ (1 ≤ seed ∧ seed ≤ 999999)) ∧ r = -1000000002 ∧ M2 = M)) := by
  refine ct_of (by decide) (Nat.le_of_ble_eq_true rfl) ?_
  intro x hl hg C hR
  subst hl
  subst hg
  have h6 := hw.2.2.2.2.2.2.1
  refine X5_drift_0 C hR n seed M ⟨hn, fun q => Or.inr ⟨by omega, rfl, rfl⟩, fun q => ⟨hn, fun q2 => Or.inr ⟨by omega, rfl, rfl⟩, fun q2 => ⟨hs, fun q3 => Or.inr ⟨by omega, rfl, rfl⟩, fun q3 => ⟨hs, fun q4 => ⟨_, c5_aheadOfChange h6 ci.1 he hz, ?_⟩, fun q4 => Or.inr ⟨by omega, rfl, rfl⟩⟩⟩⟩⟩
  rintro r B hB
  have sB := ah_se ci.1 hB
  refine ⟨_, c4_drawLots isS_6 hw sB ⟨by omega, by omega⟩ ⟨by omega, by omega⟩, ?_⟩
  rintro r D ⟨sD, fD⟩
  have hl := lot_ok hw (seed := seed) ⟨by omega, by omega⟩ n.toNat (by omega)
  obtain ⟨g1, g2, g3, g4, g5, g6⟩ := cgp_of ci he hB (fun a ha => fD a (by omega)) sD
  refine ⟨_, c5_settle hl.1 g1, ?_⟩
  rintro r E ⟨cE, stE, qE⟩
  refine ⟨_, c3_costFrom isP_76 hl.1 stE.1 (by decide) (by decide), ?_⟩
  rintro r F ⟨rfl, rfl⟩
  refine Or.inl ⟨⟨⟨by omega, by omega⟩, by omega, by omega⟩, bst_pl hl.1, cE, g2.kept (fun a a1 a2 => qE.1 a (by omega)), ?_, ?_, fun a ha => ?_, ?_⟩
  · rw [qE.1 4 (by omega)]; exact g3
  · rw [qE.1 4 (by omega)]; exact g4
  · rw [qE.1 a (by omega)]; exact g5 a ha
  · rw [qE.2 11 (by decide)]; exact g6
