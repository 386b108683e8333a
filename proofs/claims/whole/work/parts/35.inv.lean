/-! ===== both sides at once ===== -/
def blk (M : Mm) (k : Nat) (t : Int) : Sg := fun j => M k (47 * t + j)
def HI (M : Mm) : Prop := (0 ≤ M 4 1 ∧ M 4 1 < 6) ∧ (0 ≤ M 4 2 ∧ M 4 2 ≤ 6) ∧ M 105 2 = M 4 2 ∧ ∀ t : Int, 0 ≤ t → t < M 4 2 → WF (blk M 108 t) ∧ SE M (34 + 7 * ((M 4 1 - M 4 2 + t) % 6).toNat) (blk M 108 t)
def II (M : Mm) : Prop := ∀ i : Int, 0 ≤ i → i ≤ 1 → (M 110 i = 0 ∨ M 110 i = 1) ∧ M 2 i = M 110 i ∧ (M 110 i = 1 → WF (blk M 109 i) ∧ SE M (20 + 7 * i.toNat) (blk M 109 i))
def HA (M : Mm) : Prop := M 105 6 = M 0 11 ∧ (0 ≤ M 0 11 ∧ M 0 11 ≤ 30) ∧ ∀ p : Int, 0 ≤ p → p < M 0 11 → M 111 p = M 3 p ∧ 0 ≤ M 3 p ∧ M 3 p ≤ 4
def INV (M : Mm) : Prop := WF (M 106) ∧ CI M (M 106) ∧ HI M ∧ II M ∧ HA M
theorem HI.kept {M N : Mm} (h : HI M) (e4 : N 4 = M 4) (e5 : N 105 2 = M 105 2) (e8 : N 108 = M 108) (er : ∀ a, 34 ≤ a → a < 76 → N a = M a) : HI N := by
  unfold HI at h ⊢
  rw [e4, e5]
  refine ⟨h.1, h.2.1, h.2.2.1, fun t t0 t1 => ?_⟩
  have := h.2.2.2 t t0 t1
  have eb : blk N 108 t = blk M 108 t := by unfold blk; rw [e8]
  rw [eb]
  exact ⟨this.1, this.2.kept (fun a a1 a2 => er a (by omega) (by omega))⟩
theorem II.kept {M N : Mm} (h : II M) (e2 : N 2 = M 2) (e9 : N 109 = M 109) (e10 : N 110 = M 110) (er : ∀ a, 20 ≤ a → a < 34 → N a = M a) : II N := by
  intro i i0 i1
  have := h i i0 i1
  have eb : blk N 109 i = blk M 109 i := by unfold blk; rw [e9]
  rw [eb, e2, e10]
  exact ⟨this.1, this.2.1, fun q => ⟨(this.2.2 q).1, (this.2.2 q).2.kept (fun a a1 a2 => er a (by omega) (by omega))⟩⟩
theorem HA.kept {M N : Mm} (h : HA M) (e0 : N 0 11 = M 0 11) (e5 : N 105 6 = M 105 6) (e3 : N 3 = M 3) (e11 : N 111 = M 111) : HA N := by
  unfold HA at h ⊢
  rw [e0, e5, e3, e11]
  exact h
theorem inv_quiet {M A B : Mm} (h : INV M) (q : QF M A) (c : CI A (M 106)) (r : Sm A B) : INV B := by
  obtain ⟨h1, h2, h3, h4, h5⟩ := h
  obtain ⟨r1, r2, r3, r4, r5, r6, r7⟩ := r
  have e6 : B 106 = M 106 := by rw [r2, q.1 106 (by omega)]
  unfold INV
  rw [e6]
  refine ⟨h1, c.same r1, h3.kept ?_ ?_ ?_ ?_, h4.kept ?_ ?_ ?_ ?_, h5.kept ?_ ?_ ?_ ?_⟩
  · rw [r1 4 (by omega), q.1 4 (by omega)]
  · rw [r7 2 (by decide), q.1 105 (by omega)]
  · rw [r3, q.1 108 (by omega)]
  · intro a a1 a2
    rw [r1 a (by omega), q.1 a (by omega)]
  · rw [r1 2 (by omega), q.1 2 (by omega)]
  · rw [r4, q.1 109 (by omega)]
  · rw [r5, q.1 110 (by omega)]
  · intro a a1 a2
    rw [r1 a (by omega), q.1 a (by omega)]
  · rw [r1 0 (by omega), q.2 11 (by decide)]
  · rw [r7 6 (by decide), q.1 105 (by omega)]
  · rw [r1 3 (by omega), q.1 3 (by omega)]
  · rw [r6, q.1 111 (by omega)]
theorem inv_change {M A B : Mm} {t : Sg} (h : INV M) (c : CgP M A (M 106) t) (r : ChM A B) (e6 : B 106 = t) (hw : WF t) : INV B := by
  obtain ⟨h1, h2, ⟨k1, k2, k3, k4⟩, h4, h5⟩ := h
  obtain ⟨c1, c2, c3, c4, c5, c6⟩ := c
  obtain ⟨r1, r2, r3, r4, r5, r6, r7⟩ := r
  have low : ∀ a, ((1 ≤ a ∧ a < 4) ∨ (20 ≤ a ∧ a < 76 ∧ ¬ (34 + 7 * (M 4 1).toNat ≤ a ∧ a < 34 + 7 * (M 4 1).toNat + 7))) → B a = M a := fun a ha => by rw [r1 a (by omega)]; exact c5 a (by omega)
  have a5 : A 105 = M 105 := c5 105 (by omega)
  have a6 : A 106 = M 106 := c5 106 (by omega)
  have a8 : A 108 = M 108 := c5 108 (by omega)
  have b4 : B 4 = A 4 := r1 4 (by omega)
  unfold INV
  rw [e6]
  refine ⟨hw, c1.same r1, ⟨?_, ?_, ?_, fun u u0 u1 => ?_⟩, h4.kept ?_ ?_ ?_ ?_, h5.kept ?_ ?_ ?_ ?_⟩
  · rw [b4, c3]; omega
  · rw [b4, c4]; split <;> omega
  · rw [r6, a5, k3, b4, c4]
  · rw [a5, k3, a6, a8] at r7
    rw [a5, k3] at r6
    rw [b4, c4] at u1
    rw [b4, c3, c4]
    rw [r6] at r7
    by_cases hu : u + 1 = (if M 4 2 = 6 then 6 else M 4 2 + 1)
    · have eb : ∀ j : Int, 0 ≤ j → j < 47 → blk B 108 u j = M 106 j := fun j j0 j1 => (r7 u j u0 j0 j1).1 hu
      have ei : ((M 4 1 + 1) % 6 - (if M 4 2 = 6 then 6 else M 4 2 + 1) + u) % 6 = M 4 1 := by omega
      rw [ei]
      refine ⟨h1.cong eb, ?_⟩
      have s6 := h1.2.2.2.2.2.2.1
      exact (c2.kept (fun a a1 a2 => r1 a (by omega))).cong (by omega) eb
    · have eb : ∀ j : Int, 0 ≤ j → j < 47 → blk B 108 u j = blk M 108 (u + (if M 4 2 = 6 then 1 else 0)) j := fun j j0 j1 => (r7 u j u0 j0 j1).2 (by omega)
      have hlt : u + (if M 4 2 = 6 then 1 else 0) < M 4 2 := by
        by_cases z : M 4 2 = 6
        · rw [if_pos z] at hu u1 ⊢; omega
        · rw [if_neg z] at hu u1 ⊢; omega
      have old := k4 (u + (if M 4 2 = 6 then 1 else 0)) (by split <;> omega) hlt
      have ei : ((M 4 1 + 1) % 6 - (if M 4 2 = 6 then 6 else M 4 2 + 1) + u) % 6 = (M 4 1 - M 4 2 + (u + (if M 4 2 = 6 then 1 else 0))) % 6 := by
        by_cases z : M 4 2 = 6
        · rw [if_pos z, if_pos z]; omega
        · rw [if_neg z, if_neg z]; omega
      have ene : (M 4 1 - M 4 2 + (u + (if M 4 2 = 6 then 1 else 0))) % 6 ≠ M 4 1 := by
        by_cases z : M 4 2 = 6
        · rw [if_pos z] at hlt hu ⊢; omega
        · rw [if_neg z] at hlt hu ⊢; omega
      rw [ei]
      have s6 := old.1.2.2.2.2.2.2.1
      refine ⟨old.1.cong eb, (old.2.kept (fun a a1 a2 => low a (by omega))).cong (by omega) eb⟩
  · exact low 2 (by omega)
  · rw [r2]; exact c5 109 (by omega)
  · rw [r3]; exact c5 110 (by omega)
  · intro a a1 a2
    exact low a (by omega)
  · rw [r1 0 (by omega)]; exact c6
  · rw [r5, a5]
  · exact low 3 (by omega)
  · rw [r4]; exact c5 111 (by omega)
/-- a call on the class, the same call on the reference: the same answer, and all holds again -/
def Pr (l : Launch) (g : Gg) (d1 d2 : Md) (As : List Value) (M : Mm) : Prop := ∃ p1, Ct l g d1 (vr g 0 :: As) M p1 ∧ ∀ r1 A, p1 r1 A → ∃ p2, Ct l g d2 (vr g 105 :: As) A p2 ∧ ∀ r2 B, p2 r2 B → r1 = r2 ∧ INV B
theorem inv_hz {M : Mm} (h : INV M) : (0 ≤ M 4 1 ∧ M 4 1 < 6) ∧ (0 ≤ M 4 2 ∧ M 4 2 ≤ 6) ∧ M 105 2 = M 4 2 := ⟨h.2.2.1.1, h.2.2.1.2.1, h.2.2.1.2.2.1⟩
theorem pr_layout {l : Launch} {g : Gg} {M : Mm} {a b : Int} (h : INV M) (r1 : inR a) (r2 : inR b) : Pr l g mX5_layout mX6_layout [vi a, vi b] M := by
  obtain ⟨z1, z2, z3⟩ := inv_hz h
  refine ⟨_, c5_layout h.1 h.2.1 z1 z2 r1 r2, fun r A hA => ?_⟩
  have e5 : A 105 = M 105 ∧ A 106 = M 106 := by
    rcases hA with ⟨-, -, c⟩ | ⟨-, -, c⟩
    · exact ⟨c.2.2.2.2.1 105 (by omega), c.2.2.2.2.1 106 (by omega)⟩
    · rw [c]; exact ⟨rfl, rfl⟩
  refine ⟨_, c6_layout (by rw [e5.2]; exact h.1) (by rw [e5.1, z3]; exact z2) r1 r2, fun r2 B hB => ?_⟩
  rw [e5.2] at hB
  rcases hA with ⟨b1, q1, c⟩ | ⟨b1, q1, c⟩
  · rcases hB with ⟨-, q2, w2, c2⟩ | ⟨b2, -⟩
    · exact ⟨q1.trans q2.symm, inv_change h c c2 w2 (WF_ly h.1 b1)⟩
    · rw [b1] at b2; cases b2
  · rcases hB with ⟨b2, -⟩ | ⟨-, q2, c2⟩
    · rw [b1] at b2; cases b2
    · rw [c2, c]; exact ⟨q1.trans q2.symm, h⟩
theorem pr_figure {l : Launch} {g : Gg} {M : Mm} {a b c d e : Int} (h : INV M) (r1 : inR a) (r2 : inR b) (r3 : inR c) (r4 : inR d) (r5 : inR e) : Pr l g mX5_figure mX6_figure [vi a, vi b, vi c, vi d, vi e] M := by
  obtain ⟨z1, z2, z3⟩ := inv_hz h
  have h6 := h.1.2.2.2.2.2.2.1
  refine ⟨_, c5_figure h.1 h.2.1 z1 z2 r1 r2 r3 r4 r5, fun r A hA => ?_⟩
  have e5 : A 105 = M 105 ∧ A 106 = M 106 := by
    rcases hA with ⟨-, -, c⟩ | ⟨-, -, -, c⟩ | ⟨-, -, -, c⟩
    · rw [c]; exact ⟨rfl, rfl⟩
    · rw [c]; exact ⟨rfl, rfl⟩
    · exact ⟨c.2.2.2.2.1 105 (by omega), c.2.2.2.2.1 106 (by omega)⟩
  refine ⟨_, c6_figure (by rw [e5.2]; exact h.1) (by rw [e5.1, z3]; exact z2) r1 r2 r3 r4 r5, fun r2 B hB => ?_⟩
  rw [e5.2] at hB
  rcases hA with ⟨b1, q1, c⟩ | ⟨b1, n1, q1, c⟩ | ⟨b1, n1, q1, c⟩
  · rcases hB with ⟨-, q2, c2⟩ | ⟨b2, -⟩ | ⟨b2, -⟩
    · rw [c2, c]; exact ⟨q1.trans q2.symm, h⟩
    · rw [b1] at b2; cases b2
    · rw [b1] at b2; cases b2
  · rcases hB with ⟨b2, -⟩ | ⟨-, -, q2, c2⟩ | ⟨-, n2, -⟩
    · rw [b1] at b2; cases b2
    · rw [c2, c]; exact ⟨q1.trans q2.symm, h⟩
    · exact absurd n1 n2
  · rcases hB with ⟨b2, -⟩ | ⟨-, n2, -⟩ | ⟨-, -, q2, w2, c2⟩
    · rw [b1] at b2; cases b2
    · exact absurd n2 n1
    · refine ⟨q1.trans q2.symm, inv_change h c c2 w2 ?_⟩
      unfold figB at b1
      simp only [Bool.and_eq_true, decide_eq_true_eq] at b1
      exact WF_ins h.1 b1.1 (by omega) b1.2.1 b1.2.2.1 b1.2.2.2.1 b1.2.2.2.2
theorem pr_drop {l : Launch} {g : Gg} {M : Mm} {a : Int} (h : INV M) (r1 : inR a) : Pr l g mX5_drop mX6_drop [vi a] M := by
  obtain ⟨z1, z2, z3⟩ := inv_hz h
  refine ⟨_, c5_drop h.1 h.2.1 z1 z2 r1, fun r A hA => ?_⟩
  have e5 : A 105 = M 105 ∧ A 106 = M 106 := by
    rcases hA with ⟨-, -, c⟩ | ⟨-, -, c⟩
    · exact ⟨c.2.2.2.2.1 105 (by omega), c.2.2.2.2.1 106 (by omega)⟩
    · rw [c]; exact ⟨rfl, rfl⟩
  refine ⟨_, c6_drop (by rw [e5.2]; exact h.1) (by rw [e5.1, z3]; exact z2) r1, fun r2 B hB => ?_⟩
  rw [e5.2] at hB
  rcases hA with ⟨b1, q1, c⟩ | ⟨b1, q1, c⟩
  · rcases hB with ⟨-, q2, w2, c2⟩ | ⟨b2, -⟩
    · exact ⟨q1.trans q2.symm, inv_change h c c2 w2 (WF_rm h.1 b1)⟩
    · exact absurd b1 b2
  · rcases hB with ⟨b2, -⟩ | ⟨-, q2, c2⟩
    · exact absurd b2 b1
    · rw [c2, c]; exact ⟨q1.trans q2.symm, h⟩
theorem pr_mention {l : Launch} {g : Gg} {M : Mm} {a b : Int} (h : INV M) (r1 : inR a) (r2 : inR b) : Pr l g mX5_mention mX6_mention [vi a, vi b] M := by
  obtain ⟨z1, z2, z3⟩ := inv_hz h
  refine ⟨_, c5_mention h.1 h.2.1 z1 z2 r1 r2, fun r A hA => ?_⟩
  have e5 : A 105 = M 105 ∧ A 106 = M 106 := by
    rcases hA with ⟨-, -, c⟩ | ⟨-, -, -, c⟩ | ⟨-, -, -, c⟩
    · rw [c]; exact ⟨rfl, rfl⟩
    · rw [c]; exact ⟨rfl, rfl⟩
    · exact ⟨c.2.2.2.2.1 105 (by omega), c.2.2.2.2.1 106 (by omega)⟩
  refine ⟨_, c6_mention (by rw [e5.2]; exact h.1) (by rw [e5.1, z3]; exact z2) r1 r2, fun r2 B hB => ?_⟩
  rw [e5.2] at hB
  rcases hA with ⟨b1, q1, c⟩ | ⟨b1, n1, q1, c⟩ | ⟨b1, n1, q1, c⟩
  · rcases hB with ⟨-, q2, c2⟩ | ⟨b2, -⟩ | ⟨b2, -⟩
    · rw [c2, c]; exact ⟨q1.trans q2.symm, h⟩
    · exact absurd b2 b1
    · exact absurd b2 b1
  · rcases hB with ⟨b2, -⟩ | ⟨-, -, q2, c2⟩ | ⟨-, n2, -⟩
    · exact absurd b1 b2
    · rw [c2, c]; exact ⟨q1.trans q2.symm, h⟩
    · exact absurd n2 n1
  · rcases hB with ⟨b2, -⟩ | ⟨-, n2, -⟩ | ⟨-, -, q2, w2, c2⟩
    · exact absurd b1 b2
    · exact absurd n1 n2
    · exact ⟨q1.trans q2.symm, inv_change h c c2 w2 (WF_men h.1 b1 n1)⟩
theorem pr_drift {l : Launch} {g : Gg} {M : Mm} {a b : Int} (h : INV M) (r1 : inR a) (r2 : inR b) : Pr l g mX5_drift mX6_drift [vi a, vi b] M := by
  obtain ⟨z1, z2, z3⟩ := inv_hz h
  refine ⟨_, c5_drift h.1 h.2.1 z1 z2 r1 r2, fun r A hA => ?_⟩
  have e5 : A 105 = M 105 ∧ A 106 = M 106 := by
    rcases hA with ⟨-, -, c⟩ | ⟨-, -, c⟩
    · exact ⟨c.2.2.2.2.1 105 (by omega), c.2.2.2.2.1 106 (by omega)⟩
    · rw [c]; exact ⟨rfl, rfl⟩
  refine ⟨_, c6_drift (by rw [e5.2]; exact h.1) (by rw [e5.1, z3]; exact z2) r1 r2, fun r2 B hB => ?_⟩
  rw [e5.2] at hB
  rcases hA with ⟨b1, q1, c⟩ | ⟨b1, q1, c⟩
  · rcases hB with ⟨-, q2, w2, c2⟩ | ⟨b2, -⟩
    · exact ⟨q1.trans q2.symm, inv_change h c c2 w2 (lot_ok h.1 (seed := b) ⟨by omega, by omega⟩ a.toNat (by omega)).1⟩
    · exact absurd b1 b2
  · rcases hB with ⟨b2, -⟩ | ⟨-, q2, c2⟩
    · exact absurd b2 b1
    · rw [c2, c]; exact ⟨q1.trans q2.symm, h⟩
theorem inv_back {M A B : Mm} {t : Sg} {z : Int} (h : INV M) (ca : CI A t) (s1 : A 0 12 = 1) (ht : WF t) (e : ∀ j : Int, 0 ≤ j → j < 47 → B 106 j = t j) (r : UnP A B z) (low : ∀ a, ((1 ≤ a ∧ a < 4) ∨ (20 ≤ a ∧ a < 76) ∨ 105 ≤ a) → A a = M a) (e11 : A 0 11 = M 0 11) (h4 : (0 ≤ A 4 1 ∧ A 4 1 < 6) ∧ (0 ≤ A 4 2 ∧ A 4 2 ≤ M 4 2) ∧ z = A 4 2 ∧ (0 < z → (A 4 1 - A 4 2) % 6 = (M 4 1 - M 4 2) % 6)) : INV B := by
  obtain ⟨h1, h2, ⟨k1, k2, k3, k4⟩, i4, i5⟩ := h
  obtain ⟨r1, r2, r3, r4, r5, r6, r7⟩ := r
  have b4 : B 4 = A 4 := r1 4 (by omega)
  have cb := ca.same r1
  have t6 := ht.2.2.2.2.2.2.1
  refine ⟨ht.cong e, ⟨cb.1.cong (by omega) e, cb.2.1, cb.2.2.1, fun q => ?_⟩, ⟨?_, ?_, ?_, fun u u0 u1 => ?_⟩, i4.kept ?_ ?_ ?_ ?_, i5.kept ?_ ?_ ?_ ?_⟩
  · rw [r1 0 (by omega), s1] at q
    exact absurd q (by decide)
  · rw [b4]; exact h4.1
  · rw [b4]; omega
  · rw [b4, r7]; exact h4.2.2.1
  · rw [b4] at u1 ⊢
    have old := k4 u u0 (by omega)
    have eb : blk B 108 u = blk M 108 u := by
      unfold blk
      rw [r2, low 108 (by omega)]
    have ei : (A 4 1 - A 4 2 + u) % 6 = (M 4 1 - M 4 2 + u) % 6 := by
      have := h4.2.2.2 (by omega)
      omega
    rw [eb, ei]
    exact ⟨old.1, old.2.kept (fun a a1 a2 => by rw [r1 a (by omega)]; exact low a (by omega))⟩
  · rw [r1 2 (by omega)]; exact low 2 (by omega)
  · rw [r3]; exact low 109 (by omega)
  · rw [r4]; exact low 110 (by omega)
  · intro a a1 a2
    rw [r1 a (by omega)]; exact low a (by omega)
  · rw [r1 0 (by omega)]; exact e11
  · rw [r6, low 105 (by omega)]
  · rw [r1 3 (by omega)]; exact low 3 (by omega)
  · rw [r5]; exact low 111 (by omega)
theorem pr_undo {l : Launch} {g : Gg} {M : Mm} (h : INV M) : Pr l g mX5_undo mX6_undo [] M := by
  obtain ⟨z1, z2, z3⟩ := inv_hz h
  have k4 := h.2.2.1.2.2.2
  have ht : ¬ M 4 2 = 0 → WF (blk M 108 (M 4 2 - 1)) ∧ SE M (34 + 7 * ((M 4 1 + 5) % 6).toNat) (blk M 108 (M 4 2 - 1)) := by
    intro q
    have := k4 (M 4 2 - 1) (by omega) (by omega)
    rw [show (M 4 1 - M 4 2 + (M 4 2 - 1)) % 6 = (M 4 1 + 5) % 6 by omega] at this
    exact this
  refine ⟨_, c5_undo (t := blk M 108 (M 4 2 - 1)) h.2.1 z1 z2 (fun q => ⟨(ht q).2, (ht q).1.2.2.2.2.2.2.1⟩), fun r A hA => ?_⟩
  have e5 : A 105 = M 105 ∧ A 108 = M 108 := by
    rcases hA with ⟨-, -, c⟩ | ⟨-, -, -, -, -, c, -, -⟩
    · rw [c]; exact ⟨rfl, rfl⟩
    · exact ⟨c 105 (by omega), c 108 (by omega)⟩
  refine ⟨_, c6_undo (by rw [e5.1, z3]; exact z2), fun r2 B hB => ?_⟩
  rw [e5.1, z3, e5.2] at hB
  rcases hA with ⟨b1, q1, c⟩ | ⟨b1, q1, c1, c2, c3, c4, c5, c6⟩
  · rcases hB with ⟨-, q2, w⟩ | ⟨b2, -⟩
    · rw [w, c]; exact ⟨q1.trans q2.symm, h⟩
    · exact absurd b1 b2
  · rcases hB with ⟨b2, -⟩ | ⟨-, q2, w2, w3⟩
    · exact absurd b2 b1
    · exact ⟨q1.trans q2.symm, inv_back h c1 c6 (ht b1).1 w2 w3 c4 c5 ⟨by rw [c2]; omega, by rw [c3]; omega, c3.symm, fun _ => by rw [c2, c3]; omega⟩⟩
theorem pr_goBack {l : Launch} {g : Gg} {M : Mm} {a : Int} (h : INV M) (r1 : inR a) : Pr l g mX5_goBack mX6_goBack [vi a] M := by
  obtain ⟨z1, z2, z3⟩ := inv_hz h
  have i4 := h.2.2.2.1
  refine ⟨_, c5_goBack (t := blk M 109 a) h.2.1 r1 (fun q => by rw [(i4 a q.1 q.2).2.1]; exact (i4 a q.1 q.2).1) (fun q q2 => by
    have w := (i4 a q.1 q.2).2.2 (by rw [← (i4 a q.1 q.2).2.1]; exact q2)
    exact ⟨w.2, w.1.2.2.2.2.2.2.1⟩), fun r A hA => ?_⟩
  have e5 : A 105 = M 105 ∧ A 109 = M 109 ∧ A 110 = M 110 := by
    rcases hA with ⟨-, -, c⟩ | ⟨-, -, -, c⟩ | ⟨-, -, -, -, -, -, c, -, -⟩
    · rw [c]; exact ⟨rfl, rfl, rfl⟩
    · rw [c]; exact ⟨rfl, rfl, rfl⟩
    · exact ⟨c 105 (by omega), c 109 (by omega), c 110 (by omega)⟩
  refine ⟨_, c6_goBack r1 (fun j j0 j1 => by rw [e5.2.2]; exact (i4 j j0 j1).1), fun r2 B hB => ?_⟩
  rw [e5.2.1, e5.2.2] at hB
  rcases hA with ⟨b1, q1, c⟩ | ⟨b1, n1, q1, c⟩ | ⟨b1, n1, q1, c1, c2, c3, c4, c5, c6⟩
  · rcases hB with ⟨-, q2, w⟩ | ⟨b2, -⟩ | ⟨b2, -⟩
    · rw [w, c]; exact ⟨q1.trans q2.symm, h⟩
    · exact absurd b2 b1
    · exact absurd b2 b1
  · have m2 := (i4 a b1.1 b1.2).2.1
    rcases hB with ⟨b2, -⟩ | ⟨-, -, q2, w⟩ | ⟨-, n2, -⟩
    · exact absurd b1 b2
    · rw [w, c]; exact ⟨q1.trans q2.symm, h⟩
    · omega
  · have m2 := (i4 a b1.1 b1.2).2.1
    have w := (i4 a b1.1 b1.2).2.2 (by omega)
    rcases hB with ⟨b2, -⟩ | ⟨-, n2, -⟩ | ⟨-, n2, q2, w2, w3⟩
    · exact absurd b1 b2
    · omega
    · exact ⟨q1.trans q2.symm, inv_back h c1 c6 w.1 w2 w3 c4 c5 ⟨by rw [c2]; exact z1, by rw [c3]; omega, c3.symm, fun y => absurd y (by decide)⟩⟩
theorem pr_keep {l : Launch} {g : Gg} {M : Mm} {a : Int} (h : INV M) (r1 : inR a) : Pr l g mX5_keep mX6_keep [vi a] M := by
  obtain ⟨z1, z2, z3⟩ := inv_hz h
  have i4 := h.2.2.2.1
  have s6 := h.1.2.2.2.2.2.2.1
  refine ⟨_, c5_keep h.1 h.2.1 r1, fun r A hA => ⟨_, c6_keep r1, fun r2 B hB => ?_⟩⟩
  rcases hA with ⟨b1, q1, c⟩ | ⟨b1, q1, c1, c2, c3, c4, c5, c6, c7, c8⟩
  · rcases hB with ⟨-, q2, w⟩ | ⟨b2, -⟩
    · rw [w, c]; exact ⟨q1.trans q2.symm, h⟩
    · exact absurd b2 b1
  · have a6 : A 106 = M 106 := c7 106 (by omega)
    rcases hB with ⟨b2, -⟩ | ⟨-, q2, w1, w2, w3, w4, w5, w6, w7, w8, w9⟩
    · exact absurd b1 b2
    · rw [a6] at q2 w1 w8
      refine ⟨q1.trans q2.symm, ?_⟩
      have b4 : B 4 = A 4 := w2 4 (by omega)
      have low : ∀ x, (x = 3 ∨ (20 ≤ x ∧ x < 76 ∧ ¬ (20 + 7 * a.toNat ≤ x ∧ x < 20 + 7 * a.toNat + 7))) → B x = M x := fun x hx => by rw [w2 x (by omega)]; exact c7 x (by omega)
      unfold INV
      rw [w1]
      refine ⟨h.1, c1.same w2, ⟨by rw [b4, c5]; exact z1, by rw [b4, c6]; omega, by rw [w5, b4, c6], fun u u0 u1 => by rw [b4, c6] at u1; omega⟩, fun i i0 i1 => ?_, h.2.2.2.2.kept ?_ ?_ ?_ ?_⟩
      · have m := i4 i i0 i1
        by_cases e : i = a
        · subst e
          rw [w6, w2 2 (by omega), c3]
          have eb : ∀ j : Int, 0 ≤ j → j < 47 → blk B 109 i j = M 106 j := fun j j0 j1 => w8 j j0 j1
          exact ⟨Or.inr rfl, rfl, fun _ => ⟨h.1.cong eb, (c2.kept (fun x x1 x2 => w2 x (by omega))).cong (by omega) eb⟩⟩
        · rw [w7 i e, w2 2 (by omega), c4 i e, c7 110 (by omega)]
          refine ⟨m.1, m.2.1, fun q => ?_⟩
          have w := m.2.2 q
          have t6 := w.1.2.2.2.2.2.2.1
          have eb : ∀ j : Int, 0 ≤ j → j < 47 → blk B 109 i j = blk M 109 i j := fun j j0 j1 => by
            have := w9 i j e j0 j1
            rw [c7 109 (by omega)] at this
            exact this
          exact ⟨w.1.cong eb, (w.2.kept (fun x x1 x2 => low x (by omega))).cong (by omega) eb⟩
      · rw [w2 0 (by omega)]; exact c8
      · rw [w4, c7 105 (by omega)]
      · exact low 3 (by omega)
      · rw [w3]; exact c7 111 (by omega)
theorem pr_hand {l : Launch} {g : Gg} {M : Mm} {a : Int} (h : INV M) (r1 : inR a) : Pr l g mX5_hand mX6_hand [vi a] M := by
  obtain ⟨w1, w2, w3, w4, ⟨k1, k2, k3⟩⟩ := h
  refine ⟨_, c5_hand r1 k2, fun r A hA => ?_⟩
  have e5 : A 105 = M 105 ∧ A 111 = M 111 := by
    rcases hA with ⟨-, -, c⟩ | ⟨-, -, -, c⟩ | ⟨-, -, -, c⟩
    · rw [c]; exact ⟨rfl, rfl⟩
    · rw [c]; exact ⟨rfl, rfl⟩
    · rw [c, mu_ne (by decide), mu_ne (by decide), mu_ne (by decide), mu_ne (by decide)]; exact ⟨rfl, rfl⟩
  refine ⟨_, c6_hand r1 (by rw [e5.1, k1]; exact k2), fun r2 B hB => ?_⟩
  rw [e5.1, k1] at hB
  rcases hA with ⟨b1, q1, c⟩ | ⟨b1, n1, q1, c⟩ | ⟨b1, n1, q1, c⟩
  · rcases hB with ⟨-, q2, c2⟩ | ⟨b2, -⟩ | ⟨b2, -⟩
    · rw [c2, c]; exact ⟨q1.trans q2.symm, w1, w2, w3, w4, k1, k2, k3⟩
    · exact absurd b2 b1
    · exact absurd b2 b1
  · rcases hB with ⟨b2, -⟩ | ⟨-, -, q2, c2⟩ | ⟨-, n2, -⟩
    · exact absurd b1 b2
    · rw [c2, c]; exact ⟨q1.trans q2.symm, w1, w2, w3, w4, k1, k2, k3⟩
    · exact absurd n1 n2
  · rcases hB with ⟨b2, -⟩ | ⟨-, n2, -⟩ | ⟨-, -, q2, c2⟩
    · exact absurd b1 b2
    · exact absurd n2 n1
    · refine ⟨q1.trans q2.symm, ?_⟩
      have low : ∀ x, x ≠ 0 → x ≠ 3 → x ≠ 105 → x ≠ 111 → B x = M x := by
        intro x x0 x3 x5 x11
        rw [c2, mu_ne x5, mu_ne x11, c, mu_ne x0, mu_ne x3]
      have b0 : ∀ j : Int, j ≠ 11 → B 0 j = M 0 j := by
        intro j hj
        rw [c2, mu_ne (by decide), mu_ne (by decide), c, mu_off hj, mu_ne (by decide)]
      have b011 : B 0 11 = M 0 11 + 1 := by rw [c2, mu_ne (by decide), mu_ne (by decide), c, mu_at]
      have b5 : ∀ j : Int, j ≠ 6 → B 105 j = M 105 j := by
        intro j hj
        rw [c2, mu_off hj, mu_ne (by decide), c, mu_ne (by decide), mu_ne (by decide)]
      have b3 : B 3 = mu M 3 (M 0 11) a 3 := by
        rw [c2, mu_ne (by decide), mu_ne (by decide), c, mu_ne (by decide)]
      have b11 : B 111 = mu M 111 (M 0 11) a 111 := by
        rw [c2, mu_ne (by decide)]
        funext j
        unfold mu
        rw [e5.2]
      unfold INV
      rw [low 106 (by decide) (by decide) (by decide) (by decide)]
      refine ⟨w1, w2.kept (fun x hx => low x (by omega) (by omega) (by omega) (by omega)) (b0 12 (by decide)), w3.kept (low 4 (by decide) (by decide) (by decide) (by decide)) (b5 2 (by decide)) (low 108 (by decide) (by decide) (by decide) (by decide)) (fun x x1 x2 => low x (by omega) (by omega) (by omega) (by omega)), w4.kept (low 2 (by decide) (by decide) (by decide) (by decide)) (low 109 (by decide) (by decide) (by decide) (by decide)) (low 110 (by decide) (by decide) (by decide) (by decide)) (fun x x1 x2 => low x (by omega) (by omega) (by omega) (by omega)), ?_, ?_, fun p p0 p1 => ?_⟩
      · rw [b011, c2, mu_at]
      · rw [b011]; omega
      · rw [b011] at p1
        rw [b3, b11]
        by_cases e : p = M 0 11
        · subst e
          rw [mu_at, mu_at]
          exact ⟨rfl, b1⟩
        · rw [mu_off e, mu_off e]
          exact k3 p p0 (by omega)
theorem pr_clear {l : Launch} {g : Gg} {M : Mm} (h : INV M) : Pr l g mX5_clear mX6_clear [] M := by
  obtain ⟨w1, w2, w3, w4, ⟨k1, k2, k3⟩⟩ := h
  refine ⟨_, c5_clear, fun r A hA => ⟨_, c6_clear, fun r2 B hB => ?_⟩⟩
  obtain ⟨q1, c⟩ := hA
  obtain ⟨q2, c2⟩ := hB
  have low : ∀ x, x ≠ 0 → x ≠ 105 → B x = M x := by
    intro x x0 x5
    rw [c2, mu_ne x5, c, mu_ne x0]
  have b0 : ∀ j : Int, j ≠ 11 → B 0 j = M 0 j := by
    intro j hj
    rw [c2, mu_ne (by decide), c, mu_off hj]
  have b5 : ∀ j : Int, j ≠ 6 → B 105 j = M 105 j := by
    intro j hj
    rw [c2, mu_off hj, c, mu_ne (by decide)]
  have b011 : B 0 11 = 0 := by rw [c2, mu_ne (by decide), c, mu_at]
  refine ⟨?_, ?_⟩
  · rw [q1, q2, c, mu_ne (by decide), k1]
  · unfold INV
    rw [low 106 (by decide) (by decide)]
    refine ⟨w1, w2.kept (fun x hx => low x (by omega) (by omega)) (b0 12 (by decide)), w3.kept (low 4 (by decide) (by decide)) (b5 2 (by decide)) (low 108 (by decide) (by decide)) (fun x x1 x2 => low x (by omega) (by omega)), w4.kept (low 2 (by decide) (by decide)) (low 109 (by decide) (by decide)) (low 110 (by decide) (by decide)) (fun x x1 x2 => low x (by omega) (by omega)), ?_, ?_, fun p p0 p1 => ?_⟩
    · rw [b011, c2, mu_at]
    · rw [b011]; omega
    · rw [b011] at p1; omega
theorem qf_6 {M A : Mm} (q : QF M A) : A 105 = M 105 ∧ A 106 = M 106 ∧ A 111 = M 111 ∧ A 4 = M 4 := ⟨q.1 105 (by omega), q.1 106 (by omega), q.1 111 (by omega), q.1 4 (by omega)⟩
theorem pr_told {l : Launch} {g : Gg} {M : Mm} {a : Int} (h : INV M) (r1 : inR a) : Pr l g mX5_told mX6_told [vi a] M := by
  obtain ⟨z1, z2, z3⟩ := inv_hz h
  refine ⟨_, c5_told h.1 h.2.1 r1, fun r A hA => ?_⟩
  obtain ⟨q1, c1, c2⟩ := hA
  obtain ⟨e5, e6, -, -⟩ := qf_6 c2
  refine ⟨_, c6_told (by rw [e6]; exact h.1) (by rw [e5, z3]; exact ⟨by omega, by omega⟩) r1, fun r2 B hB => ⟨?_, inv_quiet h c2 c1 hB.1⟩⟩
  rw [q1, hB.2, e5, e6, z3, h.2.2.2.2.1]
theorem pr_figureOf {l : Launch} {g : Gg} {M : Mm} {a b : Int} (h : INV M) (r1 : inR a) (r2 : inR b) : Pr l g mX5_figureOf mX6_figureOf [vi a, vi b] M := by
  refine ⟨_, c5_figureOf h.1 h.2.1 r1 r2, fun r A hA => ?_⟩
  obtain ⟨q1, c1, c2⟩ := hA
  obtain ⟨e5, e6, -, -⟩ := qf_6 c2
  refine ⟨_, c6_figureOf (by rw [e6]; exact h.1) r1 r2, fun r2 B hB => ⟨?_, inv_quiet h c2 c1 hB.1⟩⟩
  rw [q1, hB.2, e6]
theorem pr_page {l : Launch} {g : Gg} {M : Mm} {a b : Int} (h : INV M) (r1 : inR a) (r2 : inR b) : Pr l g mX5_page mX6_page [vi a, vi b] M := by
  refine ⟨_, c5_page h.1 h.2.1 r1 r2, fun r A hA => ?_⟩
  obtain ⟨q1, c1, c2⟩ := hA
  obtain ⟨e5, e6, -, -⟩ := qf_6 c2
  refine ⟨_, c6_page (by rw [e6]; exact h.1) r1 r2, fun r2 B hB => ⟨?_, inv_quiet h c2 c1 hB.1⟩⟩
  rw [q1, hB.2, e6]
theorem pr_pageOf {l : Launch} {g : Gg} {M : Mm} {a : Int} (h : INV M) (r1 : inR a) : Pr l g mX5_pageOf mX6_pageOf [vi a] M := by
  refine ⟨_, c5_pageOf h.1 h.2.1 r1, fun r A hA => ?_⟩
  obtain ⟨q1, c1, c2⟩ := hA
  obtain ⟨e5, e6, -, -⟩ := qf_6 c2
  refine ⟨_, c6_pageOf (by rw [e6]; exact h.1) r1, fun r2 B hB => ⟨?_, inv_quiet h c2 c1 hB.1⟩⟩
  rw [q1, hB.2, e6]
theorem pr_fits {l : Launch} {g : Gg} {M : Mm} {a b : Int} (h : INV M) (r1 : inR a) (r2 : inR b) : Pr l g mX5_fits mX6_fits [vi a, vi b] M := by
  refine ⟨_, c5_fits h.1 h.2.1 r1 r2, fun r A hA => ?_⟩
  obtain ⟨q1, rfl⟩ := hA
  refine ⟨_, c6_fits h.1 r1 r2, fun r2 B hB => ?_⟩
  rw [q1, hB.2, hB.1]
  exact ⟨rfl, h⟩
theorem pr_ways {l : Launch} {g : Gg} {M : Mm} (h : INV M) : Pr l g mX5_ways mX6_ways [] M := by
  refine ⟨_, c5_ways h.1 h.2.1, fun r A hA => ?_⟩
  obtain ⟨q1, c1, c2⟩ := hA
  obtain ⟨e5, e6, -, -⟩ := qf_6 c2
  refine ⟨_, c6_ways (by rw [e6]; exact h.1), fun r2 B hB => ⟨?_, inv_quiet h c2 c1 hB.1⟩⟩
  rw [q1, hB.2, e6]
theorem pr_without {l : Launch} {g : Gg} {M : Mm} {a : Int} (h : INV M) (r1 : inR a) : Pr l g mX5_without mX6_without [vi a] M := by
  refine ⟨_, c5_without h.1 h.2.1 r1, fun r A hA => ?_⟩
  obtain ⟨q1, c1, c2⟩ := hA
  obtain ⟨e5, e6, -, -⟩ := qf_6 c2
  refine ⟨_, c6_without (by rw [e6]; exact h.1) r1, fun r2 B hB => ⟨?_, inv_quiet h c2 c1 hB.1⟩⟩
  have w := hB.2
  rw [e6] at w
  rcases q1 with ⟨b1, q1⟩ | ⟨b1, q1⟩
  · rcases w with ⟨-, q2⟩ | ⟨b2, -⟩
    · exact q1.trans q2.symm
    · exact absurd b1 b2
  · rcases w with ⟨b2, -⟩ | ⟨-, q2⟩
    · exact absurd b2 b1
    · exact q1.trans q2.symm
theorem pr_moved {l : Launch} {g : Gg} {M : Mm} {a b : Int} (h : INV M) (r1 : inR a) (r2 : inR b) : Pr l g mX5_moved mX6_moved [vi a, vi b] M := by
  refine ⟨_, c5_moved h.1 h.2.1 r1 r2, fun r A hA => ?_⟩
  obtain ⟨q1, c1, c2⟩ := hA
  obtain ⟨e5, e6, -, -⟩ := qf_6 c2
  refine ⟨_, c6_moved (by rw [e6]; exact h.1) r1 r2, fun r2 B hB => ⟨?_, inv_quiet h c2 c1 hB.1⟩⟩
  have w := hB.2
  rw [e6] at w
  rcases q1 with ⟨b1, q1⟩ | ⟨b1, n1, q1⟩ | ⟨b1, n1, q1⟩
  · rcases w with ⟨-, q2⟩ | ⟨b2, -⟩ | ⟨b2, -⟩
    · exact q1.trans q2.symm
    · exact absurd b2 b1
    · exact absurd b2 b1
  · rcases w with ⟨b2, -⟩ | ⟨-, -, q2⟩ | ⟨-, n2, -⟩
    · exact absurd b1 b2
    · exact q1.trans q2.symm
    · exact absurd n2 n1
  · rcases w with ⟨b2, -⟩ | ⟨-, n2, -⟩ | ⟨-, -, q2⟩
    · exact absurd b1 b2
    · exact absurd n1 n2
    · exact q1.trans q2.symm
theorem pr_from {l : Launch} {g : Gg} {M : Mm} {a b c : Int} (h : INV M) (r1 : inR a) (r2 : inR b) (r3 : inR c) : Pr l g mX5_from mX6_from [vi a, vi b, vi c] M := by
  refine ⟨_, c5_from h.1 h.2.1 r1 r2 r3, fun r A hA => ?_⟩
  obtain ⟨q1, c1, c2⟩ := hA
  obtain ⟨e5, e6, -, -⟩ := qf_6 c2
  refine ⟨_, c6_from (by rw [e6]; exact h.1) r1 r2 r3, fun r2 B hB => ⟨?_, inv_quiet h c2 c1 hB.1⟩⟩
  rw [q1, hB.2, e6]
theorem jw_cong {s : Sg} {h k : Int → Int} : ∀ {P : Nat}, (∀ p : Nat, p < P → h p = k p) → (∀ p : Nat, p ≤ P → pos s (cH h) p = pos s (cH k) p) ∧ jw s h P = jw s k P
  | 0, _ => ⟨fun p hp => by
      have : p = 0 := by omega
      subst this
      rfl, rfl⟩
  | P + 1, hh => by
    obtain ⟨a, b⟩ := jw_cong (s := s) (P := P) (fun p hp => hh p (by omega))
    have e := hh P (by omega)
    refine ⟨fun p hp => ?_, ?_⟩
    · rcases Nat.lt_or_ge p (P + 1) with z | z
      · exact a p (by omega)
      · have : p = P + 1 := by omega
        subst this
        simp only [pos]
        rw [a P (Nat.le_refl P)]
        show (lb s _ _ (h (P : Int)), _ + h (P : Int)) = _
        rw [e]
    · simp only [jw]
      have e1 : pl s (cH h) P = pl s (cH k) P := by unfold pl; rw [a P (Nat.le_refl P)]
      have e2 : pf s (cH h) P = pf s (cH k) P := by unfold pf; rw [a P (Nat.le_refl P)]
      rw [b, e1, e2, e]
theorem jd_cong {s : Sg} {h k : Int → Int} {P : Nat} {what : Int} (hh : ∀ p : Nat, p < P → h p = k p) : jdF s h P what = jdF s k P what := by
  obtain ⟨a, b⟩ := jw_cong (s := s) hh
  have e1 : ∀ p, p ≤ P → pl s (cH h) p = pl s (cH k) p := fun p hp => by unfold pl; rw [a p hp]
  have e2 : ∀ p, p ≤ P → pf s (cH h) p = pf s (cH k) p := fun p hp => by unfold pf; rw [a p hp]
  have ej : jr s h P = jr s k P := by
    unfold jr
    rw [b, e1 P (Nat.le_refl P), e2 P (Nat.le_refl P)]
  have ep : ∀ p, p ≤ P → paS s (cH h) p = paS s (cH k) p := by
    intro p
    induction p with
    | zero => intro _; rfl
    | succ p ih =>
      intro hp
      simp only [paS]
      rw [ih (by omega), e1 (p + 1) hp, e2 (p + 1) hp]
  unfold jdF
  rw [ej, ep P (Nat.le_refl P)]
theorem pr_judge {l : Launch} {g : Gg} {M : Mm} {a : Int} (h : INV M) (r1 : inR a) : Pr l g mX5_judge mX6_judge [vi a] M := by
  obtain ⟨k1, k2, k3⟩ := h.2.2.2.2
  have ok3 : HdOk (M 3) (M 0 11).toNat := fun p hp => (k3 p (by omega) (by omega)).2
  have ok11 : HdOk (M 111) (M 0 11).toNat := fun p hp => by
    have := k3 p (by omega) (by omega)
    rw [this.1]
    exact this.2
  refine ⟨_, c5_judge (P := (M 0 11).toNat) h.1 h.2.1 (by omega) (by omega) ok3 r1, fun r A hA => ?_⟩
  obtain ⟨q1, c1, c2⟩ := hA
  obtain ⟨e5, e6, e11, -⟩ := qf_6 c2
  refine ⟨_, c6_judge (P := (M 0 11).toNat) (by rw [e6]; exact h.1) (by rw [e5, k1]; omega) (by omega) (by rw [e11]; exact ok11) r1, fun r2 B hB => ⟨?_, inv_quiet h c2 c1 hB.1⟩⟩
  rw [q1, hB.2, e6, e11]
  exact (jd_cong (fun p hp => (k3 p (by omega) (by omega)).1)).symm
