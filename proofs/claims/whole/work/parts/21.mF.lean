/-! ===== the reference: figures come, go, are drawn ===== -/
def insS (s : Sg) (i h w m g : Int) : Sg := fun j => if j = 6 then s 6 + 1 else if j = 7 + 4 * i then h else if j = 7 + 4 * i + 1 then w else if j = 7 + 4 * i + 2 then m else if j = 7 + 4 * i + 3 then g else if 7 + 4 * i + 4 ≤ j ∧ j < 7 + 4 * s 6 + 4 then s (j - 4) else s j
def rmS (s : Sg) (f : Int) : Sg := fun j => if j = 6 then s 6 - 1 else if 7 + 4 * f ≤ j ∧ j < 7 + 4 * (s 6 - 1) then s (j + 4) else if 7 + 4 * (s 6 - 1) ≤ j ∧ j < 7 + 4 * s 6 then 0 else s j
def clS (s : Sg) (c : Int) : Sg := fun j => if j = 6 then c else if 7 + 4 * c ≤ j ∧ j < 7 + 4 * s 6 then 0 else s j
def nx (x : Int) : Int := x * 16807 % 2147483647
def lot (s : Sg) (seed : Int) : Nat → Sg × Int
  | 0 => (clS s 0, seed)
  | k + 1 => (insS (lot s seed k).1 (k : Int) (nx (lot s seed k).2 % (if s 3 = 0 then 1 else s 3) + 1) (nx (nx (lot s seed k).2) % 2) (nx (nx (nx (lot s seed k).2)) % (if s 0 = 0 then 1 else s 0)) (nx (nx (nx (nx (lot s seed k).2))) % 9 + 1), nx (nx (nx (nx (lot s seed k).2))))
theorem ins_lo {s : Sg} {i h w m g j : Int} (h1 : j ≠ 6) (h2 : j < 7 + 4 * i) : insS s i h w m g j = s j := by
  unfold insS
  rw [if_neg h1, if_neg (by omega), if_neg (by omega), if_neg (by omega), if_neg (by omega), if_neg (by omega)]
theorem ins_6 {s : Sg} {i h w m g : Int} : insS s i h w m g 6 = s 6 + 1 := by
  unfold insS
  rw [if_pos rfl]
theorem ins_hi {s : Sg} {i h w m g f p : Int} (h0 : 0 ≤ i) (h1 : i < f) (h2 : f ≤ s 6) (hp : 0 ≤ p ∧ p < 4) : insS s i h w m g (7 + 4 * f + p) = s (7 + 4 * (f - 1) + p) := by
  unfold insS
  rw [if_neg (by omega), if_neg (by omega), if_neg (by omega), if_neg (by omega), if_neg (by omega), if_pos (by omega)]
  congr 1
  omega
theorem ins_at {s : Sg} {i h w m g : Int} (h0 : 0 ≤ i) : insS s i h w m g (7 + 4 * i) = h ∧ insS s i h w m g (7 + 4 * i + 1) = w ∧ insS s i h w m g (7 + 4 * i + 2) = m ∧ insS s i h w m g (7 + 4 * i + 3) = g := by
  unfold insS
  refine ⟨?_, ?_, ?_, ?_⟩
  · rw [if_neg (by omega), if_pos rfl]
  · rw [if_neg (by omega), if_neg (by omega), if_pos rfl]
  · rw [if_neg (by omega), if_neg (by omega), if_neg (by omega), if_pos rfl]
  · rw [if_neg (by omega), if_neg (by omega), if_neg (by omega), if_neg (by omega), if_pos rfl]
theorem WF_ins {s : Sg} (hw : WF s) {i h w m g : Int} (hi : 0 ≤ i ∧ i ≤ s 6) (hn : s 6 < 10) (h1 : 1 ≤ h ∧ h ≤ 40) (h2 : 0 ≤ w ∧ w ≤ 1) (h3 : 0 ≤ m ∧ m ≤ 119) (h4 : 1 ≤ g ∧ g ≤ 9) : WF (insS s i h w m g) := by
  obtain ⟨a0, a1, a2, a3, a4, a5, a6, a7⟩ := hw
  have e : ∀ j : Int, 0 ≤ j → j < 6 → insS s i h w m g j = s j := fun j _ _ => ins_lo (by omega) (by omega)
  refine ⟨?_, ?_, ?_, ?_, ?_, ?_, ?_, ?_⟩
  · rw [e 0 (by omega) (by omega)]; exact a0
  · rw [e 1 (by omega) (by omega)]; exact a1
  · rw [e 2 (by omega) (by omega)]; exact a2
  · rw [e 3 (by omega) (by omega), e 1 (by omega) (by omega)]; exact a3
  · rw [e 4 (by omega) (by omega)]; exact a4
  · rw [e 5 (by omega) (by omega)]; exact a5
  · rw [ins_6]; omega
  · intro f f0 f1
    rw [ins_6] at f1
    rcases Int.lt_trichotomy f i with q | q | q
    · rw [ins_lo (by omega) (by omega), ins_lo (by omega) (by omega), ins_lo (by omega) (by omega), ins_lo (by omega) (by omega)]
      exact a7 f f0 (by omega)
    · subst q
      have := ins_at (s := s) (h := h) (w := w) (m := m) (g := g) hi.1
      rw [this.1, this.2.1, this.2.2.1, this.2.2.2]
      exact ⟨h1, h2, h3, h4⟩
    · have z : insS s i h w m g (7 + 4 * f) = s (7 + 4 * (f - 1)) := by
        have := ins_hi (s := s) (h := h) (w := w) (m := m) (g := g) (p := 0) hi.1 q (by omega) (by omega)
        rw [Int.add_zero, Int.add_zero] at this
        exact this
      rw [z, ins_hi hi.1 q (by omega) (by omega), ins_hi hi.1 q (by omega) (by omega), ins_hi hi.1 q (by omega) (by omega)]
      exact a7 (f - 1) (by omega) (by omega)
theorem rm_lo {s : Sg} {f j : Int} (h1 : j ≠ 6) (h2 : j < 7 + 4 * f) (h3 : f < s 6) : rmS s f j = s j := by
  unfold rmS
  rw [if_neg h1, if_neg (by omega), if_neg (by omega)]
theorem rm_hi {s : Sg} {f k p : Int} (h0 : 0 ≤ f) (h1 : f ≤ k) (h2 : k < s 6 - 1) (hp : 0 ≤ p ∧ p < 4) : rmS s f (7 + 4 * k + p) = s (7 + 4 * (k + 1) + p) := by
  unfold rmS
  rw [if_neg (by omega), if_pos (by omega)]
  congr 1
  omega
theorem rm_6 {s : Sg} {f : Int} : rmS s f 6 = s 6 - 1 := by
  unfold rmS
  rw [if_pos rfl]
theorem WF_rm {s : Sg} (hw : WF s) {f : Int} (hf : 0 ≤ f ∧ f < s 6) : WF (rmS s f) := by
  obtain ⟨a0, a1, a2, a3, a4, a5, a6, a7⟩ := hw
  have e : ∀ j : Int, 0 ≤ j → j < 6 → rmS s f j = s j := fun j _ _ => rm_lo (by omega) (by omega) (by omega)
  refine ⟨?_, ?_, ?_, ?_, ?_, ?_, ?_, ?_⟩
  · rw [e 0 (by omega) (by omega)]; exact a0
  · rw [e 1 (by omega) (by omega)]; exact a1
  · rw [e 2 (by omega) (by omega)]; exact a2
  · rw [e 3 (by omega) (by omega), e 1 (by omega) (by omega)]; exact a3
  · rw [e 4 (by omega) (by omega)]; exact a4
  · rw [e 5 (by omega) (by omega)]; exact a5
  · rw [rm_6]; omega
  · intro k k0 k1
    rw [rm_6] at k1
    rcases Int.lt_or_le k f with q | q
    · rw [rm_lo (by omega) (by omega) (by omega), rm_lo (by omega) (by omega) (by omega), rm_lo (by omega) (by omega) (by omega), rm_lo (by omega) (by omega) (by omega)]
      exact a7 k k0 (by omega)
    · have z : rmS s f (7 + 4 * k) = s (7 + 4 * (k + 1)) := by
        have := rm_hi (s := s) (p := 0) hf.1 q k1 (by omega)
        rw [Int.add_zero, Int.add_zero] at this
        exact this
      rw [z, rm_hi hf.1 q k1 (by omega), rm_hi hf.1 q k1 (by omega), rm_hi hf.1 q k1 (by omega)]
      exact a7 (k + 1) (by omega) (by omega)
theorem sUp_at {s : Sg} {i v : Int} : sUp s i v i = v := by simp [sUp]
theorem sUp_ne {s : Sg} {i v j : Int} (h : j ≠ i) : sUp s i v j = s j := by simp [sUp, h]
theorem WF_men {s : Sg} (hw : WF s) {f v : Int} (hf : 0 ≤ f ∧ f < s 6) (hv : 0 ≤ v ∧ v ≤ 119) : WF (sUp s (7 + 4 * f + 2) v) := by
  obtain ⟨a0, a1, a2, a3, a4, a5, a6, a7⟩ := hw
  have e : ∀ j : Int, j < 7 → sUp s (7 + 4 * f + 2) v j = s j := fun j _ => sUp_ne (by omega)
  refine ⟨?_, ?_, ?_, ?_, ?_, ?_, ?_, ?_⟩
  · rw [e 0 (by omega)]; exact a0
  · rw [e 1 (by omega)]; exact a1
  · rw [e 2 (by omega)]; exact a2
  · rw [e 3 (by omega), e 1 (by omega)]; exact a3
  · rw [e 4 (by omega)]; exact a4
  · rw [e 5 (by omega)]; exact a5
  · rw [e 6 (by omega)]; exact a6
  · intro k k0 k1
    rw [e 6 (by omega)] at k1
    have := a7 k k0 k1
    have x0 : sUp s (7 + 4 * f + 2) v (7 + 4 * k) = s (7 + 4 * k) := sUp_ne (by omega)
    have x1 : sUp s (7 + 4 * f + 2) v (7 + 4 * k + 1) = s (7 + 4 * k + 1) := sUp_ne (by omega)
    have x3 : sUp s (7 + 4 * f + 2) v (7 + 4 * k + 3) = s (7 + 4 * k + 3) := sUp_ne (by omega)
    rw [x0, x1, x3]
    refine ⟨this.1, this.2.1, ?_, this.2.2.2⟩
    by_cases q : k = f
    · rw [q, sUp_at]; exact hv
    · rw [sUp_ne (by omega)]; exact this.2.2.1
theorem WF_ly {s : Sg} (hw : WF s) {what v : Int} (hb : bdB s what v = true) : WF (lyS s what v) := by
  obtain ⟨a0, a1, a2, a3, a4, a5, a6, a7⟩ := hw
  unfold bdB at hb
  simp only [Bool.and_eq_true, decide_eq_true_eq] at hb
  obtain ⟨hw0, hb⟩ := hb
  have e : ∀ j : Int, j ≠ 3 → lyS s what v j = sUp s what v j := fun j h => sUp_ne h
  have e7 : ∀ j : Int, 6 ≤ j → lyS s what v j = s j := fun j h => by rw [e j (by omega), sUp_ne (by omega)]
  have e3 : lyS s what v 3 = (if sUp s what v 3 ≤ sUp s what v 1 then sUp s what v 3 else sUp s what v 1) := sUp_at
  have hbb : (what = 0 ∧ 0 ≤ v ∧ v ≤ 120) ∨ (what = 1 ∧ 6 ≤ v ∧ v ≤ 40) ∨ (what = 2 ∧ 1 ≤ v ∧ v ≤ 2) ∨ (what = 3 ∧ 0 ≤ v ∧ v ≤ s 1) ∨ (what = 4 ∧ 1 ≤ v ∧ v ≤ 4) ∨ (what = 5 ∧ 0 ≤ v ∧ v ≤ 1) := by
    split at hb
    · rw [decide_eq_true_eq] at hb; omega
    · split at hb
      · rw [decide_eq_true_eq] at hb; omega
      · split at hb
        · rw [decide_eq_true_eq] at hb; omega
        · split at hb
          · rw [decide_eq_true_eq] at hb; omega
          · split at hb
            · rw [decide_eq_true_eq] at hb; omega
            · rw [decide_eq_true_eq] at hb; omega
  refine ⟨?_, ?_, ?_, ?_, ?_, ?_, ?_, ?_⟩
  · rw [e 0 (by omega)]; unfold sUp; split <;> omega
  · rw [e 1 (by omega)]; unfold sUp; split <;> omega
  · rw [e 2 (by omega)]; unfold sUp; split <;> omega
  · rw [e3, e 1 (by omega)]
    have z1 : 6 ≤ sUp s what v 1 := by unfold sUp; split <;> omega
    have z3 : 0 ≤ sUp s what v 3 := by unfold sUp; split <;> omega
    split <;> omega
  · rw [e 4 (by omega)]; unfold sUp; split <;> omega
  · rw [e 5 (by omega)]; unfold sUp; split <;> omega
  · rw [e7 6 (by omega)]; exact a6
  · intro k k0 k1
    rw [e7 6 (by omega)] at k1
    rw [e7 _ (by omega), e7 _ (by omega), e7 _ (by omega), e7 _ (by omega)]
    exact a7 k k0 k1
theorem WF_cl {s : Sg} (hw : WF s) {c : Int} (hc : 0 ≤ c ∧ c ≤ s 6) : WF (clS s c) := by
  obtain ⟨a0, a1, a2, a3, a4, a5, a6, a7⟩ := hw
  have e : ∀ j : Int, j ≠ 6 → j < 7 + 4 * c → clS s c j = s j := fun j h1 h2 => by unfold clS; rw [if_neg h1, if_neg (by omega)]
  have e6 : clS s c 6 = c := by unfold clS; rw [if_pos rfl]
  refine ⟨?_, ?_, ?_, ?_, ?_, ?_, ?_, ?_⟩
  · rw [e 0 (by omega) (by omega)]; exact a0
  · rw [e 1 (by omega) (by omega)]; exact a1
  · rw [e 2 (by omega) (by omega)]; exact a2
  · rw [e 3 (by omega) (by omega), e 1 (by omega) (by omega)]; exact a3
  · rw [e 4 (by omega) (by omega)]; exact a4
  · rw [e 5 (by omega) (by omega)]; exact a5
  · rw [e6]; omega
  · intro k k0 k1
    rw [e6] at k1
    rw [e _ (by omega) (by omega), e _ (by omega) (by omega), e _ (by omega) (by omega), e _ (by omega) (by omega)]
    exact a7 k k0 (by omega)
theorem nx_bd (x : Int) : 0 ≤ nx x ∧ nx x < 2147483647 := by
  unfold nx
  omega
theorem lot_ok {s : Sg} (hw : WF s) {seed : Int} (hs : 0 ≤ seed ∧ seed < 2147483648) : ∀ k : Nat, k ≤ 10 → WF (lot s seed k).1 ∧ (lot s seed k).1 6 = (k : Int) ∧ (∀ j : Int, j < 6 → (lot s seed k).1 j = s j) ∧ 0 ≤ (lot s seed k).2 ∧ (lot s seed k).2 < 2147483648
  | 0, _ => by
    have a6 := hw.2.2.2.2.2.2.1
    refine ⟨WF_cl hw ⟨by omega, by omega⟩, ?_, fun j hj => ?_, hs⟩
    · show clS s 0 6 = _
      unfold clS
      rw [if_pos rfl]
      rfl
    · show clS s 0 j = _
      unfold clS
      rw [if_neg (by omega), if_neg (by omega)]
  | k + 1, hk => by
    have a0 := hw.1
    have a1 := hw.2.1
    have a3 := hw.2.2.2.1
    obtain ⟨i1, i2, i3, i4⟩ := lot_ok hw hs k (by omega)
    have b4 := nx_bd (nx (nx (nx (lot s seed k).2)))
    refine ⟨WF_ins i1 ⟨by omega, by omega⟩ (by omega) ?_ ?_ ?_ ?_, ?_, fun j hj => ?_, ?_⟩
    · have := nx_bd (lot s seed k).2
      by_cases q : s 3 = 0
      · rw [if_pos q]; omega
      · rw [if_neg q]
        have h1 := Int.emod_nonneg (nx (lot s seed k).2) q
        have h2 := Int.emod_lt_of_pos (nx (lot s seed k).2) (show 0 < s 3 by omega)
        omega
    · omega
    · by_cases q : s 0 = 0
      · rw [if_pos q]; omega
      · rw [if_neg q]
        have h1 := Int.emod_nonneg (nx (nx (nx (lot s seed k).2))) q
        have h2 := Int.emod_lt_of_pos (nx (nx (nx (lot s seed k).2))) (show 0 < s 0 by omega)
        omega
    · omega
    · simp only [lot, ins_6, i2]
      omega
    · simp only [lot]
      rw [ins_lo (by omega) (by omega)]
      exact i3 j hj
    · show 0 ≤ nx (nx (nx (nx (lot s seed k).2))) ∧ nx (nx (nx (nx (lot s seed k).2))) < 2147483648
      omega
/-! insert, remove -/
def shS (s : Sg) (k : Int) : Sg := fun j => if 11 + k < j ∧ j < 11 + 4 * s 6 then s (j - 4) else s j
set_option maxRecDepth 10000 in
set_option maxHeartbeats 1000000 in
theorem c6_insert_l {x : Xx} {post : Int → Mm → Prop} (C : Cx x mX6_insert) (hR : Rt x mX6_insert post) {M : Mm} {s : Sg} (h6 : 0 ≤ s 6 ∧ s 6 < 10) {i h w m g : Int} (hi : 0 ≤ i ∧ i ≤ s 6) (hp : ∀ M2, (∀ a, a ≠ 106 → M2 a = M a) → M2 106 = insS s i h w m g → post 0 M2) : ∀ (d : Nat) (k : Int), k + 1 = 4 * i + (d : Int) → k < 4 * s 6 → ∀ M2, (∀ a, a ≠ 106 → M2 a = M a) → M2 106 = shS s k → Gx x 7 13 [(0, vr (xg x) 105), (1, vi i), (2, vi h), (3, vi w), (4, vi m), (5, vi g), (6, vi k)] [] M2 := by
  intro d
  induction d with
  | zero =>
    intro k hk hk2 M2 h1 h2
    refine X6_insert_13 C hR i h w m g k M2 ⟨⟨⟨by omega, by omega⟩, by omega, by omega⟩, fun _ => ⟨⟨by omega, by omega⟩, fun A hA => ⟨⟨by omega, by omega⟩, fun B hB => ⟨⟨by omega, by omega⟩, fun D hD => ⟨⟨by omega, by omega⟩, fun E hE F hF => ?_⟩⟩⟩⟩, fun q => absurd (by omega) q⟩
    refine hp F (fun a ha => by rw [hF, mu_ne ha, hE, mu_ne ha, hD, mu_ne ha, hB, mu_ne ha, hA, mu_ne ha]; exact h1 a ha) ?_
    have e6 : E 106 6 = s 6 := by
      rw [hE, mu_off (by omega), hD, mu_off (by omega), hB, mu_off (by omega), hA, mu_off (by omega), h2]
      unfold shS
      rw [if_neg (by omega)]
    rw [hF, mu_sUp, e6, hE, mu_sUp, hD, mu_sUp, hB, mu_sUp, hA, mu_sUp, h2]
    funext j
    unfold sUp shS insS
    have ek : k = 4 * i - 1 := by omega
    subst ek
    grind
  | succ d ih =>
    intro k hk hk2 M2 h1 h2
    refine X6_insert_13 C hR i h w m g k M2 ⟨⟨⟨by omega, by omega⟩, by omega, by omega⟩, fun q => absurd q (by omega), fun _ => ⟨⟨by omega, by omega⟩, ⟨by omega, by omega⟩, fun A hA => ?_⟩⟩
    refine ih (k + (-1)) (by omega) (by omega) A (fun a ha => by rw [hA, mu_ne ha]; exact h1 a ha) ?_
    rw [hA, mu_sUp, h2]
    funext j
    unfold sUp shS
    have e1 : 11 + k - 4 = 7 + k := by omega
    grind
set_option maxRecDepth 10000 in
set_option maxHeartbeats 1000000 in
theorem c6_insert {l : Launch} {g : Gg} {M : Mm} {i h w m z : Int} (h6 : 0 ≤ M 106 6 ∧ M 106 6 < 10) (hi : 0 ≤ i ∧ i ≤ M 106 6) : Ct l g mX6_insert [vr g 105, vi i, vi h, vi w, vi m, vi z] M (fun r M2 => (∀ a, a ≠ 106 → M2 a = M a) ∧ M2 106 = insS (M 106) i h w m z) := by
  refine ct_of (by decide) (Nat.le_of_ble_eq_true rfl) ?_
  intro x hl hg C hR
  subst hl
  subst hg
  refine X6_insert_0 C hR i h w m z M (fun k hk => ?_)
  refine c6_insert_l C hR (s := M 106) h6 hi (fun M2 h1 h2 => ⟨h1, h2⟩) (4 * M 106 6 - 4 * i).toNat k (by omega) (by omega) M (fun _ _ => rfl) ?_
  funext j
  unfold shS
  rw [if_neg (by omega)]
set_option maxRecDepth 10000 in
set_option maxHeartbeats 1000000 in
theorem c6_remove_l {x : Xx} {post : Int → Mm → Prop} (C : Cx x mX6_remove) (hR : Rt x mX6_remove post) {M : Mm} {s : Sg} (h6 : 0 ≤ s 6 ∧ s 6 < 10) (hp : ∀ M2, (∀ a, a ≠ 106 → M2 a = M a) → M2 106 = (fun j => if 7 + 4 * s 6 ≤ j ∧ j < 7 + 4 * s 6 + 4 then 0 else s j) → post 0 M2) : ∀ (d k : Nat), k + d = 4 → ∀ M2, (∀ a, a ≠ 106 → M2 a = M a) → M2 106 = (fun j => if 7 + 4 * s 6 ≤ j ∧ j < 7 + 4 * s 6 + (k : Int) then 0 else s j) → Gx x 3 49 [(0, vr (xg x) 105), (2, vi (k : Int))] [] M2 := by
  intro d
  induction d with
  | zero =>
    intro k hk M2 h1 h2
    have : k = 4 := by omega
    subst this
    exact X6_remove_49 C hR _ M2 ⟨by decide, fun _ => hp M2 h1 h2, fun q => absurd (by decide) q⟩
  | succ d ih =>
    intro k hk M2 h1 h2
    have e6 : M2 106 6 = s 6 := by
      rw [h2]
      show (if 7 + 4 * s 6 ≤ 6 ∧ (6 : Int) < 7 + 4 * s 6 + (k : Int) then 0 else s 6) = s 6
      rw [if_neg (by omega)]
    refine X6_remove_49 C hR _ M2 ⟨⟨by omega, by omega⟩, fun q => absurd q (by omega), fun _ => ?_⟩
    rw [e6]
    refine ⟨⟨by omega, by omega⟩, fun A hA => ih (k + 1) (by omega) A (fun a ha => by rw [hA, mu_ne ha]; exact h1 a ha) ?_⟩
    rw [hA, mu_sUp, h2]
    funext j
    unfold sUp
    grind
set_option maxRecDepth 10000 in
set_option maxHeartbeats 1000000 in
theorem c6_remove {l : Launch} {g : Gg} {M : Mm} {f : Int} (hw : WF (M 106)) (hf : 0 ≤ f ∧ f < M 106 6) : Ct l g mX6_remove [vr g 105, vi f] M (fun r M2 => (∀ a, a ≠ 106 → M2 a = M a) ∧ M2 106 = rmS (M 106) f) := by
  refine ct_of (by decide) (Nat.le_of_ble_eq_true rfl) ?_
  intro x hl hg C hR
  subst hl
  subst hg
  have h6 := hw.2.2.2.2.2.2.1
  refine X6_remove_0 C hR f M (fun A hA => ?_)
  have eA : A 106 = sUp (M 106) 6 (M 106 6 - 1) := by rw [hA, mu_sUp]
  have eA6 : A 106 6 = M 106 6 - 1 := by rw [eA, sUp_at]
  rw [eA6]
  refine ⟨_, c6_bring isA_106 isA_106 ⟨by omega, by omega⟩ ⟨by omega, by omega⟩ (by omega) (fun _ => by omega), ?_⟩
  rintro r B rfl
  have eB : ∀ j : Int, mcp A 106 (7 + 4 * f + 4) 106 (7 + 4 * f) (4 * (M 106 6 - 1 - f)) 106 j = (if 7 + 4 * f ≤ j ∧ j < 7 + 4 * (M 106 6 - 1) then M 106 (j + 4) else sUp (M 106) 6 (M 106 6 - 1) j) := by
    intro j
    by_cases q : 7 + 4 * f ≤ j ∧ j < 7 + 4 * (M 106 6 - 1)
    · rw [mcp_in (by omega), if_pos q, eA, sUp_ne (by omega)]
      congr 1
      omega
    · rw [mcp_out (by omega), if_neg q, eA]
  have eB6 : mcp A 106 (7 + 4 * f + 4) 106 (7 + 4 * f) (4 * (M 106 6 - 1 - f)) 106 6 = M 106 6 - 1 := by
    rw [eB, if_neg (by omega), sUp_at]
  refine c6_remove_l C hR (M := mcp A 106 (7 + 4 * f + 4) 106 (7 + 4 * f) (4 * (M 106 6 - 1 - f))) (s := mcp A 106 (7 + 4 * f + 4) 106 (7 + 4 * f) (4 * (M 106 6 - 1 - f)) 106) (by rw [eB6]; omega) ?_ 4 0 (by omega) _ (fun _ _ => rfl) ?_
  · intro D h1 h2
    refine ⟨fun a ha => by rw [h1 a ha, mcp_ne ha, hA, mu_ne ha], ?_⟩
    rw [h2, eB6]
    funext j
    show (if 7 + 4 * (M 106 6 - 1) ≤ j ∧ j < 7 + 4 * (M 106 6 - 1) + 4 then 0 else _) = _
    rw [eB]
    unfold rmS sUp
    grind
  · rw [eB6]
    funext j
    show _ = if _ then _ else _
    rw [if_neg (by omega)]
