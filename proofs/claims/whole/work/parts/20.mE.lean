/-! ===== the reference: what changes its state ===== -/
set_option maxRecDepth 10000 in
set_option maxHeartbeats 1000000 in
theorem c6_in {l : Launch} {g : Gg} {M : Mm} {v a b : Int} (h1 : inR v) (h2 : inR a) (h3 : inR b) : Ct l g mX6_in [vi v, vi a, vi b] M (fun r M2 => r = b2 (decide (a ≤ v ∧ v ≤ b)) ∧ M2 = M) := by
  refine ct_of (by decide) (Nat.le_of_ble_eq_true rfl) ?_
  intro x hl hg C hR
  subst hl
  subst hg
  refine X6_in_0 C hR v a b M ?_
  unfold b2
  grind
set_option maxRecDepth 10000 in
set_option maxHeartbeats 1000000 in
theorem c6_isFigure {l : Launch} {g : Gg} {M : Mm} {f : Int} (hw : WF (M 106)) (hf : inR f) : Ct l g mX6_isFigure [vr g 105, vi f] M (fun r M2 => r = b2 (decide (0 ≤ f ∧ f < M 106 6)) ∧ M2 = M) := by
  refine ct_of (by decide) (Nat.le_of_ble_eq_true rfl) ?_
  intro x hl hg C hR
  subst hl
  subst hg
  have h6 := hw.2.2.2.2.2.2.1
  refine X6_isFigure_0 C hR f M ⟨_, c6_in hf (by decide) ⟨by omega, by omega⟩, ?_⟩
  rintro r M1 ⟨rfl, rfl⟩
  refine ⟨b2_01 _, ?_, rfl⟩
  congr 1
  rw [Bool.eq_iff_iff]
  simp only [decide_eq_true_eq]
  omega
theorem mcp_ne {M : Mm} {k0 k1 a : Nat} {sp dp c : Int} (h : a ≠ k1) : mcp M k0 sp k1 dp c a = M a := by
  unfold mcp mset
  rw [if_neg h]
theorem mcp_in {M : Mm} {k0 k1 : Nat} {sp dp c b : Int} (h : dp ≤ b ∧ b < dp + c) : mcp M k0 sp k1 dp c k1 b = M k0 (sp + (b - dp)) := by
  unfold mcp mset
  rw [if_pos rfl, if_pos h]
theorem mcp_out {M : Mm} {k0 k1 : Nat} {sp dp c b : Int} (h : ¬ (dp ≤ b ∧ b < dp + c)) : mcp M k0 sp k1 dp c k1 b = M k1 b := by
  unfold mcp mset
  rw [if_pos rfl, if_neg h]
theorem mcp_0 {M : Mm} {k0 k1 : Nat} {sp dp : Int} : mcp M k0 sp k1 dp 0 = M := by
  funext a b
  by_cases h : a = k1
  · subst h
    rw [mcp_out (by omega)]
  · rw [mcp_ne h]
set_option maxRecDepth 10000 in
set_option maxHeartbeats 1000000 in
theorem c6_bring_l {x : Xx} {post : Int → Mm → Prop} (C : Cx x mX6_bring) (hR : Rt x mX6_bring post) {M : Mm} {k0 m0 k2 m2 : Nat} (h0 : isA k0 m0) (h2 : isA k2 m2) {at0 to0 n : Int} (ha : 0 ≤ at0 ∧ at0 + n ≤ m0) (ht : 0 ≤ to0 ∧ to0 + n ≤ m2) (hn : 0 ≤ n) (hs : k0 = k2 → to0 ≤ at0) (hp : post 0 (mcp M k0 at0 k2 to0 n)) : ∀ (d i : Nat), i + d = n.toNat → Gx x 6 3 [(0, vr (xg x) k0), (1, vi at0), (2, vr (xg x) k2), (3, vi to0), (4, vi n), (5, vi (i : Int))] [] (mcp M k0 at0 k2 to0 i) := by
  have hb := h0.2.2.2
  intro d
  induction d with
  | zero =>
    intro i hi
    refine X6_bring_3 C hR h0 h2 at0 to0 n _ _ ⟨⟨⟨by omega, by omega⟩, by omega, by omega⟩, fun _ => ?_, fun h => absurd h (by omega)⟩
    have : (i : Int) = n := by omega
    rw [this]
    exact hp
  | succ d ih =>
    intro i hi
    refine X6_bring_3 C hR h0 h2 at0 to0 n _ _ ⟨⟨⟨by omega, by omega⟩, by omega, by omega⟩, fun h => absurd h (by omega), fun _ => ⟨⟨by omega, by omega⟩, ⟨by omega, by omega⟩, fun M1 h1 => ?_⟩⟩
    have e : M1 = mcp M k0 at0 k2 to0 ((i + 1 : Nat) : Int) := by
      have ev : mcp M k0 at0 k2 to0 (i : Int) k0 (at0 + (i : Int)) = M k0 (at0 + (i : Int)) := by
        by_cases hk : k0 = k2
        · have hsi := hs hk
          subst hk
          rw [mcp_out (by omega)]
        · rw [mcp_ne hk]
      rw [h1, ev]
      funext a b
      by_cases ha2 : a = k2
      · subst ha2
        by_cases hb2 : b = to0 + (i : Int)
        · rw [hb2, mu_at, mcp_in (by omega)]
          congr 1
          omega
        · rw [mu_off hb2]
          by_cases hr : to0 ≤ b ∧ b < to0 + (i : Int)
          · rw [mcp_in hr, mcp_in (by omega)]
          · rw [mcp_out hr, mcp_out (by omega)]
      · rw [mu_ne ha2, mcp_ne ha2, mcp_ne ha2]
    rw [e]
    exact ih (i + 1) (by omega)
set_option maxRecDepth 10000 in
set_option maxHeartbeats 1000000 in
theorem c6_bring {l : Launch} {g : Gg} {M : Mm} {k0 m0 k2 m2 : Nat} {at0 to0 n : Int} (h0 : isA k0 m0) (h2 : isA k2 m2) (ha : 0 ≤ at0 ∧ at0 + n ≤ m0) (ht : 0 ≤ to0 ∧ to0 + n ≤ m2) (hn : 0 ≤ n) (hs : k0 = k2 → to0 ≤ at0) : Ct l g mX6_bring [vr g k0, vi at0, vr g k2, vi to0, vi n] M (fun r M2 => M2 = mcp M k0 at0 k2 to0 n) := by
  refine ct_of (by decide) (Nat.le_of_ble_eq_true rfl) ?_
  intro x hl hg C hR
  subst hl
  subst hg
  have := c6_bring_l C hR h0 h2 ha ht hn hs rfl n.toNat 0 (by omega)
  rw [show ((0 : Nat) : Int) = 0 from rfl, mcp_0] at this
  exact X6_bring_0 C hR h0 h2 at0 to0 n M this
theorem isA_106 : isA 106 47 := by unfold isA; decide
theorem isA_107 : isA 107 47 := by unfold isA; decide
theorem isA_108 : isA 108 282 := by unfold isA; decide
theorem isA_109 : isA 109 94 := by unfold isA; decide
/-- the reference's setting has been put behind the ones that can be undone -/
def NoteP (M M2 : Mm) : Prop := (∀ a, a ≠ 105 → a ≠ 108 → M2 a = M a) ∧ (∀ i, i ≠ 2 → M2 105 i = M 105 i) ∧ M2 105 2 = (if M 105 2 = 6 then 6 else M 105 2 + 1) ∧ ∀ t i : Int, 0 ≤ t → 0 ≤ i → i < 47 → (t + 1 = M2 105 2 → M2 108 (47 * t + i) = M 106 i) ∧ (t + 1 < M2 105 2 → M2 108 (47 * t + i) = M 108 (47 * (t + (if M 105 2 = 6 then 1 else 0)) + i))
set_option maxRecDepth 10000 in
set_option maxHeartbeats 1000000 in
theorem c6_note {l : Launch} {g : Gg} {M : Mm} (hz : 0 ≤ M 105 2 ∧ M 105 2 ≤ 6) : Ct l g mX6_note [vr g 105] M (fun r M2 => NoteP M M2) := by
  refine ct_of (by decide) (Nat.le_of_ble_eq_true rfl) ?_
  intro x hl hg C hR
  subst hl
  subst hg
  have tail : ∀ M1 : Mm, (∀ a, a ≠ 105 → a ≠ 108 → M1 a = M a) → (∀ i, i ≠ 2 → M1 105 i = M 105 i) → (M1 105 2 = (if M 105 2 = 6 then 5 else M 105 2)) → (∀ t i : Int, 0 ≤ t → 0 ≤ i → i < 47 → t < M1 105 2 → M1 108 (47 * t + i) = M 108 (47 * (t + (if M 105 2 = 6 then 1 else 0)) + i)) → Gx x 1 36 [(0, vr (xg x) 105)] [] M1 := by
    intro M1 k1 k2 k3 k4
    have z1 : 0 ≤ M1 105 2 ∧ M1 105 2 ≤ 5 := by rw [k3]; split <;> omega
    refine X6_note_36 C hR M1 ⟨_, c6_bring isA_106 isA_108 ⟨by omega, by omega⟩ ⟨by omega, by omega⟩ (by omega) (fun h => absurd h (by decide)), ?_⟩
    rintro r M2 rfl
    intro M3 h3
    have e5 : mcp M1 106 0 108 (47 * M1 105 2) 47 105 = M1 105 := mcp_ne (by decide)
    rw [e5] at h3
    refine ⟨fun a a1 a2 => ?_, fun i hi => ?_, ?_, fun t i t0 i0 i1 => ?_⟩
    · rw [h3, mu_ne a1, mcp_ne a2]
      exact k1 a a1 a2
    · rw [h3, mu_off hi, e5]
      exact k2 i hi
    · rw [h3, mu_at, k3]
      split <;> omega
    · have e2 : M3 105 2 = M1 105 2 + 1 := by rw [h3, mu_at]
      rw [e2]
      refine ⟨fun ht => ?_, fun ht => ?_⟩
      · rw [h3, mu_ne (by decide), mcp_in (by omega), k1 106 (by decide) (by decide)]
        congr 1
        omega
      · rw [h3, mu_ne (by decide), mcp_out (by omega)]
        exact k4 t i t0 i0 i1 (by omega)
  refine X6_note_0 C hR M ⟨⟨by omega, by omega⟩, fun q => tail M (fun _ _ _ => rfl) (fun _ _ => rfl) (by rw [if_neg q]) (fun t i _ _ _ _ => by rw [if_neg q]; congr 1; omega), fun q => ⟨_, c6_bring isA_108 isA_108 ⟨by omega, by omega⟩ ⟨by omega, by omega⟩ (by omega) (fun _ => by omega), ?_⟩⟩
  rintro r M2 rfl
  intro M3 h3
  have e5 : mcp M 108 47 108 0 235 105 = M 105 := mcp_ne (by decide)
  rw [e5] at h3
  refine tail M3 (fun a a1 a2 => by rw [h3, mu_ne a1, mcp_ne a2]) (fun i hi => by rw [h3, mu_off hi, e5]) (by rw [h3, mu_at, if_pos q]; omega) (fun t i t0 i0 i1 ht => ?_)
  have e2 : M3 105 2 = 5 := by rw [h3, mu_at]; omega
  rw [e2] at ht
  rw [h3, mu_ne (by decide), mcp_in (by omega), if_pos q]
  congr 1
  omega
def sUp (s : Sg) (i v : Int) : Sg := fun j => if j = i then v else s j
theorem mu_sUp (M : Mm) (k : Nat) (i v : Int) : mu M k i v k = sUp (M k) i v := by
  funext j
  simp [mu, sUp]
/-- which bounds may be: what, v -/
def bdB (s : Sg) (what v : Int) : Bool := decide (0 ≤ what ∧ what ≤ 5) && (if what = 0 then decide (0 ≤ v ∧ v ≤ 120) else if what = 1 then decide (6 ≤ v ∧ v ≤ 40) else if what = 2 then decide (1 ≤ v ∧ v ≤ 2) else if what = 3 then decide (0 ≤ v ∧ v ≤ s 1) else if what = 4 then decide (1 ≤ v ∧ v ≤ 4) else decide (0 ≤ v ∧ v ≤ 1))
def lyS (s : Sg) (what v : Int) : Sg := sUp (sUp s what v) 3 (if sUp s what v 3 ≤ sUp s what v 1 then sUp s what v 3 else sUp s what v 1)
set_option maxRecDepth 10000 in
set_option maxHeartbeats 1000000 in
theorem c6_isBound {l : Launch} {g : Gg} {M : Mm} {what v : Int} (hw : WF (M 106)) (h1 : 0 ≤ what ∧ what ≤ 5) (h2 : inR v) : Ct l g mX6_isBound [vr g 105, vi what, vi v] M (fun r M2 => r = b2 (bdB (M 106) what v) ∧ M2 = M) := by
  refine ct_of (by decide) (Nat.le_of_ble_eq_true rfl) ?_
  intro x hl hg C hR
  subst hl
  subst hg
  have hh := hw.2.1
  have fin : ∀ (a b : Int) (y : Bool), y = decide (a ≤ v ∧ v ≤ b) → bdB (M 106) what v = y → ∀ (r : Int) (M1 : Mm), (r = b2 (decide (a ≤ v ∧ v ≤ b)) ∧ M1 = M) → (r = 0 ∨ r = 1) ∧ (r = b2 (bdB (M 106) what v) ∧ M1 = M) := by
    intro a b y hy hb r M1 hr
    obtain ⟨rfl, rfl⟩ := hr
    refine ⟨b2_01 _, ?_, rfl⟩
    rw [hb, hy]
  refine X6_isBound_0 C hR what v M ⟨⟨by omega, by omega⟩, fun q => ⟨_, c6_in h2 (by decide) (by decide), fin 0 1 _ rfl ?_⟩, fun q => ⟨_, c6_in h2 (by decide) (by decide), fin 0 120 _ rfl ?_⟩, fun q => ⟨_, c6_in h2 (by decide) (by decide), fin 6 40 _ rfl ?_⟩, fun q => ⟨_, c6_in h2 (by decide) (by decide), fin 1 2 _ rfl ?_⟩, fun q => ⟨_, c6_in h2 (by decide) ⟨by omega, by omega⟩, fin 0 (M 106 1) _ rfl ?_⟩, fun q => ⟨_, c6_in h2 (by decide) (by decide), fin 1 4 _ rfl ?_⟩⟩
  · have : what = 5 := by omega
    subst this
    simp [bdB]
  all_goals subst q
  all_goals simp [bdB]
/-- only the reference's lasting state, and in it all but the setting and what can be undone, is as it was -/
def ChM (M M2 : Mm) : Prop := (∀ a, a < 105 → M2 a = M a) ∧ M2 109 = M 109 ∧ M2 110 = M 110 ∧ M2 111 = M 111 ∧ M2 105 6 = M 105 6 ∧ M2 105 2 = (if M 105 2 = 6 then 6 else M 105 2 + 1) ∧ ∀ t i : Int, 0 ≤ t → 0 ≤ i → i < 47 → (t + 1 = M2 105 2 → M2 108 (47 * t + i) = M 106 i) ∧ (t + 1 < M2 105 2 → M2 108 (47 * t + i) = M 108 (47 * (t + (if M 105 2 = 6 then 1 else 0)) + i))
def Sm (M M2 : Mm) : Prop := (∀ a, a < 105 → M2 a = M a) ∧ M2 106 = M 106 ∧ M2 108 = M 108 ∧ M2 109 = M 109 ∧ M2 110 = M 110 ∧ M2 111 = M 111 ∧ ∀ i, i ≠ 12 → M2 105 i = M 105 i
theorem Sm.rf (M : Mm) : Sm M M := ⟨fun _ _ => rfl, rfl, rfl, rfl, rfl, rfl, fun _ _ => rfl⟩
theorem FrP.Sm {M M2 : Mm} (h : FrP M M2) : Sm M M2 := by
  refine ⟨fun a ha => h.1 a ?_ ?_ ?_ ?_ ?_ ?_ ?_, h.1 106 ?_ ?_ ?_ ?_ ?_ ?_ ?_, h.1 108 ?_ ?_ ?_ ?_ ?_ ?_ ?_, h.1 109 ?_ ?_ ?_ ?_ ?_ ?_ ?_, h.1 110 ?_ ?_ ?_ ?_ ?_ ?_ ?_, h.1 111 ?_ ?_ ?_ ?_ ?_ ?_ ?_, h.2⟩ <;> omega
theorem Fr4.Sm {M M2 : Mm} (h : Fr4 M M2) : Sm M M2 := by
  refine ⟨fun a ha => h a ?_ ?_ ?_ ?_, h 106 ?_ ?_ ?_ ?_, h 108 ?_ ?_ ?_ ?_, h 109 ?_ ?_ ?_ ?_, h 110 ?_ ?_ ?_ ?_, h 111 ?_ ?_ ?_ ?_, fun i _ => by rw [h 105 (by decide) (by decide) (by decide) (by decide)]⟩ <;> omega
/-- behind note(), and writes to the setting -/
theorem chM_of {M A B : Mm} (h : NoteP M A) (k : ∀ a, a ≠ 106 → a ≠ 112 → a ≠ 113 → a ≠ 114 → B a = A a) : ChM M B := by
  obtain ⟨h1, h2, h3, h4⟩ := h
  have e5 : B 105 = A 105 := k 105 (by decide) (by decide) (by decide) (by decide)
  have e8 : B 108 = A 108 := k 108 (by decide) (by decide) (by decide) (by decide)
  refine ⟨fun a ha => ?_, ?_, ?_, ?_, ?_, ?_, ?_⟩
  · rw [k a (by omega) (by omega) (by omega) (by omega), h1 a (by omega) (by omega)]
  · rw [k 109 (by decide) (by decide) (by decide) (by decide), h1 109 (by decide) (by decide)]
  · rw [k 110 (by decide) (by decide) (by decide) (by decide), h1 110 (by decide) (by decide)]
  · rw [k 111 (by decide) (by decide) (by decide) (by decide), h1 111 (by decide) (by decide)]
  · rw [e5, h2 6 (by decide)]
  · rw [e5, h3]
  · rw [e5, e8]
    exact h4
set_option maxRecDepth 10000 in
set_option maxHeartbeats 1000000 in
theorem c6_layout {l : Launch} {g : Gg} {M : Mm} {what v : Int} (hw : WF (M 106)) (hz : 0 ≤ M 105 2 ∧ M 105 2 ≤ 6) (h1 : inR what) (h2 : inR v) : Ct l g mX6_layout [vr g 105, vi what, vi v] M (fun r M2 => (bdB (M 106) what v = true ∧ r = M 106 what ∧ M2 106 = lyS (M 106) what v ∧ ChM M M2) ∨ (bdB (M 106) what v = false ∧ r = -1000000002 ∧ M2 = M)) := by
  refine ct_of (by decide) (Nat.le_of_ble_eq_true rfl) ?_
  intro x hl hg C hR
  subst hl
  subst hg
  have hh := hw.2.1
  have h3 := hw.2.2.2.1
  refine X6_layout_0 C hR what v M ⟨_, c6_in h1 (by decide) (by decide), ?_⟩
  rintro r M1 ⟨rfl, rfl⟩
  refine ⟨b2_inR _, fun q => Or.inr ⟨?_, rfl, rfl⟩, fun q => ?_⟩
  · unfold bdB
    rw [b2_z q]
    rfl
  have hr := b2_nz q
  rw [decide_eq_true_eq] at hr
  refine ⟨_, c6_isBound hw hr h2, ?_⟩
  rintro r M2 ⟨rfl, rfl⟩
  refine ⟨b2_inR _, fun q2 => ⟨_, c6_note hz, ?_⟩, fun q2 => Or.inr ⟨b2_z q2, rfl, rfl⟩⟩
  intro r M3 hN
  have e6 : M3 106 = M2 106 := hN.1 106 (by decide) (by decide)
  refine ⟨⟨by omega, by omega⟩, fun w hwq => ⟨⟨by omega, by omega⟩, fun M4 h4 => ?_⟩⟩
  have e4 : M4 106 = sUp (M2 106) what v := by rw [h4, mu_sUp, e6]
  have hb := b2_nz q2
  have rng : inR (sUp (M2 106) what v 3) ∧ inR (sUp (M2 106) what v 1) := by
    unfold sUp
    refine ⟨?_, ?_⟩ <;> (split <;> first | exact h2 | exact ⟨by omega, by omega⟩)
  rw [e4]
  have fin : ∀ M5 z, M5 = mu M4 106 3 z → z = (if sUp (M2 106) what v 3 ≤ sUp (M2 106) what v 1 then sUp (M2 106) what v 3 else sUp (M2 106) what v 1) → (bdB (M2 106) what v = true ∧ w = M2 106 what ∧ M5 106 = lyS (M2 106) what v ∧ ChM M2 M5) ∨ (bdB (M2 106) what v = false ∧ w = -1000000002 ∧ M5 = M2) := by
    intro M5 z h5 hzz
    refine Or.inl ⟨hb, by rw [hwq, e6], ?_, chM_of hN (fun a a1 _ _ _ => by rw [h5, mu_ne a1, h4, mu_ne a1])⟩
    rw [h5, mu_sUp, e4, hzz]
    rfl
  exact ⟨rng, fun q3 M5 h5 => fin M5 _ h5 (by rw [if_pos q3]), fun q3 M5 h5 => fin M5 _ h5 (by rw [if_neg q3])⟩
