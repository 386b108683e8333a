/-! ===== the class: settings ===== -/
/-- the setting at cell k is s -/
def SE (M : Mm) (k : Nat) (s : Sg) : Prop := (∀ i : Int, 0 ≤ i → i < 6 → M (k + 1) i = s i) ∧ M k 2 = s 6 ∧ ∀ (p : Nat) (f : Int), p < 4 → 0 ≤ f → f < s 6 → M (k + 3 + p) f = s (7 + 4 * f + (p : Int))
def FrS (k : Nat) (M M2 : Mm) : Prop := ∀ a, (a < k ∨ k + 7 ≤ a) → M2 a = M a
theorem FrS.tr {k : Nat} {A B D : Mm} (h : FrS k A B) (j : FrS k B D) : FrS k A D := fun a ha => (j a ha).trans (h a ha)
theorem FrS.rf (k : Nat) (M : Mm) : FrS k M M := fun _ _ => rfl
theorem SE.h {M : Mm} {k : Nat} {s : Sg} (e : SE M k s) {f : Int} (h0 : 0 ≤ f) (h1 : f < s 6) : M (k + 3) f = s (7 + 4 * f) := by
  have := e.2.2 0 f (by decide) h0 h1
  rw [show ((0 : Nat) : Int) = 0 from rfl, Int.add_zero] at this
  exact this
theorem SE.w {M : Mm} {k : Nat} {s : Sg} (e : SE M k s) {f : Int} (h0 : 0 ≤ f) (h1 : f < s 6) : M (k + 4) f = s (7 + 4 * f + 1) := e.2.2 1 f (by decide) h0 h1
theorem SE.m {M : Mm} {k : Nat} {s : Sg} (e : SE M k s) {f : Int} (h0 : 0 ≤ f) (h1 : f < s 6) : M (k + 5) f = s (7 + 4 * f + 2) := e.2.2 2 f (by decide) h0 h1
theorem SE.g {M : Mm} {k : Nat} {s : Sg} (e : SE M k s) {f : Int} (h0 : 0 ≤ f) (h1 : f < s 6) : M (k + 6) f = s (7 + 4 * f + 3) := e.2.2 3 f (by decide) h0 h1
theorem SE.kept {M M2 : Mm} {k : Nat} {s : Sg} (e : SE M k s) (h : ∀ a, k ≤ a → a < k + 7 → M2 a = M a) : SE M2 k s := by
  refine ⟨fun i h0 h1 => ?_, ?_, fun p f hp h0 h1 => ?_⟩
  · rw [h (k + 1) (by omega) (by omega)]; exact e.1 i h0 h1
  · rw [h k (by omega) (by omega)]; exact e.2.1
  · rw [h (k + 3 + p) (by omega) (by omega)]; exact e.2.2 p f hp h0 h1
/-- settings that agree where it counts -/
theorem SE.cong {M : Mm} {k : Nat} {s t : Sg} (e : SE M k s) (h6 : s 6 ≤ 10) (h : ∀ j : Int, 0 ≤ j → j < 47 → t j = s j) : SE M k t := by
  have e6 : t 6 = s 6 := h 6 (by omega) (by omega)
  refine ⟨fun i h0 h1 => ?_, ?_, fun p f hp h0 h1 => ?_⟩
  · rw [h i h0 (by omega)]; exact e.1 i h0 h1
  · rw [e6]; exact e.2.1
  · rw [e6] at h1
    rw [h _ (by omega) (by omega)]
    exact e.2.2 p f hp h0 h1
theorem WF.cong {s t : Sg} (w : WF s) (h : ∀ j : Int, 0 ≤ j → j < 47 → t j = s j) : WF t := by
  obtain ⟨a0, a1, a2, a3, a4, a5, a6, a7⟩ := w
  refine ⟨?_, ?_, ?_, ?_, ?_, ?_, ?_, ?_⟩
  · rw [h 0 (by omega) (by omega)]; exact a0
  · rw [h 1 (by omega) (by omega)]; exact a1
  · rw [h 2 (by omega) (by omega)]; exact a2
  · rw [h 3 (by omega) (by omega), h 1 (by omega) (by omega)]; exact a3
  · rw [h 4 (by omega) (by omega)]; exact a4
  · rw [h 5 (by omega) (by omega)]; exact a5
  · rw [h 6 (by omega) (by omega)]; exact a6
  · intro f f0 f1
    rw [h 6 (by omega) (by omega)] at f1
    rw [h _ (by omega) (by omega), h _ (by omega) (by omega), h _ (by omega) (by omega), h _ (by omega) (by omega)]
    exact a7 f f0 f1
theorem isS_ap {k j : Nat} (hk : isS k) (hj : isS j) (hne : k ≠ j) : j + 7 ≤ k ∨ k + 7 ≤ j := by
  obtain ⟨a, ha, rfl⟩ := hk
  obtain ⟨b, hb, rfl⟩ := hj
  omega
set_option maxRecDepth 10000 in
set_option maxHeartbeats 1000000 in
theorem c4_becomes_l {x : Xx} {post : Int → Mm → Prop} (C : Cx x mX4_becomes) (hR : Rt x mX4_becomes post) {M : Mm} {k j : Nat} (hk : isS k) (hj : isS j) (hne : k ≠ j) {s : Sg} (h6 : 0 ≤ s 6 ∧ s 6 ≤ 10) (hs : SE M j s) (hp : ∀ M2, FrS k M M2 → SE M2 k s → post 0 M2) : ∀ (d i : Nat), i + d = 4 → ∀ M2, FrS k M M2 → (∀ q : Int, 0 ≤ q → q < 6 → M2 (k + 1) q = s q) → (∀ (p : Nat) (f : Int), p < i → 0 ≤ f → f < s 6 → M2 (k + 3 + p) f = s (7 + 4 * f + (p : Int))) → Gx x 3 17 [(0, vr (xg x) k), (1, vr (xg x) j), (2, vi (i : Int))] [] M2 := by
  have ap := isS_ap hk hj hne
  intro d
  induction d with
  | zero =>
    intro i hi M2 f2 b2' r2
    have : i = 4 := by omega
    subst this
    refine X4_becomes_17 C hR hk hj _ M2 ⟨by decide, fun _ A hA => ?_, fun q => absurd (by decide) q⟩
    have ek : M2 j 2 = s 6 := by rw [f2 j (by omega)]; exact hs.2.1
    refine hp A (fun a ha => by rw [hA, mu_ne (by omega)]; exact f2 a ha) ⟨fun q q0 q1 => ?_, ?_, fun p f hp0 f0 f1 => ?_⟩
    · rw [hA, mu_ne (by omega)]; exact b2' q q0 q1
    · rw [hA, mu_at, ek]
    · rw [hA, mu_ne (by omega)]; exact r2 p f (by omega) f0 f1
  | succ d ih =>
    intro i hi M2 f2 b2' r2
    refine X4_becomes_17 C hR hk hj _ M2 ⟨⟨by omega, by omega⟩, fun q => absurd q (by omega), fun _ => ⟨⟨by omega, by omega⟩, ⟨by omega, by omega⟩, fun A hA => ?_⟩⟩
    rw [Int.toNat_natCast] at hA
    refine ih (i + 1) (by omega) A (fun a ha => by rw [hA, mcp_ne (by omega)]; exact f2 a ha) (fun q q0 q1 => by rw [hA, mcp_ne (by omega)]; exact b2' q q0 q1) (fun p f hp0 f0 f1 => ?_)
    rcases Nat.lt_or_ge p i with w | w
    · rw [hA, mcp_ne (by omega)]; exact r2 p f w f0 f1
    · have : p = i := by omega
      subst this
      rw [hA, mcp_in (by omega), f2 (j + 3 + p) (by omega), show (0 : Int) + (f - 0) = f by omega]
      exact hs.2.2 p f (by omega) f0 f1
set_option maxRecDepth 10000 in
set_option maxHeartbeats 1000000 in
theorem c4_becomes {l : Launch} {g : Gg} {M : Mm} {k j : Nat} {s : Sg} (hk : isS k) (hj : isS j) (hne : k ≠ j) (h6 : 0 ≤ s 6 ∧ s 6 ≤ 10) (hs : SE M j s) : Ct l g mX4_becomes [vr g k, vr g j] M (fun r M2 => FrS k M M2 ∧ SE M2 k s) := by
  refine ct_of (by decide) (Nat.le_of_ble_eq_true rfl) ?_
  intro x hl hg C hR
  subst hl
  subst hg
  have ap := isS_ap hk hj hne
  refine X4_becomes_0 C hR hk hj M (fun A hA => ?_)
  refine c4_becomes_l C hR hk hj hne h6 hs (fun M2 f2 e2 => ⟨f2, e2⟩) 4 0 (by omega) A (fun a ha => by rw [hA, mcp_ne (by omega)]) (fun q q0 q1 => ?_) (fun p f hp => absurd hp (by omega))
  rw [hA, mcp_in (by omega), show (0 : Int) + (q - 0) = q by omega]
  exact hs.1 q q0 q1
set_option maxRecDepth 10000 in
set_option maxHeartbeats 1000000 in
theorem c4_has {l : Launch} {g : Gg} {M : Mm} {k : Nat} {s : Sg} {f : Int} (hk : isS k) (h6 : 0 ≤ s 6 ∧ s 6 ≤ 10) (hs : SE M k s) (hf : inR f) : Ct l g mX4_has [vr g k, vi f] M (fun r M2 => r = b2 (decide (0 ≤ f ∧ f < s 6)) ∧ M2 = M) := by
  refine ct_of (by decide) (Nat.le_of_ble_eq_true rfl) ?_
  intro x hl hg C hR
  subst hl
  subst hg
  have e := hs.2.1
  refine X4_has_0 C hR hk f M ?_
  rw [e]
  unfold b2
  grind
set_option maxRecDepth 10000 in
set_option maxHeartbeats 1000000 in
theorem c4_boundMayBe {l : Launch} {g : Gg} {M : Mm} {k : Nat} {s : Sg} {what v : Int} (hk : isS k) (hw : WF s) (hs : SE M k s) (h1 : inR what) (h2 : inR v) : Ct l g mX4_boundMayBe [vr g k, vi what, vi v] M (fun r M2 => r = b2 (bdB s what v) ∧ M2 = M) := by
  refine ct_of (by decide) (Nat.le_of_ble_eq_true rfl) ?_
  intro x hl hg C hR
  subst hl
  subst hg
  have hh := hw.2.1
  have e1 := hs.1 1 (by omega) (by omega)
  have tab : ∀ w : Int, 0 ≤ w → w < 6 → inR (sLB w.toNat) ∧ inR (sGB w.toNat) ∧ (bdB s w v = true ↔ (sLB w.toNat ≤ v ∧ v ≤ sGB w.toNat ∧ (w = 3 → v ≤ s 1))) := by
    intro w w0 w1
    rcases (show w = 0 ∨ w = 1 ∨ w = 2 ∨ w = 3 ∨ w = 4 ∨ w = 5 by omega) with rfl | rfl | rfl | rfl | rfl | rfl
    all_goals refine ⟨by decide, by decide, ?_⟩
    all_goals simp [bdB, sLB, sGB]
    all_goals omega
  refine X4_boundMayBe_0 C hR hk what v M ⟨h1, fun q => ⟨?_, rfl⟩, fun q => ⟨h1, fun q2 => ⟨?_, rfl⟩, fun q2 => ?_⟩⟩
  · unfold bdB
    rw [decide_eq_false (by omega)]
    rfl
  · unfold bdB
    rw [decide_eq_false (by omega)]
    rfl
  obtain ⟨t1, t2, t3⟩ := tab what (by omega) (by omega)
  have no : ¬ (sLB what.toNat ≤ v ∧ v ≤ sGB what.toNat ∧ (what = 3 → v ≤ s 1)) → (0 : Int) = b2 (bdB s what v) := by
    intro z
    cases hb : bdB s what v with
    | false => rfl
    | true => exact absurd (t3.mp hb) z
  have yes : (sLB what.toNat ≤ v ∧ v ≤ sGB what.toNat ∧ (what = 3 → v ≤ s 1)) → (1 : Int) = b2 (bdB s what v) := by
    intro z
    rw [t3.mpr z]
    rfl
  rw [e1]
  exact ⟨⟨by omega, by omega⟩, ⟨h2, t1⟩, fun q3 => ⟨no (by omega), rfl⟩, fun q3 => ⟨⟨by omega, by omega⟩, ⟨h2, t2⟩, fun q4 => ⟨h1, fun q5 => ⟨yes ⟨by omega, q4, fun z => absurd z q5⟩, rfl⟩, fun q5 => ⟨⟨h2, by omega, by omega⟩, fun q6 => ⟨no (fun z => by have := z.2.2 q5; omega), rfl⟩, fun q6 => ⟨yes ⟨by omega, q4, fun _ => by omega⟩, rfl⟩⟩⟩, fun q4 => ⟨no (by omega), rfl⟩⟩⟩
def OpP (M M2 : Mm) (k : Nat) (i : Int) : Prop := (∀ a, a ≠ k → (a < k + 3 ∨ k + 7 ≤ a) → M2 a = M a) ∧ M2 k 2 = M k 2 + 1 ∧ ∀ (p : Nat) (f : Int), p < 4 → M2 (k + 3 + p) f = (if i + 1 ≤ f ∧ f < i + 1 + (M k 2 - i) then M (k + 3 + p) (f - 1) else M (k + 3 + p) f)
set_option maxRecDepth 10000 in
set_option maxHeartbeats 1000000 in
theorem c4_openAt_l {x : Xx} {post : Int → Mm → Prop} (C : Cx x mX4_openAt) (hR : Rt x mX4_openAt post) {M : Mm} {k : Nat} (hk : isS k) {i : Int} (hi : 0 ≤ i ∧ i ≤ M k 2) (hm : M k 2 < 10) (hp : ∀ M2, OpP M M2 k i → post 0 M2) : ∀ (d j : Nat), j + d = 4 → ∀ M2, (∀ a, (a < k + 3 ∨ k + 7 ≤ a) → M2 a = M a) → (∀ (p : Nat) (f : Int), p < 4 → M2 (k + 3 + p) f = (if p < j ∧ i + 1 ≤ f ∧ f < i + 1 + (M k 2 - i) then M (k + 3 + p) (f - 1) else M (k + 3 + p) f)) → Gx x 3 2 [(0, vr (xg x) k), (1, vi i), (2, vi (j : Int))] [] M2 := by
  intro d
  induction d with
  | zero =>
    intro j hj M2 h1 h2
    have : j = 4 := by omega
    subst this
    refine X4_openAt_2 C hR hk i _ M2 ⟨by decide, fun _ A hA => hp A ⟨fun a a1 a2 => by rw [hA, mu_ne a1]; exact h1 a a2, ?_, fun p f hp4 => ?_⟩, fun q => absurd (by decide) q⟩
    · rw [hA, mu_at, h1 k (by omega)]
    · rw [hA, mu_ne (by omega), h2 p f hp4]
      by_cases z : i + 1 ≤ f ∧ f < i + 1 + (M k 2 - i)
      · rw [if_pos ⟨hp4, z⟩, if_pos z]
      · rw [if_neg (fun y => z y.2), if_neg z]
  | succ d ih =>
    intro j hj M2 h1 h2
    have ek : M2 k 2 = M k 2 := by rw [h1 k (by omega)]
    refine X4_openAt_2 C hR hk i _ M2 ⟨⟨by omega, by omega⟩, fun q => absurd q (by omega), fun _ => ⟨⟨by omega, by omega⟩, ⟨by omega, by omega⟩, ?_⟩⟩
    rw [ek]
    refine ⟨⟨by omega, by omega, by omega, by omega, by omega⟩, fun A hA => ?_⟩
    rw [Int.toNat_natCast] at hA
    refine ih (j + 1) (by omega) A (fun a ha => by rw [hA, mcp_ne (by omega)]; exact h1 a ha) (fun p f hp4 => ?_)
    by_cases e : p = j
    · subst e
      rw [hA]
      by_cases z : i + 1 ≤ f ∧ f < i + 1 + (M k 2 - i)
      · rw [mcp_in z, if_pos ⟨by omega, z⟩, h2 p _ hp4, if_neg (by omega)]
        congr 1
        omega
      · rw [mcp_out z, if_neg (fun y => z y.2), h2 p f hp4, if_neg (by omega)]
    · rw [hA, mcp_ne (by omega), h2 p f hp4]
      by_cases z : p < j ∧ i + 1 ≤ f ∧ f < i + 1 + (M k 2 - i)
      · rw [if_pos z, if_pos ⟨by omega, z.2⟩]
      · rw [if_neg z, if_neg (fun y => z ⟨by omega, y.2⟩)]
set_option maxRecDepth 10000 in
set_option maxHeartbeats 1000000 in
theorem c4_openAt {l : Launch} {g : Gg} {M : Mm} {k : Nat} {i : Int} (hk : isS k) (hi : 0 ≤ i ∧ i ≤ M k 2) (hm : M k 2 < 10) : Ct l g mX4_openAt [vr g k, vi i] M (fun r M2 => OpP M M2 k i) := by
  refine ct_of (by decide) (Nat.le_of_ble_eq_true rfl) ?_
  intro x hl hg C hR
  subst hl
  subst hg
  exact X4_openAt_0 C hR hk i M (c4_openAt_l C hR hk hi hm (fun M2 h => h) 4 0 (by omega) M (fun _ _ => rfl) (fun p f _ => by rw [if_neg (by omega)]))
set_option maxRecDepth 10000 in
set_option maxHeartbeats 1000000 in
theorem c4_describe {l : Launch} {g : Gg} {M : Mm} {k : Nat} {i h w m z : Int} (hk : isS k) (hi : 0 ≤ i ∧ i < 10) : Ct l g mX4_describe [vr g k, vi i, vi h, vi w, vi m, vi z] M (fun r M2 => M2 = mu (mu (mu (mu M (k + 3) i h) (k + 4) i w) (k + 5) i m) (k + 6) i z) := by
  refine ct_of (by decide) (Nat.le_of_ble_eq_true rfl) ?_
  intro x hl hg C hR
  subst hl
  subst hg
  exact X4_describe_0 C hR hk i h w m z M ⟨hi, fun A hA => ⟨hi, fun B hB => ⟨hi, fun D hD => ⟨hi, fun E hE => by rw [hE, hD, hB, hA]⟩⟩⟩⟩
/-- opened and described: the setting with a figure more -/
theorem se_ins {M A : Mm} {k : Nat} {s : Sg} {i h w m z : Int} (hs : SE M k s) (h6 : 0 ≤ s 6 ∧ s 6 < 10) (hi : 0 ≤ i ∧ i ≤ s 6) (hO : OpP M A k i) : SE (mu (mu (mu (mu A (k + 3) i h) (k + 4) i w) (k + 5) i m) (k + 6) i z) k (insS s i h w m z) ∧ FrS k M (mu (mu (mu (mu A (k + 3) i h) (k + 4) i w) (k + 5) i m) (k + 6) i z) := by
  have e := hs.2.1
  obtain ⟨o1, o2, o3⟩ := hO
  rw [e] at o2 o3
  have hat := ins_at (s := s) (h := h) (w := w) (m := m) (g := z) hi.1
  refine ⟨⟨fun q q0 q1 => ?_, ?_, fun p f hp f0 f1 => ?_⟩, fun a ha => ?_⟩
  · rw [mu_ne (by omega), mu_ne (by omega), mu_ne (by omega), mu_ne (by omega), o1 (k + 1) (by omega) (by omega), ins_lo (by omega) (by omega)]
    exact hs.1 q q0 q1
  · rw [mu_ne (by omega), mu_ne (by omega), mu_ne (by omega), mu_ne (by omega), o2, ins_6]
  · rw [ins_6] at f1
    by_cases ef : f = i
    · subst ef
      rcases (show p = 0 ∨ p = 1 ∨ p = 2 ∨ p = 3 by omega) with rfl | rfl | rfl | rfl
      · show mu (mu (mu (mu A (k + 3) f h) (k + 4) f w) (k + 5) f m) (k + 6) f z (k + 3) f = _
        rw [mu_ne (by omega), mu_ne (by omega), mu_ne (by omega), mu_at, show ((0 : Nat) : Int) = 0 from rfl, Int.add_zero]
        exact hat.1.symm
      · show mu (mu (mu (mu A (k + 3) f h) (k + 4) f w) (k + 5) f m) (k + 6) f z (k + 4) f = _
        rw [mu_ne (by omega), mu_ne (by omega), mu_at]
        exact hat.2.1.symm
      · show mu (mu (mu (mu A (k + 3) f h) (k + 4) f w) (k + 5) f m) (k + 6) f z (k + 5) f = _
        rw [mu_ne (by omega), mu_at]
        exact hat.2.2.1.symm
      · show mu (mu (mu (mu A (k + 3) f h) (k + 4) f w) (k + 5) f m) (k + 6) f z (k + 6) f = _
        rw [mu_at]
        exact hat.2.2.2.symm
    · have off : ∀ (B : Mm) (c : Nat) (v : Int), mu B c i v (k + 3 + p) f = B (k + 3 + p) f := by
        intro B c v
        unfold mu
        rw [if_neg (fun y => ef y.2)]
      rw [off, off, off, off, o3 p f hp]
      rcases Int.lt_or_le f i with q | q
      · rw [if_neg (by omega), ins_lo (by omega) (by omega)]
        exact hs.2.2 p f hp f0 (by omega)
      · rw [if_pos (by omega), ins_hi hi.1 (by omega) (by omega) ⟨by omega, by omega⟩]
        exact hs.2.2 p (f - 1) hp (by omega) (by omega)
  · rw [mu_ne (by omega), mu_ne (by omega), mu_ne (by omega), mu_ne (by omega)]
    exact o1 a (by omega) (by omega)
def ClP (M M2 : Mm) (k : Nat) (i : Int) : Prop := (∀ a, a ≠ k → (a < k + 3 ∨ k + 7 ≤ a) → M2 a = M a) ∧ M2 k 2 = M k 2 - 1 ∧ ∀ (p : Nat) (f : Int), p < 4 → M2 (k + 3 + p) f = (if i ≤ f ∧ f < i + (M k 2 - i - 1) then M (k + 3 + p) (f + 1) else M (k + 3 + p) f)
set_option maxRecDepth 10000 in
set_option maxHeartbeats 1000000 in
theorem c4_closeAt_l {x : Xx} {post : Int → Mm → Prop} (C : Cx x mX4_closeAt) (hR : Rt x mX4_closeAt post) {M : Mm} {k : Nat} (hk : isS k) {i : Int} (hi : 0 ≤ i ∧ i < M k 2) (hm : M k 2 ≤ 10) (hp : ∀ M2, ClP M M2 k i → post 0 M2) : ∀ (d j : Nat), j + d = 4 → ∀ M2, (∀ a, (a < k + 3 ∨ k + 7 ≤ a) → M2 a = M a) → (∀ (p : Nat) (f : Int), p < 4 → M2 (k + 3 + p) f = (if p < j ∧ i ≤ f ∧ f < i + (M k 2 - i - 1) then M (k + 3 + p) (f + 1) else M (k + 3 + p) f)) → Gx x 3 2 [(0, vr (xg x) k), (1, vi i), (2, vi (j : Int))] [] M2 := by
  intro d
  induction d with
  | zero =>
    intro j hj M2 h1 h2
    have : j = 4 := by omega
    subst this
    refine X4_closeAt_2 C hR hk i _ M2 ⟨by decide, fun _ A hA => hp A ⟨fun a a1 a2 => by rw [hA, mu_ne a1]; exact h1 a a2, ?_, fun p f hp4 => ?_⟩, fun q => absurd (by decide) q⟩
    · rw [hA, mu_at, h1 k (by omega)]
    · rw [hA, mu_ne (by omega), h2 p f hp4]
      by_cases z : i ≤ f ∧ f < i + (M k 2 - i - 1)
      · rw [if_pos ⟨hp4, z⟩, if_pos z]
      · rw [if_neg (fun y => z y.2), if_neg z]
  | succ d ih =>
    intro j hj M2 h1 h2
    have ek : M2 k 2 = M k 2 := by rw [h1 k (by omega)]
    refine X4_closeAt_2 C hR hk i _ M2 ⟨⟨by omega, by omega⟩, fun q => absurd q (by omega), fun _ => ⟨⟨by omega, by omega⟩, ⟨by omega, by omega⟩, ?_⟩⟩
    rw [ek]
    refine ⟨⟨by omega, by omega, by omega, by omega, by omega⟩, fun A hA => ?_⟩
    rw [Int.toNat_natCast] at hA
    refine ih (j + 1) (by omega) A (fun a ha => by rw [hA, mcp_ne (by omega)]; exact h1 a ha) (fun p f hp4 => ?_)
    by_cases e : p = j
    · subst e
      rw [hA]
      by_cases z : i ≤ f ∧ f < i + (M k 2 - i - 1)
      · rw [mcp_in z, if_pos ⟨by omega, z⟩, h2 p _ hp4, if_neg (by omega)]
        congr 1
        omega
      · rw [mcp_out z, if_neg (fun y => z y.2), h2 p f hp4, if_neg (by omega)]
    · rw [hA, mcp_ne (by omega), h2 p f hp4]
      by_cases z : p < j ∧ i ≤ f ∧ f < i + (M k 2 - i - 1)
      · rw [if_pos z, if_pos ⟨by omega, z.2⟩]
      · rw [if_neg z, if_neg (fun y => z ⟨by omega, y.2⟩)]
theorem se_rm {M A : Mm} {k : Nat} {s : Sg} {i : Int} (hs : SE M k s) (hi : 0 ≤ i ∧ i < s 6) (hO : ClP M A k i) : SE A k (rmS s i) ∧ FrS k M A := by
  have e := hs.2.1
  obtain ⟨o1, o2, o3⟩ := hO
  rw [e] at o2 o3
  refine ⟨⟨fun q q0 q1 => ?_, ?_, fun p f hp f0 f1 => ?_⟩, fun a ha => o1 a (by omega) (by omega)⟩
  · rw [o1 (k + 1) (by omega) (by omega), rm_lo (by omega) (by omega) (by omega)]
    exact hs.1 q q0 q1
  · rw [o2, rm_6]
  · rw [rm_6] at f1
    rw [o3 p f hp]
    rcases Int.lt_or_le f i with q | q
    · rw [if_neg (by omega), rm_lo (by omega) (by omega) (by omega)]
      exact hs.2.2 p f hp f0 (by omega)
    · rw [if_pos (by omega), rm_hi hi.1 q f1 ⟨by omega, by omega⟩]
      exact hs.2.2 p (f + 1) hp (by omega) (by omega)
set_option maxRecDepth 10000 in
set_option maxHeartbeats 1000000 in
theorem c4_closeAt {l : Launch} {g : Gg} {M : Mm} {k : Nat} {s : Sg} {i : Int} (hk : isS k) (hs : SE M k s) (hi : 0 ≤ i ∧ i < s 6) (hm : s 6 ≤ 10) : Ct l g mX4_closeAt [vr g k, vi i] M (fun r M2 => SE M2 k (rmS s i) ∧ FrS k M M2) := by
  refine ct_of (by decide) (Nat.le_of_ble_eq_true rfl) ?_
  intro x hl hg C hR
  subst hl
  subst hg
  have e := hs.2.1
  exact X4_closeAt_0 C hR hk i M (c4_closeAt_l C hR hk (by rw [e]; exact hi) (by rw [e]; exact hm) (fun M2 h => se_rm hs hi h) 4 0 (by omega) M (fun _ _ => rfl) (fun p f _ => by rw [if_neg (by omega)]))
