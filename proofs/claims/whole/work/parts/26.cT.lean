/-! ===== the class: lots, and what stands together ===== -/
set_option maxRecDepth 10000 in
set_option maxHeartbeats 1000000 in
theorem c4_nextLot {l : Launch} {g : Gg} {M : Mm} {v : Int} (hv : 0 ≤ v ∧ v < 2147483648) : Ct l g mX4_nextLot [vi v] M (fun r M2 => r = nx v ∧ M2 = M) := by
  refine ct_of (by decide) (Nat.le_of_ble_eq_true rfl) ?_
  intro x hl hg C hR
  subst hl
  subst hg
  exact X4_nextLot_0 C hR v M ⟨⟨by omega, by omega⟩, ⟨by omega, by omega⟩, rfl, rfl⟩
def fourM (A : Mm) (k : Nat) (i h w m z : Int) : Mm := mu (mu (mu (mu A (k + 3) i h) (k + 4) i w) (k + 5) i m) (k + 6) i z
theorem four {A : Mm} {k : Nat} {i h w m z : Int} : (∀ a, (a < k + 3 ∨ k + 7 ≤ a) → fourM A k i h w m z a = A a) ∧ (∀ (p : Nat) (f : Int), p < 4 → f ≠ i → fourM A k i h w m z (k + 3 + p) f = A (k + 3 + p) f) ∧ fourM A k i h w m z (k + 3) i = h ∧ fourM A k i h w m z (k + 4) i = w ∧ fourM A k i h w m z (k + 5) i = m ∧ fourM A k i h w m z (k + 6) i = z := by
  unfold fourM
  refine ⟨fun a ha => ?_, fun p f hp hf => ?_, ?_, ?_, ?_, ?_⟩
  · rw [mu_ne (by omega), mu_ne (by omega), mu_ne (by omega), mu_ne (by omega)]
  · have off : ∀ (B : Mm) (c : Nat) (v : Int), mu B c i v (k + 3 + p) f = B (k + 3 + p) f := by
      intro B c v
      unfold mu
      rw [if_neg (fun y => hf y.2)]
    rw [off, off, off, off]
  · rw [mu_ne (by omega), mu_ne (by omega), mu_ne (by omega), mu_at]
  · rw [mu_ne (by omega), mu_ne (by omega), mu_at]
  · rw [mu_ne (by omega), mu_at]
  · rw [mu_at]
def DrI (s : Sg) (seed n : Int) (k i : Nat) (M M2 : Mm) : Prop := FrS k M M2 ∧ (∀ q : Int, 0 ≤ q → q < 6 → M2 (k + 1) q = s q) ∧ M2 k 2 = n ∧ ∀ (p : Nat) (f : Int), p < 4 → 0 ≤ f → f < (i : Int) → M2 (k + 3 + p) f = (lot s seed i).1 (7 + 4 * f + (p : Int))
theorem dr_step {s : Sg} {seed n : Int} {k i : Nat} {M M2 : Mm} (hd : DrI s seed n k i M M2) : DrI s seed n k (i + 1) M (fourM M2 k i (nx (lot s seed i).2 % (if s 3 = 0 then 1 else s 3) + 1) (nx (nx (lot s seed i).2) % 2) (nx (nx (nx (lot s seed i).2)) % (if s 0 = 0 then 1 else s 0)) (nx (nx (nx (nx (lot s seed i).2))) % 9 + 1)) := by
  obtain ⟨d1, d2, d3, d4⟩ := hd
  obtain ⟨q1, q2, q3, q4, q5, q6⟩ := four (A := M2) (k := k) (i := (i : Int)) (h := nx (lot s seed i).2 % (if s 3 = 0 then 1 else s 3) + 1) (w := nx (nx (lot s seed i).2) % 2) (m := nx (nx (nx (lot s seed i).2)) % (if s 0 = 0 then 1 else s 0)) (z := nx (nx (nx (nx (lot s seed i).2))) % 9 + 1)
  have hat := ins_at (s := (lot s seed i).1) (i := (i : Int)) (h := nx (lot s seed i).2 % (if s 3 = 0 then 1 else s 3) + 1) (w := nx (nx (lot s seed i).2) % 2) (m := nx (nx (nx (lot s seed i).2)) % (if s 0 = 0 then 1 else s 0)) (g := nx (nx (nx (nx (lot s seed i).2))) % 9 + 1) (by omega)
  refine ⟨fun a ha => by rw [q1 a (by omega)]; exact d1 a ha, fun q q0 q1' => by rw [q1 (k + 1) (by omega)]; exact d2 q q0 q1', by rw [q1 k (by omega)]; exact d3, fun p f hp f0 f1 => ?_⟩
  simp only [lot]
  by_cases e : f = (i : Int)
  · subst e
    rcases (show p = 0 ∨ p = 1 ∨ p = 2 ∨ p = 3 by omega) with rfl | rfl | rfl | rfl
    · rw [show ((0 : Nat) : Int) = 0 from rfl, Int.add_zero]
      exact q3.trans hat.1.symm
    · exact q4.trans hat.2.1.symm
    · exact q5.trans hat.2.2.1.symm
    · exact q6.trans hat.2.2.2.symm
  · rw [q2 p f hp e, ins_lo (by omega) (by omega)]
    exact d4 p f hp f0 (by omega)
set_option maxRecDepth 10000 in
set_option maxHeartbeats 1000000 in
theorem c4_drawLots_l {x : Xx} {post : Int → Mm → Prop} (C : Cx x mX4_drawLots) (hR : Rt x mX4_drawLots post) {M : Mm} {k : Nat} (hk : isS k) {s : Sg} (hw : WF s) {n seed : Int} (hn : 0 ≤ n ∧ n ≤ 10) (hs : 0 ≤ seed ∧ seed < 2147483648) (hp : ∀ M2, DrI s seed n k n.toNat M M2 → post 0 M2) : ∀ (d i : Nat), i + d = n.toNat → ∀ M2, DrI s seed n k i M M2 → Gx x 7 34 [(0, vr (xg x) k), (1, vi n), (3, vi (lot s seed i).2), (4, vi (if s 3 = 0 then 1 else s 3)), (5, vi (if s 0 = 0 then 1 else s 0)), (6, vi (i : Int))] [] M2 := by
  have h0 := hw.1
  have h1 := hw.2.1
  have h3 := hw.2.2.2.1
  have e3 : 0 < (if s 3 = 0 then 1 else s 3) ∧ (if s 3 = 0 then 1 else s 3) < 2147483648 := by split <;> omega
  have e0 : 0 < (if s 0 = 0 then 1 else s 0) ∧ (if s 0 = 0 then 1 else s 0) < 2147483648 := by split <;> omega
  intro d
  induction d with
  | zero =>
    intro i hi M2 hd
    have : i = n.toNat := by omega
    subst this
    exact X4_drawLots_34 C hR hk _ _ _ _ _ M2 ⟨⟨⟨by omega, by omega⟩, by omega, by omega⟩, fun _ => hp M2 hd, fun q => absurd (by omega) q⟩
  | succ d ih =>
    intro i hi M2 hd
    have hl := lot_ok hw hs i (by omega)
    have b1 := nx_bd (lot s seed i).2
    have b2' := nx_bd (nx (lot s seed i).2)
    have b3 := nx_bd (nx (nx (lot s seed i).2))
    have b4 := nx_bd (nx (nx (nx (lot s seed i).2)))
    refine X4_drawLots_34 C hR hk _ _ _ _ _ M2 ⟨⟨⟨by omega, by omega⟩, by omega, by omega⟩, fun q => absurd q (by omega), fun _ => ⟨_, c4_nextLot hl.2.2.2, ?_⟩⟩
    rintro r A ⟨rfl, rfl⟩
    refine ⟨⟨⟨by omega, by omega⟩, e3⟩, ⟨by omega, by omega⟩, fun B hB => ⟨_, c4_nextLot ⟨by omega, by omega⟩, ?_⟩⟩
    rintro r B2 ⟨rfl, rfl⟩
    refine ⟨⟨by omega, by omega⟩, ⟨by omega, by omega⟩, fun D hD => ⟨_, c4_nextLot ⟨by omega, by omega⟩, ?_⟩⟩
    rintro r D2 ⟨rfl, rfl⟩
    refine ⟨⟨⟨by omega, by omega⟩, e0⟩, ⟨by omega, by omega⟩, fun E hE => ⟨_, c4_nextLot ⟨by omega, by omega⟩, ?_⟩⟩
    rintro r E2 ⟨rfl, rfl⟩
    refine ⟨⟨by omega, by omega⟩, ⟨by omega, by omega⟩, fun F hF => ?_⟩
    have hd2 := dr_step hd
    unfold fourM at hd2
    rw [← hB, ← hD, ← hE, ← hF] at hd2
    exact ih (i + 1) (by omega) F hd2
set_option maxRecDepth 10000 in
set_option maxHeartbeats 1000000 in
theorem c4_drawLots {l : Launch} {g : Gg} {M : Mm} {k : Nat} {s : Sg} {n seed : Int} (hk : isS k) (hw : WF s) (hs : SE M k s) (hn : 0 ≤ n ∧ n ≤ 10) (hsd : 0 ≤ seed ∧ seed < 2147483648) : Ct l g mX4_drawLots [vr g k, vi n, vi seed] M (fun r M2 => SE M2 k (lot s seed n.toNat).1 ∧ FrS k M M2) := by
  refine ct_of (by decide) (Nat.le_of_ble_eq_true rfl) ?_
  intro x hl hg C hR
  subst hl
  subst hg
  have h0 := hw.1
  have h1 := hw.2.1
  have h3 := hw.2.2.2.1
  have e0 := hs.1 0 (by omega) (by omega)
  have e3 := hs.1 3 (by omega) (by omega)
  refine X4_drawLots_0 C hR hk n seed M ?_
  rw [e3, e0]
  refine ⟨⟨by omega, by omega⟩, fun w12 h12 => ⟨⟨by omega, by omega⟩, fun w24 h24 A hA => ?_⟩⟩
  have q1 : w12 = if s 3 = 0 then 1 else s 3 := by rw [h12]; grind
  have q2 : w24 = if s 0 = 0 then 1 else s 0 := by rw [h24]; grind
  rw [q1, q2]
  refine c4_drawLots_l C hR hk hw hn hsd (fun M2 hd => ?_) n.toNat 0 (by omega) A ⟨fun a ha => by rw [hA, mu_ne (by omega)], fun q q0 q1 => by rw [hA, mu_ne (by omega)]; exact hs.1 q q0 q1, by rw [hA, mu_at], fun p f _ f0 f1 => absurd f1 (by omega)⟩
  obtain ⟨d1, d2, d3, d4⟩ := hd
  have hl := lot_ok hw hsd n.toNat (by omega)
  refine ⟨⟨fun q q0 q1 => by rw [d2 q q0 q1, hl.2.2.1 q q1], by rw [d3, hl.2.1]; omega, fun p f hp f0 f1 => d4 p f hp f0 (by rw [hl.2.1] at f1; exact f1)⟩, d1⟩
def hcF (s : Sg) (f z j : Int) : Int := if z / 2 ^ j.toNat % 2 = 1 ∧ s (7 + 4 * (f + j) + 1) = 0 then s (7 + 4 * (f + j)) else 0
def hc (s : Sg) (f z : Int) (n : Nat) : Int := sm (hcF s f z) n
def wdF (s : Sg) (f j : Int) : Int := if s (7 + 4 * (f + j) + 1) = 1 then s (7 + 4 * (f + j)) else 0
def wS (s : Sg) (f : Int) (n : Nat) : Int := sm (wdF s f) n
def nwF (s : Sg) (f j : Int) : Int := if s (7 + 4 * (f + j) + 1) = 1 then 0 else s (7 + 4 * (f + j))
def nS (s : Sg) (f : Int) (n : Nat) : Int := sm (nwF s f) n
theorem hc_bd {s : Sg} (h : WF s) {f z : Int} {n : Nat} (h0 : 0 ≤ f) (h1 : f + n ≤ s 6) : 0 ≤ hc s f z n ∧ hc s f z n ≤ (n : Int) * 40 := by
  refine sm_bd (fun k hk => ?_)
  have := h.fg (f := f + (k : Int)) (by omega) (by omega)
  unfold hcF
  split <;> omega
theorem wS_bd {s : Sg} (h : WF s) {f : Int} {n : Nat} (h0 : 0 ≤ f) (h1 : f + n ≤ s 6) : 0 ≤ wS s f n ∧ wS s f n ≤ (n : Int) * 40 := by
  refine sm_bd (fun k hk => ?_)
  have := h.fg (f := f + (k : Int)) (by omega) (by omega)
  unfold wdF
  split <;> omega
theorem nS_bd {s : Sg} (h : WF s) {f : Int} {n : Nat} (h0 : 0 ≤ f) (h1 : f + n ≤ s 6) : 0 ≤ nS s f n ∧ nS s f n ≤ (n : Int) * 40 := by
  refine sm_bd (fun k hk => ?_)
  have := h.fg (f := f + (k : Int)) (by omega) (by omega)
  unfold nwF
  split <;> omega
theorem col_1 {s : Sg} (h : WF s) {f z : Int} {n : Nat} (h0 : 0 ≤ f) (h1 : f + n ≤ s 6) : col s f z 1 n = wS s f n + hc s f z n := by
  unfold col wS hc
  rw [← sm_add]
  refine sm_cong (fun k hk => ?_)
  have := h.fg (f := f + (k : Int)) (by omega) (by omega)
  unfold cl wdF hcF
  grind
theorem col_0 {s : Sg} (h : WF s) {f z : Int} {n : Nat} (h0 : 0 ≤ f) (h1 : f + n ≤ s 6) : col s f z 0 n + hc s f z n = wS s f n + nS s f n := by
  unfold col wS hc nS
  rw [← sm_add, ← sm_add]
  refine sm_cong (fun k hk => ?_)
  have := h.fg (f := f + (k : Int)) (by omega) (by omega)
  have : z / 2 ^ (k : Int).toNat % 2 = 0 ∨ z / 2 ^ (k : Int).toNat % 2 = 1 := by omega
  unfold cl wdF hcF nwF
  grind
theorem hc_0 {s : Sg} {f : Int} : ∀ n : Nat, hc s f 0 n = 0
  | 0 => rfl
  | n + 1 => by
    have := hc_0 (s := s) (f := f) n
    unfold hc at this ⊢
    simp only [sm]
    rw [this]
    unfold hcF
    simp
theorem hc_1 {s : Sg} (h : WF s) {f : Int} {n : Nat} (h0 : 0 ≤ f) (h1 : f + n ≤ s 6) (hn : n ≤ 10) : hc s f (2 ^ n - 1) n = nS s f n := by
  unfold hc nS
  refine sm_cong (fun k hk => ?_)
  have := h.fg (f := f + (k : Int)) (by omega) (by omega)
  unfold hcF nwF
  rw [Int.toNat_natCast, bit_ones hk hn]
  grind
set_option maxRecDepth 10000 in
set_option maxHeartbeats 1000000 in
theorem c4_heightsChosen_l {x : Xx} {post : Int → Mm → Prop} (C : Cx x mX4_heightsChosen) (hR : Rt x mX4_heightsChosen post) {M : Mm} {k : Nat} (hk : isS k) {s : Sg} (hw : WF s) (hs : SE M k s) {f n z : Int} (hf : 0 ≤ f) (hn : 0 ≤ n ∧ f + n ≤ s 6) (hz : 0 ≤ z ∧ z < 2147483648) (hp : post (hc s f z n.toNat) M) : ∀ (d i : Nat), i + d = n.toNat → Gx x 6 6 [(0, vr (xg x) k), (1, vi f), (2, vi n), (3, vi z), (4, vi (hc s f z i)), (5, vi (i : Int))] [] M := by
  have h6 := hw.2.2.2.2.2.2.1
  intro d
  induction d with
  | zero =>
    intro i hi
    have : i = n.toNat := by omega
    subst this
    exact X4_heightsChosen_6 C hR hk _ _ _ _ _ M ⟨⟨⟨by omega, by omega⟩, by omega, by omega⟩, fun _ => hp, fun q => absurd (by omega) q⟩
  | succ d ih =>
    intro i hi
    have hfg := hw.fg (f := f + (i : Int)) (by omega) (by omega)
    have eh := hs.h (f := f + (i : Int)) (by omega) (by omega)
    have ew := hs.w (f := f + (i : Int)) (by omega) (by omega)
    have hx := ih (i + 1) (by omega)
    have e : hc s f z (i + 1) = hc s f z i + hcF s f z (i : Int) := rfl
    rw [e] at hx
    unfold hcF at hx
    refine X4_heightsChosen_6 C hR hk _ _ _ _ _ M ⟨⟨⟨by omega, by omega⟩, by omega, by omega⟩, fun q => absurd q (by omega), fun _ => ⟨⟨hz, by omega, by omega⟩, ⟨by omega, by omega⟩, fun q => ?_, fun q => ⟨⟨by omega, by omega⟩, ?_⟩⟩⟩
    · rw [if_neg (fun y => q y.1), Int.add_zero] at hx
      exact hx
    · rw [ew, eh]
      refine ⟨⟨by omega, by omega⟩, fun q2 => ?_, fun q2 => ⟨⟨by omega, by omega⟩, fun w hw50 => ?_⟩⟩
      · rw [if_neg (fun y => q2 y.2), Int.add_zero] at hx
        exact hx
      · rw [if_pos ⟨q, q2⟩, ← hw50] at hx
        exact hx
set_option maxRecDepth 10000 in
set_option maxHeartbeats 1000000 in
theorem c4_heightsChosen {l : Launch} {g : Gg} {M : Mm} {k : Nat} {s : Sg} {f n z : Int} (hk : isS k) (hw : WF s) (hs : SE M k s) (hf : 0 ≤ f) (hn : 0 ≤ n ∧ f + n ≤ s 6) (hz : 0 ≤ z ∧ z < 2147483648) : Ct l g mX4_heightsChosen [vr g k, vi f, vi n, vi z] M (fun r M2 => r = hc s f z n.toNat ∧ M2 = M) := by
  refine ct_of (by decide) (Nat.le_of_ble_eq_true rfl) ?_
  intro x hl hg C hR
  subst hl
  subst hg
  exact X4_heightsChosen_0 C hR hk f n z M (c4_heightsChosen_l C hR hk hw hs hf hn hz ⟨rfl, rfl⟩ n.toNat 0 (by omega))
def stC (s : Sg) (f : Int) (n : Nat) (z : Int) : Bool := decide (hc s f z n ≤ s 3 - wS s f n) && decide (nS s f n - hc s f z n ≤ s 3 - wS s f n)
def stN (s : Sg) (n : Nat) : Nat := if s 2 = 1 then 1 else 2 ^ n
theorem st_fit {s : Sg} (h : WF s) {f : Int} {n : Nat} (h0 : 0 ≤ f) (h1 : f + n ≤ s 6) (hn : 1 ≤ n) (h4 : (n : Int) ≤ s 4) : anyB (stC s f n) (stN s n) = fitB s f n := by
  have h6 := h.2.2.2.2.2.2.1
  have hns := nS_bd h h0 h1
  have e1 : fitB s f n = anyB (fitS s f n) (2 ^ n) := by
    unfold fitB
    rw [decide_eq_true h4, decide_eq_false (show ¬ (n : Int) = 0 by omega), Int.toNat_natCast]
    simp
  rw [e1]
  have pw := pow_nat n
  have p1 := pow_bd (n := n) (by omega)
  have fs : ∀ z : Int, fitS s f (n : Int) z = true ↔ (wS s f n + hc s f z n ≤ s 3 ∧ (if s 2 = 1 then z = 2 ^ n - 1 else wS s f n + nS s f n - hc s f z n ≤ s 3)) := by
    intro z
    have c1 := col_1 h (z := z) h0 h1
    have c0 := col_0 h (z := z) h0 h1
    unfold fitS
    rw [Int.toNat_natCast]
    by_cases e : s 2 = 1
    · simp only [if_pos e, Bool.and_eq_true, decide_eq_true_eq, c1]
    · simp only [if_neg e, Bool.and_eq_true, decide_eq_true_eq, c1]
      constructor
      · intro y
        omega
      · intro y
        omega
  have sc : ∀ z : Int, stC s f n z = true ↔ (hc s f z n ≤ s 3 - wS s f n ∧ nS s f n - hc s f z n ≤ s 3 - wS s f n) := by
    intro z
    unfold stC
    simp only [Bool.and_eq_true, decide_eq_true_eq]
  rw [Bool.eq_iff_iff, anyB_iff, anyB_iff]
  unfold stN
  by_cases e : s 2 = 1
  · simp only [if_pos e]
    constructor
    · rintro ⟨z, hz, hq⟩
      have : z = 0 := by omega
      subst this
      rw [sc] at hq
      rw [show ((0 : Nat) : Int) = 0 from rfl, hc_0] at hq
      refine ⟨2 ^ n - 1, by omega, ?_⟩
      rw [fs, show ((2 ^ n - 1 : Nat) : Int) = 2 ^ n - 1 by omega, hc_1 h h0 h1 (by omega), if_pos e]
      exact ⟨by omega, rfl⟩
    · rintro ⟨z, hz, hq⟩
      rw [fs, if_pos e] at hq
      rw [hq.2, hc_1 h h0 h1 (by omega)] at hq
      refine ⟨0, by omega, ?_⟩
      rw [sc, show ((0 : Nat) : Int) = 0 from rfl, hc_0]
      omega
  · simp only [if_neg e]
    constructor
    · rintro ⟨z, hz, hq⟩
      refine ⟨z, hz, ?_⟩
      rw [sc] at hq
      rw [fs, if_neg e]
      omega
    · rintro ⟨z, hz, hq⟩
      refine ⟨z, hz, ?_⟩
      rw [fs, if_neg e] at hq
      rw [sc]
      omega
set_option maxRecDepth 10000 in
set_option maxHeartbeats 1000000 in
theorem c4_standTogether_c {x : Xx} {post : Int → Mm → Prop} (C : Cx x mX4_standTogether) (hR : Rt x mX4_standTogether post) {M : Mm} {k : Nat} (hk : isS k) {s : Sg} (hw : WF s) (hs : SE M k s) {f : Int} {n : Nat} (hf : 0 ≤ f) (hn : 1 ≤ n ∧ f + n ≤ s 6) (hp : post (b2 (anyB (stC s f n) (stN s n))) M) : ∀ (d i : Nat), i + d = stN s n → anyB (stC s f n) i = false → Gx x 8 103 [(0, vr (xg x) k), (1, vi f), (2, vi (n : Int)), (3, vi (s 3 - wS s f n)), (4, vi (nS s f n)), (5, vi (stN s n : Int)), (6, vi (i : Int))] [] M := by
  have h6 := hw.2.2.2.2.2.2.1
  have h3 := hw.2.2.2.1
  have h1 := hw.2.1
  have bw := wS_bd hw hf hn.2
  have bn := nS_bd hw hf hn.2
  have p1 := pow_bd (n := n) (by omega)
  have pw := pow_nat n
  have hN : stN s n ≤ 1024 := by
    unfold stN
    split <;> omega
  intro d
  induction d with
  | zero =>
    intro i hi ha
    have : i = stN s n := by omega
    subst this
    rw [ha] at hp
    exact X4_standTogether_103 C hR hk _ _ _ _ _ _ M ⟨⟨⟨by omega, by omega⟩, by omega, by omega⟩, fun _ => hp, fun q => absurd (by omega) q⟩
  | succ d ih =>
    intro i hi ha
    have bh := hc_bd hw (z := (i : Int)) hf hn.2
    refine X4_standTogether_103 C hR hk _ _ _ _ _ _ M ⟨⟨⟨by omega, by omega⟩, by omega, by omega⟩, fun q => absurd q (by omega), fun _ => ⟨_, c4_heightsChosen hk hw hs hf ⟨by omega, by omega⟩ ⟨by omega, by omega⟩, ?_⟩⟩
    rintro r A ⟨rfl, rfl⟩
    rw [Int.toNat_natCast]
    have nxt : stC s f n (i : Int) = false → anyB (stC s f n) (i + 1) = false := by
      intro y
      simp only [anyB]
      rw [ha, y]
      rfl
    refine ⟨⟨⟨by omega, by omega⟩, by omega, by omega⟩, fun q => ih (i + 1) (by omega) (nxt ?_), fun q => ⟨⟨⟨by omega, by omega⟩, by omega, by omega⟩, fun q2 => ih (i + 1) (by omega) (nxt ?_), fun q2 => ?_⟩⟩
    · unfold stC
      rw [decide_eq_false (by omega)]
      rfl
    · unfold stC
      rw [decide_eq_false (p := nS s f n - hc s f (i : Int) n ≤ s 3 - wS s f n) (by omega), Bool.and_false]
    · have : anyB (stC s f n) (stN s n) = true := anyB_iff.mpr ⟨i, by omega, by
        unfold stC
        rw [decide_eq_true (by omega), decide_eq_true (by omega)]
        rfl⟩
      rw [this] at hp
      exact hp
set_option maxRecDepth 10000 in
set_option maxHeartbeats 1000000 in
theorem c4_standTogether_l {x : Xx} {post : Int → Mm → Prop} (C : Cx x mX4_standTogether) (hR : Rt x mX4_standTogether post) {M : Mm} {k : Nat} (hk : isS k) {s : Sg} (hw : WF s) (hs : SE M k s) {f : Int} {n : Nat} (hf : 0 ≤ f) (hn : 1 ≤ n ∧ f + n ≤ s 6) (hp : post (b2 (anyB (stC s f n) (stN s n))) M) : ∀ (d i : Nat), i + d = n → Gx x 8 25 [(0, vr (xg x) k), (1, vi f), (2, vi (n : Int)), (3, vi (s 3 - wS s f i)), (4, vi (nS s f i)), (5, vi (f + (i : Int)))] [] M := by
  have h6 := hw.2.2.2.2.2.2.1
  have h2 := hw.2.2.1
  have e2 := hs.1 2 (by omega) (by omega)
  intro d
  induction d with
  | zero =>
    intro i hi
    have : i = n := by omega
    subst this
    have hx := c4_standTogether_c C hR hk hw hs hf hn hp (stN s i) 0 (by omega) rfl
    refine X4_standTogether_25 C hR hk _ _ _ _ _ M ⟨⟨⟨by omega, by omega⟩, by omega, by omega⟩, fun _ => ?_, fun q => absurd (by omega) q⟩
    rw [e2]
    refine ⟨⟨by omega, by omega⟩, fun q => ⟨⟨by omega, by omega⟩, fun w hw98 => ?_⟩, fun q => ?_⟩
    · have : w = (stN s i : Int) := by
        rw [hw98]
        unfold stN
        rw [if_neg q, pow_nat]
        rfl
      rw [this]
      exact hx
    · have : (1 : Int) = (stN s i : Int) := by
        unfold stN
        rw [if_pos q]
        rfl
      rw [this]
      exact hx
  | succ d ih =>
    intro i hi
    have hfg := hw.fg (f := f + (i : Int)) (by omega) (by omega)
    have eh := hs.h (f := f + (i : Int)) (by omega) (by omega)
    have ew := hs.w (f := f + (i : Int)) (by omega) (by omega)
    have hx := ih (i + 1) (by omega)
    have e1 : wS s f (i + 1) = wS s f i + wdF s f (i : Int) := rfl
    have e3 : nS s f (i + 1) = nS s f i + nwF s f (i : Int) := rfl
    have e4 : f + ((i + 1 : Nat) : Int) = f + (i : Int) + 1 := by omega
    rw [e1, e3, e4] at hx
    unfold wdF nwF at hx
    refine X4_standTogether_25 C hR hk _ _ _ _ _ M ⟨⟨⟨by omega, by omega⟩, by omega, by omega⟩, fun q => absurd q (by omega), fun _ => ⟨⟨by omega, by omega⟩, ?_⟩⟩
    rw [ew, eh]
    refine ⟨⟨by omega, by omega⟩, fun q => ⟨⟨by omega, by omega⟩, fun w h => ?_⟩, fun q => ⟨⟨by omega, by omega⟩, fun w h => ?_⟩⟩
    · rw [if_neg q, if_neg q, Int.add_zero, ← h] at hx
      exact hx
    · rw [if_pos q, if_pos q, Int.add_zero, ← Int.sub_sub, ← h] at hx
      exact hx
set_option maxRecDepth 10000 in
set_option maxHeartbeats 1000000 in
theorem c4_standTogether {l : Launch} {g : Gg} {M : Mm} {k : Nat} {s : Sg} {f n : Int} (hk : isS k) (hw : WF s) (hs : SE M k s) (hf : 0 ≤ f) (hn : 1 ≤ n ∧ f + n ≤ s 6) : Ct l g mX4_standTogether [vr g k, vi f, vi n] M (fun r M2 => r = b2 (fitB s f n) ∧ M2 = M) := by
  refine ct_of (by decide) (Nat.le_of_ble_eq_true rfl) ?_
  intro x hl hg C hR
  subst hl
  subst hg
  have h6 := hw.2.2.2.2.2.2.1
  have h4 := hw.2.2.2.2.1
  have e4 := hs.1 4 (by omega) (by omega)
  have e3 := hs.1 3 (by omega) (by omega)
  obtain ⟨m, rfl⟩ : ∃ m : Nat, n = (m : Int) := ⟨n.toNat, by omega⟩
  refine X4_standTogether_0 C hR hk f m M ?_
  rw [e4, e3]
  refine ⟨⟨⟨by omega, by omega⟩, by omega, by omega⟩, fun q w h => ?_, fun q => ?_⟩
  · have hx := c4_standTogether_l C hR hk hw hs hf (n := m) ⟨by omega, by omega⟩ ⟨by rw [st_fit hw hf hn.2 (by omega) q], rfl⟩ m 0 (by omega)
    have e : s 3 - wS s f 0 = w := by
      rw [h]
      show s 3 - 0 = s 3
      omega
    rw [e, show nS s f 0 = 0 from rfl, show f + ((0 : Nat) : Int) = f by omega] at hx
    exact hx
  · refine ⟨?_, rfl⟩
    unfold fitB
    rw [decide_eq_false q]
    rfl
set_option maxRecDepth 10000 in
set_option maxHeartbeats 1000000 in
theorem j7_fill_l {x : Xx} {post : Int → Mm → Prop} (C : Cx x mJ7_fill_53178) (hR : Rt x mJ7_fill_53178 post) {M : Mm} {k m : Nat} (hk : isA k m) {v : Int} (hp : ∀ M2, (∀ a, a ≠ k → M2 a = M a) → (∀ i : Int, 0 ≤ i → i < (m : Int) → M2 k i = v) → post 0 M2) : ∀ (d i : Nat), i + d = m → ∀ M2, (∀ a, a ≠ k → M2 a = M a) → (∀ j : Int, 0 ≤ j → j < (i : Int) → M2 k j = v) → Gx x 4 5 [(0, vr (xg x) k), (1, vi v), (2, vi (i : Int)), (3, vi (m : Int))] [] M2 := by
  have hm := hk.lt
  intro d
  induction d with
  | zero =>
    intro i hi M2 h1 h2
    have : i = m := by omega
    subst this
    exact J7_fill_53178_5 C hR hk _ _ _ M2 ⟨⟨⟨by omega, by omega⟩, by omega, by omega⟩, fun _ => hp M2 h1 h2, fun q => absurd (by omega) q⟩
  | succ d ih =>
    intro i hi M2 h1 h2
    refine J7_fill_53178_5 C hR hk _ _ _ M2 ⟨⟨⟨by omega, by omega⟩, by omega, by omega⟩, fun q => absurd q (by omega), fun _ => ⟨⟨by omega, by omega⟩, fun A hA => ih (i + 1) (by omega) A (fun a ha => by rw [hA, mu_ne ha]; exact h1 a ha) (fun j j0 j1 => ?_)⟩⟩
    rw [hA]
    by_cases e : j = (i : Int)
    · subst e
      rw [mu_at]
    · rw [mu_off e]
      exact h2 j j0 (by omega)
set_option maxRecDepth 10000 in
set_option maxHeartbeats 1000000 in
theorem j7_fill {l : Launch} {g : Gg} {M : Mm} {k m : Nat} {v : Int} (hk : isA k m) : Ct l g mJ7_fill_53178 [vr g k, vi v] M (fun r M2 => (∀ a, a ≠ k → M2 a = M a) ∧ ∀ i : Int, 0 ≤ i → i < (m : Int) → M2 k i = v) := by
  refine ct_of (by decide) (Nat.le_of_ble_eq_true rfl) ?_
  intro x hl hg C hR
  subst hl
  subst hg
  exact J7_fill_53178_0 C hR hk v M (fun w h => by rw [h]; exact j7_fill_l C hR hk (fun M2 h1 h2 => ⟨h1, h2⟩) m 0 (by omega) M (fun _ _ => rfl) (fun j j0 j1 => absurd j1 (by omega)))
