/-! ===== the class: what a measure answers ===== -/
set_option maxRecDepth 10000 in
set_option maxHeartbeats 1000000 in
theorem c1_isEnd {l : Launch} {g : Gg} {M : Mm} {k : Nat} {s : Sg} {ll f : Int} (hk : isMe k) (hw : WF s) (he : MeE M k s) (hl : inR ll) (hf : inR f) : Ct l g mX1_isEnd [vr g k, vi ll, vi f] M (fun r M2 => r = b2 (decide (ll = s 0 ∧ f = s 6)) ∧ M2 = M) := by
  refine ct_of (by decide) (Nat.le_of_ble_eq_true rfl) ?_
  intro x hl hg C hR
  subst hl
  subst hg
  have h0 := hw.1
  have h6 := hw.2.2.2.2.2.2.1
  refine X1_isEnd_0 C hR hk ll f M ?_
  rw [he.1, he.2.1]
  refine ⟨⟨hl, by omega, by omega⟩, fun q => ⟨by rw [decide_eq_false (fun y => q y.1)]; rfl, rfl⟩, fun q => ⟨⟨hf, by omega, by omega⟩, fun q2 => ⟨by rw [decide_eq_false (fun y => q2 y.2)]; rfl, rfl⟩, fun q2 => ⟨by rw [decide_eq_true ⟨q, q2⟩]; rfl, rfl⟩⟩⟩
set_option maxRecDepth 10000 in
set_option maxHeartbeats 1000000 in
theorem c1_linesBehind {l : Launch} {g : Gg} {M : Mm} {k : Nat} {s : Sg} {ll f n : Int} (hk : isMe k) (hw : WF s) (he : MeE M k s) (hl : 0 ≤ ll ∧ ll ≤ 1000) (hf : 0 ≤ f) (hn : 0 ≤ n ∧ f + n ≤ s 6) : Ct l g mX1_linesBehind [vr g k, vi ll, vi f, vi n] M (fun r M2 => r = lb s ll f n ∧ M2 = M) := by
  refine ct_of (by decide) (Nat.le_of_ble_eq_true rfl) ?_
  intro x hl hg C hR
  subst hl
  subst hg
  have h0 := hw.1
  have h6 := hw.2.2.2.2.2.2.1
  have hrm := rm_bd hw
  obtain ⟨e0, e1, e2, e3, e4, e5, e6⟩ := he
  have ta := tk_at (s := s) hf n.toNat
  have tb := tk_bd hw (n := n.toNat) hf (by omega)
  have k1 := (e6 f hf (by omega)).2
  have k2 := (e6 (f + n) (by omega) (by omega)).2
  rw [show (f + n).toNat = f.toNat + n.toNat by omega] at k2
  refine X1_linesBehind_0 C hR hk ll f n M ⟨⟨by omega, by omega⟩, ⟨by omega, by omega⟩, ?_⟩
  rw [e2, k1, k2, e0]
  intro w hw22
  have e : w = ll + (s 2 * s 1 - tk s f n.toNat) := by omega
  refine ⟨⟨⟨by omega, by omega⟩, by omega, by omega⟩, fun q => ⟨?_, rfl⟩, fun q => ⟨?_, rfl⟩⟩
  · unfold lb
    rw [if_pos (by omega)]
  · unfold lb
    rw [if_neg (by omega)]
    exact e
set_option maxRecDepth 10000 in
set_option maxHeartbeats 1000000 in
theorem c1_areMentioned_l {x : Xx} {post : Int → Mm → Prop} (C : Cx x mX1_areMentioned) (hR : Rt x mX1_areMentioned post) {M : Mm} {k : Nat} (hk : isMe k) {s : Sg} (hw : WF s) (he : MeE M k s) {f n c : Int} (hf : 0 ≤ f) (hn : 0 ≤ n ∧ f + n ≤ s 6) (hc : inR c) (hp : post (b2 (amB s f c n.toNat)) M) : ∀ (d i : Nat), i + d = n.toNat → amB s f c i = true → Gx x 5 3 [(0, vr (xg x) k), (1, vi f), (2, vi n), (3, vi c), (4, vi (f + (i : Int)))] [] M := by
  have h0 := hw.1
  have h6 := hw.2.2.2.2.2.2.1
  intro d
  induction d with
  | zero =>
    intro i hi ha
    have : n.toNat = i := by omega
    rw [this, ha] at hp
    exact X1_areMentioned_3 C hR hk _ _ _ _ M ⟨⟨⟨by omega, by omega⟩, by omega, by omega⟩, fun _ => hp, fun q => absurd (by omega) q⟩
  | succ d ih =>
    intro i hi ha
    have du := (he.2.2.2.2.2.1 (f + i) (by omega) (by omega)).1
    have db := due_bd hw (f := f + (i : Int)) (by omega) (by omega)
    refine X1_areMentioned_3 C hR hk _ _ _ _ M ⟨⟨⟨by omega, by omega⟩, by omega, by omega⟩, fun q => absurd q (by omega), fun _ => ⟨⟨by omega, by omega⟩, ?_⟩⟩
    rw [du]
    refine ⟨⟨⟨by omega, by omega⟩, hc⟩, fun q => ?_, fun q => ?_⟩
    · have := ih (i + 1) (by omega) (by
        unfold amB at ha ⊢
        simp only [allB]
        rw [ha, decide_eq_true q]
        rfl)
      rw [show f + ((i + 1 : Nat) : Int) = f + (i : Int) + 1 by omega] at this
      exact this
    · have : amB s f c n.toNat = false := by
        cases hq : amB s f c n.toNat with
        | false => rfl
        | true =>
          unfold amB at hq
          have := allB_iff.mp hq i (by omega)
          rw [decide_eq_true_eq] at this
          exact absurd this q
      rw [this] at hp
      exact hp
set_option maxRecDepth 10000 in
set_option maxHeartbeats 1000000 in
theorem c1_areMentioned {l : Launch} {g : Gg} {M : Mm} {k : Nat} {s : Sg} {f n c : Int} (hk : isMe k) (hw : WF s) (he : MeE M k s) (hf : 0 ≤ f) (hn : 0 ≤ n ∧ f + n ≤ s 6) (hc : inR c) : Ct l g mX1_areMentioned [vr g k, vi f, vi n, vi c] M (fun r M2 => r = b2 (amB s f c n.toNat) ∧ M2 = M) := by
  refine ct_of (by decide) (Nat.le_of_ble_eq_true rfl) ?_
  intro x hl hg C hR
  subst hl
  subst hg
  have hx := c1_areMentioned_l C hR hk hw he hf hn hc ⟨rfl, rfl⟩ n.toNat 0 (by omega) rfl
  rw [show f + ((0 : Nat) : Int) = f by omega] at hx
  exact X1_areMentioned_0 C hR hk f n c M hx
theorem pg_most {s : Sg} (hw : WF s) {ll f n r : Int} (hr : MsQ s f r) (hl : 0 ≤ ll ∧ ll ≤ s 0) (hf : 0 ≤ f ∧ f ≤ s 6) (hn : 0 ≤ n) : pgB s ll f n = (decide (n ≤ r) && (if n = 0 then decide (ll < lb s ll f n) else (decide (s 5 = 1) || amB s f (lb s ll f n) n.toNat))) := by
  have h0 := hw.1
  have h6 := hw.2.2.2.2.2.2.1
  by_cases q : n ≤ r
  · obtain ⟨a, b⟩ := (hr.2 n hn).mp q
    have ht := fit_tk hw hf.1 (n := n) ⟨hn, by omega, a⟩ b
    have hlb : ll ≤ lb s ll f n ∧ lb s ll f n ≤ s 0 := by
      unfold lb
      split <;> omega
    rw [decide_eq_true q, Bool.true_and]
    unfold pgB
    rw [decide_eq_true a, b]
    simp only [Bool.true_and]
    by_cases e : n = 0
    · subst e
      rw [if_pos rfl]
      have : amB s f (lb s ll f 0) (0 : Int).toNat = true := rfl
      rw [this, Bool.or_true, Bool.and_true]
      by_cases z : ll < lb s ll f 0
      · rw [decide_eq_true z, decide_eq_true (by omega)]
      · rw [decide_eq_false z, decide_eq_false (by omega)]
    · rw [if_neg e, decide_eq_true (p := 0 < lb s ll f n - ll + n) (by omega), Bool.true_and]
      by_cases z : s 0 = 0
      · rw [am_all (s := s) (c := lb s ll f n) (by omega)]
        simp
      · rw [decide_eq_false z, Bool.or_false]
  · rw [decide_eq_false q, Bool.false_and]
    cases hq : pgB s ll f n with
    | false => rfl
    | true =>
      unfold pgB at hq
      simp only [Bool.and_eq_true, decide_eq_true_eq] at hq
      exact absurd ((hr.2 n hn).mpr ⟨hq.1, hq.2.1⟩) q
set_option maxRecDepth 10000 in
set_option maxHeartbeats 1000000 in
theorem c1_mayTake {l : Launch} {g : Gg} {M : Mm} {k : Nat} {s : Sg} {ll f n : Int} (hk : isMe k) (hw : WF s) (he : MeE M k s) (hl : 0 ≤ ll ∧ ll ≤ s 0) (hf : 0 ≤ f ∧ f ≤ s 6) (hn : 0 ≤ n ∧ n ≤ 1000) : Ct l g mX1_mayTake [vr g k, vi ll, vi f, vi n] M (fun r M2 => r = b2 (pgB s ll f n) ∧ M2 = M) := by
  refine ct_of (by decide) (Nat.le_of_ble_eq_true rfl) ?_
  intro x hl hg C hR
  subst hl
  subst hg
  have h0 := hw.1
  have h6 := hw.2.2.2.2.2.2.1
  have hr := (he.2.2.2.2.2.2 f hf.1 hf.2).1
  have rb := msq_bd hr
  have pm := pg_most hw hr hl hf hn.1
  have e3 := he.2.2.2.1
  refine X1_mayTake_0 C hR hk ll f n M ⟨⟨by omega, by omega⟩, ⟨⟨by omega, by omega⟩, by omega, by omega⟩, fun q => ?_, fun q => ⟨by rw [pm, decide_eq_false q]; rfl, rfl⟩⟩
  obtain ⟨qa, qb⟩ := (hr.2 n hn.1).mp q
  have lbb := lb_bd hw hl hf.1 (n := n) ⟨by omega, by omega, by omega⟩
  refine ⟨_, c1_linesBehind hk hw he ⟨by omega, by omega⟩ hf.1 ⟨hn.1, qa⟩, ?_⟩
  rintro r A ⟨rfl, rfl⟩
  rw [decide_eq_true q, Bool.true_and] at pm
  refine ⟨⟨by omega, by omega⟩, fun q1 => ?_, fun q1 => ?_⟩
  · rw [if_neg q1] at pm
    rw [e3]
    refine ⟨b2_inR _, fun q2 => ⟨?_, rfl⟩, fun q2 => ⟨_, c1_areMentioned hk hw he hf.1 ⟨hn.1, qa⟩ ⟨by omega, by omega⟩, ?_⟩⟩
    · rw [pm, b2_nz q2]
      rfl
    · rw [b2_z q2, Bool.false_or] at pm
      rintro r B ⟨rfl, rfl⟩
      refine ⟨b2_inR _, fun q3 => ⟨?_, rfl⟩, fun q3 => ⟨?_, rfl⟩⟩
      · rw [pm, b2_z q3]; rfl
      · rw [pm, b2_nz q3]; rfl
  · rw [if_pos q1] at pm
    refine ⟨⟨⟨by omega, by omega⟩, by omega, by omega⟩, fun q2 => ⟨?_, rfl⟩, fun q2 => ⟨?_, rfl⟩⟩
    · rw [pm, decide_eq_false (by omega)]; rfl
    · rw [pm, decide_eq_true (by omega)]; rfl
set_option maxRecDepth 10000 in
set_option maxHeartbeats 1000000 in
theorem c1_toll_l {x : Xx} {post : Int → Mm → Prop} (C : Cx x mX1_toll) (hR : Rt x mX1_toll post) {M : Mm} {k : Nat} (hk : isMe k) {s : Sg} (hw : WF s) (he : MeE M k s) {ll f : Int} (hl : inR ll) (hf : inR f) (hp : post (tl s ll f) M) : ∀ (d i : Nat), i + d = (s 6).toNat → Gx x 5 5 [(0, vr (xg x) k), (1, vi ll), (2, vi f), (3, vi (sm (tlF s ll f) i)), (4, vi (i : Int))] [] M := by
  have h0 := hw.1
  have h6 := hw.2.2.2.2.2.2.1
  have e1 := he.2.1
  intro d
  induction d with
  | zero =>
    intro i hi
    have : i = (s 6).toNat := by omega
    subst this
    refine X1_toll_5 C hR hk _ _ _ _ M ?_
    rw [e1]
    exact ⟨⟨⟨by omega, by omega⟩, by omega, by omega⟩, fun _ => hp, fun q => absurd (by omega) q⟩
  | succ d ih =>
    intro i hi
    have hx := ih (i + 1) (by omega)
    obtain ⟨du, dw⟩ := he.2.2.2.2.2.1 (i : Int) (by omega) (by omega)
    have db := due_bd hw (f := (i : Int)) (by omega) (by omega)
    have es : sm (tlF s ll f) (i + 1) = sm (tlF s ll f) i + tlF s ll f (i : Int) := rfl
    rw [es] at hx
    unfold tlF at hx
    refine X1_toll_5 C hR hk _ _ _ _ M ?_
    rw [e1, du]
    have go : ∀ a b : Int, inR a → inR b → (a = b ↔ ((due s (i : Int) < ll) = ((i : Int) < f))) → Gx x 5 41 [(0, vr (xg x) k), (1, vi ll), (2, vi f), (3, vi (sm (tlF s ll f) i)), (4, vi (i : Int))] [vi b, vi a] M := by
      intro a b ra rb hab
      refine X1_toll_41 C hR hk _ _ _ _ _ _ M ⟨⟨ra, rb⟩, fun q => ?_, fun q => ⟨⟨by omega, by omega⟩, fun w hw53 => ?_⟩⟩
      · rw [if_pos (hab.mp q), Int.add_zero] at hx
        exact hx
      · rw [if_neg (fun y => q (hab.mpr y)), ← dw] at hx
        rw [hw53]
        exact hx
    refine ⟨⟨⟨by omega, by omega⟩, by omega, by omega⟩, fun q => absurd q (by omega), fun _ => ⟨⟨by omega, by omega⟩, ⟨⟨by omega, by omega⟩, hl⟩, fun q => ⟨⟨⟨by omega, by omega⟩, hf⟩, fun q2 => go 0 0 (by decide) (by decide) ?_, fun q2 => go 0 1 (by decide) (by decide) ?_⟩, fun q => ⟨⟨⟨by omega, by omega⟩, hf⟩, fun q2 => go 1 0 (by decide) (by decide) ?_, fun q2 => go 1 1 (by decide) (by decide) ?_⟩⟩⟩
    · simp only [eq_iff_iff, true_iff]
      omega
    · simp only [eq_iff_iff]
      omega
    · simp only [eq_iff_iff]
      omega
    · simp only [eq_iff_iff, true_iff]
      omega
set_option maxRecDepth 10000 in
set_option maxHeartbeats 1000000 in
theorem c1_toll {l : Launch} {g : Gg} {M : Mm} {k : Nat} {s : Sg} {ll f : Int} (hk : isMe k) (hw : WF s) (he : MeE M k s) (hl : inR ll) (hf : inR f) : Ct l g mX1_toll [vr g k, vi ll, vi f] M (fun r M2 => r = tl s ll f ∧ M2 = M) := by
  refine ct_of (by decide) (Nat.le_of_ble_eq_true rfl) ?_
  intro x hl hg C hR
  subst hl
  subst hg
  exact X1_toll_0 C hR hk ll f M (c1_toll_l C hR hk hw he hl hf ⟨rfl, rfl⟩ (s 6).toNat 0 (by omega))
theorem setB_no {P : Int → Bool} : ∀ {n : Nat}, (∀ k : Nat, k < n → P (k : Int) = false) → setB P n = 0
  | 0, _ => rfl
  | n + 1, h => by
    simp only [setB]
    rw [setB_no (fun k hk => h k (by omega)), h n (by omega)]
    simp
theorem setB_up {P : Int → Bool} {n : Nat} : ∀ d : Nat, (∀ k : Nat, n ≤ k → k < n + d → P (k : Int) = false) → setB P (n + d) = setB P n
  | 0, _ => rfl
  | d + 1, h => by
    show setB P (n + d) ||| (if P ((n + d : Nat) : Int) then 2 ^ (n + d) else 0) = _
    rw [setB_up d (fun k h1 h2 => h k h1 (by omega)), h (n + d) (by omega) (by omega)]
    simp
theorem setB_s {P : Int → Bool} {i : Nat} (h : P (i : Int) = true) : ((((setB P i : Nat) : Int).toNat ||| ((2 : Int) ^ (i : Int).toNat).toNat : Nat) : Int) = ((setB P (i + 1) : Nat) : Int) := by
  have e3 : ((2 : Int) ^ (i : Int).toNat).toNat = 2 ^ i := by
    rw [Int.toNat_natCast, ← pow_nat, Int.toNat_natCast]
  rw [e3, Int.toNat_natCast]
  simp only [setB]
  rw [h]
  rfl
theorem setB_n {P : Int → Bool} {i : Nat} (h : P (i : Int) = false) : setB P (i + 1) = setB P i := by
  simp only [setB]
  rw [h]
  simp
set_option maxRecDepth 10000 in
set_option maxHeartbeats 1000000 in
theorem c1_waiting_l {x : Xx} {post : Int → Mm → Prop} (C : Cx x mX1_waiting) (hR : Rt x mX1_waiting post) {M : Mm} {k : Nat} (hk : isMe k) {s : Sg} (hw : WF s) (he : MeE M k s) {ll f : Int} (hl : inR ll) (hf : 0 ≤ f ∧ f ≤ s 6) (hp : post ((setB (bwP s ll f 0) (s 6).toNat : Nat) : Int) M) : ∀ (d i : Nat), i + d = (s 6).toNat → f ≤ (i : Int) → Gx x 5 5 [(0, vr (xg x) k), (1, vi ll), (3, vi ((setB (bwP s ll f 0) i : Nat) : Int)), (4, vi (i : Int))] [] M := by
  have h0 := hw.1
  have h6 := hw.2.2.2.2.2.2.1
  have e1 := he.2.1
  intro d
  induction d with
  | zero =>
    intro i hi hfi
    have : i = (s 6).toNat := by omega
    subst this
    refine X1_waiting_5 C hR hk _ _ _ M ?_
    rw [e1]
    exact ⟨⟨⟨by omega, by omega⟩, by omega, by omega⟩, fun _ => hp, fun q => absurd (by omega) q⟩
  | succ d ih =>
    intro i hi hfi
    have hx := ih (i + 1) (by omega) (by omega)
    obtain ⟨du, -⟩ := he.2.2.2.2.2.1 (i : Int) (by omega) (by omega)
    have db := due_bd hw (f := (i : Int)) (by omega) (by omega)
    have pw := pow_bd (n := i) (by omega)
    refine X1_waiting_5 C hR hk _ _ _ M ?_
    rw [e1, du]
    refine ⟨⟨⟨by omega, by omega⟩, by omega, by omega⟩, fun q => absurd q (by omega), fun _ => ⟨⟨by omega, by omega⟩, ⟨⟨by omega, by omega⟩, hl⟩, fun q => ?_, fun q => ⟨⟨by omega, by omega⟩, ⟨by omega, by rw [Int.toNat_natCast]; omega⟩, fun w hw31 => ?_⟩⟩⟩
    · rw [setB_n (by simp [bwP]; omega)] at hx
      exact hx
    · rw [setB_s (by simp [bwP]; omega)] at hw31
      rw [hw31]
      exact hx
set_option maxRecDepth 10000 in
set_option maxHeartbeats 1000000 in
theorem c1_waiting {l : Launch} {g : Gg} {M : Mm} {k : Nat} {s : Sg} {ll f : Int} (hk : isMe k) (hw : WF s) (he : MeE M k s) (hl : inR ll) (hf : 0 ≤ f ∧ f ≤ s 6) : Ct l g mX1_waiting [vr g k, vi ll, vi f] M (fun r M2 => r = ((setB (bwP s ll f 0) (s 6).toNat : Nat) : Int) ∧ M2 = M) := by
  refine ct_of (by decide) (Nat.le_of_ble_eq_true rfl) ?_
  intro x hl hg C hR
  subst hl
  subst hg
  have hx := c1_waiting_l C hR hk hw he hl hf ⟨rfl, rfl⟩ ((s 6).toNat - f.toNat) f.toNat (by omega) (by omega)
  rw [setB_no (fun k hk => by simp [bwP]; omega), show ((f.toNat : Nat) : Int) = f by omega] at hx
  exact X1_waiting_0 C hR hk ll f M hx
set_option maxRecDepth 10000 in
set_option maxHeartbeats 1000000 in
theorem c1_unmentioned_l {x : Xx} {post : Int → Mm → Prop} (C : Cx x mX1_unmentioned) (hR : Rt x mX1_unmentioned post) {M : Mm} {k : Nat} (hk : isMe k) {s : Sg} (hw : WF s) (he : MeE M k s) {ll f : Int} (hl : inR ll) (hf : 0 ≤ f ∧ f ≤ s 6) (hp : post ((setB (bwP s ll f 1) f.toNat : Nat) : Int) M) : ∀ (d i : Nat), i + d = f.toNat → Gx x 5 5 [(0, vr (xg x) k), (1, vi ll), (2, vi f), (3, vi ((setB (bwP s ll f 1) i : Nat) : Int)), (4, vi (i : Int))] [] M := by
  have h0 := hw.1
  have h6 := hw.2.2.2.2.2.2.1
  intro d
  induction d with
  | zero =>
    intro i hi
    have : i = f.toNat := by omega
    subst this
    exact X1_unmentioned_5 C hR hk _ _ _ _ M ⟨⟨⟨by omega, by omega⟩, by omega, by omega⟩, fun _ => hp, fun q => absurd (by omega) q⟩
  | succ d ih =>
    intro i hi
    have hx := ih (i + 1) (by omega)
    obtain ⟨du, -⟩ := he.2.2.2.2.2.1 (i : Int) (by omega) (by omega)
    have db := due_bd hw (f := (i : Int)) (by omega) (by omega)
    have pw := pow_bd (n := i) (by omega)
    refine X1_unmentioned_5 C hR hk _ _ _ _ M ?_
    rw [du]
    refine ⟨⟨⟨by omega, by omega⟩, by omega, by omega⟩, fun q => absurd q (by omega), fun _ => ⟨⟨by omega, by omega⟩, ⟨⟨by omega, by omega⟩, hl⟩, fun q => ?_, fun q => ⟨⟨by omega, by omega⟩, ⟨by omega, by rw [Int.toNat_natCast]; omega⟩, fun w hw31 => ?_⟩⟩⟩
    · rw [setB_n (by simp [bwP]; omega)] at hx
      exact hx
    · rw [setB_s (by simp [bwP]; omega)] at hw31
      rw [hw31]
      exact hx
set_option maxRecDepth 10000 in
set_option maxHeartbeats 1000000 in
theorem c1_unmentioned {l : Launch} {g : Gg} {M : Mm} {k : Nat} {s : Sg} {ll f : Int} (hk : isMe k) (hw : WF s) (he : MeE M k s) (hl : inR ll) (hf : 0 ≤ f ∧ f ≤ s 6) : Ct l g mX1_unmentioned [vr g k, vi ll, vi f] M (fun r M2 => r = ((setB (bwP s ll f 1) (s 6).toNat : Nat) : Int) ∧ M2 = M) := by
  refine ct_of (by decide) (Nat.le_of_ble_eq_true rfl) ?_
  intro x hl hg C hR
  subst hl
  subst hg
  have e := setB_up (P := bwP s ll f 1) (n := f.toNat) ((s 6).toNat - f.toNat) (fun k h1 h2 => by simp [bwP]; omega)
  rw [show f.toNat + ((s 6).toNat - f.toNat) = (s 6).toNat by omega] at e
  have hx := c1_unmentioned_l C hR hk hw he hl hf ⟨by rw [e], rfl⟩ f.toNat 0 (by omega)
  exact X1_unmentioned_0 C hR hk ll f M hx
