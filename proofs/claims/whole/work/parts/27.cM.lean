/-! ===== the class: history, measure ===== -/
set_option maxRecDepth 10000 in
set_option maxHeartbeats 1000000 in
theorem c0_remember {l : Launch} {g : Gg} {M : Mm} {s : Sg} (h6 : 0 ≤ s 6 ∧ s 6 ≤ 10) (hs : SE M 6 s) (he : 0 ≤ M 4 1 ∧ M 4 1 < 6) (hz : 0 ≤ M 4 2 ∧ M 4 2 ≤ 6) : Ct l g mX0_remember [vr g 4, vr g 6] M (fun r M2 => SE M2 (34 + 7 * (M 4 1).toNat) s ∧ M2 4 1 = (M 4 1 + 1) % 6 ∧ M2 4 2 = (if M 4 2 = 6 then 6 else M 4 2 + 1) ∧ ∀ a, a ≠ 4 → (a < 34 + 7 * (M 4 1).toNat ∨ 34 + 7 * (M 4 1).toNat + 7 ≤ a) → M2 a = M a) := by
  refine ct_of (by decide) (Nat.le_of_ble_eq_true rfl) ?_
  intro x hl hg C hR
  subst hl
  subst hg
  refine X0_remember_0 C hR isS_6 M ⟨he, _, c4_becomes (ringS he) isS_6 (by omega) h6 hs, ?_⟩
  rintro r A ⟨fA, sA⟩
  have e4 : A 4 = M 4 := fA 4 (by omega)
  rw [e4]
  refine ⟨⟨by omega, by omega⟩, fun B hB => ?_⟩
  have b2' : B 4 2 = M 4 2 := by rw [hB, mu_off (by decide), e4]
  rw [b2']
  refine ⟨⟨by omega, by omega⟩, fun D hD => ⟨?_, ?_, ?_, fun a a1 a2 => ?_⟩⟩
  · refine sA.kept (fun a a1 a2 => ?_)
    rw [hD, mu_ne (by omega), hB, mu_ne (by omega)]
  · rw [hD, mu_off (by decide), hB, mu_at]
  · rw [hD, mu_at]
    grind
  · rw [hD, mu_ne a1, hB, mu_ne a1]
    exact fA a a2
set_option maxRecDepth 10000 in
set_option maxHeartbeats 1000000 in
theorem c0_bringBack {l : Launch} {g : Gg} {M : Mm} {s : Sg} (h6 : 0 ≤ s 6 ∧ s 6 ≤ 10) (he : 0 ≤ M 4 1 ∧ M 4 1 < 6) (hs : SE M (34 + 7 * ((M 4 1 + 5) % 6).toNat) s) : Ct l g mX0_bringBack [vr g 4, vr g 6] M (fun r M2 => SE M2 6 s ∧ M2 4 1 = (M 4 1 + 5) % 6 ∧ M2 4 2 = M 4 2 - 1 ∧ ∀ a, a ≠ 4 → (a < 6 ∨ 13 ≤ a) → M2 a = M a) := by
  refine ct_of (by decide) (Nat.le_of_ble_eq_true rfl) ?_
  intro x hl hg C hR
  subst hl
  subst hg
  refine X0_bringBack_0 C hR isS_6 M ⟨⟨by omega, by omega⟩, fun A hA => ?_⟩
  have e1 : A 4 1 = (M 4 1 + 5) % 6 := by
    rw [hA, mu_at]
    congr 1
    omega
  rw [e1]
  refine ⟨⟨by omega, by omega⟩, _, c4_becomes isS_6 (ringS (by omega)) (by omega) h6 (hs.kept (fun a a1 a2 => by rw [hA, mu_ne (by omega)])), ?_⟩
  rintro r B ⟨fB, sB⟩ D hD
  have e4 : B 4 = A 4 := fB 4 (by omega)
  refine ⟨?_, ?_, ?_, fun a a1 a2 => ?_⟩
  · refine sB.kept (fun a a1 a2 => ?_)
    rw [hD, mu_ne (by omega)]
  · rw [hD, mu_off (by decide), e4]
    exact e1
  · rw [hD, mu_at, e4, hA, mu_off (by decide)]
  · rw [hD, mu_ne a1, fB a (by omega), hA, mu_ne a1]
/-! measures -/
theorem bit_mod {z n k : Nat} (h : k < n) : ((z % 2 ^ n : Nat) : Int) / 2 ^ k % 2 = (z : Int) / 2 ^ k % 2 := by
  have e1 : ((z % 2 ^ n : Nat) : Int) / 2 ^ k % 2 = ((z % 2 ^ n / 2 ^ k % 2 : Nat) : Int) := by norm_cast
  have e2 : (z : Int) / 2 ^ k % 2 = ((z / 2 ^ k % 2 : Nat) : Int) := by norm_cast
  rw [e1, e2]
  have h1 : (z % 2 ^ n).testBit k = z.testBit k := by
    rw [Nat.testBit_mod_two_pow, decide_eq_true h, Bool.true_and]
  rw [Nat.testBit_eq_decide_div_mod_eq, Nat.testBit_eq_decide_div_mod_eq] at h1
  have h2 := decide_eq_decide.mp h1
  omega
theorem fit_less {s : Sg} (h : WF s) {f : Int} {n : Nat} (hf : 0 ≤ f) (hn : f + ((n : Int) + 1) ≤ s 6) (hq : fitB s f ((n : Int) + 1) = true) : fitB s f n = true := by
  have h6 := h.2.2.2.2.2.2.1
  unfold fitB at hq ⊢
  simp only [Bool.and_eq_true, Bool.or_eq_true, decide_eq_true_eq] at hq ⊢
  obtain ⟨hm, hq⟩ := hq
  refine ⟨by omega, ?_⟩
  rcases hq with hq | hq
  · omega
  refine Or.inr ?_
  rw [show ((n : Int) + 1).toNat = n + 1 by omega] at hq
  rw [Int.toNat_natCast]
  obtain ⟨z, hz, hz2⟩ := anyB_iff.mp hq
  have hcong : ∀ b : Int, col s f ((z % 2 ^ n : Nat) : Int) b n ≤ col s f (z : Int) b (n + 1) := by
    intro b
    have e : col s f ((z % 2 ^ n : Nat) : Int) b n = col s f (z : Int) b n := by
      unfold col
      refine sm_cong (fun k hk => ?_)
      unfold cl
      rw [Int.toNat_natCast, bit_mod hk]
    have g := cl_bd h (s2 := (z : Int)) (b := b) (n := n + 1) hf (by omega) n (by omega)
    have e2 : col s f (z : Int) b (n + 1) = col s f (z : Int) b n + cl s f (z : Int) b (n : Int) := rfl
    omega
  refine anyB_iff.mpr ⟨z % 2 ^ n, Nat.mod_lt _ (Nat.two_pow_pos n), ?_⟩
  unfold fitS at hz2 ⊢
  rw [show ((n : Int) + 1).toNat = n + 1 by omega] at hz2
  rw [Int.toNat_natCast]
  simp only [Bool.and_eq_true, decide_eq_true_eq] at hz2 ⊢
  refine ⟨Int.le_trans (hcong 1) hz2.1, ?_⟩
  by_cases e : s 2 = 1
  · have h2 := hz2.2
    rw [if_pos e, decide_eq_true_eq] at h2 ⊢
    have p1 := pow_nat n
    have p2 := pow_nat (n + 1)
    have p3 : (2 : Nat) ^ (n + 1) = 2 * 2 ^ n := by rw [Nat.pow_succ]; omega
    have p4 := Nat.two_pow_pos n
    have ez : z = 2 ^ n - 1 + 2 ^ n := by omega
    have : z % 2 ^ n = 2 ^ n - 1 := by
      rw [ez, Nat.add_mod_right, Nat.mod_eq_of_lt (by omega)]
    rw [this]
    omega
  · have h2 := hz2.2
    rw [if_neg e, decide_eq_true_eq] at h2 ⊢
    exact Int.le_trans (hcong 0) h2
theorem fit_mono {s : Sg} (h : WF s) {f : Int} {n : Nat} (hf : 0 ≤ f) : ∀ d : Nat, f + ((n + d : Nat) : Int) ≤ s 6 → fitB s f ((n + d : Nat) : Int) = true → fitB s f n = true
  | 0, _, hq => hq
  | d + 1, hn, hq => fit_mono h hf d (by omega) (fit_less h hf (by omega) (by
      have : ((n + (d + 1) : Nat) : Int) = ((n + d : Nat) : Int) + 1 := by omega
      rw [← this]
      exact hq))
/-- r is how many figures from f on may stand on one page -/
def MsQ (s : Sg) (f r : Int) : Prop := 0 ≤ r ∧ ∀ n : Int, 0 ≤ n → (n ≤ r ↔ (f + n ≤ s 6 ∧ fitB s f n = true))
theorem msq_of {s : Sg} (h : WF s) {f : Int} {i : Nat} (hf : 0 ≤ f ∧ f ≤ s 6) (h1 : f + (i : Int) ≤ s 6) (h2 : fitB s f i = true) (h3 : f + ((i : Int) + 1) ≤ s 6 → fitB s f ((i : Int) + 1) = false) : MsQ s f i := by
  refine ⟨by omega, fun n hn => ?_⟩
  obtain ⟨m, rfl⟩ : ∃ m : Nat, n = (m : Int) := ⟨n.toNat, by omega⟩
  constructor
  · intro hle
    refine ⟨by omega, fit_mono h hf.1 (i - m) (by omega) ?_⟩
    rw [show m + (i - m) = i by omega]
    exact h2
  · rintro ⟨a, b⟩
    rcases Nat.lt_or_ge i m with q | q
    · have := fit_mono h hf.1 (n := i + 1) (m - (i + 1)) (by omega) (by rw [show i + 1 + (m - (i + 1)) = m by omega]; exact b)
      rw [show ((i + 1 : Nat) : Int) = (i : Int) + 1 by omega, h3 (by omega)] at this
      cases this
    · omega
theorem msq_bd {s : Sg} {f r : Int} (h : MsQ s f r) : 0 ≤ r ∧ f + r ≤ s 6 ∧ r ≤ s 4 ∧ fitB s f r = true := by
  have := (h.2 r h.1).mp (Int.le_refl r)
  refine ⟨h.1, this.1, ?_, this.2⟩
  have e := this.2
  unfold fitB at e
  simp only [Bool.and_eq_true, decide_eq_true_eq] at e
  exact e.1
set_option maxRecDepth 10000 in
set_option maxHeartbeats 1000000 in
theorem c1_mostFrom_l {x : Xx} {post : Int → Mm → Prop} (C : Cx x mX1_mostFrom) (hR : Rt x mX1_mostFrom post) {M : Mm} {k : Nat} (hk : isS k) {s : Sg} (hw : WF s) (hs : SE M k s) {f : Int} (hf : 0 ≤ f ∧ f < s 6) (hp : ∀ r, MsQ s f r → post r M) {w : Int} (hw2 : w = (if s 6 - f < s 4 then s 6 - f else s 4)) : ∀ (d i : Nat), (i : Int) + d = w → fitB s f i = true → Gx x 4 18 [(0, vr (xg x) k), (1, vi f), (2, vi (i : Int)), (3, vi w)] [] M := by
  have h6 := hw.2.2.2.2.2.2.1
  have h4 := hw.2.2.2.2.1
  have hwb : w ≤ s 6 - f ∧ w ≤ s 4 ∧ (w = s 6 - f ∨ w = s 4) := by rw [hw2]; split <;> omega
  intro d
  induction d with
  | zero =>
    intro i hi ha
    refine X1_mostFrom_18 C hR hk f i w M ⟨⟨⟨by omega, by omega⟩, by omega, by omega⟩, fun _ => hp _ (msq_of hw ⟨hf.1, by omega⟩ (by omega) ha (fun z => ?_)), fun q => absurd (by omega) q⟩
    unfold fitB
    rw [decide_eq_false (by omega)]
    rfl
  | succ d ih =>
    intro i hi ha
    refine X1_mostFrom_18 C hR hk f i w M ⟨⟨⟨by omega, by omega⟩, by omega, by omega⟩, fun q => absurd q (by omega), fun _ => ⟨_, c4_standTogether hk hw hs hf.1 ⟨by omega, by omega⟩, ?_⟩⟩
    rintro r A ⟨rfl, rfl⟩
    exact ⟨b2_inR _, fun q => hp _ (msq_of hw ⟨hf.1, by omega⟩ (by omega) ha (fun _ => b2_z q)), fun q => ih (i + 1) (by omega) (b2_nz q)⟩
set_option maxRecDepth 10000 in
set_option maxHeartbeats 1000000 in
theorem c1_mostFrom {l : Launch} {g : Gg} {M : Mm} {k : Nat} {s : Sg} {f : Int} (hk : isS k) (hw : WF s) (hs : SE M k s) (hf : 0 ≤ f ∧ f < s 6) : Ct l g mX1_mostFrom [vr g k, vi f] M (fun r M2 => MsQ s f r ∧ M2 = M) := by
  refine ct_of (by decide) (Nat.le_of_ble_eq_true rfl) ?_
  intro x hl hg C hR
  subst hl
  subst hg
  have h6 := hw.2.2.2.2.2.2.1
  have h4 := hw.2.2.2.2.1
  have e4 := hs.1 4 (by omega) (by omega)
  have e6 := hs.2.1
  refine X1_mostFrom_0 C hR hk f M ?_
  rw [e4, e6]
  refine ⟨⟨⟨by omega, by omega⟩, by omega, by omega⟩, fun w hw17 => ?_⟩
  have hwb : 0 ≤ w := by rw [hw17]; split <;> omega
  exact c1_mostFrom_l C hR hk hw hs hf (fun r hr => ⟨hr, rfl⟩) hw17 w.toNat 0 (by omega) (fit_zero hw f)
theorem tk_at {s : Sg} {f : Int} (hf : 0 ≤ f) : ∀ n : Nat, tk s f n = tk s 0 (f.toNat + n) - tk s 0 f.toNat
  | 0 => by
    show (0 : Int) = tk s 0 f.toNat - tk s 0 f.toNat
    omega
  | n + 1 => by
    have ih := tk_at (s := s) hf n
    have e1 : tk s f (n + 1) = tk s f n + tkF s f n := rfl
    have e2 : tk s 0 (f.toNat + (n + 1)) = tk s 0 (f.toNat + n) + tkF s 0 ((f.toNat + n : Nat) : Int) := rfl
    have e3 : tkF s 0 ((f.toNat + n : Nat) : Int) = tkF s f n := by
      unfold tkF
      rw [show (0 : Int) + ((f.toNat + n : Nat) : Int) = f + n by omega]
    omega
def FrM (k : Nat) (M M2 : Mm) : Prop := ∀ a, (a < k ∨ k + 5 ≤ a) → M2 a = M a
/-- the measure at cell k is that of s -/
def MeE (M : Mm) (k : Nat) (s : Sg) : Prop := M k 0 = s 0 ∧ M k 1 = s 6 ∧ M k 2 = s 2 * s 1 ∧ M k 3 = b2 (decide (s 5 = 1)) ∧ M k 4 = clash s (s 6).toNat ∧ (∀ f : Int, 0 ≤ f → f < s 6 → M (k + 1) f = due s f ∧ M (k + 2) f = s (7 + 4 * f + 3)) ∧ ∀ f : Int, 0 ≤ f → f ≤ s 6 → MsQ s f (M (k + 3) f) ∧ M (k + 4) f = tk s 0 f.toNat
theorem MeE.kept {M M2 : Mm} {k : Nat} {s : Sg} (e : MeE M k s) (h : ∀ a, k ≤ a → a < k + 5 → M2 a = M a) : MeE M2 k s := by
  unfold MeE at e ⊢
  rw [h k (by omega) (by omega), h (k + 1) (by omega) (by omega), h (k + 2) (by omega) (by omega), h (k + 3) (by omega) (by omega), h (k + 4) (by omega) (by omega)]
  exact e
def TkI (s : Sg) (k i : Nat) (M M2 : Mm) : Prop := FrM k M M2 ∧ M2 k 0 = s 0 ∧ M2 k 1 = s 6 ∧ M2 k 2 = s 2 * s 1 ∧ M2 k 3 = b2 (decide (s 5 = 1)) ∧ M2 k 4 = clash s i ∧ (∀ f : Int, 0 ≤ f → f < (i : Int) → M2 (k + 1) f = due s f ∧ M2 (k + 2) f = s (7 + 4 * f + 3) ∧ MsQ s f (M2 (k + 3) f)) ∧ ∀ f : Int, 0 ≤ f → f ≤ (i : Int) → M2 (k + 4) f = tk s 0 f.toNat
theorem isS_lt {k : Nat} (h : isS k) : k + 7 ≤ 76 := by
  obtain ⟨j, hj, rfl⟩ := h
  omega
theorem isMe_ge {k : Nat} (h : isMe k) : 77 ≤ k := by
  rcases h with rfl | rfl <;> omega
set_option maxRecDepth 10000 in
set_option maxHeartbeats 1000000 in
theorem c1_take_l {x : Xx} {post : Int → Mm → Prop} (C : Cx x mX1_take) (hR : Rt x mX1_take post) {M : Mm} {k j : Nat} (hk : isMe k) (hj : isS j) {s : Sg} (hw : WF s) (hs : SE M j s) (hp : ∀ M2, MeE M2 k s → FrM k M M2 → post 0 M2) : ∀ (d i : Nat), i + d = (s 6).toNat → ∀ M2, TkI s k i M M2 → Gx x 4 63 [(0, vr (xg x) k), (1, vr (xg x) j), (2, vi (s 2)), (3, vi (i : Int))] [] M2 := by
  have h0 := hw.1
  have h6 := hw.2.2.2.2.2.2.1
  have kj := isS_lt hj
  have kk := isMe_ge hk
  intro d
  induction d with
  | zero =>
    intro i hi M2 ht
    obtain ⟨t0, t1, t2, t3, t4, t5, t6, t7⟩ := ht
    refine X1_take_63 C hR hk hj _ _ M2 ?_
    rw [t2]
    refine ⟨⟨⟨by omega, by omega⟩, by omega, by omega⟩, fun _ => ⟨⟨by omega, by omega⟩, fun A hA => ?_⟩, fun q => absurd (by omega) q⟩
    have ei : (s 6).toNat = i := by omega
    refine hp A ⟨?_, ?_, ?_, ?_, ?_, fun f f0 f1 => ?_, fun f f0 f1 => ?_⟩ (fun a ha => by rw [hA, mu_ne (by omega)]; exact t0 a ha)
    · rw [hA, mu_ne (by omega)]; exact t1
    · rw [hA, mu_ne (by omega)]; exact t2
    · rw [hA, mu_ne (by omega)]; exact t3
    · rw [hA, mu_ne (by omega)]; exact t4
    · rw [hA, mu_ne (by omega), ei]; exact t5
    · have := t6 f f0 (by omega)
      rw [hA, mu_ne (by omega), mu_ne (by omega)]
      exact ⟨this.1, this.2.1⟩
    · have := t7 f f0 (by omega)
      rw [hA, mu_ne (a := k + 4) (by omega)]
      refine ⟨?_, this⟩
      by_cases e : f = s 6
      · rw [e, mu_at]
        exact msq_of hw (i := 0) ⟨by omega, by omega⟩ (by omega) (fit_zero hw _) (fun z => absurd z (by omega))
      · rw [mu_off e]
        exact (t6 f f0 (by omega)).2.2
  | succ d ih =>
    intro i hi M2 ht
    obtain ⟨t0, t1, t2, t3, t4, t5, t6, t7⟩ := ht
    have fg := hw.fg (f := (i : Int)) (by omega) (by omega)
    have em : M2 (j + 5) i = s (7 + 4 * (i : Int) + 2) := by rw [t0 (j + 5) (by omega)]; exact hs.m (by omega) (by omega)
    have eg : M2 (j + 6) i = s (7 + 4 * (i : Int) + 3) := by rw [t0 (j + 6) (by omega)]; exact hs.g (by omega) (by omega)
    have ew : M2 (j + 4) i = s (7 + 4 * (i : Int) + 1) := by rw [t0 (j + 4) (by omega)]; exact hs.w (by omega) (by omega)
    have eh : M2 (j + 3) i = s (7 + 4 * (i : Int)) := by rw [t0 (j + 3) (by omega)]; exact hs.h (by omega) (by omega)
    refine X1_take_63 C hR hk hj _ _ M2 ?_
    rw [t2, t1, em]
    refine ⟨⟨⟨by omega, by omega⟩, by omega, by omega⟩, fun q => absurd q (by omega), fun _ => ⟨⟨by omega, by omega⟩, ⟨⟨by omega, by omega⟩, by omega, by omega⟩, ⟨by omega, by omega⟩, fun A hA => ⟨⟨by omega, by omega⟩, ⟨by omega, by omega⟩, fun B hB => ⟨⟨by omega, by omega⟩, ⟨by omega, by omega⟩, ⟨by omega, by omega⟩, ?_⟩⟩⟩⟩
    have bA : ∀ a, a ≠ k + 1 → a ≠ k + 2 → B a = M2 a := by
      intro a a1 a2
      rw [hB, mu_ne a2, hA, mu_ne a1]
    have b1 : B (k + 1) i = due s i := by
      rw [hB, mu_ne (by omega), hA, mu_at]
      unfold due
      grind
    have b2' : B (k + 2) i = s (7 + 4 * (i : Int) + 3) := by
      rw [hB, mu_at, hA, mu_ne (by omega), eg]
    have bo : ∀ f : Int, f ≠ (i : Int) → B (k + 1) f = M2 (k + 1) f ∧ B (k + 2) f = M2 (k + 2) f := by
      intro f hf
      refine ⟨?_, ?_⟩
      · rw [hB, mu_ne (by omega), hA, mu_off hf]
      · rw [hB, mu_off hf, hA, mu_ne (by omega)]
    rw [bA (j + 4) (by omega) (by omega), bA (j + 3) (by omega) (by omega), ew, eh]
    have key : ∀ z : Int, s (7 + 4 * (i : Int)) * z = tkF s 0 (i : Int) → Gx x 4 146 [(0, vr (xg x) k), (1, vr (xg x) j), (2, vi (s 2)), (3, vi (i : Int))] [vi z, vi (s (7 + 4 * (i : Int))), vi (B (k + 4) i), vi ((i : Int) + 1), vr (xg x) (k + 4)] B := by
      intro z hz
      refine X1_take_146 C hR hk hj _ _ _ _ _ _ B ⟨⟨by omega, by omega⟩, fun D hD => ?_⟩
      have sD : SE D j s := by
        refine hs.kept (fun a a1 a2 => ?_)
        rw [hD, mu_ne (by omega), bA a (by omega) (by omega)]
        exact t0 a (by omega)
      refine ⟨_, c1_mostFrom hj hw sD ⟨by omega, by omega⟩, ?_⟩
      rintro r D2 ⟨hr, rfl⟩
      have rb := msq_bd hr
      refine ⟨⟨by omega, by omega⟩, fun E hE => ⟨⟨by omega, by omega⟩, ?_⟩⟩
      have e3 : E (k + 3) i = r := by rw [hE, mu_at]
      have e4 : E k 4 = clash s i := by
        rw [hE, mu_ne (by omega), hD, mu_ne (by omega), bA k (by omega) (by omega)]
        exact t5
      have fitr : r = 0 ↔ fitB s (i : Int) 1 = false := by
        have := hr.2 1 (by omega)
        constructor
        · intro y
          cases hq : fitB s (i : Int) 1 with
          | false => rfl
          | true => have := this.mpr ⟨by omega, hq⟩; omega
        · intro y
          rcases Int.lt_or_le r 1 with q | q
          · omega
          · have := (this.mp q).2
            rw [y] at this
            cases this
      have fin : ∀ F : Mm, (∀ a, a ≠ k → F a = E a) → (∀ q : Int, q ≠ 4 → F k q = E k q) → F k 4 = clash s (i + 1) → TkI s k (i + 1) M F := by
        intro F f1 f2 f3
        have ek : ∀ q : Int, E k q = M2 k q := by
          intro q
          rw [hE, mu_ne (by omega), hD, mu_ne (by omega), bA k (by omega) (by omega)]
        refine ⟨fun a ha => ?_, ?_, ?_, ?_, ?_, f3, fun f q0 q1 => ?_, fun f q0 q1 => ?_⟩
        · rw [f1 a (by omega), hE, mu_ne (by omega), hD, mu_ne (by omega), bA a (by omega) (by omega)]
          exact t0 a ha
        · rw [f2 0 (by decide), ek]; exact t1
        · rw [f2 1 (by decide), ek]; exact t2
        · rw [f2 2 (by decide), ek]; exact t3
        · rw [f2 3 (by decide), ek]; exact t4
        · rw [f1 (k + 1) (by omega), f1 (k + 2) (by omega), f1 (k + 3) (by omega)]
          have g1 : E (k + 1) = B (k + 1) := by rw [hE, mu_ne (by omega), hD, mu_ne (by omega)]
          have g2 : E (k + 2) = B (k + 2) := by rw [hE, mu_ne (by omega), hD, mu_ne (by omega)]
          rw [g1, g2]
          by_cases e : f = (i : Int)
          · subst e
            rw [b1, b2', e3]
            exact ⟨rfl, rfl, hr⟩
          · rw [(bo f e).1, (bo f e).2, hE, mu_off e, hD, mu_ne (by omega), bA (k + 3) (by omega) (by omega)]
            exact t6 f q0 (by omega)
        · rw [f1 (k + 4) (by omega), hE, mu_ne (by omega), hD]
          by_cases e : f = (i : Int) + 1
          · rw [e, mu_at, hz, bA (k + 4) (by omega) (by omega), t7 i (by omega) (by omega), show ((i : Int) + 1).toNat = i + 1 by omega, Int.toNat_natCast]
            rfl
          · rw [mu_off e, bA (k + 4) (by omega) (by omega)]
            exact t7 f q0 (by omega)
      have cs : clash s (i + 1) = if clash s i = -1 ∧ fitB s (i : Int) 1 = false then (i : Int) else clash s i := rfl
      have cl := clash_lt s i
      rw [e3, e4]
      refine ⟨⟨by omega, by omega⟩, fun q => ih (i + 1) (by omega) E (fin E (fun _ _ => rfl) (fun _ _ => rfl) ?_), fun q => ⟨⟨by omega, by omega⟩, fun q2 => ih (i + 1) (by omega) E (fin E (fun _ _ => rfl) (fun _ _ => rfl) ?_), fun q2 F hF => ih (i + 1) (by omega) F (fin F (fun a ha => by rw [hF, mu_ne ha]) (fun q3 hq3 => by rw [hF, mu_off hq3]) ?_)⟩⟩
      · rw [e4, cs, if_neg (fun y => q (fitr.mpr y.2))]
      · rw [e4, cs, if_neg (fun y => q2 y.1)]
      · rw [hF, mu_at, cs, if_pos ⟨q2, fitr.mp q⟩]
    refine ⟨⟨by omega, by omega⟩, fun q => key 1 ?_, fun q => key (s 2) ?_⟩
    · unfold tkF
      rw [show (0 : Int) + (i : Int) = i by omega, if_neg q]
    · unfold tkF
      rw [show (0 : Int) + (i : Int) = i by omega, if_pos q]
set_option maxRecDepth 10000 in
set_option maxHeartbeats 1000000 in
theorem c1_take {l : Launch} {g : Gg} {M : Mm} {k j : Nat} {s : Sg} (hk : isMe k) (hj : isS j) (hw : WF s) (hs : SE M j s) (hz : M (k + 4) 0 = 0) : Ct l g mX1_take [vr g k, vr g j] M (fun r M2 => MeE M2 k s ∧ FrM k M M2) := by
  refine ct_of (by decide) (Nat.le_of_ble_eq_true rfl) ?_
  intro x hl hg C hR
  subst hl
  subst hg
  have h0 := hw.1
  have h5 := hw.2.2.2.2.2.1
  have h6 := hw.2.2.2.2.2.2.1
  have kj := isS_lt hj
  have kk := isMe_ge hk
  refine X1_take_0 C hR hk hj M (fun w hw6 A hA B hB D hD => ?_)
  have ew : w = s 2 := by rw [hw6]; exact hs.1 2 (by omega) (by omega)
  have dA : ∀ a, a ≠ k → D a = M a := fun a ha => by rw [hD, mu_ne ha, hB, mu_ne ha, hA, mu_ne ha]
  have d0 : D k 0 = s 0 := by rw [hD, mu_off (by decide), hB, mu_off (by decide), hA, mu_at]; exact hs.1 0 (by omega) (by omega)
  have d1 : D k 1 = s 6 := by rw [hD, mu_off (by decide), hB, mu_at, hA, mu_ne (by omega)]; exact hs.2.1
  have d2 : D k 2 = s 2 * s 1 := by rw [hD, mu_at, hB, mu_ne (by omega), hA, mu_ne (by omega), ew, hs.1 1 (by omega) (by omega)]
  have e5 : D (j + 1) 5 = s 5 := by rw [dA (j + 1) (by omega)]; exact hs.1 5 (by omega) (by omega)
  rw [e5, ew]
  have go : ∀ E F : Mm, E = mu D k 3 (b2 (decide (s 5 = 1))) → F = mu E k 4 (-1) → Gx x 4 63 [(0, vr (xg x) k), (1, vr (xg x) j), (2, vi (s 2)), (3, vi 0)] [] F := by
    intro E F hE hF
    refine c1_take_l C hR hk hj hw hs (fun M2 h1 h2 => ⟨h1, h2⟩) (s 6).toNat 0 (by omega) F ⟨fun a ha => ?_, ?_, ?_, ?_, ?_, ?_, fun f f0 f1 => absurd f1 (by omega), fun f f0 f1 => ?_⟩
    · rw [hF, mu_ne (by omega), hE, mu_ne (by omega)]; exact dA a (by omega)
    · rw [hF, mu_off (by decide), hE, mu_off (by decide)]; exact d0
    · rw [hF, mu_off (by decide), hE, mu_off (by decide)]; exact d1
    · rw [hF, mu_off (by decide), hE, mu_off (by decide)]; exact d2
    · rw [hF, mu_off (by decide), hE, mu_at]
    · rw [hF, mu_at]; rfl
    · have : f = 0 := by omega
      subst this
      rw [hF, mu_ne (by omega), hE, mu_ne (by omega), dA (k + 4) (by omega), hz]
      rfl
  refine ⟨⟨by omega, by omega⟩, fun q E hE F hF => go E F (by rw [hE, decide_eq_false q]; rfl) hF, fun q E hE F hF => go E F (by rw [hE, decide_eq_true q]; rfl) hF⟩
