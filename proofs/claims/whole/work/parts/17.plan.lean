/-! ===== plans: page after page ===== -/
abbrev Cf : Type := Nat → Int → Int → Int
def pos (s : Sg) (c : Cf) : Nat → Int × Int
  | 0 => (0, 0)
  | p + 1 => (lb s (pos s c p).1 (pos s c p).2 (c p (pos s c p).1 (pos s c p).2), (pos s c p).2 + c p (pos s c p).1 (pos s c p).2)
def pl (s : Sg) (c : Cf) (p : Nat) : Int := (pos s c p).1
def pf (s : Sg) (c : Cf) (p : Nat) : Int := (pos s c p).2
def pn (s : Sg) (c : Cf) (p : Nat) : Int := c p (pl s c p) (pf s c p)
theorem pl_s (s : Sg) (c : Cf) (p : Nat) : pl s c (p + 1) = lb s (pl s c p) (pf s c p) (pn s c p) := rfl
theorem pf_s (s : Sg) (c : Cf) (p : Nat) : pf s c (p + 1) = pf s c p + pn s c p := rfl
def GS (s : Sg) (ll f n : Int) : Prop := 0 ≤ n ∧ f + n ≤ s 6 ∧ ll ≤ lb s ll f n ∧ lb s ll f n ≤ s 0 ∧ (0 < n ∨ ll + 6 ≤ lb s ll f n ∨ (ll < lb s ll f n ∧ lb s ll f n = s 0))
def Pre (s : Sg) (c : Cf) (P : Nat) : Prop := ∀ p, p < P → GS s (pl s c p) (pf s c p) (pn s c p) ∧ ¬ isEnd s (pl s c p) (pf s c p)
def Plan (s : Sg) (c : Cf) (P : Nat) : Prop := Pre s c P ∧ isEnd s (pl s c P) (pf s c P)
theorem Pre.less {s : Sg} {c : Cf} {P Q : Nat} (h : Pre s c P) (hq : Q ≤ P) : Pre s c Q := fun p hp => h p (by omega)
theorem pre_bd {s : Sg} (hw : WF s) {c : Cf} : ∀ {P : Nat}, Pre s c P → 0 ≤ pl s c P ∧ pl s c P ≤ s 0 ∧ 0 ≤ pf s c P ∧ pf s c P ≤ s 6 ∧ (s 0 - pl s c P + 5) / 6 + (s 6 - pf s c P) + (P : Int) ≤ (s 0 + 5) / 6 + s 6
  | 0, _ => by
    have h0 := hw.1
    have h6 := hw.2.2.2.2.2.2.1
    have e1 : pl s c 0 = 0 := rfl
    have e2 : pf s c 0 = 0 := rfl
    rw [e1, e2]
    omega
  | P + 1, h => by
    have ih := pre_bd hw (P := P) (h.less (by omega))
    have g := (h P (by omega)).1
    unfold GS at g
    rw [pl_s, pf_s]
    omega
theorem pre_30 {s : Sg} (hw : WF s) {c : Cf} {P : Nat} (h : Pre s c P) : P ≤ 30 := by
  have h0 := hw.1
  have h6 := hw.2.2.2.2.2.2.1
  have := pre_bd hw h
  omega
theorem plan_one {s : Sg} {c : Cf} {P Q : Nat} (h : Plan s c P) (k : Plan s c Q) : P = Q := by
  rcases Nat.lt_trichotomy P Q with q | q | q
  · exact absurd h.2 (k.1 P q).2
  · exact q
  · exact absurd k.2 (h.1 Q q).2
theorem pl_mono {s : Sg} {c : Cf} {P : Nat} (h : Pre s c P) : ∀ {q : Nat}, q ≤ P → ∀ p, p ≤ q → pl s c p ≤ pl s c q ∧ pf s c p ≤ pf s c q
  | 0, _, p, hp => by
    have : p = 0 := by omega
    subst this
    exact ⟨Int.le_refl _, Int.le_refl _⟩
  | q + 1, hq, p, hp => by
    rcases Nat.lt_or_ge p (q + 1) with z | z
    · have ih := pl_mono h (q := q) (by omega) p (by omega)
      have g := (h q (by omega)).1
      unfold GS at g
      rw [pl_s, pf_s]
      omega
    · have : p = q + 1 := by omega
      subst this
      exact ⟨Int.le_refl _, Int.le_refl _⟩
theorem gs_of {s : Sg} (hw : WF s) {ll f n : Int} (hl : 0 ≤ ll ∧ ll ≤ s 0) (hf : 0 ≤ f) (hn : 0 ≤ n ∧ n ≤ 1000) (hq : pgB s ll f n = true) : GS s ll f n := by
  have p := pg_facts hw hl hf hn hq
  have hrm := rm_bd hw
  refine ⟨hn.1, p.1, p.2.1, p.2.2.1, ?_⟩
  rcases Int.lt_or_le 0 n with z | z
  · exact Or.inl z
  · have : n = 0 := by omega
    subst this
    refine Or.inr ?_
    have e : lb s ll f 0 = (if s 0 ≤ ll + s 2 * s 1 then s 0 else ll + s 2 * s 1) := by
      unfold lb tk
      simp [sm]
    rw [e] at p ⊢
    split <;> omega
/-- of numbers that grow: the first place whose number is above v; none: -1 -/
def fsA (g : Nat → Int) (v : Int) : Nat → Int
  | 0 => -1
  | P + 1 => if fsA g v P = -1 then (if v < g (P + 1) then (P : Int) else -1) else fsA g v P
theorem fsA_at {g : Nat → Int} {v : Int} : ∀ {P p : Nat}, p < P → v < g (p + 1) → (∀ q, q < p → ¬ v < g (q + 1)) → fsA g v P = (p : Int)
  | 0, p, h, _, _ => absurd h (by omega)
  | P + 1, p, h, hv, hq => by
    simp only [fsA]
    rcases Nat.lt_or_ge p P with z | z
    · have := fsA_at z hv hq
      rw [if_neg (by rw [this]; omega), this]
    · have e : p = P := by omega
      subst e
      have : fsA g v p = -1 := by
        have : ∀ m, m ≤ p → fsA g v m = -1 := by
          intro m
          induction m with
          | zero => intro _; rfl
          | succ m ih => intro hm; simp only [fsA]; rw [if_pos (ih (by omega)), if_neg (hq m (by omega))]
        exact this p (Nat.le_refl p)
      rw [if_pos this, if_pos hv]
theorem fsA_no {g : Nat → Int} {v : Int} : ∀ {P : Nat}, (∀ q, q < P → ¬ v < g (q + 1)) → fsA g v P = -1
  | 0, _ => rfl
  | P + 1, h => by
    simp only [fsA]
    rw [if_pos (fsA_no (fun q hq => h q (by omega))), if_neg (h P (by omega))]
theorem fsA_bd {g : Nat → Int} {v : Int} : ∀ {P : Nat}, -1 ≤ fsA g v P ∧ fsA g v P < (P : Int)
  | 0 => by simp [fsA]
  | P + 1 => by
    have := fsA_bd (g := g) (v := v) (P := P)
    simp only [fsA]
    split
    · split <;> omega
    · omega
theorem fsA_cong {g k : Nat → Int} {v : Int} : ∀ {P : Nat}, (∀ q, q < P → g (q + 1) = k (q + 1)) → fsA g v P = fsA k v P
  | 0, _ => rfl
  | P + 1, h => by
    simp only [fsA]
    rw [fsA_cong (fun q hq => h q (by omega)), h P (by omega)]
/-! the reference's plan -/
def PlM (s : Sg) (c : Cf) (M : Mm) (P : Nat) : Prop := M 105 12 = (P : Int) ∧ ∀ p : Nat, p < P → M 116 p = pn s c p ∧ M 117 p = pl s c (p + 1) ∧ M 118 p = pf s c (p + 1)
def FrP (M M2 : Mm) : Prop := (∀ a, a ≠ 105 → a ≠ 112 → a ≠ 113 → a ≠ 114 → a ≠ 116 → a ≠ 117 → a ≠ 118 → M2 a = M a) ∧ ∀ i, i ≠ 12 → M2 105 i = M 105 i
theorem FrP.rf (M : Mm) : FrP M M := ⟨fun _ _ _ _ _ _ _ _ => rfl, fun _ _ => rfl⟩
theorem FrP.tr {A B D : Mm} (h : FrP A B) (k : FrP B D) : FrP A D := ⟨fun a h1 h2 h3 h4 h5 h6 h7 => (k.1 a h1 h2 h3 h4 h5 h6 h7).trans (h.1 a h1 h2 h3 h4 h5 h6 h7), fun i hi => (k.2 i hi).trans (h.2 i hi)⟩
theorem Fr3.P {M M2 : Mm} (h : Fr3 M M2) : FrP M M2 := ⟨fun a _ h2 h3 h4 _ _ _ => h a h2 h3 h4, fun i _ => by rw [h 105 (by decide) (by decide) (by decide)]⟩
theorem FrP.s {M M2 : Mm} (h : FrP M M2) : M2 106 = M 106 := h.1 106 (by decide) (by decide) (by decide) (by decide) (by decide) (by decide) (by decide)
def adP (M : Mm) (p n l2 f2 : Int) : Mm := mu (mu (mu (mu M 116 p n) 117 p l2) 118 p f2) 105 12 (p + 1)
theorem adP_fr (M : Mm) (p n l2 f2 : Int) : FrP M (adP M p n l2 f2) := by
  refine ⟨fun a h1 h2 h3 h4 h5 h6 h7 => ?_, fun i hi => ?_⟩
  · unfold adP
    rw [mu_ne h1, mu_ne h7, mu_ne h6, mu_ne h5]
  · unfold adP
    rw [mu_off hi, mu_ne (by decide), mu_ne (by decide), mu_ne (by decide)]
theorem adP_tab {s : Sg} {M : Mm} {p n l2 f2 : Int} (h : Tab s M) : Tab s (adP M p n l2 f2) := by
  intro a b h1 h2 h3 h4
  have := h a b h1 h2 h3 h4
  unfold Ent at this ⊢
  unfold adP
  rw [mu_ne (by decide), mu_ne (by decide), mu_ne (by decide), mu_ne (by decide), mu_ne (by decide), mu_ne (by decide), mu_ne (by decide), mu_ne (by decide), mu_ne (by decide), mu_ne (by decide), mu_ne (by decide), mu_ne (by decide)]
  exact this
theorem adP_pl {s : Sg} {c : Cf} {M : Mm} {P : Nat} (h : PlM s c M P) : PlM s c (adP M (P : Int) (pn s c P) (pl s c (P + 1)) (pf s c (P + 1))) (P + 1) := by
  refine ⟨?_, fun p hp => ?_⟩
  · unfold adP
    rw [mu_at]
    omega
  · rcases Nat.lt_or_ge p P with q | q
    · have := h.2 p q
      have hne : (p : Int) ≠ (P : Int) := by omega
      unfold adP
      rw [mu_ne (by decide), mu_ne (by decide), mu_ne (by decide), mu_off hne, mu_ne (by decide), mu_ne (by decide), mu_off hne, mu_ne (by decide), mu_ne (by decide), mu_off hne, mu_ne (by decide), mu_ne (by decide)]
      exact this
    · have : p = P := by omega
      subst this
      unfold adP
      rw [mu_ne (by decide), mu_ne (by decide), mu_ne (by decide), mu_at, mu_ne (by decide), mu_ne (by decide), mu_at, mu_ne (by decide), mu_at]
      exact ⟨rfl, rfl, rfl⟩
set_option maxRecDepth 10000 in
set_option maxHeartbeats 1000000 in
theorem c6_addPage {l : Launch} {g : Gg} {M : Mm} {ll f n p : Int} (hw : WF (M 106)) (hl : 0 ≤ ll ∧ ll ≤ 1000) (hf : 0 ≤ f) (hn : 0 ≤ n ∧ n ≤ 10 ∧ f + n ≤ M 106 6) (hp : M 105 12 = p) (hp2 : 0 ≤ p ∧ p < 160) : Ct l g mX6_addPage [vr g 105, vi ll, vi f, vi n] M (fun r M2 => M2 = adP M p n (lb (M 106) ll f n) (f + n)) := by
  refine ct_of (by decide) (Nat.le_of_ble_eq_true rfl) ?_
  intro x hl hg C hR
  subst hl
  subst hg
  refine X6_addPage_0 C hR ll f n M ⟨by rw [hp]; exact hp2, fun M9 h9 => ?_⟩
  have e6 : M9 106 = M 106 := by rw [h9, mu_ne (by decide)]
  have e5 : M9 105 12 = p := by rw [h9, mu_ne (by decide), hp]
  refine ⟨_, c6_linesBehind (by rw [e6]; exact hw) hl hf (by rw [e6]; exact hn), ?_⟩
  rintro r M22 ⟨rfl, rfl⟩
  rw [e6]
  refine ⟨by rw [e5]; exact hp2, fun M25 h25 => ?_⟩
  have e7 : M25 105 12 = p := by rw [h25, mu_ne (by decide), e5]
  refine ⟨by rw [e7]; exact hp2, fun M37 h37 M45 h45 => ?_⟩
  have e8 : M37 105 12 = p := by rw [h37, mu_ne (by decide), e7]
  rw [h45, e8, h37, e7, h25, e5, h9, hp]
  rfl
def bpB (s : Sg) (ll f n : Int) : Bool := pgB s ll f n && (decide (byB s ll f n < 100000000) && (decide (byB s ll f n = (VV s ll f).1) && decide (szB s ll f n = (VV s ll f).2.1)))
set_option maxRecDepth 10000 in
set_option maxHeartbeats 1000000 in
theorem c6_isBestPage {l : Launch} {g : Gg} {M : Mm} {ll f n : Int} {s : Sg} (hw : WF s) (hs : M 106 = s) (hl : 0 ≤ ll ∧ ll ≤ s 0) (hf : 0 ≤ f ∧ f ≤ s 6) (hn : 0 ≤ n ∧ n ≤ 1000) (hT : Tab s M) : Ct l g mX6_isBestPage [vr g 105, vi ll, vi f, vi n] M (fun r M2 => r = b2 (bpB s ll f n) ∧ M2 = M) := by
  refine ct_of (by decide) (Nat.le_of_ble_eq_true rfl) ?_
  intro x hl hg C hR
  subst hl
  subst hg
  subst hs
  have h0 := hw.1
  have h6 := hw.2.2.2.2.2.2.1
  refine X6_isBestPage_0 C hR ll f n M ⟨_, c6_isPage hw hl hf hn, ?_⟩
  rintro r M1 ⟨rfl, rfl⟩
  refine ⟨b2_inR _, fun hz => ?_, fun hz => ⟨by simp [bpB, b2_z hz, b2], rfl⟩⟩
  have hpg := b2_nz hz
  have p := pg_facts hw hl hf.1 hn hpg
  refine ⟨_, c6_linesBehind hw ⟨by omega, by omega⟩ hf.1 ⟨by omega, by omega, by omega⟩, ?_⟩
  rintro r M2 ⟨rfl, rfl⟩
  intro w30 h30 w38 h38
  have e30 : w30 = 11 * lb (M2 106) ll f n + (f + n) := by omega
  have en := hT (lb (M2 106) ll f n) (f + n) (by omega) (by omega) (by omega) (by omega)
  have ec := hT ll f hl.1 hl.2 hf.1 hf.2
  unfold Ent at en ec
  rw [← e30] at en
  rw [← h38] at ec
  have hv := VV_ok hw (ll := lb (M2 106) ll f n) (f := f + n) (by omega) (by omega)
  have hv2 := VV_ok hw (ll := ll) (f := f) (by omega) (by omega)
  have ht := sm_bound3 hw (ll := lb (M2 106) ll f n) (f := f + n)
  unfold Vok at hv hv2
  have bb := byB_le hw hl hf.1 hn hpg
  refine ⟨⟨by omega, by omega⟩, ?_⟩
  rw [en.1]
  refine ⟨⟨by omega, by omega⟩, fun q => ⟨?_, rfl⟩, fun q => ⟨⟨by omega, by omega⟩, _, c6_paid hw ⟨by omega, by omega⟩ ⟨by omega, by omega⟩, ?_⟩⟩
  · have : ¬ byB (M2 106) ll f n < 100000000 := by
      rw [bb.2.2]
      omega
    simp [bpB, this, b2]
  rintro r M3 ⟨rfl, rfl⟩
  have eb : byB (M3 106) ll f n = (VV (M3 106) (lb (M3 106) ll f n) (f + n)).1 + tl (M3 106) (lb (M3 106) ll f n) (f + n) := by
    unfold byB
    rw [if_neg (by omega)]
  have el : byB (M3 106) ll f n < 100000000 := bb.2.2.mpr (by omega)
  rw [ec.1, ec.2.1, en.2.1, ← eb]
  refine ⟨⟨by omega, by omega⟩, ⟨⟨by omega, by omega⟩, by omega, by omega⟩, fun q2 => ⟨by simp [bpB, q2, b2], rfl⟩, fun q2 => ⟨⟨by omega, by omega⟩, ⟨by omega, by omega⟩, ⟨⟨by omega, by omega⟩, by omega, by omega⟩, fun q3 => ⟨?_, rfl⟩, fun q3 => ⟨?_, rfl⟩⟩⟩
  · have : ¬ szB (M3 106) ll f n = (VV (M3 106) ll f).2.1 := q3
    simp [bpB, this, b2]
  · have e3 : szB (M3 106) ll f n = (VV (M3 106) ll f).2.1 := q3
    have e4 : decide (byB (M3 106) ll f n < 100000000) = true := decide_eq_true el
    simp only [bpB, hpg, e4, decide_eq_true q2, decide_eq_true e3, Bool.and_true, b2, if_true]
abbrev cB (s : Sg) : Cf := fun _ ll f => cb s ll f
