/-! ===== places that can be reached ===== -/
def RchN (s : Sg) : Nat → Int → Int → Prop
  | 0, a, b => a = 0 ∧ b = 0
  | k + 1, a, b => ∃ (ll f : Int) (n : Nat), RchN s k ll f ∧ (n : Int) ≤ s 4 ∧ pgB s ll f n = true ∧ a = lb s ll f n ∧ b = f + n
def Rch (s : Sg) (a b : Int) : Prop := ∃ k, RchN s k a b
theorem rch_bdN {s : Sg} (hw : WF s) : ∀ (k : Nat) (a b : Int), RchN s k a b → (0 ≤ a ∧ a ≤ s 0) ∧ (0 ≤ b ∧ b ≤ s 6)
  | 0, a, b, h => by
    have h0 := hw.1
    have h6 := hw.2.2.2.2.2.2.1
    obtain ⟨rfl, rfl⟩ := h
    omega
  | k + 1, a, b, h => by
    have h4 := hw.2.2.2.2.1
    obtain ⟨ll, f, n, h1, h2, h3, rfl, rfl⟩ := h
    have ih := rch_bdN hw k ll f h1
    have p := pg_facts hw ih.1 ih.2.1 (n := (n : Int)) ⟨by omega, by omega⟩ h3
    omega
theorem rch_bd {s : Sg} (hw : WF s) {a b : Int} (h : Rch s a b) : (0 ≤ a ∧ a ≤ s 0) ∧ (0 ≤ b ∧ b ≤ s 6) := by
  obtain ⟨k, h⟩ := h
  exact rch_bdN hw k a b h
theorem rch_0 (s : Sg) : Rch s 0 0 := ⟨0, rfl, rfl⟩
theorem rch_s {s : Sg} {ll f : Int} {n : Nat} (h : Rch s ll f) (hn : (n : Int) ≤ s 4) (hq : pgB s ll f n = true) : Rch s (lb s ll f n) (f + n) := by
  obtain ⟨k, h⟩ := h
  exact ⟨k + 1, ll, f, n, h, hn, hq, rfl, rfl⟩
def lex (a b c d : Int) : Prop := a < c ∨ (a = c ∧ b < d)
/-- marked, when all places ahead of (l, f) have been gone through, and of (l, f) the pages of fewer than k figures -/
def Mk (s : Sg) (ll f : Int) (k : Nat) (a b : Int) : Prop := (a = 0 ∧ b = 0) ∨ (∃ (l2 f2 : Int) (n : Nat), lex l2 f2 ll f ∧ Rch s l2 f2 ∧ (n : Int) ≤ s 4 ∧ pgB s l2 f2 n = true ∧ a = lb s l2 f2 n ∧ b = f2 + n) ∨ (∃ n : Nat, n < k ∧ Rch s ll f ∧ (n : Int) ≤ s 4 ∧ pgB s ll f n = true ∧ a = lb s ll f n ∧ b = f + n)
theorem mk_self {s : Sg} (hw : WF s) {ll f : Int} : Mk s ll f 0 ll f ↔ Rch s ll f := by
  have h4 := hw.2.2.2.2.1
  constructor
  · rintro (⟨rfl, rfl⟩ | ⟨l2, f2, n, h1, h2, h3, h4, rfl, rfl⟩ | ⟨n, h1, -⟩)
    · exact rch_0 s
    · exact rch_s h2 h3 h4
    · omega
  · rintro ⟨k, h⟩
    cases k with
    | zero => exact Or.inl h
    | succ k =>
      obtain ⟨l2, f2, n, h1, h2, h3, h5, h6⟩ := h
      have ih := rch_bdN hw k l2 f2 h1
      have p := pg_facts hw ih.1 ih.2.1 (n := (n : Int)) ⟨by omega, by omega⟩ h3
      refine Or.inr (Or.inl ⟨l2, f2, n, ?_, ⟨k, h1⟩, h2, h3, h5, h6⟩)
      unfold lex
      omega
theorem mk_rch {s : Sg} {ll f : Int} {k : Nat} {a b : Int} (h : Mk s ll f k a b) : Rch s a b := by
  rcases h with ⟨rfl, rfl⟩ | ⟨l2, f2, n, -, h2, h3, h4, rfl, rfl⟩ | ⟨n, -, h2, h3, h4, rfl, rfl⟩
  · exact rch_0 s
  · exact rch_s h2 h3 h4
  · exact rch_s h2 h3 h4
theorem mk_end {s : Sg} (hw : WF s) {ll f : Int} {a b : Int} (h : s 0 < ll) : Mk s ll f 0 a b ↔ Rch s a b := by
  have h4 := hw.2.2.2.2.1
  constructor
  · exact mk_rch
  · rintro ⟨k, h2⟩
    cases k with
    | zero => exact Or.inl h2
    | succ k =>
      obtain ⟨l2, f2, n, h1, h2, h3, h5, h6⟩ := h2
      have ih := rch_bdN hw k l2 f2 h1
      exact Or.inr (Or.inl ⟨l2, f2, n, Or.inl (by omega), ⟨k, h1⟩, h2, h3, h5, h6⟩)
theorem mk_step {s : Sg} {ll f : Int} {k : Nat} {a b : Int} : Mk s ll f (k + 1) a b ↔ (Mk s ll f k a b ∨ (Rch s ll f ∧ (k : Int) ≤ s 4 ∧ pgB s ll f k = true ∧ a = lb s ll f k ∧ b = f + k)) := by
  unfold Mk
  constructor
  · rintro (h | h | ⟨n, h1, h2⟩)
    · exact Or.inl (Or.inl h)
    · exact Or.inl (Or.inr (Or.inl h))
    · rcases Nat.lt_or_ge n k with q | q
      · exact Or.inl (Or.inr (Or.inr ⟨n, q, h2⟩))
      · have : n = k := by omega
        subst this
        exact Or.inr h2
  · rintro ((h | h | ⟨n, h1, h2⟩) | h)
    · exact Or.inl h
    · exact Or.inr (Or.inl h)
    · exact Or.inr (Or.inr ⟨n, by omega, h2⟩)
    · exact Or.inr (Or.inr ⟨k, by omega, h⟩)
/-- behind a place, on to the next figure -/
theorem mk_next {s : Sg} {ll f : Int} {k : Nat} {a b : Int} (hk : s 4 < (k : Int)) : Mk s ll (f + 1) 0 a b ↔ Mk s ll f k a b := by
  unfold Mk lex
  constructor
  · rintro (h | ⟨l2, f2, n, h1, h2⟩ | ⟨n, h1, -⟩)
    · exact Or.inl h
    · by_cases e : l2 = ll ∧ f2 = f
      · obtain ⟨rfl, rfl⟩ := e
        exact Or.inr (Or.inr ⟨n, by have := h2.2.1; omega, h2⟩)
      · exact Or.inr (Or.inl ⟨l2, f2, n, by omega, h2⟩)
    · omega
  · rintro (h | ⟨l2, f2, n, h1, h2⟩ | ⟨n, h1, h2⟩)
    · exact Or.inl h
    · exact Or.inr (Or.inl ⟨l2, f2, n, by omega, h2⟩)
    · exact Or.inr (Or.inl ⟨ll, f, n, by omega, h2⟩)
theorem mk_skip {s : Sg} {ll f : Int} {a b : Int} (hn : ¬ Rch s ll f) : Mk s ll (f + 1) 0 a b ↔ Mk s ll f 0 a b := by
  unfold Mk lex
  constructor
  · rintro (h | ⟨l2, f2, n, h1, h2⟩ | ⟨n, h1, -⟩)
    · exact Or.inl h
    · by_cases e : l2 = ll ∧ f2 = f
      · obtain ⟨rfl, rfl⟩ := e
        exact absurd h2.1 hn
      · exact Or.inr (Or.inl ⟨l2, f2, n, by omega, h2⟩)
    · omega
  · rintro (h | ⟨l2, f2, n, h1, h2⟩ | ⟨n, h1, h2⟩)
    · exact Or.inl h
    · exact Or.inr (Or.inl ⟨l2, f2, n, by omega, h2⟩)
    · omega
theorem mk_row {s : Sg} (hw : WF s) {ll : Int} {a b : Int} : Mk s (ll + 1) 0 0 a b ↔ Mk s ll (s 6 + 1) 0 a b := by
  unfold Mk lex
  constructor
  · rintro (h | ⟨l2, f2, n, h1, h2⟩ | ⟨n, h1, -⟩)
    · exact Or.inl h
    · have := rch_bd hw h2.1
      exact Or.inr (Or.inl ⟨l2, f2, n, by omega, h2⟩)
    · omega
  · rintro (h | ⟨l2, f2, n, h1, h2⟩ | ⟨n, h1, h2⟩)
    · exact Or.inl h
    · exact Or.inr (Or.inl ⟨l2, f2, n, by omega, h2⟩)
    · omega
theorem mk_start {s : Sg} (hw : WF s) {a b : Int} : Mk s 0 0 0 a b ↔ (a = 0 ∧ b = 0) := by
  unfold Mk lex
  constructor
  · rintro (h | ⟨l2, f2, n, h1, h2⟩ | ⟨n, h1, -⟩)
    · exact h
    · have := rch_bd hw h2.1
      omega
    · omega
  · exact fun h => Or.inl h
theorem pg_end {s : Sg} (hw : WF s) {n : Int} (hn : 0 ≤ n ∧ n ≤ 1000) : pgB s (s 0) (s 6) n = false := by
  have h0 := hw.1
  have h6 := hw.2.2.2.2.2.2.1
  cases hq : pgB s (s 0) (s 6) n with
  | false => rfl
  | true =>
    have p := pg_facts hw ⟨h0.1, Int.le_refl _⟩ h6.1 hn hq
    omega
noncomputable def rI (s : Sg) (a b : Int) : Int := @ite Int (Rch s a b) (Classical.propDecidable _) 1 0
theorem rI_1 {s : Sg} {a b : Int} (h : Rch s a b) : rI s a b = 1 := by
  unfold rI
  rw [if_pos h]
theorem rI_0 {s : Sg} {a b : Int} (h : ¬ Rch s a b) : rI s a b = 0 := by
  unfold rI
  rw [if_neg h]
noncomputable def rowR (s : Sg) (a : Int) (n : Nat) : Int := sm (fun b => rI s a b) n
noncomputable def nR (s : Sg) (n : Nat) : Int := sm (fun a => rowR s a ((s 6).toNat + 1)) n
theorem rI_bd (s : Sg) (a b : Int) : 0 ≤ rI s a b ∧ rI s a b ≤ 1 := by
  by_cases h : Rch s a b
  · rw [rI_1 h]; omega
  · rw [rI_0 h]; omega
theorem rowR_bd (s : Sg) (a : Int) (n : Nat) : 0 ≤ rowR s a n ∧ rowR s a n ≤ (n : Int) := by
  have := sm_bd (F := fun b => rI s a b) (c := 1) (n := n) (fun k _ => rI_bd s a k)
  unfold rowR
  omega
theorem nR_bd {s : Sg} (hw : WF s) (n : Nat) : 0 ≤ nR s n ∧ nR s n ≤ (n : Int) * 11 := by
  have h6 := hw.2.2.2.2.2.2.1
  refine sm_bd (fun k _ => ?_)
  have := rowR_bd s (k : Int) ((s 6).toNat + 1)
  omega
/-! the reference -/
def Fr4 (M M2 : Mm) : Prop := ∀ a, a ≠ 112 → a ≠ 113 → a ≠ 114 → a ≠ 115 → M2 a = M a
theorem Fr4.tr {A B D : Mm} (h : Fr4 A B) (k : Fr4 B D) : Fr4 A D := fun a h1 h2 h3 h4 => (k a h1 h2 h3 h4).trans (h a h1 h2 h3 h4)
theorem Fr4.rf (M : Mm) : Fr4 M M := fun _ _ _ _ _ => rfl
theorem Fr3.F {M M2 : Mm} (h : Fr3 M M2) : Fr4 M M2 := fun a h1 h2 h3 _ => h a h1 h2 h3
theorem fr4_mu {M A : Mm} {i v : Int} (h : Fr4 M A) : Fr4 M (mu A 115 i v) := fun a h1 h2 h3 h4 => by rw [mu_ne h4]; exact h a h1 h2 h3 h4
theorem tab_mu {s : Sg} {M : Mm} {k : Nat} {i v : Int} (h : Tab s M) (h1 : 112 ≠ k) (h2 : 113 ≠ k) (h3 : 114 ≠ k) : Tab s (mu M k i v) := by
  intro a b q1 q2 q3 q4
  have := h a b q1 q2 q3 q4
  unfold Ent at this ⊢
  rw [mu_ne h1, mu_ne h2, mu_ne h3]
  exact this
/-- the marks as the table of the reference has them -/
def MkM (s : Sg) (M : Mm) (ll f : Int) (k : Nat) : Prop := ∀ a b : Int, 0 ≤ a → a ≤ s 0 → 0 ≤ b → b ≤ s 6 → (M 115 (11 * a + b) = 0 ∨ M 115 (11 * a + b) = 1) ∧ (M 115 (11 * a + b) = 1 ↔ Mk s ll f k a b)
def PI (s : Sg) (M M2 : Mm) (ll f : Int) (k : Nat) : Prop := Fr4 M M2 ∧ Tab s M2 ∧ MkM s M2 ll f k
theorem MkM.to {s : Sg} {M : Mm} {ll f l2 f2 : Int} {k k2 : Nat} (h : MkM s M ll f k) (e : ∀ a b, Mk s l2 f2 k2 a b ↔ Mk s ll f k a b) : MkM s M l2 f2 k2 := fun a b h1 h2 h3 h4 => ⟨(h a b h1 h2 h3 h4).1, (h a b h1 h2 h3 h4).2.trans (e a b).symm⟩
set_option maxRecDepth 10000 in
set_option maxHeartbeats 1000000 in
theorem c6_layPlaces_k {x : Xx} {post : Int → Mm → Prop} (C : Cx x mX6_layPlaces) (hR : Rt x mX6_layPlaces post) {M : Mm} {s : Sg} (hw : WF s) (hs : M 106 = s) (hc : clash s (s 6).toNat = -1) {ll f v : Int} (hl : 0 ≤ ll ∧ ll ≤ s 0) (hf : 0 ≤ f ∧ f ≤ s 6) (hr : Rch s ll f) (hp : ∀ M2, PI s M M2 ll (f + 1) 0 → Gx x 6 55 [(0, vr (xg x) 105), (1, vi v), (2, vi ll), (3, vi (f + 1))] [] M2) : ∀ (d k : Nat), k + d = (s 4).toNat + 1 → ∀ M2, PI s M M2 ll f k → Gx x 6 86 [(0, vr (xg x) 105), (1, vi v), (2, vi ll), (3, vi f), (4, vi (k : Int))] [] M2 := by
  have h0 := hw.1
  have h4 := hw.2.2.2.2.1
  have h6 := hw.2.2.2.2.2.2.1
  intro d
  induction d with
  | zero =>
    intro k hk M2 hI
    have e6 : M2 106 = s := (hI.1 106 (by decide) (by decide) (by decide) (by decide)).trans hs
    refine X6_layPlaces_86 C hR v ll f _ M2 ⟨⟨⟨by omega, by omega⟩, by rw [e6]; omega, by rw [e6]; omega⟩, fun _ => hp M2 ⟨hI.1, hI.2.1, hI.2.2.to (fun a b => mk_next (by omega))⟩, fun h => absurd h (by rw [e6]; omega)⟩
  | succ d ih =>
    intro k hk M2 hI
    have e6 : M2 106 = s := (hI.1 106 (by decide) (by decide) (by decide) (by decide)).trans hs
    have hw2 : WF (M2 106) := by rw [e6]; exact hw
    have skip : pgB s ll f k = false → Gx x 6 86 [(0, vr (xg x) 105), (1, vi v), (2, vi ll), (3, vi f), (4, vi ((k : Int) + 1))] [] M2 := by
      intro hq
      refine ih (k + 1) (by omega) M2 ⟨hI.1, hI.2.1, hI.2.2.to (fun a b => ?_)⟩
      rw [mk_step]
      constructor
      · rintro (h | h)
        · exact h
        · rw [hq] at h
          exact absurd h.2.2.1 (by decide)
      · exact Or.inl
    have mid : ∀ t : Int, (t = 0 ∨ t = 1) → (t = 1 → pgB s ll f k = false) → Gx x 6 123 [(0, vr (xg x) 105), (1, vi v), (2, vi ll), (3, vi f), (4, vi (k : Int))] [vi t] M2 := by
      intro t ht he
      refine X6_layPlaces_123 C hR v ll f _ t M2 ⟨⟨by omega, by omega⟩, fun q => skip (he (by omega)), fun q => ⟨_, c6_isPage hw2 (by rw [e6]; exact hl) (by rw [e6]; exact hf) ⟨by omega, by omega⟩, ?_⟩⟩
      rintro r M3 ⟨rfl, rfl⟩
      rw [e6]
      refine ⟨b2_inR _, fun hz => skip (b2_z hz), fun hz => ?_⟩
      have hpg := b2_nz hz
      have p := pg_facts hw hl hf.1 (n := (k : Int)) ⟨by omega, by omega⟩ hpg
      have hent := hI.2.1 (lb s ll f k) (f + k) (by omega) (by omega) (by omega) (by omega)
      have nc := no_clash hw hc (mz s (lb s ll f k) (f + k)) (lb s ll f k) (f + k) ⟨by omega, by omega⟩ ⟨by omega, by omega⟩ (Nat.le_refl _)
      have hv := VV_ok hw (ll := lb s ll f k) (f := f + k) (by omega) (by omega)
      unfold Vok at hv
      unfold Ent at hent
      refine ⟨_, c6_linesBehind hw2 ⟨by omega, by omega⟩ hf.1 (by rw [e6]; exact ⟨by omega, by omega, by omega⟩), ?_⟩
      rintro r M4 ⟨rfl, rfl⟩
      rw [e6]
      have ei : 11 * lb s ll f (k : Int) + f + (k : Int) = 11 * lb s ll f (k : Int) + (f + (k : Int)) := by omega
      rw [ei, hent.1]
      refine ⟨⟨by omega, by omega⟩, ⟨by omega, by omega⟩, fun q2 => absurd q2 (by omega), fun q2 => ⟨_, c6_linesBehind hw2 ⟨by omega, by omega⟩ hf.1 (by rw [e6]; exact ⟨by omega, by omega, by omega⟩), ?_⟩⟩
      rintro r M5 ⟨rfl, rfl⟩
      rw [e6, ei]
      refine ⟨⟨by omega, by omega⟩, fun M6 h6q => ?_⟩
      refine ih (k + 1) (by omega) M6 ⟨by rw [h6q]; exact fr4_mu hI.1, by rw [h6q]; exact tab_mu hI.2.1 (by decide) (by decide) (by decide), ?_⟩
      intro a b a1 a2 b1 b2
      have old := hI.2.2 a b a1 a2 b1 b2
      rw [h6q, mk_step]
      by_cases e : 11 * a + b = 11 * lb s ll f (k : Int) + (f + (k : Int))
      · rw [e, mu_at]
        refine ⟨Or.inr rfl, fun _ => Or.inr ⟨hr, by omega, hpg, by omega, by omega⟩, fun _ => rfl⟩
      · rw [mu_off e]
        refine ⟨old.1, fun z => Or.inl (old.2.mp z), fun z => ?_⟩
        rcases z with z | z
        · exact old.2.mpr z
        · exact absurd (by rw [z.2.2.2.1, z.2.2.2.2]) e
    refine X6_layPlaces_86 C hR v ll f _ M2 ⟨⟨⟨by omega, by omega⟩, by rw [e6]; omega, by rw [e6]; omega⟩, fun h => absurd h (by rw [e6]; omega), fun h => ⟨⟨⟨by omega, by omega⟩, by rw [e6]; omega, by rw [e6]; omega⟩, fun q => mid 0 (Or.inl rfl) (fun z => absurd z (by decide)), fun q => ⟨⟨⟨by omega, by omega⟩, by rw [e6]; omega, by rw [e6]; omega⟩, fun q2 => mid 0 (Or.inl rfl) (fun z => absurd z (by decide)), fun q2 => mid 1 (Or.inr rfl) (fun _ => ?_)⟩⟩⟩
    rw [e6] at q q2
    rw [q, q2]
    exact pg_end hw ⟨by omega, by omega⟩
set_option maxRecDepth 10000 in
set_option maxHeartbeats 1000000 in
theorem c6_layPlaces_f {x : Xx} {post : Int → Mm → Prop} (C : Cx x mX6_layPlaces) (hR : Rt x mX6_layPlaces post) {M : Mm} {s : Sg} (hw : WF s) (hs : M 106 = s) (hc : clash s (s 6).toNat = -1) {ll : Nat} (hl : (ll : Int) ≤ s 0) (hp : ∀ M2, PI s M M2 ((ll : Int) + 1) 0 0 → Gx x 6 43 [(0, vr (xg x) 105), (1, vi (nR s (ll + 1))), (2, vi ((ll : Int) + 1))] [] M2) : ∀ (d f : Nat), f + d = (s 6).toNat + 1 → ∀ M2, PI s M M2 ll f 0 → Gx x 6 55 [(0, vr (xg x) 105), (1, vi (nR s ll + rowR s ll f)), (2, vi (ll : Int)), (3, vi (f : Int))] [] M2 := by
  have h0 := hw.1
  have h6 := hw.2.2.2.2.2.2.1
  intro d
  induction d with
  | zero =>
    intro f hf M2 hI
    have e6 : M2 106 = s := (hI.1 106 (by decide) (by decide) (by decide) (by decide)).trans hs
    refine X6_layPlaces_55 C hR _ _ _ M2 ⟨⟨⟨by omega, by omega⟩, by rw [e6]; omega, by rw [e6]; omega⟩, fun _ => ?_, fun h => absurd (by rw [e6]; omega) h⟩
    have ef : f = (s 6).toNat + 1 := by omega
    subst ef
    have e : ((((s 6).toNat + 1 : Nat) : Int)) = s 6 + 1 := by omega
    refine hp M2 ⟨hI.1, hI.2.1, hI.2.2.to (fun a b => ?_)⟩
    rw [e]
    exact mk_row hw
  | succ d ih =>
    intro f hf M2 hI
    have e6 : M2 106 = s := (hI.1 106 (by decide) (by decide) (by decide) (by decide)).trans hs
    have ent := hI.2.2 (ll : Int) (f : Int) (by omega) hl (by omega) (by omega)
    rw [mk_self hw] at ent
    have er : rowR s ll (f + 1) = rowR s ll f + rI s ll f := rfl
    refine X6_layPlaces_55 C hR _ _ _ M2 ⟨⟨⟨by omega, by omega⟩, by rw [e6]; omega, by rw [e6]; omega⟩, fun h => absurd h (by rw [e6]; omega), fun h => ⟨⟨by omega, by omega⟩, ⟨by omega, by omega⟩, fun q => ?_, fun q => ?_⟩⟩
    · have hn : ¬ Rch s ll f := fun z => by have := ent.2.mpr z; omega
      have := ih (f + 1) (by omega) M2 ⟨hI.1, hI.2.1, hI.2.2.to (fun a b => mk_skip hn)⟩
      rw [er, rI_0 hn] at this
      have e0 : nR s ll + (rowR s ll f + 0) = nR s ll + rowR s ll f := by omega
      rw [e0] at this
      exact this
    · have hr : Rch s ll f := ent.2.mp (by omega)
      refine c6_layPlaces_k C hR (M := M2) hw e6 hc ⟨by omega, hl⟩ ⟨by omega, by omega⟩ hr ?_ ((s 4).toNat + 1) 0 (by omega) M2 ⟨Fr4.rf M2, hI.2.1, hI.2.2⟩
      intro M3 k3
      have := ih (f + 1) (by omega) M3 ⟨hI.1.tr k3.1, k3.2.1, k3.2.2⟩
      rw [er, rI_1 hr] at this
      have e0 : nR s ll + (rowR s ll f + 1) = nR s ll + rowR s ll f + 1 := by omega
      rw [e0] at this
      exact this
set_option maxRecDepth 10000 in
set_option maxHeartbeats 1000000 in
theorem c6_layPlaces_l {x : Xx} {post : Int → Mm → Prop} (C : Cx x mX6_layPlaces) (hR : Rt x mX6_layPlaces post) {M : Mm} {s : Sg} (hw : WF s) (hs : M 106 = s) (hc : clash s (s 6).toNat = -1) (hp : ∀ M2, PI s M M2 (s 0 + 1) 0 0 → post (nR s ((s 0).toNat + 1)) M2) : ∀ (d ll : Nat), ll + d = (s 0).toNat + 1 → ∀ M2, PI s M M2 ll 0 0 → Gx x 6 43 [(0, vr (xg x) 105), (1, vi (nR s ll)), (2, vi (ll : Int))] [] M2 := by
  have h0 := hw.1
  have h6 := hw.2.2.2.2.2.2.1
  intro d
  induction d with
  | zero =>
    intro ll hl M2 hI
    have e6 : M2 106 = s := (hI.1 106 (by decide) (by decide) (by decide) (by decide)).trans hs
    refine X6_layPlaces_43 C hR _ _ M2 ⟨⟨⟨by omega, by omega⟩, by rw [e6]; omega, by rw [e6]; omega⟩, fun _ => ?_, fun h => absurd (by rw [e6]; omega) h⟩
    have ef : ll = (s 0).toNat + 1 := by omega
    subst ef
    have e : ((((s 0).toNat + 1 : Nat) : Int)) = s 0 + 1 := by omega
    rw [e] at hI
    exact hp M2 hI
  | succ d ih =>
    intro ll hl M2 hI
    have e6 : M2 106 = s := (hI.1 106 (by decide) (by decide) (by decide) (by decide)).trans hs
    refine X6_layPlaces_43 C hR _ _ M2 ⟨⟨⟨by omega, by omega⟩, by rw [e6]; omega, by rw [e6]; omega⟩, fun h => absurd h (by rw [e6]; omega), fun h => ?_⟩
    have := c6_layPlaces_f C hR (M := M2) hw e6 hc (ll := ll) (by omega) (fun M3 k3 => ih (ll + 1) (by omega) M3 ⟨hI.1.tr k3.1, k3.2.1, k3.2.2⟩) ((s 6).toNat + 1) 0 (by omega) M2 ⟨Fr4.rf M2, hI.2.1, hI.2.2⟩
    have e0 : nR s ll + rowR s ll 0 = nR s ll := by show nR s ll + 0 = _; omega
    rw [e0] at this
    exact this
set_option maxRecDepth 10000 in
set_option maxHeartbeats 1000000 in
theorem c6_layPlaces_z {x : Xx} {post : Int → Mm → Prop} (C : Cx x mX6_layPlaces) (hR : Rt x mX6_layPlaces post) {M : Mm} {s : Sg} (hw : WF s) (hs : M 106 = s) (hp : ∀ r M2, Fr4 M M2 → Tab s M2 → ((clash s (s 6).toNat = -1 ∧ r = nR s ((s 0).toNat + 1) ∧ ∀ a b, 0 ≤ a → a ≤ s 0 → 0 ≤ b → b ≤ s 6 → M2 115 (11 * a + b) = rI s a b) ∨ (¬ clash s (s 6).toNat = -1 ∧ r = 0)) → post r M2) : ∀ (d k : Nat), k + d = 1331 → ∀ M2, Fr4 M M2 → (∀ i : Int, 0 ≤ i → i < (k : Int) → M2 115 i = 0) → Gx x 6 2 [(0, vr (xg x) 105), (1, vi (k : Int))] [] M2 := by
  have h0 := hw.1
  have h6 := hw.2.2.2.2.2.2.1
  have hb := bst_m1 hw
  have hv := VV_ok hw (ll := 0) (f := 0) (by omega) (by omega)
  unfold Vok at hv
  intro d
  induction d with
  | zero =>
    intro k hk M2 h1 h2
    have e6 : M2 106 = s := (h1 106 (by decide) (by decide) (by decide) (by decide)).trans hs
    refine X6_layPlaces_2 C hR _ M2 ⟨⟨by omega, by omega⟩, fun _ => ⟨_, c6_bestOf (by rw [e6]; exact hw), ?_⟩, fun h => absurd h (by omega)⟩
    rintro r M3 ⟨rfl, k1, k2⟩
    rw [e6] at k2 ⊢
    have e63 : M3 106 = s := (k1 106 (by decide) (by decide) (by decide)).trans e6
    refine ⟨by unfold bst; split <;> omega, fun q M4 h4 => ?_, fun q => hp _ _ (h1.tr k1.F) k2 (Or.inr ⟨hb.mp q, rfl⟩)⟩
    have hc : clash s (s 6).toNat = -1 := by
      by_cases z : clash s (s 6).toNat = -1
      · exact z
      · exact absurd (hb.mpr z) q
    have f34 : Fr4 M3 M4 := by rw [h4]; exact fr4_mu (Fr4.rf M3)
    have e64 : M4 106 = s := (f34 106 (by decide) (by decide) (by decide) (by decide)).trans e63
    refine c6_layPlaces_l C hR (M := M4) hw e64 hc ?_ ((s 0).toNat + 1) 0 (by omega) M4 ⟨Fr4.rf M4, by rw [h4]; exact tab_mu k2 (by decide) (by decide) (by decide), ?_⟩
    · intro M5 k5
      refine hp _ _ ((h1.tr k1.F).tr (f34.tr k5.1)) k5.2.1 (Or.inl ⟨hc, rfl, fun a b a1 a2 b1 b2 => ?_⟩)
      have := k5.2.2 a b a1 a2 b1 b2
      rw [mk_end hw (by omega)] at this
      by_cases z : Rch s a b
      · rw [rI_1 z]
        exact this.2.mpr z
      · rw [rI_0 z]
        rcases this.1 with w | w
        · exact w
        · exact absurd (this.2.mp w) z
    · intro a b a1 a2 b1 b2
      have z0 : M3 115 = M2 115 := k1 115 (by decide) (by decide) (by decide)
      rw [h4]
      show _ ∧ (_ ↔ Mk s 0 0 0 a b)
      rw [mk_start hw]
      by_cases e : 11 * a + b = 0
      · rw [e, mu_at]
        exact ⟨Or.inr rfl, fun _ => by omega, fun _ => rfl⟩
      · rw [mu_off e, z0, h2 _ (by omega) (by omega)]
        exact ⟨Or.inl rfl, fun z => absurd z (by decide), fun z => absurd (by omega) e⟩
  | succ d ih =>
    intro k hk M2 h1 h2
    refine X6_layPlaces_2 C hR _ M2 ⟨⟨by omega, by omega⟩, fun h => absurd h (by omega), fun _ => ⟨⟨by omega, by omega⟩, fun M3 h3 => ih (k + 1) (by omega) M3 (by rw [h3]; exact fr4_mu h1) (fun i i0 i1 => ?_)⟩⟩
    rw [h3]
    by_cases e : i = (k : Int)
    · rw [e, mu_at]
    · rw [mu_off e]
      exact h2 i i0 (by omega)
set_option maxRecDepth 10000 in
set_option maxHeartbeats 1000000 in
theorem c6_layPlaces {l : Launch} {g : Gg} {M : Mm} {s : Sg} (hw : WF s) (hs : M 106 = s) : Ct l g mX6_layPlaces [vr g 105] M (fun r M2 => Fr4 M M2 ∧ Tab s M2 ∧ ((clash s (s 6).toNat = -1 ∧ r = nR s ((s 0).toNat + 1) ∧ ∀ a b, 0 ≤ a → a ≤ s 0 → 0 ≤ b → b ≤ s 6 → M2 115 (11 * a + b) = rI s a b) ∨ (¬ clash s (s 6).toNat = -1 ∧ r = 0))) := by
  refine ct_of (by decide) (Nat.le_of_ble_eq_true rfl) ?_
  intro x hl hg C hR
  subst hl
  subst hg
  exact X6_layPlaces_0 C hR M (c6_layPlaces_z C hR hw hs (fun r M2 h1 h2 h3 => ⟨h1, h2, h3⟩) 1331 0 (by omega) M (Fr4.rf M) (fun i i0 i1 => by omega))
