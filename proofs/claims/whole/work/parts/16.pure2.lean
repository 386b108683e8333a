/-! ===== the best page from a place; clashes; plans ===== -/
def byB (s : Sg) (ll f n : Int) : Int := if (VV s (lb s ll f n) (f + n)).1 = 100000000 then 100000000 else (VV s (lb s ll f n) (f + n)).1 + tl s (lb s ll f n) (f + n)
def szB (s : Sg) (ll f n : Int) : Int := (VV s (lb s ll f n) (f + n)).2.1 + 1
theorem stp_pg {s : Sg} {ll f n : Int} {a : Vt} (hq : pgB s ll f n = true) : ((byB s ll f n < a.1 ∨ (byB s ll f n < 100000000 ∧ byB s ll f n = a.1 ∧ szB s ll f n < a.2.1)) ∧ (stp s (VV s) ll f a n).1 = byB s ll f n ∧ (stp s (VV s) ll f a n).2.1 = szB s ll f n ∧ (stp s (VV s) ll f a n).2.2.2 = n) ∨ (¬ (byB s ll f n < a.1 ∨ (byB s ll f n < 100000000 ∧ byB s ll f n = a.1 ∧ szB s ll f n < a.2.1)) ∧ (stp s (VV s) ll f a n).1 = a.1 ∧ (stp s (VV s) ll f a n).2.1 = a.2.1 ∧ (stp s (VV s) ll f a n).2.2.2 = a.2.2.2) := by
  by_cases hl : (byB s ll f n < a.1 ∨ (byB s ll f n < 100000000 ∧ byB s ll f n = a.1 ∧ szB s ll f n < a.2.1))
  · refine Or.inl ⟨hl, ?_⟩
    have e : (decide (byB s ll f n < a.1) || (decide (byB s ll f n < 100000000) && (decide (byB s ll f n = a.1) && decide (szB s ll f n < a.2.1)))) = true := by simpa using hl
    unfold byB szB at e
    unfold stp
    simp only [hq, if_true, e]
    exact ⟨rfl, rfl, trivial⟩
  · refine Or.inr ⟨hl, ?_⟩
    have e : (decide (byB s ll f n < a.1) || (decide (byB s ll f n < 100000000) && (decide (byB s ll f n = a.1) && decide (szB s ll f n < a.2.1)))) = false := by
      cases hz : (decide (byB s ll f n < a.1) || (decide (byB s ll f n < 100000000) && (decide (byB s ll f n = a.1) && decide (szB s ll f n < a.2.1)))) with
      | false => rfl
      | true => exact absurd (by simpa using hz) hl
    unfold byB szB at e
    unfold stp
    simp only [hq, if_true, e]
    simp
theorem stp_npg {s : Sg} {V : Int → Int → Vt} {ll f n : Int} {a : Vt} (hq : ¬ pgB s ll f n = true) : stp s V ll f a n = a := by
  unfold stp
  rw [if_neg hq]
/-- what the fold has found: the least, and where it was found first -/
def FldOk (s : Sg) (ll f : Int) (k : Nat) (a : Vt) : Prop :=
  (a.1 < 100000000 → ∃ m : Nat, m < k ∧ a.2.2.2 = (m : Int) ∧ pgB s ll f m = true ∧ byB s ll f m = a.1 ∧ szB s ll f m = a.2.1 ∧ ∀ j : Nat, j < m → pgB s ll f j = true → ¬ (byB s ll f j = a.1 ∧ szB s ll f j = a.2.1)) ∧
  ∀ j : Nat, j < k → pgB s ll f j = true → byB s ll f j < 100000000 → (a.1 < byB s ll f j ∨ (a.1 = byB s ll f j ∧ a.2.1 ≤ szB s ll f j))
theorem byB_le {s : Sg} (h : WF s) {ll f n : Int} (hl : 0 ≤ ll ∧ ll ≤ s 0) (hf : 0 ≤ f) (hn : 0 ≤ n ∧ n ≤ 1000) (hq : pgB s ll f n = true) : 0 ≤ byB s ll f n ∧ byB s ll f n ≤ 100000000 ∧ (byB s ll f n < 100000000 ↔ (VV s (lb s ll f n) (f + n)).1 < 100000000) := by
  have p := pg_facts h hl hf hn hq
  have hv := VV_ok h (ll := lb s ll f n) (f := f + n) (by omega) (by omega)
  have ht := sm_bound3 h (ll := lb s ll f n) (f := f + n)
  unfold Vok at hv
  unfold byB
  split <;> omega
theorem fld_fok {s : Sg} (h : WF s) {ll f : Int} (hl : 0 ≤ ll ∧ ll ≤ s 0) (hf : 0 ≤ f) : ∀ k : Nat, k ≤ 5 → FldOk s ll f k (fld s (VV s) ll f k)
  | 0, _ => ⟨fun q => absurd q (by show ¬ (100000000 : Int) < 100000000; omega), fun j hj => absurd hj (by omega)⟩
  | k + 1, hk => by
    have ih := fld_fok h hl hf k (by omega)
    have hok := fldV_ok h hl hf k (by omega)
    simp only [fld]
    generalize fld s (VV s) ll f k = a at ih hok
    unfold Vok at hok
    by_cases hq : pgB s ll f k = true
    · have hb := byB_le h hl hf (n := (k : Int)) ⟨by omega, by omega⟩ hq
      have hs := stp_pg (a := a) hq
      generalize stp s (VV s) ll f a (k : Int) = z at hs
      rcases hs with ⟨hless, e1, e2, e3⟩ | ⟨hless, e1, e2, e3⟩
      · refine ⟨fun _ => ⟨k, by omega, e3, hq, e1.symm, e2.symm, fun j hj hpj hc => ?_⟩, fun j hj hpj hlt => ?_⟩
        · rw [e1, e2] at hc
          have hbk : byB s ll f k < 100000000 := by omega
          have := ih.2 j hj hpj (by rw [hc.1]; exact hbk)
          omega
        · rw [e1, e2]
          rcases Nat.lt_or_ge j k with q | q
          · have := ih.2 j q hpj hlt
            omega
          · have : j = k := by omega
            subst this
            omega
      · refine ⟨fun hlt => ?_, fun j hj hpj hlt => ?_⟩
        · rw [e1] at hlt
          obtain ⟨m, m1, m2, m3, m4, m5, m6⟩ := ih.1 hlt
          refine ⟨m, by omega, by rw [e3]; exact m2, m3, by rw [e1]; exact m4, by rw [e2]; exact m5, ?_⟩
          rw [e1, e2]
          exact m6
        · rw [e1, e2]
          rcases Nat.lt_or_ge j k with q | q
          · exact ih.2 j q hpj hlt
          · have : j = k := by omega
            subst this
            omega
    · rw [stp_npg hq]
      refine ⟨fun hlt => ?_, fun j hj hpj hlt => ?_⟩
      · obtain ⟨m, m1, m2⟩ := ih.1 hlt
        exact ⟨m, by omega, m2⟩
      · rcases Nat.lt_or_ge j k with q | q
        · exact ih.2 j q hpj hlt
        · have : j = k := by omega
          subst this
          exact absurd hpj hq
def isEnd (s : Sg) (ll f : Int) : Prop := ll = s 0 ∧ f = s 6
/-- the page that the best plan begins with -/
def cb (s : Sg) (ll f : Int) : Int := (VV s ll f).2.2.2
theorem best_page {s : Sg} (h : WF s) {ll f : Int} (hl : 0 ≤ ll ∧ ll ≤ s 0) (hf : 0 ≤ f ∧ f ≤ s 6) (hne : ¬ isEnd s ll f) (hc : (VV s ll f).1 < 100000000) : 0 ≤ cb s ll f ∧ cb s ll f ≤ s 4 ∧ pgB s ll f (cb s ll f) = true ∧ byB s ll f (cb s ll f) = (VV s ll f).1 ∧ szB s ll f (cb s ll f) = (VV s ll f).2.1 ∧ ∀ j : Int, 0 ≤ j → j < cb s ll f → pgB s ll f j = true → ¬ (byB s ll f j = (VV s ll f).1 ∧ szB s ll f j = (VV s ll f).2.1) := by
  have h4 := h.2.2.2.2.1
  have e := VV_eq h hl hf
  have hne2 : ¬ (ll = s 0 ∧ f = s 6) := hne
  rw [if_neg hne2] at e
  have ok := fld_fok h hl hf.1 ((s 4).toNat + 1) (by omega)
  rw [← e] at ok
  obtain ⟨m, m1, m2, m3, m4, m5, m6⟩ := ok.1 hc
  unfold cb
  rw [m2]
  refine ⟨by omega, by omega, m3, m4, m5, fun j j0 jm hpj => ?_⟩
  have := m6 j.toNat (by omega)
  rw [Int.toNat_of_nonneg j0] at this
  exact this hpj
theorem sm_part {F : Int → Int} : ∀ {n : Nat} {k : Nat}, (∀ j : Nat, j < n → 0 ≤ F j) → k < n → F k ≤ sm F n
  | 0, k, _, h => absurd h (by omega)
  | n + 1, k, hp, hk => by
    have hn := hp n (by omega)
    have h0 : 0 ≤ sm F n := by
      have : ∀ m : Nat, m ≤ n → 0 ≤ sm F m := by
        intro m
        induction m with
        | zero => intro _; exact Int.le_refl 0
        | succ m ih => intro hm; have := ih (by omega); have := hp m (by omega); simp only [sm]; omega
      exact this n (by omega)
    simp only [sm]
    rcases Nat.lt_or_ge k n with q | q
    · have := sm_part (fun j hj => hp j (by omega)) q
      omega
    · have : k = n := by omega
      subst this
      omega
theorem fit_one {s : Sg} (h : WF s) {c : Int} (hc : 0 ≤ c ∧ c < s 6) : fitB s c 1 = true ↔ s (7 + 4 * c) ≤ s 3 := by
  have h4 := h.2.2.2.2.1
  have h2 := h.2.2.1
  have h3 := h.2.2.2.1
  have hf := h.fg hc.1 hc.2
  unfold fitB
  simp only [Bool.and_eq_true, Bool.or_eq_true, decide_eq_true_eq]
  have e1 : ∀ z b : Int, col s c z b (1 : Int).toNat = cl s c z b 0 := fun z b => by
    show 0 + cl s c z b 0 = _
    omega
  have e2 : ∀ z b : Int, cl s c z b 0 = if s (7 + 4 * c + 1) = 1 ∨ z % 2 = b then s (7 + 4 * c) else 0 := fun z b => by
    unfold cl
    simp
  constructor
  · rintro ⟨-, hq⟩
    rcases hq with hq | hq
    · exact absurd hq (by decide)
    · obtain ⟨z, hz, hz2⟩ := anyB_iff.mp hq
      unfold fitS at hz2
      simp only [Bool.and_eq_true, decide_eq_true_eq, e1, e2] at hz2
      have hz3 : z < 2 := hz
      obtain ⟨c1, c2⟩ := hz2
      by_cases w : s (7 + 4 * c + 1) = 1
      · rw [if_pos (Or.inl w)] at c1
        exact c1
      · rcases (show z = 0 ∨ z = 1 by omega) with rfl | rfl
        · by_cases e : s 2 = 1
          · rw [if_pos e] at c2
            simp at c2
          · rw [if_neg e] at c2
            simpa [w] using c2
        · simpa using c1
  · intro hle
    refine ⟨by omega, Or.inr (anyB_iff.mpr ⟨1, by decide, ?_⟩)⟩
    unfold fitS
    simp only [Bool.and_eq_true, decide_eq_true_eq, e1, e2]
    refine ⟨?_, ?_⟩
    · simpa using hle
    · by_cases e : s 2 = 1
      · rw [if_pos e]
        decide
      · rw [if_neg e, decide_eq_true_eq]
        split <;> omega
theorem fit_sub {s : Sg} (h : WF s) {f n c : Int} (hf : 0 ≤ f) (hn : 0 ≤ n ∧ n ≤ 10 ∧ f + n ≤ s 6) (hc : f ≤ c ∧ c < f + n) (hq : fitB s f n = true) : fitB s c 1 = true := by
  rw [fit_one h ⟨by omega, by omega⟩]
  unfold fitB at hq
  simp only [Bool.and_eq_true, Bool.or_eq_true, decide_eq_true_eq] at hq
  obtain ⟨hm, hq⟩ := hq
  rcases hq with rfl | hq
  · omega
  · obtain ⟨z, hz, hz2⟩ := anyB_iff.mp hq
    unfold fitS at hz2
    simp only [Bool.and_eq_true, decide_eq_true_eq] at hz2
    obtain ⟨c1, c2⟩ := hz2
    obtain ⟨k, rfl⟩ : ∃ k : Nat, c = f + (k : Int) := ⟨(c - f).toNat, by omega⟩
    have hk : k < n.toNat := by omega
    have p1 : cl s f z 1 k ≤ col s f z 1 n.toNat := sm_part (fun j hj => (cl_bd h (n := n.toNat) hf (by omega) j hj).1) hk
    have p0 : cl s f z 0 k ≤ col s f z 0 n.toNat := sm_part (fun j hj => (cl_bd h (n := n.toNat) hf (by omega) j hj).1) hk
    by_cases w : s (7 + 4 * (f + (k : Int)) + 1) = 1 ∨ (z : Int) / 2 ^ (k : Int).toNat % 2 = 1
    · unfold cl at p1
      rw [if_pos w] at p1
      omega
    · by_cases e : s 2 = 1
      · rw [if_pos e, decide_eq_true_eq] at c2
        have := bit_ones hk (by omega)
        rw [← c2] at this
        rw [Int.toNat_natCast] at w
        exact absurd (Or.inr this) w
      · rw [if_neg e, decide_eq_true_eq] at c2
        have w2 : (z : Int) / 2 ^ (k : Int).toNat % 2 = 0 := by
          rw [not_or] at w
          omega
        unfold cl at p0
        rw [if_pos (Or.inr w2)] at p0
        omega
theorem fit_zero {s : Sg} (h : WF s) (f : Int) : fitB s f 0 = true := by
  have h4 := h.2.2.2.2.1
  have : (0 : Int) ≤ s 4 := by omega
  simp [fitB, this]
theorem due_lt {s : Sg} (f : Int) : due s f < s 0 := by
  unfold due
  split <;> omega
/-- there is a page from every place but the end, if no figure clashes -/
theorem pg_zero {s : Sg} (h : WF s) {ll f : Int} (hl : 0 ≤ ll ∧ ll < s 0) (hf : 0 ≤ f ∧ f ≤ s 6) : pgB s ll f 0 = true ∧ lb s ll f 0 = (if s 0 ≤ ll + s 2 * s 1 then s 0 else ll + s 2 * s 1) := by
  have hrm := rm_bd h
  have e : lb s ll f 0 = (if s 0 ≤ ll + s 2 * s 1 then s 0 else ll + s 2 * s 1) := by
    unfold lb tk
    simp [sm]
  refine ⟨?_, e⟩
  have e2 : 0 < lb s ll f 0 - ll + 0 := by
    rw [e]
    split <;> omega
  have e3 : f + 0 ≤ s 6 := by omega
  simp only [pgB, decide_eq_true e3, fit_zero h f, decide_eq_true e2, Bool.true_and]
  simp [amB, allB]
theorem pg_one {s : Sg} (h : WF s) {f : Int} (hf : 0 ≤ f ∧ f < s 6) (hq : fitB s f 1 = true) : pgB s (s 0) f 1 = true ∧ lb s (s 0) f 1 = s 0 := by
  have h0 := h.1
  have h6 := h.2.2.2.2.2.2.1
  have ht := fit_tk h hf.1 (n := 1) ⟨by omega, by omega, by omega⟩ hq
  have e : lb s (s 0) f 1 = s 0 := by
    unfold lb
    rw [if_pos (by omega)]
  refine ⟨?_, e⟩
  have e2 : 0 < lb s (s 0) f 1 - s 0 + 1 := by omega
  have e3 : f + 1 ≤ s 6 := by omega
  have e4 : amB s f (lb s (s 0) f 1) (1 : Int).toNat = true := by
    rw [e]
    have := due_lt (s := s) (f + ((0 : Nat) : Int))
    show (allB (fun k => decide (due s (f + k) < s 0)) 0 && decide (due s (f + ((0 : Nat) : Int)) < s 0)) = true
    rw [decide_eq_true this]
    rfl
  simp only [pgB, decide_eq_true e3, hq, decide_eq_true e2, e4, Bool.true_and, Bool.or_true]
theorem no_clash {s : Sg} (h : WF s) (hc : clash s (s 6).toNat = -1) : ∀ (m : Nat) (ll f : Int), (0 ≤ ll ∧ ll ≤ s 0) → (0 ≤ f ∧ f ≤ s 6) → mz s ll f ≤ m → (VV s ll f).1 < 100000000 := by
  have h4 := h.2.2.2.2.1
  intro m
  induction m with
  | zero =>
    intro ll f hl hf hm
    rw [VV_eq h hl hf, if_pos (by unfold mz at hm; omega)]
    decide
  | succ m ih =>
    intro ll f hl hf hm
    have e := VV_eq h hl hf
    by_cases hne : ll = s 0 ∧ f = s 6
    · rw [e, if_pos hne]
      decide
    rw [if_neg hne] at e
    have ok := fld_fok h hl hf.1 ((s 4).toNat + 1) (by omega)
    rw [← e] at ok
    have hv := VV_ok h hl.1 hf.1
    unfold Vok at hv
    have use : ∀ n : Nat, n < (s 4).toNat + 1 → pgB s ll f n = true → (VV s ll f).1 < 100000000 := by
      intro n hn hq
      have p := pg_facts h hl hf.1 (n := (n : Int)) ⟨by omega, by omega⟩ hq
      have b := byB_le h hl hf.1 (n := (n : Int)) ⟨by omega, by omega⟩ hq
      have i := ih (lb s ll f n) (f + n) ⟨by omega, by omega⟩ ⟨by omega, by omega⟩ (by unfold mz at hm ⊢; omega)
      have := ok.2 n hn hq (b.2.2.mpr i)
      omega
    rcases Int.lt_or_le ll (s 0) with q | q
    · exact use 0 (by omega) (pg_zero h ⟨hl.1, q⟩ hf).1
    · have hle : ll = s 0 := by omega
      subst hle
      have hf2 : f < s 6 := by omega
      have := clash_none hc f.toNat (by omega)
      rw [Int.toNat_of_nonneg hf.1] at this
      exact use 1 (by omega) (pg_one h ⟨hf.1, hf2⟩ this).1
theorem yes_clash {s : Sg} (h : WF s) {c : Int} (hc : 0 ≤ c ∧ c < s 6) (hq : fitB s c 1 = false) : ∀ (m : Nat) (ll f : Int), (0 ≤ ll ∧ ll ≤ s 0) → (0 ≤ f ∧ f ≤ c) → mz s ll f ≤ m → (VV s ll f).1 = 100000000 := by
  have h4 := h.2.2.2.2.1
  have h6 := h.2.2.2.2.2.2.1
  intro m
  induction m with
  | zero =>
    intro ll f hl hf hm
    unfold mz at hm
    omega
  | succ m ih =>
    intro ll f hl hf hm
    have e := VV_eq h hl (f := f) ⟨hf.1, by omega⟩
    rw [if_neg (by omega)] at e
    have ok := fld_fok h hl hf.1 ((s 4).toNat + 1) (by omega)
    rw [← e] at ok
    have hv := VV_ok h hl.1 hf.1
    unfold Vok at hv
    rcases Int.lt_or_le (VV s ll f).1 100000000 with q | q
    · obtain ⟨n, n1, n2, n3, n4, -⟩ := ok.1 q
      have p := pg_facts h hl hf.1 (n := (n : Int)) ⟨by omega, by omega⟩ n3
      have b := byB_le h hl hf.1 (n := (n : Int)) ⟨by omega, by omega⟩ n3
      have hle : f + (n : Int) ≤ c := by
        rcases Int.lt_or_le c (f + (n : Int)) with z | z
        · have := fit_sub h hf.1 (n := (n : Int)) (c := c) ⟨by omega, by omega, p.1⟩ ⟨hf.2, z⟩ p.2.2.2.2
          rw [hq] at this
          cases this
        · exact z
      have i := ih (lb s ll f n) (f + n) ⟨by omega, by omega⟩ ⟨by omega, hle⟩ (by unfold mz at hm ⊢; omega)
      have := b.2.2.mp (by rw [n4]; exact q)
      omega
    · omega
theorem bst_none {s : Sg} (h : WF s) : (VV s 0 0).1 = 100000000 ↔ ¬ clash s (s 6).toNat = -1 := by
  have h0 := h.1
  have h6 := h.2.2.2.2.2.2.1
  constructor
  · intro e hc
    have := no_clash h hc (mz s 0 0) 0 0 ⟨by omega, by omega⟩ ⟨by omega, by omega⟩ (Nat.le_refl _)
    omega
  · intro hc
    obtain ⟨k, k1, k2, k3⟩ := clash_some hc
    exact yes_clash h (c := (k : Int)) ⟨by omega, by omega⟩ k3 (mz s 0 0) 0 0 ⟨by omega, by omega⟩ ⟨by omega, by omega⟩ (Nat.le_refl _)
