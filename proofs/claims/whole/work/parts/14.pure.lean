/-! ===== pages, and the least from a place on ===== -/
theorem sm_bound3 {s : Sg} (h : WF s) {ll f : Int} : 0 ≤ tl s ll f ∧ tl s ll f ≤ 90 := by
  have h6 := h.2.2.2.2.2.2.1
  have hb : ∀ k : Nat, k < (s 6).toNat → 0 ≤ tlF s ll f k ∧ tlF s ll f k ≤ 9 := by
    intro k hk
    have := h.fg (f := (k : Int)) (by omega) (by omega)
    unfold tlF
    split <;> omega
  have := sm_bd hb
  unfold tl
  omega
theorem bit_ones {n k : Nat} (h : k < n) (hn : n ≤ 10) : ((2 : Int) ^ n - 1) / 2 ^ k % 2 = 1 := by
  have e := (show ∀ n, n < 11 → ∀ k, k < n → ((2 : Int) ^ n - 1) / 2 ^ k % 2 = 1 by decide) n (by omega) k h
  exact e
theorem fit_tk {s : Sg} (h : WF s) {f n : Int} (hf : 0 ≤ f) (hn : 0 ≤ n ∧ n ≤ 10 ∧ f + n ≤ s 6) (hq : fitB s f n = true) : tk s f n.toNat ≤ s 2 * s 1 ∧ tk s f n.toNat ≤ s 2 * s 3 := by
  have hrm := rm_bd h
  have h3 := h.2.2.2.1
  have h2 := h.2.2.1
  unfold fitB at hq
  simp only [Bool.and_eq_true, Bool.or_eq_true, decide_eq_true_eq] at hq
  obtain ⟨hm, hq⟩ := hq
  rcases hq with rfl | hq
  · have : tk s f (0 : Int).toNat = 0 := rfl
    rw [this]
    refine ⟨by omega, ?_⟩
    rcases (show s 2 = 1 ∨ s 2 = 2 by omega) with e | e <;> rw [e] <;> omega
  · obtain ⟨z, hz, hz2⟩ := anyB_iff.mp hq
    unfold fitS at hz2
    simp only [Bool.and_eq_true, decide_eq_true_eq] at hz2
    obtain ⟨c1, c2⟩ := hz2
    by_cases e : s 2 = 1
    · rw [if_pos e, decide_eq_true_eq] at c2
      have : tk s f n.toNat = col s f (z : Int) 1 n.toNat := by
        unfold tk col
        refine sm_cong (fun k hk => ?_)
        unfold tkF cl
        rw [e, c2, Int.toNat_natCast, bit_ones hk (by omega)]
        simp
      rw [this, e]
      omega
    · rw [if_neg e, decide_eq_true_eq] at c2
      have e2 : s 2 = 2 := by omega
      have : tk s f n.toNat = col s f (z : Int) 1 n.toNat + col s f (z : Int) 0 n.toNat := by
        unfold tk col
        rw [← sm_add]
        refine sm_cong (fun k hk => ?_)
        unfold tkF cl
        rw [e2]
        by_cases w : s (7 + 4 * (f + (k : Int)) + 1) = 1
        · simp [w]
          omega
        · rw [Int.toNat_natCast]
          rcases (show (z : Int) / 2 ^ k % 2 = 0 ∨ (z : Int) / 2 ^ k % 2 = 1 by omega) with q | q <;> simp [w, q]
      rw [this, e2]
      omega
theorem pg_facts {s : Sg} (h : WF s) {ll f n : Int} (hl : 0 ≤ ll ∧ ll ≤ s 0) (hf : 0 ≤ f) (hn : 0 ≤ n ∧ n ≤ 1000) (hq : pgB s ll f n = true) : f + n ≤ s 6 ∧ ll ≤ lb s ll f n ∧ lb s ll f n ≤ s 0 ∧ (ll < lb s ll f n ∨ 0 < n) ∧ fitB s f n = true := by
  have h6 := h.2.2.2.2.2.2.1
  unfold pgB at hq
  simp only [Bool.and_eq_true, decide_eq_true_eq] at hq
  obtain ⟨q1, q2, q3, q4⟩ := hq
  have ht := fit_tk h hf ⟨hn.1, by omega, q1⟩ q2
  have hlb : ll ≤ lb s ll f n ∧ lb s ll f n ≤ s 0 := by
    unfold lb
    split <;> omega
  exact ⟨q1, hlb.1, hlb.2, by omega, q2⟩
theorem fld_cong {s : Sg} {V W : Int → Int → Vt} {ll f : Int} : ∀ {k : Nat}, (∀ n : Nat, n < k → pgB s ll f n = true → V (lb s ll f n) (f + n) = W (lb s ll f n) (f + n)) → fld s V ll f k = fld s W ll f k
  | 0, _ => rfl
  | k + 1, h => by
    have h1 := fld_cong (k := k) (fun n hn hq => h n (by omega) hq)
    simp only [fld]
    rw [h1]
    by_cases hq : pgB s ll f k = true
    · simp only [stp, hq, if_true]
      rw [h k (by omega) hq]
    · simp only [stp, if_neg hq]
theorem Vd_irr {s : Sg} (h : WF s) : ∀ (m : Nat) (ll f : Int), (0 ≤ ll ∧ ll ≤ s 0) → (0 ≤ f ∧ f ≤ s 6) → mz s ll f ≤ m → ∀ d1 d2 : Nat, m < d1 → m < d2 → Vd s d1 ll f = Vd s d2 ll f := by
  have h4 := h.2.2.2.2.1
  intro m
  induction m with
  | zero =>
    intro ll f hl hf hm d1 d2 h1 h2
    obtain ⟨a, rfl⟩ : ∃ a, d1 = a + 1 := ⟨d1 - 1, by omega⟩
    obtain ⟨b, rfl⟩ : ∃ b, d2 = b + 1 := ⟨d2 - 1, by omega⟩
    unfold mz at hm
    have e : ll = s 0 ∧ f = s 6 := by omega
    simp only [Vd, if_pos e]
  | succ m ih =>
    intro ll f hl hf hm d1 d2 h1 h2
    obtain ⟨a, rfl⟩ : ∃ a, d1 = a + 1 := ⟨d1 - 1, by omega⟩
    obtain ⟨b, rfl⟩ : ∃ b, d2 = b + 1 := ⟨d2 - 1, by omega⟩
    simp only [Vd]
    by_cases e : ll = s 0 ∧ f = s 6
    · simp only [if_pos e]
    · simp only [if_neg e]
      refine fld_cong (fun n hn hq => ?_)
      have p := pg_facts h hl hf.1 (n := (n : Int)) ⟨by omega, by omega⟩ hq
      refine ih _ _ ⟨by omega, p.2.2.1⟩ ⟨by omega, p.1⟩ ?_ a b (by omega) (by omega)
      unfold mz at hm ⊢
      omega
theorem VV_eq {s : Sg} (h : WF s) {ll f : Int} (hl : 0 ≤ ll ∧ ll ≤ s 0) (hf : 0 ≤ f ∧ f ≤ s 6) : VV s ll f = if ll = s 0 ∧ f = s 6 then (0, 0, 1, 0) else fld s (VV s) ll f ((s 4).toNat + 1) := by
  have h4 := h.2.2.2.2.1
  show Vd s (mz s ll f + 1) ll f = _
  simp only [Vd]
  by_cases e : ll = s 0 ∧ f = s 6
  · simp only [if_pos e]
  · simp only [if_neg e]
    refine fld_cong (fun n hn hq => ?_)
    have p := pg_facts h hl hf.1 (n := (n : Int)) ⟨by omega, by omega⟩ hq
    have hlt : mz s (lb s ll f n) (f + n) < mz s ll f := by
      unfold mz
      omega
    exact Vd_irr h (mz s (lb s ll f n) (f + n)) _ _ ⟨by omega, p.2.2.1⟩ ⟨by omega, p.1⟩ (Nat.le_refl _) _ _ hlt (by omega)
/-- what a value can be: cost, pages -/
def Vok (d : Nat) (v : Vt) : Prop := 0 ≤ v.1 ∧ (v.1 = 100000000 ∨ v.1 ≤ 90 * (d : Int)) ∧ 0 ≤ v.2.1 ∧ v.2.1 ≤ (d : Int)
theorem stp_ok {s : Sg} (h : WF s) {d : Nat} {V : Int → Int → Vt} (hV : ∀ a b, Vok d (V a b)) (hd : d < 1000) {ll f n : Int} {a : Vt} (ha : Vok (d + 1) a) : Vok (d + 1) (stp s V ll f a n) := by
  unfold stp
  by_cases hq : pgB s ll f n = true
  · simp only [hq, if_true]
    have hv := hV (lb s ll f n) (f + n)
    have ht := sm_bound3 h (ll := lb s ll f n) (f := f + n)
    generalize V (lb s ll f n) (f + n) = v at hv
    unfold Vok at hv ha ⊢
    dsimp only
    by_cases e : v.1 = 100000000
    · simp only [if_pos e]
      grind
    · simp only [if_neg e]
      grind
  · simp only [if_neg hq]
    exact ha
theorem fld_ok {s : Sg} (h : WF s) {d : Nat} {V : Int → Int → Vt} (hV : ∀ a b, Vok d (V a b)) (hd : d < 1000) {ll f : Int} : ∀ k : Nat, Vok (d + 1) (fld s V ll f k)
  | 0 => ⟨by show (0 : Int) ≤ 100000000; decide, Or.inl rfl, Int.le_refl 0, by show (0 : Int) ≤ _; omega⟩
  | k + 1 => stp_ok h hV hd (fld_ok h hV hd k)
theorem Vd_ok {s : Sg} (h : WF s) : ∀ (d : Nat) (ll f : Int), d < 1000 → Vok d (Vd s d ll f)
  | 0, ll, f, _ => ⟨by show (0 : Int) ≤ 100000000; decide, Or.inl rfl, Int.le_refl 0, by show (0 : Int) ≤ _; omega⟩
  | d + 1, ll, f, hd => by
    simp only [Vd]
    split
    · exact ⟨Int.le_refl 0, Or.inr (by show (0 : Int) ≤ _; omega), Int.le_refl 0, by show (0 : Int) ≤ _; omega⟩
    · exact fld_ok h (fun a b => Vd_ok h d a b (by omega)) (by omega) _
theorem VV_ok {s : Sg} (h : WF s) {ll f : Int} (hl : 0 ≤ ll) (hf : 0 ≤ f) : Vok 131 (VV s ll f) := by
  have h0 := h.1
  have h6 := h.2.2.2.2.2.2.1
  have hm : mz s ll f + 1 ≤ 131 := by unfold mz; omega
  have := Vd_ok h (mz s ll f + 1) ll f (by omega)
  unfold VV
  unfold Vok at this ⊢
  omega
theorem fldV_ok {s : Sg} (h : WF s) {ll f : Int} (hl : 0 ≤ ll ∧ ll ≤ s 0) (hf : 0 ≤ f) : ∀ k : Nat, k ≤ 5 → Vok 132 (fld s (VV s) ll f k)
  | 0, _ => ⟨by show (0 : Int) ≤ 100000000; decide, Or.inl rfl, Int.le_refl 0, by show (0 : Int) ≤ _; omega⟩
  | k + 1, hk => by
    have ih := fldV_ok h hl hf k (by omega)
    simp only [fld]
    unfold stp
    by_cases hq : pgB s ll f k = true
    · simp only [hq, if_true]
      have p := pg_facts h hl hf (n := (k : Int)) ⟨by omega, by omega⟩ hq
      have hv := VV_ok h (ll := lb s ll f k) (f := f + k) (by omega) (by omega)
      have ht := sm_bound3 h (ll := lb s ll f k) (f := f + k)
      generalize VV s (lb s ll f k) (f + k) = v at hv
      generalize fld s (VV s) ll f k = a at ih
      unfold Vok at hv ih ⊢
      dsimp only
      by_cases e : v.1 = 100000000
      · simp only [if_pos e]
        grind
      · simp only [if_neg e]
        grind
    · simp only [if_neg hq]
      exact ih
