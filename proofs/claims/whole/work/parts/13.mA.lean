/-! ===== the reference: what reads the setting alone ===== -/
theorem WF.fg {s : Sg} (h : WF s) {f : Int} (h0 : 0 ≤ f) (h1 : f < s 6) : (1 ≤ s (7 + 4 * f) ∧ s (7 + 4 * f) ≤ 40) ∧ (0 ≤ s (7 + 4 * f + 1) ∧ s (7 + 4 * f + 1) ≤ 1) ∧ (0 ≤ s (7 + 4 * f + 2) ∧ s (7 + 4 * f + 2) ≤ 119) ∧ (1 ≤ s (7 + 4 * f + 3) ∧ s (7 + 4 * f + 3) ≤ 9) := h.2.2.2.2.2.2.2 f h0 h1
theorem due_bd {s : Sg} (h : WF s) {f : Int} (h0 : 0 ≤ f) (h1 : f < s 6) : -1 ≤ due s f ∧ due s f < s 0 ∧ due s f ≤ 119 := by
  have := h.fg h0 h1
  have := h.1
  unfold due
  split <;> omega
theorem cl_bd {s : Sg} (h : WF s) {f s2 b : Int} {n : Nat} (h0 : 0 ≤ f) (h1 : f + n ≤ s 6) : ∀ k : Nat, k < n → 0 ≤ cl s f s2 b k ∧ cl s f s2 b k ≤ 40 := by
  intro k hk
  have := h.fg (f := f + k) (by omega) (by omega)
  unfold cl
  split <;> omega
theorem col_bd {s : Sg} (h : WF s) {f s2 b : Int} {n : Nat} (h0 : 0 ≤ f) (h1 : f + n ≤ s 6) : 0 ≤ col s f s2 b n ∧ col s f s2 b n ≤ (n : Int) * 40 := sm_bd (cl_bd h h0 h1)
theorem tkF_bd {s : Sg} (h : WF s) {f : Int} {n : Nat} (h0 : 0 ≤ f) (h1 : f + n ≤ s 6) : ∀ k : Nat, k < n → 0 ≤ tkF s f k ∧ tkF s f k ≤ 80 := by
  intro k hk
  have h3 := h.fg (f := f + k) (by omega) (by omega)
  have h4 := h.2.2.1
  unfold tkF
  rcases (show s 2 = 1 ∨ s 2 = 2 by omega) with e | e <;> rw [e] <;> split <;> omega
theorem tk_bd {s : Sg} (h : WF s) {f : Int} {n : Nat} (h0 : 0 ≤ f) (h1 : f + n ≤ s 6) : 0 ≤ tk s f n ∧ tk s f n ≤ (n : Int) * 80 := sm_bd (tkF_bd h h0 h1)
theorem rm_bd {s : Sg} (h : WF s) : 6 ≤ s 2 * s 1 ∧ s 2 * s 1 ≤ 80 := by
  have h1 := h.2.1
  have h2 := h.2.2.1
  rcases (show s 2 = 1 ∨ s 2 = 2 by omega) with e | e <;> rw [e] <;> omega
set_option maxRecDepth 10000 in
set_option maxHeartbeats 1000000 in
theorem c6_high {l : Launch} {g : Gg} {M : Mm} {f : Int} (hf : 0 ≤ f ∧ f < 10) : Ct l g mX6_high [vr g 105, vi f] M (fun r M2 => r = M 106 (7 + 4 * f) ∧ M2 = M) := by
  refine ct_of (by decide) (Nat.le_of_ble_eq_true rfl) ?_
  intro x hl hg C hR
  subst hl
  subst hg
  exact X6_high_0 C hR f M ⟨⟨by omega, by omega⟩, rfl, rfl⟩
set_option maxRecDepth 10000 in
set_option maxHeartbeats 1000000 in
theorem c6_weight {l : Launch} {g : Gg} {M : Mm} {f : Int} (hf : 0 ≤ f ∧ f < 10) : Ct l g mX6_weight [vr g 105, vi f] M (fun r M2 => r = M 106 (7 + 4 * f + 3) ∧ M2 = M) := by
  refine ct_of (by decide) (Nat.le_of_ble_eq_true rfl) ?_
  intro x hl hg C hR
  subst hl
  subst hg
  exact X6_weight_0 C hR f M ⟨⟨by omega, by omega⟩, rfl, rfl⟩
set_option maxRecDepth 10000 in
set_option maxHeartbeats 1000000 in
theorem c6_isWide {l : Launch} {g : Gg} {M : Mm} {f : Int} (hw : WF (M 106)) (hf : 0 ≤ f ∧ f < M 106 6) : Ct l g mX6_isWide [vr g 105, vi f] M (fun r M2 => r = (if M 106 (7 + 4 * f + 1) = 1 then 1 else 0) ∧ M2 = M) := by
  refine ct_of (by decide) (Nat.le_of_ble_eq_true rfl) ?_
  intro x hl hg C hR
  subst hl
  subst hg
  have h1 := hw.fg hf.1 hf.2
  have h2 := hw.2.2.2.2.2.2.1
  refine X6_isWide_0 C hR f M ⟨⟨by omega, by omega⟩, ⟨by omega, by omega⟩, fun h => ⟨by rw [if_neg h], rfl⟩, fun h => ⟨by rw [if_pos h], rfl⟩⟩
set_option maxRecDepth 10000 in
set_option maxHeartbeats 1000000 in
theorem c6_mentionLine {l : Launch} {g : Gg} {M : Mm} {f : Int} (hw : WF (M 106)) (hf : 0 ≤ f ∧ f < M 106 6) : Ct l g mX6_mentionLine [vr g 105, vi f] M (fun r M2 => r = due (M 106) f ∧ M2 = M) := by
  refine ct_of (by decide) (Nat.le_of_ble_eq_true rfl) ?_
  intro x hl hg C hR
  subst hl
  subst hg
  have h1 := hw.fg hf.1 hf.2
  have h2 := hw.2.2.2.2.2.2.1
  have h3 := hw.1
  refine X6_mentionLine_0 C hR f M ⟨⟨by omega, by omega⟩, fun w hw2 => ⟨⟨⟨by omega, by omega⟩, by omega, by omega⟩, fun h => ⟨?_, rfl⟩, fun h => ⟨?_, rfl⟩⟩⟩
  · subst hw2
    unfold due
    rw [if_pos h]
  · subst hw2
    unfold due
    rw [if_neg h]
set_option maxRecDepth 10000 in
set_option maxHeartbeats 1000000 in
theorem c6_column_l {x : Xx} {post : Int → Mm → Prop} (C : Cx x mX6_column) (hR : Rt x mX6_column post) {M : Mm} (hw : WF (M 106)) {f n s2 b : Int} (hf : 0 ≤ f) (hn : 0 ≤ n ∧ n ≤ 10 ∧ f + n ≤ M 106 6) (hs : 0 ≤ s2 ∧ s2 < 2147483648) (hb : b = 0 ∨ b = 1) (hp : post (col (M 106) f s2 b n.toNat) M) : ∀ (d i : Nat), i + d = n.toNat → Gx x 8 6 [(0, vr (xg x) 105), (1, vi f), (2, vi n), (3, vi s2), (4, vi b), (5, vi (col (M 106) f s2 b i)), (6, vi (i : Int))] [] M := by
  have h6 := hw.2.2.2.2.2.2.1
  intro d
  induction d with
  | zero =>
    intro i hi
    refine X6_column_6 C hR f n s2 b _ _ M ⟨⟨⟨by omega, by omega⟩, by omega, by omega⟩, fun _ => ?_, fun h => absurd h (by omega)⟩
    have : i = n.toNat := by omega
    subst this
    exact hp
  | succ d ih =>
    intro i hi
    have hk := hw.fg (f := f + i) (by omega) (by omega)
    refine X6_column_6 C hR f n s2 b _ _ M ⟨⟨⟨by omega, by omega⟩, by omega, by omega⟩, fun h => absurd h (by omega), fun h => ?_⟩
    have next : ∀ t : Int, (t = 1 ∨ t = 0) → (t = 1 ↔ (M 106 (7 + 4 * (f + (i : Int)) + 1) = 1 ∨ s2 / 2 ^ (i : Int).toNat % 2 = b)) → Gx x 8 48 [(0, vr (xg x) 105), (1, vi f), (2, vi n), (3, vi s2), (4, vi b), (5, vi (col (M 106) f s2 b i)), (6, vi (i : Int))] [vi t] M := by
      intro t ht he
      refine X6_column_48 C hR f n s2 b _ _ t M ⟨⟨by omega, by omega⟩, fun h0 w hw2 => ?_, fun h0 => ⟨_, c6_high ⟨by omega, by omega⟩, ?_⟩⟩
      · have hc : col (M 106) f s2 b (i + 1) = w := by
          rw [hw2]
          show col (M 106) f s2 b i + cl (M 106) f s2 b i = _
          unfold cl
          rw [if_neg (fun z => by have := he.mpr z; omega)]
        have := ih (i + 1) (by omega)
        rw [hc] at this
        exact this
      · intro r M1 hr
        obtain ⟨rfl, rfl⟩ := hr
        intro w hw2
        have hc : col (M1 106) f s2 b (i + 1) = w := by
          rw [hw2]
          show col (M1 106) f s2 b i + cl (M1 106) f s2 b i = _
          unfold cl
          rw [if_pos (he.mp (by omega))]
        have := ih (i + 1) (by omega)
        rw [hc] at this
        exact this
    refine ⟨_, c6_isWide hw ⟨by omega, by omega⟩, ?_⟩
    intro r M1 hr
    obtain ⟨hr1, rfl⟩ := hr
    refine ⟨by rw [hr1]; split <;> decide, fun h0 => ?_, fun h0 => ?_⟩
    · refine next 1 (Or.inl rfl) ⟨fun _ => Or.inl ?_, fun _ => rfl⟩
      rw [hr1] at h0
      by_cases e : M1 106 (7 + 4 * (f + (i : Int)) + 1) = 1
      · exact e
      · rw [if_neg e] at h0
        exact absurd rfl h0
    · have hne : ¬ M1 106 (7 + 4 * (f + (i : Int)) + 1) = 1 := fun e => by rw [hr1, if_pos e] at h0; cases h0
      refine ⟨⟨hs, by omega, by omega⟩, ⟨by omega, by omega⟩, fun hq => ⟨⟨by omega, by omega⟩, fun h3 => next 0 (Or.inr rfl) ⟨fun z => absurd z (by decide), fun z => ?_⟩, fun h3 => next 1 (Or.inl rfl) ⟨fun _ => Or.inr (by omega), fun _ => rfl⟩⟩, fun hq => ⟨⟨by omega, by omega⟩, fun h3 => next 0 (Or.inr rfl) ⟨fun z => absurd z (by decide), fun z => ?_⟩, fun h3 => next 1 (Or.inl rfl) ⟨fun _ => Or.inr (by omega), fun _ => rfl⟩⟩⟩
      · rcases z with z | z
        · exact absurd z hne
        · omega
      · rcases z with z | z
        · exact absurd z hne
        · omega
set_option maxRecDepth 10000 in
set_option maxHeartbeats 1000000 in
theorem c6_column {l : Launch} {g : Gg} {M : Mm} {f n s2 b : Int} (hw : WF (M 106)) (hf : 0 ≤ f) (hn : 0 ≤ n ∧ n ≤ 10 ∧ f + n ≤ M 106 6) (hs : 0 ≤ s2 ∧ s2 < 2147483648) (hb : b = 0 ∨ b = 1) : Ct l g mX6_column [vr g 105, vi f, vi n, vi s2, vi b] M (fun r M2 => r = col (M 106) f s2 b n.toNat ∧ M2 = M) := by
  refine ct_of (by decide) (Nat.le_of_ble_eq_true rfl) ?_
  intro x hl hg C hR
  subst hl
  subst hg
  exact X6_column_0 C hR f n s2 b M (c6_column_l C hR hw hf hn hs hb ⟨rfl, rfl⟩ n.toNat 0 (by omega))
theorem pow_bd {n : Nat} (h : n ≤ 10) : (1 : Int) ≤ 2 ^ n ∧ (2 : Int) ^ n ≤ 1024 := by
  have : n < 11 := by omega
  exact (show ∀ n, n < 11 → (1 : Int) ≤ 2 ^ n ∧ (2 : Int) ^ n ≤ 1024 by decide) n this
theorem pow_nat (n : Nat) : ((2 ^ n : Nat) : Int) = 2 ^ n := by norm_cast
set_option maxRecDepth 10000 in
set_option maxHeartbeats 1000000 in
theorem c6_isFit_l {x : Xx} {post : Int → Mm → Prop} (C : Cx x mX6_isFit) (hR : Rt x mX6_isFit post) {M : Mm} (hw : WF (M 106)) {f n : Int} (hf : 0 ≤ f) (hn : 0 ≤ n ∧ n ≤ 10 ∧ f + n ≤ M 106 6) (b : Bool) (hp : post (b2 (b || anyB (fitS (M 106) f n) (2 ^ n.toNat))) M) : ∀ (d i : Nat), i + d = 2 ^ n.toNat → Gx x 7 25 [(0, vr (xg x) 105), (1, vi f), (2, vi n), (3, vi (b2 (b || anyB (fitS (M 106) f n) i))), (4, vi (i : Int))] [] M := by
  have h6 := hw.2.2.2.2.2.2.1
  have h3 := hw.2.2.2.1
  have h1 := hw.2.1
  have h22 := hw.2.2.1
  have hpw := pow_bd (n := n.toNat) (by omega)
  have hpn := pow_nat n.toNat
  intro d
  induction d with
  | zero =>
    intro i hi
    have : i = 2 ^ n.toNat := by omega
    subst this
    refine X6_isFit_25 C hR f n _ _ M ⟨⟨by omega, by omega⟩, ⟨⟨by omega, by omega⟩, by omega, by omega⟩, fun _ => ⟨b2_01 _, hp⟩, fun h => absurd h (by omega)⟩
  | succ d ih =>
    intro i hi
    have hcT := col_bd hw (s2 := (i : Int)) (b := 1) (n := n.toNat) hf (by omega)
    have hcF := col_bd hw (s2 := (i : Int)) (b := 0) (n := n.toNat) hf (by omega)
    have nxt : ∀ v t u : Int, (t = 0 ∨ t = 1) → (u = 0 ∨ u = 1) → v = b2 (b || anyB (fitS (M 106) f n) i) → (fitS (M 106) f n (i : Int) = true ↔ (t = 1 ∧ u = 1)) → Gx x 7 109 [(0, vr (xg x) 105), (1, vi f), (2, vi n), (3, vi v), (4, vi (i : Int)), (5, vi t)] [vi u] M := by
      intro v t u ht hu hv he
      have key : ∀ z : Int, z = b2 (b || anyB (fitS (M 106) f n) (i + 1)) → Gx x 7 25 [(0, vr (xg x) 105), (1, vi f), (2, vi n), (3, vi z), (4, vi ((i : Int) + 1))] [] M := by
        intro z hz
        rw [hz]
        exact ih (i + 1) (by omega)
      have e1 : anyB (fitS (M 106) f n) (i + 1) = (anyB (fitS (M 106) f n) i || fitS (M 106) f n (i : Int)) := rfl
      rw [e1] at key
      have hv01 := b2_01 (b || anyB (fitS (M 106) f n) i)
      refine X6_isFit_109 C hR f n v (i : Int) t u M ⟨⟨by omega, by omega⟩, fun h0 => ?_, fun h0 => ⟨⟨by omega, by omega⟩, fun h1 => ?_, fun h1 => ⟨⟨by omega, by omega⟩, fun h2 => ?_, fun h2 => ?_⟩⟩⟩
      · apply key
        cases hb : (b || anyB (fitS (M 106) f n) i) with
        | false => rw [hb] at hv; exact absurd hv h0
        | true => rw [← Bool.or_assoc, hb]; rfl
      all_goals apply key
      all_goals cases hb : (b || anyB (fitS (M 106) f n) i) with
        | true => rw [hb] at hv; rw [hv] at h0; exact absurd h0 (by decide)
        | false =>
          rw [← Bool.or_assoc, hb]
          cases hq : fitS (M 106) f n (i : Int) with
          | false =>
            first | rfl | (exfalso; have := he.mpr ⟨by omega, by omega⟩; rw [hq] at this; cases this)
          | true =>
            first | rfl | (exfalso; have := he.mp hq; omega)
    refine X6_isFit_25 C hR f n _ _ M ⟨⟨by omega, by omega⟩, ⟨⟨by omega, by omega⟩, by omega, by omega⟩, fun h => absurd h (by omega), fun h => ⟨_, c6_column hw hf hn ⟨by omega, by omega⟩ (Or.inr rfl), ?_⟩⟩
    intro r M1 hr
    obtain ⟨rfl, rfl⟩ := hr
    have step : ∀ t : Int, (t = 0 ∨ t = 1) → (t = 1 ↔ col (M1 106) f (i : Int) 1 n.toNat ≤ M1 106 3) → Gx x 7 56 [(0, vr (xg x) 105), (1, vi f), (2, vi n), (3, vi (b2 (b || anyB (fitS (M1 106) f n) i))), (4, vi (i : Int))] [vi t] M1 := by
      intro t ht he
      refine X6_isFit_56 C hR f n _ (i : Int) t M1 ⟨⟨by omega, by omega⟩, fun h2 => ⟨_, c6_column hw hf hn ⟨by omega, by omega⟩ (Or.inl rfl), ?_⟩, fun h2 => ⟨⟨by omega, by omega⟩, ⟨⟨by omega, by omega⟩, by omega, by omega⟩, fun h4 => ?_, fun h4 => ?_⟩⟩
      · intro r M2 hr
        obtain ⟨rfl, rfl⟩ := hr
        refine ⟨⟨⟨by omega, by omega⟩, by omega, by omega⟩, fun h4 => nxt _ t 0 ht (Or.inl rfl) rfl ?_, fun h4 => nxt _ t 1 ht (Or.inr rfl) rfl ?_⟩
        · simp only [fitS, if_neg h2, Bool.and_eq_true, decide_eq_true_eq]
          grind
        · simp only [fitS, if_neg h2, Bool.and_eq_true, decide_eq_true_eq]
          grind
      · refine nxt _ t 0 ht (Or.inl rfl) rfl ?_
        simp only [fitS, if_pos h2, Bool.and_eq_true, decide_eq_true_eq]
        grind
      · refine nxt _ t 1 ht (Or.inr rfl) rfl ?_
        simp only [fitS, if_pos h2, Bool.and_eq_true, decide_eq_true_eq]
        grind
    exact ⟨⟨⟨by omega, by omega⟩, by omega, by omega⟩, fun h4 => step 0 (Or.inl rfl) (by omega), fun h4 => step 1 (Or.inr rfl) (by omega)⟩
set_option maxRecDepth 10000 in
set_option maxHeartbeats 1000000 in
theorem c6_isFit {l : Launch} {g : Gg} {M : Mm} {f n : Int} (hw : WF (M 106)) (hf : 0 ≤ f) (hn : 0 ≤ n ∧ n ≤ 10 ∧ f + n ≤ M 106 6) : Ct l g mX6_isFit [vr g 105, vi f, vi n] M (fun r M2 => r = b2 (fitB (M 106) f n) ∧ M2 = M) := by
  refine ct_of (by decide) (Nat.le_of_ble_eq_true rfl) ?_
  intro x hl hg C hR
  subst hl
  subst hg
  have h4 := hw.2.2.2.2.1
  refine X6_isFit_0 C hR f n M ⟨⟨⟨by omega, by omega⟩, by omega, by omega⟩, fun h => ⟨⟨by omega, by omega⟩, fun h0 => ?_, fun h0 => ?_⟩, fun h => ⟨?_, rfl⟩⟩
  · refine c6_isFit_l C hR hw hf hn false ⟨?_, rfl⟩ (2 ^ n.toNat) 0 (by omega)
    simp [fitB, h, h0]
  · refine c6_isFit_l C hR hw hf hn true ⟨?_, rfl⟩ (2 ^ n.toNat) 0 (by omega)
    have h5 : (0 : Int) ≤ M 106 4 := by omega
    simp [fitB, h0, h5]
  · simp [fitB, h, b2]
set_option maxRecDepth 10000 in
set_option maxHeartbeats 1000000 in
theorem c6_taken_l {x : Xx} {post : Int → Mm → Prop} (C : Cx x mX6_taken) (hR : Rt x mX6_taken post) {M : Mm} (hw : WF (M 106)) {f n : Int} (hf : 0 ≤ f) (hn : 0 ≤ n ∧ n ≤ 10 ∧ f + n ≤ M 106 6) (hp : post (tk (M 106) f n.toNat) M) : ∀ (d i : Nat), i + d = n.toNat → Gx x 5 5 [(0, vr (xg x) 105), (1, vi f), (2, vi n), (3, vi (tk (M 106) f i)), (4, vi (i : Int))] [] M := by
  have h6 := hw.2.2.2.2.2.2.1
  have h22 := hw.2.2.1
  intro d
  induction d with
  | zero =>
    intro i hi
    refine X6_taken_5 C hR f n _ _ M ⟨⟨⟨by omega, by omega⟩, by omega, by omega⟩, fun _ => ?_, fun h => absurd h (by omega)⟩
    have : i = n.toNat := by omega
    subst this
    exact hp
  | succ d ih =>
    intro i hi
    refine X6_taken_5 C hR f n _ _ M ⟨⟨⟨by omega, by omega⟩, by omega, by omega⟩, fun h => absurd h (by omega), fun h => ⟨_, c6_high ⟨by omega, by omega⟩, ?_⟩⟩
    intro r M1 hr
    obtain ⟨rfl, rfl⟩ := hr
    refine ⟨_, c6_isWide hw ⟨by omega, by omega⟩, ?_⟩
    intro r M1 hr
    obtain ⟨hr1, rfl⟩ := hr
    have nx := ih (i + 1) (by omega)
    refine ⟨by rw [hr1]; split <;> decide, fun h0 w hw2 => ?_, fun h0 w hw2 => ?_⟩
    · have hne : ¬ M1 106 (7 + 4 * (f + (i : Int)) + 1) = 1 := fun e => by rw [hr1, if_pos e] at h0; cases h0
      have hc : tk (M1 106) f (i + 1) = w := by
        rw [hw2]
        show tk (M1 106) f i + tkF (M1 106) f i = _
        unfold tkF
        rw [if_neg hne]
      rw [hc] at nx
      exact nx
    · have he : M1 106 (7 + 4 * (f + (i : Int)) + 1) = 1 := by
        by_cases e : M1 106 (7 + 4 * (f + (i : Int)) + 1) = 1
        · exact e
        · rw [hr1, if_neg e] at h0
          exact absurd rfl h0
      have hc : tk (M1 106) f (i + 1) = w := by
        rw [hw2]
        show tk (M1 106) f i + tkF (M1 106) f i = _
        unfold tkF
        rw [if_pos he]
      rw [hc] at nx
      exact nx
set_option maxRecDepth 10000 in
set_option maxHeartbeats 1000000 in
theorem c6_taken {l : Launch} {g : Gg} {M : Mm} {f n : Int} (hw : WF (M 106)) (hf : 0 ≤ f) (hn : 0 ≤ n ∧ n ≤ 10 ∧ f + n ≤ M 106 6) : Ct l g mX6_taken [vr g 105, vi f, vi n] M (fun r M2 => r = tk (M 106) f n.toNat ∧ M2 = M) := by
  refine ct_of (by decide) (Nat.le_of_ble_eq_true rfl) ?_
  intro x hl hg C hR
  subst hl
  subst hg
  exact X6_taken_0 C hR f n M (c6_taken_l C hR hw hf hn ⟨rfl, rfl⟩ n.toNat 0 (by omega))
set_option maxRecDepth 10000 in
set_option maxHeartbeats 1000000 in
theorem c6_linesBehind {l : Launch} {g : Gg} {M : Mm} {ll f n : Int} (hw : WF (M 106)) (hl : 0 ≤ ll ∧ ll ≤ 1000) (hf : 0 ≤ f) (hn : 0 ≤ n ∧ n ≤ 10 ∧ f + n ≤ M 106 6) : Ct l g mX6_linesBehind [vr g 105, vi ll, vi f, vi n] M (fun r M2 => r = lb (M 106) ll f n ∧ M2 = M) := by
  refine ct_of (by decide) (Nat.le_of_ble_eq_true rfl) ?_
  intro x hl hg C hR
  subst hl
  subst hg
  have h0 := hw.1
  have hrm := rm_bd hw
  have hb := tk_bd hw (n := n.toNat) hf (by omega)
  refine X6_linesBehind_0 C hR ll f n M ⟨_, c6_taken hw hf hn, ?_⟩
  intro r M1 hr
  obtain ⟨rfl, rfl⟩ := hr
  intro w hw2
  refine ⟨⟨⟨by omega, by omega⟩, by omega, by omega⟩, fun h => ⟨?_, rfl⟩, fun h => ⟨?_, rfl⟩⟩
  · subst hw2
    unfold lb
    rw [if_pos h]
  · subst hw2
    unfold lb
    rw [if_neg h]
set_option maxRecDepth 10000 in
set_option maxHeartbeats 1000000 in
theorem c6_areMentioned_l {x : Xx} {post : Int → Mm → Prop} (C : Cx x mX6_areMentioned) (hR : Rt x mX6_areMentioned post) {M : Mm} (hw : WF (M 106)) {f n c : Int} (hf : 0 ≤ f) (hn : 0 ≤ n ∧ n ≤ 10 ∧ f + n ≤ M 106 6) (hc : inR c) (hp : post (b2 (amB (M 106) f c n.toNat)) M) : ∀ (d i : Nat), i + d = n.toNat → Gx x 6 6 [(0, vr (xg x) 105), (1, vi f), (2, vi n), (3, vi c), (4, vi (b2 (amB (M 106) f c i))), (5, vi (i : Int))] [] M := by
  have h6 := hw.2.2.2.2.2.2.1
  have hh0 := hw.1
  intro d
  induction d with
  | zero =>
    intro i hi
    refine X6_areMentioned_6 C hR f n c _ _ M ⟨⟨⟨by omega, by omega⟩, by omega, by omega⟩, fun _ => ⟨b2_01 _, ?_⟩, fun h => absurd h (by omega)⟩
    have : i = n.toNat := by omega
    subst this
    exact hp
  | succ d ih =>
    intro i hi
    have nx := ih (i + 1) (by omega)
    have e1 : amB (M 106) f c (i + 1) = (amB (M 106) f c i && decide (due (M 106) (f + (i : Int)) < c)) := rfl
    have hd := due_bd hw (f := f + (i : Int)) (by omega) (by omega)
    rw [e1] at nx
    have h01 := b2_01 (amB (M 106) f c i)
    refine X6_areMentioned_6 C hR f n c _ _ M ⟨⟨⟨by omega, by omega⟩, by omega, by omega⟩, fun h => absurd h (by omega), fun h => ⟨⟨by omega, by omega⟩, fun h0 => ?_, fun h0 => ⟨_, c6_mentionLine hw ⟨by omega, by omega⟩, ?_⟩⟩⟩
    · cases hb : amB (M 106) f c i with
      | true => rw [hb] at h0; exact absurd h0 (by decide)
      | false => rw [hb] at nx; exact nx
    · intro r M1 hr
      obtain ⟨rfl, rfl⟩ := hr
      cases hb : amB (M1 106) f c i with
      | false => rw [hb] at h0; exact absurd rfl h0
      | true =>
        rw [hb] at nx
        refine ⟨⟨⟨by omega, by omega⟩, hc⟩, fun h3 => ?_, fun h3 => ?_⟩
        · rw [decide_eq_false (by omega)] at nx
          exact nx
        · rw [decide_eq_true (by omega)] at nx
          exact nx
set_option maxRecDepth 10000 in
set_option maxHeartbeats 1000000 in
theorem c6_areMentioned {l : Launch} {g : Gg} {M : Mm} {f n c : Int} (hw : WF (M 106)) (hf : 0 ≤ f) (hn : 0 ≤ n ∧ n ≤ 10 ∧ f + n ≤ M 106 6) (hc : inR c) : Ct l g mX6_areMentioned [vr g 105, vi f, vi n, vi c] M (fun r M2 => r = b2 (amB (M 106) f c n.toNat) ∧ M2 = M) := by
  refine ct_of (by decide) (Nat.le_of_ble_eq_true rfl) ?_
  intro x hl hg C hR
  subst hl
  subst hg
  exact X6_areMentioned_0 C hR f n c M (c6_areMentioned_l C hR hw hf hn hc ⟨rfl, rfl⟩ n.toNat 0 (by omega))
/-! sets of figures -/
def setB (P : Int → Bool) : Nat → Nat
  | 0 => 0
  | n + 1 => setB P n ||| (if P (n : Int) then 2 ^ n else 0)
theorem setB_lt (P : Int → Bool) : ∀ n, setB P n < 2 ^ n
  | 0 => by simp [setB]
  | n + 1 => by
    have h := setB_lt P n
    have h2 : (2 : Nat) ^ n < 2 ^ (n + 1) := Nat.pow_lt_pow_right (by decide) (by omega)
    simp only [setB]
    refine Nat.or_lt_two_pow (by omega) ?_
    split
    · exact h2
    · exact Nat.two_pow_pos _
theorem setB_tb (P : Int → Bool) : ∀ (n k : Nat), (setB P n).testBit k = (decide (k < n) && P (k : Int))
  | 0, k => by simp [setB]
  | n + 1, k => by
    simp only [setB, Nat.testBit_or, setB_tb P n k]
    by_cases h : k = n
    · subst h
      cases hp : P (k : Int) <;> simp
    · have e : decide (k < n + 1) = decide (k < n) := by
        by_cases q : k < n
        · rw [decide_eq_true q, decide_eq_true (by omega)]
        · rw [decide_eq_false q, decide_eq_false (by omega)]
      rw [e]
      cases hp : P (n : Int)
      · simp
      · simp [Nat.testBit_two_pow, Ne.symm h]
theorem setB_bit (P : Int → Bool) {n k : Nat} (h : k < n) : (((setB P n : Nat) : Int) / 2 ^ k % 2 = 1) ↔ P (k : Int) = true := by
  have h1 := setB_tb P n k
  rw [decide_eq_true h, Bool.true_and, Nat.testBit_eq_decide_div_mod_eq] at h1
  rw [← h1, decide_eq_true_eq]
  have : ((setB P n : Nat) : Int) / 2 ^ k % 2 = ((setB P n / 2 ^ k % 2 : Nat) : Int) := by norm_cast
  rw [this]
  omega
def bwP (s : Sg) (ll f e k : Int) : Bool := if e = 0 then decide (f ≤ k) && decide (due s k < ll) else decide (k < f) && !decide (due s k < ll)
set_option maxRecDepth 10000 in
set_option maxHeartbeats 1000000 in
theorem c6_isMentioned {l : Launch} {g : Gg} {M : Mm} {f c : Int} (hw : WF (M 106)) (hf : 0 ≤ f ∧ f < M 106 6) (hc : 0 ≤ c ∧ c ≤ 1000) : Ct l g mX6_isMentioned [vr g 105, vi f, vi c] M (fun r M2 => r = b2 (decide (due (M 106) f < c)) ∧ M2 = M) := by
  refine ct_of (by decide) (Nat.le_of_ble_eq_true rfl) ?_
  intro x hl hg C hR
  subst hl
  subst hg
  have hd := due_bd hw hf.1 hf.2
  have h0 := hw.1
  refine X6_isMentioned_0 C hR f c M ⟨_, c6_mentionLine hw hf, ?_⟩
  intro r M1 hr
  obtain ⟨rfl, rfl⟩ := hr
  refine ⟨⟨⟨by omega, by omega⟩, by omega, by omega⟩, fun h => ⟨by rw [decide_eq_true h]; rfl, rfl⟩, fun h => ⟨⟨by omega, by omega⟩, fun h2 => ⟨by rw [decide_eq_false h]; rfl, rfl⟩, fun h2 => absurd (by omega) h⟩⟩
set_option maxRecDepth 10000 in
set_option maxHeartbeats 1000000 in
theorem c6_between_l {x : Xx} {post : Int → Mm → Prop} (C : Cx x mX6_between) (hR : Rt x mX6_between post) {M : Mm} (hw : WF (M 106)) {ll f e : Int} (hl : 0 ≤ ll ∧ ll ≤ 1000) (hf : 0 ≤ f ∧ f ≤ 1000) (he : e = 0 ∨ e = 1) (hp : post ((setB (bwP (M 106) ll f e) (M 106 6).toNat : Nat) : Int) M) : ∀ (d i : Nat), i + d = (M 106 6).toNat → Gx x 7 6 [(0, vr (xg x) 105), (1, vi ll), (2, vi f), (3, vi e), (4, vi ((setB (bwP (M 106) ll f e) i : Nat) : Int)), (5, vi (i : Int))] [] M := by
  have h6 := hw.2.2.2.2.2.2.1
  intro d
  induction d with
  | zero =>
    intro i hi
    refine X6_between_6 C hR ll f e _ _ M ⟨⟨⟨by omega, by omega⟩, by omega, by omega⟩, fun _ => ?_, fun h => absurd h (by omega)⟩
    have : i = (M 106 6).toNat := by omega
    subst this
    exact hp
  | succ d ih =>
    intro i hi
    have nx := ih (i + 1) (by omega)
    have step : ∀ t : Int, (t = 0 ∨ t = 1) → (t = 1 ↔ bwP (M 106) ll f e (i : Int) = true) → Gx x 7 67 [(0, vr (xg x) 105), (1, vi ll), (2, vi f), (3, vi e), (4, vi ((setB (bwP (M 106) ll f e) i : Nat) : Int)), (5, vi (i : Int))] [vi t] M := by
      intro t ht hb
      have hpw := pow_bd (n := i) (by omega)
      have e2 : setB (bwP (M 106) ll f e) (i + 1) = setB (bwP (M 106) ll f e) i ||| (if bwP (M 106) ll f e (i : Int) then 2 ^ i else 0) := rfl
      refine X6_between_67 C hR ll f e _ _ t M ⟨⟨by omega, by omega⟩, fun h0 => ⟨⟨by omega, by omega⟩, fun w hw2 => ?_⟩, fun h0 => ⟨⟨by omega, by omega⟩, ⟨by omega, by rw [Int.toNat_natCast]; omega⟩, fun w hw2 => ?_⟩⟩
      · have hbf : bwP (M 106) ll f e (i : Int) = false := by
          cases hq : bwP (M 106) ll f e (i : Int) with
          | false => rfl
          | true => have := hb.mpr hq; omega
        rw [e2, hbf] at nx
        rw [hw2]
        exact nx
      · rw [e2, hb.mp (by omega)] at nx
        rw [hw2]
        have e3 : ((2 : Int) ^ (i : Int).toNat).toNat = 2 ^ i := by
          rw [Int.toNat_natCast, ← pow_nat, Int.toNat_natCast]
        rw [e3, Int.toNat_natCast]
        exact nx
    refine X6_between_6 C hR ll f e _ _ M ⟨⟨⟨by omega, by omega⟩, by omega, by omega⟩, fun h => absurd h (by omega), fun h => ⟨⟨by omega, by omega⟩, fun h0 => ⟨⟨⟨by omega, by omega⟩, by omega, by omega⟩, fun h1 => step 0 (Or.inl rfl) ?_, fun h1 => ⟨_, c6_isMentioned hw ⟨by omega, by omega⟩ hl, ?_⟩⟩, fun h0 => ⟨⟨⟨by omega, by omega⟩, by omega, by omega⟩, fun h1 => step 0 (Or.inl rfl) ?_, fun h1 => ⟨_, c6_isMentioned hw ⟨by omega, by omega⟩ hl, ?_⟩⟩⟩⟩
    · simp only [bwP, if_pos h0, Bool.and_eq_true, decide_eq_true_eq]
      omega
    · intro r M1 hr
      obtain ⟨rfl, rfl⟩ := hr
      refine ⟨by unfold b2; split <;> decide, fun h2 => step 0 (Or.inl rfl) ?_, fun h2 => step 1 (Or.inr rfl) ?_⟩
      · have : ¬ due (M1 106) (i : Int) < ll := fun z => by rw [decide_eq_true z] at h2; cases h2
        simp only [bwP, if_pos h0, Bool.and_eq_true, decide_eq_true_eq]
        omega
      · have : due (M1 106) (i : Int) < ll := by
          by_cases z : due (M1 106) (i : Int) < ll
          · exact z
          · rw [decide_eq_false z] at h2; exact absurd rfl h2
        simp only [bwP, if_pos h0, Bool.and_eq_true, decide_eq_true_eq]
        exact ⟨fun _ => ⟨by omega, this⟩, fun _ => trivial⟩
    · simp only [bwP, if_neg h0, Bool.and_eq_true, decide_eq_true_eq]
      omega
    · intro r M1 hr
      obtain ⟨rfl, rfl⟩ := hr
      refine ⟨by unfold b2; split <;> decide, fun h2 => step 0 (Or.inl rfl) ?_, fun h2 => step 1 (Or.inr rfl) ?_⟩
      · have z : due (M1 106) (i : Int) < ll := by
          by_cases z : due (M1 106) (i : Int) < ll
          · exact z
          · rw [decide_eq_false z] at h2; exact absurd rfl h2
        simp [bwP, if_neg h0, z]
      · have z : ¬ due (M1 106) (i : Int) < ll := fun z => by rw [decide_eq_true z] at h2; cases h2
        have z2 : (i : Int) < f := by omega
        simp [bwP, if_neg h0, z, z2]
set_option maxRecDepth 10000 in
set_option maxHeartbeats 1000000 in
theorem c6_between {l : Launch} {g : Gg} {M : Mm} {ll f e : Int} (hw : WF (M 106)) (hl : 0 ≤ ll ∧ ll ≤ 1000) (hf : 0 ≤ f ∧ f ≤ 1000) (he : e = 0 ∨ e = 1) : Ct l g mX6_between [vr g 105, vi ll, vi f, vi e] M (fun r M2 => r = ((setB (bwP (M 106) ll f e) (M 106 6).toNat : Nat) : Int) ∧ M2 = M) := by
  refine ct_of (by decide) (Nat.le_of_ble_eq_true rfl) ?_
  intro x hl hg C hR
  subst hl
  subst hg
  exact X6_between_0 C hR ll f e M (c6_between_l C hR hw hl hf he ⟨rfl, rfl⟩ (M 106 6).toNat 0 (by omega))
def woF (s : Sg) (z k : Int) : Int := if z / 2 ^ k.toNat % 2 = 1 then s (7 + 4 * k + 3) else 0
set_option maxRecDepth 10000 in
set_option maxHeartbeats 1000000 in
theorem c6_weightOf_l {x : Xx} {post : Int → Mm → Prop} (C : Cx x mX6_weightOf) (hR : Rt x mX6_weightOf post) {M : Mm} (hw : WF (M 106)) {z : Int} (hz : 0 ≤ z ∧ z < 2147483648) (hp : post (sm (woF (M 106) z) (M 106 6).toNat) M) : ∀ (d i : Nat), i + d = (M 106 6).toNat → Gx x 4 4 [(0, vr (xg x) 105), (1, vi z), (2, vi (sm (woF (M 106) z) i)), (3, vi (i : Int))] [] M := by
  have h6 := hw.2.2.2.2.2.2.1
  intro d
  induction d with
  | zero =>
    intro i hi
    refine X6_weightOf_4 C hR z _ _ M ⟨⟨⟨by omega, by omega⟩, by omega, by omega⟩, fun _ => ?_, fun h => absurd h (by omega)⟩
    have : i = (M 106 6).toNat := by omega
    subst this
    exact hp
  | succ d ih =>
    intro i hi
    have nx := ih (i + 1) (by omega)
    have e2 : sm (woF (M 106) z) (i + 1) = sm (woF (M 106) z) i + woF (M 106) z i := rfl
    rw [e2] at nx
    refine X6_weightOf_4 C hR z _ _ M ⟨⟨⟨by omega, by omega⟩, by omega, by omega⟩, fun h => absurd h (by omega), fun h => ⟨⟨hz, by omega, by omega⟩, ⟨by omega, by omega⟩, fun h0 w hw2 => ?_, fun h0 => ⟨_, c6_weight ⟨by omega, by omega⟩, ?_⟩⟩⟩
    · rw [hw2]
      unfold woF at nx ⊢
      rw [if_neg h0] at nx
      exact nx
    · intro r M1 hr
      obtain ⟨rfl, rfl⟩ := hr
      intro w hw2
      rw [hw2]
      unfold woF at nx ⊢
      rw [if_pos h0] at nx
      exact nx
set_option maxRecDepth 10000 in
set_option maxHeartbeats 1000000 in
theorem c6_weightOf {l : Launch} {g : Gg} {M : Mm} {z : Int} (hw : WF (M 106)) (hz : 0 ≤ z ∧ z < 2147483648) : Ct l g mX6_weightOf [vr g 105, vi z] M (fun r M2 => r = sm (woF (M 106) z) (M 106 6).toNat ∧ M2 = M) := by
  refine ct_of (by decide) (Nat.le_of_ble_eq_true rfl) ?_
  intro x hl hg C hR
  subst hl
  subst hg
  exact X6_weightOf_0 C hR z M (c6_weightOf_l C hR hw hz ⟨rfl, rfl⟩ (M 106 6).toNat 0 (by omega))
theorem setB_i {P : Int → Bool} {n : Nat} (h : n ≤ 10) : 0 ≤ ((setB P n : Nat) : Int) ∧ ((setB P n : Nat) : Int) < 2147483648 := by
  have h1 := setB_lt P n
  have h2 : 2 ^ n ≤ 2 ^ 10 := Nat.pow_le_pow_right (by decide) h
  omega
set_option maxRecDepth 10000 in
set_option maxHeartbeats 1000000 in
theorem c6_paid {l : Launch} {g : Gg} {M : Mm} {ll f : Int} (hw : WF (M 106)) (hl : 0 ≤ ll ∧ ll ≤ 1000) (hf : 0 ≤ f ∧ f ≤ 1000) : Ct l g mX6_paid [vr g 105, vi ll, vi f] M (fun r M2 => r = tl (M 106) ll f ∧ M2 = M) := by
  refine ct_of (by decide) (Nat.le_of_ble_eq_true rfl) ?_
  intro x hl hg C hR
  subst hl
  subst hg
  have h6 := hw.2.2.2.2.2.2.1
  refine X6_paid_0 C hR ll f M ⟨_, c6_between hw hl hf (Or.inl rfl), ?_⟩
  rintro r M1 ⟨rfl, rfl⟩
  refine ⟨_, c6_weightOf hw (setB_i (by omega)), ?_⟩
  rintro r M1 ⟨rfl, rfl⟩
  refine ⟨_, c6_between hw hl hf (Or.inr rfl), ?_⟩
  rintro r M1 ⟨rfl, rfl⟩
  refine ⟨_, c6_weightOf hw (setB_i (by omega)), ?_⟩
  rintro r M1 ⟨rfl, rfl⟩
  refine ⟨?_, rfl⟩
  rw [← sm_add]
  refine sm_cong (fun k hk => ?_)
  unfold woF tlF
  rw [Int.toNat_natCast]
  have a1 := setB_bit (bwP (M1 106) ll f 0) hk
  have a2 := setB_bit (bwP (M1 106) ll f 1) hk
  by_cases q1 : due (M1 106) (k : Int) < ll <;> by_cases q2 : (k : Int) < f
  · rw [if_neg (fun z => by have := a1.mp z; simp [bwP] at this; omega), if_neg (fun z => by have := a2.mp z; simp [bwP] at this; omega), if_pos (by simp [q1, q2])]
    rfl
  · rw [if_pos (a1.mpr (by simp [bwP, q1]; omega)), if_neg (fun z => by have := a2.mp z; simp [bwP] at this; omega), if_neg (by simp [q1, q2])]
    omega
  · rw [if_neg (fun z => by have := a1.mp z; simp [bwP] at this; omega), if_pos (a2.mpr (by simp [bwP]; omega)), if_neg (by simp [q1, q2])]
    omega
  · rw [if_neg (fun z => by have := a1.mp z; simp [bwP] at this; omega), if_neg (fun z => by have := a2.mp z; simp [bwP] at this; omega), if_pos (by simp [q1, q2])]
    rfl
theorem lb_bd {s : Sg} (h : WF s) {ll f n : Int} (hl : 0 ≤ ll ∧ ll ≤ s 0) (hf : 0 ≤ f) (hn : 0 ≤ n ∧ n ≤ 10 ∧ f + n ≤ s 6) : -800 ≤ lb s ll f n ∧ lb s ll f n ≤ s 0 := by
  have h0 := h.1
  have hrm := rm_bd h
  have hb := tk_bd h (n := n.toNat) hf (by omega)
  unfold lb
  split <;> omega
set_option maxRecDepth 10000 in
set_option maxHeartbeats 1000000 in
theorem c6_isPage {l : Launch} {g : Gg} {M : Mm} {ll f n : Int} (hw : WF (M 106)) (hl : 0 ≤ ll ∧ ll ≤ M 106 0) (hf : 0 ≤ f ∧ f ≤ M 106 6) (hn : 0 ≤ n ∧ n ≤ 1000) : Ct l g mX6_isPage [vr g 105, vi ll, vi f, vi n] M (fun r M2 => r = b2 (pgB (M 106) ll f n) ∧ M2 = M) := by
  refine ct_of (by decide) (Nat.le_of_ble_eq_true rfl) ?_
  intro x hl hg C hR
  subst hl
  subst hg
  have h0 := hw.1
  have h5 := hw.2.2.2.2.2.1
  have h6 := hw.2.2.2.2.2.2.1
  refine X6_isPage_0 C hR ll f n M ⟨⟨⟨by omega, by omega⟩, by omega, by omega⟩, fun h => ⟨?_, rfl⟩, fun h => ⟨_, c6_isFit hw hf.1 ⟨by omega, by omega, by omega⟩, ?_⟩⟩
  · unfold pgB
    rw [decide_eq_false (by omega)]
    rfl
  rintro r M1 ⟨rfl, rfl⟩
  have hle : f + n ≤ M1 106 6 := by omega
  have hlb := lb_bd hw hl hf.1 (n := n) ⟨by omega, by omega, by omega⟩
  refine ⟨by unfold b2; split <;> decide, fun h1 => ⟨_, c6_linesBehind hw ⟨by omega, by omega⟩ hf.1 ⟨by omega, by omega, by omega⟩, ?_⟩, fun h1 => ⟨?_, rfl⟩⟩
  · rintro r M2 ⟨rfl, rfl⟩
    have hfit : fitB (M2 106) f n = true := by
      cases hq : fitB (M2 106) f n with
      | true => rfl
      | false => rw [hq] at h1; exact absurd rfl h1
    refine ⟨⟨by omega, by omega⟩, fun h2 => ⟨?_, rfl⟩, fun h2 => ⟨⟨by omega, by omega⟩, fun h3 => ⟨?_, rfl⟩, fun h3 => ⟨⟨by omega, by omega⟩, fun h4 => ⟨?_, rfl⟩, fun h4 => ⟨_, c6_areMentioned hw hf.1 ⟨by omega, by omega, by omega⟩ ⟨by omega, by omega⟩, ?_⟩⟩⟩⟩
    · have : ¬ 0 < lb (M2 106) ll f n - ll + n := by omega
      simp [pgB, this, b2]
    · have e : 0 < lb (M2 106) ll f n - ll + n := by omega
      simp [pgB, hle, hfit, e, h3, b2]
    · have e : 0 < lb (M2 106) ll f n - ll + n := by omega
      simp [pgB, hle, hfit, e, h4, b2]
    · rintro r M3 ⟨rfl, rfl⟩
      have e : 0 < lb (M3 106) ll f n - ll + n := by omega
      refine ⟨by unfold b2; split <;> decide, fun h5 => ⟨?_, rfl⟩, fun h5 => ⟨?_, rfl⟩⟩
      · cases hq : amB (M3 106) f (lb (M3 106) ll f n) n.toNat with
        | true => rw [hq] at h5; cases h5
        | false => simp [pgB, h3, h4, hq, b2]
      · cases hq : amB (M3 106) f (lb (M3 106) ll f n) n.toNat with
        | true => simp [pgB, hle, hfit, e, hq, b2]
        | false => rw [hq] at h5; exact absurd rfl h5
  · cases hq : fitB (M1 106) f n with
    | true => rw [hq] at h1; cases h1
    | false => simp [pgB, hq, b2]
