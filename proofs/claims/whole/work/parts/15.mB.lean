/-! ===== the reference: the tables of the least ===== -/
def Fr3 (M M2 : Mm) : Prop := ∀ a, a ≠ 112 → a ≠ 113 → a ≠ 114 → M2 a = M a
theorem Fr3.rf (M : Mm) : Fr3 M M := fun _ _ _ _ => rfl
theorem Fr3.tr {A B D : Mm} (h : Fr3 A B) (k : Fr3 B D) : Fr3 A D := fun a h1 h2 h3 => (k a h1 h2 h3).trans (h a h1 h2 h3)
def Ent (s : Sg) (M : Mm) (ll f : Int) (v : Vt) : Prop := M 112 (11 * ll + f) = v.1 ∧ M 113 (11 * ll + f) = v.2.1 ∧ M 114 (11 * ll + f) = v.2.2.1
/-- the tables hold the least at every place behind (l, f) -/
def Tb (s : Sg) (M : Mm) (ll f : Int) : Prop := ∀ a b : Int, 0 ≤ a → a ≤ s 0 → 0 ≤ b → b ≤ s 6 → (ll < a ∨ (ll = a ∧ f < b)) → Ent s M a b (VV s a b)
theorem mu_ne {M : Mm} {k a : Nat} {i v : Int} (h : a ≠ k) : mu M k i v a = M a := by funext b; simp [mu, h]
theorem mu_at {M : Mm} {k : Nat} {i v : Int} : mu M k i v k i = v := by simp [mu]
theorem mu_off {M : Mm} {k : Nat} {i j v : Int} (h : j ≠ i) : mu M k i v k j = M k j := by simp [mu, h]
theorem b2_inR (b : Bool) : inR (b2 b) := by cases b <;> decide
theorem b2_nz {b : Bool} (h : ¬ b2 b = 0) : b = true := by cases b <;> simp_all [b2]
theorem b2_z {b : Bool} (h : b2 b = 0) : b = false := by cases b <;> simp_all [b2]
theorem clash_lt (s : Sg) : ∀ n : Nat, clash s n = -1 ∨ (0 ≤ clash s n ∧ clash s n < n)
  | 0 => Or.inl rfl
  | n + 1 => by
    have := clash_lt s n
    simp only [clash]
    split <;> omega
theorem clash_none {s : Sg} : ∀ {n : Nat}, clash s n = -1 → ∀ k : Nat, k < n → fitB s k 1 = true
  | 0, _, k, h => absurd h (by omega)
  | n + 1, h, k, hk => by
    simp only [clash] at h
    split at h
    · omega
    · rename_i hne
      rcases Nat.lt_or_ge k n with q | q
      · exact clash_none h k q
      · have : k = n := by omega
        subst this
        cases hb : fitB s k 1 with
        | true => rfl
        | false => exact absurd ⟨h, hb⟩ hne
theorem clash_some {s : Sg} : ∀ {n : Nat}, clash s n ≠ -1 → ∃ k : Nat, k < n ∧ clash s n = (k : Int) ∧ fitB s k 1 = false
  | 0, h => absurd rfl h
  | n + 1, h => by
    simp only [clash] at h ⊢
    split
    · rename_i hq
      exact ⟨n, by omega, rfl, hq.2⟩
    · rename_i hq
      rw [if_neg hq] at h
      obtain ⟨k, h1, h2, h3⟩ := clash_some h
      exact ⟨k, by omega, h2, h3⟩
theorem clash_keep {s : Sg} : ∀ {n m : Nat}, clash s n ≠ -1 → n ≤ m → clash s m = clash s n
  | n, m, h, hle => by
    induction m with
    | zero => have : n = 0 := by omega
              subst this; rfl
    | succ m ih =>
      rcases Nat.lt_or_ge n (m + 1) with q | q
      · have := ih (by omega)
        simp only [clash]
        rw [if_neg (fun z => h (by rw [← this]; exact z.1)), this]
      · have : n = m + 1 := by omega
        subst this
        rfl
set_option maxRecDepth 10000 in
set_option maxHeartbeats 1000000 in
theorem c6_clashing_l {x : Xx} {post : Int → Mm → Prop} (C : Cx x mX6_clashing) (hR : Rt x mX6_clashing post) {M : Mm} (hw : WF (M 106)) (hp : post (clash (M 106) (M 106 6).toNat) M) : ∀ (d i : Nat), i + d = (M 106 6).toNat → clash (M 106) i = -1 → Gx x 2 2 [(0, vr (xg x) 105), (1, vi (i : Int))] [] M := by
  have h6 := hw.2.2.2.2.2.2.1
  intro d
  induction d with
  | zero =>
    intro i hi hc
    refine X6_clashing_2 C hR _ M ⟨⟨⟨by omega, by omega⟩, by omega, by omega⟩, fun _ => ?_, fun h => absurd h (by omega)⟩
    have : i = (M 106 6).toNat := by omega
    subst this
    rw [← hc]
    exact hp
  | succ d ih =>
    intro i hi hc
    refine X6_clashing_2 C hR _ M ⟨⟨⟨by omega, by omega⟩, by omega, by omega⟩, fun h => absurd h (by omega), fun h => ⟨_, c6_isFit hw (by omega) ⟨by omega, by omega, by omega⟩, ?_⟩⟩
    rintro r M1 ⟨rfl, rfl⟩
    refine ⟨b2_inR _, fun h0 => ?_, fun h0 => ?_⟩
    · refine ih (i + 1) (by omega) ?_
      simp only [clash]
      rw [if_neg (fun z => by rw [b2_nz h0] at z; exact absurd z.2 (by decide))]
      exact hc
    · have e1 : clash (M1 106) (i + 1) = (i : Int) := by
        simp only [clash]
        rw [if_pos ⟨hc, b2_z h0⟩]
      have e2 : clash (M1 106) (M1 106 6).toNat = (i : Int) := by
        rw [clash_keep (n := i + 1) (by rw [e1]; omega) (by omega), e1]
      rw [← e2]
      exact hp
set_option maxRecDepth 10000 in
set_option maxHeartbeats 1000000 in
theorem c6_clashing {l : Launch} {g : Gg} {M : Mm} (hw : WF (M 106)) : Ct l g mX6_clashing [vr g 105] M (fun r M2 => r = clash (M 106) (M 106 6).toNat ∧ M2 = M) := by
  refine ct_of (by decide) (Nat.le_of_ble_eq_true rfl) ?_
  intro x hl hg C hR
  subst hl
  subst hg
  exact X6_clashing_0 C hR M (c6_clashing_l C hR hw ⟨rfl, rfl⟩ (M 106 6).toNat 0 (by omega) rfl)
def LInv (s : Sg) (M M2 : Mm) (ll f : Int) (v : Vt) : Prop := Fr3 M M2 ∧ Tb s M2 ll f ∧ Ent s M2 ll f v
theorem tb_mu {s : Sg} {M : Mm} {ll f : Int} (h : Tb s M ll f) (h6 : 0 ≤ f ∧ s 6 ≤ 10 ∧ f ≤ s 6) (cc ss w : Int) : Tb s (mu (mu (mu M 114 (11 * ll + f) w) 113 (11 * ll + f) ss) 112 (11 * ll + f) cc) ll f := by
  intro a b h1 h2 h3 h4 h5
  have e := h a b h1 h2 h3 h4 h5
  have hne : 11 * a + b ≠ 11 * ll + f := by omega
  unfold Ent at e ⊢
  rw [mu_off hne, mu_ne (by decide), mu_ne (by decide), mu_ne (by decide), mu_off hne, mu_ne (by decide), mu_ne (by decide), mu_ne (by decide), mu_off hne]
  exact e
theorem ent_mu {s : Sg} {M : Mm} {ll f : Int} (cc ss w : Int) (z : Int) : Ent s (mu (mu (mu M 114 (11 * ll + f) w) 113 (11 * ll + f) ss) 112 (11 * ll + f) cc) ll f (cc, ss, w, z) := by
  unfold Ent
  rw [mu_at, mu_ne (by decide), mu_at, mu_ne (by decide), mu_ne (by decide), mu_at]
  exact ⟨rfl, rfl, rfl⟩
theorem fr_mu {M A : Mm} {i : Int} (h : Fr3 M A) (cc ss w : Int) : Fr3 M (mu (mu (mu A 114 i w) 113 i ss) 112 i cc) := by
  intro a h1 h2 h3
  rw [mu_ne h1, mu_ne h2, mu_ne h3]
  exact h a h1 h2 h3
set_option maxRecDepth 10000 in
set_option maxHeartbeats 1000000 in
theorem c6_layPlace_l {x : Xx} {post : Int → Mm → Prop} (C : Cx x mX6_layPlace) (hR : Rt x mX6_layPlace post) {M : Mm} {s : Sg} (hw : WF s) (hs : M 106 = s) {ll f : Int} (hl : 0 ≤ ll ∧ ll ≤ s 0) (hf : 0 ≤ f ∧ f ≤ s 6) (hp : ∀ M2, LInv s M M2 ll f (fld s (VV s) ll f ((s 4).toNat + 1)) → post 0 M2) : ∀ (d k : Nat), k + d = (s 4).toNat + 1 → ∀ M2, LInv s M M2 ll f (fld s (VV s) ll f k) → Gx x 11 78 [(0, vr (xg x) 105), (1, vi ll), (2, vi f), (3, vi (11 * ll + f)), (4, vi 0), (5, vi (k : Int))] [] M2 := by
  have h0 := hw.1
  have h4 := hw.2.2.2.2.1
  have h6 := hw.2.2.2.2.2.2.1
  intro d
  induction d with
  | zero =>
    intro k hk M2 hI
    have e6 : M2 106 = s := (hI.1 106 (by decide) (by decide) (by decide)).trans hs
    refine X6_layPlace_78 C hR ll f _ 0 _ M2 ⟨⟨⟨by omega, by omega⟩, by rw [e6]; omega, by rw [e6]; omega⟩, fun _ => ?_, fun h => absurd h (by rw [e6]; omega)⟩
    have : k = (s 4).toNat + 1 := by omega
    subst this
    exact hp M2 hI
  | succ d ih =>
    intro k hk M2 hI
    have e6 : M2 106 = s := (hI.1 106 (by decide) (by decide) (by decide)).trans hs
    have hw2 : WF (M2 106) := by rw [e6]; exact hw
    have next : ∀ M3, LInv s M M3 ll f (fld s (VV s) ll f (k + 1)) → Gx x 11 78 [(0, vr (xg x) 105), (1, vi ll), (2, vi f), (3, vi (11 * ll + f)), (4, vi 0), (5, vi ((k : Int) + 1))] [] M3 := fun M3 h3 => ih (k + 1) (by omega) M3 h3
    refine X6_layPlace_78 C hR ll f _ 0 _ M2 ⟨⟨⟨by omega, by omega⟩, by rw [e6]; omega, by rw [e6]; omega⟩, fun h => absurd h (by rw [e6]; omega), fun h => ⟨by decide, fun h => absurd rfl h, fun _ => ⟨_, c6_isPage hw2 (by rw [e6]; exact hl) (by rw [e6]; exact hf) ⟨by omega, by omega⟩, ?_⟩⟩⟩
    rintro r M3 ⟨rfl, rfl⟩
    rw [e6]
    refine ⟨b2_inR _, fun hz => ?_, fun hz => ?_⟩
    · refine next M3 ?_
      have e : fld s (VV s) ll f (k + 1) = fld s (VV s) ll f k := by
        simp only [fld, stp, b2_z hz]
        simp
      rw [e]
      exact hI
    have hpg := b2_nz hz
    have p := pg_facts hw hl hf.1 (n := (k : Int)) ⟨by omega, by omega⟩ hpg
    refine ⟨_, c6_linesBehind hw2 ⟨by omega, by omega⟩ hf.1 ⟨by omega, by omega, by rw [e6]; omega⟩, ?_⟩
    rintro r M4 ⟨rfl, rfl⟩
    rw [e6]
    generalize hto : lb s ll f (k : Int) = to at p
    intro w hwq
    have ew : w = 11 * to + (f + (k : Int)) := by omega
    have hent := hI.2.1 to (f + (k : Int)) (by omega) (by omega) (by omega) (by omega) (by omega)
    have hv := VV_ok hw (ll := to) (f := f + (k : Int)) (by omega) (by omega)
    have ha := fldV_ok hw hl hf.1 k (by omega)
    have ht := sm_bound3 hw (ll := to) (f := f + (k : Int))
    have hse := hI.2.2
    unfold Ent at hent hse
    rw [← ew] at hent
    have hfl : fld s (VV s) ll f (k + 1) = stp s (VV s) ll f (fld s (VV s) ll f k) (k : Int) := rfl
    unfold stp at hfl
    simp only [hpg, if_true, hto] at hfl
    generalize hA : fld s (VV s) ll f k = a at ha hse hfl
    generalize hB : VV s to (f + (k : Int)) = v at hv hent hfl
    unfold Vok at hv ha
    generalize hb : (if v.1 = 100000000 then (100000000 : Int) else v.1 + tl s to (f + (k : Int))) = b at hfl
    have hbb : 0 ≤ b ∧ b ≤ 100000000 := by
      rw [← hb]
      split <;> omega
    -- from the end back
    have fin : ∀ (u w2 : Int) (t : Int), (u = 0 ∨ u = 1) → (u = 1 ↔ (b < a.1 ∨ (b < 100000000 ∧ b = a.1 ∧ v.2.1 + 1 < a.2.1))) → w2 = (fld s (VV s) ll f (k + 1)).2.2.1 → Gx x 11 309 [(0, vr (xg x) 105), (1, vi ll), (2, vi f), (3, vi (11 * ll + f)), (4, vi 0), (5, vi (k : Int)), (7, vi w), (8, vi b), (10, vi u)] [vl w2, vi (11 * ll + f), vr (xg x) 114] M4 := by
      intro u w2 _ hu he hw3
      have good : ∀ cc ss, cc = (fld s (VV s) ll f (k + 1)).1 → ss = (fld s (VV s) ll f (k + 1)).2.1 → LInv s M (mu (mu (mu M4 114 (11 * ll + f) w2) 113 (11 * ll + f) ss) 112 (11 * ll + f) cc) ll f (fld s (VV s) ll f (k + 1)) := by
        intro cc ss hcc hss
        refine ⟨fr_mu hI.1 cc ss w2, tb_mu hI.2.1 ⟨hf.1, by omega, hf.2⟩ cc ss w2, ?_⟩
        have := ent_mu (s := s) (M := M4) (ll := ll) (f := f) cc ss w2 (fld s (VV s) ll f (k + 1)).2.2.2
        rw [hcc, hss, hw3] at this ⊢
        exact this
      refine X6_layPlace_309 C hR ll f _ 0 _ w b u w2 _ M4 ⟨⟨by omega, by omega⟩, fun M5 h5 => ⟨⟨by omega, by omega⟩, fun hu0 => ⟨⟨by omega, by omega⟩, ?_⟩, fun hu0 => ⟨⟨by omega, by omega⟩, ?_⟩⟩⟩
      · refine X6_layPlace_338 C hR ll f _ 0 _ b u _ _ M5 ⟨⟨by omega, by omega⟩, fun M6 h6 => ⟨⟨by omega, by omega⟩, fun _ => ⟨⟨by omega, by omega⟩, ⟨by omega, by omega⟩, fun M7 h7 => next M7 ?_⟩, fun h => absurd hu0 h⟩⟩
        rw [h7, h6, h5]
        have hnl : ¬ (b < a.1 ∨ (b < 100000000 ∧ b = a.1 ∧ v.2.1 + 1 < a.2.1)) := fun z => by have := he.mpr z; omega
        have hl0 : (decide (b < a.1) || (decide (b < 100000000) && (decide (b = a.1) && decide (v.2.1 + 1 < a.2.1)))) = false := by
          cases hq : (decide (b < a.1) || (decide (b < 100000000) && (decide (b = a.1) && decide (v.2.1 + 1 < a.2.1)))) with
          | false => rfl
          | true => exact absurd (by simpa using hq) hnl
        rw [hl0] at hfl
        simp only [Bool.false_eq_true, if_false] at hfl
        refine good _ _ ?_ ?_
        · rw [mu_ne (by decide), mu_ne (by decide), hse.1, hfl]
        · rw [mu_ne (by decide), hse.2.1, hfl]
      · refine X6_layPlace_338 C hR ll f _ 0 _ b u _ _ M5 ⟨⟨by omega, by omega⟩, fun M6 h6 => ⟨⟨by omega, by omega⟩, fun h => absurd h hu0, fun _ => ⟨⟨by omega, by omega⟩, fun M7 h7 => next M7 ?_⟩⟩⟩
        rw [h7, h6, h5]
        have hl1 : (decide (b < a.1) || (decide (b < 100000000) && (decide (b = a.1) && decide (v.2.1 + 1 < a.2.1)))) = true := by
          have := he.mp (by omega)
          simpa using this
        rw [hl1] at hfl
        simp only [if_true] at hfl
        refine good _ _ ?_ ?_
        · rw [hfl]
        · rw [mu_ne (by decide), hent.2.1, hfl]
    have mid : ∀ t u : Int, (t = 0 ∨ t = 1) → (t = 1 ↔ (b < 100000000 ∧ b = a.1 ∧ v.2.1 + 1 = a.2.1)) → (u = 0 ∨ u = 1) → (u = 1 ↔ (b < a.1 ∨ (b < 100000000 ∧ b = a.1 ∧ v.2.1 + 1 < a.2.1))) → Gx x 11 259 [(0, vr (xg x) 105), (1, vi ll), (2, vi f), (3, vi (11 * ll + f)), (4, vi 0), (5, vi (k : Int)), (7, vi w), (8, vi b), (9, vi t)] [vi u] M4 := by
      intro t u ht hte hu hue
      have l1 : (decide (b < a.1) || (decide (b < 100000000) && (decide (b = a.1) && decide (v.2.1 + 1 < a.2.1)))) = decide (u = 1) := by
        rw [Bool.eq_iff_iff]
        simp only [Bool.or_eq_true, Bool.and_eq_true, decide_eq_true_eq]
        exact hue.symm
      have l2 : (decide (b < 100000000) && (decide (b = a.1) && decide (v.2.1 + 1 = a.2.1))) = decide (t = 1) := by
        rw [Bool.eq_iff_iff]
        simp only [Bool.and_eq_true, decide_eq_true_eq]
        exact hte.symm
      have hw3 := congrArg (fun q : Vt => q.2.2.1) hfl
      simp only [l1, l2] at hw3
      refine X6_layPlace_259 C hR ll f _ 0 _ w b t u M4 ⟨⟨by omega, by omega⟩, fun hu0 => ⟨⟨by omega, by omega⟩, fun ht0 => ⟨⟨by omega, by omega⟩, fin u _ t hu hue ?_⟩, fun ht0 => ⟨⟨by omega, by omega⟩, ⟨by omega, by omega⟩, fin u _ t hu hue ?_⟩⟩, fun hu0 => ⟨⟨by omega, by omega⟩, fin u _ t hu hue ?_⟩⟩
      · rw [hw3, hse.2.2, decide_eq_false (by omega), decide_eq_false (by omega)]
        simp
      · rw [hw3, hse.2.2, hent.2.2, decide_eq_false (by omega), decide_eq_true (by omega)]
        simp
      · rw [hw3, hent.2.2, decide_eq_true (by omega)]
        simp
    have top2 : ∀ t : Int, (t = 0 ∨ t = 1) → (t = 1 ↔ (b < 100000000 ∧ b = a.1 ∧ v.2.1 + 1 = a.2.1)) → Gx x 11 205 [(0, vr (xg x) 105), (1, vi ll), (2, vi f), (3, vi (11 * ll + f)), (4, vi 0), (5, vi (k : Int)), (7, vi w), (8, vi b)] [vi t] M4 := by
      intro t ht hte
      refine X6_layPlace_205 C hR ll f _ 0 _ w b t M4 ⟨⟨by omega, by omega⟩, ⟨⟨by omega, by omega⟩, by rw [hse.1]; omega, by rw [hse.1]; omega⟩, fun q => mid t 1 ht hte (Or.inr rfl) ⟨fun _ => Or.inl (by rw [hse.1] at q; exact q), fun _ => rfl⟩, fun q => ?_⟩
      rw [hse.1] at q ⊢
      refine ⟨⟨by omega, by omega⟩, fun q2 => mid t 0 ht hte (Or.inl rfl) (by omega), fun q2 => ⟨⟨by omega, by omega⟩, ⟨⟨by omega, by omega⟩, by omega, by omega⟩, fun q3 => mid t 0 ht hte (Or.inl rfl) (by omega), fun q3 => ?_⟩⟩
      rw [hse.2.1, hent.2.1]
      refine ⟨⟨by omega, by omega⟩, ⟨by omega, by omega⟩, ⟨⟨by omega, by omega⟩, by omega, by omega⟩, fun q4 => mid t 0 ht hte (Or.inl rfl) (by omega), fun q4 => mid t 1 ht hte (Or.inr rfl) ⟨fun _ => Or.inr ⟨by omega, q3, by omega⟩, fun _ => rfl⟩⟩
    have top : Gx x 11 162 [(0, vr (xg x) 105), (1, vi ll), (2, vi f), (3, vi (11 * ll + f)), (4, vi 0), (5, vi (k : Int)), (7, vi w)] [vi b] M4 := by
      refine X6_layPlace_162 C hR ll f _ 0 _ w b M4 ⟨⟨by omega, by omega⟩, fun q => top2 0 (Or.inl rfl) (by omega), fun q => ⟨⟨by omega, by omega⟩, ?_⟩⟩
      rw [hse.1]
      refine ⟨⟨⟨by omega, by omega⟩, by omega, by omega⟩, fun q2 => top2 0 (Or.inl rfl) (by omega), fun q2 => ⟨⟨by omega, by omega⟩, ⟨by omega, by omega⟩, ?_⟩⟩
      rw [hse.2.1, hent.2.1]
      refine ⟨⟨⟨by omega, by omega⟩, by omega, by omega⟩, fun q3 => top2 0 (Or.inl rfl) (by omega), fun q3 => top2 1 (Or.inr rfl) ⟨fun _ => ⟨by omega, q2, q3⟩, fun _ => rfl⟩⟩
    refine ⟨⟨by omega, by omega⟩, ?_⟩
    rw [hent.1]
    refine ⟨⟨by omega, by omega⟩, fun q => ⟨⟨by omega, by omega⟩, ?_⟩, fun q => ?_⟩
    · refine ⟨_, c6_paid hw2 ⟨by omega, by omega⟩ ⟨by omega, by omega⟩, ?_⟩
      rintro r M5 ⟨rfl, rfl⟩
      rw [e6]
      rw [if_neg q] at hb
      rw [hb]
      exact top
    · rw [if_pos q] at hb
      rw [hb]
      exact top
set_option maxRecDepth 10000 in
set_option maxHeartbeats 1000000 in
theorem c6_layPlace {l : Launch} {g : Gg} {M : Mm} {ll f : Int} (hw : WF (M 106)) (hl : 0 ≤ ll ∧ ll ≤ M 106 0) (hf : 0 ≤ f ∧ f ≤ M 106 6) (hT : Tb (M 106) M ll f) : Ct l g mX6_layPlace [vr g 105, vi ll, vi f] M (fun r M2 => LInv (M 106) M M2 ll f (VV (M 106) ll f)) := by
  refine ct_of (by decide) (Nat.le_of_ble_eq_true rfl) ?_
  intro x hl hg C hR
  subst hl
  subst hg
  have h0 := hw.1
  have h4 := hw.2.2.2.2.1
  have h6 := hw.2.2.2.2.2.2.1
  have hV := VV_eq hw hl hf
  have run : ∀ M1, Fr3 M M1 → Tb (M 106) M1 ll f → Ent (M 106) M1 ll f (100000000, 0, 0, 0) → ¬ (ll = M 106 0 ∧ f = M 106 6) → Gx x 11 78 [(0, vr (xg x) 105), (1, vi ll), (2, vi f), (3, vi (11 * ll + f)), (4, vi 0), (5, vi 0)] [] M1 := by
    intro M1 h1 h2 h3 hne
    refine c6_layPlace_l C hR hw rfl hl hf ?_ ((M 106 4).toNat + 1) 0 (by omega) M1 ⟨h1, h2, h3⟩
    intro M2 hI
    rw [hV, if_neg hne]
    exact hI
  have start : ∀ e c0 w0 : Int, (e = 0 ∧ c0 = 100000000 ∧ w0 = 0 ∧ ¬ (ll = M 106 0 ∧ f = M 106 6)) ∨ (e = 1 ∧ c0 = 0 ∧ w0 = 1 ∧ (ll = M 106 0 ∧ f = M 106 6)) → Gx x 11 51 [(0, vr (xg x) 105), (1, vi ll), (2, vi f), (3, vi (11 * ll + f)), (4, vi e)] [vi c0, vi (11 * ll + f), vr (xg x) 112] M := by
    intro e c0 w0 hc
    have fr : ∀ w, Fr3 M (mu (mu (mu M 112 (11 * ll + f) c0) 113 (11 * ll + f) 0) 114 (11 * ll + f) w) := by
      intro w a h1 h2 h3
      rw [mu_ne h3, mu_ne h2, mu_ne h1]
    have tb : ∀ w, Tb (M 106) (mu (mu (mu M 112 (11 * ll + f) c0) 113 (11 * ll + f) 0) 114 (11 * ll + f) w) ll f := by
      intro w a b h1 h2 h3 h4 h5
      have e := hT a b h1 h2 h3 h4 h5
      have hne : 11 * a + b ≠ 11 * ll + f := by omega
      unfold Ent at e ⊢
      rw [mu_ne (by decide), mu_ne (by decide), mu_off hne, mu_ne (by decide), mu_off hne, mu_ne (by decide), mu_off hne, mu_ne (by decide), mu_ne (by decide)]
      exact e
    have en : ∀ w z, Ent (M 106) (mu (mu (mu M 112 (11 * ll + f) c0) 113 (11 * ll + f) 0) 114 (11 * ll + f) w) ll f (c0, 0, w, z) := by
      intro w z
      unfold Ent
      rw [mu_ne (by decide), mu_ne (by decide), mu_at, mu_ne (by decide), mu_at, mu_at]
      exact ⟨rfl, rfl, rfl⟩
    refine X6_layPlace_51 C hR ll f _ e c0 _ M ⟨⟨by omega, by omega⟩, fun M5 h5 => ⟨⟨by omega, by omega⟩, fun M6 h6 => ⟨⟨by omega, by omega⟩, fun q => ⟨⟨by omega, by omega⟩, fun M7 h7 => ?_⟩, fun q => ⟨⟨by omega, by omega⟩, fun M7 h7 => ?_⟩⟩⟩⟩
    · rcases hc with ⟨rfl, rfl, rfl, hne⟩ | ⟨rfl, -⟩
      · rw [h7, h6, h5]
        exact run _ (fr 0) (tb 0) (en 0 0) hne
      · exact absurd q (by decide)
    · rcases hc with ⟨rfl, -⟩ | ⟨rfl, rfl, rfl, hne⟩
      · exact absurd rfl q
      · rw [h7, h6, h5]
        have e6 : (mu (mu (mu M 112 (11 * ll + f) 0) 113 (11 * ll + f) 0) 114 (11 * ll + f) 1) 106 = M 106 := by rw [mu_ne (by decide), mu_ne (by decide), mu_ne (by decide)]
        have fin : LInv (M 106) M (mu (mu (mu M 112 (11 * ll + f) 0) 113 (11 * ll + f) 0) 114 (11 * ll + f) 1) ll f (VV (M 106) ll f) := by
          rw [hV, if_pos hne]
          exact ⟨fr 1, tb 1, en 1 0⟩
        refine X6_layPlace_78 C hR ll f _ 1 0 _ ⟨⟨by decide, by rw [e6]; omega, by rw [e6]; omega⟩, fun _ => fin, fun _ => ⟨by decide, fun _ => fin, fun h => absurd h (by decide)⟩⟩
  refine X6_layPlace_0 C hR ll f M (fun w hwq => ?_)
  subst hwq
  refine ⟨⟨⟨by omega, by omega⟩, by omega, by omega⟩, fun q => start 0 _ 0 (Or.inl ⟨rfl, rfl, rfl, fun z => q z.1⟩), fun q => ⟨⟨⟨by omega, by omega⟩, by omega, by omega⟩, fun q2 => start 0 _ 0 (Or.inl ⟨rfl, rfl, rfl, fun z => q2 z.2⟩), fun q2 => start 1 _ 1 (Or.inr ⟨rfl, rfl, rfl, q, q2⟩)⟩⟩
set_option maxRecDepth 10000 in
set_option maxHeartbeats 1000000 in
theorem c6_lay_i {x : Xx} {post : Int → Mm → Prop} (C : Cx x mX6_lay) (hR : Rt x mX6_lay post) {M : Mm} {s : Sg} (hw : WF s) (hs : M 106 = s) {ll : Int} (hl : 0 ≤ ll ∧ ll ≤ s 0) (hp : ∀ M2, Fr3 M M2 → Tb s M2 ll (-1) → Gx x 3 7 [(0, vr (xg x) 105), (1, vi (ll + (-1)))] [] M2) : ∀ (d : Nat) (f : Int), f + 1 = (d : Int) → f ≤ s 6 → ∀ M2, Fr3 M M2 → Tb s M2 ll f → Gx x 3 19 [(0, vr (xg x) 105), (1, vi ll), (2, vi f)] [] M2 := by
  have h0 := hw.1
  have h6 := hw.2.2.2.2.2.2.1
  intro d
  induction d with
  | zero =>
    intro f hf hf2 M2 h1 h2
    have : f = -1 := by omega
    subst this
    exact X6_lay_19 C hR ll _ M2 ⟨by decide, fun _ => hp M2 h1 h2, fun h => absurd (by decide) h⟩
  | succ d ih =>
    intro f hf hf2 M2 h1 h2
    have e6 : M2 106 = s := (h1 106 (by decide) (by decide) (by decide)).trans hs
    refine X6_lay_19 C hR ll f M2 ⟨⟨by omega, by omega⟩, fun h => absurd h (by omega), fun h => ⟨_, c6_layPlace (by rw [e6]; exact hw) (by rw [e6]; exact hl) (by rw [e6]; exact ⟨by omega, hf2⟩) (by rw [e6]; exact h2), ?_⟩⟩
    intro r M3 hI
    rw [e6] at hI
    refine ih (f + (-1)) (by omega) (by omega) M3 (h1.tr hI.1) ?_
    intro a b q1 q2 q3 q4 q5
    rcases (show (ll < a ∨ (ll = a ∧ f < b)) ∨ (ll = a ∧ f = b) by omega) with q | ⟨rfl, rfl⟩
    · exact hI.2.1 a b q1 q2 q3 q4 q
    · exact hI.2.2
set_option maxRecDepth 10000 in
set_option maxHeartbeats 1000000 in
theorem c6_lay_o {x : Xx} {post : Int → Mm → Prop} (C : Cx x mX6_lay) (hR : Rt x mX6_lay post) {M : Mm} {s : Sg} (hw : WF s) (hs : M 106 = s) (hp : ∀ M2, Fr3 M M2 → Tb s M2 (-1) (s 6) → post 0 M2) : ∀ (d : Nat) (ll : Int), ll + 1 = (d : Int) → ll ≤ s 0 → ∀ M2, Fr3 M M2 → Tb s M2 ll (s 6) → Gx x 3 7 [(0, vr (xg x) 105), (1, vi ll)] [] M2 := by
  have h0 := hw.1
  have h6 := hw.2.2.2.2.2.2.1
  intro d
  induction d with
  | zero =>
    intro ll hl hl2 M2 h1 h2
    have : ll = -1 := by omega
    subst this
    exact X6_lay_7 C hR _ M2 ⟨by decide, fun _ => hp M2 h1 h2, fun h => absurd (by decide) h⟩
  | succ d ih =>
    intro ll hl hl2 M2 h1 h2
    have e6 : M2 106 = s := (h1 106 (by decide) (by decide) (by decide)).trans hs
    refine X6_lay_7 C hR ll M2 ⟨⟨by omega, by omega⟩, fun h => absurd h (by omega), fun h w hwq => ?_⟩
    rw [e6] at hwq
    subst hwq
    refine c6_lay_i C hR (M := M2) hw e6 ⟨by omega, hl2⟩ ?_ (s 6 + 1).toNat (s 6) (by omega) (Int.le_refl _) M2 (Fr3.rf M2) h2
    intro M3 k1 k2
    refine ih (ll + (-1)) (by omega) (by omega) M3 (h1.tr k1) ?_
    intro a b q1 q2 q3 q4 q5
    exact k2 a b q1 q2 q3 q4 (by omega)
def Tab (s : Sg) (M : Mm) : Prop := ∀ a b : Int, 0 ≤ a → a ≤ s 0 → 0 ≤ b → b ≤ s 6 → Ent s M a b (VV s a b)
set_option maxRecDepth 10000 in
set_option maxHeartbeats 1000000 in
theorem c6_lay {l : Launch} {g : Gg} {M : Mm} (hw : WF (M 106)) : Ct l g mX6_lay [vr g 105] M (fun r M2 => Fr3 M M2 ∧ Tab (M 106) M2) := by
  refine ct_of (by decide) (Nat.le_of_ble_eq_true rfl) ?_
  intro x hl hg C hR
  subst hl
  subst hg
  have h0 := hw.1
  refine X6_lay_0 C hR M (fun w hwq => ?_)
  subst hwq
  refine c6_lay_o C hR hw rfl ?_ (M 106 0 + 1).toNat (M 106 0) (by omega) (Int.le_refl _) M (Fr3.rf M) ?_
  · intro M2 h1 h2
    exact ⟨h1, fun a b q1 q2 q3 q4 => h2 a b q1 q2 q3 q4 (by omega)⟩
  · intro a b q1 q2 q3 q4 q5
    omega
def bst (s : Sg) : Int := if (VV s 0 0).1 = 100000000 then -1 else (VV s 0 0).1
set_option maxRecDepth 10000 in
set_option maxHeartbeats 1000000 in
theorem c6_bestOf {l : Launch} {g : Gg} {M : Mm} (hw : WF (M 106)) : Ct l g mX6_bestOf [vr g 105] M (fun r M2 => r = bst (M 106) ∧ Fr3 M M2 ∧ Tab (M 106) M2) := by
  refine ct_of (by decide) (Nat.le_of_ble_eq_true rfl) ?_
  intro x hl hg C hR
  subst hl
  subst hg
  have h0 := hw.1
  have h6 := hw.2.2.2.2.2.2.1
  have hv := VV_ok hw (ll := 0) (f := 0) (by omega) (by omega)
  unfold Vok at hv
  refine X6_bestOf_0 C hR M ⟨_, c6_lay hw, ?_⟩
  rintro r M1 ⟨h1, h2⟩
  have e := (h2 0 0 (by omega) (by omega) (by omega) (by omega)).1
  have e2 : M1 112 0 = (VV (M 106) 0 0).1 := e
  rw [e2]
  refine ⟨⟨by omega, by omega⟩, fun h => ⟨?_, h1, h2⟩, fun h => ⟨?_, h1, h2⟩⟩
  · unfold bst
    rw [if_neg h]
  · unfold bst
    rw [if_pos h]
