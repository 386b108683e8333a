/-! ===== the class: the values of the places ===== -/
def enc (a : Vt) : Int := if a.1 = 100000000 then 2147483647 else a.1 * 64 + a.2.1
theorem stp_v {s : Sg} {V : Int → Int → Vt} {ll f n : Int} {a v : Vt} {t : Int} (hq : pgB s ll f n = true) (hv : V (lb s ll f n) (f + n) = v) (ht : tl s (lb s ll f n) (f + n) = t) (h1 : v.1 < 100000000) (h2 : v.1 + t < 100000000) :
    stp s V ll f a n = (if v.1 + t < a.1 ∨ (v.1 + t = a.1 ∧ v.2.1 + 1 < a.2.1) then (v.1 + t, v.2.1 + 1, v.2.2.1, n) else if v.1 + t = a.1 ∧ v.2.1 + 1 = a.2.1 then (a.1, a.2.1, a.2.2.1 + v.2.2.1, a.2.2.2) else a) := by
  unfold stp
  rw [if_pos hq]
  simp only [hv, ht, if_neg (show ¬ v.1 = 100000000 by omega), decide_eq_true h2, Bool.true_and]
  by_cases hL : v.1 + t < a.1 ∨ (v.1 + t = a.1 ∧ v.2.1 + 1 < a.2.1)
  · have e : (decide (v.1 + t < a.1) || (decide (v.1 + t = a.1) && decide (v.2.1 + 1 < a.2.1))) = true := by simpa using hL
    rw [if_pos hL]
    simp only [e, if_true]
  · have e : (decide (v.1 + t < a.1) || (decide (v.1 + t = a.1) && decide (v.2.1 + 1 < a.2.1))) = false := by
      cases hz : (decide (v.1 + t < a.1) || (decide (v.1 + t = a.1) && decide (v.2.1 + 1 < a.2.1))) with
      | false => rfl
      | true => exact absurd (by simpa using hz) hL
    rw [if_neg hL]
    simp only [e]
    by_cases hE : v.1 + t = a.1 ∧ v.2.1 + 1 = a.2.1
    · have e2 : (decide (v.1 + t = a.1) && decide (v.2.1 + 1 = a.2.1)) = true := by simpa using hE
      rw [if_pos hE]
      simp only [e2, if_true]
      rfl
    · have e2 : (decide (v.1 + t = a.1) && decide (v.2.1 + 1 = a.2.1)) = false := by
        cases hz : (decide (v.1 + t = a.1) && decide (v.2.1 + 1 = a.2.1)) with
        | false => rfl
        | true => exact absurd (by simpa using hz) hE
      rw [if_neg hE]
      simp only [e2]
      rfl
def cur (s : Sg) (ll f : Int) (j : Nat) : Vt := if ll = s 0 ∧ f = s 6 then (0, 0, 1, 0) else fld s (VV s) ll f j
theorem cur_npg {s : Sg} {ll f : Int} {j : Nat} (hq : pgB s ll f j = false) : cur s ll f (j + 1) = cur s ll f j := by
  unfold cur
  by_cases e : ll = s 0 ∧ f = s 6
  · rw [if_pos e, if_pos e]
  · rw [if_neg e, if_neg e]
    show stp s (VV s) ll f (fld s (VV s) ll f j) (j : Int) = _
    exact stp_npg (by rw [hq]; decide)
theorem cur_bd {s : Sg} (hw : WF s) (hc : clash s (s 6).toNat = -1) {ll f : Int} (hl : 0 ≤ ll ∧ ll ≤ s 0) (hf : 0 ≤ f ∧ f ≤ s 6) {j : Nat} (hj : j ≤ 5) : (cur s ll f j).1 = 100000000 ∨ (0 ≤ (cur s ll f j).1 ∧ (cur s ll f j).1 ≤ 11880 ∧ 0 ≤ (cur s ll f j).2.1 ∧ (cur s ll f j).2.1 ≤ 31) := by
  unfold cur
  by_cases e : ll = s 0 ∧ f = s 6
  · rw [if_pos e]
    refine Or.inr ?_
    decide
  · rw [if_neg e]
    have ok := fldV_ok hw hl hf.1 j hj
    have fo := fld_fok hw hl hf.1 j hj
    unfold Vok at ok
    by_cases q : (fld s (VV s) ll f j).1 = 100000000
    · exact Or.inl q
    · refine Or.inr ?_
      obtain ⟨m, m1, m2, m3, m4, m5, m6⟩ := fo.1 (by omega)
      have p := pg_facts hw hl hf.1 (n := (m : Int)) ⟨by omega, by omega⟩ m3
      have sz := sz_64 hw hc (ll := lb s ll f m) (f := f + m) ⟨by omega, by omega⟩ ⟨by omega, by omega⟩
      unfold szB at m5
      omega
theorem cur_pg {s : Sg} (hw : WF s) (hc : clash s (s 6).toNat = -1) {ll f : Int} (hl : 0 ≤ ll ∧ ll ≤ s 0) (hf : 0 ≤ f ∧ f ≤ s 6) {j : Nat} (hj : j < 5) (hq : pgB s ll f j = true) {w : Int} (hW : w = (VV s (lb s ll f j) (f + j)).1 * 64 + (VV s (lb s ll f j) (f + j)).2.1 + tl s (lb s ll f j) (f + j) * 64 + 1) :
    (w < enc (cur s ll f j) → enc (cur s ll f (j + 1)) = w ∧ (cur s ll f (j + 1)).2.2.1 = (VV s (lb s ll f j) (f + j)).2.2.1 ∧ (cur s ll f (j + 1)).2.2.2 = (j : Int)) ∧
    (w = enc (cur s ll f j) → enc (cur s ll f (j + 1)) = w ∧ (cur s ll f (j + 1)).2.2.1 = (cur s ll f j).2.2.1 + (VV s (lb s ll f j) (f + j)).2.2.1 ∧ (cur s ll f (j + 1)).2.2.2 = (cur s ll f j).2.2.2) ∧
    (enc (cur s ll f j) < w → cur s ll f (j + 1) = cur s ll f j) := by
  have cb := cur_bd hw hc hl hf (j := j) (by omega)
  have p := pg_facts hw hl hf.1 (n := (j : Int)) ⟨by omega, by omega⟩ hq
  have sz := sz_64 hw hc (ll := lb s ll f j) (f := f + j) ⟨by omega, by omega⟩ ⟨by omega, by omega⟩
  have ht := sm_bound3 hw (ll := lb s ll f j) (f := f + j)
  have hne : ¬ (ll = s 0 ∧ f = s 6) := by
    rintro ⟨e1, e2⟩
    rw [e1, e2, pg_end hw ⟨by omega, by omega⟩] at hq
    cases hq
  have es : cur s ll f (j + 1) = stp s (VV s) ll f (cur s ll f j) (j : Int) := by
    unfold cur
    rw [if_neg hne, if_neg hne]
    rfl
  rw [es, stp_v hq rfl rfl (by omega) (by omega)]
  generalize VV s (lb s ll f j) (f + j) = v at *
  generalize tl s (lb s ll f j) (f + j) = t at *
  generalize cur s ll f j = a at *
  unfold enc
  refine ⟨fun q => ?_, fun q => ?_, fun q => ?_⟩
  · have hL : v.1 + t < a.1 ∨ (v.1 + t = a.1 ∧ v.2.1 + 1 < a.2.1) := by
      by_cases e : a.1 = 100000000
      · omega
      · rw [if_neg e] at q
        omega
    rw [if_pos hL]
    refine ⟨?_, rfl, rfl⟩
    rw [if_neg (by show ¬ v.1 + t = 100000000; omega)]
    show (v.1 + t) * 64 + (v.2.1 + 1) = w
    omega
  · have hE : ¬ a.1 = 100000000 := by
      intro e
      rw [if_pos e] at q
      omega
    rw [if_neg hE] at q
    have hL : ¬ (v.1 + t < a.1 ∨ (v.1 + t = a.1 ∧ v.2.1 + 1 < a.2.1)) := by omega
    have hE2 : v.1 + t = a.1 ∧ v.2.1 + 1 = a.2.1 := by omega
    rw [if_neg hL, if_pos hE2]
    refine ⟨?_, rfl, rfl⟩
    rw [if_neg hE]
    exact q.symm
  · have hE : ¬ a.1 = 100000000 := by
      intro e
      rw [if_pos e] at q
      omega
    rw [if_neg hE] at q
    have hL : ¬ (v.1 + t < a.1 ∨ (v.1 + t = a.1 ∧ v.2.1 + 1 < a.2.1)) := by omega
    have hE2 : ¬ (v.1 + t = a.1 ∧ v.2.1 + 1 = a.2.1) := by omega
    rw [if_neg hL, if_neg hE2]
def Val (s : Sg) (M : Mm) (k : Nat) (a b : Int) : Prop := M (k + 6) (a * 11 + b) = (VV s a b).1 * 64 + (VV s a b).2.1 ∧ M (k + 8) (a * 11 + b) = (VV s a b).2.2.2 ∧ M (k + 9) (a * 11 + b) = (VV s a b).2.2.1
def VI (s : Sg) (M : Mm) (k : Nat) (ll f : Int) : Prop := ∀ a b : Int, 0 ≤ a → a ≤ s 0 → 0 ≤ b → b ≤ s 6 → (¬ Rch s a b → M (k + 6) (a * 11 + b) = -1) ∧ (Rch s a b → (lex ll f a b → Val s M k a b) ∧ (¬ lex ll f a b → M (k + 6) (a * 11 + b) = 0) ∧ M (k + 7) (a * 11 + b) = tl s a b)
def FrV (k : Nat) (M M2 : Mm) : Prop := ∀ a, a ≠ k + 6 → a ≠ k + 8 → a ≠ k + 9 → M2 a = M a
set_option maxRecDepth 10000 in
set_option maxHeartbeats 1000000 in
theorem c3_valuePlace_l {x : Xx} {post : Int → Mm → Prop} (C : Cx x mX3_valuePlace) (hR : Rt x mX3_valuePlace post) {M : Mm} {k : Nat} (hk : isP k) {s : Sg} (hw : WF s) (hc : clash s (s 6).toNat = -1) (he : MeE M (k + 1) s) {ll f : Int} (hl : 0 ≤ ll ∧ ll ≤ s 0) (hf : 0 ≤ f ∧ f ≤ s 6) (hrc : Rch s ll f) (hV : VI s M k ll f) (hp : ∀ M2, FrV k M M2 → VI s M2 k ll (f - 1) → post 0 M2) : ∀ (d j : Nat), (j : Int) + d = M (k + 4) f + 1 → Gx x 11 39 [(0, vr (xg x) k), (1, vi ll), (2, vi f), (4, vi (enc (cur s ll f j))), (5, vl (cur s ll f j).2.2.1), (7, vi (cur s ll f j).2.2.2), (8, vi (j : Int))] [] M := by
  have h0 := hw.1
  have h4 := hw.2.2.2.2.1
  have h6 := hw.2.2.2.2.2.2.1
  have hr := (he.2.2.2.2.2.2 f hf.1 hf.2).1
  have rb := msq_bd hr
  have ek : k + 1 + 3 = k + 4 := by omega
  rw [ek] at hr rb
  intro d
  induction d with
  | zero =>
    intro j hj
    have ov := pg_over hw (ll := ll) hr hl hf
    have ec : cur s ll f j = VV s ll f := by
      rw [VV_eq hw hl hf]
      unfold cur
      have e := fld_skipn (s := s) (V := VV s) (ll := ll) (f := f) (j := j) ((s 4).toNat + 1 - j) (fun n hn => ov n (by omega))
      rw [show j + ((s 4).toNat + 1 - j) = (s 4).toNat + 1 by omega] at e
      rw [e]
    have sz := sz_64 hw hc hl hf
    have een : enc (cur s ll f j) = (VV s ll f).1 * 64 + (VV s ll f).2.1 := by
      rw [ec]
      unfold enc
      rw [if_neg (by omega)]
    refine X3_valuePlace_39 C hR hk _ _ _ _ _ _ M ?_
    rw [ek]
    refine ⟨⟨by omega, by omega⟩, ⟨⟨by omega, by omega⟩, by omega, by omega⟩, fun _ w hw151 => ?_, fun q => absurd (by omega) q⟩
    subst hw151
    refine ⟨⟨by omega, by omega⟩, fun A hA => ⟨⟨by omega, by omega⟩, fun B hB => ⟨⟨by omega, by omega⟩, fun D hD => hp D (fun a a1 a2 a3 => by rw [hD, mu_ne a2, hB, mu_ne a3, hA, mu_ne a1]) (fun a b a0 a1 b0 b1 => ?_)⟩⟩⟩
    have vv := hV a b a0 a1 b0 b1
    have g7 : D (k + 7) = M (k + 7) := by rw [hD, mu_ne (by omega), hB, mu_ne (by omega), hA, mu_ne (by omega)]
    by_cases e : a = ll ∧ b = f
    · obtain ⟨rfl, rfl⟩ := e
      refine ⟨fun y => absurd hrc y, fun _ => ⟨fun _ => ⟨?_, ?_, ?_⟩, fun y => absurd (by unfold lex; omega) y, by rw [g7]; exact (vv.2 hrc).2.2⟩⟩
      · rw [hD, mu_ne (by omega), hB, mu_ne (by omega), hA, mu_at]
        exact een
      · rw [hD, mu_at, ec]
      · rw [hD, mu_ne (by omega), hB, mu_at, ec]
    · have hne : a * 11 + b ≠ ll * 11 + f := by omega
      have g6 : D (k + 6) (a * 11 + b) = M (k + 6) (a * 11 + b) := by rw [hD, mu_ne (by omega), hB, mu_ne (by omega), hA, mu_off hne]
      have g8 : D (k + 8) (a * 11 + b) = M (k + 8) (a * 11 + b) := by rw [hD, mu_off hne, hB, mu_ne (by omega), hA, mu_ne (by omega)]
      have g9 : D (k + 9) (a * 11 + b) = M (k + 9) (a * 11 + b) := by rw [hD, mu_ne (by omega), hB, mu_off hne, hA, mu_ne (by omega)]
      refine ⟨fun y => by rw [g6]; exact vv.1 y, fun y => ⟨fun z => ?_, fun z => ?_, by rw [g7]; exact (vv.2 y).2.2⟩⟩
      · have := (vv.2 y).1 (by unfold lex at z ⊢; omega)
        unfold Val at this ⊢
        rw [g6, g8, g9]
        exact this
      · rw [g6]
        exact (vv.2 y).2.1 (by unfold lex at z ⊢; omega)
  | succ d ih =>
    intro j hj
    have hx := ih (j + 1) (by omega)
    have cbd := cur_bd hw hc hl hf (j := j) (by omega)
    have ebd : 0 ≤ enc (cur s ll f j) ∧ enc (cur s ll f j) < 2147483648 := by
      unfold enc
      split <;> omega
    refine X3_valuePlace_39 C hR hk _ _ _ _ _ _ M ?_
    rw [ek]
    refine ⟨⟨by omega, by omega⟩, ⟨⟨by omega, by omega⟩, by omega, by omega⟩, fun q => absurd q (by omega), fun _ => ⟨_, c1_mayTake hk.m hw he hl hf ⟨by omega, by omega⟩, ?_⟩⟩
    rintro r A ⟨rfl, rfl⟩
    refine ⟨b2_inR _, fun q => ?_, fun q => ?_⟩
    rotate_left
    · rw [cur_npg (b2_z q)] at hx
      exact hx
    · have hpg := b2_nz q
      have p := pg_facts hw hl hf.1 (n := (j : Int)) ⟨by omega, by omega⟩ hpg
      have sz := sz_64 hw hc (ll := lb s ll f j) (f := f + j) ⟨by omega, by omega⟩ ⟨by omega, by omega⟩
      have ht := sm_bound3 hw (ll := lb s ll f j) (f := f + j)
      have hrn := rch_s (n := j) hrc (by omega) hpg
      have vv := (hV (lb s ll f j) (f + j) (by omega) (by omega) (by omega) (by omega)).2 hrn
      have hlx : lex ll f (lb s ll f j) (f + j) := by unfold lex; omega
      obtain ⟨v6, v8, v9⟩ := vv.1 hlx
      have v7 := vv.2.2
      refine ⟨_, c3_placeBehind hk hw he ⟨by omega, by omega⟩ hf.1 ⟨by omega, by omega⟩, ?_⟩
      rintro r B ⟨rfl, rfl⟩
      rw [v6, v7]
      refine ⟨⟨by omega, by omega⟩, ⟨by omega, by omega⟩, fun w hw100 => ?_⟩
      obtain ⟨c1, c2, c3⟩ := cur_pg hw hc hl hf (j := j) (by omega) hpg hw100
      refine ⟨⟨⟨by omega, by omega⟩, by omega, by omega⟩, fun q2 => ?_, fun q2 => ?_⟩
      · refine X3_valuePlace_120 C hR hk _ _ _ _ _ _ _ _ B ⟨⟨⟨by omega, by omega⟩, by omega, by omega⟩, fun q3 => ?_, fun q3 => ⟨⟨by omega, by omega⟩, fun z hz => ?_⟩⟩
        · rw [c3 (by omega)] at hx
          exact hx
        · obtain ⟨d1, d2, d3⟩ := c2 q3
          rw [d1, d2, d3] at hx
          rw [v9] at hz
          rw [hz, ← q3]
          exact hx
      · obtain ⟨d1, d2, d3⟩ := c1 (by omega)
        rw [d1, d2, d3] at hx
        refine X3_valuePlace_120 C hR hk _ _ _ _ _ _ _ _ B ⟨⟨⟨by omega, by omega⟩, by omega, by omega⟩, fun q3 => absurd rfl q3, fun q3 => ⟨⟨by omega, by omega⟩, fun z hz => ?_⟩⟩
        rw [v9, Int.zero_add] at hz
        rw [hz]
        exact hx
set_option maxRecDepth 10000 in
set_option maxHeartbeats 1000000 in
theorem c3_valuePlace {l : Launch} {g : Gg} {M : Mm} {k : Nat} {s : Sg} {ll f : Int} (hk : isP k) (hw : WF s) (hc : clash s (s 6).toNat = -1) (he : MeE M (k + 1) s) (hl : 0 ≤ ll ∧ ll ≤ s 0) (hf : 0 ≤ f ∧ f ≤ s 6) (hrc : Rch s ll f) (hV : VI s M k ll f) : Ct l g mX3_valuePlace [vr g k, vi ll, vi f] M (fun r M2 => FrV k M M2 ∧ VI s M2 k ll (f - 1)) := by
  refine ct_of (by decide) (Nat.le_of_ble_eq_true rfl) ?_
  intro x hl hg C hR
  subst hl
  subst hg
  have h0 := hw.1
  have h6 := hw.2.2.2.2.2.2.1
  have hr := (he.2.2.2.2.2.2 f hf.1 hf.2).1.1
  rw [show k + 1 + 3 = k + 4 by omega] at hr
  have hx := c3_valuePlace_l C hR hk hw hc he hl hf hrc hV (fun M2 h1 h2 => ⟨h1, h2⟩) (M (k + 4) f + 1).toNat 0 (by omega)
  refine X3_valuePlace_0 C hR hk ll f M ⟨_, c1_isEnd hk.m hw he ⟨by omega, by omega⟩ ⟨by omega, by omega⟩, ?_⟩
  rintro r A ⟨rfl, rfl⟩
  refine ⟨b2_inR _, fun q => ?_, fun q => ?_⟩
  · refine X3_valuePlace_20 C hR hk _ _ _ _ A ⟨b2_inR _, fun _ => ?_, fun y => absurd q y⟩
    have hne : ¬ (ll = s 0 ∧ f = s 6) := by
      have := b2_z q
      exact of_decide_eq_false this
    have e : cur s ll f 0 = (100000000, 0, 0, 0) := by
      unfold cur
      rw [if_neg hne]
      rfl
    rw [e] at hx
    exact hx
  · refine X3_valuePlace_20 C hR hk _ _ _ _ A ⟨b2_inR _, fun y => absurd y q, fun _ => ?_⟩
    have hne : (ll = s 0 ∧ f = s 6) := by
      have := b2_nz q
      exact of_decide_eq_true this
    have e : cur s ll f 0 = (0, 0, 1, 0) := by
      unfold cur
      rw [if_pos hne]
    rw [e] at hx
    exact hx
theorem FrV.me {s : Sg} {k : Nat} {M M2 : Mm} (h : FrV k M M2) (e : MeE M (k + 1) s) : MeE M2 (k + 1) s := e.kept (fun a a1 a2 => h a (by omega) (by omega) (by omega))
theorem FrV.tr {k : Nat} {A B D : Mm} (h : FrV k A B) (j : FrV k B D) : FrV k A D := fun a h1 h2 h3 => (j a h1 h2 h3).trans (h a h1 h2 h3)
theorem VI.to {s : Sg} {M : Mm} {k : Nat} {ll f l2 f2 : Int} (h : VI s M k ll f) (e : ∀ a b : Int, 0 ≤ a → a ≤ s 0 → 0 ≤ b → b ≤ s 6 → Rch s a b → (lex l2 f2 a b ↔ lex ll f a b)) : VI s M k l2 f2 := fun a b h1 h2 h3 h4 => ⟨(h a b h1 h2 h3 h4).1, fun hr => ⟨fun z => ((h a b h1 h2 h3 h4).2 hr).1 ((e a b h1 h2 h3 h4 hr).mp z), fun z => ((h a b h1 h2 h3 h4).2 hr).2.1 (fun y => z ((e a b h1 h2 h3 h4 hr).mpr y)), ((h a b h1 h2 h3 h4).2 hr).2.2⟩⟩
set_option maxRecDepth 10000 in
set_option maxHeartbeats 1000000 in
theorem c3_valuePlaces_i {x : Xx} {post : Int → Mm → Prop} (C : Cx x mX3_valuePlaces) (hR : Rt x mX3_valuePlaces post) {M : Mm} {k : Nat} (hk : isP k) {s : Sg} (hw : WF s) (hc : clash s (s 6).toNat = -1) (he : MeE M (k + 1) s) {ll : Int} (hl : 0 ≤ ll ∧ ll ≤ s 0) (hp : ∀ M2, FrV k M M2 → VI s M2 k (ll + (-1)) (s 6) → Gx x 3 8 [(0, vr (xg x) k), (1, vi (ll + (-1)))] [] M2) : ∀ (d : Nat) (f : Int), f + 1 = (d : Int) → f ≤ s 6 → ∀ M2, FrV k M M2 → VI s M2 k ll f → Gx x 3 20 [(0, vr (xg x) k), (1, vi ll), (2, vi f)] [] M2 := by
  have h0 := hw.1
  have h6 := hw.2.2.2.2.2.2.1
  intro d
  induction d with
  | zero =>
    intro f hd hf M2 f2 v2
    refine X3_valuePlaces_20 C hR hk _ _ M2 ⟨⟨by omega, by omega⟩, fun _ => hp M2 f2 (v2.to (fun a b a0 a1 b0 b1 _ => ?_)), fun q => absurd (by omega) q⟩
    unfold lex
    omega
  | succ d ih =>
    intro f hd hf M2 f2 v2
    have vv := v2 ll f hl.1 hl.2 (by omega) hf
    refine X3_valuePlaces_20 C hR hk _ _ M2 ⟨⟨by omega, by omega⟩, fun q => absurd q (by omega), fun _ => ⟨⟨by omega, by omega⟩, ?_⟩⟩
    have en : ¬ Rch s ll f ∨ Rch s ll f := (Classical.em (Rch s ll f)).symm
    rcases en with hn | hn
    · have e6 := vv.1 hn
      rw [e6]
      refine ⟨by decide, fun _ => ih (f + (-1)) (by omega) (by omega) M2 f2 (v2.to (fun a b a0 a1 b0 b1 hab => ?_)), fun q => absurd rfl q⟩
      have : ¬ (a = ll ∧ b = f) := by
        rintro ⟨rfl, rfl⟩
        exact hn hab
      unfold lex
      omega
    · have e6 := (vv.2 hn).2.1 (by unfold lex; omega)
      rw [e6]
      refine ⟨by decide, fun q => absurd q (by decide), fun _ => ⟨_, c3_valuePlace hk hw hc (f2.me he) hl ⟨by omega, hf⟩ hn v2, ?_⟩⟩
      rintro r A ⟨a1, a2⟩
      exact ih (f + (-1)) (by omega) (by omega) A (f2.tr a1) a2
set_option maxRecDepth 10000 in
set_option maxHeartbeats 1000000 in
theorem c3_valuePlaces_o {x : Xx} {post : Int → Mm → Prop} (C : Cx x mX3_valuePlaces) (hR : Rt x mX3_valuePlaces post) {M : Mm} {k : Nat} (hk : isP k) {s : Sg} (hw : WF s) (hc : clash s (s 6).toNat = -1) (he : MeE M (k + 1) s) (hp : ∀ M2, FrV k M M2 → VI s M2 k (-1) (s 6) → post 0 M2) : ∀ (d : Nat) (ll : Int), ll + 1 = (d : Int) → ll ≤ s 0 → ∀ M2, FrV k M M2 → VI s M2 k ll (s 6) → Gx x 3 8 [(0, vr (xg x) k), (1, vi ll)] [] M2 := by
  have h0 := hw.1
  have h6 := hw.2.2.2.2.2.2.1
  intro d
  induction d with
  | zero =>
    intro ll hd hl M2 f2 v2
    refine X3_valuePlaces_8 C hR hk _ M2 ⟨⟨by omega, by omega⟩, fun _ => hp M2 f2 ?_, fun q => absurd (by omega) q⟩
    rw [show ll = -1 by omega] at v2
    exact v2
  | succ d ih =>
    intro ll hd hl M2 f2 v2
    refine X3_valuePlaces_8 C hR hk _ M2 ⟨⟨by omega, by omega⟩, fun q => absurd q (by omega), fun _ w hw19 => ?_⟩
    have e : w = s 6 := by rw [hw19]; exact (f2.me he).2.1
    rw [e]
    exact c3_valuePlaces_i C hR hk hw hc (M := M2) (f2.me he) ⟨by omega, hl⟩ (fun M3 f3 v3 => ih (ll + (-1)) (by omega) (by omega) M3 (f2.tr f3) v3) ((s 6).toNat + 1) (s 6) (by omega) (Int.le_refl _) M2 (fun _ _ _ _ => rfl) v2
set_option maxRecDepth 10000 in
set_option maxHeartbeats 1000000 in
theorem c3_valuePlaces {l : Launch} {g : Gg} {M : Mm} {k : Nat} {s : Sg} (hk : isP k) (hw : WF s) (hc : clash s (s 6).toNat = -1) (he : MeE M (k + 1) s) (hV : VI s M k (s 0) (s 6)) : Ct l g mX3_valuePlaces [vr g k] M (fun r M2 => FrV k M M2 ∧ VI s M2 k (-1) (s 6)) := by
  refine ct_of (by decide) (Nat.le_of_ble_eq_true rfl) ?_
  intro x hl hg C hR
  subst hl
  subst hg
  have h0 := hw.1
  refine X3_valuePlaces_0 C hR hk M (fun w hw7 => ?_)
  rw [hw7, he.1]
  exact c3_valuePlaces_o C hR hk hw hc he (fun M2 h1 h2 => ⟨h1, h2⟩) ((s 0).toNat + 1) (s 0) (by omega) (Int.le_refl _) M (fun _ _ _ _ => rfl) hV
/-- the planner at cell k has solved s -/
def PlE (M : Mm) (k : Nat) (s : Sg) : Prop := MeE M (k + 1) s ∧ ((¬ clash s (s 6).toNat = -1 ∧ M k 5 = 0 ∧ ∀ i : Int, 0 ≤ i → i < 1331 → M (k + 6) i = -1) ∨ (clash s (s 6).toNat = -1 ∧ M k 5 = nR s ((s 0).toNat + 1) ∧ ∀ a b : Int, 0 ≤ a → a ≤ s 0 → 0 ≤ b → b ≤ s 6 → (¬ Rch s a b → M (k + 6) (a * 11 + b) = -1) ∧ (Rch s a b → Val s M k a b)))
theorem PlE.kept {M M2 : Mm} {k : Nat} {s : Sg} (e : PlE M k s) (h : ∀ a, k ≤ a → a < k + 10 → M2 a = M a) : PlE M2 k s := by
  refine ⟨e.1.kept (fun a a1 a2 => h a (by omega) (by omega)), ?_⟩
  have e2 := e.2
  unfold Val at e2 ⊢
  rw [h k (by omega) (by omega), h (k + 6) (by omega) (by omega), h (k + 8) (by omega) (by omega), h (k + 9) (by omega) (by omega)]
  exact e2
set_option maxRecDepth 10000 in
set_option maxHeartbeats 1000000 in
theorem c3_solve {l : Launch} {g : Gg} {M : Mm} {k j : Nat} {s : Sg} (hk : isP k) (hj : isS j) (hw : WF s) (hs : SE M j s) (hz : M (k + 5) 0 = 0) : Ct l g mX3_solve [vr g k, vr g j] M (fun r M2 => PlE M2 k s ∧ ∀ a, (a < k ∨ k + 10 ≤ a) → M2 a = M a) := by
  refine ct_of (by decide) (Nat.le_of_ble_eq_true rfl) ?_
  intro x hl hg C hR
  subst hl
  subst hg
  have h0 := hw.1
  have h6 := hw.2.2.2.2.2.2.1
  have ka := hk.a6
  have cl := clash_lt s (s 6).toNat
  refine X3_solve_0 C hR hk hj M ⟨_, c1_take hk.m hj hw hs hz, ?_⟩
  rintro r A ⟨mA, fA⟩
  refine ⟨_, j7_fill (k := k + 6) (m := 1331) ⟨ka.1, ka.2.1, ka.2.2, by decide⟩, ?_⟩
  rintro r B ⟨fB, vB⟩ D hD
  have mD : MeE D (k + 1) s := mA.kept (fun a a1 a2 => by rw [hD, mu_ne (by omega)]; exact fB a (by omega))
  have vD : ∀ i : Int, 0 ≤ i → i < 1331 → D (k + 6) i = -1 := by
    intro i i0 i1
    rw [hD, mu_ne (by omega)]
    exact vB i i0 i1
  have dD : ∀ a, (a < k ∨ k + 10 ≤ a) → D a = M a := by
    intro a ha
    rw [hD, mu_ne (by omega), fB a (by omega)]
    exact fA a (by omega)
  have e4 := mD.2.2.2.2.1
  rw [e4]
  refine ⟨⟨by omega, by omega⟩, fun q => ⟨⟨mD, Or.inl ⟨q, by rw [hD, mu_at], vD⟩⟩, dD⟩, fun q => ⟨_, c3_reachPlaces hk hw mD vD (by rw [hD, mu_at]), ?_⟩⟩
  rintro r E ⟨fE, kE, tE, nE⟩
  have mE := fE.me mD
  have mk : ∀ a b, Mk s (s 0 + 1) 0 0 a b ↔ Rch s a b := fun a b => mk_end hw (by omega)
  refine ⟨_, c3_valuePlaces hk hw q mE (fun a b a0 a1 b0 b1 => ?_), ?_⟩
  · have kk := kE a b a0 a1 b0 b1
    rw [mk] at kk
    refine ⟨fun y => ?_, fun y => ⟨fun z => absurd z (by unfold lex; omega), fun _ => kk.2.mpr y, tE a b a0 a1 b0 b1 (by unfold lex; omega) y⟩⟩
    rcases kk.1 with z | z
    · exact absurd (kk.2.mp z) y
    · exact z
  · rintro r F ⟨fF, vF⟩
    refine ⟨⟨fF.me mE, Or.inr ⟨q, ?_, fun a b a0 a1 b0 b1 => ⟨(vF a b a0 a1 b0 b1).1, fun y => ((vF a b a0 a1 b0 b1).2 y).1 (by unfold lex; omega)⟩⟩⟩, fun a ha => ?_⟩
    · rw [fF k (by omega) (by omega) (by omega)]
      exact nE
    · rw [fF a (by omega) (by omega) (by omega), fE.1 a (by omega) (by omega) (by omega)]
      exact dD a ha
abbrev plB (s : Sg) (ll f : Int) : Prop := ckS s = -1 ∧ rI s ll f = 1
theorem rI_iff {s : Sg} {a b : Int} : rI s a b = 1 ↔ Rch s a b := by
  constructor
  · intro h
    rcases Classical.em (Rch s a b) with q | q
    · exact q
    · rw [rI_0 q] at h
      exact absurd h (by decide)
  · exact rI_1
set_option maxRecDepth 10000 in
set_option maxHeartbeats 1000000 in
theorem c3_isPlace {l : Launch} {g : Gg} {M : Mm} {k : Nat} {s : Sg} {ll f : Int} (hk : isP k) (hw : WF s) (he : PlE M k s) (hl : inR ll) (hf : inR f) : Ct l g mX3_isPlace [vr g k, vi ll, vi f] M (fun r M2 => (plB s ll f ∧ r = 1 ∨ ¬ plB s ll f ∧ r = 0) ∧ M2 = M) := by
  refine ct_of (by decide) (Nat.le_of_ble_eq_true rfl) ?_
  intro x hl hg C hR
  subst hl
  subst hg
  have h0 := hw.1
  have h6 := hw.2.2.2.2.2.2.1
  obtain ⟨me, pe⟩ := he
  have out : ¬ (0 ≤ ll ∧ ll ≤ s 0 ∧ 0 ≤ f ∧ f ≤ s 6) → (plB s ll f ∧ (0 : Int) = 1 ∨ ¬ plB s ll f ∧ (0 : Int) = 0) ∧ M = M := by
    intro y
    refine ⟨Or.inr ⟨fun z => ?_, rfl⟩, rfl⟩
    have := rch_bd hw (rI_iff.mp z.2)
    omega
  refine X3_isPlace_0 C hR hk ll f M ?_
  rw [me.1, me.2.1]
  refine ⟨hl, fun q => out (by omega), fun q => ⟨⟨hl, by omega, by omega⟩, fun q2 => out (by omega), fun q2 => ⟨hf, fun q3 => out (by omega), fun q3 => ⟨⟨hf, by omega, by omega⟩, fun q4 => out (by omega), fun q4 => ⟨⟨by omega, by omega⟩, ?_⟩⟩⟩⟩⟩
  rcases pe with ⟨p1, p2, p3⟩ | ⟨p1, p2, p3⟩
  · rw [p3 _ (by omega) (by omega)]
    exact ⟨by decide, fun _ => ⟨Or.inr ⟨fun z => p1 z.1, rfl⟩, rfl⟩, fun y => absurd rfl y⟩
  · have pp := p3 ll f (by omega) (by omega) (by omega) (by omega)
    have sz := sz_64 hw p1 (ll := ll) (f := f) ⟨by omega, by omega⟩ ⟨by omega, by omega⟩
    rcases Classical.em (Rch s ll f) with q | q
    · have v := (pp.2 q).1
      rw [v]
      exact ⟨⟨by omega, by omega⟩, fun y => absurd y (by omega), fun _ => ⟨Or.inl ⟨⟨p1, rI_1 q⟩, rfl⟩, rfl⟩⟩
    · rw [pp.1 q]
      exact ⟨by decide, fun _ => ⟨Or.inr ⟨fun z => q (rI_iff.mp z.2), rfl⟩, rfl⟩, fun y => absurd rfl y⟩
theorem PlE.at_ {M : Mm} {k : Nat} {s : Sg} {ll f : Int} (hw : WF s) (he : PlE M k s) (h : plB s ll f) : (0 ≤ ll ∧ ll ≤ s 0) ∧ (0 ≤ f ∧ f ≤ s 6) ∧ Val s M k ll f := by
  have hr := rI_iff.mp h.2
  have b := rch_bd hw hr
  rcases he.2 with ⟨p1, p2, p3⟩ | ⟨p1, p2, p3⟩
  · exact absurd h.1 p1
  · exact ⟨b.1, b.2, (p3 ll f b.1.1 b.1.2 b.2.1 b.2.2).2 hr⟩
set_option maxRecDepth 10000 in
set_option maxHeartbeats 1000000 in
theorem c3_costFrom {l : Launch} {g : Gg} {M : Mm} {k : Nat} {s : Sg} {ll f : Int} (hk : isP k) (hw : WF s) (he : PlE M k s) (hl : inR ll) (hf : inR f) : Ct l g mX3_costFrom [vr g k, vi ll, vi f] M (fun r M2 => r = (if plB s ll f then (VV s ll f).1 else -1) ∧ M2 = M) := by
  refine ct_of (by decide) (Nat.le_of_ble_eq_true rfl) ?_
  intro x hl hg C hR
  subst hl
  subst hg
  have h0 := hw.1
  have h6 := hw.2.2.2.2.2.2.1
  refine X3_costFrom_0 C hR hk ll f M ⟨_, c3_isPlace hk hw he hl hf, ?_⟩
  rintro r A ⟨hr, rfl⟩
  rcases hr with ⟨hr, rfl⟩ | ⟨hr, rfl⟩
  · obtain ⟨b1, b2', v1, v2, v3⟩ := he.at_ hw hr
    have sz := sz_64 hw hr.1 b1 b2'
    rw [v1, if_pos hr]
    exact ⟨by decide, fun q => absurd q (by decide), fun _ => ⟨⟨by omega, by omega⟩, ⟨by omega, by omega⟩, by omega, rfl⟩⟩
  · rw [if_neg hr]
    exact ⟨by decide, fun _ => ⟨rfl, rfl⟩, fun q => absurd rfl q⟩
set_option maxRecDepth 10000 in
set_option maxHeartbeats 1000000 in
theorem c3_pagesFrom {l : Launch} {g : Gg} {M : Mm} {k : Nat} {s : Sg} {ll f : Int} (hk : isP k) (hw : WF s) (he : PlE M k s) (hl : inR ll) (hf : inR f) : Ct l g mX3_pagesFrom [vr g k, vi ll, vi f] M (fun r M2 => r = (if plB s ll f then (VV s ll f).2.1 else -1) ∧ M2 = M) := by
  refine ct_of (by decide) (Nat.le_of_ble_eq_true rfl) ?_
  intro x hl hg C hR
  subst hl
  subst hg
  have h0 := hw.1
  have h6 := hw.2.2.2.2.2.2.1
  refine X3_pagesFrom_0 C hR hk ll f M ⟨_, c3_isPlace hk hw he hl hf, ?_⟩
  rintro r A ⟨hr, rfl⟩
  rcases hr with ⟨hr, rfl⟩ | ⟨hr, rfl⟩
  · obtain ⟨b1, b2', v1, v2, v3⟩ := he.at_ hw hr
    have sz := sz_64 hw hr.1 b1 b2'
    rw [v1, if_pos hr]
    exact ⟨by decide, fun q => absurd q (by decide), fun _ => ⟨⟨by omega, by omega⟩, ⟨by omega, by omega⟩, by omega, rfl⟩⟩
  · rw [if_neg hr]
    exact ⟨by decide, fun _ => ⟨rfl, rfl⟩, fun q => absurd rfl q⟩
set_option maxRecDepth 10000 in
set_option maxHeartbeats 1000000 in
theorem c3_takenFrom {l : Launch} {g : Gg} {M : Mm} {k : Nat} {s : Sg} {ll f : Int} (hk : isP k) (hw : WF s) (he : PlE M k s) (hl : inR ll) (hf : inR f) (hp : plB s ll f) : Ct l g mX3_takenFrom [vr g k, vi ll, vi f] M (fun r M2 => r = cb s ll f ∧ M2 = M) := by
  refine ct_of (by decide) (Nat.le_of_ble_eq_true rfl) ?_
  intro x hl hg C hR
  subst hl
  subst hg
  have h0 := hw.1
  have h6 := hw.2.2.2.2.2.2.1
  refine X3_takenFrom_0 C hR hk ll f M ⟨_, c3_isPlace hk hw he hl hf, ?_⟩
  rintro r A ⟨hr, rfl⟩
  rcases hr with ⟨hr, rfl⟩ | ⟨hr, rfl⟩
  · obtain ⟨b1, b2', v1, v2, v3⟩ := he.at_ hw hr
    rw [v2]
    exact ⟨by decide, fun q => absurd q (by decide), fun _ => ⟨⟨by omega, by omega⟩, rfl, rfl⟩⟩
  · exact absurd hp hr
set_option maxRecDepth 10000 in
set_option maxHeartbeats 1000000 in
theorem c3_waysOfBest {l : Launch} {g : Gg} {M : Mm} {k : Nat} {s : Sg} (hk : isP k) (hw : WF s) (he : PlE M k s) : Ct l g mX3_waysOfBest [vr g k] M (fun r M2 => r = wyF s ∧ M2 = M) := by
  refine ct_of (by decide) (Nat.le_of_ble_eq_true rfl) ?_
  intro x hl hg C hR
  subst hl
  subst hg
  refine X3_waysOfBest_0 C hR hk M ⟨_, c3_isPlace hk hw he (by decide) (by decide), ?_⟩
  rintro r A ⟨hr, rfl⟩
  unfold wyF
  rcases hr with ⟨hr, rfl⟩ | ⟨hr, rfl⟩
  · obtain ⟨b1, b2', v1, v2, v3⟩ := he.at_ hw hr
    rw [show (0 : Int) * 11 + 0 = 0 by omega] at v3
    rw [v3, if_pos hr.1]
    exact ⟨by decide, fun q => absurd q (by decide), fun _ => ⟨rfl, rfl⟩⟩
  · rw [if_neg (fun y => hr ⟨y, rI_1 (rch_0 s)⟩)]
    exact ⟨by decide, fun _ => ⟨rfl, rfl⟩, fun q => absurd rfl q⟩
