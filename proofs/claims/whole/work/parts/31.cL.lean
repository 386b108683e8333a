/-! ===== the class: plans ===== -/
theorem isPl_ge {k : Nat} (h : isPl k) : 96 ≤ k ∧ k + 3 ≤ 105 := by
  rcases h with rfl | rfl | rfl <;> omega
theorem isMe_lt {k : Nat} (h : isMe k) : k + 5 ≤ 96 := by
  rcases h with rfl | rfl <;> omega
def FrL (k : Nat) (M M2 : Mm) : Prop := ∀ a, (a < k ∨ k + 3 ≤ a) → M2 a = M a
theorem FrL.tr {k : Nat} {A B D : Mm} (h : FrL k A B) (j : FrL k B D) : FrL k A D := fun a ha => (j a ha).trans (h a ha)
theorem FrL.me {k j : Nat} {M M2 : Mm} {s : Sg} (h : FrL k M M2) (hk : isPl k) (hj : isMe j) (e : MeE M j s) : MeE M2 j s := by
  have := isPl_ge hk
  have := isMe_lt hj
  exact e.kept (fun a a1 a2 => h a (by omega))
/-- the plan at cell k is c's, so far of P pages -/
def PnE (M : Mm) (k : Nat) (s : Sg) (c : Cf) (P : Nat) : Prop := M k 2 = (P : Int) ∧ ∀ p : Nat, p ≤ P → M (k + 1) p = pl s c p ∧ M (k + 2) p = pf s c p
def Z0 (M : Mm) (k : Nat) : Prop := M (k + 1) 0 = 0 ∧ M (k + 2) 0 = 0
theorem PnE.z {M : Mm} {k : Nat} {s : Sg} {c : Cf} {P : Nat} (h : PnE M k s c P) : Z0 M k := h.2 0 (by omega)
theorem PnE.kept {M M2 : Mm} {k : Nat} {s : Sg} {c : Cf} {P : Nat} (e : PnE M k s c P) (h : ∀ a, k ≤ a → a < k + 3 → M2 a = M a) : PnE M2 k s c P := by
  unfold PnE at e ⊢
  rw [h k (by omega) (by omega), h (k + 1) (by omega) (by omega), h (k + 2) (by omega) (by omega)]
  exact e
theorem pne_0 {M : Mm} {k : Nat} {s : Sg} {c : Cf} (h : Z0 M k) (h2 : M k 2 = 0) : PnE M k s c 0 := by
  refine ⟨h2, fun p hp => ?_⟩
  have : p = 0 := by omega
  subst this
  exact h
set_option maxRecDepth 10000 in
set_option maxHeartbeats 1000000 in
theorem c2_addPage {l : Launch} {g : Gg} {M : Mm} {k j : Nat} {s : Sg} {c : Cf} {p : Nat} {n : Int} (hk : isPl k) (hj : isMe j) (hw : WF s) (he : MeE M j s) (hP : PnE M k s c p) (hp : p < 30) (hn : n = pn s c p) (hl : 0 ≤ pl s c p ∧ pl s c p ≤ 1000) (hf : 0 ≤ pf s c p) (hn2 : 0 ≤ n ∧ pf s c p + n ≤ s 6) : Ct l g mX2_addPage [vr g k, vr g j, vi n] M (fun r M2 => PnE M2 k s c (p + 1) ∧ FrL k M M2) := by
  refine ct_of (by decide) (Nat.le_of_ble_eq_true rfl) ?_
  intro x hl hg C hR
  subst hl
  subst hg
  have kk := isPl_ge hk
  have jj := isMe_lt hj
  obtain ⟨e2, eP⟩ := hP
  refine X2_addPage_0 C hR hk hj n M ?_
  rw [e2]
  refine ⟨⟨by omega, by omega⟩, fun w9 h9 => ⟨⟨by omega, by omega⟩, fun w19 h19 A hA => ?_⟩⟩
  have eA : A k 2 = (p : Int) + 1 := by rw [hA, mu_at]
  rw [(eP p (by omega)).1] at h9
  rw [(eP p (by omega)).2] at h19
  subst h9
  subst h19
  refine ⟨_, c1_linesBehind hj hw (he.kept (fun a a1 a2 => by rw [hA, mu_ne (by omega)])) hl hf hn2, ?_⟩
  rintro r B ⟨rfl, rfl⟩
  rw [eA]
  refine ⟨⟨by omega, by omega⟩, fun D hD => ?_⟩
  have eD : D k 2 = (p : Int) + 1 := by rw [hD, mu_ne (by omega), eA]
  rw [eD]
  refine ⟨⟨by omega, by omega⟩, fun E hE => ⟨⟨?_, fun q hq => ?_⟩, fun a ha => ?_⟩⟩
  · rw [hE, mu_ne (by omega), eD]
    omega
  · by_cases e : q = p + 1
    · subst e
      rw [pl_s, pf_s, ← hn]
      refine ⟨?_, ?_⟩
      · rw [hE, mu_ne (by omega), hD, show ((p + 1 : Nat) : Int) = (p : Int) + 1 by omega, mu_at]
      · rw [hE, show ((p + 1 : Nat) : Int) = (p : Int) + 1 by omega, mu_at]
    · have hq2 : (q : Int) ≠ (p : Int) + 1 := by omega
      rw [hE, mu_ne (by omega), mu_off hq2, hD, mu_off hq2, mu_ne (by omega), hA, mu_ne (by omega), mu_ne (by omega)]
      exact eP q (by omega)
  · rw [hE, mu_ne (by omega), hD, mu_ne (by omega), hA, mu_ne (by omega)]
set_option maxRecDepth 10000 in
set_option maxHeartbeats 1000000 in
theorem c2_mayGoOn {l : Launch} {g : Gg} {M : Mm} {k j : Nat} {s : Sg} {c : Cf} {p : Nat} (hk : isPl k) (hj : isMe j) (hw : WF s) (he : MeE M j s) (hP : PnE M k s c p) (hp : p ≤ 30) (hl : inR (pl s c p)) (hf : inR (pf s c p)) : Ct l g mX2_mayGoOn [vr g k, vr g j] M (fun r M2 => (((p < 30 ∧ ¬ isEnd s (pl s c p) (pf s c p)) ∧ r = 1) ∨ (¬ (p < 30 ∧ ¬ isEnd s (pl s c p) (pf s c p)) ∧ r = 0)) ∧ M2 = M) := by
  refine ct_of (by decide) (Nat.le_of_ble_eq_true rfl) ?_
  intro x hl hg C hR
  subst hl
  subst hg
  obtain ⟨e2, eP⟩ := hP
  refine X2_mayGoOn_0 C hR hk hj M ?_
  rw [e2]
  refine ⟨⟨by omega, by omega⟩, fun q => ⟨Or.inr ⟨fun y => by omega, rfl⟩, rfl⟩, fun q => ⟨⟨by omega, by omega⟩, ⟨by omega, by omega⟩, ?_⟩⟩
  rw [(eP p (by omega)).1, (eP p (by omega)).2]
  refine ⟨_, c1_isEnd hj hw he hl hf, ?_⟩
  rintro r A ⟨rfl, rfl⟩
  refine ⟨b2_inR _, fun q2 => ?_, fun q2 => ?_⟩
  · have z := of_decide_eq_true (b2_nz q2)
    exact ⟨Or.inr ⟨fun y => y.2 z, rfl⟩, rfl⟩
  · have z := of_decide_eq_false (b2_z q2)
    exact ⟨Or.inl ⟨⟨by omega, z⟩, rfl⟩, rfl⟩
theorem pre_end {s : Sg} (hw : WF s) {c : Cf} {p : Nat} (h : Pre s c p) (hp : p ≤ 30) (hq : ¬ (p < 30 ∧ ¬ isEnd s (pl s c p) (pf s c p))) : Plan s c p := by
  refine ⟨h, ?_⟩
  have h0 := hw.1
  have h6 := hw.2.2.2.2.2.2.1
  rcases Nat.lt_or_ge p 30 with z | z
  · rcases Classical.em (isEnd s (pl s c p) (pf s c p)) with y | y
    · exact y
    · exact absurd ⟨z, y⟩ hq
  · have b := pre_bd hw h
    show pl s c p = s 0 ∧ pf s c p = s 6
    omega
theorem pre_snoc {s : Sg} {c : Cf} {p : Nat} (h : Pre s c p) (g : GS s (pl s c p) (pf s c p) (pn s c p)) (hne : ¬ isEnd s (pl s c p) (pf s c p)) : Pre s c (p + 1) := by
  intro q hq
  rcases Nat.lt_or_ge q p with z | z
  · exact h q z
  · have : q = p := by omega
    subst this
    exact ⟨g, hne⟩
set_option maxRecDepth 10000 in
set_option maxHeartbeats 1000000 in
theorem c2_follow_l {x : Xx} {post : Int → Mm → Prop} (C : Cx x mX2_follow) (hR : Rt x mX2_follow post) {M : Mm} {k j : Nat} (hk : isPl k) (hj : isP j) {s : Sg} (hw : WF s) (hc : ckS s = -1) (he : PlE M j s) (hp : ∀ P M2, FrL k M M2 → Plan s (cB s) P → PnE M2 k s (cB s) P → post 0 M2) : ∀ (d p : Nat), p + d = 30 → ∀ M2, FrL k M M2 → PnE M2 k s (cB s) p → Pre s (cB s) p → Rch s (pl s (cB s) p) (pf s (cB s) p) → Gx x 3 24 [(0, vr (xg x) k), (1, vr (xg x) j), (2, vi (p : Int))] [] M2 := by
  have h0 := hw.1
  have h6 := hw.2.2.2.2.2.2.1
  have kk := isPl_ge hk
  have jj := isP_ge hj
  intro d
  induction d with
  | zero =>
    intro p hd M2 f2 p2 pre rch
    exact X2_follow_24 C hR hk hj _ M2 ⟨⟨by omega, by omega⟩, fun _ => hp p M2 f2 (pre_end hw pre (by omega) (fun y => by omega)) p2, fun q => absurd (by omega) q⟩
  | succ d ih =>
    intro p hd M2 f2 p2 pre rch
    have b := pre_bd hw pre
    have e2 : PlE M2 j s := he.kept (fun a a1 a2 => f2 a (by omega))
    refine X2_follow_24 C hR hk hj _ M2 ⟨⟨by omega, by omega⟩, fun q => absurd q (by omega), fun _ => ⟨_, c2_mayGoOn hk hj.m hw e2.1 p2 (by omega) ⟨by omega, by omega⟩ ⟨by omega, by omega⟩, ?_⟩⟩
    rintro r A ⟨hr, rfl⟩
    rcases hr with ⟨hr, rfl⟩ | ⟨hr, rfl⟩
    · obtain ⟨gs, pg, c4⟩ := best_gs hw hc (ll := pl s (cB s) p) (f := pf s (cB s) p) ⟨by omega, by omega⟩ ⟨by omega, by omega⟩ hr.2
      have gs2 := gs
      obtain ⟨g1, g2, g3, g4, g5⟩ := gs2
      refine ⟨by decide, fun q => absurd q (by decide), fun _ => ⟨⟨by omega, by omega⟩, ⟨by omega, by omega⟩, ?_⟩⟩
      rw [(p2.2 p (by omega)).1, (p2.2 p (by omega)).2]
      refine ⟨_, c3_takenFrom hj hw e2 ⟨by omega, by omega⟩ ⟨by omega, by omega⟩ ⟨hc, rI_1 rch⟩, ?_⟩
      rintro r B ⟨rfl, rfl⟩
      refine ⟨_, c2_addPage hk hj.m hw e2.1 p2 (by omega) rfl ⟨by omega, by omega⟩ (by omega) ⟨g1, g2⟩, ?_⟩
      rintro r D ⟨dP, dF⟩
      refine ih (p + 1) (by omega) D (f2.tr dF) dP (pre_snoc pre gs hr.2) ?_
      have hn : cb s (pl s (cB s) p) (pf s (cB s) p) = ((cb s (pl s (cB s) p) (pf s (cB s) p)).toNat : Int) := by omega
      have := rch_s (n := (cb s (pl s (cB s) p) (pf s (cB s) p)).toNat) rch (by omega) (by rw [← hn]; exact pg)
      rw [← hn] at this
      exact this
    · exact ⟨by decide, fun _ => hp p A f2 (pre_end hw pre (by omega) hr) p2, fun q => absurd rfl q⟩
set_option maxRecDepth 10000 in
set_option maxHeartbeats 1000000 in
theorem c2_follow {l : Launch} {g : Gg} {M : Mm} {k j : Nat} {s : Sg} (hk : isPl k) (hj : isP j) (hw : WF s) (he : PlE M j s) (hz : Z0 M k) : Ct l g mX2_follow [vr g k, vr g j] M (fun r M2 => FrL k M M2 ∧ Z0 M2 k ∧ ((ckS s = -1 ∧ ∃ P, Plan s (cB s) P ∧ PnE M2 k s (cB s) P) ∨ (¬ ckS s = -1 ∧ M2 k 2 = -1))) := by
  refine ct_of (by decide) (Nat.le_of_ble_eq_true rfl) ?_
  intro x hl hg C hR
  subst hl
  subst hg
  have h0 := hw.1
  have h6 := hw.2.2.2.2.2.2.1
  have kk := isPl_ge hk
  have jj := isP_ge hj
  have cl := clash_lt s (s 6).toNat
  refine X2_follow_0 C hR hk hj M ?_
  rw [he.1.2.2.2.2.1]
  refine ⟨⟨by omega, by omega⟩, fun q A hA => ?_, fun q A hA => ?_⟩
  · have zA : Z0 A k := by
      unfold Z0
      rw [hA, mu_ne (by omega), mu_ne (by omega)]
      exact hz
    refine c2_follow_l C hR hk hj hw q (M := M) he (fun P M2 f2 hP h2 => ⟨f2, h2.z, Or.inl ⟨q, P, hP, h2⟩⟩) 30 0 (by omega) A (fun a ha => by rw [hA, mu_ne (by omega)]) (pne_0 zA (by rw [hA, mu_at])) (fun p hp => absurd hp (by omega)) (rch_0 s)
  · refine ⟨fun a ha => by rw [hA, mu_ne (by omega)], ?_, Or.inr ⟨q, by rw [hA, mu_at]⟩⟩
    unfold Z0
    rw [hA, mu_ne (by omega), mu_ne (by omega)]
    exact hz
theorem grd_skip {s : Sg} {ll f r : Int} (hr : MsQ s f r) : ∀ d : Nat, f + r + d ≤ s 6 → grd s ll f (r.toNat + d) = grd s ll f r.toNat
  | 0, _ => rfl
  | d + 1, h => by
    have r0 := hr.1
    show grd s ll f ((r.toNat + d) + 1) = _
    simp only [grd]
    rw [if_neg, grd_skip hr d (by omega)]
    rintro ⟨a, -⟩
    have := (hr.2 (((r.toNat + d : Nat) : Int) + 1) (by omega)).mpr ⟨by omega, a⟩
    omega
theorem gr_most {s : Sg} {ll f r : Int} (hr : MsQ s f r) : gr s ll f = grd s ll f r.toNat := by
  have b := msq_bd hr
  unfold gr
  have e := grd_skip (ll := ll) hr ((if s 6 - f ≤ s 4 then s 6 - f else s 4) - r).toNat (by split <;> omega)
  rw [← e]
  congr 1
  split <;> omega
set_option maxRecDepth 10000 in
set_option maxHeartbeats 1000000 in
theorem c2_takeMost_i {x : Xx} {post : Int → Mm → Prop} (C : Cx x mX2_takeMost) (hR : Rt x mX2_takeMost post) {M : Mm} {k j : Nat} (hk : isPl k) (hj : isMe j) {s : Sg} (hw : WF s) (he : MeE M j s) {p : Nat} {c : Cf} (hP : PnE M k s c p) (hp30 : p < 30) (hl : 0 ≤ pl s c p ∧ pl s c p ≤ s 0) (hf : 0 ≤ pf s c p ∧ pf s c p ≤ s 6) {r : Int} (hr : MsQ s (pf s c p) r) (hp : ∃ p88 : Int → Mm → Prop, Ct (xl x) (xg x) mX2_addPage [vr (xg x) k, vr (xg x) j, vi (grd s (pl s c p) (pf s c p) r.toNat)] M p88 ∧ ∀ (r88 : Int) (M88 : Mm), p88 r88 M88 → Gx x 5 21 [(0, vr (xg x) k), (1, vr (xg x) j), (2, vi ((p : Int) + 1))] [] M88) : ∀ n : Nat, (n : Int) ≤ r → grd s (pl s c p) (pf s c p) r.toNat = grd s (pl s c p) (pf s c p) n → Gx x 5 50 [(0, vr (xg x) k), (1, vr (xg x) j), (2, vi (p : Int)), (3, vi (pf s c p)), (4, vi (n : Int))] [] M := by
  have h0 := hw.1
  have h6 := hw.2.2.2.2.2.2.1
  have rb := msq_bd hr
  intro n
  induction n with
  | zero =>
    intro hn hg
    rw [show grd s (pl s c p) (pf s c p) 0 = ((0 : Nat) : Int) from rfl] at hg
    rw [hg] at hp
    exact X2_takeMost_50 C hR hk hj _ _ _ M ⟨by decide, fun _ => hp, fun q => absurd (by decide) q⟩
  | succ n ih =>
    intro hn hg
    have fit := (hr.2 ((n : Int) + 1) (by omega)).mp (by omega)
    have ht := fit_tk hw hf.1 (n := (n : Int) + 1) ⟨by omega, by omega, fit.1⟩ fit.2
    have hlb : pl s c p ≤ lb s (pl s c p) (pf s c p) ((n : Int) + 1) ∧ lb s (pl s c p) (pf s c p) ((n : Int) + 1) ≤ s 0 := by
      unfold lb
      split <;> omega
    have gs : grd s (pl s c p) (pf s c p) (n + 1) = if amB s (pf s c p) (lb s (pl s c p) (pf s c p) ((n : Int) + 1)) (n + 1) = true then (n : Int) + 1 else grd s (pl s c p) (pf s c p) n := by
      simp only [grd]
      by_cases z : amB s (pf s c p) (lb s (pl s c p) (pf s c p) ((n : Int) + 1)) (n + 1) = true
      · rw [if_pos z, if_pos ⟨fit.2, Or.inr z⟩]
      · rw [if_neg z, if_neg]
        rintro ⟨-, y | y⟩
        · exact z (am_all (by omega))
        · exact z y
    refine X2_takeMost_50 C hR hk hj _ _ _ M ?_
    rw [(hP.2 p (by omega)).1, show ((n + 1 : Nat) : Int) = (n : Int) + 1 by omega]
    refine ⟨⟨by omega, by omega⟩, fun q => absurd q (by omega), fun _ => ⟨⟨by omega, by omega⟩, _, c1_linesBehind hj hw he ⟨by omega, by omega⟩ hf.1 ⟨by omega, by omega⟩, ?_⟩⟩
    rintro r9 A ⟨rfl, rfl⟩
    refine ⟨_, c1_areMentioned hj hw he hf.1 ⟨by omega, by omega⟩ ⟨by omega, by omega⟩, ?_⟩
    rintro r9 B ⟨rfl, rfl⟩
    rw [show ((n : Int) + 1).toNat = n + 1 by omega]
    refine ⟨b2_inR _, fun q => ?_, fun q => ?_⟩
    · rw [hg, gs, if_pos (b2_nz q)] at hp
      exact hp
    · have := ih (by omega) (by rw [hg, gs, if_neg (by rw [b2_z q]; decide)])
      rw [show (n : Int) + 1 + (-1) = n by omega]
      exact this
set_option maxRecDepth 10000 in
set_option maxHeartbeats 1000000 in
theorem c2_takeMost_l {x : Xx} {post : Int → Mm → Prop} (C : Cx x mX2_takeMost) (hR : Rt x mX2_takeMost post) {M : Mm} {k j : Nat} (hk : isPl k) (hj : isMe j) {s : Sg} (hw : WF s) (hc : ckS s = -1) (he : MeE M j s) (hp : ∀ P M2, FrL k M M2 → Plan s (cG s) P → PnE M2 k s (cG s) P → post 0 M2) : ∀ (d p : Nat), p + d = 30 → ∀ M2, FrL k M M2 → PnE M2 k s (cG s) p → Pre s (cG s) p → Gx x 5 21 [(0, vr (xg x) k), (1, vr (xg x) j), (2, vi (p : Int))] [] M2 := by
  have h0 := hw.1
  have h6 := hw.2.2.2.2.2.2.1
  have kk := isPl_ge hk
  have jj := isMe_lt hj
  intro d
  induction d with
  | zero =>
    intro p hd M2 f2 p2 pre
    exact X2_takeMost_21 C hR hk hj _ M2 ⟨⟨by omega, by omega⟩, fun _ => hp p M2 f2 (pre_end hw pre (by omega) (fun y => by omega)) p2, fun q => absurd (by omega) q⟩
  | succ d ih =>
    intro p hd M2 f2 p2 pre
    have b := pre_bd hw pre
    have e2 : MeE M2 j s := f2.me hk hj he
    refine X2_takeMost_21 C hR hk hj _ M2 ⟨⟨by omega, by omega⟩, fun q => absurd q (by omega), fun _ => ⟨_, c2_mayGoOn hk hj hw e2 p2 (by omega) ⟨by omega, by omega⟩ ⟨by omega, by omega⟩, ?_⟩⟩
    rintro r A ⟨hr, rfl⟩
    rcases hr with ⟨hr, rfl⟩ | ⟨hr, rfl⟩
    · obtain ⟨gs, g1, g2, g3, pg⟩ := gr_gs hw hc (ll := pl s (cG s) p) (f := pf s (cG s) p) ⟨by omega, by omega⟩ ⟨by omega, by omega⟩ hr.2
      have ms := (e2.2.2.2.2.2.2 (pf s (cG s) p) (by omega) (by omega)).1
      have rb := msq_bd ms
      refine ⟨by decide, fun q => absurd q (by decide), fun _ => ⟨⟨by omega, by omega⟩, fun w41 h41 => ?_⟩⟩
      rw [(p2.2 p (by omega)).2] at h41
      subst h41
      refine ⟨⟨by omega, by omega⟩, fun w48 h48 => ?_⟩
      have gm := gr_most (ll := pl s (cG s) p) ms
      have hx := c2_takeMost_i C hR hk hj hw e2 p2 (by omega) ⟨by omega, by omega⟩ ⟨by omega, by omega⟩ ms (by
        rw [← gm]
        refine ⟨_, c2_addPage hk hj hw e2 p2 (by omega) rfl ⟨by omega, by omega⟩ (by omega) ⟨g1, g3⟩, ?_⟩
        rintro r D ⟨dP, dF⟩
        exact ih (p + 1) (by omega) D (f2.tr dF) dP (pre_snoc pre gs hr.2)) (A (j + 3) (pf s (cG s) p)).toNat (by omega) rfl
      rw [show (((A (j + 3) (pf s (cG s) p)).toNat : Nat) : Int) = w48 by omega] at hx
      exact hx
    · exact ⟨by decide, fun _ => hp p A f2 (pre_end hw pre (by omega) hr) p2, fun q => absurd rfl q⟩
set_option maxRecDepth 10000 in
set_option maxHeartbeats 1000000 in
theorem c2_takeMost {l : Launch} {g : Gg} {M : Mm} {k j : Nat} {s : Sg} (hk : isPl k) (hj : isMe j) (hw : WF s) (he : MeE M j s) (hz : Z0 M k) : Ct l g mX2_takeMost [vr g k, vr g j] M (fun r M2 => FrL k M M2 ∧ Z0 M2 k ∧ ((ckS s = -1 ∧ ∃ P, Plan s (cG s) P ∧ PnE M2 k s (cG s) P) ∨ (¬ ckS s = -1 ∧ M2 k 2 = -1))) := by
  refine ct_of (by decide) (Nat.le_of_ble_eq_true rfl) ?_
  intro x hl hg C hR
  subst hl
  subst hg
  have h0 := hw.1
  have h6 := hw.2.2.2.2.2.2.1
  have kk := isPl_ge hk
  have jj := isMe_lt hj
  have cl := clash_lt s (s 6).toNat
  refine X2_takeMost_0 C hR hk hj M ?_
  rw [he.2.2.2.2.1]
  refine ⟨⟨by omega, by omega⟩, fun q A hA => ?_, fun q A hA => ?_⟩
  · have zA : Z0 A k := by
      unfold Z0
      rw [hA, mu_ne (by omega), mu_ne (by omega)]
      exact hz
    refine c2_takeMost_l C hR hk hj hw q (M := M) he (fun P M2 f2 hP h2 => ⟨f2, h2.z, Or.inl ⟨q, P, hP, h2⟩⟩) 30 0 (by omega) A (fun a ha => by rw [hA, mu_ne (by omega)]) (pne_0 zA (by rw [hA, mu_at])) (fun p hp => absurd hp (by omega))
  · refine ⟨fun a ha => by rw [hA, mu_ne (by omega)], ?_, Or.inr ⟨q, by rw [hA, mu_at]⟩⟩
    unfold Z0
    rw [hA, mu_ne (by omega), mu_ne (by omega)]
    exact hz
set_option maxRecDepth 10000 in
set_option maxHeartbeats 1000000 in
theorem c2_takeHanded_l {x : Xx} {post : Int → Mm → Prop} (C : Cx x mX2_takeHanded) (hR : Rt x mX2_takeHanded post) {M : Mm} {k j : Nat} (hk : isPl k) (hj : isMe j) {s : Sg} (hw : WF s) (he : MeE M j s) {h : Int → Int} (hh : M 3 = h) {P : Nat} (hP2 : P ≤ 30) (hok : HdOk h P) (hp : ∀ r M2, FrL k M M2 → Z0 M2 k → r = jr s h P → (r = 0 → Plan s (cH h) P ∧ PnE M2 k s (cH h) P) → post r M2) : ∀ (d p : Nat), p + d = P → jw s h p = 0 → ∀ M2, FrL k M M2 → PnE M2 k s (cH h) p → Gx x 5 8 [(0, vr (xg x) k), (1, vr (xg x) j), (2, vr (xg x) 3), (3, vi (P : Int)), (4, vi (p : Int))] [] M2 := by
  have h0 := hw.1
  have h6 := hw.2.2.2.2.2.2.1
  have kk := isPl_ge hk
  have jj := isMe_lt hj
  have a3 : isA 3 30 := by unfold isA; decide
  have m30 : ((30 : Nat) : Int) = 30 := rfl
  intro d
  induction d with
  | zero =>
    intro p hd hj0 M2 f2 p2
    have : p = P := by omega
    subst this
    have pre := (jw_pre hw hok hj0).1
    have b := pre_bd hw pre
    have e2 : MeE M2 j s := f2.me hk hj he
    refine X2_takeHanded_8 C hR hk hj a3 _ _ M2 ⟨⟨⟨by omega, by omega⟩, by omega, by omega⟩, fun _ => X2_takeHanded_73 C hR hk hj a3 M2 ?_, fun q => absurd (by omega) q⟩
    rw [p2.1]
    refine ⟨⟨by omega, by omega⟩, ⟨by omega, by omega⟩, ?_⟩
    rw [(p2.2 p (by omega)).1, (p2.2 p (by omega)).2]
    refine ⟨_, c1_isEnd hj hw e2 ⟨by omega, by omega⟩ ⟨by omega, by omega⟩, ?_⟩
    rintro r A ⟨rfl, rfl⟩
    rw [p2.1]
    refine ⟨b2_inR _, fun q => hp _ A f2 p2.z ?_ (fun y => absurd y (by omega)), fun q => hp _ A f2 p2.z ?_ (fun _ => ⟨⟨pre, by have z := of_decide_eq_true (b2_nz q); exact z⟩, p2⟩)⟩
    · unfold jr
      rw [if_pos hj0, if_neg (of_decide_eq_false (b2_z q))]
    · unfold jr
      rw [if_pos hj0, if_pos (of_decide_eq_true (b2_nz q))]
  | succ d ih =>
    intro p hd hj0 M2 f2 p2
    have okp : HdOk h p := fun q hq => hok q (by omega)
    have pre := (jw_pre hw okp hj0).1
    have b := pre_bd hw pre
    have e2 : MeE M2 j s := f2.me hk hj he
    have hp4 := hok p (by omega)
    have e3 : M2 3 = h := by rw [f2 3 (by omega)]; exact hh
    refine X2_takeHanded_8 C hR hk hj a3 _ _ M2 ?_
    rw [e3, (p2.2 p (by omega)).1, (p2.2 p (by omega)).2]
    refine ⟨⟨⟨by omega, by omega⟩, by omega, by omega⟩, fun q => absurd q (by omega), fun _ => ⟨⟨by omega, by omega⟩, fun q => absurd q (by omega), fun _ => ⟨⟨⟨by omega, by omega⟩, by decide⟩, fun q => absurd q (by omega), fun _ => ⟨⟨by omega, by omega⟩, ⟨by omega, by omega⟩, ⟨by omega, by omega⟩, _, c1_mayTake hj hw e2 ⟨by omega, by omega⟩ ⟨by omega, by omega⟩ ⟨by omega, by omega⟩, ?_⟩⟩⟩⟩
    rintro r A ⟨rfl, rfl⟩
    rw [e3]
    refine ⟨b2_inR _, fun q => ⟨⟨by omega, by omega⟩, ?_⟩, fun q => ?_⟩
    · have pg := b2_nz q
      have gs := gs_of hw (ll := pl s (cH h) p) (f := pf s (cH h) p) ⟨by omega, by omega⟩ (by omega) ⟨by omega, by omega⟩ pg
      refine ⟨_, c2_addPage hk hj hw e2 p2 (by omega) rfl ⟨by omega, by omega⟩ (by omega) ⟨gs.1, gs.2.1⟩, ?_⟩
      rintro r D ⟨dP, dF⟩
      refine ih (p + 1) (by omega) ?_ D (f2.tr dF) dP
      simp only [jw]
      rw [if_pos hj0, if_pos pg]
    · have js := jw_stop (s := s) (h := h) (p := p) (P := P) (by omega) hj0 (by rw [b2_z q]; decide)
      refine hp _ A f2 p2.z ?_ (fun y => absurd y (by omega))
      unfold jr
      rw [js, if_neg (by omega)]
set_option maxRecDepth 10000 in
set_option maxHeartbeats 1000000 in
theorem c2_takeHanded {l : Launch} {g : Gg} {M : Mm} {k j : Nat} {s : Sg} {h : Int → Int} {P : Nat} (hk : isPl k) (hj : isMe j) (hw : WF s) (he : MeE M j s) (hh : M 3 = h) (hP2 : P ≤ 30) (hok : HdOk h P) (hz : Z0 M k) : Ct l g mX2_takeHanded [vr g k, vr g j, vr g 3, vi (P : Int)] M (fun r M2 => FrL k M M2 ∧ Z0 M2 k ∧ r = jr s h P ∧ (r = 0 → Plan s (cH h) P ∧ PnE M2 k s (cH h) P)) := by
  refine ct_of (by decide) (Nat.le_of_ble_eq_true rfl) ?_
  intro x hl hg C hR
  subst hl
  subst hg
  have kk := isPl_ge hk
  have jj := isMe_lt hj
  have a3 : isA 3 30 := by unfold isA; decide
  refine X2_takeHanded_0 C hR hk hj a3 _ M (fun A hA => ?_)
  have zA : Z0 A k := by
    unfold Z0
    rw [hA, mu_ne (by omega), mu_ne (by omega)]
    exact hz
  exact c2_takeHanded_l C hR hk hj hw (M := M) he hh hP2 hok (fun r M2 h1 h2 h3 h4 => ⟨h1, h2, h3, h4⟩) P 0 (by omega) rfl A (fun a ha => by rw [hA, mu_ne (by omega)]) (pne_0 zA (by rw [hA, mu_at]))
