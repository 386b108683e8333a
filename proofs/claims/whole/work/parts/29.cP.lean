/-! ===== the class: the planner ===== -/
theorem sz_bd {s : Sg} (h : WF s) (hc : clash s (s 6).toNat = -1) : ∀ (m : Nat) (ll f : Int), (0 ≤ ll ∧ ll ≤ s 0) → (0 ≤ f ∧ f ≤ s 6) → mz s ll f ≤ m → (VV s ll f).2.1 ≤ (s 0 - ll + 5) / 6 + (s 6 - f) := by
  intro m
  induction m with
  | zero =>
    intro ll f hl hf hm
    have e : ll = s 0 ∧ f = s 6 := by unfold mz at hm; omega
    rw [VV_eq h hl hf, if_pos e]
    show (0 : Int) ≤ _
    omega
  | succ m ih =>
    intro ll f hl hf hm
    by_cases hne : isEnd s ll f
    · have e : ll = s 0 ∧ f = s 6 := hne
      rw [VV_eq h hl hf, if_pos e]
      show (0 : Int) ≤ _
      omega
    · have bp := best_page h hl hf hne (no_clash h hc (mz s ll f) ll f hl hf (Nat.le_refl _))
      have gs := (best_gs h hc hl hf hne).1
      obtain ⟨g1, g2, g3, g4, g5⟩ := gs
      have e := bp.2.2.2.2.1
      unfold szB at e
      have i := ih (lb s ll f (cb s ll f)) (f + cb s ll f) ⟨by omega, g4⟩ ⟨by omega, g2⟩ (by unfold mz at hm ⊢; omega)
      rcases g5 with g5 | g5 | g5 <;> omega
theorem sz_64 {s : Sg} (h : WF s) (hc : clash s (s 6).toNat = -1) {ll f : Int} (hl : 0 ≤ ll ∧ ll ≤ s 0) (hf : 0 ≤ f ∧ f ≤ s 6) : 0 ≤ (VV s ll f).2.1 ∧ (VV s ll f).2.1 ≤ 30 ∧ 0 ≤ (VV s ll f).1 ∧ (VV s ll f).1 ≤ 11790 := by
  have h0 := h.1
  have h6 := h.2.2.2.2.2.2.1
  have := sz_bd h hc (mz s ll f) ll f hl hf (Nat.le_refl _)
  have hn := no_clash h hc (mz s ll f) ll f hl hf (Nat.le_refl _)
  have hv := VV_ok h hl.1 hf.1
  unfold Vok at hv
  omega
theorem mk_skipn {s : Sg} {ll f a b : Int} {j : Nat} : ∀ d : Nat, (∀ n : Nat, j ≤ n → pgB s ll f n = false) → (Mk s ll f (j + d) a b ↔ Mk s ll f j a b)
  | 0, _ => Iff.rfl
  | d + 1, h => by
    rw [show j + (d + 1) = (j + d) + 1 by omega, mk_step, mk_skipn d h]
    constructor
    · rintro (q | q)
      · exact q
      · rw [h (j + d) (by omega)] at q
        exact absurd q.2.2.1 (by decide)
    · exact Or.inl
theorem fld_skipn {s : Sg} {V : Int → Int → Vt} {ll f : Int} {j : Nat} : ∀ d : Nat, (∀ n : Nat, j ≤ n → pgB s ll f n = false) → fld s V ll f (j + d) = fld s V ll f j
  | 0, _ => rfl
  | d + 1, h => by
    show stp s V ll f (fld s V ll f (j + d)) ((j + d : Nat) : Int) = _
    rw [stp_npg (by rw [h (j + d) (by omega)]; decide), fld_skipn d h]
theorem pg_over {s : Sg} (hw : WF s) {ll f r : Int} (hr : MsQ s f r) (hl : 0 ≤ ll ∧ ll ≤ s 0) (hf : 0 ≤ f ∧ f ≤ s 6) : ∀ n : Nat, (r + 1).toNat ≤ n → pgB s ll f n = false := by
  intro n hn
  have := hr.1
  rw [pg_most hw hr hl hf (by omega), decide_eq_false (by omega)]
  rfl
theorem isP_me {k : Nat} (h : isP k) : isMe (k + 1) := h.m
theorem isP_ge {k : Nat} (h : isP k) : 76 ≤ k ∧ k + 10 ≤ 96 := by
  rcases h with rfl | rfl <;> omega
set_option maxRecDepth 10000 in
set_option maxHeartbeats 1000000 in
theorem c3_placeBehind {l : Launch} {g : Gg} {M : Mm} {k : Nat} {s : Sg} {ll f n : Int} (hk : isP k) (hw : WF s) (he : MeE M (k + 1) s) (hl : 0 ≤ ll ∧ ll ≤ 1000) (hf : 0 ≤ f) (hn : 0 ≤ n ∧ f + n ≤ s 6) : Ct l g mX3_placeBehind [vr g k, vi ll, vi f, vi n] M (fun r M2 => r = lb s ll f n * 11 + (f + n) ∧ M2 = M) := by
  refine ct_of (by decide) (Nat.le_of_ble_eq_true rfl) ?_
  intro x hl hg C hR
  subst hl
  subst hg
  refine X3_placeBehind_0 C hR hk ll f n M ⟨_, c1_linesBehind hk.m hw he hl hf hn, ?_⟩
  rintro r A ⟨rfl, rfl⟩
  exact ⟨by omega, rfl⟩
def MkV (s : Sg) (M : Mm) (k : Nat) (ll f : Int) (j : Nat) : Prop := ∀ a b : Int, 0 ≤ a → a ≤ s 0 → 0 ≤ b → b ≤ s 6 → (M (k + 6) (a * 11 + b) = 0 ∨ M (k + 6) (a * 11 + b) = -1) ∧ (M (k + 6) (a * 11 + b) = 0 ↔ Mk s ll f j a b)
theorem MkV.to {s : Sg} {M : Mm} {k : Nat} {ll f l2 f2 : Int} {j j2 : Nat} (h : MkV s M k ll f j) (e : ∀ a b, Mk s l2 f2 j2 a b ↔ Mk s ll f j a b) : MkV s M k l2 f2 j2 := fun a b h1 h2 h3 h4 => ⟨(h a b h1 h2 h3 h4).1, (h a b h1 h2 h3 h4).2.trans (e a b).symm⟩
theorem MkV.kept {s : Sg} {M M2 : Mm} {k : Nat} {ll f : Int} {j : Nat} (h : MkV s M k ll f j) (e : M2 (k + 6) = M (k + 6)) : MkV s M2 k ll f j := by
  unfold MkV
  rw [e]
  exact h
set_option maxRecDepth 10000 in
set_option maxHeartbeats 1000000 in
theorem c3_reachFrom_l {x : Xx} {post : Int → Mm → Prop} (C : Cx x mX3_reachFrom) (hR : Rt x mX3_reachFrom post) {M : Mm} {k : Nat} (hk : isP k) {s : Sg} (hw : WF s) (he : MeE M (k + 1) s) {ll f : Int} (hl : 0 ≤ ll ∧ ll ≤ s 0) (hf : 0 ≤ f ∧ f ≤ s 6) (hrc : Rch s ll f) (hp : ∀ M2, (∀ a, a ≠ k + 6 → M2 a = M a) → MkV s M2 k ll (f + 1) 0 → post 0 M2) : ∀ (d j : Nat), (j : Int) + d = M (k + 4) f + 1 → ∀ M2, (∀ a, a ≠ k + 6 → M2 a = M a) → MkV s M2 k ll f j → Gx x 4 2 [(0, vr (xg x) k), (1, vi ll), (2, vi f), (3, vi (j : Int))] [] M2 := by
  have h0 := hw.1
  have h4 := hw.2.2.2.2.1
  have h6 := hw.2.2.2.2.2.2.1
  have hr := (he.2.2.2.2.2.2 f hf.1 hf.2).1
  have rb := msq_bd hr
  have ek : k + 1 + 3 = k + 4 := by omega
  rw [ek] at hr rb
  intro d
  induction d with
  | zero =>
    intro j hj M2 f2 m2
    refine X3_reachFrom_2 C hR hk _ _ _ M2 ?_
    rw [ek, f2 (k + 4) (by omega)]
    refine ⟨⟨by omega, by omega⟩, ⟨⟨by omega, by omega⟩, by omega, by omega⟩, fun _ => hp M2 f2 ?_, fun q => absurd (by omega) q⟩
    have ov := pg_over hw (ll := ll) hr hl hf
    refine m2.to (fun a b => ?_)
    have e1 := mk_next (s := s) (ll := ll) (f := f) (k := j + ((s 4).toNat + 1)) (a := a) (b := b) (by omega)
    rw [e1]
    exact mk_skipn _ (fun n hn => ov n (by omega))
  | succ d ih =>
    intro j hj M2 f2 m2
    have he2 : MeE M2 (k + 1) s := he.kept (fun a a1 a2 => f2 a (by omega))
    refine X3_reachFrom_2 C hR hk _ _ _ M2 ?_
    rw [ek, f2 (k + 4) (by omega)]
    refine ⟨⟨by omega, by omega⟩, ⟨⟨by omega, by omega⟩, by omega, by omega⟩, fun q => absurd q (by omega), fun _ => ⟨_, c1_mayTake hk.m hw he2 hl hf ⟨by omega, by omega⟩, ?_⟩⟩
    rintro r A ⟨rfl, rfl⟩
    refine ⟨b2_inR _, fun q => ih (j + 1) (by omega) A f2 (m2.to (fun a b => ?_)), fun q => ?_⟩
    · rw [mk_step]
      rw [b2_z q]
      constructor
      · rintro (y | y)
        · exact y
        · exact absurd y.2.2.1 (by decide)
      · exact Or.inl
    · have hpg := b2_nz q
      have p := pg_facts hw hl hf.1 (n := (j : Int)) ⟨by omega, by omega⟩ hpg
      refine ⟨_, c3_placeBehind hk hw he2 ⟨by omega, by omega⟩ hf.1 ⟨by omega, by omega⟩, ?_⟩
      rintro r B ⟨rfl, rfl⟩
      refine ⟨⟨by omega, by omega⟩, fun D hD => ih (j + 1) (by omega) D (fun a ha => by rw [hD, mu_ne ha]; exact f2 a ha) (fun a b a0 a1 b0 b1 => ?_)⟩
      have mm := m2 a b a0 a1 b0 b1
      rw [mk_step]
      by_cases e : a = lb s ll f (j : Int) ∧ b = f + (j : Int)
      · rw [hD, e.1, e.2, mu_at]
        exact ⟨Or.inl rfl, fun _ => Or.inr ⟨hrc, by omega, hpg, rfl, rfl⟩, fun _ => rfl⟩
      · rw [hD, mu_off (by omega)]
        refine ⟨mm.1, fun y => Or.inl (mm.2.mp y), fun y => ?_⟩
        rcases y with y | y
        · exact mm.2.mpr y
        · exact absurd ⟨y.2.2.2.1, y.2.2.2.2⟩ e
set_option maxRecDepth 10000 in
set_option maxHeartbeats 1000000 in
theorem c3_reachFrom {l : Launch} {g : Gg} {M : Mm} {k : Nat} {s : Sg} {ll f : Int} (hk : isP k) (hw : WF s) (he : MeE M (k + 1) s) (hl : 0 ≤ ll ∧ ll ≤ s 0) (hf : 0 ≤ f ∧ f ≤ s 6) (hrc : Rch s ll f) (hm : MkV s M k ll f 0) : Ct l g mX3_reachFrom [vr g k, vi ll, vi f] M (fun r M2 => (∀ a, a ≠ k + 6 → M2 a = M a) ∧ MkV s M2 k ll (f + 1) 0) := by
  refine ct_of (by decide) (Nat.le_of_ble_eq_true rfl) ?_
  intro x hl hg C hR
  subst hl
  subst hg
  have hr := (he.2.2.2.2.2.2 f hf.1 hf.2).1.1
  rw [show k + 1 + 3 = k + 4 by omega] at hr
  exact X3_reachFrom_0 C hR hk ll f M (c3_reachFrom_l C hR hk hw he hl hf hrc (fun M2 h1 h2 => ⟨h1, h2⟩) (M (k + 4) f + 1).toNat 0 (by omega) M (fun _ _ => rfl) hm)
def TlV (s : Sg) (M : Mm) (k : Nat) (ll f : Int) : Prop := ∀ a b : Int, 0 ≤ a → a ≤ s 0 → 0 ≤ b → b ≤ s 6 → lex a b ll f → Rch s a b → M (k + 7) (a * 11 + b) = tl s a b
def FrR (k : Nat) (M M2 : Mm) : Prop := (∀ a, a ≠ k → a ≠ k + 6 → a ≠ k + 7 → M2 a = M a) ∧ ∀ i : Int, i ≠ 5 → M2 k i = M k i
def RcI (s : Sg) (k : Nat) (M M2 : Mm) (ll f n : Int) : Prop := FrR k M M2 ∧ MkV s M2 k ll f 0 ∧ TlV s M2 k ll f ∧ M2 k 5 = n
theorem FrR.me {s : Sg} {k : Nat} {M M2 : Mm} (h : FrR k M M2) (e : MeE M (k + 1) s) : MeE M2 (k + 1) s := e.kept (fun a a1 a2 => h.1 a (by omega) (by omega) (by omega))
set_option maxRecDepth 10000 in
set_option maxHeartbeats 1000000 in
theorem c3_reachPlaces_f {x : Xx} {post : Int → Mm → Prop} (C : Cx x mX3_reachPlaces) (hR : Rt x mX3_reachPlaces post) {M : Mm} {k : Nat} (hk : isP k) {s : Sg} (hw : WF s) (he : MeE M (k + 1) s) {ll : Nat} (hl : (ll : Int) ≤ s 0) (hp : ∀ M2, RcI s k M M2 ((ll : Int) + 1) 0 (nR s (ll + 1)) → Gx x 4 9 [(0, vr (xg x) k), (1, vi ((ll : Int) + 1))] [] M2) : ∀ (d f : Nat), f + d = (s 6).toNat + 1 → ∀ M2, RcI s k M M2 ll f (nR s ll + rowR s ll f) → Gx x 4 22 [(0, vr (xg x) k), (1, vi (ll : Int)), (2, vi (f : Int))] [] M2 := by
  have h0 := hw.1
  have h6 := hw.2.2.2.2.2.2.1
  intro d
  induction d with
  | zero =>
    intro f hf M2 hI
    obtain ⟨f1, m1, t1, n1⟩ := hI
    have he2 := f1.me he
    refine X3_reachPlaces_22 C hR hk _ _ M2 ?_
    rw [he2.2.1]
    refine ⟨⟨⟨by omega, by omega⟩, by omega, by omega⟩, fun _ => hp M2 ⟨f1, m1.to (fun a b => ?_), ?_, ?_⟩, fun q => absurd (by omega) q⟩
    · have : (f : Int) = s 6 + 1 := by omega
      rw [this]
      exact mk_row hw
    · intro a b a0 a1 b0 b1 hlx
      refine t1 a b a0 a1 b0 b1 ?_
      unfold lex at hlx ⊢
      omega
    · rw [n1, show f = (s 6).toNat + 1 by omega]
      rfl
  | succ d ih =>
    intro f hf M2 hI
    obtain ⟨f1, m1, t1, n1⟩ := hI
    have he2 := f1.me he
    refine X3_reachPlaces_22 C hR hk _ _ M2 ?_
    rw [he2.2.1]
    refine ⟨⟨⟨by omega, by omega⟩, by omega, by omega⟩, fun q => absurd q (by omega), fun _ w hw39 => ?_⟩
    subst hw39
    have mm := m1 ll f (by omega) hl (by omega) (by omega)
    have ns : rowR s ll (f + 1) = rowR s ll f + rI s ll f := rfl
    refine ⟨⟨by omega, by omega⟩, ⟨by omega, by omega⟩, fun q => ?_, fun q A hA => ?_⟩
    · have hn : ¬ Rch s ll f := by
        intro y
        have := mm.2.mpr ((mk_self hw).mpr y)
        omega
      refine ih (f + 1) (by omega) M2 ⟨f1, m1.to (fun a b => mk_skip hn), fun a b a0 a1 b0 b1 hlx hra => ?_, ?_⟩
      · by_cases e : a = ll ∧ b = f
        · rw [e.1, e.2] at hra
          exact absurd hra hn
        · refine t1 a b a0 a1 b0 b1 ?_ hra
          unfold lex at hlx ⊢
          omega
      · rw [n1, ns, rI_0 hn]
        omega
    · have hrc : Rch s ll f := by
        refine (mk_self hw).mp (mm.2.mp ?_)
        omega
      have aA : ∀ a, a ≠ k → A a = M2 a := fun a ha => by rw [hA, mu_ne ha]
      have heA : MeE A (k + 1) s := he2.kept (fun a a1 a2 => aA a (by omega))
      refine ⟨_, c1_toll hk.m hw heA ⟨by omega, by omega⟩ ⟨by omega, by omega⟩, ?_⟩
      rintro r A2 ⟨rfl, rfl⟩
      refine ⟨⟨by omega, by omega⟩, fun B hB => ?_⟩
      have heB : MeE B (k + 1) s := heA.kept (fun a a1 a2 => by rw [hB, mu_ne (by omega)])
      have mB : MkV s B k ll f 0 := m1.kept (by rw [hB, mu_ne (by omega), aA (k + 6) (by omega)])
      refine ⟨_, c3_reachFrom hk hw heB ⟨by omega, hl⟩ ⟨by omega, by omega⟩ hrc mB, ?_⟩
      rintro r D ⟨dF, dM⟩
      refine ih (f + 1) (by omega) D ⟨⟨fun a a1 a2 a3 => ?_, fun i hi => ?_⟩, dM, fun a b a0 a1 b0 b1 hlx hra => ?_, ?_⟩
      · rw [dF a a2, hB, mu_ne a3, aA a a1]
        exact f1.1 a a1 a2 a3
      · rw [dF k (by omega), hB, mu_ne (by omega), hA, mu_off hi]
        exact f1.2 i hi
      · rw [dF (k + 7) (by omega), hB]
        by_cases e : a = ll ∧ b = f
        · rw [e.1, e.2, mu_at]
        · rw [mu_off (by omega), aA (k + 7) (by omega)]
          refine t1 a b a0 a1 b0 b1 ?_ hra
          unfold lex at hlx ⊢
          omega
      · rw [dF k (by omega), hB, mu_ne (by omega), hA, mu_at, n1, ns, rI_1 hrc]
        omega
set_option maxRecDepth 10000 in
set_option maxHeartbeats 1000000 in
theorem c3_reachPlaces_l {x : Xx} {post : Int → Mm → Prop} (C : Cx x mX3_reachPlaces) (hR : Rt x mX3_reachPlaces post) {M : Mm} {k : Nat} (hk : isP k) {s : Sg} (hw : WF s) (he : MeE M (k + 1) s) (hp : ∀ M2, RcI s k M M2 (s 0 + 1) 0 (nR s ((s 0).toNat + 1)) → post 0 M2) : ∀ (d ll : Nat), ll + d = (s 0).toNat + 1 → ∀ M2, RcI s k M M2 ll 0 (nR s ll) → Gx x 4 9 [(0, vr (xg x) k), (1, vi (ll : Int))] [] M2 := by
  have h0 := hw.1
  intro d
  induction d with
  | zero =>
    intro ll hl M2 hI
    have he2 := hI.1.me he
    refine X3_reachPlaces_9 C hR hk _ M2 ?_
    rw [he2.1]
    refine ⟨⟨⟨by omega, by omega⟩, by omega, by omega⟩, fun _ => hp M2 ?_, fun q => absurd (by omega) q⟩
    rw [show (ll : Int) = s 0 + 1 by omega, show ll = (s 0).toNat + 1 by omega] at hI
    exact hI
  | succ d ih =>
    intro ll hl M2 hI
    have he2 := hI.1.me he
    refine X3_reachPlaces_9 C hR hk _ M2 ?_
    rw [he2.1]
    refine ⟨⟨⟨by omega, by omega⟩, by omega, by omega⟩, fun q => absurd q (by omega), fun _ => ?_⟩
    refine c3_reachPlaces_f C hR hk hw he (ll := ll) (by omega) (fun M3 h3 => ih (ll + 1) (by omega) M3 h3) ((s 6).toNat + 1) 0 (by omega) M2 ?_
    have : rowR s ll 0 = 0 := rfl
    rw [this, Int.add_zero]
    exact hI
set_option maxRecDepth 10000 in
set_option maxHeartbeats 1000000 in
theorem c3_reachPlaces {l : Launch} {g : Gg} {M : Mm} {k : Nat} {s : Sg} (hk : isP k) (hw : WF s) (he : MeE M (k + 1) s) (hv : ∀ i : Int, 0 ≤ i → i < 1331 → M (k + 6) i = -1) (hn : M k 5 = 0) : Ct l g mX3_reachPlaces [vr g k] M (fun r M2 => RcI s k M M2 (s 0 + 1) 0 (nR s ((s 0).toNat + 1))) := by
  refine ct_of (by decide) (Nat.le_of_ble_eq_true rfl) ?_
  intro x hl hg C hR
  subst hl
  subst hg
  have h0 := hw.1
  have h6 := hw.2.2.2.2.2.2.1
  refine X3_reachPlaces_0 C hR hk M (fun A hA => c3_reachPlaces_l C hR hk hw he (fun M2 h => h) ((s 0).toNat + 1) 0 (by omega) A ⟨⟨fun a a1 a2 a3 => by rw [hA, mu_ne a2], fun i hi => by rw [hA, mu_ne (by omega)]⟩, fun a b a0 a1 b0 b1 => ?_, fun a b a0 a1 b0 b1 hlx => ?_, ?_⟩)
  · have ms := mk_start hw (a := a) (b := b)
    show _ ∧ (_ ↔ Mk s 0 0 0 a b)
    rw [ms, hA]
    by_cases e : a = 0 ∧ b = 0
    · rw [e.1, e.2]
      have : (0 : Int) * 11 + 0 = 0 := by omega
      rw [this, mu_at]
      exact ⟨Or.inl rfl, fun _ => ⟨rfl, rfl⟩, fun _ => rfl⟩
    · rw [mu_off (by omega), hv _ (by omega) (by omega)]
      exact ⟨Or.inr rfl, fun y => absurd y (by decide), fun y => absurd y e⟩
  · unfold lex at hlx
    omega
  · rw [hA, mu_ne (by omega)]
    exact hn
