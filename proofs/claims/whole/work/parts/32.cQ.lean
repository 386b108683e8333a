/-! ===== the class: what a plan answers ===== -/
theorem best_size {s : Sg} (hw : WF s) (hc : ckS s = -1) : ∀ {p : Nat}, Pre s (cB s) p → (VV s 0 0).2.1 = (p : Int) + (VV s (pl s (cB s) p) (pf s (cB s) p)).2.1
  | 0, _ => by
    show (VV s 0 0).2.1 = (0 : Int) + (VV s 0 0).2.1
    omega
  | p + 1, h => by
    have ih := best_size hw hc (p := p) (h.less (by omega))
    have b := pre_bd hw (h.less (show p ≤ p + 1 by omega))
    have hne := (h p (by omega)).2
    have bp := best_page hw (ll := pl s (cB s) p) (f := pf s (cB s) p) ⟨by omega, by omega⟩ ⟨by omega, by omega⟩ hne (no_clash hw hc _ _ _ ⟨by omega, by omega⟩ ⟨by omega, by omega⟩ (Nat.le_refl _))
    have e := bp.2.2.2.2.1
    unfold szB at e
    have e1 : pl s (cB s) (p + 1) = lb s (pl s (cB s) p) (pf s (cB s) p) (cb s (pl s (cB s) p) (pf s (cB s) p)) := rfl
    have e2 : pf s (cB s) (p + 1) = pf s (cB s) p + cb s (pl s (cB s) p) (pf s (cB s) p) := rfl
    rw [e1, e2]
    omega
theorem best_pages {s : Sg} (hw : WF s) (hc : ckS s = -1) {P : Nat} (h : Plan s (cB s) P) : (VV s 0 0).2.1 = (P : Int) := by
  have h0 := hw.1
  have h6 := hw.2.2.2.2.2.2.1
  have e := best_size hw hc h.1
  obtain ⟨e1, e2⟩ := h.2
  have ev : (VV s (s 0) (s 6)).2.1 = 0 := by
    rw [VV_eq hw ⟨by omega, by omega⟩ ⟨by omega, by omega⟩, if_pos ⟨rfl, rfl⟩]
  rw [e1, e2, ev] at e
  omega
def cnZ (A B : Int) (p : Nat) : Int := (fun (a b : Int) => if b ≤ a then a - b else b - a) (if A ≤ (p : Int) then (p : Int) - A else 0) (if B ≤ (p : Int) then (p : Int) - B else 0)
theorem cnZ_s (A B : Int) (p : Nat) : cnZ A B (p + 1) = cnZ A B p + (if (B ≤ (p : Int)) = (A ≤ (p : Int)) then 0 else 1) := by
  unfold cnZ
  by_cases hA : A ≤ (p : Int) <;> by_cases hB : B ≤ (p : Int)
  · rw [if_pos (c := (B ≤ (p : Int)) = (A ≤ (p : Int))) (by simp [hA, hB])]
    dsimp only
    grind
  · rw [if_neg (c := (B ≤ (p : Int)) = (A ≤ (p : Int))) (by simp [hA, hB])]
    dsimp only
    grind
  · rw [if_neg (c := (B ≤ (p : Int)) = (A ≤ (p : Int))) (by simp [hA, hB])]
    dsimp only
    grind
  · rw [if_pos (c := (B ≤ (p : Int)) = (A ≤ (p : Int))) (by simp [hA, hB])]
    dsimp only
    grind
theorem plan_ge {s : Sg} (hw : WF s) {c : Cf} {P : Nat} (h : Plan s c P) {f : Int} (hf : 0 ≤ f ∧ f < s 6) : (0 ≤ pgF s c P f ∧ pgF s c P f < P) ∧ (0 ≤ pgL s c P (due s f) ∧ pgL s c P (due s f) < P) ∧ ∀ q : Nat, q < P → (f < pf s c (q + 1) ↔ pgF s c P f ≤ (q : Int)) ∧ (due s f < pl s c (q + 1) ↔ pgL s c P (due s f) ≤ (q : Int)) := by
  have hP := plan_pos h (Or.inr (by omega))
  obtain ⟨a, a1, a2, a3, a4⟩ := plan_fig hw h hf
  obtain ⟨b, b1, b2', b3, b4⟩ := plan_line hw h (due_lt f) hP
  rw [a4, b4]
  refine ⟨⟨by omega, by omega⟩, ⟨by omega, by omega⟩, fun q hq => ⟨⟨fun y => ?_, fun y => ?_⟩, ⟨fun y => ?_, fun y => ?_⟩⟩⟩
  · rcases Nat.lt_or_ge q a with z | z
    · exact absurd y (a3 q z)
    · omega
  · have := (pl_mono h.1 (q := q + 1) (by omega) (a + 1) (by omega)).2
    omega
  · rcases Nat.lt_or_ge q b with z | z
    · exact absurd y (b3 q z)
    · omega
  · have := (pl_mono h.1 (q := q + 1) (by omega) (b + 1) (by omega)).1
    omega
theorem paS_cn {s : Sg} (hw : WF s) {c : Cf} {P : Nat} (h : Plan s c P) : ∀ p : Nat, p ≤ P → paS s c p = sm (fun k => wt s k * cnZ (pgF s c P k) (pgL s c P (due s k)) p) (s 6).toNat
  | 0, _ => by
    have : sm (fun k => wt s k * cnZ (pgF s c P k) (pgL s c P (due s k)) 0) (s 6).toNat = sm (fun _ => 0) (s 6).toNat := by
      refine sm_cong (fun k hk => ?_)
      have g := plan_ge hw h (f := (k : Int)) ⟨by omega, by omega⟩
      have : cnZ (pgF s c P k) (pgL s c P (due s k)) 0 = 0 := by
        unfold cnZ
        dsimp only
        grind
      rw [this, Int.mul_zero]
    rw [this]
    have z : ∀ n : Nat, sm (fun _ => (0 : Int)) n = 0 := by
      intro n
      induction n with
      | zero => rfl
      | succ n ih => simp only [sm]; omega
    rw [z]
    rfl
  | p + 1, hp => by
    have ih := paS_cn hw h p (by omega)
    have e : paS s c (p + 1) = paS s c p + tl s (pl s c (p + 1)) (pf s c (p + 1)) := rfl
    rw [e, ih]
    unfold tl
    rw [← sm_add]
    refine sm_cong (fun k hk => ?_)
    have g := (plan_ge hw h (f := (k : Int)) ⟨by omega, by omega⟩).2.2 p (by omega)
    rw [cnZ_s, Int.mul_add]
    congr 1
    unfold tlF wt
    have y : ((due s (k : Int) < pl s c (p + 1)) = ((k : Int) < pf s c (p + 1))) = ((pgL s c P (due s (k : Int)) ≤ (p : Int)) = (pgF s c P (k : Int) ≤ (p : Int))) := by
      rw [propext g.1, propext g.2]
    by_cases z : (pgL s c P (due s (k : Int)) ≤ (p : Int)) = (pgF s c P (k : Int) ≤ (p : Int))
    · rw [if_pos z, if_pos (y.mpr z), Int.mul_zero]
    · rw [if_neg z, if_neg (fun q => z (y.mp q)), Int.mul_one]
theorem cst_sum {s : Sg} (hw : WF s) {c : Cf} {P : Nat} (h : Plan s c P) : sm (cst s c P) (s 6).toNat = paS s c P := by
  rw [paS_cn hw h P (Nat.le_refl P)]
  refine sm_cong (fun k hk => ?_)
  have g := plan_ge hw h (f := (k : Int)) ⟨by omega, by omega⟩
  unfold cst
  congr 1
  unfold cnZ
  dsimp only
  grind
set_option maxRecDepth 10000 in
set_option maxHeartbeats 1000000 in
theorem c2_firstAbove_l {x : Xx} {post : Int → Mm → Prop} (C : Cx x mX2_firstAbove) (hR : Rt x mX2_firstAbove post) {M : Mm} {k k1 : Nat} (hk : isPl k) (h1 : isA k1 31) {P : Nat} (hP : M k 2 = (P : Int)) (hP2 : P ≤ 30) (hb : ∀ q : Nat, q ≤ P → inR (M k1 q)) {v : Int} (hv : inR v) (hp : post (fsA (fun q => M k1 (q : Int)) v P) M) : ∀ (d i : Nat), i + d = P → (∀ q, q < i → ¬ v < M k1 ((q + 1 : Nat) : Int)) → Gx x 4 2 [(0, vr (xg x) k), (1, vr (xg x) k1), (2, vi v), (3, vi (i : Int))] [] M := by
  have m31 : ((31 : Nat) : Int) = 31 := rfl
  intro d
  induction d with
  | zero =>
    intro i hi ha
    have : i = P := by omega
    subst this
    refine X2_firstAbove_2 C hR hk h1 _ _ M ?_
    rw [hP]
    rw [fsA_no (g := fun q => M k1 (q : Int)) ha] at hp
    exact ⟨⟨⟨by omega, by omega⟩, by omega, by omega⟩, fun _ => hp, fun q => absurd (by omega) q⟩
  | succ d ih =>
    intro i hi ha
    refine X2_firstAbove_2 C hR hk h1 _ _ M ?_
    rw [hP]
    have bi := hb (i + 1) (by omega)
    rw [show ((i + 1 : Nat) : Int) = (i : Int) + 1 by omega] at bi
    refine ⟨⟨⟨by omega, by omega⟩, by omega, by omega⟩, fun q => absurd q (by omega), fun _ => ⟨⟨by omega, by omega⟩, ⟨bi, hv⟩, fun q => ih (i + 1) (by omega) (fun q2 hq2 => ?_), fun q => ?_⟩⟩
    · rcases Nat.lt_or_ge q2 i with z | z
      · exact ha q2 z
      · have : q2 = i := by omega
        subst this
        rw [show ((q2 + 1 : Nat) : Int) = (q2 : Int) + 1 by omega]
        omega
    · rw [fsA_at (g := fun q => M k1 (q : Int)) (p := i) (by omega) (by show v < M k1 ((i + 1 : Nat) : Int); rw [show ((i + 1 : Nat) : Int) = (i : Int) + 1 by omega]; omega) ha] at hp
      exact hp
set_option maxRecDepth 10000 in
set_option maxHeartbeats 1000000 in
theorem c2_firstAbove {l : Launch} {g : Gg} {M : Mm} {k k1 : Nat} {P : Nat} {v : Int} (hk : isPl k) (h1 : isA k1 31) (hP : M k 2 = (P : Int)) (hP2 : P ≤ 30) (hb : ∀ q : Nat, q ≤ P → inR (M k1 q)) (hv : inR v) : Ct l g mX2_firstAbove [vr g k, vr g k1, vi v] M (fun r M2 => r = fsA (fun q => M k1 (q : Int)) v P ∧ M2 = M) := by
  refine ct_of (by decide) (Nat.le_of_ble_eq_true rfl) ?_
  intro x hl hg C hR
  subst hl
  subst hg
  exact X2_firstAbove_0 C hR hk h1 v M (c2_firstAbove_l C hR hk h1 hP hP2 hb hv ⟨rfl, rfl⟩ P 0 (by omega) (fun q hq => absurd hq (by omega)))
set_option maxRecDepth 10000 in
set_option maxHeartbeats 1000000 in
theorem c2_firstAbove_n {l : Launch} {g : Gg} {M : Mm} {k k1 : Nat} {v : Int} (hk : isPl k) (h1 : isA k1 31) (hP : M k 2 = -1) (hv : inR v) : Ct l g mX2_firstAbove [vr g k, vr g k1, vi v] M (fun r M2 => r = -1 ∧ M2 = M) := by
  refine ct_of (by decide) (Nat.le_of_ble_eq_true rfl) ?_
  intro x hl hg C hR
  subst hl
  subst hg
  refine X2_firstAbove_0 C hR hk h1 v M (X2_firstAbove_2 C hR hk h1 _ _ M ?_)
  rw [hP]
  exact ⟨⟨by decide, by decide⟩, fun _ => ⟨rfl, rfl⟩, fun q => absurd (by decide) q⟩
theorem isPl_A1 {k : Nat} (h : isPl k) : isA (k + 1) 31 := ⟨h.a1.1, h.a1.2.1, h.a1.2.2, by decide⟩
theorem isPl_A2 {k : Nat} (h : isPl k) : isA (k + 2) 31 := ⟨h.a2.1, h.a2.2.1, h.a2.2.2, by decide⟩
theorem pne_bd {s : Sg} (hw : WF s) {c : Cf} {P : Nat} {M : Mm} {k : Nat} (hp : Pre s c P) (h : PnE M k s c P) : P ≤ 30 ∧ (∀ q : Nat, q ≤ P → inR (M (k + 1) q)) ∧ ∀ q : Nat, q ≤ P → inR (M (k + 2) q) := by
  have h0 := hw.1
  have h6 := hw.2.2.2.2.2.2.1
  refine ⟨pre_30 hw hp, fun q hq => ?_, fun q hq => ?_⟩
  · have b := pre_bd hw (hp.less hq)
    rw [(h.2 q hq).1]
    exact ⟨by omega, by omega⟩
  · have b := pre_bd hw (hp.less hq)
    rw [(h.2 q hq).2]
    exact ⟨by omega, by omega⟩
set_option maxRecDepth 10000 in
set_option maxHeartbeats 1000000 in
theorem c2_pageWithLine {l : Launch} {g : Gg} {M : Mm} {k : Nat} {s : Sg} {c : Cf} {P : Nat} {v : Int} (hk : isPl k) (hw : WF s) (hPl : Plan s c P) (hP : PnE M k s c P) (hv : inR v) : Ct l g mX2_pageWithLine [vr g k, vi v] M (fun r M2 => r = pgL s c P v ∧ M2 = M) := by
  refine ct_of (by decide) (Nat.le_of_ble_eq_true rfl) ?_
  intro x hl hg C hR
  subst hl
  subst hg
  have b := pne_bd hw hPl.1 hP
  refine X2_pageWithLine_0 C hR hk v M ⟨_, c2_firstAbove hk (isPl_A1 hk) hP.1 b.1 b.2.1 hv, ?_⟩
  rintro r A ⟨rfl, rfl⟩
  refine ⟨?_, rfl⟩
  unfold pgL
  exact fsA_cong (fun q hq => (hP.2 (q + 1) (by omega)).1)
set_option maxRecDepth 10000 in
set_option maxHeartbeats 1000000 in
theorem c2_pageOfFigure {l : Launch} {g : Gg} {M : Mm} {k : Nat} {s : Sg} {c : Cf} {P : Nat} {v : Int} (hk : isPl k) (hw : WF s) (hPl : Plan s c P) (hP : PnE M k s c P) (hv : inR v) : Ct l g mX2_pageOfFigure [vr g k, vi v] M (fun r M2 => r = pgF s c P v ∧ M2 = M) := by
  refine ct_of (by decide) (Nat.le_of_ble_eq_true rfl) ?_
  intro x hl hg C hR
  subst hl
  subst hg
  have b := pne_bd hw hPl.1 hP
  refine X2_pageOfFigure_0 C hR hk v M ⟨_, c2_firstAbove hk (isPl_A2 hk) hP.1 b.1 b.2.2 hv, ?_⟩
  rintro r A ⟨rfl, rfl⟩
  refine ⟨?_, rfl⟩
  unfold pgF
  exact fsA_cong (fun q hq => (hP.2 (q + 1) (by omega)).2)
set_option maxRecDepth 10000 in
set_option maxHeartbeats 1000000 in
theorem c2_pageWithLine_n {l : Launch} {g : Gg} {M : Mm} {k : Nat} {v : Int} (hk : isPl k) (hP : M k 2 = -1) (hv : inR v) : Ct l g mX2_pageWithLine [vr g k, vi v] M (fun r M2 => r = -1 ∧ M2 = M) := by
  refine ct_of (by decide) (Nat.le_of_ble_eq_true rfl) ?_
  intro x hl hg C hR
  subst hl
  subst hg
  refine X2_pageWithLine_0 C hR hk v M ⟨_, c2_firstAbove_n hk (isPl_A1 hk) hP hv, ?_⟩
  rintro r A ⟨rfl, rfl⟩
  exact ⟨rfl, rfl⟩
set_option maxRecDepth 10000 in
set_option maxHeartbeats 1000000 in
theorem c2_pageOfFigure_n {l : Launch} {g : Gg} {M : Mm} {k : Nat} {v : Int} (hk : isPl k) (hP : M k 2 = -1) (hv : inR v) : Ct l g mX2_pageOfFigure [vr g k, vi v] M (fun r M2 => r = -1 ∧ M2 = M) := by
  refine ct_of (by decide) (Nat.le_of_ble_eq_true rfl) ?_
  intro x hl hg C hR
  subst hl
  subst hg
  refine X2_pageOfFigure_0 C hR hk v M ⟨_, c2_firstAbove_n hk (isPl_A2 hk) hP hv, ?_⟩
  rintro r A ⟨rfl, rfl⟩
  exact ⟨rfl, rfl⟩
set_option maxRecDepth 10000 in
set_option maxHeartbeats 1000000 in
theorem c2_costOfFigure {l : Launch} {g : Gg} {M : Mm} {k j : Nat} {s : Sg} {c : Cf} {P : Nat} {f : Int} (hk : isPl k) (hj : isMe j) (hw : WF s) (he : MeE M j s) (hPl : Plan s c P) (hP : PnE M k s c P) (hf : 0 ≤ f ∧ f < s 6) : Ct l g mX2_costOfFigure [vr g k, vr g j, vi f] M (fun r M2 => r = cst s c P f ∧ M2 = M) := by
  refine ct_of (by decide) (Nat.le_of_ble_eq_true rfl) ?_
  intro x hl hg C hR
  subst hl
  subst hg
  have h0 := hw.1
  have h6 := hw.2.2.2.2.2.2.1
  have b := pre_30 hw hPl.1
  have db := due_bd hw hf.1 hf.2
  obtain ⟨du, dw⟩ := he.2.2.2.2.2.1 f hf.1 hf.2
  have b1 := fsA_bd (g := pf s c) (v := f) (P := P)
  have b2' := fsA_bd (g := pl s c) (v := due s f) (P := P)
  refine X2_costOfFigure_0 C hR hk hj f M ?_
  rw [hP.1, dw]
  refine ⟨⟨by omega, by omega⟩, fun _ => ⟨⟨by omega, by omega⟩, _, c2_pageOfFigure hk hw hPl hP ⟨by omega, by omega⟩, ?_⟩, fun q => absurd q (by omega)⟩
  rintro r A ⟨rfl, rfl⟩
  rw [du]
  refine ⟨⟨by omega, by omega⟩, _, c2_pageWithLine hk hw hPl hP ⟨by omega, by omega⟩, ?_⟩
  rintro r B ⟨rfl, rfl⟩
  have r1 : inR (pgF s c P f - pgL s c P (due s f)) := by
    unfold pgF pgL
    exact ⟨by omega, by omega⟩
  refine ⟨r1, ?_, rfl⟩
  unfold cst wt
  rw [Int.zero_sub]
set_option maxRecDepth 10000 in
set_option maxHeartbeats 1000000 in
theorem c2_costOfFigure_n {l : Launch} {g : Gg} {M : Mm} {k j : Nat} {f : Int} (hk : isPl k) (hj : isMe j) (hP : M k 2 = -1) : Ct l g mX2_costOfFigure [vr g k, vr g j, vi f] M (fun r M2 => r = -1 ∧ M2 = M) := by
  refine ct_of (by decide) (Nat.le_of_ble_eq_true rfl) ?_
  intro x hl hg C hR
  subst hl
  subst hg
  refine X2_costOfFigure_0 C hR hk hj f M ?_
  rw [hP]
  exact ⟨by decide, fun q => absurd rfl q, fun _ => ⟨rfl, rfl⟩⟩
set_option maxRecDepth 10000 in
set_option maxHeartbeats 1000000 in
theorem c2_cost_l {x : Xx} {post : Int → Mm → Prop} (C : Cx x mX2_cost) (hR : Rt x mX2_cost post) {M : Mm} {k j : Nat} (hk : isPl k) (hj : isMe j) {s : Sg} {c : Cf} {P : Nat} (hw : WF s) (he : MeE M j s) (hPl : Plan s c P) (hP : PnE M k s c P) (hp : post (sm (cst s c P) (s 6).toNat) M) : ∀ (d i : Nat), i + d = (s 6).toNat → Gx x 4 14 [(0, vr (xg x) k), (1, vr (xg x) j), (2, vi (sm (cst s c P) i)), (3, vi (i : Int))] [] M := by
  have h6 := hw.2.2.2.2.2.2.1
  have e1 := he.2.1
  intro d
  induction d with
  | zero =>
    intro i hi
    have : i = (s 6).toNat := by omega
    subst this
    refine X2_cost_14 C hR hk hj _ _ M ?_
    rw [e1]
    exact ⟨⟨⟨by omega, by omega⟩, by omega, by omega⟩, fun _ => hp, fun q => absurd (by omega) q⟩
  | succ d ih =>
    intro i hi
    have hx := ih (i + 1) (by omega)
    refine X2_cost_14 C hR hk hj _ _ M ?_
    rw [e1]
    refine ⟨⟨⟨by omega, by omega⟩, by omega, by omega⟩, fun q => absurd q (by omega), fun _ => ⟨_, c2_costOfFigure hk hj hw he hPl hP ⟨by omega, by omega⟩, ?_⟩⟩
    rintro r A ⟨rfl, rfl⟩ w hw30
    rw [hw30]
    exact hx
set_option maxRecDepth 10000 in
set_option maxHeartbeats 1000000 in
theorem c2_cost {l : Launch} {g : Gg} {M : Mm} {k j : Nat} {s : Sg} {c : Cf} {P : Nat} (hk : isPl k) (hj : isMe j) (hw : WF s) (he : MeE M j s) (hPl : Plan s c P) (hP : PnE M k s c P) : Ct l g mX2_cost [vr g k, vr g j] M (fun r M2 => r = paS s c P ∧ M2 = M) := by
  refine ct_of (by decide) (Nat.le_of_ble_eq_true rfl) ?_
  intro x hl hg C hR
  subst hl
  subst hg
  have b := pre_30 hw hPl.1
  refine X2_cost_0 C hR hk hj M ?_
  rw [hP.1]
  exact ⟨⟨by omega, by omega⟩, fun _ => c2_cost_l C hR hk hj hw he hPl hP ⟨cst_sum hw hPl, rfl⟩ (s 6).toNat 0 (by omega), fun q => absurd q (by omega)⟩
set_option maxRecDepth 10000 in
set_option maxHeartbeats 1000000 in
theorem c2_cost_n {l : Launch} {g : Gg} {M : Mm} {k j : Nat} (hk : isPl k) (hj : isMe j) (hP : M k 2 = -1) : Ct l g mX2_cost [vr g k, vr g j] M (fun r M2 => r = -1 ∧ M2 = M) := by
  refine ct_of (by decide) (Nat.le_of_ble_eq_true rfl) ?_
  intro x hl hg C hR
  subst hl
  subst hg
  refine X2_cost_0 C hR hk hj M ?_
  rw [hP]
  exact ⟨by decide, fun q => absurd rfl q, fun _ => ⟨rfl, rfl⟩⟩
set_option maxRecDepth 10000 in
set_option maxHeartbeats 1000000 in
theorem c2_heavy_l {x : Xx} {post : Int → Mm → Prop} (C : Cx x mX2_heavy) (hR : Rt x mX2_heavy post) {M : Mm} {k j : Nat} (hk : isPl k) (hj : isMe j) {s : Sg} {c : Cf} {P : Nat} (hw : WF s) (he : MeE M j s) (hPl : Plan s c P) (hP : PnE M k s c P) (hp : post (hvy s c P (s 6).toNat).1 M) : ∀ (d i : Nat), i + d = (s 6).toNat → Gx x 6 7 [(0, vr (xg x) k), (1, vr (xg x) j), (2, vi (hvy s c P i).1), (3, vi (hvy s c P i).2), (4, vi (i : Int))] [] M := by
  have h6 := hw.2.2.2.2.2.2.1
  have e1 := he.2.1
  intro d
  induction d with
  | zero =>
    intro i hi
    have : i = (s 6).toNat := by omega
    subst this
    refine X2_heavy_7 C hR hk hj _ _ _ M ?_
    rw [e1]
    exact ⟨⟨⟨by omega, by omega⟩, by omega, by omega⟩, fun _ => hp, fun q => absurd (by omega) q⟩
  | succ d ih =>
    intro i hi
    have hx := ih (i + 1) (by omega)
    have hb := hvy_bd hw hPl i (by omega)
    have cb := cst_bd hw hPl (f := (i : Int)) ⟨by omega, by omega⟩
    refine X2_heavy_7 C hR hk hj _ _ _ M ?_
    rw [e1]
    refine ⟨⟨⟨by omega, by omega⟩, by omega, by omega⟩, fun q => absurd q (by omega), fun _ => ⟨_, c2_costOfFigure hk hj hw he hPl hP ⟨by omega, by omega⟩, ?_⟩⟩
    rintro r A ⟨rfl, rfl⟩
    simp only [hvy] at hx
    refine ⟨⟨⟨by omega, by omega⟩, by omega, by omega⟩, fun q => ?_, fun q => ?_⟩
    · rw [if_neg (by omega)] at hx
      exact hx
    · rw [if_pos (by omega)] at hx
      exact hx
set_option maxRecDepth 10000 in
set_option maxHeartbeats 1000000 in
theorem c2_heavy {l : Launch} {g : Gg} {M : Mm} {k j : Nat} {s : Sg} {c : Cf} {P : Nat} (hk : isPl k) (hj : isMe j) (hw : WF s) (he : MeE M j s) (hPl : Plan s c P) (hP : PnE M k s c P) : Ct l g mX2_heavy [vr g k, vr g j] M (fun r M2 => r = (hvy s c P (s 6).toNat).1 ∧ M2 = M) := by
  refine ct_of (by decide) (Nat.le_of_ble_eq_true rfl) ?_
  intro x hl hg C hR
  subst hl
  subst hg
  exact X2_heavy_0 C hR hk hj M (c2_heavy_l C hR hk hj hw he hPl hP ⟨rfl, rfl⟩ (s 6).toNat 0 (by omega))
set_option maxRecDepth 10000 in
set_option maxHeartbeats 1000000 in
theorem c2_heavy_nl {x : Xx} {post : Int → Mm → Prop} (C : Cx x mX2_heavy) (hR : Rt x mX2_heavy post) {M : Mm} {k j : Nat} (hk : isPl k) (hj : isMe j) {s : Sg} (hw : WF s) (he : MeE M j s) (hP : M k 2 = -1) (hp : post (-1) M) : ∀ (d i : Nat), i + d = (s 6).toNat → Gx x 6 7 [(0, vr (xg x) k), (1, vr (xg x) j), (2, vi (-1)), (3, vi 0), (4, vi (i : Int))] [] M := by
  have h6 := hw.2.2.2.2.2.2.1
  have e1 := he.2.1
  intro d
  induction d with
  | zero =>
    intro i hi
    refine X2_heavy_7 C hR hk hj _ _ _ M ?_
    rw [e1]
    exact ⟨⟨⟨by omega, by omega⟩, by omega, by omega⟩, fun _ => hp, fun q => absurd (by omega) q⟩
  | succ d ih =>
    intro i hi
    have hx := ih (i + 1) (by omega)
    refine X2_heavy_7 C hR hk hj _ _ _ M ?_
    rw [e1]
    refine ⟨⟨⟨by omega, by omega⟩, by omega, by omega⟩, fun q => absurd q (by omega), fun _ => ⟨_, c2_costOfFigure_n hk hj hP, ?_⟩⟩
    rintro r A ⟨rfl, rfl⟩
    exact ⟨⟨by decide, by decide⟩, fun _ => hx, fun q => absurd (by decide) q⟩
set_option maxRecDepth 10000 in
set_option maxHeartbeats 1000000 in
theorem c2_heavy_n {l : Launch} {g : Gg} {M : Mm} {k j : Nat} {s : Sg} (hk : isPl k) (hj : isMe j) (hw : WF s) (he : MeE M j s) (hP : M k 2 = -1) : Ct l g mX2_heavy [vr g k, vr g j] M (fun r M2 => r = -1 ∧ M2 = M) := by
  refine ct_of (by decide) (Nat.le_of_ble_eq_true rfl) ?_
  intro x hl hg C hR
  subst hl
  subst hg
  exact X2_heavy_0 C hR hk hj M (c2_heavy_nl C hR hk hj hw he hP ⟨rfl, rfl⟩ (s 6).toNat 0 (by omega))
