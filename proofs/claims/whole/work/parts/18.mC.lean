/-! ===== the reference: the best plan, the greedy one, what they say ===== -/
theorem best_gs {s : Sg} (hw : WF s) (hc : clash s (s 6).toNat = -1) {ll f : Int} (hl : 0 ≤ ll ∧ ll ≤ s 0) (hf : 0 ≤ f ∧ f ≤ s 6) (hne : ¬ isEnd s ll f) : GS s ll f (cb s ll f) ∧ pgB s ll f (cb s ll f) = true ∧ cb s ll f ≤ s 4 := by
  have h4 := hw.2.2.2.2.1
  have b := best_page hw hl hf hne (no_clash hw hc (mz s ll f) ll f hl hf (Nat.le_refl _))
  exact ⟨gs_of hw hl hf.1 ⟨b.1, by omega⟩ b.2.2.1, b.2.2.1, b.2.1⟩
set_option maxRecDepth 10000 in
set_option maxHeartbeats 1000000 in
theorem c6_isPlanned_i {x : Xx} {post : Int → Mm → Prop} (C : Cx x mX6_isPlanned) (hR : Rt x mX6_isPlanned post) {M : Mm} {s : Sg} (hw : WF s) (hs : M 106 = s) (hT : Tab s M) (hc : clash s (s 6).toNat = -1) {p : Nat} (hpre : Pre s (cB s) p) (hne : ¬ isEnd s (pl s (cB s) p) (pf s (cB s) p)) (hPl : PlM s (cB s) M p) (hp : Gx x 4 19 [(0, vr (xg x) 105), (1, vi (pl s (cB s) (p + 1))), (2, vi (pf s (cB s) (p + 1)))] [] (adP M p (pn s (cB s) p) (pl s (cB s) (p + 1)) (pf s (cB s) (p + 1)))) : ∀ (d : Nat) (j : Int), j + (d : Int) = pn s (cB s) p → 0 ≤ j → Gx x 4 42 [(0, vr (xg x) 105), (1, vi (pl s (cB s) p)), (2, vi (pf s (cB s) p)), (3, vi j)] [] M := by
  have h0 := hw.1
  have h4 := hw.2.2.2.2.1
  have h6 := hw.2.2.2.2.2.2.1
  have bd := pre_bd hw hpre
  have p30 := pre_30 hw hpre
  have hl : 0 ≤ pl s (cB s) p ∧ pl s (cB s) p ≤ s 0 := ⟨by omega, by omega⟩
  have hf : 0 ≤ pf s (cB s) p ∧ pf s (cB s) p ≤ s 6 := ⟨by omega, by omega⟩
  have nc := no_clash hw hc (mz s (pl s (cB s) p) (pf s (cB s) p)) _ _ hl hf (Nat.le_refl _)
  have bp := best_page hw hl hf hne nc
  have gs := best_gs hw hc hl hf hne
  have epn : pn s (cB s) p = cb s (pl s (cB s) p) (pf s (cB s) p) := rfl
  intro d
  induction d with
  | zero =>
    intro j hj hj0
    have ej : j = pn s (cB s) p := by omega
    rw [ej, epn]
    refine X6_isPlanned_42 C hR _ _ _ M ⟨_, c6_isBestPage hw hs hl hf ⟨bp.1, by omega⟩ hT, ?_⟩
    rintro r M1 ⟨rfl, rfl⟩
    refine ⟨b2_inR _, fun _ => ⟨_, c6_addPage (p := (p : Int)) (by rw [hs]; exact hw) ⟨by omega, by omega⟩ hf.1 (by rw [hs]; exact ⟨bp.1, by omega, gs.1.2.1⟩) hPl.1 ⟨by omega, by omega⟩, ?_⟩, fun hz => ?_⟩
    · rintro r M2 rfl
      rw [hs]
      have e1 : adP M1 (p : Int) (cb s (pl s (cB s) p) (pf s (cB s) p)) (lb s (pl s (cB s) p) (pf s (cB s) p) (cb s (pl s (cB s) p) (pf s (cB s) p))) (pf s (cB s) p + cb s (pl s (cB s) p) (pf s (cB s) p)) = adP M1 p (pn s (cB s) p) (pl s (cB s) (p + 1)) (pf s (cB s) (p + 1)) := rfl
      rw [e1]
      have ha := adP_pl hPl
      have e2 : (adP M1 p (pn s (cB s) p) (pl s (cB s) (p + 1)) (pf s (cB s) (p + 1))) 105 12 - 1 = (p : Int) := by rw [ha.1]; omega
      rw [e2]
      refine ⟨⟨by omega, by omega⟩, fun w76 h76 w80 h80 => ?_⟩
      rw [(ha.2 p (by omega)).2.1] at h76
      rw [h76, h80]
      exact hp
    · have hb : bpB s (pl s (cB s) p) (pf s (cB s) p) (cb s (pl s (cB s) p) (pf s (cB s) p)) = true := by
        have e1 : byB s (pl s (cB s) p) (pf s (cB s) p) (cb s (pl s (cB s) p) (pf s (cB s) p)) < 100000000 := by rw [bp.2.2.2.1]; exact nc
        simp only [bpB, bp.2.2.1, decide_eq_true e1, decide_eq_true bp.2.2.2.1, decide_eq_true bp.2.2.2.2.1, Bool.and_true]
      rw [hb] at hz
      cases hz
  | succ d ih =>
    intro j hj hj0
    refine X6_isPlanned_42 C hR _ _ _ M ⟨_, c6_isBestPage hw hs hl hf ⟨hj0, by omega⟩ hT, ?_⟩
    rintro r M1 ⟨rfl, rfl⟩
    refine ⟨b2_inR _, fun hz => ?_, fun _ => ih (j + 1) (by omega) (by omega)⟩
    have hb := b2_nz hz
    unfold bpB at hb
    simp only [Bool.and_eq_true, decide_eq_true_eq] at hb
    exact absurd ⟨hb.2.2.1, hb.2.2.2⟩ (bp.2.2.2.2.2 j hj0 (by omega) hb.1)
set_option maxRecDepth 10000 in
set_option maxHeartbeats 1000000 in
theorem c6_isPlanned_o {x : Xx} {post : Int → Mm → Prop} (C : Cx x mX6_isPlanned) (hR : Rt x mX6_isPlanned post) {M : Mm} {s : Sg} (hw : WF s) (hs : M 106 = s) (hc : clash s (s 6).toNat = -1) (hp : ∀ (P : Nat) (M2 : Mm), FrP M M2 → Tab s M2 → Plan s (cB s) P → PlM s (cB s) M2 P → post 1 M2) : ∀ (d p : Nat), p + d = 31 → ∀ M2, FrP M M2 → Tab s M2 → Pre s (cB s) p → PlM s (cB s) M2 p → Gx x 4 19 [(0, vr (xg x) 105), (1, vi (pl s (cB s) p)), (2, vi (pf s (cB s) p))] [] M2 := by
  have h0 := hw.1
  have h6 := hw.2.2.2.2.2.2.1
  intro d
  induction d with
  | zero =>
    intro p hpd M2 h1 h2 h3 h4
    have := pre_30 hw h3
    omega
  | succ d ih =>
    intro p hpd M2 h1 h2 h3 h4
    have e6 : M2 106 = s := h1.s.trans hs
    have bd := pre_bd hw h3
    have go : ¬ isEnd s (pl s (cB s) p) (pf s (cB s) p) → Gx x 4 42 [(0, vr (xg x) 105), (1, vi (pl s (cB s) p)), (2, vi (pf s (cB s) p)), (3, vi 0)] [] M2 := by
      intro hne
      have gs := best_gs hw hc (ll := pl s (cB s) p) (f := pf s (cB s) p) ⟨by omega, by omega⟩ ⟨by omega, by omega⟩ hne
      refine c6_isPlanned_i C hR hw e6 h2 hc h3 hne h4 ?_ (pn s (cB s) p).toNat 0 (by have : 0 ≤ pn s (cB s) p := gs.1.1; omega) (by omega)
      refine ih (p + 1) (by omega) _ (h1.tr (adP_fr _ _ _ _ _)) (adP_tab h2) ?_ (adP_pl h4)
      intro q hq
      rcases Nat.lt_or_ge q p with z | z
      · exact h3 q z
      · have : q = p := by omega
        subst this
        exact ⟨gs.1, hne⟩
    refine X6_isPlanned_19 C hR _ _ M2 ⟨⟨⟨by omega, by omega⟩, by rw [e6]; omega, by rw [e6]; omega⟩, fun q => go (fun z => by rw [e6] at q; have := z.1; omega), fun q => ⟨⟨⟨by omega, by omega⟩, by rw [e6]; omega, by rw [e6]; omega⟩, fun q2 => hp p M2 h1 h2 ⟨h3, ?_⟩ h4, fun q2 => go (fun z => by rw [e6] at q2; have := z.2; omega)⟩⟩
    rw [e6] at q q2
    exact ⟨by omega, by omega⟩
theorem bst_m1 {s : Sg} (h : WF s) : bst s = -1 ↔ ¬ clash s (s 6).toNat = -1 := by
  have hv := VV_ok h (ll := 0) (f := 0) (by omega) (by omega)
  unfold Vok at hv
  rw [← bst_none h]
  unfold bst
  split <;> omega
set_option maxRecDepth 10000 in
set_option maxHeartbeats 1000000 in
theorem c6_isPlanned {l : Launch} {g : Gg} {M : Mm} {s : Sg} (hw : WF s) (hs : M 106 = s) : Ct l g mX6_isPlanned [vr g 105] M (fun r M2 => FrP M M2 ∧ Tab s M2 ∧ ((clash s (s 6).toNat = -1 ∧ r = 1 ∧ ∃ P, Plan s (cB s) P ∧ PlM s (cB s) M2 P) ∨ (¬ clash s (s 6).toNat = -1 ∧ r = 0))) := by
  refine ct_of (by decide) (Nat.le_of_ble_eq_true rfl) ?_
  intro x hl hg C hR
  subst hl
  subst hg
  have h0 := hw.1
  have hb := bst_m1 hw
  have hv := VV_ok hw (ll := 0) (f := 0) (by omega) (by omega)
  unfold Vok at hv
  refine X6_isPlanned_0 C hR M (fun M2 h2 => ?_)
  have e6 : M2 106 = s := by rw [h2, mu_ne (by decide), hs]
  have f2 : FrP M M2 := by
    refine ⟨fun a a1 _ _ _ _ _ _ => by rw [h2, mu_ne a1], fun i hi => by rw [h2, mu_off hi]⟩
  refine ⟨_, c6_bestOf (by rw [e6]; exact hw), ?_⟩
  rintro r M6 ⟨rfl, h3, h4⟩
  rw [e6] at h4 ⊢
  refine ⟨by unfold bst; split <;> omega, fun q => ?_, fun q => ⟨f2.tr h3.P, h4, Or.inr ⟨hb.mp q, rfl⟩⟩⟩
  have hc : clash s (s 6).toNat = -1 := by
    by_cases z : clash s (s 6).toNat = -1
    · exact z
    · exact absurd (hb.mpr z) q
  have e66 : M6 106 = s := by rw [h3 106 (by decide) (by decide) (by decide), e6]
  refine c6_isPlanned_o C hR (M := M6) hw e66 hc ?_ 31 0 (by omega) M6 (FrP.rf M6) h4 (fun p hp => absurd hp (by omega)) ⟨?_, fun p hp => absurd hp (by omega)⟩
  · intro P M7 k1 k2 k3 k4
    exact ⟨(f2.tr h3.P).tr k1, k2, Or.inl ⟨hc, rfl, P, k3, k4⟩⟩
  · rw [h3 105 (by decide) (by decide) (by decide), h2, mu_at]
    rfl
/-! greedy -/
def grd (s : Sg) (ll f : Int) : Nat → Int
  | 0 => 0
  | n + 1 => if fitB s f ((n : Int) + 1) = true ∧ (s 0 ≤ ll ∨ amB s f (lb s ll f ((n : Int) + 1)) (n + 1) = true) then (n : Int) + 1 else grd s ll f n
def gr (s : Sg) (ll f : Int) : Int := grd s ll f (if s 6 - f ≤ s 4 then s 6 - f else s 4).toNat
abbrev cG (s : Sg) : Cf := fun _ ll f => gr s ll f
theorem grd_bd (s : Sg) (ll f : Int) : ∀ n : Nat, 0 ≤ grd s ll f n ∧ grd s ll f n ≤ (n : Int)
  | 0 => by simp [grd]
  | n + 1 => by
    have := grd_bd s ll f n
    simp only [grd]
    split <;> omega
theorem grd_fit {s : Sg} (hw : WF s) (ll f : Int) : ∀ n : Nat, fitB s f (grd s ll f n) = true ∧ (s 0 ≤ ll ∨ amB s f (lb s ll f (grd s ll f n)) (grd s ll f n).toNat = true)
  | 0 => ⟨fit_zero hw f, Or.inr rfl⟩
  | n + 1 => by
    simp only [grd]
    split
    · rename_i h
      refine ⟨h.1, ?_⟩
      rcases h.2 with q | q
      · exact Or.inl q
      · right
        have : ((n : Int) + 1).toNat = n + 1 := by omega
        rw [this]
        exact q
    · exact grd_fit hw ll f n
theorem am_all {s : Sg} {f c : Int} {n : Nat} (hc : s 0 ≤ c) : amB s f c n = true := by
  unfold amB
  rw [allB_iff]
  intro k _
  have := due_lt (s := s) (f + (k : Int))
  rw [decide_eq_true_eq]
  omega
theorem gr_gs {s : Sg} (hw : WF s) (hc : clash s (s 6).toNat = -1) {ll f : Int} (hl : 0 ≤ ll ∧ ll ≤ s 0) (hf : 0 ≤ f ∧ f ≤ s 6) (hne : ¬ isEnd s ll f) : GS s ll f (gr s ll f) ∧ 0 ≤ gr s ll f ∧ gr s ll f ≤ s 4 ∧ f + gr s ll f ≤ s 6 ∧ pgB s ll f (gr s ll f) = true := by
  have h4 := hw.2.2.2.2.1
  have h6 := hw.2.2.2.2.2.2.1
  have bd := grd_bd s ll f (if s 6 - f ≤ s 4 then s 6 - f else s 4).toNat
  have ft := grd_fit hw ll f (if s 6 - f ≤ s 4 then s 6 - f else s 4).toNat
  have b0 : 0 ≤ gr s ll f ∧ gr s ll f ≤ s 4 ∧ f + gr s ll f ≤ s 6 := by
    unfold gr
    by_cases q : s 6 - f ≤ s 4
    · rw [if_pos q] at bd ⊢
      omega
    · rw [if_neg q] at bd ⊢
      omega
  have hfit : fitB s f (gr s ll f) = true := ft.1
  have htk := fit_tk hw hf.1 (n := gr s ll f) ⟨b0.1, by omega, b0.2.2⟩ hfit
  have hlb : ll ≤ lb s ll f (gr s ll f) ∧ lb s ll f (gr s ll f) ≤ s 0 := by
    unfold lb
    split <;> omega
  have ham : amB s f (lb s ll f (gr s ll f)) (gr s ll f).toNat = true := by
    rcases ft.2 with q | q
    · exact am_all (by omega)
    · exact q
  have hpos : 0 < lb s ll f (gr s ll f) - ll + gr s ll f := by
    rcases Int.lt_or_le 0 (gr s ll f) with z | z
    · omega
    · have e0 : gr s ll f = 0 := by omega
      rcases Int.lt_or_le ll (s 0) with q | q
      · have := (pg_zero hw (f := f) ⟨hl.1, q⟩ hf).2
        have hrm := rm_bd hw
        rw [e0, this]
        split <;> omega
      · exfalso
        have hf2 : f < s 6 := by
          rcases Int.lt_or_le f (s 6) with w | w
          · exact w
          · exact absurd ⟨by omega, by omega⟩ hne
        have f1 := clash_none hc f.toNat (by omega)
        rw [Int.toNat_of_nonneg hf.1] at f1
        have key : ∀ n : Nat, 1 ≤ n → 0 < grd s ll f n := by
          intro n
          induction n with
          | zero => intro h; omega
          | succ n ih =>
            intro _
            simp only [grd]
            split
            · omega
            · rename_i hno
              rcases Nat.eq_zero_or_pos n with w | w
              · subst w
                exact absurd ⟨f1, Or.inl q⟩ hno
              · exact ih w
        have := key (if s 6 - f ≤ s 4 then s 6 - f else s 4).toNat (by split <;> omega)
        unfold gr at e0
        omega
  have hpg : pgB s ll f (gr s ll f) = true := by
    simp only [pgB, decide_eq_true b0.2.2, hfit, decide_eq_true hpos, ham, Bool.true_and, Bool.or_true]
  exact ⟨gs_of hw hl hf.1 ⟨b0.1, by omega⟩ hpg, b0.1, b0.2.1, b0.2.2, hpg⟩
set_option maxRecDepth 10000 in
set_option maxHeartbeats 1000000 in
theorem c6_isGreedy_i {x : Xx} {post : Int → Mm → Prop} (C : Cx x mX6_isGreedy) (hR : Rt x mX6_isGreedy post) {M : Mm} {s : Sg} (hw : WF s) (hs : M 106 = s) {ll f : Int} (hl : 0 ≤ ll ∧ ll ≤ s 0) (hf : 0 ≤ f ∧ f ≤ s 6) : ∀ (n : Nat), (n : Int) ≤ 4 → f + (n : Int) ≤ s 6 → Gx x 4 118 [(0, vr (xg x) 105), (1, vi ll), (2, vi f), (3, vi (grd s ll f n))] [] M → Gx x 4 77 [(0, vr (xg x) 105), (1, vi ll), (2, vi f), (3, vi (n : Int))] [] M := by
  have h0 := hw.1
  have h6 := hw.2.2.2.2.2.2.1
  intro n
  induction n with
  | zero =>
    intro hn1 hn2 hp
    refine X6_isGreedy_77 C hR ll f _ M ⟨_, c6_isFit (by rw [hs]; exact hw) hf.1 (by rw [hs]; exact ⟨by omega, by omega, by omega⟩), ?_⟩
    rintro r M1 ⟨rfl, rfl⟩
    rw [hs]
    have e0 : fitB s f ((0 : Nat) : Int) = true := fit_zero hw f
    refine ⟨b2_inR _, fun q => ?_, fun _ => ⟨⟨⟨by omega, by omega⟩, by omega, by omega⟩, fun _ => hp, fun q => ?_⟩⟩
    · rw [e0] at q
      cases q
    · have bb := lb_bd hw hl hf.1 (n := ((0 : Nat) : Int)) ⟨by omega, by omega, by omega⟩
      refine ⟨_, c6_linesBehind (by rw [hs]; exact hw) ⟨by omega, by omega⟩ hf.1 (by rw [hs]; exact ⟨by omega, by omega, by omega⟩), ?_⟩
      rintro r M2 ⟨rfl, rfl⟩
      rw [hs]
      refine ⟨_, c6_areMentioned (by rw [hs]; exact hw) hf.1 (by rw [hs]; exact ⟨by omega, by omega, by omega⟩) ⟨by omega, by omega⟩, ?_⟩
      rintro r M3 ⟨rfl, rfl⟩
      refine ⟨b2_inR _, fun _ => hp, fun q => ?_⟩
      have e1 : amB (M3 106) f (lb s ll f ((0 : Nat) : Int)) ((0 : Nat) : Int).toNat = true := rfl
      rw [e1] at q
      cases q
  | succ n ih =>
    intro hn1 hn2 hp
    have e9 : ((n + 1 : Nat) : Int) + (-1) = (n : Int) := by omega
    have e8 : ((n + 1 : Nat) : Int) = (n : Int) + 1 := by omega
    have e7 : ((n : Int) + 1).toNat = n + 1 := by omega
    refine X6_isGreedy_77 C hR ll f _ M ⟨_, c6_isFit (by rw [hs]; exact hw) hf.1 (by rw [hs]; exact ⟨by omega, by omega, by omega⟩), ?_⟩
    rintro r M1 ⟨rfl, rfl⟩
    rw [hs, e9]
    simp only [grd] at hp
    refine ⟨b2_inR _, fun q => ?_, fun q => ⟨⟨⟨by omega, by omega⟩, by omega, by omega⟩, fun q2 => ?_, fun q2 => ?_⟩⟩
    · have := b2_z q
      rw [e8] at this
      rw [if_neg (fun z => by rw [this] at z; exact absurd z.1 (by decide))] at hp
      exact ih (by omega) (by omega) hp
    · have := b2_nz q
      rw [e8] at this
      rw [if_pos ⟨this, Or.inl q2⟩] at hp
      exact hp
    · have hfit := b2_nz q
      rw [e8] at hfit
      have bb := lb_bd hw hl hf.1 (n := ((n + 1 : Nat) : Int)) ⟨by omega, by omega, by omega⟩
      refine ⟨_, c6_linesBehind (by rw [hs]; exact hw) ⟨by omega, by omega⟩ hf.1 (by rw [hs]; exact ⟨by omega, by omega, by omega⟩), ?_⟩
      rintro r M2 ⟨rfl, rfl⟩
      rw [hs]
      refine ⟨_, c6_areMentioned (by rw [hs]; exact hw) hf.1 (by rw [hs]; exact ⟨by omega, by omega, by omega⟩) ⟨by omega, by omega⟩, ?_⟩
      rintro r M3 ⟨rfl, rfl⟩
      rw [hs, e8, e7]
      refine ⟨b2_inR _, fun q3 => ?_, fun q3 => ?_⟩
      · rw [if_pos ⟨hfit, Or.inr (b2_nz q3)⟩] at hp
        exact hp
      · have := b2_z q3
        rw [if_neg (fun z => by rcases z.2 with w | w; exact absurd w q2; rw [this] at w; cases w)] at hp
        exact ih (by omega) (by omega) hp
set_option maxRecDepth 10000 in
set_option maxHeartbeats 1000000 in
theorem c6_isGreedy_o {x : Xx} {post : Int → Mm → Prop} (C : Cx x mX6_isGreedy) (hR : Rt x mX6_isGreedy post) {M : Mm} {s : Sg} (hw : WF s) (hs : M 106 = s) (hc : clash s (s 6).toNat = -1) (hp : ∀ (P : Nat) (M2 : Mm), FrP M M2 → Plan s (cG s) P → PlM s (cG s) M2 P → post 1 M2) : ∀ (d p : Nat), p + d = 31 → ∀ M2, FrP M M2 → Pre s (cG s) p → PlM s (cG s) M2 p → Gx x 4 19 [(0, vr (xg x) 105), (1, vi (pl s (cG s) p)), (2, vi (pf s (cG s) p))] [] M2 := by
  have h0 := hw.1
  have h4 := hw.2.2.2.2.1
  have h6 := hw.2.2.2.2.2.2.1
  intro d
  induction d with
  | zero =>
    intro p hpd M2 h1 h3 h4
    have := pre_30 hw h3
    omega
  | succ d ih =>
    intro p hpd M2 h1 h3 hP
    have e6 : M2 106 = s := h1.s.trans hs
    have bd := pre_bd hw h3
    have p30 := pre_30 hw h3
    have hl : 0 ≤ pl s (cG s) p ∧ pl s (cG s) p ≤ s 0 := ⟨by omega, by omega⟩
    have hf : 0 ≤ pf s (cG s) p ∧ pf s (cG s) p ≤ s 6 := ⟨by omega, by omega⟩
    have go : ¬ isEnd s (pl s (cG s) p) (pf s (cG s) p) → Gx x 4 40 [(0, vr (xg x) 105), (1, vi (pl s (cG s) p)), (2, vi (pf s (cG s) p))] [] M2 := by
      intro hne
      have gs := gr_gs hw hc hl hf hne
      have e118 : Gx x 4 118 [(0, vr (xg x) 105), (1, vi (pl s (cG s) p)), (2, vi (pf s (cG s) p)), (3, vi (gr s (pl s (cG s) p) (pf s (cG s) p)))] [] M2 := by
        refine X6_isGreedy_118 C hR _ _ _ M2 ⟨_, c6_addPage (p := (p : Int)) (by rw [e6]; exact hw) ⟨by omega, by omega⟩ hf.1 (by rw [e6]; exact ⟨gs.2.1, by omega, gs.2.2.2.1⟩) hP.1 ⟨by omega, by omega⟩, ?_⟩
        rintro r M3 rfl
        rw [e6]
        have e1 : adP M2 (p : Int) (gr s (pl s (cG s) p) (pf s (cG s) p)) (lb s (pl s (cG s) p) (pf s (cG s) p) (gr s (pl s (cG s) p) (pf s (cG s) p))) (pf s (cG s) p + gr s (pl s (cG s) p) (pf s (cG s) p)) = adP M2 p (pn s (cG s) p) (pl s (cG s) (p + 1)) (pf s (cG s) (p + 1)) := rfl
        rw [e1]
        have ha := adP_pl hP
        have e2 : (adP M2 p (pn s (cG s) p) (pl s (cG s) (p + 1)) (pf s (cG s) (p + 1))) 105 12 - 1 = (p : Int) := by rw [ha.1]; omega
        rw [e2]
        refine ⟨⟨by omega, by omega⟩, fun w76 h76 w80 h80 => ?_⟩
        rw [(ha.2 p (by omega)).2.1] at h76
        rw [h76, h80]
        refine ih (p + 1) (by omega) _ (h1.tr (adP_fr _ _ _ _ _)) ?_ ha
        intro q hq
        rcases Nat.lt_or_ge q p with z | z
        · exact h3 q z
        · have : q = p := by omega
          subst this
          exact ⟨gs.1, hne⟩
      have use : ∀ w : Int, w = (if s 6 - pf s (cG s) p ≤ s 4 then s 6 - pf s (cG s) p else s 4) → Gx x 4 77 [(0, vr (xg x) 105), (1, vi (pl s (cG s) p)), (2, vi (pf s (cG s) p)), (3, vi w)] [] M2 := by
        intro w hwq
        have w0 : 0 ≤ w ∧ w ≤ 4 ∧ pf s (cG s) p + w ≤ s 6 := by
          rw [hwq]
          split <;> omega
        have := c6_isGreedy_i C hR hw e6 hl hf w.toNat (by omega) (by omega)
        rw [Int.toNat_of_nonneg w0.1] at this
        refine this ?_
        rw [hwq]
        exact e118
      refine X6_isGreedy_40 C hR _ _ M2 ?_
      rw [e6]
      refine ⟨⟨⟨by omega, by omega⟩, by omega, by omega⟩, fun q w hwq => use w (by rw [if_pos q]; exact hwq), fun q w hwq => use w (by rw [if_neg q]; exact hwq)⟩
    refine X6_isGreedy_19 C hR _ _ M2 ⟨⟨⟨by omega, by omega⟩, by rw [e6]; omega, by rw [e6]; omega⟩, fun q => go (fun z => by rw [e6] at q; have := z.1; omega), fun q => ⟨⟨⟨by omega, by omega⟩, by rw [e6]; omega, by rw [e6]; omega⟩, fun q2 => hp p M2 h1 ⟨h3, ?_⟩ hP, fun q2 => go (fun z => by rw [e6] at q2; have := z.2; omega)⟩⟩
    rw [e6] at q q2
    exact ⟨by omega, by omega⟩
set_option maxRecDepth 10000 in
set_option maxHeartbeats 1000000 in
theorem c6_isGreedy {l : Launch} {g : Gg} {M : Mm} {s : Sg} (hw : WF s) (hs : M 106 = s) : Ct l g mX6_isGreedy [vr g 105] M (fun r M2 => FrP M M2 ∧ ((clash s (s 6).toNat = -1 ∧ r = 1 ∧ ∃ P, Plan s (cG s) P ∧ PlM s (cG s) M2 P) ∨ (¬ clash s (s 6).toNat = -1 ∧ r = 0))) := by
  refine ct_of (by decide) (Nat.le_of_ble_eq_true rfl) ?_
  intro x hl hg C hR
  subst hl
  subst hg
  have h6 := hw.2.2.2.2.2.2.1
  refine X6_isGreedy_0 C hR M (fun M2 h2 => ?_)
  have e6 : M2 106 = s := by rw [h2, mu_ne (by decide), hs]
  have f2 : FrP M M2 := by
    refine ⟨fun a a1 _ _ _ _ _ _ => by rw [h2, mu_ne a1], fun i hi => by rw [h2, mu_off hi]⟩
  refine ⟨_, c6_clashing (by rw [e6]; exact hw), ?_⟩
  rintro r M6 ⟨rfl, rfl⟩
  rw [e6]
  have cl := clash_lt s (s 6).toNat
  refine ⟨⟨by omega, by omega⟩, fun hc => ?_, fun q => ⟨f2, Or.inr ⟨q, rfl⟩⟩⟩
  refine c6_isGreedy_o C hR (M := M6) hw e6 hc ?_ 31 0 (by omega) M6 (FrP.rf M6) (fun p hp => absurd hp (by omega)) ⟨?_, fun p hp => absurd hp (by omega)⟩
  · intro P M7 k1 k3 k4
    exact ⟨f2.tr k1, Or.inl ⟨hc, rfl, P, k3, k4⟩⟩
  · rw [h2, mu_at]
    rfl
/-! what a plan says: pages of figures and lines, costs -/
def wt (s : Sg) (f : Int) : Int := s (7 + 4 * f + 3)
/-- pages of figure f and of its mention, in a plan of P pages -/
def pgF (s : Sg) (c : Cf) (P : Nat) (f : Int) : Int := fsA (pf s c) f P
def pgL (s : Sg) (c : Cf) (P : Nat) (ll : Int) : Int := fsA (pl s c) ll P
theorem plan_fig {s : Sg} (hw : WF s) {c : Cf} {P : Nat} (h : Plan s c P) {f : Int} (hf : 0 ≤ f ∧ f < s 6) : ∃ p : Nat, p < P ∧ f < pf s c (p + 1) ∧ (∀ q, q < p → ¬ f < pf s c (q + 1)) ∧ pgF s c P f = (p : Int) := by
  have hP : 0 < P := by
    rcases Nat.eq_zero_or_pos P with q | q
    · subst q
      have := h.2.2
      have e : pf s c 0 = 0 := rfl
      omega
    · exact q
  obtain ⟨p, hp, hmin⟩ := pk_least (fun p => f < pf s c (p + 1)) ⟨P - 1, by
    have e : P - 1 + 1 = P := by omega
    show f < pf s c (P - 1 + 1)
    rw [e, h.2.2]
    omega⟩
  have hpP : p < P := by
    rcases Nat.lt_or_ge p P with q | q
    · exact q
    · have := hmin (P - 1) (by omega)
      have e : P - 1 + 1 = P := by omega
      rw [e, h.2.2] at this
      omega
  exact ⟨p, hpP, hp, hmin, fsA_at hpP hp hmin⟩
theorem plan_line {s : Sg} (hw : WF s) {c : Cf} {P : Nat} (h : Plan s c P) {v : Int} (hv : v < s 0) (hP : 0 < P) : ∃ p : Nat, p < P ∧ v < pl s c (p + 1) ∧ (∀ q, q < p → ¬ v < pl s c (q + 1)) ∧ pgL s c P v = (p : Int) := by
  obtain ⟨p, hp, hmin⟩ := pk_least (fun p => v < pl s c (p + 1)) ⟨P - 1, by
    have e : P - 1 + 1 = P := by omega
    show v < pl s c (P - 1 + 1)
    rw [e, h.2.1]
    omega⟩
  have hpP : p < P := by
    rcases Nat.lt_or_ge p P with q | q
    · exact q
    · have := hmin (P - 1) (by omega)
      have e : P - 1 + 1 = P := by omega
      rw [e, h.2.1] at this
      omega
  exact ⟨p, hpP, hp, hmin, fsA_at hpP hp hmin⟩
theorem plan_pos {s : Sg} {c : Cf} {P : Nat} (h : Plan s c P) (hn : 0 < s 0 ∨ 0 < s 6) : 0 < P := by
  rcases Nat.eq_zero_or_pos P with q | q
  · subst q
    have e1 : pf s c 0 = 0 := rfl
    have e2 : pl s c 0 = 0 := rfl
    have := h.2
    unfold isEnd at this
    omega
  · exact q
set_option maxRecDepth 10000 in
set_option maxHeartbeats 1000000 in
theorem c6_pageOfFigure_l {x : Xx} {post : Int → Mm → Prop} (C : Cx x mX6_pageOfFigure) (hR : Rt x mX6_pageOfFigure post) {M : Mm} {s : Sg} (hw : WF s) {c : Cf} {P : Nat} (hP : Plan s c P) (hM : PlM s c M P) {f : Int} {p : Nat} (hp1 : p < P) (hp2 : f < pf s c (p + 1)) (hp3 : ∀ q, q < p → ¬ f < pf s c (q + 1)) (hf : inR f) (hp : post (p : Int) M) : ∀ (d q : Nat), q + d = p → Gx x 3 2 [(0, vr (xg x) 105), (1, vi f), (2, vi (q : Int))] [] M := by
  have h6 := hw.2.2.2.2.2.2.1
  have p30 := pre_30 hw hP.1
  intro d
  induction d with
  | zero =>
    intro q hq
    have bd := pre_bd hw (hP.1.less (Q := q + 1) (by omega))
    have e := (hM.2 q (by omega)).2.2
    refine X6_pageOfFigure_2 C hR f _ M ⟨⟨by omega, by omega⟩, ?_⟩
    rw [e]
    have : q = p := by omega
    subst this
    exact ⟨⟨⟨by omega, by omega⟩, hf⟩, fun _ => hp, fun z => absurd hp2 z⟩
  | succ d ih =>
    intro q hq
    have bd := pre_bd hw (hP.1.less (Q := q + 1) (by omega))
    have e := (hM.2 q (by omega)).2.2
    refine X6_pageOfFigure_2 C hR f _ M ⟨⟨by omega, by omega⟩, ?_⟩
    rw [e]
    exact ⟨⟨⟨by omega, by omega⟩, hf⟩, fun z => absurd z (hp3 q (by omega)), fun _ => ih (q + 1) (by omega)⟩
set_option maxRecDepth 10000 in
set_option maxHeartbeats 1000000 in
theorem c6_pageOfFigure {l : Launch} {g : Gg} {M : Mm} {s : Sg} {f : Int} {c : Cf} {P : Nat} (hw : WF s) (hP : Plan s c P) (hM : PlM s c M P) (hf : 0 ≤ f ∧ f < s 6) : Ct l g mX6_pageOfFigure [vr g 105, vi f] M (fun r M2 => r = pgF s c P f ∧ M2 = M) := by
  refine ct_of (by decide) (Nat.le_of_ble_eq_true rfl) ?_
  intro x hl hg C hR
  subst hl
  subst hg
  have h6 := hw.2.2.2.2.2.2.1
  obtain ⟨p, h1, h2, h3, h4⟩ := plan_fig hw hP hf
  exact X6_pageOfFigure_0 C hR f M (c6_pageOfFigure_l C hR hw hP hM h1 h2 h3 ⟨by omega, by omega⟩ ⟨h4.symm, rfl⟩ p 0 (by omega))
set_option maxRecDepth 10000 in
set_option maxHeartbeats 1000000 in
theorem c6_pageOfLine_l {x : Xx} {post : Int → Mm → Prop} (C : Cx x mX6_pageOfLine) (hR : Rt x mX6_pageOfLine post) {M : Mm} {s : Sg} (hw : WF s) {c : Cf} {P : Nat} (hP : Plan s c P) (hM : PlM s c M P) {v : Int} {p : Nat} (hp1 : p < P) (hp2 : v < pl s c (p + 1)) (hp3 : ∀ q, q < p → ¬ v < pl s c (q + 1)) (hf : inR v) (hp : post (p : Int) M) : ∀ (d q : Nat), q + d = p → Gx x 3 2 [(0, vr (xg x) 105), (1, vi v), (2, vi (q : Int))] [] M := by
  have h6 := hw.1
  have p30 := pre_30 hw hP.1
  intro d
  induction d with
  | zero =>
    intro q hq
    have bd := pre_bd hw (hP.1.less (Q := q + 1) (by omega))
    have e := (hM.2 q (by omega)).2.1
    refine X6_pageOfLine_2 C hR v _ M ⟨⟨by omega, by omega⟩, ?_⟩
    rw [e]
    have : q = p := by omega
    subst this
    exact ⟨⟨⟨by omega, by omega⟩, hf⟩, fun _ => hp, fun z => absurd hp2 z⟩
  | succ d ih =>
    intro q hq
    have bd := pre_bd hw (hP.1.less (Q := q + 1) (by omega))
    have e := (hM.2 q (by omega)).2.1
    refine X6_pageOfLine_2 C hR v _ M ⟨⟨by omega, by omega⟩, ?_⟩
    rw [e]
    exact ⟨⟨⟨by omega, by omega⟩, hf⟩, fun z => absurd z (hp3 q (by omega)), fun _ => ih (q + 1) (by omega)⟩
set_option maxRecDepth 10000 in
set_option maxHeartbeats 1000000 in
theorem c6_pageOfLine {l : Launch} {g : Gg} {M : Mm} {s : Sg} {v : Int} {c : Cf} {P : Nat} (hw : WF s) (hP : Plan s c P) (hM : PlM s c M P) (hv : -1 ≤ v ∧ v < s 0) (h0P : 0 < P) : Ct l g mX6_pageOfLine [vr g 105, vi v] M (fun r M2 => r = pgL s c P v ∧ M2 = M) := by
  refine ct_of (by decide) (Nat.le_of_ble_eq_true rfl) ?_
  intro x hl hg C hR
  subst hl
  subst hg
  have h0 := hw.1
  obtain ⟨p, h1, h2, h3, h4⟩ := plan_line hw hP hv.2 h0P
  exact X6_pageOfLine_0 C hR v M (c6_pageOfLine_l C hR hw hP hM h1 h2 h3 ⟨by omega, by omega⟩ ⟨h4.symm, rfl⟩ p 0 (by omega))
set_option maxRecDepth 10000 in
set_option maxHeartbeats 1000000 in
theorem c6_pageOfMention {l : Launch} {g : Gg} {M : Mm} {s : Sg} {f : Int} {c : Cf} {P : Nat} (hw : WF s) (hs : M 106 = s) (hP : Plan s c P) (hM : PlM s c M P) (hf : 0 ≤ f ∧ f < s 6) : Ct l g mX6_pageOfMention [vr g 105, vi f] M (fun r M2 => r = pgL s c P (due s f) ∧ M2 = M) := by
  refine ct_of (by decide) (Nat.le_of_ble_eq_true rfl) ?_
  intro x hl hg C hR
  subst hl
  subst hg
  subst hs
  have h0 := hw.1
  have hd := due_bd hw hf.1 hf.2
  have hPp := plan_pos hP (Or.inr (by omega))
  refine X6_pageOfMention_0 C hR f M ⟨⟨by omega, by omega⟩, fun q => ⟨_, c6_mentionLine hw hf, ?_⟩, fun q => ⟨?_, rfl⟩⟩
  · rintro r M1 ⟨rfl, rfl⟩
    refine ⟨_, c6_pageOfLine hw hP hM ⟨hd.1, hd.2.1⟩ hPp, ?_⟩
    rintro r M1 ⟨rfl, rfl⟩
    exact ⟨rfl, rfl⟩
  · have hd2 : due (M 106) f = -1 := by omega
    have b1 := pre_bd hw (hP.1.less (Q := 1) (by omega))
    symm
    unfold pgL
    rw [hd2]
    exact fsA_at (p := 0) hPp (by show -1 < pl (M 106) c 1; omega) (fun q hq => absurd hq (by omega))
def cst (s : Sg) (c : Cf) (P : Nat) (f : Int) : Int := wt s f * (if 0 ≤ pgF s c P f - pgL s c P (due s f) then pgF s c P f - pgL s c P (due s f) else -(pgF s c P f - pgL s c P (due s f)))
theorem cst_bd {s : Sg} (hw : WF s) {c : Cf} {P : Nat} (hP : Plan s c P) {f : Int} (hf : 0 ≤ f ∧ f < s 6) : 0 ≤ cst s c P f ∧ cst s c P f ≤ 9 * 31 := by
  have p30 := pre_30 hw hP.1
  have h1 := fsA_bd (g := pf s c) (v := f) (P := P)
  have h2 := fsA_bd (g := pl s c) (v := due s f) (P := P)
  have h3 := (hw.fg hf.1 hf.2).2.2.2
  unfold cst wt pgF pgL
  generalize fsA (pf s c) f P = a at *
  generalize fsA (pl s c) (due s f) P = b at *
  have hz : 0 ≤ (if 0 ≤ a - b then a - b else -(a - b)) ∧ (if 0 ≤ a - b then a - b else -(a - b)) ≤ 31 := by split <;> omega
  generalize (if 0 ≤ a - b then a - b else -(a - b)) = z at hz ⊢
  generalize s (7 + 4 * f + 3) = w at h3 ⊢
  refine ⟨Int.mul_nonneg (by omega) hz.1, ?_⟩
  exact Int.mul_le_mul h3.2 hz.2 hz.1 (by decide)
set_option maxRecDepth 10000 in
set_option maxHeartbeats 1000000 in
theorem c6_costOf {l : Launch} {g : Gg} {M : Mm} {s : Sg} {f : Int} {c : Cf} {P : Nat} (hw : WF s) (hs : M 106 = s) (hP : Plan s c P) (hM : PlM s c M P) (hf : 0 ≤ f ∧ f < s 6) : Ct l g mX6_costOf [vr g 105, vi f] M (fun r M2 => r = cst s c P f ∧ M2 = M) := by
  refine ct_of (by decide) (Nat.le_of_ble_eq_true rfl) ?_
  intro x hl hg C hR
  subst hl
  subst hg
  have h6 := hw.2.2.2.2.2.2.1
  have p30 := pre_30 hw hP.1
  have h1 := fsA_bd (g := pf s c) (v := f) (P := P)
  have h2 := fsA_bd (g := pl s c) (v := due s f) (P := P)
  refine X6_costOf_0 C hR f M ⟨_, c6_pageOfFigure hw hP hM hf, ?_⟩
  rintro r M1 ⟨rfl, rfl⟩
  refine ⟨_, c6_pageOfMention hw hs hP hM hf, ?_⟩
  rintro r M1 ⟨rfl, rfl⟩
  intro w hwq
  refine ⟨_, c6_weight ⟨hf.1, by omega⟩, ?_⟩
  rintro r M1 ⟨rfl, rfl⟩
  unfold pgF pgL at hwq
  refine ⟨⟨by omega, by omega⟩, fun q => ⟨?_, rfl⟩, fun q => ⟨?_, rfl⟩⟩
  · unfold cst wt pgF pgL
    rw [← hwq, if_pos q, hs]
  · unfold cst wt pgF pgL
    rw [← hwq, if_neg q, hs]
def hvy (s : Sg) (c : Cf) (P : Nat) : Nat → Int × Int
  | 0 => (-1, 0)
  | n + 1 => if (hvy s c P n).2 < cst s c P (n : Int) then ((n : Int), cst s c P (n : Int)) else hvy s c P n
theorem hvy_bd {s : Sg} (hw : WF s) {c : Cf} {P : Nat} (hP : Plan s c P) : ∀ n : Nat, (n : Int) ≤ s 6 → -1 ≤ (hvy s c P n).1 ∧ (hvy s c P n).1 < 10 ∧ 0 ≤ (hvy s c P n).2 ∧ (hvy s c P n).2 ≤ 9 * 31
  | 0, _ => by simp [hvy]
  | n + 1, h => by
    have h6 := hw.2.2.2.2.2.2.1
    have ih := hvy_bd hw hP n (by omega)
    have cb := cst_bd hw hP (f := (n : Int)) ⟨by omega, by omega⟩
    simp only [hvy]
    split
    · simp only []
      omega
    · exact ih
set_option maxRecDepth 10000 in
set_option maxHeartbeats 1000000 in
theorem c6_heaviest_l {x : Xx} {post : Int → Mm → Prop} (C : Cx x mX6_heaviest) (hR : Rt x mX6_heaviest post) {M : Mm} {s : Sg} (hw : WF s) (hs : M 106 = s) {c : Cf} {P : Nat} (hP : Plan s c P) (hM : PlM s c M P) (hp : post (hvy s c P (s 6).toNat).1 M) : ∀ (d n : Nat), n + d = (s 6).toNat → Gx x 4 15 [(0, vr (xg x) 105), (1, vi (hvy s c P n).1), (2, vi (hvy s c P n).2), (3, vi (n : Int))] [] M := by
  have h6 := hw.2.2.2.2.2.2.1
  intro d
  induction d with
  | zero =>
    intro n hn
    refine X6_heaviest_15 C hR _ _ _ M ⟨⟨⟨by omega, by omega⟩, by rw [hs]; omega, by rw [hs]; omega⟩, fun _ => ?_, fun h => absurd h (by rw [hs]; omega)⟩
    have : n = (s 6).toNat := by omega
    subst this
    exact hp
  | succ d ih =>
    intro n hn
    have nx := ih (n + 1) (by omega)
    simp only [hvy] at nx
    have hb := hvy_bd hw hP n (by omega)
    have cb := cst_bd hw hP (f := (n : Int)) ⟨by omega, by omega⟩
    have mid : ∀ s0 : Int, s0 = (if (hvy s c P n).2 < cst s c P (n : Int) then (n : Int) else (hvy s c P n).1) → Gx x 4 40 [(0, vr (xg x) 105), (2, vi (hvy s c P n).2), (3, vi (n : Int))] [vi s0] M := by
      intro s0 h0
      refine X6_heaviest_40 C hR _ _ s0 M ⟨_, c6_costOf hw hs hP hM ⟨by omega, by omega⟩, ?_⟩
      rintro r M1 ⟨rfl, rfl⟩
      refine ⟨⟨⟨by omega, by omega⟩, by omega, by omega⟩, fun q => ?_, fun q => ⟨_, c6_costOf hw hs hP hM ⟨by omega, by omega⟩, ?_⟩⟩
      · rw [if_neg (by omega)] at h0 nx
        rw [h0]
        exact nx
      · rintro r M1 ⟨rfl, rfl⟩
        rw [if_pos (by omega)] at h0 nx
        rw [h0]
        exact nx
    refine X6_heaviest_15 C hR _ _ _ M ⟨⟨⟨by omega, by omega⟩, by rw [hs]; omega, by rw [hs]; omega⟩, fun h => absurd h (by rw [hs]; omega), fun h => ⟨_, c6_costOf hw hs hP hM ⟨by omega, by omega⟩, ?_⟩⟩
    rintro r M1 ⟨rfl, rfl⟩
    exact ⟨⟨⟨by omega, by omega⟩, by omega, by omega⟩, fun q => mid _ (by rw [if_neg (by omega)]), fun q => mid _ (by rw [if_pos (by omega)])⟩
set_option maxRecDepth 10000 in
set_option maxHeartbeats 1000000 in
theorem c6_heaviest {l : Launch} {g : Gg} {M : Mm} {s : Sg} (hw : WF s) (hs : M 106 = s) : Ct l g mX6_heaviest [vr g 105] M (fun r M2 => FrP M M2 ∧ ((clash s (s 6).toNat = -1 ∧ ∃ P, Plan s (cB s) P ∧ r = (hvy s (cB s) P (s 6).toNat).1) ∨ (¬ clash s (s 6).toNat = -1 ∧ r = -1))) := by
  refine ct_of (by decide) (Nat.le_of_ble_eq_true rfl) ?_
  intro x hl hg C hR
  subst hl
  subst hg
  refine X6_heaviest_0 C hR M ⟨_, c6_isPlanned hw hs, ?_⟩
  rintro r M1 ⟨h1, h2, h3⟩
  have e6 : M1 106 = s := h1.s.trans hs
  rcases h3 with ⟨hc, rfl, P, hP, hM⟩ | ⟨hc, rfl⟩
  · refine ⟨by decide, fun _ => ?_, fun q => absurd q (by decide)⟩
    exact c6_heaviest_l C hR hw e6 hP hM ⟨h1, Or.inl ⟨hc, P, hP, rfl⟩⟩ (s 6).toNat 0 (by omega)
  · exact ⟨by decide, fun q => absurd rfl q, fun _ => ⟨h1, Or.inr ⟨hc, rfl⟩⟩⟩
def paS (s : Sg) (c : Cf) : Nat → Int
  | 0 => 0
  | p + 1 => paS s c p + tl s (pl s c (p + 1)) (pf s c (p + 1))
theorem paS_bd {s : Sg} (hw : WF s) {c : Cf} : ∀ p : Nat, 0 ≤ paS s c p ∧ paS s c p ≤ 90 * (p : Int)
  | 0 => by simp [paS]
  | p + 1 => by
    have := paS_bd hw (c := c) p
    have := sm_bound3 hw (ll := pl s c (p + 1)) (f := pf s c (p + 1))
    simp only [paS]
    omega
set_option maxRecDepth 10000 in
set_option maxHeartbeats 1000000 in
theorem c6_paidOfAll_l {x : Xx} {post : Int → Mm → Prop} (C : Cx x mX6_paidOfAll) (hR : Rt x mX6_paidOfAll post) {M : Mm} {s : Sg} (hw : WF s) (hs : M 106 = s) {c : Cf} {P : Nat} (hP : Pre s c P) (hM : PlM s c M P) (hp : post (paS s c P) M) : ∀ (d p : Nat), p + d = P → Gx x 3 4 [(0, vr (xg x) 105), (1, vi (paS s c p)), (2, vi (p : Int))] [] M := by
  have h0 := hw.1
  have h6 := hw.2.2.2.2.2.2.1
  have p30 := pre_30 hw hP
  intro d
  induction d with
  | zero =>
    intro p hpd
    refine X6_paidOfAll_4 C hR _ _ M ⟨⟨⟨by omega, by omega⟩, by rw [hM.1]; omega, by rw [hM.1]; omega⟩, fun _ => ?_, fun h => absurd h (by rw [hM.1]; omega)⟩
    have : p = P := by omega
    subst this
    exact hp
  | succ d ih =>
    intro p hpd
    have bd := pre_bd hw (hP.less (Q := p + 1) (by omega))
    have e := hM.2 p (by omega)
    refine X6_paidOfAll_4 C hR _ _ M ⟨⟨⟨by omega, by omega⟩, by rw [hM.1]; omega, by rw [hM.1]; omega⟩, fun h => absurd h (by rw [hM.1]; omega), fun h => ⟨⟨by omega, by omega⟩, ⟨by omega, by omega⟩, ?_⟩⟩
    rw [e.2.1, e.2.2]
    refine ⟨_, c6_paid (by rw [hs]; exact hw) ⟨by omega, by omega⟩ ⟨by omega, by omega⟩, ?_⟩
    rintro r M1 ⟨rfl, rfl⟩
    intro w hwq
    rw [hwq, hs]
    exact ih (p + 1) (by omega)
set_option maxRecDepth 10000 in
set_option maxHeartbeats 1000000 in
theorem c6_paidOfAll {l : Launch} {g : Gg} {M : Mm} {s : Sg} {c : Cf} {P : Nat} (hw : WF s) (hs : M 106 = s) (hP : Pre s c P) (hM : PlM s c M P) : Ct l g mX6_paidOfAll [vr g 105] M (fun r M2 => r = paS s c P ∧ M2 = M) := by
  refine ct_of (by decide) (Nat.le_of_ble_eq_true rfl) ?_
  intro x hl hg C hR
  subst hl
  subst hg
  exact X6_paidOfAll_0 C hR M (c6_paidOfAll_l C hR hw hs hP hM ⟨rfl, rfl⟩ P 0 (by omega))
