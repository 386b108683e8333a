set_option maxRecDepth 10000 in
set_option maxHeartbeats 2000000 in
theorem X6_layout_0 {x : Xx} {post : Int → Mm → Prop} (C : Cx x mX6_layout) (hR : Rt x mX6_layout post)  (v1 v2 : Int) (M : Mm) (H : ∃ p3 : Int → Mm → Prop, Ct (xl x) (xg x) mX6_in [vi v1, vi 0, vi 5] M p3 ∧ ∀ (r3 : Int) (M3 : Mm), p3 r3 M3 → ((inR r3) ∧ (r3 = 0 → (post (-1000000002) M3)) ∧ (¬ (r3 = 0) → (∃ p12 : Int → Mm → Prop, Ct (xl x) (xg x) mX6_isBound [vr (xg x) 105, vi v1, vi v2] M3 p12 ∧ ∀ (r12 : Int) (M12 : Mm), p12 r12 M12 → ((inR r12) ∧ (¬ (r12 = 0) → (∃ p22 : Int → Mm → Prop, Ct (xl x) (xg x) mX6_note [vr (xg x) 105] M12 p22 ∧ ∀ (r22 : Int) (M22 : Mm), p22 r22 M22 → ((0 ≤ v1 ∧ v1 < 47) ∧ (∀ w31 : Int, w31 = (M22 106 v1) → ((0 ≤ v1 ∧ v1 < 47) ∧ (∀ M38 : Mm, M38 = mu M22 106 v1 v2 → ((inR (M38 106 3) ∧ inR (M38 106 1)) ∧ (M38 106 3 ≤ M38 106 1 → (∀ M74 : Mm, M74 = mu M38 106 3 (M38 106 3) → (post w31 M74))) ∧ (¬ (M38 106 3 ≤ M38 106 1) → (∀ M74 : Mm, M74 = mu M38 106 3 (M38 106 1) → (post w31 M74)))))))))) ∧ (r12 = 0 → (post (-1000000002) M12))))))) : Gx x 4 0 [(0, vr (xg x) 105), (1, vi v1), (2, vi v2)] [] M := by
  refine g_iload_n (q := 1) C dX6_layout_0 rfl 1 rfl rfl ?_
  refine g_iconst (q := 2) C dX6_layout_1 rfl ?_
  refine g_iconst (q := 3) C dX6_layout_2 rfl ?_
  obtain ⟨p3, hM, H⟩ := H
  refine g_callS (q := 6) (As := [vi v1, vi 0, vi 5]) (st := []) (na := 3) C mX6_in hM wm_6_11 wm_6_12 wm_1_5 wm_6_13 (by decide +kernel) rfl rfl (by decide) rfl (Nat.le_of_ble_eq_true rfl) dX6_layout_3 rfl (fun r3 M3 hp => ?_)
  have H := H r3 M3 hp
  show Gx x 4 6 [(0, vr (xg x) 105), (1, vi v1), (2, vi v2)] [vi r3] M3
  obtain ⟨hr, Ht, Hf⟩ := H
  refine g_if_eq (q := 9) (t := 18) C dX6_layout_6 rfl (by decide) hr (fun hc => ?_) (fun hc => ?_)
  · have H := Ht hc
    refine g_ldc (q := 20) (z := (-1000000002)) C dX6_layout_18 rfl wc_6_10 ?_
    exact g_iret C hR dX6_layout_20 rfl H
  · have H := Hf hc
    refine g_aload_n (q := 10) C dX6_layout_9 rfl 0 rfl rfl ?_
    refine g_iload_n (q := 11) C dX6_layout_10 rfl 1 rfl rfl ?_
    refine g_iload_n (q := 12) C dX6_layout_11 rfl 2 rfl rfl ?_
    obtain ⟨p12, hM, H⟩ := H
    refine g_callV (q := 15) (As := [vi v1, vi v2]) (st := []) (na := 2) C mX6_isBound (by decide) (celr_6 (by decide)) rfl hM wm_6_14 wm_6_15 wm_6_16 wm_1_5 wm_6_17 (by decide +kernel) rfl rfl (by decide) rfl (Nat.le_of_ble_eq_true rfl) dX6_layout_12 rfl (fun r12 M12 hp => ?_)
    have H := H r12 M12 hp
    show Gx x 4 15 [(0, vr (xg x) 105), (1, vi v1), (2, vi v2)] [vi r12] M12
    obtain ⟨hr, Ht, Hf⟩ := H
    refine g_if_ne (q := 18) (t := 21) C dX6_layout_15 rfl (by decide) hr (fun hc => ?_) (fun hc => ?_)
    · have H := Ht hc
      refine g_aload_n (q := 22) C dX6_layout_21 rfl 0 rfl rfl ?_
      obtain ⟨p22, hM, H⟩ := H
      refine g_callV (q := 25) (As := []) (st := []) (na := 0) C mX6_note (by decide) (celr_6 (by decide)) rfl hM wm_6_18 wm_6_19 wm_6_20 wm_1_5 wm_6_21 (by decide +kernel) rfl rfl (by decide) rfl (Nat.le_of_ble_eq_true rfl) dX6_layout_22 rfl (fun r22 M22 hp => ?_)
      have H := H r22 M22 hp
      show Gx x 4 25 [(0, vr (xg x) 105), (1, vi v1), (2, vi v2)] [] M22
      refine g_aload_n (q := 26) C dX6_layout_25 rfl 0 rfl rfl ?_
      refine g_get (q := 29) C (by decide) (celr_6 (by decide)) (ci := 6) (i := 0) rfl inlX6 (by decide) wm_4_11 rfl dX6_layout_26 rfl ?_
      refine g_iload_n (q := 30) C dX6_layout_29 rfl 1 rfl rfl ?_
      obtain ⟨hc, H⟩ := H
      refine g_iald (q := 31) (m := 47) C (by decide) (by decide) (by decide) hc (by decide) dX6_layout_30 rfl ?_
      refine g_topi (fun w31 hw31 => ?_)
      have H := H w31 hw31
      refine g_istore_n (q := 32) (L2 := [(3, vi w31), (0, vr (xg x) 105), (1, vi v1), (2, vi v2)]) C dX6_layout_31 rfl rfl (by decide) rfl ?_
      refine g_aload_n (q := 33) C dX6_layout_32 rfl 1 rfl rfl ?_
      refine g_get (q := 36) C (by decide) (celr_6 (by decide)) (ci := 6) (i := 0) rfl inlX6 (by decide) wm_4_11 rfl dX6_layout_33 rfl ?_
      refine g_iload_n (q := 37) C dX6_layout_36 rfl 2 rfl rfl ?_
      refine g_iload_n (q := 38) C dX6_layout_37 rfl 3 rfl rfl ?_
      obtain ⟨hc, H⟩ := H
      refine g_iast (q := 39) (m := 47) C (by decide) (by decide) (by decide) hc (by decide) dX6_layout_38 rfl ?_
      refine g_topM (fun M38 hM38 => ?_)
      have H := H M38 hM38
      refine g_aload_n (q := 40) C dX6_layout_39 rfl 1 rfl rfl ?_
      refine g_get (q := 43) C (by decide) (celr_6 (by decide)) (ci := 6) (i := 0) rfl inlX6 (by decide) wm_4_11 rfl dX6_layout_40 rfl ?_
      refine g_iconst (q := 44) C dX6_layout_43 rfl ?_
      refine g_aload_n (q := 45) C dX6_layout_44 rfl 1 rfl rfl ?_
      refine g_get (q := 48) C (by decide) (celr_6 (by decide)) (ci := 6) (i := 0) rfl inlX6 (by decide) wm_4_11 rfl dX6_layout_45 rfl ?_
      refine g_iconst (q := 49) C dX6_layout_48 rfl ?_
      refine g_iald (q := 50) (m := 47) C (by decide) (by decide) (by decide) (by decide) (by decide) dX6_layout_49 rfl ?_
      refine g_aload_n (q := 51) C dX6_layout_50 rfl 1 rfl rfl ?_
      refine g_get (q := 54) C (by decide) (celr_6 (by decide)) (ci := 6) (i := 0) rfl inlX6 (by decide) wm_4_11 rfl dX6_layout_51 rfl ?_
      refine g_iconst (q := 55) C dX6_layout_54 rfl ?_
      refine g_iald (q := 56) (m := 47) C (by decide) (by decide) (by decide) (by decide) (by decide) dX6_layout_55 rfl ?_
      obtain ⟨hr, Ht, Hf⟩ := H
      refine g_icmp_le (q := 59) (t := 68) C dX6_layout_56 rfl (by decide) hr (fun hc => ?_) (fun hc => ?_)
      · have H := Ht hc
        refine g_aload_n (q := 69) C dX6_layout_68 rfl 1 rfl rfl ?_
        refine g_get (q := 72) C (by decide) (celr_6 (by decide)) (ci := 6) (i := 0) rfl inlX6 (by decide) wm_4_11 rfl dX6_layout_69 rfl ?_
        refine g_iconst (q := 73) C dX6_layout_72 rfl ?_
        refine g_iald (q := 74) (m := 47) C (by decide) (by decide) (by decide) (by decide) (by decide) dX6_layout_73 rfl ?_
        refine g_iast (q := 75) (m := 47) C (by decide) (by decide) (by decide) (by decide) (by decide) dX6_layout_74 rfl ?_
        refine g_topM (fun M74 hM74 => ?_)
        have H := H M74 hM74
        refine g_iload_n (q := 76) C dX6_layout_75 rfl 0 rfl rfl ?_
        exact g_iret C hR dX6_layout_76 rfl H
      · have H := Hf hc
        refine g_aload_n (q := 60) C dX6_layout_59 rfl 1 rfl rfl ?_
        refine g_get (q := 63) C (by decide) (celr_6 (by decide)) (ci := 6) (i := 0) rfl inlX6 (by decide) wm_4_11 rfl dX6_layout_60 rfl ?_
        refine g_iconst (q := 64) C dX6_layout_63 rfl ?_
        refine g_iald (q := 65) (m := 47) C (by decide) (by decide) (by decide) (by decide) (by decide) dX6_layout_64 rfl ?_
        refine g_goto (t := 74) C dX6_layout_65 (by decide) ?_
        refine g_iast (q := 75) (m := 47) C (by decide) (by decide) (by decide) (by decide) (by decide) dX6_layout_74 rfl ?_
        refine g_topM (fun M74 hM74 => ?_)
        have H := H M74 hM74
        refine g_iload_n (q := 76) C dX6_layout_75 rfl 0 rfl rfl ?_
        exact g_iret C hR dX6_layout_76 rfl H
    · have H := Hf hc
      refine g_ldc (q := 20) (z := (-1000000002)) C dX6_layout_18 rfl wc_6_10 ?_
      exact g_iret C hR dX6_layout_20 rfl H
set_option maxRecDepth 10000 in
set_option maxHeartbeats 2000000 in
theorem X6_in_0 {x : Xx} {post : Int → Mm → Prop} (C : Cx x mX6_in) (hR : Rt x mX6_in post)  (v0 v1 v2 : Int) (M : Mm) (H : (inR v0 ∧ inR v1) ∧ (v0 < v1 → (post 0 M)) ∧ (¬ (v0 < v1) → ((inR v0 ∧ inR v2) ∧ (v2 < v0 → (post 0 M)) ∧ (¬ (v2 < v0) → (post 1 M))))) : Gx x 3 0 [(0, vi v0), (1, vi v1), (2, vi v2)] [] M := by
  refine g_iload_n (q := 1) C dX6_in_0 rfl 0 rfl rfl ?_
  refine g_iload_n (q := 2) C dX6_in_1 rfl 1 rfl rfl ?_
  obtain ⟨hr, Ht, Hf⟩ := H
  refine g_icmp_lt (q := 5) (t := 14) C dX6_in_2 rfl (by decide) hr (fun hc => ?_) (fun hc => ?_)
  · have H := Ht hc
    refine g_iconst (q := 15) C dX6_in_14 rfl ?_
    exact g_zret C hR dX6_in_15 rfl (by decide) H
  · have H := Hf hc
    refine g_iload_n (q := 6) C dX6_in_5 rfl 0 rfl rfl ?_
    refine g_iload_n (q := 7) C dX6_in_6 rfl 2 rfl rfl ?_
    obtain ⟨hr, Ht, Hf⟩ := H
    refine g_icmp_gt (q := 10) (t := 14) C dX6_in_7 rfl (by decide) hr (fun hc => ?_) (fun hc => ?_)
    · have H := Ht hc
      refine g_iconst (q := 15) C dX6_in_14 rfl ?_
      exact g_zret C hR dX6_in_15 rfl (by decide) H
    · have H := Hf hc
      refine g_iconst (q := 11) C dX6_in_10 rfl ?_
      refine g_goto (t := 15) C dX6_in_11 (by decide) ?_
      exact g_zret C hR dX6_in_15 rfl (by decide) H
set_option maxRecDepth 10000 in
set_option maxHeartbeats 2000000 in
theorem X6_isBound_0 {x : Xx} {post : Int → Mm → Prop} (C : Cx x mX6_isBound) (hR : Rt x mX6_isBound post)  (v1 v2 : Int) (M : Mm) (H : (inR v1) ∧ ((v1 < 0 ∨ 4 < v1) → (∃ p82 : Int → Mm → Prop, Ct (xl x) (xg x) mX6_in [vi v2, vi 0, vi 1] M p82 ∧ ∀ (r82 : Int) (M82 : Mm), p82 r82 M82 → ((r82 = 0 ∨ r82 = 1) ∧ post r82 M82))) ∧ (v1 = 0 → (∃ p40 : Int → Mm → Prop, Ct (xl x) (xg x) mX6_in [vi v2, vi 0, vi 120] M p40 ∧ ∀ (r40 : Int) (M40 : Mm), p40 r40 M40 → ((r40 = 0 ∨ r40 = 1) ∧ post r40 M40))) ∧ (v1 = 1 → (∃ p49 : Int → Mm → Prop, Ct (xl x) (xg x) mX6_in [vi v2, vi 6, vi 40] M p49 ∧ ∀ (r49 : Int) (M49 : Mm), p49 r49 M49 → ((r49 = 0 ∨ r49 = 1) ∧ post r49 M49))) ∧ (v1 = 2 → (∃ p56 : Int → Mm → Prop, Ct (xl x) (xg x) mX6_in [vi v2, vi 1, vi 2] M p56 ∧ ∀ (r56 : Int) (M56 : Mm), p56 r56 M56 → ((r56 = 0 ∨ r56 = 1) ∧ post r56 M56))) ∧ (v1 = 3 → (∃ p68 : Int → Mm → Prop, Ct (xl x) (xg x) mX6_in [vi v2, vi 0, vi (M 106 1)] M p68 ∧ ∀ (r68 : Int) (M68 : Mm), p68 r68 M68 → ((r68 = 0 ∨ r68 = 1) ∧ post r68 M68))) ∧ (v1 = 4 → (∃ p75 : Int → Mm → Prop, Ct (xl x) (xg x) mX6_in [vi v2, vi 1, vi 4] M p75 ∧ ∀ (r75 : Int) (M75 : Mm), p75 r75 M75 → ((r75 = 0 ∨ r75 = 1) ∧ post r75 M75)))) : Gx x 3 0 [(0, vr (xg x) 105), (1, vi v1), (2, vi v2)] [] M := by
  refine g_iload_n (q := 1) C dX6_isBound_0 rfl 1 rfl rfl ?_
  obtain ⟨hr, Hd, H⟩ := H
  rcases (show (v1 < 0 ∨ 4 < v1) ∨ v1 = 0 ∨ v1 = 1 ∨ v1 = 2 ∨ v1 = 3 ∨ v1 = 4 by omega) with hc | hc | hc | hc | hc | hc
  · have H := Hd hc
    refine g_tabOut (t := 79) C dX6_isBound_1 hr hc (by decide) ?_
    refine g_iload_n (q := 80) C dX6_isBound_79 rfl 2 rfl rfl ?_
    refine g_iconst (q := 81) C dX6_isBound_80 rfl ?_
    refine g_iconst (q := 82) C dX6_isBound_81 rfl ?_
    obtain ⟨p82, hM, H⟩ := H
    refine g_callS (q := 85) (As := [vi v2, vi 0, vi 1]) (st := []) (na := 3) C mX6_in hM wm_6_11 wm_6_12 wm_1_5 wm_6_13 (by decide +kernel) rfl rfl (by decide) rfl (Nat.le_of_ble_eq_true rfl) dX6_isBound_82 rfl (fun r82 M82 hp => ?_)
    have H := H r82 M82 hp
    show Gx x 3 85 [(0, vr (xg x) 105), (1, vi v1), (2, vi v2)] [vi r82] M82
    exact g_zret C hR dX6_isBound_85 rfl H.1 H.2
  · have H := H.1 hc
    refine g_tabIn (t := 36) C dX6_isBound_1 hr (by omega) (by rw [hc]; rfl) (by decide) ?_
    refine g_iload_n (q := 37) C dX6_isBound_36 rfl 2 rfl rfl ?_
    refine g_iconst (q := 38) C dX6_isBound_37 rfl ?_
    refine g_bipush (q := 40) C dX6_isBound_38 rfl (by decide) ?_
    obtain ⟨p40, hM, H⟩ := H
    refine g_callS (q := 43) (As := [vi v2, vi 0, vi 120]) (st := []) (na := 3) C mX6_in hM wm_6_11 wm_6_12 wm_1_5 wm_6_13 (by decide +kernel) rfl rfl (by decide) rfl (Nat.le_of_ble_eq_true rfl) dX6_isBound_40 rfl (fun r40 M40 hp => ?_)
    have H := H r40 M40 hp
    show Gx x 3 43 [(0, vr (xg x) 105), (1, vi v1), (2, vi v2)] [vi r40] M40
    exact g_zret C hR dX6_isBound_43 rfl H.1 H.2
  · have H := H.2.1 hc
    refine g_tabIn (t := 44) C dX6_isBound_1 hr (by omega) (by rw [hc]; rfl) (by decide) ?_
    refine g_iload_n (q := 45) C dX6_isBound_44 rfl 2 rfl rfl ?_
    refine g_bipush (q := 47) C dX6_isBound_45 rfl (by decide) ?_
    refine g_bipush (q := 49) C dX6_isBound_47 rfl (by decide) ?_
    obtain ⟨p49, hM, H⟩ := H
    refine g_callS (q := 52) (As := [vi v2, vi 6, vi 40]) (st := []) (na := 3) C mX6_in hM wm_6_11 wm_6_12 wm_1_5 wm_6_13 (by decide +kernel) rfl rfl (by decide) rfl (Nat.le_of_ble_eq_true rfl) dX6_isBound_49 rfl (fun r49 M49 hp => ?_)
    have H := H r49 M49 hp
    show Gx x 3 52 [(0, vr (xg x) 105), (1, vi v1), (2, vi v2)] [vi r49] M49
    exact g_zret C hR dX6_isBound_52 rfl H.1 H.2
  · have H := H.2.2.1 hc
    refine g_tabIn (t := 53) C dX6_isBound_1 hr (by omega) (by rw [hc]; rfl) (by decide) ?_
    refine g_iload_n (q := 54) C dX6_isBound_53 rfl 2 rfl rfl ?_
    refine g_iconst (q := 55) C dX6_isBound_54 rfl ?_
    refine g_iconst (q := 56) C dX6_isBound_55 rfl ?_
    obtain ⟨p56, hM, H⟩ := H
    refine g_callS (q := 59) (As := [vi v2, vi 1, vi 2]) (st := []) (na := 3) C mX6_in hM wm_6_11 wm_6_12 wm_1_5 wm_6_13 (by decide +kernel) rfl rfl (by decide) rfl (Nat.le_of_ble_eq_true rfl) dX6_isBound_56 rfl (fun r56 M56 hp => ?_)
    have H := H r56 M56 hp
    show Gx x 3 59 [(0, vr (xg x) 105), (1, vi v1), (2, vi v2)] [vi r56] M56
    exact g_zret C hR dX6_isBound_59 rfl H.1 H.2
  · have H := H.2.2.2.1 hc
    refine g_tabIn (t := 60) C dX6_isBound_1 hr (by omega) (by rw [hc]; rfl) (by decide) ?_
    refine g_iload_n (q := 61) C dX6_isBound_60 rfl 2 rfl rfl ?_
    refine g_iconst (q := 62) C dX6_isBound_61 rfl ?_
    refine g_aload_n (q := 63) C dX6_isBound_62 rfl 0 rfl rfl ?_
    refine g_get (q := 66) C (by decide) (celr_6 (by decide)) (ci := 6) (i := 0) rfl inlX6 (by decide) wm_4_11 rfl dX6_isBound_63 rfl ?_
    refine g_iconst (q := 67) C dX6_isBound_66 rfl ?_
    refine g_iald (q := 68) (m := 47) C (by decide) (by decide) (by decide) (by decide) (by decide) dX6_isBound_67 rfl ?_
    obtain ⟨p68, hM, H⟩ := H
    refine g_callS (q := 71) (As := [vi v2, vi 0, vi (M 106 1)]) (st := []) (na := 3) C mX6_in hM wm_6_11 wm_6_12 wm_1_5 wm_6_13 (by decide +kernel) rfl rfl (by decide) rfl (Nat.le_of_ble_eq_true rfl) dX6_isBound_68 rfl (fun r68 M68 hp => ?_)
    have H := H r68 M68 hp
    show Gx x 3 71 [(0, vr (xg x) 105), (1, vi v1), (2, vi v2)] [vi r68] M68
    exact g_zret C hR dX6_isBound_71 rfl H.1 H.2
  · have H := H.2.2.2.2 hc
    refine g_tabIn (t := 72) C dX6_isBound_1 hr (by omega) (by rw [hc]; rfl) (by decide) ?_
    refine g_iload_n (q := 73) C dX6_isBound_72 rfl 2 rfl rfl ?_
    refine g_iconst (q := 74) C dX6_isBound_73 rfl ?_
    refine g_iconst (q := 75) C dX6_isBound_74 rfl ?_
    obtain ⟨p75, hM, H⟩ := H
    refine g_callS (q := 78) (As := [vi v2, vi 1, vi 4]) (st := []) (na := 3) C mX6_in hM wm_6_11 wm_6_12 wm_1_5 wm_6_13 (by decide +kernel) rfl rfl (by decide) rfl (Nat.le_of_ble_eq_true rfl) dX6_isBound_75 rfl (fun r75 M75 hp => ?_)
    have H := H r75 M75 hp
    show Gx x 3 78 [(0, vr (xg x) 105), (1, vi v1), (2, vi v2)] [vi r75] M75
    exact g_zret C hR dX6_isBound_78 rfl H.1 H.2
set_option maxRecDepth 10000 in
set_option maxHeartbeats 2000000 in
theorem X6_note_0 {x : Xx} {post : Int → Mm → Prop} (C : Cx x mX6_note) (hR : Rt x mX6_note post)  (M : Mm) (H : (inR (M 105 2)) ∧ (¬ (M 105 2 = 6) → (Gx x 1 36 [(0, vr (xg x) 105)] [] M)) ∧ (M 105 2 = 6 → (∃ p23 : Int → Mm → Prop, Ct (xl x) (xg x) mX6_bring [vr (xg x) 108, vi 47, vr (xg x) 108, vi 0, vi 235] M p23 ∧ ∀ (r23 : Int) (M23 : Mm), p23 r23 M23 → (∀ M33 : Mm, M33 = mu M23 105 2 ((M23 105 2) - 1) → (Gx x 1 36 [(0, vr (xg x) 105)] [] M33))))) : Gx x 1 0 [(0, vr (xg x) 105)] [] M := by
  refine g_aload_n (q := 1) C dX6_note_0 rfl 0 rfl rfl ?_
  refine g_get (q := 4) C (by decide) (celr_6 (by decide)) (ci := 6) (i := 2) rfl inlX6 (by decide) wm_6_22 rfl dX6_note_1 rfl ?_
  refine g_bipush (q := 6) C dX6_note_4 rfl (by decide) ?_
  obtain ⟨hr, Ht, Hf⟩ := H
  refine g_icmp_ne (q := 9) (t := 36) C dX6_note_6 rfl (by decide) ⟨hr, by decide⟩ (fun hc => ?_) (fun hc => ?_)
  · have H := Ht hc
    refine g_sub [0] rfl ?_
    exact H
  · have H := Hf hc
    refine g_aload_n (q := 10) C dX6_note_9 rfl 0 rfl rfl ?_
    refine g_get (q := 13) C (by decide) (celr_6 (by decide)) (ci := 6) (i := 3) rfl inlX6 (by decide) wm_4_13 rfl dX6_note_10 rfl ?_
    refine g_bipush (q := 15) C dX6_note_13 rfl (by decide) ?_
    refine g_aload_n (q := 16) C dX6_note_15 rfl 0 rfl rfl ?_
    refine g_get (q := 19) C (by decide) (celr_6 (by decide)) (ci := 6) (i := 3) rfl inlX6 (by decide) wm_4_13 rfl dX6_note_16 rfl ?_
    refine g_iconst (q := 20) C dX6_note_19 rfl ?_
    refine g_sipush (q := 23) C dX6_note_20 rfl (by decide) ?_
    obtain ⟨p23, hM, H⟩ := H
    refine g_callS (q := 26) (As := [vr (xg x) 108, vi 47, vr (xg x) 108, vi 0, vi 235]) (st := []) (na := 5) C mX6_bring hM wm_6_23 wm_7_0 wm_1_5 wm_7_1 (by decide +kernel) rfl rfl (by decide) rfl (Nat.le_of_ble_eq_true rfl) dX6_note_23 rfl (fun r23 M23 hp => ?_)
    have H := H r23 M23 hp
    show Gx x 1 26 [(0, vr (xg x) 105)] [] M23
    refine g_aload_n (q := 27) C dX6_note_26 rfl 0 rfl rfl ?_
    refine g_dup (q := 28) C dX6_note_27 rfl rfl ?_
    refine g_get (q := 31) C (by decide) (celr_6 (by decide)) (ci := 6) (i := 2) rfl inlX6 (by decide) wm_6_22 rfl dX6_note_28 rfl ?_
    refine g_iconst (q := 32) C dX6_note_31 rfl ?_
    refine g_isub (q := 33) C dX6_note_32 rfl ?_
    refine g_put (q := 36) (ty := .int) C (by decide) (celr_6 (by decide)) (ci := 6) (i := 2) rfl inlX6 tyX6_ok nmX6 (by decide) wm_6_22 rfl rfl rfl rfl (Nat.le_of_ble_eq_true rfl) (by rw [celr_6 (by decide)]; rfl) dX6_note_33 rfl ?_
    refine g_topM (fun M33 hM33 => ?_)
    have H := H M33 hM33
    refine g_sub [0] rfl ?_
    exact H
set_option maxRecDepth 10000 in
set_option maxHeartbeats 2000000 in
theorem X6_note_36 {x : Xx} {post : Int → Mm → Prop} (C : Cx x mX6_note) (hR : Rt x mX6_note post)  (M : Mm) (H : ∃ p54 : Int → Mm → Prop, Ct (xl x) (xg x) mX6_bring [vr (xg x) 106, vi 0, vr (xg x) 108, vi (47 * (M 105 2)), vi 47] M p54 ∧ ∀ (r54 : Int) (M54 : Mm), p54 r54 M54 → (∀ M64 : Mm, M64 = mu M54 105 2 ((M54 105 2) + 1) → (post 0 M64))) : Gx x 1 36 [(0, vr (xg x) 105)] [] M := by
  refine g_aload_n (q := 37) C dX6_note_36 rfl 0 rfl rfl ?_
  refine g_get (q := 40) C (by decide) (celr_6 (by decide)) (ci := 6) (i := 0) rfl inlX6 (by decide) wm_4_11 rfl dX6_note_37 rfl ?_
  refine g_iconst (q := 41) C dX6_note_40 rfl ?_
  refine g_aload_n (q := 42) C dX6_note_41 rfl 0 rfl rfl ?_
  refine g_get (q := 45) C (by decide) (celr_6 (by decide)) (ci := 6) (i := 3) rfl inlX6 (by decide) wm_4_13 rfl dX6_note_42 rfl ?_
  refine g_bipush (q := 47) C dX6_note_45 rfl (by decide) ?_
  refine g_aload_n (q := 48) C dX6_note_47 rfl 0 rfl rfl ?_
  refine g_get (q := 51) C (by decide) (celr_6 (by decide)) (ci := 6) (i := 2) rfl inlX6 (by decide) wm_6_22 rfl dX6_note_48 rfl ?_
  refine g_imul (q := 52) C dX6_note_51 rfl ?_
  refine g_bipush (q := 54) C dX6_note_52 rfl (by decide) ?_
  obtain ⟨p54, hM, H⟩ := H
  refine g_callS (q := 57) (As := [vr (xg x) 106, vi 0, vr (xg x) 108, vi (47 * (M 105 2)), vi 47]) (st := []) (na := 5) C mX6_bring hM wm_6_23 wm_7_0 wm_1_5 wm_7_1 (by decide +kernel) rfl rfl (by decide) rfl (Nat.le_of_ble_eq_true rfl) dX6_note_54 rfl (fun r54 M54 hp => ?_)
  have H := H r54 M54 hp
  show Gx x 1 57 [(0, vr (xg x) 105)] [] M54
  refine g_aload_n (q := 58) C dX6_note_57 rfl 0 rfl rfl ?_
  refine g_dup (q := 59) C dX6_note_58 rfl rfl ?_
  refine g_get (q := 62) C (by decide) (celr_6 (by decide)) (ci := 6) (i := 2) rfl inlX6 (by decide) wm_6_22 rfl dX6_note_59 rfl ?_
  refine g_iconst (q := 63) C dX6_note_62 rfl ?_
  refine g_iadd (q := 64) C dX6_note_63 rfl ?_
  refine g_put (q := 67) (ty := .int) C (by decide) (celr_6 (by decide)) (ci := 6) (i := 2) rfl inlX6 tyX6_ok nmX6 (by decide) wm_6_22 rfl rfl rfl rfl (Nat.le_of_ble_eq_true rfl) (by rw [celr_6 (by decide)]; rfl) dX6_note_64 rfl ?_
  refine g_topM (fun M64 hM64 => ?_)
  have H := H M64 hM64
  exact g_ret C hR dX6_note_67 rfl H
set_option maxRecDepth 10000 in
set_option maxHeartbeats 2000000 in
theorem X6_bring_0 {x : Xx} {post : Int → Mm → Prop} (C : Cx x mX6_bring) (hR : Rt x mX6_bring post) {k0 m0 : Nat} (h0 : isA k0 m0) {k2 m2 : Nat} (h2 : isA k2 m2) (v1 v3 v4 : Int) (M : Mm) (H : Gx x 6 3 [(0, vr (xg x) k0), (1, vi v1), (2, vr (xg x) k2), (3, vi v3), (4, vi v4), (5, vi 0)] [] M) : Gx x 6 0 [(0, vr (xg x) k0), (1, vi v1), (2, vr (xg x) k2), (3, vi v3), (4, vi v4)] [] M := by
  refine g_iconst (q := 1) C dX6_bring_0 rfl ?_
  refine g_istore (q := 3) (L2 := [(5, vi 0), (0, vr (xg x) k0), (1, vi v1), (2, vr (xg x) k2), (3, vi v3), (4, vi v4)]) C dX6_bring_1 rfl (by decide) rfl ?_
  refine g_sub [1, 2, 3, 4, 5, 0] rfl ?_
  exact H
set_option maxRecDepth 10000 in
set_option maxHeartbeats 2000000 in
theorem X6_bring_3 {x : Xx} {post : Int → Mm → Prop} (C : Cx x mX6_bring) (hR : Rt x mX6_bring post) {k0 m0 : Nat} (h0 : isA k0 m0) {k2 m2 : Nat} (h2 : isA k2 m2) (v1 v3 v4 v5 : Int) (M : Mm) (H : (inR v5 ∧ inR v4) ∧ (v4 ≤ v5 → (post 0 M)) ∧ (¬ (v4 ≤ v5) → ((0 ≤ v1 + v5 ∧ v1 + v5 < (m0 : Int)) ∧ ((0 ≤ v3 + v5 ∧ v3 + v5 < (m2 : Int)) ∧ (∀ M21 : Mm, M21 = mu M k2 (v3 + v5) (M k0 (v1 + v5)) → (Gx x 6 3 [(0, vr (xg x) k0), (1, vi v1), (2, vr (xg x) k2), (3, vi v3), (4, vi v4), (5, vi (v5 + 1))] [] M21)))))) : Gx x 6 3 [(0, vr (xg x) k0), (1, vi v1), (2, vr (xg x) k2), (3, vi v3), (4, vi v4), (5, vi v5)] [] M := by
  refine g_iload (q := 5) C dX6_bring_3 rfl 5 rfl ?_
  refine g_iload (q := 7) C dX6_bring_5 rfl 4 rfl ?_
  obtain ⟨hr, Ht, Hf⟩ := H
  refine g_icmp_ge (q := 10) (t := 28) C dX6_bring_7 rfl (by decide) hr (fun hc => ?_) (fun hc => ?_)
  · have H := Ht hc
    exact g_ret C hR dX6_bring_28 rfl H
  · have H := Hf hc
    refine g_aload_n (q := 11) C dX6_bring_10 rfl 2 rfl rfl ?_
    refine g_iload_n (q := 12) C dX6_bring_11 rfl 3 rfl rfl ?_
    refine g_iload (q := 14) C dX6_bring_12 rfl 5 rfl ?_
    refine g_iadd (q := 15) C dX6_bring_14 rfl ?_
    refine g_aload_n (q := 16) C dX6_bring_15 rfl 0 rfl rfl ?_
    refine g_iload_n (q := 17) C dX6_bring_16 rfl 1 rfl rfl ?_
    refine g_iload (q := 19) C dX6_bring_17 rfl 5 rfl ?_
    refine g_iadd (q := 20) C dX6_bring_19 rfl ?_
    obtain ⟨hc, H⟩ := H
    refine g_iald (q := 21) (m := m0) C (h0).1 (h0).2.1 (h0).2.2.1 hc (h0).lt dX6_bring_20 rfl ?_
    obtain ⟨hc, H⟩ := H
    refine g_iast (q := 22) (m := m2) C (h2).1 (h2).2.1 (h2).2.2.1 hc (h2).lt dX6_bring_21 rfl ?_
    refine g_topM (fun M21 hM21 => ?_)
    have H := H M21 hM21
    refine g_iinc (q := 25) (L2 := [(5, vi (v5 + 1)), (0, vr (xg x) k0), (1, vi v1), (2, vr (xg x) k2), (3, vi v3), (4, vi v4)]) C dX6_bring_22 rfl 5 rfl (by decide) rfl ?_
    refine g_goto (t := 3) C dX6_bring_25 (by decide) ?_
    refine g_sub [1, 2, 3, 4, 5, 0] rfl ?_
    exact H
set_option maxRecDepth 10000 in
set_option maxHeartbeats 2000000 in
theorem X6_figure_0 {x : Xx} {post : Int → Mm → Prop} (C : Cx x mX6_figure) (hR : Rt x mX6_figure post)  (v1 v2 v3 v4 v5 : Int) (M : Mm) (H : ∃ p9 : Int → Mm → Prop, Ct (xl x) (xg x) mX6_in [vi v1, vi 0, vi (M 106 6)] M p9 ∧ ∀ (r9 : Int) (M9 : Mm), p9 r9 M9 → ((inR r9) ∧ (r9 = 0 → (post (-1000000002) M9)) ∧ (¬ (r9 = 0) → (∃ p19 : Int → Mm → Prop, Ct (xl x) (xg x) mX6_in [vi v2, vi 1, vi 40] M9 p19 ∧ ∀ (r19 : Int) (M19 : Mm), p19 r19 M19 → ((inR r19) ∧ (r19 = 0 → (post (-1000000002) M19)) ∧ (¬ (r19 = 0) → (∃ p28 : Int → Mm → Prop, Ct (xl x) (xg x) mX6_in [vi v3, vi 0, vi 1] M19 p28 ∧ ∀ (r28 : Int) (M28 : Mm), p28 r28 M28 → ((inR r28) ∧ (r28 = 0 → (post (-1000000002) M28)) ∧ (¬ (r28 = 0) → (∃ p39 : Int → Mm → Prop, Ct (xl x) (xg x) mX6_in [vi v4, vi 0, vi 119] M28 p39 ∧ ∀ (r39 : Int) (M39 : Mm), p39 r39 M39 → ((inR r39) ∧ (r39 = 0 → (post (-1000000002) M39)) ∧ (¬ (r39 = 0) → (∃ p50 : Int → Mm → Prop, Ct (xl x) (xg x) mX6_in [vi v5, vi 1, vi 9] M39 p50 ∧ ∀ (r50 : Int) (M50 : Mm), p50 r50 M50 → ((inR r50) ∧ (¬ (r50 = 0) → ((inR (M50 106 6)) ∧ (¬ (M50 106 6 = 10) → (∃ p75 : Int → Mm → Prop, Ct (xl x) (xg x) mX6_note [vr (xg x) 105] M50 p75 ∧ ∀ (r75 : Int) (M75 : Mm), p75 r75 M75 → (∃ p86 : Int → Mm → Prop, Ct (xl x) (xg x) mX6_insert [vr (xg x) 105, vi v1, vi v2, vi v3, vi v4, vi v5] M75 p86 ∧ ∀ (r86 : Int) (M86 : Mm), p86 r86 M86 → (post (M86 106 6) M86)))) ∧ (M50 106 6 = 10 → (post (-1000000004) M50)))) ∧ (r50 = 0 → (post (-1000000002) M50)))))))))))))))) : Gx x 6 0 [(0, vr (xg x) 105), (1, vi v1), (2, vi v2), (3, vi v3), (4, vi v4), (5, vi v5)] [] M := by
  refine g_iload_n (q := 1) C dX6_figure_0 rfl 1 rfl rfl ?_
  refine g_iconst (q := 2) C dX6_figure_1 rfl ?_
  refine g_aload_n (q := 3) C dX6_figure_2 rfl 0 rfl rfl ?_
  refine g_get (q := 6) C (by decide) (celr_6 (by decide)) (ci := 6) (i := 0) rfl inlX6 (by decide) wm_4_11 rfl dX6_figure_3 rfl ?_
  refine g_bipush (q := 8) C dX6_figure_6 rfl (by decide) ?_
  refine g_iald (q := 9) (m := 47) C (by decide) (by decide) (by decide) (by decide) (by decide) dX6_figure_8 rfl ?_
  obtain ⟨p9, hM, H⟩ := H
  refine g_callS (q := 12) (As := [vi v1, vi 0, vi (M 106 6)]) (st := []) (na := 3) C mX6_in hM wm_6_11 wm_6_12 wm_1_5 wm_6_13 (by decide +kernel) rfl rfl (by decide) rfl (Nat.le_of_ble_eq_true rfl) dX6_figure_9 rfl (fun r9 M9 hp => ?_)
  have H := H r9 M9 hp
  show Gx x 6 12 [(0, vr (xg x) 105), (1, vi v1), (2, vi v2), (3, vi v3), (4, vi v4), (5, vi v5)] [vi r9] M9
  obtain ⟨hr, Ht, Hf⟩ := H
  refine g_if_eq (q := 15) (t := 56) C dX6_figure_12 rfl (by decide) hr (fun hc => ?_) (fun hc => ?_)
  · have H := Ht hc
    refine g_ldc (q := 58) (z := (-1000000002)) C dX6_figure_56 rfl wc_6_10 ?_
    exact g_iret C hR dX6_figure_58 rfl H
  · have H := Hf hc
    refine g_iload_n (q := 16) C dX6_figure_15 rfl 2 rfl rfl ?_
    refine g_iconst (q := 17) C dX6_figure_16 rfl ?_
    refine g_bipush (q := 19) C dX6_figure_17 rfl (by decide) ?_
    obtain ⟨p19, hM, H⟩ := H
    refine g_callS (q := 22) (As := [vi v2, vi 1, vi 40]) (st := []) (na := 3) C mX6_in hM wm_6_11 wm_6_12 wm_1_5 wm_6_13 (by decide +kernel) rfl rfl (by decide) rfl (Nat.le_of_ble_eq_true rfl) dX6_figure_19 rfl (fun r19 M19 hp => ?_)
    have H := H r19 M19 hp
    show Gx x 6 22 [(0, vr (xg x) 105), (1, vi v1), (2, vi v2), (3, vi v3), (4, vi v4), (5, vi v5)] [vi r19] M19
    obtain ⟨hr, Ht, Hf⟩ := H
    refine g_if_eq (q := 25) (t := 56) C dX6_figure_22 rfl (by decide) hr (fun hc => ?_) (fun hc => ?_)
    · have H := Ht hc
      refine g_ldc (q := 58) (z := (-1000000002)) C dX6_figure_56 rfl wc_6_10 ?_
      exact g_iret C hR dX6_figure_58 rfl H
    · have H := Hf hc
      refine g_iload_n (q := 26) C dX6_figure_25 rfl 3 rfl rfl ?_
      refine g_iconst (q := 27) C dX6_figure_26 rfl ?_
      refine g_iconst (q := 28) C dX6_figure_27 rfl ?_
      obtain ⟨p28, hM, H⟩ := H
      refine g_callS (q := 31) (As := [vi v3, vi 0, vi 1]) (st := []) (na := 3) C mX6_in hM wm_6_11 wm_6_12 wm_1_5 wm_6_13 (by decide +kernel) rfl rfl (by decide) rfl (Nat.le_of_ble_eq_true rfl) dX6_figure_28 rfl (fun r28 M28 hp => ?_)
      have H := H r28 M28 hp
      show Gx x 6 31 [(0, vr (xg x) 105), (1, vi v1), (2, vi v2), (3, vi v3), (4, vi v4), (5, vi v5)] [vi r28] M28
      obtain ⟨hr, Ht, Hf⟩ := H
      refine g_if_eq (q := 34) (t := 56) C dX6_figure_31 rfl (by decide) hr (fun hc => ?_) (fun hc => ?_)
      · have H := Ht hc
        refine g_ldc (q := 58) (z := (-1000000002)) C dX6_figure_56 rfl wc_6_10 ?_
        exact g_iret C hR dX6_figure_58 rfl H
      · have H := Hf hc
        refine g_iload (q := 36) C dX6_figure_34 rfl 4 rfl ?_
        refine g_iconst (q := 37) C dX6_figure_36 rfl ?_
        refine g_bipush (q := 39) C dX6_figure_37 rfl (by decide) ?_
        obtain ⟨p39, hM, H⟩ := H
        refine g_callS (q := 42) (As := [vi v4, vi 0, vi 119]) (st := []) (na := 3) C mX6_in hM wm_6_11 wm_6_12 wm_1_5 wm_6_13 (by decide +kernel) rfl rfl (by decide) rfl (Nat.le_of_ble_eq_true rfl) dX6_figure_39 rfl (fun r39 M39 hp => ?_)
        have H := H r39 M39 hp
        show Gx x 6 42 [(0, vr (xg x) 105), (1, vi v1), (2, vi v2), (3, vi v3), (4, vi v4), (5, vi v5)] [vi r39] M39
        obtain ⟨hr, Ht, Hf⟩ := H
        refine g_if_eq (q := 45) (t := 56) C dX6_figure_42 rfl (by decide) hr (fun hc => ?_) (fun hc => ?_)
        · have H := Ht hc
          refine g_ldc (q := 58) (z := (-1000000002)) C dX6_figure_56 rfl wc_6_10 ?_
          exact g_iret C hR dX6_figure_58 rfl H
        · have H := Hf hc
          refine g_iload (q := 47) C dX6_figure_45 rfl 5 rfl ?_
          refine g_iconst (q := 48) C dX6_figure_47 rfl ?_
          refine g_bipush (q := 50) C dX6_figure_48 rfl (by decide) ?_
          obtain ⟨p50, hM, H⟩ := H
          refine g_callS (q := 53) (As := [vi v5, vi 1, vi 9]) (st := []) (na := 3) C mX6_in hM wm_6_11 wm_6_12 wm_1_5 wm_6_13 (by decide +kernel) rfl rfl (by decide) rfl (Nat.le_of_ble_eq_true rfl) dX6_figure_50 rfl (fun r50 M50 hp => ?_)
          have H := H r50 M50 hp
          show Gx x 6 53 [(0, vr (xg x) 105), (1, vi v1), (2, vi v2), (3, vi v3), (4, vi v4), (5, vi v5)] [vi r50] M50
          obtain ⟨hr, Ht, Hf⟩ := H
          refine g_if_ne (q := 56) (t := 59) C dX6_figure_53 rfl (by decide) hr (fun hc => ?_) (fun hc => ?_)
          · have H := Ht hc
            refine g_aload_n (q := 60) C dX6_figure_59 rfl 0 rfl rfl ?_
            refine g_get (q := 63) C (by decide) (celr_6 (by decide)) (ci := 6) (i := 0) rfl inlX6 (by decide) wm_4_11 rfl dX6_figure_60 rfl ?_
            refine g_bipush (q := 65) C dX6_figure_63 rfl (by decide) ?_
            refine g_iald (q := 66) (m := 47) C (by decide) (by decide) (by decide) (by decide) (by decide) dX6_figure_65 rfl ?_
            refine g_bipush (q := 68) C dX6_figure_66 rfl (by decide) ?_
            obtain ⟨hr, Ht, Hf⟩ := H
            refine g_icmp_ne (q := 71) (t := 74) C dX6_figure_68 rfl (by decide) ⟨hr, by decide⟩ (fun hc => ?_) (fun hc => ?_)
            · have H := Ht hc
              refine g_aload_n (q := 75) C dX6_figure_74 rfl 0 rfl rfl ?_
              obtain ⟨p75, hM, H⟩ := H
              refine g_callV (q := 78) (As := []) (st := []) (na := 0) C mX6_note (by decide) (celr_6 (by decide)) rfl hM wm_6_18 wm_6_19 wm_6_20 wm_1_5 wm_6_21 (by decide +kernel) rfl rfl (by decide) rfl (Nat.le_of_ble_eq_true rfl) dX6_figure_75 rfl (fun r75 M75 hp => ?_)
              have H := H r75 M75 hp
              show Gx x 6 78 [(0, vr (xg x) 105), (1, vi v1), (2, vi v2), (3, vi v3), (4, vi v4), (5, vi v5)] [] M75
              refine g_aload_n (q := 79) C dX6_figure_78 rfl 0 rfl rfl ?_
              refine g_iload_n (q := 80) C dX6_figure_79 rfl 1 rfl rfl ?_
              refine g_iload_n (q := 81) C dX6_figure_80 rfl 2 rfl rfl ?_
              refine g_iload_n (q := 82) C dX6_figure_81 rfl 3 rfl rfl ?_
              refine g_iload (q := 84) C dX6_figure_82 rfl 4 rfl ?_
              refine g_iload (q := 86) C dX6_figure_84 rfl 5 rfl ?_
              obtain ⟨p86, hM, H⟩ := H
              refine g_callV (q := 89) (As := [vi v1, vi v2, vi v3, vi v4, vi v5]) (st := []) (na := 5) C mX6_insert (by decide) (celr_6 (by decide)) rfl hM wm_8_1 wm_8_2 wm_8_3 wm_1_5 wm_8_4 (by decide +kernel) rfl rfl (by decide) rfl (Nat.le_of_ble_eq_true rfl) dX6_figure_86 rfl (fun r86 M86 hp => ?_)
              have H := H r86 M86 hp
              show Gx x 6 89 [(0, vr (xg x) 105), (1, vi v1), (2, vi v2), (3, vi v3), (4, vi v4), (5, vi v5)] [] M86
              refine g_aload_n (q := 90) C dX6_figure_89 rfl 0 rfl rfl ?_
              refine g_get (q := 93) C (by decide) (celr_6 (by decide)) (ci := 6) (i := 0) rfl inlX6 (by decide) wm_4_11 rfl dX6_figure_90 rfl ?_
              refine g_bipush (q := 95) C dX6_figure_93 rfl (by decide) ?_
              refine g_iald (q := 96) (m := 47) C (by decide) (by decide) (by decide) (by decide) (by decide) dX6_figure_95 rfl ?_
              exact g_iret C hR dX6_figure_96 rfl H
            · have H := Hf hc
              refine g_ldc (q := 73) (z := (-1000000004)) C dX6_figure_71 rfl wc_8_0 ?_
              exact g_iret C hR dX6_figure_73 rfl H
          · have H := Hf hc
            refine g_ldc (q := 58) (z := (-1000000002)) C dX6_figure_56 rfl wc_6_10 ?_
            exact g_iret C hR dX6_figure_58 rfl H
set_option maxRecDepth 10000 in
set_option maxHeartbeats 2000000 in
theorem X6_insert_0 {x : Xx} {post : Int → Mm → Prop} (C : Cx x mX6_insert) (hR : Rt x mX6_insert post)  (v1 v2 v3 v4 v5 : Int) (M : Mm) (H : ∀ w11 : Int, w11 = ((4 * (M 106 6)) - 1) → (Gx x 7 13 [(0, vr (xg x) 105), (1, vi v1), (2, vi v2), (3, vi v3), (4, vi v4), (5, vi v5), (6, vi w11)] [] M)) : Gx x 7 0 [(0, vr (xg x) 105), (1, vi v1), (2, vi v2), (3, vi v3), (4, vi v4), (5, vi v5)] [] M := by
  refine g_iconst (q := 1) C dX6_insert_0 rfl ?_
  refine g_aload_n (q := 2) C dX6_insert_1 rfl 0 rfl rfl ?_
  refine g_get (q := 5) C (by decide) (celr_6 (by decide)) (ci := 6) (i := 0) rfl inlX6 (by decide) wm_4_11 rfl dX6_insert_2 rfl ?_
  refine g_bipush (q := 7) C dX6_insert_5 rfl (by decide) ?_
  refine g_iald (q := 8) (m := 47) C (by decide) (by decide) (by decide) (by decide) (by decide) dX6_insert_7 rfl ?_
  refine g_imul (q := 9) C dX6_insert_8 rfl ?_
  refine g_iconst (q := 10) C dX6_insert_9 rfl ?_
  refine g_isub (q := 11) C dX6_insert_10 rfl ?_
  refine g_topi (fun w11 hw11 => ?_)
  have H := H w11 hw11
  refine g_istore (q := 13) (L2 := [(6, vi w11), (0, vr (xg x) 105), (1, vi v1), (2, vi v2), (3, vi v3), (4, vi v4), (5, vi v5)]) C dX6_insert_11 rfl (by decide) rfl ?_
  refine g_sub [1, 2, 3, 4, 5, 6, 0] rfl ?_
  exact H
set_option maxRecDepth 10000 in
set_option maxHeartbeats 2000000 in
theorem X6_insert_13 {x : Xx} {post : Int → Mm → Prop} (C : Cx x mX6_insert) (hR : Rt x mX6_insert post)  (v1 v2 v3 v4 v5 v6 : Int) (M : Mm) (H : (inR v6 ∧ inR (4 * v1)) ∧ (v6 < 4 * v1 → ((0 ≤ 7 + (4 * v1) ∧ 7 + (4 * v1) < 47) ∧ (∀ M58 : Mm, M58 = mu M 106 (7 + (4 * v1)) v2 → ((0 ≤ (7 + (4 * v1)) + 1 ∧ (7 + (4 * v1)) + 1 < 47) ∧ (∀ M72 : Mm, M72 = mu M58 106 ((7 + (4 * v1)) + 1) v3 → ((0 ≤ (7 + (4 * v1)) + 2 ∧ (7 + (4 * v1)) + 2 < 47) ∧ (∀ M87 : Mm, M87 = mu M72 106 ((7 + (4 * v1)) + 2) v4 → ((0 ≤ (7 + (4 * v1)) + 3 ∧ (7 + (4 * v1)) + 3 < 47) ∧ (∀ M102 : Mm, M102 = mu M87 106 ((7 + (4 * v1)) + 3) v5 → (∀ M113 : Mm, M113 = mu M102 106 6 ((M102 106 6) + 1) → (post 0 M113))))))))))) ∧ (¬ (v6 < 4 * v1) → ((0 ≤ 7 + v6 ∧ 7 + v6 < 47) ∧ ((0 ≤ 11 + v6 ∧ 11 + v6 < 47) ∧ (∀ M40 : Mm, M40 = mu M 106 (11 + v6) (M 106 (7 + v6)) → (Gx x 7 13 [(0, vr (xg x) 105), (1, vi v1), (2, vi v2), (3, vi v3), (4, vi v4), (5, vi v5), (6, vi (v6 + (-1)))] [] M40)))))) : Gx x 7 13 [(0, vr (xg x) 105), (1, vi v1), (2, vi v2), (3, vi v3), (4, vi v4), (5, vi v5), (6, vi v6)] [] M := by
  refine g_iload (q := 15) C dX6_insert_13 rfl 6 rfl ?_
  refine g_iconst (q := 16) C dX6_insert_15 rfl ?_
  refine g_iload_n (q := 17) C dX6_insert_16 rfl 1 rfl rfl ?_
  refine g_imul (q := 18) C dX6_insert_17 rfl ?_
  obtain ⟨hr, Ht, Hf⟩ := H
  refine g_icmp_lt (q := 21) (t := 47) C dX6_insert_18 rfl (by decide) hr (fun hc => ?_) (fun hc => ?_)
  · have H := Ht hc
    refine g_aload_n (q := 48) C dX6_insert_47 rfl 0 rfl rfl ?_
    refine g_get (q := 51) C (by decide) (celr_6 (by decide)) (ci := 6) (i := 0) rfl inlX6 (by decide) wm_4_11 rfl dX6_insert_48 rfl ?_
    refine g_bipush (q := 53) C dX6_insert_51 rfl (by decide) ?_
    refine g_iconst (q := 54) C dX6_insert_53 rfl ?_
    refine g_iload_n (q := 55) C dX6_insert_54 rfl 1 rfl rfl ?_
    refine g_imul (q := 56) C dX6_insert_55 rfl ?_
    refine g_iadd (q := 57) C dX6_insert_56 rfl ?_
    refine g_iload_n (q := 58) C dX6_insert_57 rfl 2 rfl rfl ?_
    obtain ⟨hc, H⟩ := H
    refine g_iast (q := 59) (m := 47) C (by decide) (by decide) (by decide) hc (by decide) dX6_insert_58 rfl ?_
    refine g_topM (fun M58 hM58 => ?_)
    have H := H M58 hM58
    refine g_aload_n (q := 60) C dX6_insert_59 rfl 0 rfl rfl ?_
    refine g_get (q := 63) C (by decide) (celr_6 (by decide)) (ci := 6) (i := 0) rfl inlX6 (by decide) wm_4_11 rfl dX6_insert_60 rfl ?_
    refine g_bipush (q := 65) C dX6_insert_63 rfl (by decide) ?_
    refine g_iconst (q := 66) C dX6_insert_65 rfl ?_
    refine g_iload_n (q := 67) C dX6_insert_66 rfl 1 rfl rfl ?_
    refine g_imul (q := 68) C dX6_insert_67 rfl ?_
    refine g_iadd (q := 69) C dX6_insert_68 rfl ?_
    refine g_iconst (q := 70) C dX6_insert_69 rfl ?_
    refine g_iadd (q := 71) C dX6_insert_70 rfl ?_
    refine g_iload_n (q := 72) C dX6_insert_71 rfl 3 rfl rfl ?_
    obtain ⟨hc, H⟩ := H
    refine g_iast (q := 73) (m := 47) C (by decide) (by decide) (by decide) hc (by decide) dX6_insert_72 rfl ?_
    refine g_topM (fun M72 hM72 => ?_)
    have H := H M72 hM72
    refine g_aload_n (q := 74) C dX6_insert_73 rfl 0 rfl rfl ?_
    refine g_get (q := 77) C (by decide) (celr_6 (by decide)) (ci := 6) (i := 0) rfl inlX6 (by decide) wm_4_11 rfl dX6_insert_74 rfl ?_
    refine g_bipush (q := 79) C dX6_insert_77 rfl (by decide) ?_
    refine g_iconst (q := 80) C dX6_insert_79 rfl ?_
    refine g_iload_n (q := 81) C dX6_insert_80 rfl 1 rfl rfl ?_
    refine g_imul (q := 82) C dX6_insert_81 rfl ?_
    refine g_iadd (q := 83) C dX6_insert_82 rfl ?_
    refine g_iconst (q := 84) C dX6_insert_83 rfl ?_
    refine g_iadd (q := 85) C dX6_insert_84 rfl ?_
    refine g_iload (q := 87) C dX6_insert_85 rfl 4 rfl ?_
    obtain ⟨hc, H⟩ := H
    refine g_iast (q := 88) (m := 47) C (by decide) (by decide) (by decide) hc (by decide) dX6_insert_87 rfl ?_
    refine g_topM (fun M87 hM87 => ?_)
    have H := H M87 hM87
    refine g_aload_n (q := 89) C dX6_insert_88 rfl 0 rfl rfl ?_
    refine g_get (q := 92) C (by decide) (celr_6 (by decide)) (ci := 6) (i := 0) rfl inlX6 (by decide) wm_4_11 rfl dX6_insert_89 rfl ?_
    refine g_bipush (q := 94) C dX6_insert_92 rfl (by decide) ?_
    refine g_iconst (q := 95) C dX6_insert_94 rfl ?_
    refine g_iload_n (q := 96) C dX6_insert_95 rfl 1 rfl rfl ?_
    refine g_imul (q := 97) C dX6_insert_96 rfl ?_
    refine g_iadd (q := 98) C dX6_insert_97 rfl ?_
    refine g_iconst (q := 99) C dX6_insert_98 rfl ?_
    refine g_iadd (q := 100) C dX6_insert_99 rfl ?_
    refine g_iload (q := 102) C dX6_insert_100 rfl 5 rfl ?_
    obtain ⟨hc, H⟩ := H
    refine g_iast (q := 103) (m := 47) C (by decide) (by decide) (by decide) hc (by decide) dX6_insert_102 rfl ?_
    refine g_topM (fun M102 hM102 => ?_)
    have H := H M102 hM102
    refine g_aload_n (q := 104) C dX6_insert_103 rfl 0 rfl rfl ?_
    refine g_get (q := 107) C (by decide) (celr_6 (by decide)) (ci := 6) (i := 0) rfl inlX6 (by decide) wm_4_11 rfl dX6_insert_104 rfl ?_
    refine g_bipush (q := 109) C dX6_insert_107 rfl (by decide) ?_
    refine g_dup2 (q := 110) C dX6_insert_109 rfl rfl rfl ?_
    refine g_iald (q := 111) (m := 47) C (by decide) (by decide) (by decide) (by decide) (by decide) dX6_insert_110 rfl ?_
    refine g_iconst (q := 112) C dX6_insert_111 rfl ?_
    refine g_iadd (q := 113) C dX6_insert_112 rfl ?_
    refine g_iast (q := 114) (m := 47) C (by decide) (by decide) (by decide) (by decide) (by decide) dX6_insert_113 rfl ?_
    refine g_topM (fun M113 hM113 => ?_)
    have H := H M113 hM113
    exact g_ret C hR dX6_insert_114 rfl H
  · have H := Hf hc
    refine g_aload_n (q := 22) C dX6_insert_21 rfl 0 rfl rfl ?_
    refine g_get (q := 25) C (by decide) (celr_6 (by decide)) (ci := 6) (i := 0) rfl inlX6 (by decide) wm_4_11 rfl dX6_insert_22 rfl ?_
    refine g_bipush (q := 27) C dX6_insert_25 rfl (by decide) ?_
    refine g_iload (q := 29) C dX6_insert_27 rfl 6 rfl ?_
    refine g_iadd (q := 30) C dX6_insert_29 rfl ?_
    refine g_aload_n (q := 31) C dX6_insert_30 rfl 0 rfl rfl ?_
    refine g_get (q := 34) C (by decide) (celr_6 (by decide)) (ci := 6) (i := 0) rfl inlX6 (by decide) wm_4_11 rfl dX6_insert_31 rfl ?_
    refine g_bipush (q := 36) C dX6_insert_34 rfl (by decide) ?_
    refine g_iload (q := 38) C dX6_insert_36 rfl 6 rfl ?_
    refine g_iadd (q := 39) C dX6_insert_38 rfl ?_
    obtain ⟨hc, H⟩ := H
    refine g_iald (q := 40) (m := 47) C (by decide) (by decide) (by decide) hc (by decide) dX6_insert_39 rfl ?_
    obtain ⟨hc, H⟩ := H
    refine g_iast (q := 41) (m := 47) C (by decide) (by decide) (by decide) hc (by decide) dX6_insert_40 rfl ?_
    refine g_topM (fun M40 hM40 => ?_)
    have H := H M40 hM40
    refine g_iinc (q := 44) (L2 := [(6, vi (v6 + (-1))), (0, vr (xg x) 105), (1, vi v1), (2, vi v2), (3, vi v3), (4, vi v4), (5, vi v5)]) C dX6_insert_41 rfl 6 rfl (by decide) rfl ?_
    refine g_goto (t := 13) C dX6_insert_44 (by decide) ?_
    refine g_sub [1, 2, 3, 4, 5, 6, 0] rfl ?_
    exact H
set_option maxRecDepth 10000 in
set_option maxHeartbeats 2000000 in
theorem X6_drop_0 {x : Xx} {post : Int → Mm → Prop} (C : Cx x mX6_drop) (hR : Rt x mX6_drop post)  (v1 : Int) (M : Mm) (H : ∃ p2 : Int → Mm → Prop, Ct (xl x) (xg x) mX6_isFigure [vr (xg x) 105, vi v1] M p2 ∧ ∀ (r2 : Int) (M2 : Mm), p2 r2 M2 → ((inR r2) ∧ (¬ (r2 = 0) → (∃ p12 : Int → Mm → Prop, Ct (xl x) (xg x) mX6_note [vr (xg x) 105] M2 p12 ∧ ∀ (r12 : Int) (M12 : Mm), p12 r12 M12 → (∃ p17 : Int → Mm → Prop, Ct (xl x) (xg x) mX6_remove [vr (xg x) 105, vi v1] M12 p17 ∧ ∀ (r17 : Int) (M17 : Mm), p17 r17 M17 → (post (M17 106 6) M17)))) ∧ (r2 = 0 → (post (-1000000001) M2)))) : Gx x 2 0 [(0, vr (xg x) 105), (1, vi v1)] [] M := by
  refine g_aload_n (q := 1) C dX6_drop_0 rfl 0 rfl rfl ?_
  refine g_iload_n (q := 2) C dX6_drop_1 rfl 1 rfl rfl ?_
  obtain ⟨p2, hM, H⟩ := H
  refine g_callV (q := 5) (As := [vi v1]) (st := []) (na := 1) C mX6_isFigure (by decide) (celr_6 (by decide)) rfl hM wm_8_23 wm_9_0 wm_9_1 wm_1_5 wm_9_2 (by decide +kernel) rfl rfl (by decide) rfl (Nat.le_of_ble_eq_true rfl) dX6_drop_2 rfl (fun r2 M2 hp => ?_)
  have H := H r2 M2 hp
  show Gx x 2 5 [(0, vr (xg x) 105), (1, vi v1)] [vi r2] M2
  obtain ⟨hr, Ht, Hf⟩ := H
  refine g_if_ne (q := 8) (t := 11) C dX6_drop_5 rfl (by decide) hr (fun hc => ?_) (fun hc => ?_)
  · have H := Ht hc
    refine g_aload_n (q := 12) C dX6_drop_11 rfl 0 rfl rfl ?_
    obtain ⟨p12, hM, H⟩ := H
    refine g_callV (q := 15) (As := []) (st := []) (na := 0) C mX6_note (by decide) (celr_6 (by decide)) rfl hM wm_6_18 wm_6_19 wm_6_20 wm_1_5 wm_6_21 (by decide +kernel) rfl rfl (by decide) rfl (Nat.le_of_ble_eq_true rfl) dX6_drop_12 rfl (fun r12 M12 hp => ?_)
    have H := H r12 M12 hp
    show Gx x 2 15 [(0, vr (xg x) 105), (1, vi v1)] [] M12
    refine g_aload_n (q := 16) C dX6_drop_15 rfl 0 rfl rfl ?_
    refine g_iload_n (q := 17) C dX6_drop_16 rfl 1 rfl rfl ?_
    obtain ⟨p17, hM, H⟩ := H
    refine g_callV (q := 20) (As := [vi v1]) (st := []) (na := 1) C mX6_remove (by decide) (celr_6 (by decide)) rfl hM wm_9_3 wm_9_4 wm_9_5 wm_1_5 wm_9_6 (by decide +kernel) rfl rfl (by decide) rfl (Nat.le_of_ble_eq_true rfl) dX6_drop_17 rfl (fun r17 M17 hp => ?_)
    have H := H r17 M17 hp
    show Gx x 2 20 [(0, vr (xg x) 105), (1, vi v1)] [] M17
    refine g_aload_n (q := 21) C dX6_drop_20 rfl 0 rfl rfl ?_
    refine g_get (q := 24) C (by decide) (celr_6 (by decide)) (ci := 6) (i := 0) rfl inlX6 (by decide) wm_4_11 rfl dX6_drop_21 rfl ?_
    refine g_bipush (q := 26) C dX6_drop_24 rfl (by decide) ?_
    refine g_iald (q := 27) (m := 47) C (by decide) (by decide) (by decide) (by decide) (by decide) dX6_drop_26 rfl ?_
    exact g_iret C hR dX6_drop_27 rfl H
  · have H := Hf hc
    refine g_ldc (q := 10) (z := (-1000000001)) C dX6_drop_8 rfl wc_8_22 ?_
    exact g_iret C hR dX6_drop_10 rfl H
set_option maxRecDepth 10000 in
set_option maxHeartbeats 2000000 in
theorem X6_isFigure_0 {x : Xx} {post : Int → Mm → Prop} (C : Cx x mX6_isFigure) (hR : Rt x mX6_isFigure post)  (v1 : Int) (M : Mm) (H : ∃ p11 : Int → Mm → Prop, Ct (xl x) (xg x) mX6_in [vi v1, vi 0, vi ((M 106 6) - 1)] M p11 ∧ ∀ (r11 : Int) (M11 : Mm), p11 r11 M11 → ((r11 = 0 ∨ r11 = 1) ∧ post r11 M11)) : Gx x 2 0 [(0, vr (xg x) 105), (1, vi v1)] [] M := by
  refine g_iload_n (q := 1) C dX6_isFigure_0 rfl 1 rfl rfl ?_
  refine g_iconst (q := 2) C dX6_isFigure_1 rfl ?_
  refine g_aload_n (q := 3) C dX6_isFigure_2 rfl 0 rfl rfl ?_
  refine g_get (q := 6) C (by decide) (celr_6 (by decide)) (ci := 6) (i := 0) rfl inlX6 (by decide) wm_4_11 rfl dX6_isFigure_3 rfl ?_
  refine g_bipush (q := 8) C dX6_isFigure_6 rfl (by decide) ?_
  refine g_iald (q := 9) (m := 47) C (by decide) (by decide) (by decide) (by decide) (by decide) dX6_isFigure_8 rfl ?_
  refine g_iconst (q := 10) C dX6_isFigure_9 rfl ?_
  refine g_isub (q := 11) C dX6_isFigure_10 rfl ?_
  obtain ⟨p11, hM, H⟩ := H
  refine g_callS (q := 14) (As := [vi v1, vi 0, vi ((M 106 6) - 1)]) (st := []) (na := 3) C mX6_in hM wm_6_11 wm_6_12 wm_1_5 wm_6_13 (by decide +kernel) rfl rfl (by decide) rfl (Nat.le_of_ble_eq_true rfl) dX6_isFigure_11 rfl (fun r11 M11 hp => ?_)
  have H := H r11 M11 hp
  show Gx x 2 14 [(0, vr (xg x) 105), (1, vi v1)] [vi r11] M11
  exact g_zret C hR dX6_isFigure_14 rfl H.1 H.2
set_option maxRecDepth 10000 in
set_option maxHeartbeats 2000000 in
theorem X6_remove_0 {x : Xx} {post : Int → Mm → Prop} (C : Cx x mX6_remove) (hR : Rt x mX6_remove post)  (v1 : Int) (M : Mm) (H : ∀ M10 : Mm, M10 = mu M 106 6 ((M 106 6) - 1) → (∃ p44 : Int → Mm → Prop, Ct (xl x) (xg x) mX6_bring [vr (xg x) 106, vi ((7 + (4 * v1)) + 4), vr (xg x) 106, vi (7 + (4 * v1)), vi (4 * ((M10 106 6) - v1))] M10 p44 ∧ ∀ (r44 : Int) (M44 : Mm), p44 r44 M44 → (Gx x 3 49 [(0, vr (xg x) 105), (2, vi 0)] [] M44))) : Gx x 3 0 [(0, vr (xg x) 105), (1, vi v1)] [] M := by
  refine g_aload_n (q := 1) C dX6_remove_0 rfl 0 rfl rfl ?_
  refine g_get (q := 4) C (by decide) (celr_6 (by decide)) (ci := 6) (i := 0) rfl inlX6 (by decide) wm_4_11 rfl dX6_remove_1 rfl ?_
  refine g_bipush (q := 6) C dX6_remove_4 rfl (by decide) ?_
  refine g_dup2 (q := 7) C dX6_remove_6 rfl rfl rfl ?_
  refine g_iald (q := 8) (m := 47) C (by decide) (by decide) (by decide) (by decide) (by decide) dX6_remove_7 rfl ?_
  refine g_iconst (q := 9) C dX6_remove_8 rfl ?_
  refine g_isub (q := 10) C dX6_remove_9 rfl ?_
  refine g_iast (q := 11) (m := 47) C (by decide) (by decide) (by decide) (by decide) (by decide) dX6_remove_10 rfl ?_
  refine g_topM (fun M10 hM10 => ?_)
  have H := H M10 hM10
  refine g_aload_n (q := 12) C dX6_remove_11 rfl 0 rfl rfl ?_
  refine g_get (q := 15) C (by decide) (celr_6 (by decide)) (ci := 6) (i := 0) rfl inlX6 (by decide) wm_4_11 rfl dX6_remove_12 rfl ?_
  refine g_bipush (q := 17) C dX6_remove_15 rfl (by decide) ?_
  refine g_iconst (q := 18) C dX6_remove_17 rfl ?_
  refine g_iload_n (q := 19) C dX6_remove_18 rfl 1 rfl rfl ?_
  refine g_imul (q := 20) C dX6_remove_19 rfl ?_
  refine g_iadd (q := 21) C dX6_remove_20 rfl ?_
  refine g_iconst (q := 22) C dX6_remove_21 rfl ?_
  refine g_iadd (q := 23) C dX6_remove_22 rfl ?_
  refine g_aload_n (q := 24) C dX6_remove_23 rfl 0 rfl rfl ?_
  refine g_get (q := 27) C (by decide) (celr_6 (by decide)) (ci := 6) (i := 0) rfl inlX6 (by decide) wm_4_11 rfl dX6_remove_24 rfl ?_
  refine g_bipush (q := 29) C dX6_remove_27 rfl (by decide) ?_
  refine g_iconst (q := 30) C dX6_remove_29 rfl ?_
  refine g_iload_n (q := 31) C dX6_remove_30 rfl 1 rfl rfl ?_
  refine g_imul (q := 32) C dX6_remove_31 rfl ?_
  refine g_iadd (q := 33) C dX6_remove_32 rfl ?_
  refine g_iconst (q := 34) C dX6_remove_33 rfl ?_
  refine g_aload_n (q := 35) C dX6_remove_34 rfl 0 rfl rfl ?_
  refine g_get (q := 38) C (by decide) (celr_6 (by decide)) (ci := 6) (i := 0) rfl inlX6 (by decide) wm_4_11 rfl dX6_remove_35 rfl ?_
  refine g_bipush (q := 40) C dX6_remove_38 rfl (by decide) ?_
  refine g_iald (q := 41) (m := 47) C (by decide) (by decide) (by decide) (by decide) (by decide) dX6_remove_40 rfl ?_
  refine g_iload_n (q := 42) C dX6_remove_41 rfl 1 rfl rfl ?_
  refine g_isub (q := 43) C dX6_remove_42 rfl ?_
  refine g_imul (q := 44) C dX6_remove_43 rfl ?_
  obtain ⟨p44, hM, H⟩ := H
  refine g_callS (q := 47) (As := [vr (xg x) 106, vi ((7 + (4 * v1)) + 4), vr (xg x) 106, vi (7 + (4 * v1)), vi (4 * ((M10 106 6) - v1))]) (st := []) (na := 5) C mX6_bring hM wm_6_23 wm_7_0 wm_1_5 wm_7_1 (by decide +kernel) rfl rfl (by decide) rfl (Nat.le_of_ble_eq_true rfl) dX6_remove_44 rfl (fun r44 M44 hp => ?_)
  have H := H r44 M44 hp
  show Gx x 3 47 [(0, vr (xg x) 105), (1, vi v1)] [] M44
  refine g_iconst (q := 48) C dX6_remove_47 rfl ?_
  refine g_istore_n (q := 49) (L2 := [(2, vi 0), (0, vr (xg x) 105), (1, vi v1)]) C dX6_remove_48 rfl rfl (by decide) rfl ?_
  refine g_sub [1, 0] rfl ?_
  exact H
set_option maxRecDepth 10000 in
set_option maxHeartbeats 2000000 in
theorem X6_remove_49 {x : Xx} {post : Int → Mm → Prop} (C : Cx x mX6_remove) (hR : Rt x mX6_remove post)  (v2 : Int) (M : Mm) (H : (inR v2) ∧ (4 ≤ v2 → (post 0 M)) ∧ (¬ (4 ≤ v2) → ((0 ≤ (7 + (4 * (M 106 6))) + v2 ∧ (7 + (4 * (M 106 6))) + v2 < 47) ∧ (∀ M73 : Mm, M73 = mu M 106 ((7 + (4 * (M 106 6))) + v2) 0 → (Gx x 3 49 [(0, vr (xg x) 105), (2, vi (v2 + 1))] [] M73))))) : Gx x 3 49 [(0, vr (xg x) 105), (2, vi v2)] [] M := by
  refine g_iload_n (q := 50) C dX6_remove_49 rfl 1 rfl rfl ?_
  refine g_iconst (q := 51) C dX6_remove_50 rfl ?_
  obtain ⟨hr, Ht, Hf⟩ := H
  refine g_icmp_ge (q := 54) (t := 80) C dX6_remove_51 rfl (by decide) ⟨hr, by decide⟩ (fun hc => ?_) (fun hc => ?_)
  · have H := Ht hc
    exact g_ret C hR dX6_remove_80 rfl H
  · have H := Hf hc
    refine g_aload_n (q := 55) C dX6_remove_54 rfl 0 rfl rfl ?_
    refine g_get (q := 58) C (by decide) (celr_6 (by decide)) (ci := 6) (i := 0) rfl inlX6 (by decide) wm_4_11 rfl dX6_remove_55 rfl ?_
    refine g_bipush (q := 60) C dX6_remove_58 rfl (by decide) ?_
    refine g_iconst (q := 61) C dX6_remove_60 rfl ?_
    refine g_aload_n (q := 62) C dX6_remove_61 rfl 0 rfl rfl ?_
    refine g_get (q := 65) C (by decide) (celr_6 (by decide)) (ci := 6) (i := 0) rfl inlX6 (by decide) wm_4_11 rfl dX6_remove_62 rfl ?_
    refine g_bipush (q := 67) C dX6_remove_65 rfl (by decide) ?_
    refine g_iald (q := 68) (m := 47) C (by decide) (by decide) (by decide) (by decide) (by decide) dX6_remove_67 rfl ?_
    refine g_imul (q := 69) C dX6_remove_68 rfl ?_
    refine g_iadd (q := 70) C dX6_remove_69 rfl ?_
    refine g_iload_n (q := 71) C dX6_remove_70 rfl 1 rfl rfl ?_
    refine g_iadd (q := 72) C dX6_remove_71 rfl ?_
    refine g_iconst (q := 73) C dX6_remove_72 rfl ?_
    obtain ⟨hc, H⟩ := H
    refine g_iast (q := 74) (m := 47) C (by decide) (by decide) (by decide) hc (by decide) dX6_remove_73 rfl ?_
    refine g_topM (fun M73 hM73 => ?_)
    have H := H M73 hM73
    refine g_iinc (q := 77) (L2 := [(2, vi (v2 + 1)), (0, vr (xg x) 105)]) C dX6_remove_74 rfl 1 rfl (by decide) rfl ?_
    refine g_goto (t := 49) C dX6_remove_77 (by decide) ?_
    refine g_sub [1, 0] rfl ?_
    exact H
set_option maxRecDepth 10000 in
set_option maxHeartbeats 2000000 in
theorem X6_mention_0 {x : Xx} {post : Int → Mm → Prop} (C : Cx x mX6_mention) (hR : Rt x mX6_mention post)  (v1 v2 : Int) (M : Mm) (H : ∃ p2 : Int → Mm → Prop, Ct (xl x) (xg x) mX6_isFigure [vr (xg x) 105, vi v1] M p2 ∧ ∀ (r2 : Int) (M2 : Mm), p2 r2 M2 → ((inR r2) ∧ (¬ (r2 = 0) → (∃ p15 : Int → Mm → Prop, Ct (xl x) (xg x) mX6_in [vi v2, vi 0, vi 119] M2 p15 ∧ ∀ (r15 : Int) (M15 : Mm), p15 r15 M15 → ((inR r15) ∧ (¬ (r15 = 0) → (∃ p25 : Int → Mm → Prop, Ct (xl x) (xg x) mX6_note [vr (xg x) 105] M15 p25 ∧ ∀ (r25 : Int) (M25 : Mm), p25 r25 M25 → ((0 ≤ (7 + (4 * v1)) + 2 ∧ (7 + (4 * v1)) + 2 < 47) ∧ (∀ w41 : Int, w41 = (M25 106 ((7 + (4 * v1)) + 2)) → ((0 ≤ (7 + (4 * v1)) + 2 ∧ (7 + (4 * v1)) + 2 < 47) ∧ (∀ M55 : Mm, M55 = mu M25 106 ((7 + (4 * v1)) + 2) v2 → (post w41 M55))))))) ∧ (r15 = 0 → (post (-1000000002) M15))))) ∧ (r2 = 0 → (post (-1000000001) M2)))) : Gx x 4 0 [(0, vr (xg x) 105), (1, vi v1), (2, vi v2)] [] M := by
  refine g_aload_n (q := 1) C dX6_mention_0 rfl 0 rfl rfl ?_
  refine g_iload_n (q := 2) C dX6_mention_1 rfl 1 rfl rfl ?_
  obtain ⟨p2, hM, H⟩ := H
  refine g_callV (q := 5) (As := [vi v1]) (st := []) (na := 1) C mX6_isFigure (by decide) (celr_6 (by decide)) rfl hM wm_8_23 wm_9_0 wm_9_1 wm_1_5 wm_9_2 (by decide +kernel) rfl rfl (by decide) rfl (Nat.le_of_ble_eq_true rfl) dX6_mention_2 rfl (fun r2 M2 hp => ?_)
  have H := H r2 M2 hp
  show Gx x 4 5 [(0, vr (xg x) 105), (1, vi v1), (2, vi v2)] [vi r2] M2
  obtain ⟨hr, Ht, Hf⟩ := H
  refine g_if_ne (q := 8) (t := 11) C dX6_mention_5 rfl (by decide) hr (fun hc => ?_) (fun hc => ?_)
  · have H := Ht hc
    refine g_iload_n (q := 12) C dX6_mention_11 rfl 2 rfl rfl ?_
    refine g_iconst (q := 13) C dX6_mention_12 rfl ?_
    refine g_bipush (q := 15) C dX6_mention_13 rfl (by decide) ?_
    obtain ⟨p15, hM, H⟩ := H
    refine g_callS (q := 18) (As := [vi v2, vi 0, vi 119]) (st := []) (na := 3) C mX6_in hM wm_6_11 wm_6_12 wm_1_5 wm_6_13 (by decide +kernel) rfl rfl (by decide) rfl (Nat.le_of_ble_eq_true rfl) dX6_mention_15 rfl (fun r15 M15 hp => ?_)
    have H := H r15 M15 hp
    show Gx x 4 18 [(0, vr (xg x) 105), (1, vi v1), (2, vi v2)] [vi r15] M15
    obtain ⟨hr, Ht, Hf⟩ := H
    refine g_if_ne (q := 21) (t := 24) C dX6_mention_18 rfl (by decide) hr (fun hc => ?_) (fun hc => ?_)
    · have H := Ht hc
      refine g_aload_n (q := 25) C dX6_mention_24 rfl 0 rfl rfl ?_
      obtain ⟨p25, hM, H⟩ := H
      refine g_callV (q := 28) (As := []) (st := []) (na := 0) C mX6_note (by decide) (celr_6 (by decide)) rfl hM wm_6_18 wm_6_19 wm_6_20 wm_1_5 wm_6_21 (by decide +kernel) rfl rfl (by decide) rfl (Nat.le_of_ble_eq_true rfl) dX6_mention_25 rfl (fun r25 M25 hp => ?_)
      have H := H r25 M25 hp
      show Gx x 4 28 [(0, vr (xg x) 105), (1, vi v1), (2, vi v2)] [] M25
      refine g_aload_n (q := 29) C dX6_mention_28 rfl 0 rfl rfl ?_
      refine g_get (q := 32) C (by decide) (celr_6 (by decide)) (ci := 6) (i := 0) rfl inlX6 (by decide) wm_4_11 rfl dX6_mention_29 rfl ?_
      refine g_bipush (q := 34) C dX6_mention_32 rfl (by decide) ?_
      refine g_iconst (q := 35) C dX6_mention_34 rfl ?_
      refine g_iload_n (q := 36) C dX6_mention_35 rfl 1 rfl rfl ?_
      refine g_imul (q := 37) C dX6_mention_36 rfl ?_
      refine g_iadd (q := 38) C dX6_mention_37 rfl ?_
      refine g_iconst (q := 39) C dX6_mention_38 rfl ?_
      refine g_iadd (q := 40) C dX6_mention_39 rfl ?_
      obtain ⟨hc, H⟩ := H
      refine g_iald (q := 41) (m := 47) C (by decide) (by decide) (by decide) hc (by decide) dX6_mention_40 rfl ?_
      refine g_topi (fun w41 hw41 => ?_)
      have H := H w41 hw41
      refine g_istore_n (q := 42) (L2 := [(3, vi w41), (0, vr (xg x) 105), (1, vi v1), (2, vi v2)]) C dX6_mention_41 rfl rfl (by decide) rfl ?_
      refine g_aload_n (q := 43) C dX6_mention_42 rfl 1 rfl rfl ?_
      refine g_get (q := 46) C (by decide) (celr_6 (by decide)) (ci := 6) (i := 0) rfl inlX6 (by decide) wm_4_11 rfl dX6_mention_43 rfl ?_
      refine g_bipush (q := 48) C dX6_mention_46 rfl (by decide) ?_
      refine g_iconst (q := 49) C dX6_mention_48 rfl ?_
      refine g_iload_n (q := 50) C dX6_mention_49 rfl 2 rfl rfl ?_
      refine g_imul (q := 51) C dX6_mention_50 rfl ?_
      refine g_iadd (q := 52) C dX6_mention_51 rfl ?_
      refine g_iconst (q := 53) C dX6_mention_52 rfl ?_
      refine g_iadd (q := 54) C dX6_mention_53 rfl ?_
      refine g_iload_n (q := 55) C dX6_mention_54 rfl 3 rfl rfl ?_
      obtain ⟨hc, H⟩ := H
      refine g_iast (q := 56) (m := 47) C (by decide) (by decide) (by decide) hc (by decide) dX6_mention_55 rfl ?_
      refine g_topM (fun M55 hM55 => ?_)
      have H := H M55 hM55
      refine g_iload_n (q := 57) C dX6_mention_56 rfl 0 rfl rfl ?_
      exact g_iret C hR dX6_mention_57 rfl H
    · have H := Hf hc
      refine g_ldc (q := 23) (z := (-1000000002)) C dX6_mention_21 rfl wc_6_10 ?_
      exact g_iret C hR dX6_mention_23 rfl H
  · have H := Hf hc
    refine g_ldc (q := 10) (z := (-1000000001)) C dX6_mention_8 rfl wc_8_22 ?_
    exact g_iret C hR dX6_mention_10 rfl H
set_option maxRecDepth 10000 in
set_option maxHeartbeats 2000000 in
theorem X6_drift_0 {x : Xx} {post : Int → Mm → Prop} (C : Cx x mX6_drift) (hR : Rt x mX6_drift post)  (v1 v2 : Int) (M : Mm) (H : ∃ p4 : Int → Mm → Prop, Ct (xl x) (xg x) mX6_in [vi v1, vi 0, vi 10] M p4 ∧ ∀ (r4 : Int) (M4 : Mm), p4 r4 M4 → ((inR r4) ∧ (r4 = 0 → (post (-1000000002) M4)) ∧ (¬ (r4 = 0) → (∃ p14 : Int → Mm → Prop, Ct (xl x) (xg x) mX6_in [vi v2, vi 1, vi 999999] M4 p14 ∧ ∀ (r14 : Int) (M14 : Mm), p14 r14 M14 → ((inR r14) ∧ (¬ (r14 = 0) → (∃ p24 : Int → Mm → Prop, Ct (xl x) (xg x) mX6_note [vr (xg x) 105] M14 p24 ∧ ∀ (r24 : Int) (M24 : Mm), p24 r24 M24 → (Gx x 9 27 [(0, vr (xg x) 105), (1, vi v1), (2, vi v2)] [] M24))) ∧ (r14 = 0 → (post (-1000000002) M14))))))) : Gx x 9 0 [(0, vr (xg x) 105), (1, vi v1), (2, vi v2)] [] M := by
  refine g_iload_n (q := 1) C dX6_drift_0 rfl 1 rfl rfl ?_
  refine g_iconst (q := 2) C dX6_drift_1 rfl ?_
  refine g_bipush (q := 4) C dX6_drift_2 rfl (by decide) ?_
  obtain ⟨p4, hM, H⟩ := H
  refine g_callS (q := 7) (As := [vi v1, vi 0, vi 10]) (st := []) (na := 3) C mX6_in hM wm_6_11 wm_6_12 wm_1_5 wm_6_13 (by decide +kernel) rfl rfl (by decide) rfl (Nat.le_of_ble_eq_true rfl) dX6_drift_4 rfl (fun r4 M4 hp => ?_)
  have H := H r4 M4 hp
  show Gx x 9 7 [(0, vr (xg x) 105), (1, vi v1), (2, vi v2)] [vi r4] M4
  obtain ⟨hr, Ht, Hf⟩ := H
  refine g_if_eq (q := 10) (t := 20) C dX6_drift_7 rfl (by decide) hr (fun hc => ?_) (fun hc => ?_)
  · have H := Ht hc
    refine g_ldc (q := 22) (z := (-1000000002)) C dX6_drift_20 rfl wc_6_10 ?_
    exact g_iret C hR dX6_drift_22 rfl H
  · have H := Hf hc
    refine g_iload_n (q := 11) C dX6_drift_10 rfl 2 rfl rfl ?_
    refine g_iconst (q := 12) C dX6_drift_11 rfl ?_
    refine g_ldc (q := 14) (z := 999999) C dX6_drift_12 rfl wc_14_23 ?_
    obtain ⟨p14, hM, H⟩ := H
    refine g_callS (q := 17) (As := [vi v2, vi 1, vi 999999]) (st := []) (na := 3) C mX6_in hM wm_6_11 wm_6_12 wm_1_5 wm_6_13 (by decide +kernel) rfl rfl (by decide) rfl (Nat.le_of_ble_eq_true rfl) dX6_drift_14 rfl (fun r14 M14 hp => ?_)
    have H := H r14 M14 hp
    show Gx x 9 17 [(0, vr (xg x) 105), (1, vi v1), (2, vi v2)] [vi r14] M14
    obtain ⟨hr, Ht, Hf⟩ := H
    refine g_if_ne (q := 20) (t := 23) C dX6_drift_17 rfl (by decide) hr (fun hc => ?_) (fun hc => ?_)
    · have H := Ht hc
      refine g_aload_n (q := 24) C dX6_drift_23 rfl 0 rfl rfl ?_
      obtain ⟨p24, hM, H⟩ := H
      refine g_callV (q := 27) (As := []) (st := []) (na := 0) C mX6_note (by decide) (celr_6 (by decide)) rfl hM wm_6_18 wm_6_19 wm_6_20 wm_1_5 wm_6_21 (by decide +kernel) rfl rfl (by decide) rfl (Nat.le_of_ble_eq_true rfl) dX6_drift_24 rfl (fun r24 M24 hp => ?_)
      have H := H r24 M24 hp
      show Gx x 9 27 [(0, vr (xg x) 105), (1, vi v1), (2, vi v2)] [] M24
      refine g_sub [0, 1, 2] rfl ?_
      exact H
    · have H := Hf hc
      refine g_ldc (q := 22) (z := (-1000000002)) C dX6_drift_20 rfl wc_6_10 ?_
      exact g_iret C hR dX6_drift_22 rfl H
set_option maxRecDepth 10000 in
set_option maxHeartbeats 2000000 in
theorem X6_drift_27 {x : Xx} {post : Int → Mm → Prop} (C : Cx x mX6_drift) (hR : Rt x mX6_drift post)  (v1 v2 : Int) (M : Mm) (H : (inR (M 106 6)) ∧ (M 106 6 ≤ 0 → ((inR v2) ∧ (Gx x 9 59 [(0, vr (xg x) 105), (1, vi v1), (3, vl v2), (5, vi 0)] [] M))) ∧ (¬ (M 106 6 ≤ 0) → (∃ p47 : Int → Mm → Prop, Ct (xl x) (xg x) mX6_remove [vr (xg x) 105, vi ((M 106 6) - 1)] M p47 ∧ ∀ (r47 : Int) (M47 : Mm), p47 r47 M47 → (Gx x 9 27 [(0, vr (xg x) 105), (1, vi v1), (2, vi v2)] [] M47)))) : Gx x 9 27 [(0, vr (xg x) 105), (1, vi v1), (2, vi v2)] [] M := by
  refine g_aload_n (q := 28) C dX6_drift_27 rfl 0 rfl rfl ?_
  refine g_get (q := 31) C (by decide) (celr_6 (by decide)) (ci := 6) (i := 0) rfl inlX6 (by decide) wm_4_11 rfl dX6_drift_28 rfl ?_
  refine g_bipush (q := 33) C dX6_drift_31 rfl (by decide) ?_
  refine g_iald (q := 34) (m := 47) C (by decide) (by decide) (by decide) (by decide) (by decide) dX6_drift_33 rfl ?_
  obtain ⟨hr, Ht, Hf⟩ := H
  refine g_if_le (q := 37) (t := 53) C dX6_drift_34 rfl (by decide) hr (fun hc => ?_) (fun hc => ?_)
  · have H := Ht hc
    refine g_iload_n (q := 54) C dX6_drift_53 rfl 2 rfl rfl ?_
    obtain ⟨hc, H⟩ := H
    refine g_i2l (q := 55) C dX6_drift_54 rfl hc ?_
    refine g_lstore_n (q := 56) (L2 := [(3, vl v2), (0, vr (xg x) 105), (1, vi v1), (2, vi v2)]) C dX6_drift_55 rfl rfl (by decide) rfl ?_
    refine g_iconst (q := 57) C dX6_drift_56 rfl ?_
    refine g_istore (q := 59) (L2 := [(5, vi 0), (3, vl v2), (0, vr (xg x) 105), (1, vi v1), (2, vi v2)]) C dX6_drift_57 rfl (by decide) rfl ?_
    refine g_sub [2, 3, 1, 0] rfl ?_
    exact H
  · have H := Hf hc
    refine g_aload_n (q := 38) C dX6_drift_37 rfl 0 rfl rfl ?_
    refine g_aload_n (q := 39) C dX6_drift_38 rfl 0 rfl rfl ?_
    refine g_get (q := 42) C (by decide) (celr_6 (by decide)) (ci := 6) (i := 0) rfl inlX6 (by decide) wm_4_11 rfl dX6_drift_39 rfl ?_
    refine g_bipush (q := 44) C dX6_drift_42 rfl (by decide) ?_
    refine g_iald (q := 45) (m := 47) C (by decide) (by decide) (by decide) (by decide) (by decide) dX6_drift_44 rfl ?_
    refine g_iconst (q := 46) C dX6_drift_45 rfl ?_
    refine g_isub (q := 47) C dX6_drift_46 rfl ?_
    obtain ⟨p47, hM, H⟩ := H
    refine g_callV (q := 50) (As := [vi ((M 106 6) - 1)]) (st := []) (na := 1) C mX6_remove (by decide) (celr_6 (by decide)) rfl hM wm_9_3 wm_9_4 wm_9_5 wm_1_5 wm_9_6 (by decide +kernel) rfl rfl (by decide) rfl (Nat.le_of_ble_eq_true rfl) dX6_drift_47 rfl (fun r47 M47 hp => ?_)
    have H := H r47 M47 hp
    show Gx x 9 50 [(0, vr (xg x) 105), (1, vi v1), (2, vi v2)] [] M47
    refine g_goto (t := 27) C dX6_drift_50 (by decide) ?_
    refine g_sub [0, 1, 2] rfl ?_
    exact H
set_option maxRecDepth 10000 in
set_option maxHeartbeats 2000000 in
theorem X6_drift_59 {x : Xx} {post : Int → Mm → Prop} (C : Cx x mX6_drift) (hR : Rt x mX6_drift post)  (v1 v3 v5 : Int) (M : Mm) (H : (inR v5 ∧ inR v1) ∧ (v1 ≤ v5 → (∃ p192 : Int → Mm → Prop, Ct (xl x) (xg x) mX6_bestOf [vr (xg x) 105] M p192 ∧ ∀ (r192 : Int) (M192 : Mm), p192 r192 M192 → (post r192 M192))) ∧ (¬ (v1 ≤ v5) → ((0 ≤ v3 * 16807 ∧ v3 * 16807 < 9223372036854775808) ∧ (∀ w74 : Int, w74 = ((v3 * 16807) % 2147483647) → ((inR (M 106 3)) ∧ (¬ (M 106 3 = 0) → (Gx x 9 95 [(0, vr (xg x) 105), (1, vi v1), (3, vl w74), (5, vi v5)] [vi (M 106 3), vl w74] M)) ∧ (M 106 3 = 0 → (Gx x 9 95 [(0, vr (xg x) 105), (1, vi v1), (3, vl w74), (5, vi v5)] [vi 1, vl w74] M))))))) : Gx x 9 59 [(0, vr (xg x) 105), (1, vi v1), (3, vl v3), (5, vi v5)] [] M := by
  refine g_iload (q := 61) C dX6_drift_59 rfl 3 rfl ?_
  refine g_iload_n (q := 62) C dX6_drift_61 rfl 1 rfl rfl ?_
  obtain ⟨hr, Ht, Hf⟩ := H
  refine g_icmp_ge (q := 65) (t := 191) C dX6_drift_62 rfl (by decide) hr (fun hc => ?_) (fun hc => ?_)
  · have H := Ht hc
    refine g_aload_n (q := 192) C dX6_drift_191 rfl 0 rfl rfl ?_
    obtain ⟨p192, hM, H⟩ := H
    refine g_callV (q := 195) (As := []) (st := []) (na := 0) C mX6_bestOf (by decide) (celr_6 (by decide)) rfl hM wm_15_4 wm_15_5 wm_15_6 wm_1_5 wm_15_7 (by decide +kernel) rfl rfl (by decide) rfl (Nat.le_of_ble_eq_true rfl) dX6_drift_192 rfl (fun r192 M192 hp => ?_)
    have H := H r192 M192 hp
    show Gx x 9 195 [(0, vr (xg x) 105), (1, vi v1), (3, vl v3), (5, vi v5)] [vi r192] M192
    exact g_iret C hR dX6_drift_195 rfl H
  · have H := Hf hc
    refine g_lload_n (q := 66) C dX6_drift_65 rfl 2 rfl rfl ?_
    refine g_ldc2 (q := 69) (z := 16807) C dX6_drift_66 rfl wc_15_0 ?_
    refine g_lmul (q := 70) C dX6_drift_69 rfl ?_
    refine g_ldc2 (q := 73) (z := 2147483647) C dX6_drift_70 rfl wc_15_1 ?_
    obtain ⟨hc, H⟩ := H
    refine g_lrem (q := 74) C dX6_drift_73 rfl ⟨hc, by decide⟩ ?_
    refine g_topl (fun w74 hw74 => ?_)
    have H := H w74 hw74
    refine g_lstore_n (q := 75) (L2 := [(3, vl w74), (0, vr (xg x) 105), (1, vi v1), (5, vi v5)]) C dX6_drift_74 rfl rfl (by decide) rfl ?_
    refine g_lload_n (q := 76) C dX6_drift_75 rfl 0 rfl rfl ?_
    refine g_aload_n (q := 77) C dX6_drift_76 rfl 1 rfl rfl ?_
    refine g_get (q := 80) C (by decide) (celr_6 (by decide)) (ci := 6) (i := 0) rfl inlX6 (by decide) wm_4_11 rfl dX6_drift_77 rfl ?_
    refine g_iconst (q := 81) C dX6_drift_80 rfl ?_
    refine g_iald (q := 82) (m := 47) C (by decide) (by decide) (by decide) (by decide) (by decide) dX6_drift_81 rfl ?_
    obtain ⟨hr, Ht, Hf⟩ := H
    refine g_if_ne (q := 85) (t := 89) C dX6_drift_82 rfl (by decide) hr (fun hc => ?_) (fun hc => ?_)
    · have H := Ht hc
      refine g_aload_n (q := 90) C dX6_drift_89 rfl 1 rfl rfl ?_
      refine g_get (q := 93) C (by decide) (celr_6 (by decide)) (ci := 6) (i := 0) rfl inlX6 (by decide) wm_4_11 rfl dX6_drift_90 rfl ?_
      refine g_iconst (q := 94) C dX6_drift_93 rfl ?_
      refine g_iald (q := 95) (m := 47) C (by decide) (by decide) (by decide) (by decide) (by decide) dX6_drift_94 rfl ?_
      refine g_sub [1, 2, 0, 3] rfl ?_
      exact H
    · have H := Hf hc
      refine g_iconst (q := 86) C dX6_drift_85 rfl ?_
      refine g_goto (t := 95) C dX6_drift_86 (by decide) ?_
      refine g_sub [1, 2, 0, 3] rfl ?_
      exact H
set_option maxRecDepth 10000 in
set_option maxHeartbeats 2000000 in
theorem X6_drift_95 {x : Xx} {post : Int → Mm → Prop} (C : Cx x mX6_drift) (hR : Rt x mX6_drift post)  (v1 v3 v5 s0 s1 : Int) (M : Mm) (H : (inR s0) ∧ (((0 ≤ s1 ∧ s1 < 9223372036854775808) ∧ (0 < s0 ∧ s0 < 9223372036854775808)) ∧ (∀ w100 : Int, w100 = ((s1 % s0) + 1) → ((0 ≤ v3 * 16807 ∧ v3 * 16807 < 9223372036854775808) ∧ (∀ w111 : Int, w111 = ((v3 * 16807) % 2147483647) → ((0 ≤ w111 ∧ w111 < 9223372036854775808) ∧ (∀ w118 : Int, w118 = (w111 % 2) → ((0 ≤ w111 * 16807 ∧ w111 * 16807 < 9223372036854775808) ∧ (∀ w129 : Int, w129 = ((w111 * 16807) % 2147483647) → ((inR (M 106 0)) ∧ (¬ (M 106 0 = 0) → (Gx x 9 150 [(0, vr (xg x) 105), (1, vi v1), (3, vl w129), (5, vi v5), (6, vi w100), (7, vi w118)] [vi (M 106 0), vl w129] M)) ∧ (M 106 0 = 0 → (Gx x 9 150 [(0, vr (xg x) 105), (1, vi v1), (3, vl w129), (5, vi v5), (6, vi w100), (7, vi w118)] [vi 1, vl w129] M)))))))))))) : Gx x 9 95 [(0, vr (xg x) 105), (1, vi v1), (3, vl v3), (5, vi v5)] [vi s0, vl s1] M := by
  obtain ⟨hc, H⟩ := H
  refine g_i2l (q := 96) C dX6_drift_95 rfl hc ?_
  obtain ⟨hc, H⟩ := H
  refine g_lrem (q := 97) C dX6_drift_96 rfl hc ?_
  refine g_l2i (q := 98) C dX6_drift_97 rfl ?_
  refine g_iconst (q := 99) C dX6_drift_98 rfl ?_
  refine g_iadd (q := 100) C dX6_drift_99 rfl ?_
  refine g_topi (fun w100 hw100 => ?_)
  have H := H w100 hw100
  refine g_istore (q := 102) (L2 := [(6, vi w100), (0, vr (xg x) 105), (1, vi v1), (3, vl v3), (5, vi v5)]) C dX6_drift_100 rfl (by decide) rfl ?_
  refine g_lload_n (q := 103) C dX6_drift_102 rfl 3 rfl rfl ?_
  refine g_ldc2 (q := 106) (z := 16807) C dX6_drift_103 rfl wc_15_0 ?_
  refine g_lmul (q := 107) C dX6_drift_106 rfl ?_
  refine g_ldc2 (q := 110) (z := 2147483647) C dX6_drift_107 rfl wc_15_1 ?_
  obtain ⟨hc, H⟩ := H
  refine g_lrem (q := 111) C dX6_drift_110 rfl ⟨hc, by decide⟩ ?_
  refine g_topl (fun w111 hw111 => ?_)
  have H := H w111 hw111
  refine g_lstore_n (q := 112) (L2 := [(3, vl w111), (6, vi w100), (0, vr (xg x) 105), (1, vi v1), (5, vi v5)]) C dX6_drift_111 rfl rfl (by decide) rfl ?_
  refine g_lload_n (q := 113) C dX6_drift_112 rfl 0 rfl rfl ?_
  refine g_ldc2 (q := 116) (z := 2) C dX6_drift_113 rfl wc_15_2 ?_
  obtain ⟨hc, H⟩ := H
  refine g_lrem (q := 117) C dX6_drift_116 rfl ⟨hc, by decide⟩ ?_
  refine g_l2i (q := 118) C dX6_drift_117 rfl ?_
  refine g_topi (fun w118 hw118 => ?_)
  have H := H w118 hw118
  refine g_istore (q := 120) (L2 := [(7, vi w118), (3, vl w111), (6, vi w100), (0, vr (xg x) 105), (1, vi v1), (5, vi v5)]) C dX6_drift_118 rfl (by decide) rfl ?_
  refine g_lload_n (q := 121) C dX6_drift_120 rfl 1 rfl rfl ?_
  refine g_ldc2 (q := 124) (z := 16807) C dX6_drift_121 rfl wc_15_0 ?_
  refine g_lmul (q := 125) C dX6_drift_124 rfl ?_
  refine g_ldc2 (q := 128) (z := 2147483647) C dX6_drift_125 rfl wc_15_1 ?_
  obtain ⟨hc, H⟩ := H
  refine g_lrem (q := 129) C dX6_drift_128 rfl ⟨hc, by decide⟩ ?_
  refine g_topl (fun w129 hw129 => ?_)
  have H := H w129 hw129
  refine g_lstore_n (q := 130) (L2 := [(3, vl w129), (7, vi w118), (6, vi w100), (0, vr (xg x) 105), (1, vi v1), (5, vi v5)]) C dX6_drift_129 rfl rfl (by decide) rfl ?_
  refine g_lload_n (q := 131) C dX6_drift_130 rfl 0 rfl rfl ?_
  refine g_aload_n (q := 132) C dX6_drift_131 rfl 3 rfl rfl ?_
  refine g_get (q := 135) C (by decide) (celr_6 (by decide)) (ci := 6) (i := 0) rfl inlX6 (by decide) wm_4_11 rfl dX6_drift_132 rfl ?_
  refine g_iconst (q := 136) C dX6_drift_135 rfl ?_
  refine g_iald (q := 137) (m := 47) C (by decide) (by decide) (by decide) (by decide) (by decide) dX6_drift_136 rfl ?_
  obtain ⟨hr, Ht, Hf⟩ := H
  refine g_if_ne (q := 140) (t := 144) C dX6_drift_137 rfl (by decide) hr (fun hc => ?_) (fun hc => ?_)
  · have H := Ht hc
    refine g_aload_n (q := 145) C dX6_drift_144 rfl 3 rfl rfl ?_
    refine g_get (q := 148) C (by decide) (celr_6 (by decide)) (ci := 6) (i := 0) rfl inlX6 (by decide) wm_4_11 rfl dX6_drift_145 rfl ?_
    refine g_iconst (q := 149) C dX6_drift_148 rfl ?_
    refine g_iald (q := 150) (m := 47) C (by decide) (by decide) (by decide) (by decide) (by decide) dX6_drift_149 rfl ?_
    refine g_sub [3, 4, 0, 5, 2, 1] rfl ?_
    exact H
  · have H := Hf hc
    refine g_iconst (q := 141) C dX6_drift_140 rfl ?_
    refine g_goto (t := 150) C dX6_drift_141 (by decide) ?_
    refine g_sub [3, 4, 0, 5, 2, 1] rfl ?_
    exact H
set_option maxRecDepth 10000 in
set_option maxHeartbeats 2000000 in
theorem X6_drift_150 {x : Xx} {post : Int → Mm → Prop} (C : Cx x mX6_drift) (hR : Rt x mX6_drift post)  (v1 v3 v5 v6 v7 s0 s1 : Int) (M : Mm) (H : (inR s0) ∧ (((0 ≤ s1 ∧ s1 < 9223372036854775808) ∧ (0 < s0 ∧ s0 < 9223372036854775808)) ∧ (∀ w153 : Int, w153 = (s1 % s0) → ((0 ≤ v3 * 16807 ∧ v3 * 16807 < 9223372036854775808) ∧ (∀ w164 : Int, w164 = ((v3 * 16807) % 2147483647) → ((0 ≤ w164 ∧ w164 < 9223372036854775808) ∧ (∃ p182 : Int → Mm → Prop, Ct (xl x) (xg x) mX6_insert [vr (xg x) 105, vi v5, vi v6, vi v7, vi w153, vi ((w164 % 9) + 1)] M p182 ∧ ∀ (r182 : Int) (M182 : Mm), p182 r182 M182 → (Gx x 9 59 [(0, vr (xg x) 105), (1, vi v1), (3, vl w164), (5, vi (v5 + 1))] [] M182)))))))) : Gx x 9 150 [(0, vr (xg x) 105), (1, vi v1), (3, vl v3), (5, vi v5), (6, vi v6), (7, vi v7)] [vi s0, vl s1] M := by
  obtain ⟨hc, H⟩ := H
  refine g_i2l (q := 151) C dX6_drift_150 rfl hc ?_
  obtain ⟨hc, H⟩ := H
  refine g_lrem (q := 152) C dX6_drift_151 rfl hc ?_
  refine g_l2i (q := 153) C dX6_drift_152 rfl ?_
  refine g_topi (fun w153 hw153 => ?_)
  have H := H w153 hw153
  refine g_istore (q := 155) (L2 := [(8, vi w153), (0, vr (xg x) 105), (1, vi v1), (3, vl v3), (5, vi v5), (6, vi v6), (7, vi v7)]) C dX6_drift_153 rfl (by decide) rfl ?_
  refine g_lload_n (q := 156) C dX6_drift_155 rfl 3 rfl rfl ?_
  refine g_ldc2 (q := 159) (z := 16807) C dX6_drift_156 rfl wc_15_0 ?_
  refine g_lmul (q := 160) C dX6_drift_159 rfl ?_
  refine g_ldc2 (q := 163) (z := 2147483647) C dX6_drift_160 rfl wc_15_1 ?_
  obtain ⟨hc, H⟩ := H
  refine g_lrem (q := 164) C dX6_drift_163 rfl ⟨hc, by decide⟩ ?_
  refine g_topl (fun w164 hw164 => ?_)
  have H := H w164 hw164
  refine g_lstore_n (q := 165) (L2 := [(3, vl w164), (8, vi w153), (0, vr (xg x) 105), (1, vi v1), (5, vi v5), (6, vi v6), (7, vi v7)]) C dX6_drift_164 rfl rfl (by decide) rfl ?_
  refine g_aload_n (q := 166) C dX6_drift_165 rfl 2 rfl rfl ?_
  refine g_iload (q := 168) C dX6_drift_166 rfl 4 rfl ?_
  refine g_iload (q := 170) C dX6_drift_168 rfl 5 rfl ?_
  refine g_iload (q := 172) C dX6_drift_170 rfl 6 rfl ?_
  refine g_iload (q := 174) C dX6_drift_172 rfl 1 rfl ?_
  refine g_lload_n (q := 175) C dX6_drift_174 rfl 0 rfl rfl ?_
  refine g_ldc2 (q := 178) (z := 9) C dX6_drift_175 rfl wc_15_3 ?_
  obtain ⟨hc, H⟩ := H
  refine g_lrem (q := 179) C dX6_drift_178 rfl ⟨hc, by decide⟩ ?_
  refine g_l2i (q := 180) C dX6_drift_179 rfl ?_
  refine g_iconst (q := 181) C dX6_drift_180 rfl ?_
  refine g_iadd (q := 182) C dX6_drift_181 rfl ?_
  obtain ⟨p182, hM, H⟩ := H
  refine g_callV (q := 185) (As := [vi v5, vi v6, vi v7, vi w153, vi ((w164 % 9) + 1)]) (st := []) (na := 5) C mX6_insert (by decide) (celr_6 (by decide)) rfl hM wm_8_1 wm_8_2 wm_8_3 wm_1_5 wm_8_4 (by decide +kernel) rfl rfl (by decide) rfl (Nat.le_of_ble_eq_true rfl) dX6_drift_182 rfl (fun r182 M182 hp => ?_)
  have H := H r182 M182 hp
  show Gx x 9 185 [(3, vl w164), (8, vi w153), (0, vr (xg x) 105), (1, vi v1), (5, vi v5), (6, vi v6), (7, vi v7)] [] M182
  refine g_iinc (q := 188) (L2 := [(5, vi (v5 + 1)), (3, vl w164), (8, vi w153), (0, vr (xg x) 105), (1, vi v1), (6, vi v6), (7, vi v7)]) C dX6_drift_185 rfl 4 rfl (by decide) rfl ?_
  refine g_goto (t := 59) C dX6_drift_188 (by decide) ?_
  refine g_sub [3, 4, 1, 0] rfl ?_
  exact H
set_option maxRecDepth 10000 in
set_option maxHeartbeats 2000000 in
theorem X6_bestOf_0 {x : Xx} {post : Int → Mm → Prop} (C : Cx x mX6_bestOf) (hR : Rt x mX6_bestOf post)  (M : Mm) (H : ∃ p1 : Int → Mm → Prop, Ct (xl x) (xg x) mX6_lay [vr (xg x) 105] M p1 ∧ ∀ (r1 : Int) (M1 : Mm), p1 r1 M1 → ((inR (M1 112 0)) ∧ (¬ (M1 112 0 = 100000000) → (post (M1 112 0) M1)) ∧ (M1 112 0 = 100000000 → (post (-1) M1)))) : Gx x 1 0 [(0, vr (xg x) 105)] [] M := by
  refine g_aload_n (q := 1) C dX6_bestOf_0 rfl 0 rfl rfl ?_
  obtain ⟨p1, hM, H⟩ := H
  refine g_callV (q := 4) (As := []) (st := []) (na := 0) C mX6_lay (by decide) (celr_6 (by decide)) rfl hM wm_15_9 wm_15_10 wm_15_11 wm_1_5 wm_15_12 (by decide +kernel) rfl rfl (by decide) rfl (Nat.le_of_ble_eq_true rfl) dX6_bestOf_1 rfl (fun r1 M1 hp => ?_)
  have H := H r1 M1 hp
  show Gx x 1 4 [(0, vr (xg x) 105)] [] M1
  refine g_aload_n (q := 5) C dX6_bestOf_4 rfl 0 rfl rfl ?_
  refine g_get (q := 8) C (by decide) (celr_6 (by decide)) (ci := 6) (i := 8) rfl inlX6 (by decide) wm_4_17 rfl dX6_bestOf_5 rfl ?_
  refine g_iconst (q := 9) C dX6_bestOf_8 rfl ?_
  refine g_iald (q := 10) (m := 1331) C (by decide) (by decide) (by decide) (by decide) (by decide) dX6_bestOf_9 rfl ?_
  refine g_ldc (q := 12) (z := 100000000) C dX6_bestOf_10 rfl wc_15_8 ?_
  obtain ⟨hr, Ht, Hf⟩ := H
  refine g_icmp_ne (q := 15) (t := 19) C dX6_bestOf_12 rfl (by decide) ⟨hr, by decide⟩ (fun hc => ?_) (fun hc => ?_)
  · have H := Ht hc
    refine g_aload_n (q := 20) C dX6_bestOf_19 rfl 0 rfl rfl ?_
    refine g_get (q := 23) C (by decide) (celr_6 (by decide)) (ci := 6) (i := 8) rfl inlX6 (by decide) wm_4_17 rfl dX6_bestOf_20 rfl ?_
    refine g_iconst (q := 24) C dX6_bestOf_23 rfl ?_
    refine g_iald (q := 25) (m := 1331) C (by decide) (by decide) (by decide) (by decide) (by decide) dX6_bestOf_24 rfl ?_
    exact g_iret C hR dX6_bestOf_25 rfl H
  · have H := Hf hc
    refine g_iconst (q := 16) C dX6_bestOf_15 rfl ?_
    refine g_goto (t := 25) C dX6_bestOf_16 (by decide) ?_
    exact g_iret C hR dX6_bestOf_25 rfl H
set_option maxRecDepth 10000 in
set_option maxHeartbeats 2000000 in
theorem X6_lay_0 {x : Xx} {post : Int → Mm → Prop} (C : Cx x mX6_lay) (hR : Rt x mX6_lay post)  (M : Mm) (H : ∀ w6 : Int, w6 = (M 106 0) → (Gx x 3 7 [(0, vr (xg x) 105), (1, vi w6)] [] M)) : Gx x 3 0 [(0, vr (xg x) 105)] [] M := by
  refine g_aload_n (q := 1) C dX6_lay_0 rfl 0 rfl rfl ?_
  refine g_get (q := 4) C (by decide) (celr_6 (by decide)) (ci := 6) (i := 0) rfl inlX6 (by decide) wm_4_11 rfl dX6_lay_1 rfl ?_
  refine g_iconst (q := 5) C dX6_lay_4 rfl ?_
  refine g_iald (q := 6) (m := 47) C (by decide) (by decide) (by decide) (by decide) (by decide) dX6_lay_5 rfl ?_
  refine g_topi (fun w6 hw6 => ?_)
  have H := H w6 hw6
  refine g_istore_n (q := 7) (L2 := [(1, vi w6), (0, vr (xg x) 105)]) C dX6_lay_6 rfl rfl (by decide) rfl ?_
  refine g_sub [1, 0] rfl ?_
  exact H
set_option maxRecDepth 10000 in
set_option maxHeartbeats 2000000 in
theorem X6_lay_7 {x : Xx} {post : Int → Mm → Prop} (C : Cx x mX6_lay) (hR : Rt x mX6_lay post)  (v1 : Int) (M : Mm) (H : (inR v1) ∧ (v1 < 0 → (post 0 M)) ∧ (¬ (v1 < 0) → (∀ w18 : Int, w18 = (M 106 6) → (Gx x 3 19 [(0, vr (xg x) 105), (1, vi v1), (2, vi w18)] [] M)))) : Gx x 3 7 [(0, vr (xg x) 105), (1, vi v1)] [] M := by
  refine g_iload_n (q := 8) C dX6_lay_7 rfl 1 rfl rfl ?_
  obtain ⟨hr, Ht, Hf⟩ := H
  refine g_if_lt (q := 11) (t := 41) C dX6_lay_8 rfl (by decide) hr (fun hc => ?_) (fun hc => ?_)
  · have H := Ht hc
    exact g_ret C hR dX6_lay_41 rfl H
  · have H := Hf hc
    refine g_aload_n (q := 12) C dX6_lay_11 rfl 0 rfl rfl ?_
    refine g_get (q := 15) C (by decide) (celr_6 (by decide)) (ci := 6) (i := 0) rfl inlX6 (by decide) wm_4_11 rfl dX6_lay_12 rfl ?_
    refine g_bipush (q := 17) C dX6_lay_15 rfl (by decide) ?_
    refine g_iald (q := 18) (m := 47) C (by decide) (by decide) (by decide) (by decide) (by decide) dX6_lay_17 rfl ?_
    refine g_topi (fun w18 hw18 => ?_)
    have H := H w18 hw18
    refine g_istore_n (q := 19) (L2 := [(2, vi w18), (0, vr (xg x) 105), (1, vi v1)]) C dX6_lay_18 rfl rfl (by decide) rfl ?_
    refine g_sub [1, 2, 0] rfl ?_
    exact H
set_option maxRecDepth 10000 in
set_option maxHeartbeats 2000000 in
theorem X6_lay_19 {x : Xx} {post : Int → Mm → Prop} (C : Cx x mX6_lay) (hR : Rt x mX6_lay post)  (v1 v2 : Int) (M : Mm) (H : (inR v2) ∧ (v2 < 0 → (Gx x 3 7 [(0, vr (xg x) 105), (1, vi (v1 + (-1)))] [] M)) ∧ (¬ (v2 < 0) → (∃ p26 : Int → Mm → Prop, Ct (xl x) (xg x) mX6_layPlace [vr (xg x) 105, vi v1, vi v2] M p26 ∧ ∀ (r26 : Int) (M26 : Mm), p26 r26 M26 → (Gx x 3 19 [(0, vr (xg x) 105), (1, vi v1), (2, vi (v2 + (-1)))] [] M26)))) : Gx x 3 19 [(0, vr (xg x) 105), (1, vi v1), (2, vi v2)] [] M := by
  refine g_iload_n (q := 20) C dX6_lay_19 rfl 2 rfl rfl ?_
  obtain ⟨hr, Ht, Hf⟩ := H
  refine g_if_lt (q := 23) (t := 35) C dX6_lay_20 rfl (by decide) hr (fun hc => ?_) (fun hc => ?_)
  · have H := Ht hc
    refine g_iinc (q := 38) (L2 := [(1, vi (v1 + (-1))), (0, vr (xg x) 105), (2, vi v2)]) C dX6_lay_35 rfl 1 rfl (by decide) rfl ?_
    refine g_goto (t := 7) C dX6_lay_38 (by decide) ?_
    refine g_sub [1, 0] rfl ?_
    exact H
  · have H := Hf hc
    refine g_aload_n (q := 24) C dX6_lay_23 rfl 0 rfl rfl ?_
    refine g_iload_n (q := 25) C dX6_lay_24 rfl 1 rfl rfl ?_
    refine g_iload_n (q := 26) C dX6_lay_25 rfl 2 rfl rfl ?_
    obtain ⟨p26, hM, H⟩ := H
    refine g_callV (q := 29) (As := [vi v1, vi v2]) (st := []) (na := 2) C mX6_layPlace (by decide) (celr_6 (by decide)) rfl hM wm_15_13 wm_15_14 wm_15_15 wm_1_5 wm_15_16 (by decide +kernel) rfl rfl (by decide) rfl (Nat.le_of_ble_eq_true rfl) dX6_lay_26 rfl (fun r26 M26 hp => ?_)
    have H := H r26 M26 hp
    show Gx x 3 29 [(0, vr (xg x) 105), (1, vi v1), (2, vi v2)] [] M26
    refine g_iinc (q := 32) (L2 := [(2, vi (v2 + (-1))), (0, vr (xg x) 105), (1, vi v1)]) C dX6_lay_29 rfl 2 rfl (by decide) rfl ?_
    refine g_goto (t := 19) C dX6_lay_32 (by decide) ?_
    refine g_sub [1, 2, 0] rfl ?_
    exact H
set_option maxRecDepth 10000 in
set_option maxHeartbeats 2000000 in
theorem X6_layPlace_0 {x : Xx} {post : Int → Mm → Prop} (C : Cx x mX6_layPlace) (hR : Rt x mX6_layPlace post)  (v1 v2 : Int) (M : Mm) (H : ∀ w6 : Int, w6 = ((11 * v1) + v2) → ((inR v1 ∧ inR (M 106 0)) ∧ (¬ (v1 = M 106 0) → (Gx x 11 51 [(0, vr (xg x) 105), (1, vi v1), (2, vi v2), (3, vi w6), (4, vi 0)] [vi 100000000, vi w6, vr (xg x) 112] M)) ∧ (v1 = M 106 0 → ((inR v2 ∧ inR (M 106 6)) ∧ (¬ (v2 = M 106 6) → (Gx x 11 51 [(0, vr (xg x) 105), (1, vi v1), (2, vi v2), (3, vi w6), (4, vi 0)] [vi 100000000, vi w6, vr (xg x) 112] M)) ∧ (v2 = M 106 6 → (Gx x 11 51 [(0, vr (xg x) 105), (1, vi v1), (2, vi v2), (3, vi w6), (4, vi 1)] [vi 0, vi w6, vr (xg x) 112] M)))))) : Gx x 11 0 [(0, vr (xg x) 105), (1, vi v1), (2, vi v2)] [] M := by
  refine g_bipush (q := 2) C dX6_layPlace_0 rfl (by decide) ?_
  refine g_iload_n (q := 3) C dX6_layPlace_2 rfl 1 rfl rfl ?_
  refine g_imul (q := 4) C dX6_layPlace_3 rfl ?_
  refine g_iload_n (q := 5) C dX6_layPlace_4 rfl 2 rfl rfl ?_
  refine g_iadd (q := 6) C dX6_layPlace_5 rfl ?_
  refine g_topi (fun w6 hw6 => ?_)
  have H := H w6 hw6
  refine g_istore_n (q := 7) (L2 := [(3, vi w6), (0, vr (xg x) 105), (1, vi v1), (2, vi v2)]) C dX6_layPlace_6 rfl rfl (by decide) rfl ?_
  refine g_iload_n (q := 8) C dX6_layPlace_7 rfl 2 rfl rfl ?_
  refine g_aload_n (q := 9) C dX6_layPlace_8 rfl 1 rfl rfl ?_
  refine g_get (q := 12) C (by decide) (celr_6 (by decide)) (ci := 6) (i := 0) rfl inlX6 (by decide) wm_4_11 rfl dX6_layPlace_9 rfl ?_
  refine g_iconst (q := 13) C dX6_layPlace_12 rfl ?_
  refine g_iald (q := 14) (m := 47) C (by decide) (by decide) (by decide) (by decide) (by decide) dX6_layPlace_13 rfl ?_
  obtain ⟨hr, Ht, Hf⟩ := H
  refine g_icmp_ne (q := 17) (t := 32) C dX6_layPlace_14 rfl (by decide) hr (fun hc => ?_) (fun hc => ?_)
  · have H := Ht hc
    refine g_iconst (q := 33) C dX6_layPlace_32 rfl ?_
    refine g_istore (q := 35) (L2 := [(4, vi 0), (3, vi w6), (0, vr (xg x) 105), (1, vi v1), (2, vi v2)]) C dX6_layPlace_33 rfl (by decide) rfl ?_
    refine g_aload_n (q := 36) C dX6_layPlace_35 rfl 2 rfl rfl ?_
    refine g_get (q := 39) C (by decide) (celr_6 (by decide)) (ci := 6) (i := 8) rfl inlX6 (by decide) wm_4_17 rfl dX6_layPlace_36 rfl ?_
    refine g_iload_n (q := 40) C dX6_layPlace_39 rfl 1 rfl rfl ?_
    refine g_iload (q := 42) C dX6_layPlace_40 rfl 0 rfl ?_
    refine g_if_eq (q := 45) (t := 49) C dX6_layPlace_42 rfl (by decide) (by decide) (fun _ => ?_) (fun hc => absurd (by decide) hc)
    refine g_ldc (q := 51) (z := 100000000) C dX6_layPlace_49 rfl wc_15_8 ?_
    refine g_sub [2, 3, 4, 1, 0] rfl ?_
    exact H
  · have H := Hf hc
    refine g_iload_n (q := 18) C dX6_layPlace_17 rfl 3 rfl rfl ?_
    refine g_aload_n (q := 19) C dX6_layPlace_18 rfl 1 rfl rfl ?_
    refine g_get (q := 22) C (by decide) (celr_6 (by decide)) (ci := 6) (i := 0) rfl inlX6 (by decide) wm_4_11 rfl dX6_layPlace_19 rfl ?_
    refine g_bipush (q := 24) C dX6_layPlace_22 rfl (by decide) ?_
    refine g_iald (q := 25) (m := 47) C (by decide) (by decide) (by decide) (by decide) (by decide) dX6_layPlace_24 rfl ?_
    obtain ⟨hr, Ht, Hf⟩ := H
    refine g_icmp_ne (q := 28) (t := 32) C dX6_layPlace_25 rfl (by decide) hr (fun hc => ?_) (fun hc => ?_)
    · have H := Ht hc
      refine g_iconst (q := 33) C dX6_layPlace_32 rfl ?_
      refine g_istore (q := 35) (L2 := [(4, vi 0), (3, vi w6), (0, vr (xg x) 105), (1, vi v1), (2, vi v2)]) C dX6_layPlace_33 rfl (by decide) rfl ?_
      refine g_aload_n (q := 36) C dX6_layPlace_35 rfl 2 rfl rfl ?_
      refine g_get (q := 39) C (by decide) (celr_6 (by decide)) (ci := 6) (i := 8) rfl inlX6 (by decide) wm_4_17 rfl dX6_layPlace_36 rfl ?_
      refine g_iload_n (q := 40) C dX6_layPlace_39 rfl 1 rfl rfl ?_
      refine g_iload (q := 42) C dX6_layPlace_40 rfl 0 rfl ?_
      refine g_if_eq (q := 45) (t := 49) C dX6_layPlace_42 rfl (by decide) (by decide) (fun _ => ?_) (fun hc => absurd (by decide) hc)
      refine g_ldc (q := 51) (z := 100000000) C dX6_layPlace_49 rfl wc_15_8 ?_
      refine g_sub [2, 3, 4, 1, 0] rfl ?_
      exact H
    · have H := Hf hc
      refine g_iconst (q := 29) C dX6_layPlace_28 rfl ?_
      refine g_goto (t := 33) C dX6_layPlace_29 (by decide) ?_
      refine g_istore (q := 35) (L2 := [(4, vi 1), (3, vi w6), (0, vr (xg x) 105), (1, vi v1), (2, vi v2)]) C dX6_layPlace_33 rfl (by decide) rfl ?_
      refine g_aload_n (q := 36) C dX6_layPlace_35 rfl 2 rfl rfl ?_
      refine g_get (q := 39) C (by decide) (celr_6 (by decide)) (ci := 6) (i := 8) rfl inlX6 (by decide) wm_4_17 rfl dX6_layPlace_36 rfl ?_
      refine g_iload_n (q := 40) C dX6_layPlace_39 rfl 1 rfl rfl ?_
      refine g_iload (q := 42) C dX6_layPlace_40 rfl 0 rfl ?_
      refine g_if_eq (q := 45) (t := 49) C dX6_layPlace_42 rfl (by decide) (by decide) (fun hc => absurd hc (by decide)) (fun _ => ?_)
      refine g_iconst (q := 46) C dX6_layPlace_45 rfl ?_
      refine g_goto (t := 51) C dX6_layPlace_46 (by decide) ?_
      refine g_sub [2, 3, 4, 1, 0] rfl ?_
      exact H
set_option maxRecDepth 10000 in
set_option maxHeartbeats 2000000 in
theorem X6_layPlace_51 {x : Xx} {post : Int → Mm → Prop} (C : Cx x mX6_layPlace) (hR : Rt x mX6_layPlace post)  (v1 v2 v3 v4 s0 s1 : Int) (M : Mm) (H : (0 ≤ s1 ∧ s1 < 1331) ∧ (∀ M51 : Mm, M51 = mu M 112 s1 s0 → ((0 ≤ v3 ∧ v3 < 1331) ∧ (∀ M58 : Mm, M58 = mu M51 113 v3 0 → ((inR v4) ∧ (v4 = 0 → ((0 ≤ v3 ∧ v3 < 1331) ∧ (∀ M74 : Mm, M74 = mu M58 114 v3 0 → (Gx x 11 78 [(0, vr (xg x) 105), (1, vi v1), (2, vi v2), (3, vi v3), (4, vi v4), (5, vi 0)] [] M74)))) ∧ (¬ (v4 = 0) → ((0 ≤ v3 ∧ v3 < 1331) ∧ (∀ M74 : Mm, M74 = mu M58 114 v3 1 → (Gx x 11 78 [(0, vr (xg x) 105), (1, vi v1), (2, vi v2), (3, vi v3), (4, vi v4), (5, vi 0)] [] M74))))))))) : Gx x 11 51 [(0, vr (xg x) 105), (1, vi v1), (2, vi v2), (3, vi v3), (4, vi v4)] [vi s0, vi s1, vr (xg x) 112] M := by
  obtain ⟨hc, H⟩ := H
  refine g_iast (q := 52) (m := 1331) C (by decide) (by decide) (by decide) hc (by decide) dX6_layPlace_51 rfl ?_
  refine g_topM (fun M51 hM51 => ?_)
  have H := H M51 hM51
  refine g_aload_n (q := 53) C dX6_layPlace_52 rfl 0 rfl rfl ?_
  refine g_get (q := 56) C (by decide) (celr_6 (by decide)) (ci := 6) (i := 9) rfl inlX6 (by decide) wm_4_18 rfl dX6_layPlace_53 rfl ?_
  refine g_iload_n (q := 57) C dX6_layPlace_56 rfl 3 rfl rfl ?_
  refine g_iconst (q := 58) C dX6_layPlace_57 rfl ?_
  obtain ⟨hc, H⟩ := H
  refine g_iast (q := 59) (m := 1331) C (by decide) (by decide) (by decide) hc (by decide) dX6_layPlace_58 rfl ?_
  refine g_topM (fun M58 hM58 => ?_)
  have H := H M58 hM58
  refine g_aload_n (q := 60) C dX6_layPlace_59 rfl 0 rfl rfl ?_
  refine g_get (q := 63) C (by decide) (celr_6 (by decide)) (ci := 6) (i := 10) rfl inlX6 (by decide) wm_4_19 rfl dX6_layPlace_60 rfl ?_
  refine g_iload_n (q := 64) C dX6_layPlace_63 rfl 3 rfl rfl ?_
  refine g_iload (q := 66) C dX6_layPlace_64 rfl 4 rfl ?_
  obtain ⟨hr, Ht, Hf⟩ := H
  refine g_if_eq (q := 69) (t := 73) C dX6_layPlace_66 rfl (by decide) hr (fun hc => ?_) (fun hc => ?_)
  · have H := Ht hc
    refine g_lconst (q := 74) C dX6_layPlace_73 rfl ?_
    obtain ⟨hc, H⟩ := H
    refine g_last (q := 75) (m := 1331) C (by decide) (by decide) (by decide) hc (by decide) dX6_layPlace_74 rfl ?_
    refine g_topM (fun M74 hM74 => ?_)
    have H := H M74 hM74
    refine g_iconst (q := 76) C dX6_layPlace_75 rfl ?_
    refine g_istore (q := 78) (L2 := [(5, vi 0), (0, vr (xg x) 105), (1, vi v1), (2, vi v2), (3, vi v3), (4, vi v4)]) C dX6_layPlace_76 rfl (by decide) rfl ?_
    refine g_sub [1, 2, 3, 4, 5, 0] rfl ?_
    exact H
  · have H := Hf hc
    refine g_lconst (q := 70) C dX6_layPlace_69 rfl ?_
    refine g_goto (t := 74) C dX6_layPlace_70 (by decide) ?_
    obtain ⟨hc, H⟩ := H
    refine g_last (q := 75) (m := 1331) C (by decide) (by decide) (by decide) hc (by decide) dX6_layPlace_74 rfl ?_
    refine g_topM (fun M74 hM74 => ?_)
    have H := H M74 hM74
    refine g_iconst (q := 76) C dX6_layPlace_75 rfl ?_
    refine g_istore (q := 78) (L2 := [(5, vi 0), (0, vr (xg x) 105), (1, vi v1), (2, vi v2), (3, vi v3), (4, vi v4)]) C dX6_layPlace_76 rfl (by decide) rfl ?_
    refine g_sub [1, 2, 3, 4, 5, 0] rfl ?_
    exact H
set_option maxRecDepth 10000 in
set_option maxHeartbeats 2000000 in
theorem X6_layPlace_78 {x : Xx} {post : Int → Mm → Prop} (C : Cx x mX6_layPlace) (hR : Rt x mX6_layPlace post)  (v1 v2 v3 v4 v5 : Int) (M : Mm) (H : (inR v5 ∧ inR (M 106 4)) ∧ (M 106 4 < v5 → (post 0 M)) ∧ (¬ (M 106 4 < v5) → ((inR v4) ∧ (¬ (v4 = 0) → (post 0 M)) ∧ (v4 = 0 → (∃ p99 : Int → Mm → Prop, Ct (xl x) (xg x) mX6_isPage [vr (xg x) 105, vi v1, vi v2, vi v5] M p99 ∧ ∀ (r99 : Int) (M99 : Mm), p99 r99 M99 → ((inR r99) ∧ (r99 = 0 → (Gx x 11 78 [(0, vr (xg x) 105), (1, vi v1), (2, vi v2), (3, vi v3), (4, vi v4), (5, vi (v5 + 1))] [] M99)) ∧ (¬ (r99 = 0) → (∃ p110 : Int → Mm → Prop, Ct (xl x) (xg x) mX6_linesBehind [vr (xg x) 105, vi v1, vi v2, vi v5] M99 p110 ∧ ∀ (r110 : Int) (M110 : Mm), p110 r110 M110 → (∀ w125 : Int, w125 = (((11 * r110) + v2) + v5) → ((0 ≤ w125 ∧ w125 < 1331) ∧ ((inR (M110 112 w125)) ∧ (¬ (M110 112 w125 = 100000000) → ((0 ≤ w125 ∧ w125 < 1331) ∧ (∃ p158 : Int → Mm → Prop, Ct (xl x) (xg x) mX6_paid [vr (xg x) 105, vi r110, vi (v2 + v5)] M110 p158 ∧ ∀ (r158 : Int) (M158 : Mm), p158 r158 M158 → (Gx x 11 162 [(0, vr (xg x) 105), (1, vi v1), (2, vi v2), (3, vi v3), (4, vi v4), (5, vi v5), (7, vi w125)] [vi ((M110 112 w125) + r158)] M158)))) ∧ (M110 112 w125 = 100000000 → (Gx x 11 162 [(0, vr (xg x) 105), (1, vi v1), (2, vi v2), (3, vi v3), (4, vi v4), (5, vi v5), (7, vi w125)] [vi 100000000] M110))))))))))))) : Gx x 11 78 [(0, vr (xg x) 105), (1, vi v1), (2, vi v2), (3, vi v3), (4, vi v4), (5, vi v5)] [] M := by
  refine g_iload (q := 80) C dX6_layPlace_78 rfl 5 rfl ?_
  refine g_aload_n (q := 81) C dX6_layPlace_80 rfl 0 rfl rfl ?_
  refine g_get (q := 84) C (by decide) (celr_6 (by decide)) (ci := 6) (i := 0) rfl inlX6 (by decide) wm_4_11 rfl dX6_layPlace_81 rfl ?_
  refine g_iconst (q := 85) C dX6_layPlace_84 rfl ?_
  refine g_iald (q := 86) (m := 47) C (by decide) (by decide) (by decide) (by decide) (by decide) dX6_layPlace_85 rfl ?_
  obtain ⟨hr, Ht, Hf⟩ := H
  refine g_icmp_gt (q := 89) (t := 367) C dX6_layPlace_86 rfl (by decide) hr (fun hc => ?_) (fun hc => ?_)
  · have H := Ht hc
    exact g_ret C hR dX6_layPlace_367 rfl H
  · have H := Hf hc
    refine g_iload (q := 91) C dX6_layPlace_89 rfl 4 rfl ?_
    obtain ⟨hr, Ht, Hf⟩ := H
    refine g_if_ne (q := 94) (t := 367) C dX6_layPlace_91 rfl (by decide) hr (fun hc => ?_) (fun hc => ?_)
    · have H := Ht hc
      exact g_ret C hR dX6_layPlace_367 rfl H
    · have H := Hf hc
      refine g_aload_n (q := 95) C dX6_layPlace_94 rfl 0 rfl rfl ?_
      refine g_iload_n (q := 96) C dX6_layPlace_95 rfl 1 rfl rfl ?_
      refine g_iload_n (q := 97) C dX6_layPlace_96 rfl 2 rfl rfl ?_
      refine g_iload (q := 99) C dX6_layPlace_97 rfl 5 rfl ?_
      obtain ⟨p99, hM, H⟩ := H
      refine g_callV (q := 102) (As := [vi v1, vi v2, vi v5]) (st := []) (na := 3) C mX6_isPage (by decide) (celr_6 (by decide)) rfl hM wm_15_17 wm_15_18 wm_15_19 wm_1_5 wm_15_20 (by decide +kernel) rfl rfl (by decide) rfl (Nat.le_of_ble_eq_true rfl) dX6_layPlace_99 rfl (fun r99 M99 hp => ?_)
      have H := H r99 M99 hp
      show Gx x 11 102 [(0, vr (xg x) 105), (1, vi v1), (2, vi v2), (3, vi v3), (4, vi v4), (5, vi v5)] [vi r99] M99
      obtain ⟨hr, Ht, Hf⟩ := H
      refine g_if_eq (q := 105) (t := 361) C dX6_layPlace_102 rfl (by decide) hr (fun hc => ?_) (fun hc => ?_)
      · have H := Ht hc
        refine g_iinc (q := 364) (L2 := [(5, vi (v5 + 1)), (0, vr (xg x) 105), (1, vi v1), (2, vi v2), (3, vi v3), (4, vi v4)]) C dX6_layPlace_361 rfl 5 rfl (by decide) rfl ?_
        refine g_goto (t := 78) C dX6_layPlace_364 (by decide) ?_
        refine g_sub [1, 2, 3, 4, 5, 0] rfl ?_
        exact H
      · have H := Hf hc
        refine g_aload_n (q := 106) C dX6_layPlace_105 rfl 0 rfl rfl ?_
        refine g_iload_n (q := 107) C dX6_layPlace_106 rfl 1 rfl rfl ?_
        refine g_iload_n (q := 108) C dX6_layPlace_107 rfl 2 rfl rfl ?_
        refine g_iload (q := 110) C dX6_layPlace_108 rfl 5 rfl ?_
        obtain ⟨p110, hM, H⟩ := H
        refine g_callV (q := 113) (As := [vi v1, vi v2, vi v5]) (st := []) (na := 3) C mX6_linesBehind (by decide) (celr_6 (by decide)) rfl hM wm_16_13 wm_16_14 wm_16_15 wm_1_5 wm_16_16 (by decide +kernel) rfl rfl (by decide) rfl (Nat.le_of_ble_eq_true rfl) dX6_layPlace_110 rfl (fun r110 M110 hp => ?_)
        have H := H r110 M110 hp
        show Gx x 11 113 [(0, vr (xg x) 105), (1, vi v1), (2, vi v2), (3, vi v3), (4, vi v4), (5, vi v5)] [vi r110] M110
        refine g_istore (q := 115) (L2 := [(6, vi r110), (0, vr (xg x) 105), (1, vi v1), (2, vi v2), (3, vi v3), (4, vi v4), (5, vi v5)]) C dX6_layPlace_113 rfl (by decide) rfl ?_
        refine g_bipush (q := 117) C dX6_layPlace_115 rfl (by decide) ?_
        refine g_iload (q := 119) C dX6_layPlace_117 rfl 0 rfl ?_
        refine g_imul (q := 120) C dX6_layPlace_119 rfl ?_
        refine g_iload_n (q := 121) C dX6_layPlace_120 rfl 3 rfl rfl ?_
        refine g_iadd (q := 122) C dX6_layPlace_121 rfl ?_
        refine g_iload (q := 124) C dX6_layPlace_122 rfl 6 rfl ?_
        refine g_iadd (q := 125) C dX6_layPlace_124 rfl ?_
        refine g_topi (fun w125 hw125 => ?_)
        have H := H w125 hw125
        refine g_istore (q := 127) (L2 := [(7, vi w125), (6, vi r110), (0, vr (xg x) 105), (1, vi v1), (2, vi v2), (3, vi v3), (4, vi v4), (5, vi v5)]) C dX6_layPlace_125 rfl (by decide) rfl ?_
        refine g_aload_n (q := 128) C dX6_layPlace_127 rfl 2 rfl rfl ?_
        refine g_get (q := 131) C (by decide) (celr_6 (by decide)) (ci := 6) (i := 8) rfl inlX6 (by decide) wm_4_17 rfl dX6_layPlace_128 rfl ?_
        refine g_iload (q := 133) C dX6_layPlace_131 rfl 0 rfl ?_
        obtain ⟨hc, H⟩ := H
        refine g_iald (q := 134) (m := 1331) C (by decide) (by decide) (by decide) hc (by decide) dX6_layPlace_133 rfl ?_
        refine g_ldc (q := 136) (z := 100000000) C dX6_layPlace_134 rfl wc_15_8 ?_
        obtain ⟨hr, Ht, Hf⟩ := H
        refine g_icmp_ne (q := 139) (t := 144) C dX6_layPlace_136 rfl (by decide) ⟨hr, by decide⟩ (fun hc => ?_) (fun hc => ?_)
        · have H := Ht hc
          refine g_aload_n (q := 145) C dX6_layPlace_144 rfl 2 rfl rfl ?_
          refine g_get (q := 148) C (by decide) (celr_6 (by decide)) (ci := 6) (i := 8) rfl inlX6 (by decide) wm_4_17 rfl dX6_layPlace_145 rfl ?_
          refine g_iload (q := 150) C dX6_layPlace_148 rfl 0 rfl ?_
          obtain ⟨hc, H⟩ := H
          refine g_iald (q := 151) (m := 1331) C (by decide) (by decide) (by decide) hc (by decide) dX6_layPlace_150 rfl ?_
          refine g_aload_n (q := 152) C dX6_layPlace_151 rfl 2 rfl rfl ?_
          refine g_iload (q := 154) C dX6_layPlace_152 rfl 1 rfl ?_
          refine g_iload_n (q := 155) C dX6_layPlace_154 rfl 4 rfl rfl ?_
          refine g_iload (q := 157) C dX6_layPlace_155 rfl 7 rfl ?_
          refine g_iadd (q := 158) C dX6_layPlace_157 rfl ?_
          obtain ⟨p158, hM, H⟩ := H
          refine g_callV (q := 161) (As := [vi r110, vi (v2 + v5)]) (st := [vi (M110 112 w125)]) (na := 2) C mX6_paid (by decide) (celr_6 (by decide)) rfl hM wm_17_5 wm_17_6 wm_17_7 wm_1_5 wm_17_8 (by decide +kernel) rfl rfl (by decide) rfl (Nat.le_of_ble_eq_true rfl) dX6_layPlace_158 rfl (fun r158 M158 hp => ?_)
          have H := H r158 M158 hp
          show Gx x 11 161 [(7, vi w125), (6, vi r110), (0, vr (xg x) 105), (1, vi v1), (2, vi v2), (3, vi v3), (4, vi v4), (5, vi v5)] [vi r158, vi (M110 112 w125)] M158
          refine g_iadd (q := 162) C dX6_layPlace_161 rfl ?_
          refine g_sub [2, 3, 4, 5, 6, 7, 0] rfl ?_
          exact H
        · have H := Hf hc
          refine g_ldc (q := 141) (z := 100000000) C dX6_layPlace_139 rfl wc_15_8 ?_
          refine g_goto (t := 162) C dX6_layPlace_141 (by decide) ?_
          refine g_sub [2, 3, 4, 5, 6, 7, 0] rfl ?_
          exact H
set_option maxRecDepth 10000 in
set_option maxHeartbeats 2000000 in
theorem X6_layPlace_162 {x : Xx} {post : Int → Mm → Prop} (C : Cx x mX6_layPlace) (hR : Rt x mX6_layPlace post)  (v1 v2 v3 v4 v5 v7 s0 : Int) (M : Mm) (H : (inR s0) ∧ (100000000 ≤ s0 → (Gx x 11 205 [(0, vr (xg x) 105), (1, vi v1), (2, vi v2), (3, vi v3), (4, vi v4), (5, vi v5), (7, vi v7), (8, vi s0)] [vi 0] M)) ∧ (¬ (100000000 ≤ s0) → ((0 ≤ v3 ∧ v3 < 1331) ∧ ((inR s0 ∧ inR (M 112 v3)) ∧ (¬ (s0 = M 112 v3) → (Gx x 11 205 [(0, vr (xg x) 105), (1, vi v1), (2, vi v2), (3, vi v3), (4, vi v4), (5, vi v5), (7, vi v7), (8, vi s0)] [vi 0] M)) ∧ (s0 = M 112 v3 → ((0 ≤ v7 ∧ v7 < 1331) ∧ ((0 ≤ v3 ∧ v3 < 1331) ∧ ((inR ((M 113 v7) + 1) ∧ inR (M 113 v3)) ∧ (¬ ((M 113 v7) + 1 = M 113 v3) → (Gx x 11 205 [(0, vr (xg x) 105), (1, vi v1), (2, vi v2), (3, vi v3), (4, vi v4), (5, vi v5), (7, vi v7), (8, vi s0)] [vi 0] M)) ∧ ((M 113 v7) + 1 = M 113 v3 → (Gx x 11 205 [(0, vr (xg x) 105), (1, vi v1), (2, vi v2), (3, vi v3), (4, vi v4), (5, vi v5), (7, vi v7), (8, vi s0)] [vi 1] M)))))))))) : Gx x 11 162 [(0, vr (xg x) 105), (1, vi v1), (2, vi v2), (3, vi v3), (4, vi v4), (5, vi v5), (7, vi v7)] [vi s0] M := by
  refine g_istore (q := 164) (L2 := [(8, vi s0), (0, vr (xg x) 105), (1, vi v1), (2, vi v2), (3, vi v3), (4, vi v4), (5, vi v5), (7, vi v7)]) C dX6_layPlace_162 rfl (by decide) rfl ?_
  refine g_iload (q := 166) C dX6_layPlace_164 rfl 0 rfl ?_
  refine g_ldc (q := 168) (z := 100000000) C dX6_layPlace_166 rfl wc_15_8 ?_
  obtain ⟨hr, Ht, Hf⟩ := H
  refine g_icmp_ge (q := 171) (t := 204) C dX6_layPlace_168 rfl (by decide) ⟨hr, by decide⟩ (fun hc => ?_) (fun hc => ?_)
  · have H := Ht hc
    refine g_iconst (q := 205) C dX6_layPlace_204 rfl ?_
    refine g_sub [1, 2, 3, 4, 5, 6, 7, 0] rfl ?_
    exact H
  · have H := Hf hc
    refine g_iload (q := 173) C dX6_layPlace_171 rfl 0 rfl ?_
    refine g_aload_n (q := 174) C dX6_layPlace_173 rfl 1 rfl rfl ?_
    refine g_get (q := 177) C (by decide) (celr_6 (by decide)) (ci := 6) (i := 8) rfl inlX6 (by decide) wm_4_17 rfl dX6_layPlace_174 rfl ?_
    refine g_iload_n (q := 178) C dX6_layPlace_177 rfl 4 rfl rfl ?_
    obtain ⟨hc, H⟩ := H
    refine g_iald (q := 179) (m := 1331) C (by decide) (by decide) (by decide) hc (by decide) dX6_layPlace_178 rfl ?_
    obtain ⟨hr, Ht, Hf⟩ := H
    refine g_icmp_ne (q := 182) (t := 204) C dX6_layPlace_179 rfl (by decide) hr (fun hc => ?_) (fun hc => ?_)
    · have H := Ht hc
      refine g_iconst (q := 205) C dX6_layPlace_204 rfl ?_
      refine g_sub [1, 2, 3, 4, 5, 6, 7, 0] rfl ?_
      exact H
    · have H := Hf hc
      refine g_aload_n (q := 183) C dX6_layPlace_182 rfl 1 rfl rfl ?_
      refine g_get (q := 186) C (by decide) (celr_6 (by decide)) (ci := 6) (i := 9) rfl inlX6 (by decide) wm_4_18 rfl dX6_layPlace_183 rfl ?_
      refine g_iload (q := 188) C dX6_layPlace_186 rfl 7 rfl ?_
      obtain ⟨hc, H⟩ := H
      refine g_iald (q := 189) (m := 1331) C (by decide) (by decide) (by decide) hc (by decide) dX6_layPlace_188 rfl ?_
      refine g_iconst (q := 190) C dX6_layPlace_189 rfl ?_
      refine g_iadd (q := 191) C dX6_layPlace_190 rfl ?_
      refine g_aload_n (q := 192) C dX6_layPlace_191 rfl 1 rfl rfl ?_
      refine g_get (q := 195) C (by decide) (celr_6 (by decide)) (ci := 6) (i := 9) rfl inlX6 (by decide) wm_4_18 rfl dX6_layPlace_192 rfl ?_
      refine g_iload_n (q := 196) C dX6_layPlace_195 rfl 4 rfl rfl ?_
      obtain ⟨hc, H⟩ := H
      refine g_iald (q := 197) (m := 1331) C (by decide) (by decide) (by decide) hc (by decide) dX6_layPlace_196 rfl ?_
      obtain ⟨hr, Ht, Hf⟩ := H
      refine g_icmp_ne (q := 200) (t := 204) C dX6_layPlace_197 rfl (by decide) hr (fun hc => ?_) (fun hc => ?_)
      · have H := Ht hc
        refine g_iconst (q := 205) C dX6_layPlace_204 rfl ?_
        refine g_sub [1, 2, 3, 4, 5, 6, 7, 0] rfl ?_
        exact H
      · have H := Hf hc
        refine g_iconst (q := 201) C dX6_layPlace_200 rfl ?_
        refine g_goto (t := 205) C dX6_layPlace_201 (by decide) ?_
        refine g_sub [1, 2, 3, 4, 5, 6, 7, 0] rfl ?_
        exact H
set_option maxRecDepth 10000 in
set_option maxHeartbeats 2000000 in
theorem X6_layPlace_205 {x : Xx} {post : Int → Mm → Prop} (C : Cx x mX6_layPlace) (hR : Rt x mX6_layPlace post)  (v1 v2 v3 v4 v5 v7 v8 s0 : Int) (M : Mm) (H : (0 ≤ v3 ∧ v3 < 1331) ∧ ((inR v8 ∧ inR (M 112 v3)) ∧ (v8 < M 112 v3 → (Gx x 11 259 [(0, vr (xg x) 105), (1, vi v1), (2, vi v2), (3, vi v3), (4, vi v4), (5, vi v5), (7, vi v7), (8, vi v8), (9, vi s0)] [vi 1] M)) ∧ (¬ (v8 < M 112 v3) → ((inR v8) ∧ (100000000 ≤ v8 → (Gx x 11 259 [(0, vr (xg x) 105), (1, vi v1), (2, vi v2), (3, vi v3), (4, vi v4), (5, vi v5), (7, vi v7), (8, vi v8), (9, vi s0)] [vi 0] M)) ∧ (¬ (100000000 ≤ v8) → ((0 ≤ v3 ∧ v3 < 1331) ∧ ((inR v8 ∧ inR (M 112 v3)) ∧ (¬ (v8 = M 112 v3) → (Gx x 11 259 [(0, vr (xg x) 105), (1, vi v1), (2, vi v2), (3, vi v3), (4, vi v4), (5, vi v5), (7, vi v7), (8, vi v8), (9, vi s0)] [vi 0] M)) ∧ (v8 = M 112 v3 → ((0 ≤ v7 ∧ v7 < 1331) ∧ ((0 ≤ v3 ∧ v3 < 1331) ∧ ((inR ((M 113 v7) + 1) ∧ inR (M 113 v3)) ∧ (M 113 v3 ≤ (M 113 v7) + 1 → (Gx x 11 259 [(0, vr (xg x) 105), (1, vi v1), (2, vi v2), (3, vi v3), (4, vi v4), (5, vi v5), (7, vi v7), (8, vi v8), (9, vi s0)] [vi 0] M)) ∧ (¬ (M 113 v3 ≤ (M 113 v7) + 1) → (Gx x 11 259 [(0, vr (xg x) 105), (1, vi v1), (2, vi v2), (3, vi v3), (4, vi v4), (5, vi v5), (7, vi v7), (8, vi v8), (9, vi s0)] [vi 1] M))))))))))))) : Gx x 11 205 [(0, vr (xg x) 105), (1, vi v1), (2, vi v2), (3, vi v3), (4, vi v4), (5, vi v5), (7, vi v7), (8, vi v8)] [vi s0] M := by
  refine g_istore (q := 207) (L2 := [(9, vi s0), (0, vr (xg x) 105), (1, vi v1), (2, vi v2), (3, vi v3), (4, vi v4), (5, vi v5), (7, vi v7), (8, vi v8)]) C dX6_layPlace_205 rfl (by decide) rfl ?_
  refine g_iload (q := 209) C dX6_layPlace_207 rfl 8 rfl ?_
  refine g_aload_n (q := 210) C dX6_layPlace_209 rfl 1 rfl rfl ?_
  refine g_get (q := 213) C (by decide) (celr_6 (by decide)) (ci := 6) (i := 8) rfl inlX6 (by decide) wm_4_17 rfl dX6_layPlace_210 rfl ?_
  refine g_iload_n (q := 214) C dX6_layPlace_213 rfl 4 rfl rfl ?_
  obtain ⟨hc, H⟩ := H
  refine g_iald (q := 215) (m := 1331) C (by decide) (by decide) (by decide) hc (by decide) dX6_layPlace_214 rfl ?_
  obtain ⟨hr, Ht, Hf⟩ := H
  refine g_icmp_lt (q := 218) (t := 254) C dX6_layPlace_215 rfl (by decide) hr (fun hc => ?_) (fun hc => ?_)
  · have H := Ht hc
    refine g_iconst (q := 255) C dX6_layPlace_254 rfl ?_
    refine g_goto (t := 259) C dX6_layPlace_255 (by decide) ?_
    refine g_sub [1, 2, 3, 4, 5, 6, 7, 8, 0] rfl ?_
    exact H
  · have H := Hf hc
    refine g_iload (q := 220) C dX6_layPlace_218 rfl 8 rfl ?_
    refine g_ldc (q := 222) (z := 100000000) C dX6_layPlace_220 rfl wc_15_8 ?_
    obtain ⟨hr, Ht, Hf⟩ := H
    refine g_icmp_ge (q := 225) (t := 258) C dX6_layPlace_222 rfl (by decide) ⟨hr, by decide⟩ (fun hc => ?_) (fun hc => ?_)
    · have H := Ht hc
      refine g_iconst (q := 259) C dX6_layPlace_258 rfl ?_
      refine g_sub [1, 2, 3, 4, 5, 6, 7, 8, 0] rfl ?_
      exact H
    · have H := Hf hc
      refine g_iload (q := 227) C dX6_layPlace_225 rfl 8 rfl ?_
      refine g_aload_n (q := 228) C dX6_layPlace_227 rfl 1 rfl rfl ?_
      refine g_get (q := 231) C (by decide) (celr_6 (by decide)) (ci := 6) (i := 8) rfl inlX6 (by decide) wm_4_17 rfl dX6_layPlace_228 rfl ?_
      refine g_iload_n (q := 232) C dX6_layPlace_231 rfl 4 rfl rfl ?_
      obtain ⟨hc, H⟩ := H
      refine g_iald (q := 233) (m := 1331) C (by decide) (by decide) (by decide) hc (by decide) dX6_layPlace_232 rfl ?_
      obtain ⟨hr, Ht, Hf⟩ := H
      refine g_icmp_ne (q := 236) (t := 258) C dX6_layPlace_233 rfl (by decide) hr (fun hc => ?_) (fun hc => ?_)
      · have H := Ht hc
        refine g_iconst (q := 259) C dX6_layPlace_258 rfl ?_
        refine g_sub [1, 2, 3, 4, 5, 6, 7, 8, 0] rfl ?_
        exact H
      · have H := Hf hc
        refine g_aload_n (q := 237) C dX6_layPlace_236 rfl 1 rfl rfl ?_
        refine g_get (q := 240) C (by decide) (celr_6 (by decide)) (ci := 6) (i := 9) rfl inlX6 (by decide) wm_4_18 rfl dX6_layPlace_237 rfl ?_
        refine g_iload (q := 242) C dX6_layPlace_240 rfl 7 rfl ?_
        obtain ⟨hc, H⟩ := H
        refine g_iald (q := 243) (m := 1331) C (by decide) (by decide) (by decide) hc (by decide) dX6_layPlace_242 rfl ?_
        refine g_iconst (q := 244) C dX6_layPlace_243 rfl ?_
        refine g_iadd (q := 245) C dX6_layPlace_244 rfl ?_
        refine g_aload_n (q := 246) C dX6_layPlace_245 rfl 1 rfl rfl ?_
        refine g_get (q := 249) C (by decide) (celr_6 (by decide)) (ci := 6) (i := 9) rfl inlX6 (by decide) wm_4_18 rfl dX6_layPlace_246 rfl ?_
        refine g_iload_n (q := 250) C dX6_layPlace_249 rfl 4 rfl rfl ?_
        obtain ⟨hc, H⟩ := H
        refine g_iald (q := 251) (m := 1331) C (by decide) (by decide) (by decide) hc (by decide) dX6_layPlace_250 rfl ?_
        obtain ⟨hr, Ht, Hf⟩ := H
        refine g_icmp_ge (q := 254) (t := 258) C dX6_layPlace_251 rfl (by decide) hr (fun hc => ?_) (fun hc => ?_)
        · have H := Ht hc
          refine g_iconst (q := 259) C dX6_layPlace_258 rfl ?_
          refine g_sub [1, 2, 3, 4, 5, 6, 7, 8, 0] rfl ?_
          exact H
        · have H := Hf hc
          refine g_iconst (q := 255) C dX6_layPlace_254 rfl ?_
          refine g_goto (t := 259) C dX6_layPlace_255 (by decide) ?_
          refine g_sub [1, 2, 3, 4, 5, 6, 7, 8, 0] rfl ?_
          exact H
set_option maxRecDepth 10000 in
set_option maxHeartbeats 2000000 in
theorem X6_layPlace_259 {x : Xx} {post : Int → Mm → Prop} (C : Cx x mX6_layPlace) (hR : Rt x mX6_layPlace post)  (v1 v2 v3 v4 v5 v7 v8 v9 s0 : Int) (M : Mm) (H : (inR s0) ∧ (s0 = 0 → ((inR v9) ∧ (v9 = 0 → ((0 ≤ v3 ∧ v3 < 1331) ∧ (Gx x 11 309 [(0, vr (xg x) 105), (1, vi v1), (2, vi v2), (3, vi v3), (4, vi v4), (5, vi v5), (7, vi v7), (8, vi v8), (10, vi s0)] [vl (M 114 v3), vi v3, vr (xg x) 114] M))) ∧ (¬ (v9 = 0) → ((0 ≤ v3 ∧ v3 < 1331) ∧ ((0 ≤ v7 ∧ v7 < 1331) ∧ (Gx x 11 309 [(0, vr (xg x) 105), (1, vi v1), (2, vi v2), (3, vi v3), (4, vi v4), (5, vi v5), (7, vi v7), (8, vi v8), (10, vi s0)] [vl ((M 114 v3) + (M 114 v7)), vi v3, vr (xg x) 114] M)))))) ∧ (¬ (s0 = 0) → ((0 ≤ v7 ∧ v7 < 1331) ∧ (Gx x 11 309 [(0, vr (xg x) 105), (1, vi v1), (2, vi v2), (3, vi v3), (4, vi v4), (5, vi v5), (7, vi v7), (8, vi v8), (10, vi s0)] [vl (M 114 v7), vi v3, vr (xg x) 114] M)))) : Gx x 11 259 [(0, vr (xg x) 105), (1, vi v1), (2, vi v2), (3, vi v3), (4, vi v4), (5, vi v5), (7, vi v7), (8, vi v8), (9, vi v9)] [vi s0] M := by
  refine g_istore (q := 261) (L2 := [(10, vi s0), (0, vr (xg x) 105), (1, vi v1), (2, vi v2), (3, vi v3), (4, vi v4), (5, vi v5), (7, vi v7), (8, vi v8), (9, vi v9)]) C dX6_layPlace_259 rfl (by decide) rfl ?_
  refine g_aload_n (q := 262) C dX6_layPlace_261 rfl 1 rfl rfl ?_
  refine g_get (q := 265) C (by decide) (celr_6 (by decide)) (ci := 6) (i := 10) rfl inlX6 (by decide) wm_4_19 rfl dX6_layPlace_262 rfl ?_
  refine g_iload_n (q := 266) C dX6_layPlace_265 rfl 4 rfl rfl ?_
  refine g_iload (q := 268) C dX6_layPlace_266 rfl 0 rfl ?_
  obtain ⟨hr, Ht, Hf⟩ := H
  refine g_if_eq (q := 271) (t := 281) C dX6_layPlace_268 rfl (by decide) hr (fun hc => ?_) (fun hc => ?_)
  · have H := Ht hc
    refine g_iload (q := 283) C dX6_layPlace_281 rfl 9 rfl ?_
    obtain ⟨hr, Ht, Hf⟩ := H
    refine g_if_eq (q := 286) (t := 303) C dX6_layPlace_283 rfl (by decide) hr (fun hc => ?_) (fun hc => ?_)
    · have H := Ht hc
      refine g_aload_n (q := 304) C dX6_layPlace_303 rfl 1 rfl rfl ?_
      refine g_get (q := 307) C (by decide) (celr_6 (by decide)) (ci := 6) (i := 10) rfl inlX6 (by decide) wm_4_19 rfl dX6_layPlace_304 rfl ?_
      refine g_iload_n (q := 308) C dX6_layPlace_307 rfl 4 rfl rfl ?_
      obtain ⟨hc, H⟩ := H
      refine g_lald (q := 309) (m := 1331) C (by decide) (by decide) (by decide) hc (by decide) dX6_layPlace_308 rfl ?_
      refine g_sub [1, 2, 3, 4, 5, 6, 7, 8, 0] rfl ?_
      exact H
    · have H := Hf hc
      refine g_aload_n (q := 287) C dX6_layPlace_286 rfl 1 rfl rfl ?_
      refine g_get (q := 290) C (by decide) (celr_6 (by decide)) (ci := 6) (i := 10) rfl inlX6 (by decide) wm_4_19 rfl dX6_layPlace_287 rfl ?_
      refine g_iload_n (q := 291) C dX6_layPlace_290 rfl 4 rfl rfl ?_
      obtain ⟨hc, H⟩ := H
      refine g_lald (q := 292) (m := 1331) C (by decide) (by decide) (by decide) hc (by decide) dX6_layPlace_291 rfl ?_
      refine g_aload_n (q := 293) C dX6_layPlace_292 rfl 1 rfl rfl ?_
      refine g_get (q := 296) C (by decide) (celr_6 (by decide)) (ci := 6) (i := 10) rfl inlX6 (by decide) wm_4_19 rfl dX6_layPlace_293 rfl ?_
      refine g_iload (q := 298) C dX6_layPlace_296 rfl 7 rfl ?_
      obtain ⟨hc, H⟩ := H
      refine g_lald (q := 299) (m := 1331) C (by decide) (by decide) (by decide) hc (by decide) dX6_layPlace_298 rfl ?_
      refine g_ladd (q := 300) C dX6_layPlace_299 rfl ?_
      refine g_goto (t := 309) C dX6_layPlace_300 (by decide) ?_
      refine g_sub [1, 2, 3, 4, 5, 6, 7, 8, 0] rfl ?_
      exact H
  · have H := Hf hc
    refine g_aload_n (q := 272) C dX6_layPlace_271 rfl 1 rfl rfl ?_
    refine g_get (q := 275) C (by decide) (celr_6 (by decide)) (ci := 6) (i := 10) rfl inlX6 (by decide) wm_4_19 rfl dX6_layPlace_272 rfl ?_
    refine g_iload (q := 277) C dX6_layPlace_275 rfl 7 rfl ?_
    obtain ⟨hc, H⟩ := H
    refine g_lald (q := 278) (m := 1331) C (by decide) (by decide) (by decide) hc (by decide) dX6_layPlace_277 rfl ?_
    refine g_goto (t := 309) C dX6_layPlace_278 (by decide) ?_
    refine g_sub [1, 2, 3, 4, 5, 6, 7, 8, 0] rfl ?_
    exact H
set_option maxRecDepth 10000 in
set_option maxHeartbeats 2000000 in
theorem X6_layPlace_309 {x : Xx} {post : Int → Mm → Prop} (C : Cx x mX6_layPlace) (hR : Rt x mX6_layPlace post)  (v1 v2 v3 v4 v5 v7 v8 v10 s0 s1 : Int) (M : Mm) (H : (0 ≤ s1 ∧ s1 < 1331) ∧ (∀ M309 : Mm, M309 = mu M 114 s1 s0 → ((inR v10) ∧ (v10 = 0 → ((0 ≤ v3 ∧ v3 < 1331) ∧ (Gx x 11 338 [(0, vr (xg x) 105), (1, vi v1), (2, vi v2), (3, vi v3), (4, vi v4), (5, vi v5), (8, vi v8), (10, vi v10)] [vi (M309 113 v3), vi v3, vr (xg x) 113] M309))) ∧ (¬ (v10 = 0) → ((0 ≤ v7 ∧ v7 < 1331) ∧ (Gx x 11 338 [(0, vr (xg x) 105), (1, vi v1), (2, vi v2), (3, vi v3), (4, vi v4), (5, vi v5), (8, vi v8), (10, vi v10)] [vi ((M309 113 v7) + 1), vi v3, vr (xg x) 113] M309)))))) : Gx x 11 309 [(0, vr (xg x) 105), (1, vi v1), (2, vi v2), (3, vi v3), (4, vi v4), (5, vi v5), (7, vi v7), (8, vi v8), (10, vi v10)] [vl s0, vi s1, vr (xg x) 114] M := by
  obtain ⟨hc, H⟩ := H
  refine g_last (q := 310) (m := 1331) C (by decide) (by decide) (by decide) hc (by decide) dX6_layPlace_309 rfl ?_
  refine g_topM (fun M309 hM309 => ?_)
  have H := H M309 hM309
  refine g_aload_n (q := 311) C dX6_layPlace_310 rfl 0 rfl rfl ?_
  refine g_get (q := 314) C (by decide) (celr_6 (by decide)) (ci := 6) (i := 9) rfl inlX6 (by decide) wm_4_18 rfl dX6_layPlace_311 rfl ?_
  refine g_iload_n (q := 315) C dX6_layPlace_314 rfl 3 rfl rfl ?_
  refine g_iload (q := 317) C dX6_layPlace_315 rfl 8 rfl ?_
  obtain ⟨hr, Ht, Hf⟩ := H
  refine g_if_eq (q := 320) (t := 332) C dX6_layPlace_317 rfl (by decide) hr (fun hc => ?_) (fun hc => ?_)
  · have H := Ht hc
    refine g_aload_n (q := 333) C dX6_layPlace_332 rfl 0 rfl rfl ?_
    refine g_get (q := 336) C (by decide) (celr_6 (by decide)) (ci := 6) (i := 9) rfl inlX6 (by decide) wm_4_18 rfl dX6_layPlace_333 rfl ?_
    refine g_iload_n (q := 337) C dX6_layPlace_336 rfl 3 rfl rfl ?_
    obtain ⟨hc, H⟩ := H
    refine g_iald (q := 338) (m := 1331) C (by decide) (by decide) (by decide) hc (by decide) dX6_layPlace_337 rfl ?_
    refine g_sub [0, 1, 2, 3, 4, 5, 7, 8] rfl ?_
    exact H
  · have H := Hf hc
    refine g_aload_n (q := 321) C dX6_layPlace_320 rfl 0 rfl rfl ?_
    refine g_get (q := 324) C (by decide) (celr_6 (by decide)) (ci := 6) (i := 9) rfl inlX6 (by decide) wm_4_18 rfl dX6_layPlace_321 rfl ?_
    refine g_iload (q := 326) C dX6_layPlace_324 rfl 6 rfl ?_
    obtain ⟨hc, H⟩ := H
    refine g_iald (q := 327) (m := 1331) C (by decide) (by decide) (by decide) hc (by decide) dX6_layPlace_326 rfl ?_
    refine g_iconst (q := 328) C dX6_layPlace_327 rfl ?_
    refine g_iadd (q := 329) C dX6_layPlace_328 rfl ?_
    refine g_goto (t := 338) C dX6_layPlace_329 (by decide) ?_
    refine g_sub [0, 1, 2, 3, 4, 5, 7, 8] rfl ?_
    exact H
set_option maxRecDepth 10000 in
set_option maxHeartbeats 2000000 in
theorem X6_layPlace_338 {x : Xx} {post : Int → Mm → Prop} (C : Cx x mX6_layPlace) (hR : Rt x mX6_layPlace post)  (v1 v2 v3 v4 v5 v8 v10 s0 s1 : Int) (M : Mm) (H : (0 ≤ s1 ∧ s1 < 1331) ∧ (∀ M338 : Mm, M338 = mu M 113 s1 s0 → ((inR v10) ∧ (v10 = 0 → ((0 ≤ v3 ∧ v3 < 1331) ∧ ((0 ≤ v3 ∧ v3 < 1331) ∧ (∀ M360 : Mm, M360 = mu M338 112 v3 (M338 112 v3) → (Gx x 11 78 [(0, vr (xg x) 105), (1, vi v1), (2, vi v2), (3, vi v3), (4, vi v4), (5, vi (v5 + 1))] [] M360))))) ∧ (¬ (v10 = 0) → ((0 ≤ v3 ∧ v3 < 1331) ∧ (∀ M360 : Mm, M360 = mu M338 112 v3 v8 → (Gx x 11 78 [(0, vr (xg x) 105), (1, vi v1), (2, vi v2), (3, vi v3), (4, vi v4), (5, vi (v5 + 1))] [] M360))))))) : Gx x 11 338 [(0, vr (xg x) 105), (1, vi v1), (2, vi v2), (3, vi v3), (4, vi v4), (5, vi v5), (8, vi v8), (10, vi v10)] [vi s0, vi s1, vr (xg x) 113] M := by
  obtain ⟨hc, H⟩ := H
  refine g_iast (q := 339) (m := 1331) C (by decide) (by decide) (by decide) hc (by decide) dX6_layPlace_338 rfl ?_
  refine g_topM (fun M338 hM338 => ?_)
  have H := H M338 hM338
  refine g_aload_n (q := 340) C dX6_layPlace_339 rfl 0 rfl rfl ?_
  refine g_get (q := 343) C (by decide) (celr_6 (by decide)) (ci := 6) (i := 8) rfl inlX6 (by decide) wm_4_17 rfl dX6_layPlace_340 rfl ?_
  refine g_iload_n (q := 344) C dX6_layPlace_343 rfl 3 rfl rfl ?_
  refine g_iload (q := 346) C dX6_layPlace_344 rfl 7 rfl ?_
  obtain ⟨hr, Ht, Hf⟩ := H
  refine g_if_eq (q := 349) (t := 354) C dX6_layPlace_346 rfl (by decide) hr (fun hc => ?_) (fun hc => ?_)
  · have H := Ht hc
    refine g_aload_n (q := 355) C dX6_layPlace_354 rfl 0 rfl rfl ?_
    refine g_get (q := 358) C (by decide) (celr_6 (by decide)) (ci := 6) (i := 8) rfl inlX6 (by decide) wm_4_17 rfl dX6_layPlace_355 rfl ?_
    refine g_iload_n (q := 359) C dX6_layPlace_358 rfl 3 rfl rfl ?_
    obtain ⟨hc, H⟩ := H
    refine g_iald (q := 360) (m := 1331) C (by decide) (by decide) (by decide) hc (by decide) dX6_layPlace_359 rfl ?_
    obtain ⟨hc, H⟩ := H
    refine g_iast (q := 361) (m := 1331) C (by decide) (by decide) (by decide) hc (by decide) dX6_layPlace_360 rfl ?_
    refine g_topM (fun M360 hM360 => ?_)
    have H := H M360 hM360
    refine g_iinc (q := 364) (L2 := [(5, vi (v5 + 1)), (0, vr (xg x) 105), (1, vi v1), (2, vi v2), (3, vi v3), (4, vi v4), (8, vi v8), (10, vi v10)]) C dX6_layPlace_361 rfl 5 rfl (by decide) rfl ?_
    refine g_goto (t := 78) C dX6_layPlace_364 (by decide) ?_
    refine g_sub [1, 2, 3, 4, 5, 0] rfl ?_
    exact H
  · have H := Hf hc
    refine g_iload (q := 351) C dX6_layPlace_349 rfl 6 rfl ?_
    refine g_goto (t := 360) C dX6_layPlace_351 (by decide) ?_
    obtain ⟨hc, H⟩ := H
    refine g_iast (q := 361) (m := 1331) C (by decide) (by decide) (by decide) hc (by decide) dX6_layPlace_360 rfl ?_
    refine g_topM (fun M360 hM360 => ?_)
    have H := H M360 hM360
    refine g_iinc (q := 364) (L2 := [(5, vi (v5 + 1)), (0, vr (xg x) 105), (1, vi v1), (2, vi v2), (3, vi v3), (4, vi v4), (8, vi v8), (10, vi v10)]) C dX6_layPlace_361 rfl 5 rfl (by decide) rfl ?_
    refine g_goto (t := 78) C dX6_layPlace_364 (by decide) ?_
    refine g_sub [1, 2, 3, 4, 5, 0] rfl ?_
    exact H
set_option maxRecDepth 10000 in
set_option maxHeartbeats 2000000 in
theorem X6_isPage_0 {x : Xx} {post : Int → Mm → Prop} (C : Cx x mX6_isPage) (hR : Rt x mX6_isPage post)  (v1 v2 v3 : Int) (M : Mm) (H : (inR (v2 + v3) ∧ inR (M 106 6)) ∧ (M 106 6 < v2 + v3 → (post 0 M)) ∧ (¬ (M 106 6 < v2 + v3) → (∃ p16 : Int → Mm → Prop, Ct (xl x) (xg x) mX6_isFit [vr (xg x) 105, vi v2, vi v3] M p16 ∧ ∀ (r16 : Int) (M16 : Mm), p16 r16 M16 → ((inR r16) ∧ (¬ (r16 = 0) → (∃ p28 : Int → Mm → Prop, Ct (xl x) (xg x) mX6_linesBehind [vr (xg x) 105, vi v1, vi v2, vi v3] M16 p28 ∧ ∀ (r28 : Int) (M28 : Mm), p28 r28 M28 → ((inR ((r28 - v1) + v3)) ∧ ((r28 - v1) + v3 ≤ 0 → (post 0 M28)) ∧ (¬ ((r28 - v1) + v3 ≤ 0) → ((inR (M28 106 5)) ∧ (M28 106 5 = 1 → (post 1 M28)) ∧ (¬ (M28 106 5 = 1) → ((inR (M28 106 0)) ∧ (M28 106 0 = 0 → (post 1 M28)) ∧ (¬ (M28 106 0 = 0) → (∃ p66 : Int → Mm → Prop, Ct (xl x) (xg x) mX6_areMentioned [vr (xg x) 105, vi v2, vi v3, vi r28] M28 p66 ∧ ∀ (r66 : Int) (M66 : Mm), p66 r66 M66 → ((inR r66) ∧ (r66 = 0 → (post 0 M66)) ∧ (¬ (r66 = 0) → (post 1 M66)))))))))))) ∧ (r16 = 0 → (post 0 M16)))))) : Gx x 5 0 [(0, vr (xg x) 105), (1, vi v1), (2, vi v2), (3, vi v3)] [] M := by
  refine g_iload_n (q := 1) C dX6_isPage_0 rfl 2 rfl rfl ?_
  refine g_iload_n (q := 2) C dX6_isPage_1 rfl 3 rfl rfl ?_
  refine g_iadd (q := 3) C dX6_isPage_2 rfl ?_
  refine g_aload_n (q := 4) C dX6_isPage_3 rfl 0 rfl rfl ?_
  refine g_get (q := 7) C (by decide) (celr_6 (by decide)) (ci := 6) (i := 0) rfl inlX6 (by decide) wm_4_11 rfl dX6_isPage_4 rfl ?_
  refine g_bipush (q := 9) C dX6_isPage_7 rfl (by decide) ?_
  refine g_iald (q := 10) (m := 47) C (by decide) (by decide) (by decide) (by decide) (by decide) dX6_isPage_9 rfl ?_
  obtain ⟨hr, Ht, Hf⟩ := H
  refine g_icmp_gt (q := 13) (t := 22) C dX6_isPage_10 rfl (by decide) hr (fun hc => ?_) (fun hc => ?_)
  · have H := Ht hc
    refine g_iconst (q := 23) C dX6_isPage_22 rfl ?_
    exact g_zret C hR dX6_isPage_23 rfl (by decide) H
  · have H := Hf hc
    refine g_aload_n (q := 14) C dX6_isPage_13 rfl 0 rfl rfl ?_
    refine g_iload_n (q := 15) C dX6_isPage_14 rfl 2 rfl rfl ?_
    refine g_iload_n (q := 16) C dX6_isPage_15 rfl 3 rfl rfl ?_
    obtain ⟨p16, hM, H⟩ := H
    refine g_callV (q := 19) (As := [vi v2, vi v3]) (st := []) (na := 2) C mX6_isFit (by decide) (celr_6 (by decide)) rfl hM wm_15_21 wm_15_22 wm_15_23 wm_1_5 wm_16_0 (by decide +kernel) rfl rfl (by decide) rfl (Nat.le_of_ble_eq_true rfl) dX6_isPage_16 rfl (fun r16 M16 hp => ?_)
    have H := H r16 M16 hp
    show Gx x 5 19 [(0, vr (xg x) 105), (1, vi v1), (2, vi v2), (3, vi v3)] [vi r16] M16
    obtain ⟨hr, Ht, Hf⟩ := H
    refine g_if_ne (q := 22) (t := 24) C dX6_isPage_19 rfl (by decide) hr (fun hc => ?_) (fun hc => ?_)
    · have H := Ht hc
      refine g_aload_n (q := 25) C dX6_isPage_24 rfl 0 rfl rfl ?_
      refine g_iload_n (q := 26) C dX6_isPage_25 rfl 1 rfl rfl ?_
      refine g_iload_n (q := 27) C dX6_isPage_26 rfl 2 rfl rfl ?_
      refine g_iload_n (q := 28) C dX6_isPage_27 rfl 3 rfl rfl ?_
      obtain ⟨p28, hM, H⟩ := H
      refine g_callV (q := 31) (As := [vi v1, vi v2, vi v3]) (st := []) (na := 3) C mX6_linesBehind (by decide) (celr_6 (by decide)) rfl hM wm_16_13 wm_16_14 wm_16_15 wm_1_5 wm_16_16 (by decide +kernel) rfl rfl (by decide) rfl (Nat.le_of_ble_eq_true rfl) dX6_isPage_28 rfl (fun r28 M28 hp => ?_)
      have H := H r28 M28 hp
      show Gx x 5 31 [(0, vr (xg x) 105), (1, vi v1), (2, vi v2), (3, vi v3)] [vi r28] M28
      refine g_istore (q := 33) (L2 := [(4, vi r28), (0, vr (xg x) 105), (1, vi v1), (2, vi v2), (3, vi v3)]) C dX6_isPage_31 rfl (by decide) rfl ?_
      refine g_iload (q := 35) C dX6_isPage_33 rfl 0 rfl ?_
      refine g_iload_n (q := 36) C dX6_isPage_35 rfl 2 rfl rfl ?_
      refine g_isub (q := 37) C dX6_isPage_36 rfl ?_
      refine g_iload_n (q := 38) C dX6_isPage_37 rfl 4 rfl rfl ?_
      refine g_iadd (q := 39) C dX6_isPage_38 rfl ?_
      obtain ⟨hr, Ht, Hf⟩ := H
      refine g_if_le (q := 42) (t := 76) C dX6_isPage_39 rfl (by decide) hr (fun hc => ?_) (fun hc => ?_)
      · have H := Ht hc
        refine g_iconst (q := 77) C dX6_isPage_76 rfl ?_
        exact g_zret C hR dX6_isPage_77 rfl (by decide) H
      · have H := Hf hc
        refine g_aload_n (q := 43) C dX6_isPage_42 rfl 1 rfl rfl ?_
        refine g_get (q := 46) C (by decide) (celr_6 (by decide)) (ci := 6) (i := 0) rfl inlX6 (by decide) wm_4_11 rfl dX6_isPage_43 rfl ?_
        refine g_iconst (q := 47) C dX6_isPage_46 rfl ?_
        refine g_iald (q := 48) (m := 47) C (by decide) (by decide) (by decide) (by decide) (by decide) dX6_isPage_47 rfl ?_
        refine g_iconst (q := 49) C dX6_isPage_48 rfl ?_
        obtain ⟨hr, Ht, Hf⟩ := H
        refine g_icmp_eq (q := 52) (t := 72) C dX6_isPage_49 rfl (by decide) ⟨hr, by decide⟩ (fun hc => ?_) (fun hc => ?_)
        · have H := Ht hc
          refine g_iconst (q := 73) C dX6_isPage_72 rfl ?_
          refine g_goto (t := 77) C dX6_isPage_73 (by decide) ?_
          exact g_zret C hR dX6_isPage_77 rfl (by decide) H
        · have H := Hf hc
          refine g_aload_n (q := 53) C dX6_isPage_52 rfl 1 rfl rfl ?_
          refine g_get (q := 56) C (by decide) (celr_6 (by decide)) (ci := 6) (i := 0) rfl inlX6 (by decide) wm_4_11 rfl dX6_isPage_53 rfl ?_
          refine g_iconst (q := 57) C dX6_isPage_56 rfl ?_
          refine g_iald (q := 58) (m := 47) C (by decide) (by decide) (by decide) (by decide) (by decide) dX6_isPage_57 rfl ?_
          obtain ⟨hr, Ht, Hf⟩ := H
          refine g_if_eq (q := 61) (t := 72) C dX6_isPage_58 rfl (by decide) hr (fun hc => ?_) (fun hc => ?_)
          · have H := Ht hc
            refine g_iconst (q := 73) C dX6_isPage_72 rfl ?_
            refine g_goto (t := 77) C dX6_isPage_73 (by decide) ?_
            exact g_zret C hR dX6_isPage_77 rfl (by decide) H
          · have H := Hf hc
            refine g_aload_n (q := 62) C dX6_isPage_61 rfl 1 rfl rfl ?_
            refine g_iload_n (q := 63) C dX6_isPage_62 rfl 3 rfl rfl ?_
            refine g_iload_n (q := 64) C dX6_isPage_63 rfl 4 rfl rfl ?_
            refine g_iload (q := 66) C dX6_isPage_64 rfl 0 rfl ?_
            obtain ⟨p66, hM, H⟩ := H
            refine g_callV (q := 69) (As := [vi v2, vi v3, vi r28]) (st := []) (na := 3) C mX6_areMentioned (by decide) (celr_6 (by decide)) rfl hM wm_16_21 wm_16_22 wm_16_23 wm_1_5 wm_17_0 (by decide +kernel) rfl rfl (by decide) rfl (Nat.le_of_ble_eq_true rfl) dX6_isPage_66 rfl (fun r66 M66 hp => ?_)
            have H := H r66 M66 hp
            show Gx x 5 69 [(4, vi r28), (0, vr (xg x) 105), (1, vi v1), (2, vi v2), (3, vi v3)] [vi r66] M66
            obtain ⟨hr, Ht, Hf⟩ := H
            refine g_if_eq (q := 72) (t := 76) C dX6_isPage_69 rfl (by decide) hr (fun hc => ?_) (fun hc => ?_)
            · have H := Ht hc
              refine g_iconst (q := 77) C dX6_isPage_76 rfl ?_
              exact g_zret C hR dX6_isPage_77 rfl (by decide) H
            · have H := Hf hc
              refine g_iconst (q := 73) C dX6_isPage_72 rfl ?_
              refine g_goto (t := 77) C dX6_isPage_73 (by decide) ?_
              exact g_zret C hR dX6_isPage_77 rfl (by decide) H
    · have H := Hf hc
      refine g_iconst (q := 23) C dX6_isPage_22 rfl ?_
      exact g_zret C hR dX6_isPage_23 rfl (by decide) H
set_option maxRecDepth 10000 in
set_option maxHeartbeats 2000000 in
theorem X6_isFit_0 {x : Xx} {post : Int → Mm → Prop} (C : Cx x mX6_isFit) (hR : Rt x mX6_isFit post)  (v1 v2 : Int) (M : Mm) (H : (inR v2 ∧ inR (M 106 4)) ∧ (v2 ≤ M 106 4 → ((inR v2) ∧ (¬ (v2 = 0) → (Gx x 7 25 [(0, vr (xg x) 105), (1, vi v1), (2, vi v2), (3, vi 0), (4, vi 0)] [] M)) ∧ (v2 = 0 → (Gx x 7 25 [(0, vr (xg x) 105), (1, vi v1), (2, vi v2), (3, vi 1), (4, vi 0)] [] M)))) ∧ (¬ (v2 ≤ M 106 4) → (post 0 M))) : Gx x 7 0 [(0, vr (xg x) 105), (1, vi v1), (2, vi v2)] [] M := by
  refine g_iload_n (q := 1) C dX6_isFit_0 rfl 2 rfl rfl ?_
  refine g_aload_n (q := 2) C dX6_isFit_1 rfl 0 rfl rfl ?_
  refine g_get (q := 5) C (by decide) (celr_6 (by decide)) (ci := 6) (i := 0) rfl inlX6 (by decide) wm_4_11 rfl dX6_isFit_2 rfl ?_
  refine g_iconst (q := 6) C dX6_isFit_5 rfl ?_
  refine g_iald (q := 7) (m := 47) C (by decide) (by decide) (by decide) (by decide) (by decide) dX6_isFit_6 rfl ?_
  obtain ⟨hr, Ht, Hf⟩ := H
  refine g_icmp_le (q := 10) (t := 12) C dX6_isFit_7 rfl (by decide) hr (fun hc => ?_) (fun hc => ?_)
  · have H := Ht hc
    refine g_iload_n (q := 13) C dX6_isFit_12 rfl 2 rfl rfl ?_
    obtain ⟨hr, Ht, Hf⟩ := H
    refine g_if_ne (q := 16) (t := 20) C dX6_isFit_13 rfl (by decide) hr (fun hc => ?_) (fun hc => ?_)
    · have H := Ht hc
      refine g_iconst (q := 21) C dX6_isFit_20 rfl ?_
      refine g_istore_n (q := 22) (L2 := [(3, vi 0), (0, vr (xg x) 105), (1, vi v1), (2, vi v2)]) C dX6_isFit_21 rfl rfl (by decide) rfl ?_
      refine g_iconst (q := 23) C dX6_isFit_22 rfl ?_
      refine g_istore (q := 25) (L2 := [(4, vi 0), (3, vi 0), (0, vr (xg x) 105), (1, vi v1), (2, vi v2)]) C dX6_isFit_23 rfl (by decide) rfl ?_
      refine g_sub [2, 3, 4, 1, 0] rfl ?_
      exact H
    · have H := Hf hc
      refine g_iconst (q := 17) C dX6_isFit_16 rfl ?_
      refine g_goto (t := 21) C dX6_isFit_17 (by decide) ?_
      refine g_istore_n (q := 22) (L2 := [(3, vi 1), (0, vr (xg x) 105), (1, vi v1), (2, vi v2)]) C dX6_isFit_21 rfl rfl (by decide) rfl ?_
      refine g_iconst (q := 23) C dX6_isFit_22 rfl ?_
      refine g_istore (q := 25) (L2 := [(4, vi 0), (3, vi 1), (0, vr (xg x) 105), (1, vi v1), (2, vi v2)]) C dX6_isFit_23 rfl (by decide) rfl ?_
      refine g_sub [2, 3, 4, 1, 0] rfl ?_
      exact H
  · have H := Hf hc
    refine g_iconst (q := 11) C dX6_isFit_10 rfl ?_
    exact g_zret C hR dX6_isFit_11 rfl (by decide) H
set_option maxRecDepth 10000 in
set_option maxHeartbeats 2000000 in
theorem X6_isFit_25 {x : Xx} {post : Int → Mm → Prop} (C : Cx x mX6_isFit) (hR : Rt x mX6_isFit post)  (v1 v2 v3 v4 : Int) (M : Mm) (H : (0 ≤ v2 ∧ v2 < 31) ∧ ((inR v4 ∧ inR ((2 : Int) ^ v2.toNat)) ∧ ((2 : Int) ^ v2.toNat ≤ v4 → ((v3 = 0 ∨ v3 = 1) ∧ post v3 M)) ∧ (¬ ((2 : Int) ^ v2.toNat ≤ v4) → (∃ p39 : Int → Mm → Prop, Ct (xl x) (xg x) mX6_column [vr (xg x) 105, vi v1, vi v2, vi v4, vi 1] M p39 ∧ ∀ (r39 : Int) (M39 : Mm), p39 r39 M39 → ((inR r39 ∧ inR (M39 106 3)) ∧ (M39 106 3 < r39 → (Gx x 7 56 [(0, vr (xg x) 105), (1, vi v1), (2, vi v2), (3, vi v3), (4, vi v4)] [vi 0] M39)) ∧ (¬ (M39 106 3 < r39) → (Gx x 7 56 [(0, vr (xg x) 105), (1, vi v1), (2, vi v2), (3, vi v3), (4, vi v4)] [vi 1] M39))))))) : Gx x 7 25 [(0, vr (xg x) 105), (1, vi v1), (2, vi v2), (3, vi v3), (4, vi v4)] [] M := by
  refine g_iload (q := 27) C dX6_isFit_25 rfl 4 rfl ?_
  refine g_iconst (q := 28) C dX6_isFit_27 rfl ?_
  refine g_iload_n (q := 29) C dX6_isFit_28 rfl 2 rfl rfl ?_
  obtain ⟨hc, H⟩ := H
  refine g_ishl (q := 30) C dX6_isFit_29 rfl hc ?_
  obtain ⟨hr, Ht, Hf⟩ := H
  refine g_icmp_ge (q := 33) (t := 137) C dX6_isFit_30 rfl (by decide) hr (fun hc => ?_) (fun hc => ?_)
  · have H := Ht hc
    refine g_iload_n (q := 138) C dX6_isFit_137 rfl 3 rfl rfl ?_
    exact g_zret C hR dX6_isFit_138 rfl H.1 H.2
  · have H := Hf hc
    refine g_aload_n (q := 34) C dX6_isFit_33 rfl 0 rfl rfl ?_
    refine g_iload_n (q := 35) C dX6_isFit_34 rfl 1 rfl rfl ?_
    refine g_iload_n (q := 36) C dX6_isFit_35 rfl 2 rfl rfl ?_
    refine g_iload (q := 38) C dX6_isFit_36 rfl 4 rfl ?_
    refine g_iconst (q := 39) C dX6_isFit_38 rfl ?_
    obtain ⟨p39, hM, H⟩ := H
    refine g_callV (q := 42) (As := [vi v1, vi v2, vi v4, vi 1]) (st := []) (na := 4) C mX6_column (by decide) (celr_6 (by decide)) rfl hM wm_16_1 wm_16_2 wm_16_3 wm_1_5 wm_16_4 (by decide +kernel) rfl rfl (by decide) rfl (Nat.le_of_ble_eq_true rfl) dX6_isFit_39 rfl (fun r39 M39 hp => ?_)
    have H := H r39 M39 hp
    show Gx x 7 42 [(0, vr (xg x) 105), (1, vi v1), (2, vi v2), (3, vi v3), (4, vi v4)] [vi r39] M39
    refine g_aload_n (q := 43) C dX6_isFit_42 rfl 0 rfl rfl ?_
    refine g_get (q := 46) C (by decide) (celr_6 (by decide)) (ci := 6) (i := 0) rfl inlX6 (by decide) wm_4_11 rfl dX6_isFit_43 rfl ?_
    refine g_iconst (q := 47) C dX6_isFit_46 rfl ?_
    refine g_iald (q := 48) (m := 47) C (by decide) (by decide) (by decide) (by decide) (by decide) dX6_isFit_47 rfl ?_
    obtain ⟨hr, Ht, Hf⟩ := H
    refine g_icmp_gt (q := 51) (t := 55) C dX6_isFit_48 rfl (by decide) hr (fun hc => ?_) (fun hc => ?_)
    · have H := Ht hc
      refine g_iconst (q := 56) C dX6_isFit_55 rfl ?_
      refine g_sub [0, 1, 2, 3, 4] rfl ?_
      exact H
    · have H := Hf hc
      refine g_iconst (q := 52) C dX6_isFit_51 rfl ?_
      refine g_goto (t := 56) C dX6_isFit_52 (by decide) ?_
      refine g_sub [0, 1, 2, 3, 4] rfl ?_
      exact H
set_option maxRecDepth 10000 in
set_option maxHeartbeats 2000000 in
theorem X6_isFit_56 {x : Xx} {post : Int → Mm → Prop} (C : Cx x mX6_isFit) (hR : Rt x mX6_isFit post)  (v1 v2 v3 v4 s0 : Int) (M : Mm) (H : (inR (M 106 2)) ∧ (¬ (M 106 2 = 1) → (∃ p92 : Int → Mm → Prop, Ct (xl x) (xg x) mX6_column [vr (xg x) 105, vi v1, vi v2, vi v4, vi 0] M p92 ∧ ∀ (r92 : Int) (M92 : Mm), p92 r92 M92 → ((inR r92 ∧ inR (M92 106 3)) ∧ (M92 106 3 < r92 → (Gx x 7 109 [(0, vr (xg x) 105), (1, vi v1), (2, vi v2), (3, vi v3), (4, vi v4), (5, vi s0)] [vi 0] M92)) ∧ (¬ (M92 106 3 < r92) → (Gx x 7 109 [(0, vr (xg x) 105), (1, vi v1), (2, vi v2), (3, vi v3), (4, vi v4), (5, vi s0)] [vi 1] M92))))) ∧ (M 106 2 = 1 → ((0 ≤ v2 ∧ v2 < 31) ∧ ((inR v4 ∧ inR (((2 : Int) ^ v2.toNat) - 1)) ∧ (¬ (v4 = ((2 : Int) ^ v2.toNat) - 1) → (Gx x 7 109 [(0, vr (xg x) 105), (1, vi v1), (2, vi v2), (3, vi v3), (4, vi v4), (5, vi s0)] [vi 0] M)) ∧ (v4 = ((2 : Int) ^ v2.toNat) - 1 → (Gx x 7 109 [(0, vr (xg x) 105), (1, vi v1), (2, vi v2), (3, vi v3), (4, vi v4), (5, vi s0)] [vi 1] M)))))) : Gx x 7 56 [(0, vr (xg x) 105), (1, vi v1), (2, vi v2), (3, vi v3), (4, vi v4)] [vi s0] M := by
  refine g_istore (q := 58) (L2 := [(5, vi s0), (0, vr (xg x) 105), (1, vi v1), (2, vi v2), (3, vi v3), (4, vi v4)]) C dX6_isFit_56 rfl (by decide) rfl ?_
  refine g_aload_n (q := 59) C dX6_isFit_58 rfl 1 rfl rfl ?_
  refine g_get (q := 62) C (by decide) (celr_6 (by decide)) (ci := 6) (i := 0) rfl inlX6 (by decide) wm_4_11 rfl dX6_isFit_59 rfl ?_
  refine g_iconst (q := 63) C dX6_isFit_62 rfl ?_
  refine g_iald (q := 64) (m := 47) C (by decide) (by decide) (by decide) (by decide) (by decide) dX6_isFit_63 rfl ?_
  refine g_iconst (q := 65) C dX6_isFit_64 rfl ?_
  obtain ⟨hr, Ht, Hf⟩ := H
  refine g_icmp_ne (q := 68) (t := 86) C dX6_isFit_65 rfl (by decide) ⟨hr, by decide⟩ (fun hc => ?_) (fun hc => ?_)
  · have H := Ht hc
    refine g_aload_n (q := 87) C dX6_isFit_86 rfl 1 rfl rfl ?_
    refine g_iload_n (q := 88) C dX6_isFit_87 rfl 2 rfl rfl ?_
    refine g_iload_n (q := 89) C dX6_isFit_88 rfl 3 rfl rfl ?_
    refine g_iload (q := 91) C dX6_isFit_89 rfl 5 rfl ?_
    refine g_iconst (q := 92) C dX6_isFit_91 rfl ?_
    obtain ⟨p92, hM, H⟩ := H
    refine g_callV (q := 95) (As := [vi v1, vi v2, vi v4, vi 0]) (st := []) (na := 4) C mX6_column (by decide) (celr_6 (by decide)) rfl hM wm_16_1 wm_16_2 wm_16_3 wm_1_5 wm_16_4 (by decide +kernel) rfl rfl (by decide) rfl (Nat.le_of_ble_eq_true rfl) dX6_isFit_92 rfl (fun r92 M92 hp => ?_)
    have H := H r92 M92 hp
    show Gx x 7 95 [(5, vi s0), (0, vr (xg x) 105), (1, vi v1), (2, vi v2), (3, vi v3), (4, vi v4)] [vi r92] M92
    refine g_aload_n (q := 96) C dX6_isFit_95 rfl 1 rfl rfl ?_
    refine g_get (q := 99) C (by decide) (celr_6 (by decide)) (ci := 6) (i := 0) rfl inlX6 (by decide) wm_4_11 rfl dX6_isFit_96 rfl ?_
    refine g_iconst (q := 100) C dX6_isFit_99 rfl ?_
    refine g_iald (q := 101) (m := 47) C (by decide) (by decide) (by decide) (by decide) (by decide) dX6_isFit_100 rfl ?_
    obtain ⟨hr, Ht, Hf⟩ := H
    refine g_icmp_gt (q := 104) (t := 108) C dX6_isFit_101 rfl (by decide) hr (fun hc => ?_) (fun hc => ?_)
    · have H := Ht hc
      refine g_iconst (q := 109) C dX6_isFit_108 rfl ?_
      refine g_sub [1, 2, 3, 4, 5, 0] rfl ?_
      exact H
    · have H := Hf hc
      refine g_iconst (q := 105) C dX6_isFit_104 rfl ?_
      refine g_goto (t := 109) C dX6_isFit_105 (by decide) ?_
      refine g_sub [1, 2, 3, 4, 5, 0] rfl ?_
      exact H
  · have H := Hf hc
    refine g_iload (q := 70) C dX6_isFit_68 rfl 5 rfl ?_
    refine g_iconst (q := 71) C dX6_isFit_70 rfl ?_
    refine g_iload_n (q := 72) C dX6_isFit_71 rfl 3 rfl rfl ?_
    obtain ⟨hc, H⟩ := H
    refine g_ishl (q := 73) C dX6_isFit_72 rfl hc ?_
    refine g_iconst (q := 74) C dX6_isFit_73 rfl ?_
    refine g_isub (q := 75) C dX6_isFit_74 rfl ?_
    obtain ⟨hr, Ht, Hf⟩ := H
    refine g_icmp_ne (q := 78) (t := 82) C dX6_isFit_75 rfl (by decide) hr (fun hc => ?_) (fun hc => ?_)
    · have H := Ht hc
      refine g_iconst (q := 83) C dX6_isFit_82 rfl ?_
      refine g_goto (t := 109) C dX6_isFit_83 (by decide) ?_
      refine g_sub [1, 2, 3, 4, 5, 0] rfl ?_
      exact H
    · have H := Hf hc
      refine g_iconst (q := 79) C dX6_isFit_78 rfl ?_
      refine g_goto (t := 109) C dX6_isFit_79 (by decide) ?_
      refine g_sub [1, 2, 3, 4, 5, 0] rfl ?_
      exact H
set_option maxRecDepth 10000 in
set_option maxHeartbeats 2000000 in
theorem X6_isFit_109 {x : Xx} {post : Int → Mm → Prop} (C : Cx x mX6_isFit) (hR : Rt x mX6_isFit post)  (v1 v2 v3 v4 v5 s0 : Int) (M : Mm) (H : (inR v3) ∧ (¬ (v3 = 0) → (Gx x 7 25 [(0, vr (xg x) 105), (1, vi v1), (2, vi v2), (3, vi 1), (4, vi (v4 + 1))] [] M)) ∧ (v3 = 0 → ((inR v5) ∧ (v5 = 0 → (Gx x 7 25 [(0, vr (xg x) 105), (1, vi v1), (2, vi v2), (3, vi 0), (4, vi (v4 + 1))] [] M)) ∧ (¬ (v5 = 0) → ((inR s0) ∧ (s0 = 0 → (Gx x 7 25 [(0, vr (xg x) 105), (1, vi v1), (2, vi v2), (3, vi 0), (4, vi (v4 + 1))] [] M)) ∧ (¬ (s0 = 0) → (Gx x 7 25 [(0, vr (xg x) 105), (1, vi v1), (2, vi v2), (3, vi 1), (4, vi (v4 + 1))] [] M))))))) : Gx x 7 109 [(0, vr (xg x) 105), (1, vi v1), (2, vi v2), (3, vi v3), (4, vi v4), (5, vi v5)] [vi s0] M := by
  refine g_istore (q := 111) (L2 := [(6, vi s0), (0, vr (xg x) 105), (1, vi v1), (2, vi v2), (3, vi v3), (4, vi v4), (5, vi v5)]) C dX6_isFit_109 rfl (by decide) rfl ?_
  refine g_iload_n (q := 112) C dX6_isFit_111 rfl 4 rfl rfl ?_
  obtain ⟨hr, Ht, Hf⟩ := H
  refine g_if_ne (q := 115) (t := 125) C dX6_isFit_112 rfl (by decide) hr (fun hc => ?_) (fun hc => ?_)
  · have H := Ht hc
    refine g_iconst (q := 126) C dX6_isFit_125 rfl ?_
    refine g_goto (t := 130) C dX6_isFit_126 (by decide) ?_
    refine g_istore_n (q := 131) (L2 := [(3, vi 1), (6, vi s0), (0, vr (xg x) 105), (1, vi v1), (2, vi v2), (4, vi v4), (5, vi v5)]) C dX6_isFit_130 rfl rfl (by decide) rfl ?_
    refine g_iinc (q := 134) (L2 := [(4, vi (v4 + 1)), (3, vi 1), (6, vi s0), (0, vr (xg x) 105), (1, vi v1), (2, vi v2), (5, vi v5)]) C dX6_isFit_131 rfl 5 rfl (by decide) rfl ?_
    refine g_goto (t := 25) C dX6_isFit_134 (by decide) ?_
    refine g_sub [3, 4, 5, 1, 0] rfl ?_
    exact H
  · have H := Hf hc
    refine g_iload (q := 117) C dX6_isFit_115 rfl 6 rfl ?_
    obtain ⟨hr, Ht, Hf⟩ := H
    refine g_if_eq (q := 120) (t := 129) C dX6_isFit_117 rfl (by decide) hr (fun hc => ?_) (fun hc => ?_)
    · have H := Ht hc
      refine g_iconst (q := 130) C dX6_isFit_129 rfl ?_
      refine g_istore_n (q := 131) (L2 := [(3, vi 0), (6, vi s0), (0, vr (xg x) 105), (1, vi v1), (2, vi v2), (4, vi v4), (5, vi v5)]) C dX6_isFit_130 rfl rfl (by decide) rfl ?_
      refine g_iinc (q := 134) (L2 := [(4, vi (v4 + 1)), (3, vi 0), (6, vi s0), (0, vr (xg x) 105), (1, vi v1), (2, vi v2), (5, vi v5)]) C dX6_isFit_131 rfl 5 rfl (by decide) rfl ?_
      refine g_goto (t := 25) C dX6_isFit_134 (by decide) ?_
      refine g_sub [3, 4, 5, 1, 0] rfl ?_
      exact H
    · have H := Hf hc
      refine g_iload (q := 122) C dX6_isFit_120 rfl 0 rfl ?_
      obtain ⟨hr, Ht, Hf⟩ := H
      refine g_if_eq (q := 125) (t := 129) C dX6_isFit_122 rfl (by decide) hr (fun hc => ?_) (fun hc => ?_)
      · have H := Ht hc
        refine g_iconst (q := 130) C dX6_isFit_129 rfl ?_
        refine g_istore_n (q := 131) (L2 := [(3, vi 0), (6, vi s0), (0, vr (xg x) 105), (1, vi v1), (2, vi v2), (4, vi v4), (5, vi v5)]) C dX6_isFit_130 rfl rfl (by decide) rfl ?_
        refine g_iinc (q := 134) (L2 := [(4, vi (v4 + 1)), (3, vi 0), (6, vi s0), (0, vr (xg x) 105), (1, vi v1), (2, vi v2), (5, vi v5)]) C dX6_isFit_131 rfl 5 rfl (by decide) rfl ?_
        refine g_goto (t := 25) C dX6_isFit_134 (by decide) ?_
        refine g_sub [3, 4, 5, 1, 0] rfl ?_
        exact H
      · have H := Hf hc
        refine g_iconst (q := 126) C dX6_isFit_125 rfl ?_
        refine g_goto (t := 130) C dX6_isFit_126 (by decide) ?_
        refine g_istore_n (q := 131) (L2 := [(3, vi 1), (6, vi s0), (0, vr (xg x) 105), (1, vi v1), (2, vi v2), (4, vi v4), (5, vi v5)]) C dX6_isFit_130 rfl rfl (by decide) rfl ?_
        refine g_iinc (q := 134) (L2 := [(4, vi (v4 + 1)), (3, vi 1), (6, vi s0), (0, vr (xg x) 105), (1, vi v1), (2, vi v2), (5, vi v5)]) C dX6_isFit_131 rfl 5 rfl (by decide) rfl ?_
        refine g_goto (t := 25) C dX6_isFit_134 (by decide) ?_
        refine g_sub [3, 4, 5, 1, 0] rfl ?_
        exact H
set_option maxRecDepth 10000 in
set_option maxHeartbeats 2000000 in
theorem X6_column_0 {x : Xx} {post : Int → Mm → Prop} (C : Cx x mX6_column) (hR : Rt x mX6_column post)  (v1 v2 v3 v4 : Int) (M : Mm) (H : Gx x 8 6 [(0, vr (xg x) 105), (1, vi v1), (2, vi v2), (3, vi v3), (4, vi v4), (5, vi 0), (6, vi 0)] [] M) : Gx x 8 0 [(0, vr (xg x) 105), (1, vi v1), (2, vi v2), (3, vi v3), (4, vi v4)] [] M := by
  refine g_iconst (q := 1) C dX6_column_0 rfl ?_
  refine g_istore (q := 3) (L2 := [(5, vi 0), (0, vr (xg x) 105), (1, vi v1), (2, vi v2), (3, vi v3), (4, vi v4)]) C dX6_column_1 rfl (by decide) rfl ?_
  refine g_iconst (q := 4) C dX6_column_3 rfl ?_
  refine g_istore (q := 6) (L2 := [(6, vi 0), (5, vi 0), (0, vr (xg x) 105), (1, vi v1), (2, vi v2), (3, vi v3), (4, vi v4)]) C dX6_column_4 rfl (by decide) rfl ?_
  refine g_sub [2, 3, 4, 5, 6, 1, 0] rfl ?_
  exact H
set_option maxRecDepth 10000 in
set_option maxHeartbeats 2000000 in
theorem X6_column_6 {x : Xx} {post : Int → Mm → Prop} (C : Cx x mX6_column) (hR : Rt x mX6_column post)  (v1 v2 v3 v4 v5 v6 : Int) (M : Mm) (H : (inR v6 ∧ inR v2) ∧ (v2 ≤ v6 → (post v5 M)) ∧ (¬ (v2 ≤ v6) → (∃ p17 : Int → Mm → Prop, Ct (xl x) (xg x) mX6_isWide [vr (xg x) 105, vi (v1 + v6)] M p17 ∧ ∀ (r17 : Int) (M17 : Mm), p17 r17 M17 → ((inR r17) ∧ (¬ (r17 = 0) → (Gx x 8 48 [(0, vr (xg x) 105), (1, vi v1), (2, vi v2), (3, vi v3), (4, vi v4), (5, vi v5), (6, vi v6)] [vi 1] M17)) ∧ (r17 = 0 → (((0 ≤ v3 ∧ v3 < 2147483648) ∧ (0 ≤ v6 ∧ v6 < 31)) ∧ ((inR ((v3 / 2 ^ v6.toNat) % 2)) ∧ (¬ ((v3 / 2 ^ v6.toNat) % 2 = 1) → ((inR v4) ∧ (¬ (0 = v4) → (Gx x 8 48 [(0, vr (xg x) 105), (1, vi v1), (2, vi v2), (3, vi v3), (4, vi v4), (5, vi v5), (6, vi v6)] [vi 0] M17)) ∧ (0 = v4 → (Gx x 8 48 [(0, vr (xg x) 105), (1, vi v1), (2, vi v2), (3, vi v3), (4, vi v4), (5, vi v5), (6, vi v6)] [vi 1] M17)))) ∧ ((v3 / 2 ^ v6.toNat) % 2 = 1 → ((inR v4) ∧ (¬ (1 = v4) → (Gx x 8 48 [(0, vr (xg x) 105), (1, vi v1), (2, vi v2), (3, vi v3), (4, vi v4), (5, vi v5), (6, vi v6)] [vi 0] M17)) ∧ (1 = v4 → (Gx x 8 48 [(0, vr (xg x) 105), (1, vi v1), (2, vi v2), (3, vi v3), (4, vi v4), (5, vi v5), (6, vi v6)] [vi 1] M17))))))))))) : Gx x 8 6 [(0, vr (xg x) 105), (1, vi v1), (2, vi v2), (3, vi v3), (4, vi v4), (5, vi v5), (6, vi v6)] [] M := by
  refine g_iload (q := 8) C dX6_column_6 rfl 6 rfl ?_
  refine g_iload_n (q := 9) C dX6_column_8 rfl 2 rfl rfl ?_
  obtain ⟨hr, Ht, Hf⟩ := H
  refine g_icmp_ge (q := 12) (t := 78) C dX6_column_9 rfl (by decide) hr (fun hc => ?_) (fun hc => ?_)
  · have H := Ht hc
    refine g_iload (q := 80) C dX6_column_78 rfl 5 rfl ?_
    exact g_iret C hR dX6_column_80 rfl H
  · have H := Hf hc
    refine g_aload_n (q := 13) C dX6_column_12 rfl 0 rfl rfl ?_
    refine g_iload_n (q := 14) C dX6_column_13 rfl 1 rfl rfl ?_
    refine g_iload (q := 16) C dX6_column_14 rfl 6 rfl ?_
    refine g_iadd (q := 17) C dX6_column_16 rfl ?_
    obtain ⟨p17, hM, H⟩ := H
    refine g_callV (q := 20) (As := [vi (v1 + v6)]) (st := []) (na := 1) C mX6_isWide (by decide) (celr_6 (by decide)) rfl hM wm_16_5 wm_16_6 wm_16_7 wm_1_5 wm_16_8 (by decide +kernel) rfl rfl (by decide) rfl (Nat.le_of_ble_eq_true rfl) dX6_column_17 rfl (fun r17 M17 hp => ?_)
    have H := H r17 M17 hp
    show Gx x 8 20 [(0, vr (xg x) 105), (1, vi v1), (2, vi v2), (3, vi v3), (4, vi v4), (5, vi v5), (6, vi v6)] [vi r17] M17
    obtain ⟨hr, Ht, Hf⟩ := H
    refine g_if_ne (q := 23) (t := 43) C dX6_column_20 rfl (by decide) hr (fun hc => ?_) (fun hc => ?_)
    · have H := Ht hc
      refine g_iconst (q := 44) C dX6_column_43 rfl ?_
      refine g_goto (t := 48) C dX6_column_44 (by decide) ?_
      refine g_sub [0, 1, 2, 3, 4, 5, 6] rfl ?_
      exact H
    · have H := Hf hc
      refine g_iload_n (q := 24) C dX6_column_23 rfl 3 rfl rfl ?_
      refine g_iload (q := 26) C dX6_column_24 rfl 6 rfl ?_
      obtain ⟨hc, H⟩ := H
      refine g_ishr (q := 27) C dX6_column_26 rfl hc ?_
      refine g_iconst (q := 28) C dX6_column_27 rfl ?_
      refine g_iand (q := 29) (p := 2) C dX6_column_28 rfl 1 (by decide) (by decide) ?_
      refine g_iconst (q := 30) C dX6_column_29 rfl ?_
      obtain ⟨hr, Ht, Hf⟩ := H
      refine g_icmp_ne (q := 33) (t := 37) C dX6_column_30 rfl (by decide) ⟨hr, by decide⟩ (fun hc => ?_) (fun hc => ?_)
      · have H := Ht hc
        refine g_iconst (q := 38) C dX6_column_37 rfl ?_
        refine g_iload (q := 40) C dX6_column_38 rfl 4 rfl ?_
        obtain ⟨hr, Ht, Hf⟩ := H
        refine g_icmp_ne (q := 43) (t := 47) C dX6_column_40 rfl (by decide) ⟨by decide, hr⟩ (fun hc => ?_) (fun hc => ?_)
        · have H := Ht hc
          refine g_iconst (q := 48) C dX6_column_47 rfl ?_
          refine g_sub [0, 1, 2, 3, 4, 5, 6] rfl ?_
          exact H
        · have H := Hf hc
          refine g_iconst (q := 44) C dX6_column_43 rfl ?_
          refine g_goto (t := 48) C dX6_column_44 (by decide) ?_
          refine g_sub [0, 1, 2, 3, 4, 5, 6] rfl ?_
          exact H
      · have H := Hf hc
        refine g_iconst (q := 34) C dX6_column_33 rfl ?_
        refine g_goto (t := 38) C dX6_column_34 (by decide) ?_
        refine g_iload (q := 40) C dX6_column_38 rfl 4 rfl ?_
        obtain ⟨hr, Ht, Hf⟩ := H
        refine g_icmp_ne (q := 43) (t := 47) C dX6_column_40 rfl (by decide) ⟨by decide, hr⟩ (fun hc => ?_) (fun hc => ?_)
        · have H := Ht hc
          refine g_iconst (q := 48) C dX6_column_47 rfl ?_
          refine g_sub [0, 1, 2, 3, 4, 5, 6] rfl ?_
          exact H
        · have H := Hf hc
          refine g_iconst (q := 44) C dX6_column_43 rfl ?_
          refine g_goto (t := 48) C dX6_column_44 (by decide) ?_
          refine g_sub [0, 1, 2, 3, 4, 5, 6] rfl ?_
          exact H
set_option maxRecDepth 10000 in
set_option maxHeartbeats 2000000 in
theorem X6_column_48 {x : Xx} {post : Int → Mm → Prop} (C : Cx x mX6_column) (hR : Rt x mX6_column post)  (v1 v2 v3 v4 v5 v6 s0 : Int) (M : Mm) (H : (inR s0) ∧ (s0 = 0 → (∀ w70 : Int, w70 = (v5 + 0) → (Gx x 8 6 [(0, vr (xg x) 105), (1, vi v1), (2, vi v2), (3, vi v3), (4, vi v4), (5, vi w70), (6, vi (v6 + 1))] [] M))) ∧ (¬ (s0 = 0) → (∃ p62 : Int → Mm → Prop, Ct (xl x) (xg x) mX6_high [vr (xg x) 105, vi (v1 + v6)] M p62 ∧ ∀ (r62 : Int) (M62 : Mm), p62 r62 M62 → (∀ w70 : Int, w70 = (v5 + r62) → (Gx x 8 6 [(0, vr (xg x) 105), (1, vi v1), (2, vi v2), (3, vi v3), (4, vi v4), (5, vi w70), (6, vi (v6 + 1))] [] M62))))) : Gx x 8 48 [(0, vr (xg x) 105), (1, vi v1), (2, vi v2), (3, vi v3), (4, vi v4), (5, vi v5), (6, vi v6)] [vi s0] M := by
  refine g_istore (q := 50) (L2 := [(7, vi s0), (0, vr (xg x) 105), (1, vi v1), (2, vi v2), (3, vi v3), (4, vi v4), (5, vi v5), (6, vi v6)]) C dX6_column_48 rfl (by decide) rfl ?_
  refine g_iload (q := 52) C dX6_column_50 rfl 6 rfl ?_
  refine g_iload (q := 54) C dX6_column_52 rfl 0 rfl ?_
  obtain ⟨hr, Ht, Hf⟩ := H
  refine g_if_eq (q := 57) (t := 68) C dX6_column_54 rfl (by decide) hr (fun hc => ?_) (fun hc => ?_)
  · have H := Ht hc
    refine g_iconst (q := 69) C dX6_column_68 rfl ?_
    refine g_iadd (q := 70) C dX6_column_69 rfl ?_
    refine g_topi (fun w70 hw70 => ?_)
    have H := H w70 hw70
    refine g_istore (q := 72) (L2 := [(5, vi w70), (7, vi s0), (0, vr (xg x) 105), (1, vi v1), (2, vi v2), (3, vi v3), (4, vi v4), (6, vi v6)]) C dX6_column_70 rfl (by decide) rfl ?_
    refine g_iinc (q := 75) (L2 := [(6, vi (v6 + 1)), (5, vi w70), (7, vi s0), (0, vr (xg x) 105), (1, vi v1), (2, vi v2), (3, vi v3), (4, vi v4)]) C dX6_column_72 rfl 7 rfl (by decide) rfl ?_
    refine g_goto (t := 6) C dX6_column_75 (by decide) ?_
    refine g_sub [3, 4, 5, 6, 7, 1, 0] rfl ?_
    exact H
  · have H := Hf hc
    refine g_aload_n (q := 58) C dX6_column_57 rfl 1 rfl rfl ?_
    refine g_iload_n (q := 59) C dX6_column_58 rfl 2 rfl rfl ?_
    refine g_iload (q := 61) C dX6_column_59 rfl 7 rfl ?_
    refine g_iadd (q := 62) C dX6_column_61 rfl ?_
    obtain ⟨p62, hM, H⟩ := H
    refine g_callV (q := 65) (As := [vi (v1 + v6)]) (st := [vi v5]) (na := 1) C mX6_high (by decide) (celr_6 (by decide)) rfl hM wm_16_9 wm_16_10 wm_16_11 wm_1_5 wm_16_12 (by decide +kernel) rfl rfl (by decide) rfl (Nat.le_of_ble_eq_true rfl) dX6_column_62 rfl (fun r62 M62 hp => ?_)
    have H := H r62 M62 hp
    show Gx x 8 65 [(7, vi s0), (0, vr (xg x) 105), (1, vi v1), (2, vi v2), (3, vi v3), (4, vi v4), (5, vi v5), (6, vi v6)] [vi r62, vi v5] M62
    refine g_goto (t := 69) C dX6_column_65 (by decide) ?_
    refine g_iadd (q := 70) C dX6_column_69 rfl ?_
    refine g_topi (fun w70 hw70 => ?_)
    have H := H w70 hw70
    refine g_istore (q := 72) (L2 := [(5, vi w70), (7, vi s0), (0, vr (xg x) 105), (1, vi v1), (2, vi v2), (3, vi v3), (4, vi v4), (6, vi v6)]) C dX6_column_70 rfl (by decide) rfl ?_
    refine g_iinc (q := 75) (L2 := [(6, vi (v6 + 1)), (5, vi w70), (7, vi s0), (0, vr (xg x) 105), (1, vi v1), (2, vi v2), (3, vi v3), (4, vi v4)]) C dX6_column_72 rfl 7 rfl (by decide) rfl ?_
    refine g_goto (t := 6) C dX6_column_75 (by decide) ?_
    refine g_sub [3, 4, 5, 6, 7, 1, 0] rfl ?_
    exact H
set_option maxRecDepth 10000 in
set_option maxHeartbeats 2000000 in
theorem X6_isWide_0 {x : Xx} {post : Int → Mm → Prop} (C : Cx x mX6_isWide) (hR : Rt x mX6_isWide post)  (v1 : Int) (M : Mm) (H : (0 ≤ (7 + (4 * v1)) + 1 ∧ (7 + (4 * v1)) + 1 < 47) ∧ ((inR (M 106 ((7 + (4 * v1)) + 1))) ∧ (¬ (M 106 ((7 + (4 * v1)) + 1) = 1) → (post 0 M)) ∧ (M 106 ((7 + (4 * v1)) + 1) = 1 → (post 1 M)))) : Gx x 2 0 [(0, vr (xg x) 105), (1, vi v1)] [] M := by
  refine g_aload_n (q := 1) C dX6_isWide_0 rfl 0 rfl rfl ?_
  refine g_get (q := 4) C (by decide) (celr_6 (by decide)) (ci := 6) (i := 0) rfl inlX6 (by decide) wm_4_11 rfl dX6_isWide_1 rfl ?_
  refine g_bipush (q := 6) C dX6_isWide_4 rfl (by decide) ?_
  refine g_iconst (q := 7) C dX6_isWide_6 rfl ?_
  refine g_iload_n (q := 8) C dX6_isWide_7 rfl 1 rfl rfl ?_
  refine g_imul (q := 9) C dX6_isWide_8 rfl ?_
  refine g_iadd (q := 10) C dX6_isWide_9 rfl ?_
  refine g_iconst (q := 11) C dX6_isWide_10 rfl ?_
  refine g_iadd (q := 12) C dX6_isWide_11 rfl ?_
  obtain ⟨hc, H⟩ := H
  refine g_iald (q := 13) (m := 47) C (by decide) (by decide) (by decide) hc (by decide) dX6_isWide_12 rfl ?_
  refine g_iconst (q := 14) C dX6_isWide_13 rfl ?_
  obtain ⟨hr, Ht, Hf⟩ := H
  refine g_icmp_ne (q := 17) (t := 21) C dX6_isWide_14 rfl (by decide) ⟨hr, by decide⟩ (fun hc => ?_) (fun hc => ?_)
  · have H := Ht hc
    refine g_iconst (q := 22) C dX6_isWide_21 rfl ?_
    exact g_zret C hR dX6_isWide_22 rfl (by decide) H
  · have H := Hf hc
    refine g_iconst (q := 18) C dX6_isWide_17 rfl ?_
    refine g_goto (t := 22) C dX6_isWide_18 (by decide) ?_
    exact g_zret C hR dX6_isWide_22 rfl (by decide) H
set_option maxRecDepth 10000 in
set_option maxHeartbeats 2000000 in
theorem X6_high_0 {x : Xx} {post : Int → Mm → Prop} (C : Cx x mX6_high) (hR : Rt x mX6_high post)  (v1 : Int) (M : Mm) (H : (0 ≤ 7 + (4 * v1) ∧ 7 + (4 * v1) < 47) ∧ (post (M 106 (7 + (4 * v1))) M)) : Gx x 2 0 [(0, vr (xg x) 105), (1, vi v1)] [] M := by
  refine g_aload_n (q := 1) C dX6_high_0 rfl 0 rfl rfl ?_
  refine g_get (q := 4) C (by decide) (celr_6 (by decide)) (ci := 6) (i := 0) rfl inlX6 (by decide) wm_4_11 rfl dX6_high_1 rfl ?_
  refine g_bipush (q := 6) C dX6_high_4 rfl (by decide) ?_
  refine g_iconst (q := 7) C dX6_high_6 rfl ?_
  refine g_iload_n (q := 8) C dX6_high_7 rfl 1 rfl rfl ?_
  refine g_imul (q := 9) C dX6_high_8 rfl ?_
  refine g_iadd (q := 10) C dX6_high_9 rfl ?_
  obtain ⟨hc, H⟩ := H
  refine g_iald (q := 11) (m := 47) C (by decide) (by decide) (by decide) hc (by decide) dX6_high_10 rfl ?_
  exact g_iret C hR dX6_high_11 rfl H
set_option maxRecDepth 10000 in
set_option maxHeartbeats 2000000 in
theorem X6_linesBehind_0 {x : Xx} {post : Int → Mm → Prop} (C : Cx x mX6_linesBehind) (hR : Rt x mX6_linesBehind post)  (v1 v2 v3 : Int) (M : Mm) (H : ∃ p16 : Int → Mm → Prop, Ct (xl x) (xg x) mX6_taken [vr (xg x) 105, vi v2, vi v3] M p16 ∧ ∀ (r16 : Int) (M16 : Mm), p16 r16 M16 → (∀ w20 : Int, w20 = (((M 106 2) * (M 106 1)) - r16) → ((inR (v1 + w20) ∧ inR (M16 106 0)) ∧ (M16 106 0 ≤ v1 + w20 → (post (M16 106 0) M16)) ∧ (¬ (M16 106 0 ≤ v1 + w20) → (post (v1 + w20) M16))))) : Gx x 5 0 [(0, vr (xg x) 105), (1, vi v1), (2, vi v2), (3, vi v3)] [] M := by
  refine g_aload_n (q := 1) C dX6_linesBehind_0 rfl 0 rfl rfl ?_
  refine g_get (q := 4) C (by decide) (celr_6 (by decide)) (ci := 6) (i := 0) rfl inlX6 (by decide) wm_4_11 rfl dX6_linesBehind_1 rfl ?_
  refine g_iconst (q := 5) C dX6_linesBehind_4 rfl ?_
  refine g_iald (q := 6) (m := 47) C (by decide) (by decide) (by decide) (by decide) (by decide) dX6_linesBehind_5 rfl ?_
  refine g_aload_n (q := 7) C dX6_linesBehind_6 rfl 0 rfl rfl ?_
  refine g_get (q := 10) C (by decide) (celr_6 (by decide)) (ci := 6) (i := 0) rfl inlX6 (by decide) wm_4_11 rfl dX6_linesBehind_7 rfl ?_
  refine g_iconst (q := 11) C dX6_linesBehind_10 rfl ?_
  refine g_iald (q := 12) (m := 47) C (by decide) (by decide) (by decide) (by decide) (by decide) dX6_linesBehind_11 rfl ?_
  refine g_imul (q := 13) C dX6_linesBehind_12 rfl ?_
  refine g_aload_n (q := 14) C dX6_linesBehind_13 rfl 0 rfl rfl ?_
  refine g_iload_n (q := 15) C dX6_linesBehind_14 rfl 2 rfl rfl ?_
  refine g_iload_n (q := 16) C dX6_linesBehind_15 rfl 3 rfl rfl ?_
  obtain ⟨p16, hM, H⟩ := H
  refine g_callV (q := 19) (As := [vi v2, vi v3]) (st := [vi ((M 106 2) * (M 106 1))]) (na := 2) C mX6_taken (by decide) (celr_6 (by decide)) rfl hM wm_16_17 wm_16_18 wm_16_19 wm_1_5 wm_16_20 (by decide +kernel) rfl rfl (by decide) rfl (Nat.le_of_ble_eq_true rfl) dX6_linesBehind_16 rfl (fun r16 M16 hp => ?_)
  have H := H r16 M16 hp
  show Gx x 5 19 [(0, vr (xg x) 105), (1, vi v1), (2, vi v2), (3, vi v3)] [vi r16, vi ((M 106 2) * (M 106 1))] M16
  refine g_isub (q := 20) C dX6_linesBehind_19 rfl ?_
  refine g_topi (fun w20 hw20 => ?_)
  have H := H w20 hw20
  refine g_istore (q := 22) (L2 := [(4, vi w20), (0, vr (xg x) 105), (1, vi v1), (2, vi v2), (3, vi v3)]) C dX6_linesBehind_20 rfl (by decide) rfl ?_
  refine g_iload_n (q := 23) C dX6_linesBehind_22 rfl 2 rfl rfl ?_
  refine g_iload (q := 25) C dX6_linesBehind_23 rfl 0 rfl ?_
  refine g_iadd (q := 26) C dX6_linesBehind_25 rfl ?_
  refine g_aload_n (q := 27) C dX6_linesBehind_26 rfl 1 rfl rfl ?_
  refine g_get (q := 30) C (by decide) (celr_6 (by decide)) (ci := 6) (i := 0) rfl inlX6 (by decide) wm_4_11 rfl dX6_linesBehind_27 rfl ?_
  refine g_iconst (q := 31) C dX6_linesBehind_30 rfl ?_
  refine g_iald (q := 32) (m := 47) C (by decide) (by decide) (by decide) (by decide) (by decide) dX6_linesBehind_31 rfl ?_
  obtain ⟨hr, Ht, Hf⟩ := H
  refine g_icmp_ge (q := 35) (t := 42) C dX6_linesBehind_32 rfl (by decide) hr (fun hc => ?_) (fun hc => ?_)
  · have H := Ht hc
    refine g_aload_n (q := 43) C dX6_linesBehind_42 rfl 1 rfl rfl ?_
    refine g_get (q := 46) C (by decide) (celr_6 (by decide)) (ci := 6) (i := 0) rfl inlX6 (by decide) wm_4_11 rfl dX6_linesBehind_43 rfl ?_
    refine g_iconst (q := 47) C dX6_linesBehind_46 rfl ?_
    refine g_iald (q := 48) (m := 47) C (by decide) (by decide) (by decide) (by decide) (by decide) dX6_linesBehind_47 rfl ?_
    exact g_iret C hR dX6_linesBehind_48 rfl H
  · have H := Hf hc
    refine g_iload_n (q := 36) C dX6_linesBehind_35 rfl 2 rfl rfl ?_
    refine g_iload (q := 38) C dX6_linesBehind_36 rfl 0 rfl ?_
    refine g_iadd (q := 39) C dX6_linesBehind_38 rfl ?_
    refine g_goto (t := 48) C dX6_linesBehind_39 (by decide) ?_
    exact g_iret C hR dX6_linesBehind_48 rfl H
set_option maxRecDepth 10000 in
set_option maxHeartbeats 2000000 in
theorem X6_taken_0 {x : Xx} {post : Int → Mm → Prop} (C : Cx x mX6_taken) (hR : Rt x mX6_taken post)  (v1 v2 : Int) (M : Mm) (H : Gx x 5 5 [(0, vr (xg x) 105), (1, vi v1), (2, vi v2), (3, vi 0), (4, vi 0)] [] M) : Gx x 5 0 [(0, vr (xg x) 105), (1, vi v1), (2, vi v2)] [] M := by
  refine g_iconst (q := 1) C dX6_taken_0 rfl ?_
  refine g_istore_n (q := 2) (L2 := [(3, vi 0), (0, vr (xg x) 105), (1, vi v1), (2, vi v2)]) C dX6_taken_1 rfl rfl (by decide) rfl ?_
  refine g_iconst (q := 3) C dX6_taken_2 rfl ?_
  refine g_istore (q := 5) (L2 := [(4, vi 0), (3, vi 0), (0, vr (xg x) 105), (1, vi v1), (2, vi v2)]) C dX6_taken_3 rfl (by decide) rfl ?_
  refine g_sub [2, 3, 4, 1, 0] rfl ?_
  exact H
set_option maxRecDepth 10000 in
set_option maxHeartbeats 2000000 in
theorem X6_taken_5 {x : Xx} {post : Int → Mm → Prop} (C : Cx x mX6_taken) (hR : Rt x mX6_taken post)  (v1 v2 v3 v4 : Int) (M : Mm) (H : (inR v4 ∧ inR v2) ∧ (v2 ≤ v4 → (post v3 M)) ∧ (¬ (v2 ≤ v4) → (∃ p17 : Int → Mm → Prop, Ct (xl x) (xg x) mX6_high [vr (xg x) 105, vi (v1 + v4)] M p17 ∧ ∀ (r17 : Int) (M17 : Mm), p17 r17 M17 → (∃ p25 : Int → Mm → Prop, Ct (xl x) (xg x) mX6_isWide [vr (xg x) 105, vi (v1 + v4)] M17 p25 ∧ ∀ (r25 : Int) (M25 : Mm), p25 r25 M25 → ((inR r25) ∧ (r25 = 0 → (∀ w43 : Int, w43 = (v3 + (r17 * 1)) → (Gx x 5 5 [(0, vr (xg x) 105), (1, vi v1), (2, vi v2), (3, vi w43), (4, vi (v4 + 1))] [] M25))) ∧ (¬ (r25 = 0) → (∀ w43 : Int, w43 = (v3 + (r17 * (M25 106 2))) → (Gx x 5 5 [(0, vr (xg x) 105), (1, vi v1), (2, vi v2), (3, vi w43), (4, vi (v4 + 1))] [] M25)))))))) : Gx x 5 5 [(0, vr (xg x) 105), (1, vi v1), (2, vi v2), (3, vi v3), (4, vi v4)] [] M := by
  refine g_iload (q := 7) C dX6_taken_5 rfl 4 rfl ?_
  refine g_iload_n (q := 8) C dX6_taken_7 rfl 2 rfl rfl ?_
  obtain ⟨hr, Ht, Hf⟩ := H
  refine g_icmp_ge (q := 11) (t := 50) C dX6_taken_8 rfl (by decide) hr (fun hc => ?_) (fun hc => ?_)
  · have H := Ht hc
    refine g_iload_n (q := 51) C dX6_taken_50 rfl 3 rfl rfl ?_
    exact g_iret C hR dX6_taken_51 rfl H
  · have H := Hf hc
    refine g_iload_n (q := 12) C dX6_taken_11 rfl 3 rfl rfl ?_
    refine g_aload_n (q := 13) C dX6_taken_12 rfl 0 rfl rfl ?_
    refine g_iload_n (q := 14) C dX6_taken_13 rfl 1 rfl rfl ?_
    refine g_iload (q := 16) C dX6_taken_14 rfl 4 rfl ?_
    refine g_iadd (q := 17) C dX6_taken_16 rfl ?_
    obtain ⟨p17, hM, H⟩ := H
    refine g_callV (q := 20) (As := [vi (v1 + v4)]) (st := [vi v3]) (na := 1) C mX6_high (by decide) (celr_6 (by decide)) rfl hM wm_16_9 wm_16_10 wm_16_11 wm_1_5 wm_16_12 (by decide +kernel) rfl rfl (by decide) rfl (Nat.le_of_ble_eq_true rfl) dX6_taken_17 rfl (fun r17 M17 hp => ?_)
    have H := H r17 M17 hp
    show Gx x 5 20 [(0, vr (xg x) 105), (1, vi v1), (2, vi v2), (3, vi v3), (4, vi v4)] [vi r17, vi v3] M17
    refine g_aload_n (q := 21) C dX6_taken_20 rfl 0 rfl rfl ?_
    refine g_iload_n (q := 22) C dX6_taken_21 rfl 1 rfl rfl ?_
    refine g_iload (q := 24) C dX6_taken_22 rfl 4 rfl ?_
    refine g_iadd (q := 25) C dX6_taken_24 rfl ?_
    obtain ⟨p25, hM, H⟩ := H
    refine g_callV (q := 28) (As := [vi (v1 + v4)]) (st := [vi r17, vi v3]) (na := 1) C mX6_isWide (by decide) (celr_6 (by decide)) rfl hM wm_16_5 wm_16_6 wm_16_7 wm_1_5 wm_16_8 (by decide +kernel) rfl rfl (by decide) rfl (Nat.le_of_ble_eq_true rfl) dX6_taken_25 rfl (fun r25 M25 hp => ?_)
    have H := H r25 M25 hp
    show Gx x 5 28 [(0, vr (xg x) 105), (1, vi v1), (2, vi v2), (3, vi v3), (4, vi v4)] [vi r25, vi r17, vi v3] M25
    obtain ⟨hr, Ht, Hf⟩ := H
    refine g_if_eq (q := 31) (t := 40) C dX6_taken_28 rfl (by decide) hr (fun hc => ?_) (fun hc => ?_)
    · have H := Ht hc
      refine g_iconst (q := 41) C dX6_taken_40 rfl ?_
      refine g_imul (q := 42) C dX6_taken_41 rfl ?_
      refine g_iadd (q := 43) C dX6_taken_42 rfl ?_
      refine g_topi (fun w43 hw43 => ?_)
      have H := H w43 hw43
      refine g_istore_n (q := 44) (L2 := [(3, vi w43), (0, vr (xg x) 105), (1, vi v1), (2, vi v2), (4, vi v4)]) C dX6_taken_43 rfl rfl (by decide) rfl ?_
      refine g_iinc (q := 47) (L2 := [(4, vi (v4 + 1)), (3, vi w43), (0, vr (xg x) 105), (1, vi v1), (2, vi v2)]) C dX6_taken_44 rfl 4 rfl (by decide) rfl ?_
      refine g_goto (t := 5) C dX6_taken_47 (by decide) ?_
      refine g_sub [2, 3, 4, 1, 0] rfl ?_
      exact H
    · have H := Hf hc
      refine g_aload_n (q := 32) C dX6_taken_31 rfl 0 rfl rfl ?_
      refine g_get (q := 35) C (by decide) (celr_6 (by decide)) (ci := 6) (i := 0) rfl inlX6 (by decide) wm_4_11 rfl dX6_taken_32 rfl ?_
      refine g_iconst (q := 36) C dX6_taken_35 rfl ?_
      refine g_iald (q := 37) (m := 47) C (by decide) (by decide) (by decide) (by decide) (by decide) dX6_taken_36 rfl ?_
      refine g_goto (t := 41) C dX6_taken_37 (by decide) ?_
      refine g_imul (q := 42) C dX6_taken_41 rfl ?_
      refine g_iadd (q := 43) C dX6_taken_42 rfl ?_
      refine g_topi (fun w43 hw43 => ?_)
      have H := H w43 hw43
      refine g_istore_n (q := 44) (L2 := [(3, vi w43), (0, vr (xg x) 105), (1, vi v1), (2, vi v2), (4, vi v4)]) C dX6_taken_43 rfl rfl (by decide) rfl ?_
      refine g_iinc (q := 47) (L2 := [(4, vi (v4 + 1)), (3, vi w43), (0, vr (xg x) 105), (1, vi v1), (2, vi v2)]) C dX6_taken_44 rfl 4 rfl (by decide) rfl ?_
      refine g_goto (t := 5) C dX6_taken_47 (by decide) ?_
      refine g_sub [2, 3, 4, 1, 0] rfl ?_
      exact H
set_option maxRecDepth 10000 in
set_option maxHeartbeats 2000000 in
theorem X6_areMentioned_0 {x : Xx} {post : Int → Mm → Prop} (C : Cx x mX6_areMentioned) (hR : Rt x mX6_areMentioned post)  (v1 v2 v3 : Int) (M : Mm) (H : Gx x 6 6 [(0, vr (xg x) 105), (1, vi v1), (2, vi v2), (3, vi v3), (4, vi 1), (5, vi 0)] [] M) : Gx x 6 0 [(0, vr (xg x) 105), (1, vi v1), (2, vi v2), (3, vi v3)] [] M := by
  refine g_iconst (q := 1) C dX6_areMentioned_0 rfl ?_
  refine g_istore (q := 3) (L2 := [(4, vi 1), (0, vr (xg x) 105), (1, vi v1), (2, vi v2), (3, vi v3)]) C dX6_areMentioned_1 rfl (by decide) rfl ?_
  refine g_iconst (q := 4) C dX6_areMentioned_3 rfl ?_
  refine g_istore (q := 6) (L2 := [(5, vi 0), (4, vi 1), (0, vr (xg x) 105), (1, vi v1), (2, vi v2), (3, vi v3)]) C dX6_areMentioned_4 rfl (by decide) rfl ?_
  refine g_sub [2, 3, 4, 5, 1, 0] rfl ?_
  exact H
set_option maxRecDepth 10000 in
set_option maxHeartbeats 2000000 in
theorem X6_areMentioned_6 {x : Xx} {post : Int → Mm → Prop} (C : Cx x mX6_areMentioned) (hR : Rt x mX6_areMentioned post)  (v1 v2 v3 v4 v5 : Int) (M : Mm) (H : (inR v5 ∧ inR v2) ∧ (v2 ≤ v5 → ((v4 = 0 ∨ v4 = 1) ∧ post v4 M)) ∧ (¬ (v2 ≤ v5) → ((inR v4) ∧ (v4 = 0 → (Gx x 6 6 [(0, vr (xg x) 105), (1, vi v1), (2, vi v2), (3, vi v3), (4, vi 0), (5, vi (v5 + 1))] [] M)) ∧ (¬ (v4 = 0) → (∃ p22 : Int → Mm → Prop, Ct (xl x) (xg x) mX6_mentionLine [vr (xg x) 105, vi (v1 + v5)] M p22 ∧ ∀ (r22 : Int) (M22 : Mm), p22 r22 M22 → ((inR r22 ∧ inR v3) ∧ (v3 ≤ r22 → (Gx x 6 6 [(0, vr (xg x) 105), (1, vi v1), (2, vi v2), (3, vi v3), (4, vi 0), (5, vi (v5 + 1))] [] M22)) ∧ (¬ (v3 ≤ r22) → (Gx x 6 6 [(0, vr (xg x) 105), (1, vi v1), (2, vi v2), (3, vi v3), (4, vi 1), (5, vi (v5 + 1))] [] M22)))))))) : Gx x 6 6 [(0, vr (xg x) 105), (1, vi v1), (2, vi v2), (3, vi v3), (4, vi v4), (5, vi v5)] [] M := by
  refine g_iload (q := 8) C dX6_areMentioned_6 rfl 5 rfl ?_
  refine g_iload_n (q := 9) C dX6_areMentioned_8 rfl 2 rfl rfl ?_
  obtain ⟨hr, Ht, Hf⟩ := H
  refine g_icmp_ge (q := 12) (t := 42) C dX6_areMentioned_9 rfl (by decide) hr (fun hc => ?_) (fun hc => ?_)
  · have H := Ht hc
    refine g_iload (q := 44) C dX6_areMentioned_42 rfl 4 rfl ?_
    exact g_zret C hR dX6_areMentioned_44 rfl H.1 H.2
  · have H := Hf hc
    refine g_iload (q := 14) C dX6_areMentioned_12 rfl 4 rfl ?_
    obtain ⟨hr, Ht, Hf⟩ := H
    refine g_if_eq (q := 17) (t := 33) C dX6_areMentioned_14 rfl (by decide) hr (fun hc => ?_) (fun hc => ?_)
    · have H := Ht hc
      refine g_iconst (q := 34) C dX6_areMentioned_33 rfl ?_
      refine g_istore (q := 36) (L2 := [(4, vi 0), (0, vr (xg x) 105), (1, vi v1), (2, vi v2), (3, vi v3), (5, vi v5)]) C dX6_areMentioned_34 rfl (by decide) rfl ?_
      refine g_iinc (q := 39) (L2 := [(5, vi (v5 + 1)), (4, vi 0), (0, vr (xg x) 105), (1, vi v1), (2, vi v2), (3, vi v3)]) C dX6_areMentioned_36 rfl 5 rfl (by decide) rfl ?_
      refine g_goto (t := 6) C dX6_areMentioned_39 (by decide) ?_
      refine g_sub [2, 3, 4, 5, 1, 0] rfl ?_
      exact H
    · have H := Hf hc
      refine g_aload_n (q := 18) C dX6_areMentioned_17 rfl 0 rfl rfl ?_
      refine g_iload_n (q := 19) C dX6_areMentioned_18 rfl 1 rfl rfl ?_
      refine g_iload (q := 21) C dX6_areMentioned_19 rfl 5 rfl ?_
      refine g_iadd (q := 22) C dX6_areMentioned_21 rfl ?_
      obtain ⟨p22, hM, H⟩ := H
      refine g_callV (q := 25) (As := [vi (v1 + v5)]) (st := []) (na := 1) C mX6_mentionLine (by decide) (celr_6 (by decide)) rfl hM wm_17_1 wm_17_2 wm_17_3 wm_1_5 wm_17_4 (by decide +kernel) rfl rfl (by decide) rfl (Nat.le_of_ble_eq_true rfl) dX6_areMentioned_22 rfl (fun r22 M22 hp => ?_)
      have H := H r22 M22 hp
      show Gx x 6 25 [(0, vr (xg x) 105), (1, vi v1), (2, vi v2), (3, vi v3), (4, vi v4), (5, vi v5)] [vi r22] M22
      refine g_iload_n (q := 26) C dX6_areMentioned_25 rfl 3 rfl rfl ?_
      obtain ⟨hr, Ht, Hf⟩ := H
      refine g_icmp_ge (q := 29) (t := 33) C dX6_areMentioned_26 rfl (by decide) hr (fun hc => ?_) (fun hc => ?_)
      · have H := Ht hc
        refine g_iconst (q := 34) C dX6_areMentioned_33 rfl ?_
        refine g_istore (q := 36) (L2 := [(4, vi 0), (0, vr (xg x) 105), (1, vi v1), (2, vi v2), (3, vi v3), (5, vi v5)]) C dX6_areMentioned_34 rfl (by decide) rfl ?_
        refine g_iinc (q := 39) (L2 := [(5, vi (v5 + 1)), (4, vi 0), (0, vr (xg x) 105), (1, vi v1), (2, vi v2), (3, vi v3)]) C dX6_areMentioned_36 rfl 5 rfl (by decide) rfl ?_
        refine g_goto (t := 6) C dX6_areMentioned_39 (by decide) ?_
        refine g_sub [2, 3, 4, 5, 1, 0] rfl ?_
        exact H
      · have H := Hf hc
        refine g_iconst (q := 30) C dX6_areMentioned_29 rfl ?_
        refine g_goto (t := 34) C dX6_areMentioned_30 (by decide) ?_
        refine g_istore (q := 36) (L2 := [(4, vi 1), (0, vr (xg x) 105), (1, vi v1), (2, vi v2), (3, vi v3), (5, vi v5)]) C dX6_areMentioned_34 rfl (by decide) rfl ?_
        refine g_iinc (q := 39) (L2 := [(5, vi (v5 + 1)), (4, vi 1), (0, vr (xg x) 105), (1, vi v1), (2, vi v2), (3, vi v3)]) C dX6_areMentioned_36 rfl 5 rfl (by decide) rfl ?_
        refine g_goto (t := 6) C dX6_areMentioned_39 (by decide) ?_
        refine g_sub [2, 3, 4, 5, 1, 0] rfl ?_
        exact H
set_option maxRecDepth 10000 in
set_option maxHeartbeats 2000000 in
theorem X6_mentionLine_0 {x : Xx} {post : Int → Mm → Prop} (C : Cx x mX6_mentionLine) (hR : Rt x mX6_mentionLine post)  (v1 : Int) (M : Mm) (H : (0 ≤ (7 + (4 * v1)) + 2 ∧ (7 + (4 * v1)) + 2 < 47) ∧ (∀ w13 : Int, w13 = (M 106 ((7 + (4 * v1)) + 2)) → ((inR w13 ∧ inR (M 106 0)) ∧ (M 106 0 ≤ w13 → (post ((M 106 0) - 1) M)) ∧ (¬ (M 106 0 ≤ w13) → (post w13 M))))) : Gx x 3 0 [(0, vr (xg x) 105), (1, vi v1)] [] M := by
  refine g_aload_n (q := 1) C dX6_mentionLine_0 rfl 0 rfl rfl ?_
  refine g_get (q := 4) C (by decide) (celr_6 (by decide)) (ci := 6) (i := 0) rfl inlX6 (by decide) wm_4_11 rfl dX6_mentionLine_1 rfl ?_
  refine g_bipush (q := 6) C dX6_mentionLine_4 rfl (by decide) ?_
  refine g_iconst (q := 7) C dX6_mentionLine_6 rfl ?_
  refine g_iload_n (q := 8) C dX6_mentionLine_7 rfl 1 rfl rfl ?_
  refine g_imul (q := 9) C dX6_mentionLine_8 rfl ?_
  refine g_iadd (q := 10) C dX6_mentionLine_9 rfl ?_
  refine g_iconst (q := 11) C dX6_mentionLine_10 rfl ?_
  refine g_iadd (q := 12) C dX6_mentionLine_11 rfl ?_
  obtain ⟨hc, H⟩ := H
  refine g_iald (q := 13) (m := 47) C (by decide) (by decide) (by decide) hc (by decide) dX6_mentionLine_12 rfl ?_
  refine g_topi (fun w13 hw13 => ?_)
  have H := H w13 hw13
  refine g_istore_n (q := 14) (L2 := [(2, vi w13), (0, vr (xg x) 105), (1, vi v1)]) C dX6_mentionLine_13 rfl rfl (by decide) rfl ?_
  refine g_iload_n (q := 15) C dX6_mentionLine_14 rfl 0 rfl rfl ?_
  refine g_aload_n (q := 16) C dX6_mentionLine_15 rfl 1 rfl rfl ?_
  refine g_get (q := 19) C (by decide) (celr_6 (by decide)) (ci := 6) (i := 0) rfl inlX6 (by decide) wm_4_11 rfl dX6_mentionLine_16 rfl ?_
  refine g_iconst (q := 20) C dX6_mentionLine_19 rfl ?_
  refine g_iald (q := 21) (m := 47) C (by decide) (by decide) (by decide) (by decide) (by decide) dX6_mentionLine_20 rfl ?_
  obtain ⟨hr, Ht, Hf⟩ := H
  refine g_icmp_ge (q := 24) (t := 28) C dX6_mentionLine_21 rfl (by decide) hr (fun hc => ?_) (fun hc => ?_)
  · have H := Ht hc
    refine g_aload_n (q := 29) C dX6_mentionLine_28 rfl 1 rfl rfl ?_
    refine g_get (q := 32) C (by decide) (celr_6 (by decide)) (ci := 6) (i := 0) rfl inlX6 (by decide) wm_4_11 rfl dX6_mentionLine_29 rfl ?_
    refine g_iconst (q := 33) C dX6_mentionLine_32 rfl ?_
    refine g_iald (q := 34) (m := 47) C (by decide) (by decide) (by decide) (by decide) (by decide) dX6_mentionLine_33 rfl ?_
    refine g_iconst (q := 35) C dX6_mentionLine_34 rfl ?_
    refine g_isub (q := 36) C dX6_mentionLine_35 rfl ?_
    exact g_iret C hR dX6_mentionLine_36 rfl H
  · have H := Hf hc
    refine g_iload_n (q := 25) C dX6_mentionLine_24 rfl 0 rfl rfl ?_
    refine g_goto (t := 36) C dX6_mentionLine_25 (by decide) ?_
    exact g_iret C hR dX6_mentionLine_36 rfl H
set_option maxRecDepth 10000 in
set_option maxHeartbeats 2000000 in
theorem X6_paid_0 {x : Xx} {post : Int → Mm → Prop} (C : Cx x mX6_paid) (hR : Rt x mX6_paid post)  (v1 v2 : Int) (M : Mm) (H : ∃ p5 : Int → Mm → Prop, Ct (xl x) (xg x) mX6_between [vr (xg x) 105, vi v1, vi v2, vi 0] M p5 ∧ ∀ (r5 : Int) (M5 : Mm), p5 r5 M5 → (∃ p8 : Int → Mm → Prop, Ct (xl x) (xg x) mX6_weightOf [vr (xg x) 105, vi r5] M5 p8 ∧ ∀ (r8 : Int) (M8 : Mm), p8 r8 M8 → (∃ p16 : Int → Mm → Prop, Ct (xl x) (xg x) mX6_between [vr (xg x) 105, vi v1, vi v2, vi 1] M8 p16 ∧ ∀ (r16 : Int) (M16 : Mm), p16 r16 M16 → (∃ p19 : Int → Mm → Prop, Ct (xl x) (xg x) mX6_weightOf [vr (xg x) 105, vi r16] M16 p19 ∧ ∀ (r19 : Int) (M19 : Mm), p19 r19 M19 → (post (r8 + r19) M19))))) : Gx x 3 0 [(0, vr (xg x) 105), (1, vi v1), (2, vi v2)] [] M := by
  refine g_aload_n (q := 1) C dX6_paid_0 rfl 0 rfl rfl ?_
  refine g_aload_n (q := 2) C dX6_paid_1 rfl 0 rfl rfl ?_
  refine g_iload_n (q := 3) C dX6_paid_2 rfl 1 rfl rfl ?_
  refine g_iload_n (q := 4) C dX6_paid_3 rfl 2 rfl rfl ?_
  refine g_iconst (q := 5) C dX6_paid_4 rfl ?_
  obtain ⟨p5, hM, H⟩ := H
  refine g_callV (q := 8) (As := [vi v1, vi v2, vi 0]) (st := [vr (xg x) 105]) (na := 3) C mX6_between (by decide) (celr_6 (by decide)) rfl hM wm_17_9 wm_17_10 wm_17_11 wm_1_5 wm_17_12 (by decide +kernel) rfl rfl (by decide) rfl (Nat.le_of_ble_eq_true rfl) dX6_paid_5 rfl (fun r5 M5 hp => ?_)
  have H := H r5 M5 hp
  show Gx x 3 8 [(0, vr (xg x) 105), (1, vi v1), (2, vi v2)] [vi r5, vr (xg x) 105] M5
  obtain ⟨p8, hM, H⟩ := H
  refine g_callV (q := 11) (As := [vi r5]) (st := []) (na := 1) C mX6_weightOf (by decide) (celr_6 (by decide)) rfl hM wm_17_17 wm_17_18 wm_17_19 wm_1_5 wm_17_20 (by decide +kernel) rfl rfl (by decide) rfl (Nat.le_of_ble_eq_true rfl) dX6_paid_8 rfl (fun r8 M8 hp => ?_)
  have H := H r8 M8 hp
  show Gx x 3 11 [(0, vr (xg x) 105), (1, vi v1), (2, vi v2)] [vi r8] M8
  refine g_aload_n (q := 12) C dX6_paid_11 rfl 0 rfl rfl ?_
  refine g_aload_n (q := 13) C dX6_paid_12 rfl 0 rfl rfl ?_
  refine g_iload_n (q := 14) C dX6_paid_13 rfl 1 rfl rfl ?_
  refine g_iload_n (q := 15) C dX6_paid_14 rfl 2 rfl rfl ?_
  refine g_iconst (q := 16) C dX6_paid_15 rfl ?_
  obtain ⟨p16, hM, H⟩ := H
  refine g_callV (q := 19) (As := [vi v1, vi v2, vi 1]) (st := [vr (xg x) 105, vi r8]) (na := 3) C mX6_between (by decide) (celr_6 (by decide)) rfl hM wm_17_9 wm_17_10 wm_17_11 wm_1_5 wm_17_12 (by decide +kernel) rfl rfl (by decide) rfl (Nat.le_of_ble_eq_true rfl) dX6_paid_16 rfl (fun r16 M16 hp => ?_)
  have H := H r16 M16 hp
  show Gx x 3 19 [(0, vr (xg x) 105), (1, vi v1), (2, vi v2)] [vi r16, vr (xg x) 105, vi r8] M16
  obtain ⟨p19, hM, H⟩ := H
  refine g_callV (q := 22) (As := [vi r16]) (st := [vi r8]) (na := 1) C mX6_weightOf (by decide) (celr_6 (by decide)) rfl hM wm_17_17 wm_17_18 wm_17_19 wm_1_5 wm_17_20 (by decide +kernel) rfl rfl (by decide) rfl (Nat.le_of_ble_eq_true rfl) dX6_paid_19 rfl (fun r19 M19 hp => ?_)
  have H := H r19 M19 hp
  show Gx x 3 22 [(0, vr (xg x) 105), (1, vi v1), (2, vi v2)] [vi r19, vi r8] M19
  refine g_iadd (q := 23) C dX6_paid_22 rfl ?_
  exact g_iret C hR dX6_paid_23 rfl H
set_option maxRecDepth 10000 in
set_option maxHeartbeats 2000000 in
theorem X6_between_0 {x : Xx} {post : Int → Mm → Prop} (C : Cx x mX6_between) (hR : Rt x mX6_between post)  (v1 v2 v3 : Int) (M : Mm) (H : Gx x 7 6 [(0, vr (xg x) 105), (1, vi v1), (2, vi v2), (3, vi v3), (4, vi 0), (5, vi 0)] [] M) : Gx x 7 0 [(0, vr (xg x) 105), (1, vi v1), (2, vi v2), (3, vi v3)] [] M := by
  refine g_iconst (q := 1) C dX6_between_0 rfl ?_
  refine g_istore (q := 3) (L2 := [(4, vi 0), (0, vr (xg x) 105), (1, vi v1), (2, vi v2), (3, vi v3)]) C dX6_between_1 rfl (by decide) rfl ?_
  refine g_iconst (q := 4) C dX6_between_3 rfl ?_
  refine g_istore (q := 6) (L2 := [(5, vi 0), (4, vi 0), (0, vr (xg x) 105), (1, vi v1), (2, vi v2), (3, vi v3)]) C dX6_between_4 rfl (by decide) rfl ?_
  refine g_sub [2, 3, 4, 5, 1, 0] rfl ?_
  exact H
set_option maxRecDepth 10000 in
set_option maxHeartbeats 2000000 in
theorem X6_between_6 {x : Xx} {post : Int → Mm → Prop} (C : Cx x mX6_between) (hR : Rt x mX6_between post)  (v1 v2 v3 v4 v5 : Int) (M : Mm) (H : (inR v5 ∧ inR (M 106 6)) ∧ (M 106 6 ≤ v5 → (post v4 M)) ∧ (¬ (M 106 6 ≤ v5) → ((inR v3) ∧ (v3 = 0 → ((inR v5 ∧ inR v2) ∧ (v5 < v2 → (Gx x 7 67 [(0, vr (xg x) 105), (1, vi v1), (2, vi v2), (3, vi v3), (4, vi v4), (5, vi v5)] [vi 0] M)) ∧ (¬ (v5 < v2) → (∃ p56 : Int → Mm → Prop, Ct (xl x) (xg x) mX6_isMentioned [vr (xg x) 105, vi v5, vi v1] M p56 ∧ ∀ (r56 : Int) (M56 : Mm), p56 r56 M56 → ((inR r56) ∧ (r56 = 0 → (Gx x 7 67 [(0, vr (xg x) 105), (1, vi v1), (2, vi v2), (3, vi v3), (4, vi v4), (5, vi v5)] [vi 0] M56)) ∧ (¬ (r56 = 0) → (Gx x 7 67 [(0, vr (xg x) 105), (1, vi v1), (2, vi v2), (3, vi v3), (4, vi v4), (5, vi v5)] [vi 1] M56))))))) ∧ (¬ (v3 = 0) → ((inR v5 ∧ inR v2) ∧ (v2 ≤ v5 → (Gx x 7 67 [(0, vr (xg x) 105), (1, vi v1), (2, vi v2), (3, vi v3), (4, vi v4), (5, vi v5)] [vi 0] M)) ∧ (¬ (v2 ≤ v5) → (∃ p32 : Int → Mm → Prop, Ct (xl x) (xg x) mX6_isMentioned [vr (xg x) 105, vi v5, vi v1] M p32 ∧ ∀ (r32 : Int) (M32 : Mm), p32 r32 M32 → ((inR r32) ∧ (¬ (r32 = 0) → (Gx x 7 67 [(0, vr (xg x) 105), (1, vi v1), (2, vi v2), (3, vi v3), (4, vi v4), (5, vi v5)] [vi 0] M32)) ∧ (r32 = 0 → (Gx x 7 67 [(0, vr (xg x) 105), (1, vi v1), (2, vi v2), (3, vi v3), (4, vi v4), (5, vi v5)] [vi 1] M32)))))))))) : Gx x 7 6 [(0, vr (xg x) 105), (1, vi v1), (2, vi v2), (3, vi v3), (4, vi v4), (5, vi v5)] [] M := by
  refine g_iload (q := 8) C dX6_between_6 rfl 5 rfl ?_
  refine g_aload_n (q := 9) C dX6_between_8 rfl 0 rfl rfl ?_
  refine g_get (q := 12) C (by decide) (celr_6 (by decide)) (ci := 6) (i := 0) rfl inlX6 (by decide) wm_4_11 rfl dX6_between_9 rfl ?_
  refine g_bipush (q := 14) C dX6_between_12 rfl (by decide) ?_
  refine g_iald (q := 15) (m := 47) C (by decide) (by decide) (by decide) (by decide) (by decide) dX6_between_14 rfl ?_
  obtain ⟨hr, Ht, Hf⟩ := H
  refine g_icmp_ge (q := 18) (t := 93) C dX6_between_15 rfl (by decide) hr (fun hc => ?_) (fun hc => ?_)
  · have H := Ht hc
    refine g_iload (q := 95) C dX6_between_93 rfl 4 rfl ?_
    exact g_iret C hR dX6_between_95 rfl H
  · have H := Hf hc
    refine g_iload_n (q := 19) C dX6_between_18 rfl 3 rfl rfl ?_
    obtain ⟨hr, Ht, Hf⟩ := H
    refine g_if_eq (q := 22) (t := 46) C dX6_between_19 rfl (by decide) hr (fun hc => ?_) (fun hc => ?_)
    · have H := Ht hc
      refine g_iload (q := 48) C dX6_between_46 rfl 5 rfl ?_
      refine g_iload_n (q := 49) C dX6_between_48 rfl 2 rfl rfl ?_
      obtain ⟨hr, Ht, Hf⟩ := H
      refine g_icmp_lt (q := 52) (t := 66) C dX6_between_49 rfl (by decide) hr (fun hc => ?_) (fun hc => ?_)
      · have H := Ht hc
        refine g_iconst (q := 67) C dX6_between_66 rfl ?_
        refine g_sub [0, 1, 2, 3, 4, 5] rfl ?_
        exact H
      · have H := Hf hc
        refine g_aload_n (q := 53) C dX6_between_52 rfl 0 rfl rfl ?_
        refine g_iload (q := 55) C dX6_between_53 rfl 5 rfl ?_
        refine g_iload_n (q := 56) C dX6_between_55 rfl 1 rfl rfl ?_
        obtain ⟨p56, hM, H⟩ := H
        refine g_callV (q := 59) (As := [vi v5, vi v1]) (st := []) (na := 2) C mX6_isMentioned (by decide) (celr_6 (by decide)) rfl hM wm_17_13 wm_17_14 wm_17_15 wm_1_5 wm_17_16 (by decide +kernel) rfl rfl (by decide) rfl (Nat.le_of_ble_eq_true rfl) dX6_between_56 rfl (fun r56 M56 hp => ?_)
        have H := H r56 M56 hp
        show Gx x 7 59 [(0, vr (xg x) 105), (1, vi v1), (2, vi v2), (3, vi v3), (4, vi v4), (5, vi v5)] [vi r56] M56
        obtain ⟨hr, Ht, Hf⟩ := H
        refine g_if_eq (q := 62) (t := 66) C dX6_between_59 rfl (by decide) hr (fun hc => ?_) (fun hc => ?_)
        · have H := Ht hc
          refine g_iconst (q := 67) C dX6_between_66 rfl ?_
          refine g_sub [0, 1, 2, 3, 4, 5] rfl ?_
          exact H
        · have H := Hf hc
          refine g_iconst (q := 63) C dX6_between_62 rfl ?_
          refine g_goto (t := 67) C dX6_between_63 (by decide) ?_
          refine g_sub [0, 1, 2, 3, 4, 5] rfl ?_
          exact H
    · have H := Hf hc
      refine g_iload (q := 24) C dX6_between_22 rfl 5 rfl ?_
      refine g_iload_n (q := 25) C dX6_between_24 rfl 2 rfl rfl ?_
      obtain ⟨hr, Ht, Hf⟩ := H
      refine g_icmp_ge (q := 28) (t := 42) C dX6_between_25 rfl (by decide) hr (fun hc => ?_) (fun hc => ?_)
      · have H := Ht hc
        refine g_iconst (q := 43) C dX6_between_42 rfl ?_
        refine g_goto (t := 67) C dX6_between_43 (by decide) ?_
        refine g_sub [0, 1, 2, 3, 4, 5] rfl ?_
        exact H
      · have H := Hf hc
        refine g_aload_n (q := 29) C dX6_between_28 rfl 0 rfl rfl ?_
        refine g_iload (q := 31) C dX6_between_29 rfl 5 rfl ?_
        refine g_iload_n (q := 32) C dX6_between_31 rfl 1 rfl rfl ?_
        obtain ⟨p32, hM, H⟩ := H
        refine g_callV (q := 35) (As := [vi v5, vi v1]) (st := []) (na := 2) C mX6_isMentioned (by decide) (celr_6 (by decide)) rfl hM wm_17_13 wm_17_14 wm_17_15 wm_1_5 wm_17_16 (by decide +kernel) rfl rfl (by decide) rfl (Nat.le_of_ble_eq_true rfl) dX6_between_32 rfl (fun r32 M32 hp => ?_)
        have H := H r32 M32 hp
        show Gx x 7 35 [(0, vr (xg x) 105), (1, vi v1), (2, vi v2), (3, vi v3), (4, vi v4), (5, vi v5)] [vi r32] M32
        obtain ⟨hr, Ht, Hf⟩ := H
        refine g_if_ne (q := 38) (t := 42) C dX6_between_35 rfl (by decide) hr (fun hc => ?_) (fun hc => ?_)
        · have H := Ht hc
          refine g_iconst (q := 43) C dX6_between_42 rfl ?_
          refine g_goto (t := 67) C dX6_between_43 (by decide) ?_
          refine g_sub [0, 1, 2, 3, 4, 5] rfl ?_
          exact H
        · have H := Hf hc
          refine g_iconst (q := 39) C dX6_between_38 rfl ?_
          refine g_goto (t := 67) C dX6_between_39 (by decide) ?_
          refine g_sub [0, 1, 2, 3, 4, 5] rfl ?_
          exact H
set_option maxRecDepth 10000 in
set_option maxHeartbeats 2000000 in
theorem X6_between_67 {x : Xx} {post : Int → Mm → Prop} (C : Cx x mX6_between) (hR : Rt x mX6_between post)  (v1 v2 v3 v4 v5 s0 : Int) (M : Mm) (H : (inR s0) ∧ (s0 = 0 → ((0 ≤ v4 ∧ (0 : Int) ≤ 0) ∧ (∀ w85 : Int, w85 = ((v4.toNat ||| (0 : Int).toNat : Nat) : Int) → (Gx x 7 6 [(0, vr (xg x) 105), (1, vi v1), (2, vi v2), (3, vi v3), (4, vi w85), (5, vi (v5 + 1))] [] M)))) ∧ (¬ (s0 = 0) → ((0 ≤ v5 ∧ v5 < 31) ∧ ((0 ≤ v4 ∧ (0 : Int) ≤ (2 : Int) ^ v5.toNat) ∧ (∀ w85 : Int, w85 = ((v4.toNat ||| ((2 : Int) ^ v5.toNat).toNat : Nat) : Int) → (Gx x 7 6 [(0, vr (xg x) 105), (1, vi v1), (2, vi v2), (3, vi v3), (4, vi w85), (5, vi (v5 + 1))] [] M)))))) : Gx x 7 67 [(0, vr (xg x) 105), (1, vi v1), (2, vi v2), (3, vi v3), (4, vi v4), (5, vi v5)] [vi s0] M := by
  refine g_istore (q := 69) (L2 := [(6, vi s0), (0, vr (xg x) 105), (1, vi v1), (2, vi v2), (3, vi v3), (4, vi v4), (5, vi v5)]) C dX6_between_67 rfl (by decide) rfl ?_
  refine g_iload (q := 71) C dX6_between_69 rfl 5 rfl ?_
  refine g_iload (q := 73) C dX6_between_71 rfl 0 rfl ?_
  obtain ⟨hr, Ht, Hf⟩ := H
  refine g_if_eq (q := 76) (t := 83) C dX6_between_73 rfl (by decide) hr (fun hc => ?_) (fun hc => ?_)
  · have H := Ht hc
    refine g_iconst (q := 84) C dX6_between_83 rfl ?_
    obtain ⟨hc, H⟩ := H
    refine g_ior (q := 85) C dX6_between_84 rfl hc ?_
    refine g_topi (fun w85 hw85 => ?_)
    have H := H w85 hw85
    refine g_istore (q := 87) (L2 := [(4, vi w85), (6, vi s0), (0, vr (xg x) 105), (1, vi v1), (2, vi v2), (3, vi v3), (5, vi v5)]) C dX6_between_85 rfl (by decide) rfl ?_
    refine g_iinc (q := 90) (L2 := [(5, vi (v5 + 1)), (4, vi w85), (6, vi s0), (0, vr (xg x) 105), (1, vi v1), (2, vi v2), (3, vi v3)]) C dX6_between_87 rfl 6 rfl (by decide) rfl ?_
    refine g_goto (t := 6) C dX6_between_90 (by decide) ?_
    refine g_sub [3, 4, 5, 6, 1, 0] rfl ?_
    exact H
  · have H := Hf hc
    refine g_iconst (q := 77) C dX6_between_76 rfl ?_
    refine g_iload (q := 79) C dX6_between_77 rfl 6 rfl ?_
    obtain ⟨hc, H⟩ := H
    refine g_ishl (q := 80) C dX6_between_79 rfl hc ?_
    refine g_goto (t := 84) C dX6_between_80 (by decide) ?_
    obtain ⟨hc, H⟩ := H
    refine g_ior (q := 85) C dX6_between_84 rfl hc ?_
    refine g_topi (fun w85 hw85 => ?_)
    have H := H w85 hw85
    refine g_istore (q := 87) (L2 := [(4, vi w85), (6, vi s0), (0, vr (xg x) 105), (1, vi v1), (2, vi v2), (3, vi v3), (5, vi v5)]) C dX6_between_85 rfl (by decide) rfl ?_
    refine g_iinc (q := 90) (L2 := [(5, vi (v5 + 1)), (4, vi w85), (6, vi s0), (0, vr (xg x) 105), (1, vi v1), (2, vi v2), (3, vi v3)]) C dX6_between_87 rfl 6 rfl (by decide) rfl ?_
    refine g_goto (t := 6) C dX6_between_90 (by decide) ?_
    refine g_sub [3, 4, 5, 6, 1, 0] rfl ?_
    exact H
set_option maxRecDepth 10000 in
set_option maxHeartbeats 2000000 in
theorem X6_isMentioned_0 {x : Xx} {post : Int → Mm → Prop} (C : Cx x mX6_isMentioned) (hR : Rt x mX6_isMentioned post)  (v1 v2 : Int) (M : Mm) (H : ∃ p2 : Int → Mm → Prop, Ct (xl x) (xg x) mX6_mentionLine [vr (xg x) 105, vi v1] M p2 ∧ ∀ (r2 : Int) (M2 : Mm), p2 r2 M2 → ((inR r2 ∧ inR v2) ∧ (r2 < v2 → (post 1 M2)) ∧ (¬ (r2 < v2) → ((inR (M2 106 0)) ∧ (¬ (M2 106 0 = 0) → (post 0 M2)) ∧ (M2 106 0 = 0 → (post 1 M2)))))) : Gx x 3 0 [(0, vr (xg x) 105), (1, vi v1), (2, vi v2)] [] M := by
  refine g_aload_n (q := 1) C dX6_isMentioned_0 rfl 0 rfl rfl ?_
  refine g_iload_n (q := 2) C dX6_isMentioned_1 rfl 1 rfl rfl ?_
  obtain ⟨p2, hM, H⟩ := H
  refine g_callV (q := 5) (As := [vi v1]) (st := []) (na := 1) C mX6_mentionLine (by decide) (celr_6 (by decide)) rfl hM wm_17_1 wm_17_2 wm_17_3 wm_1_5 wm_17_4 (by decide +kernel) rfl rfl (by decide) rfl (Nat.le_of_ble_eq_true rfl) dX6_isMentioned_2 rfl (fun r2 M2 hp => ?_)
  have H := H r2 M2 hp
  show Gx x 3 5 [(0, vr (xg x) 105), (1, vi v1), (2, vi v2)] [vi r2] M2
  refine g_iload_n (q := 6) C dX6_isMentioned_5 rfl 2 rfl rfl ?_
  obtain ⟨hr, Ht, Hf⟩ := H
  refine g_icmp_lt (q := 9) (t := 18) C dX6_isMentioned_6 rfl (by decide) hr (fun hc => ?_) (fun hc => ?_)
  · have H := Ht hc
    refine g_iconst (q := 19) C dX6_isMentioned_18 rfl ?_
    refine g_goto (t := 23) C dX6_isMentioned_19 (by decide) ?_
    exact g_zret C hR dX6_isMentioned_23 rfl (by decide) H
  · have H := Hf hc
    refine g_aload_n (q := 10) C dX6_isMentioned_9 rfl 0 rfl rfl ?_
    refine g_get (q := 13) C (by decide) (celr_6 (by decide)) (ci := 6) (i := 0) rfl inlX6 (by decide) wm_4_11 rfl dX6_isMentioned_10 rfl ?_
    refine g_iconst (q := 14) C dX6_isMentioned_13 rfl ?_
    refine g_iald (q := 15) (m := 47) C (by decide) (by decide) (by decide) (by decide) (by decide) dX6_isMentioned_14 rfl ?_
    obtain ⟨hr, Ht, Hf⟩ := H
    refine g_if_ne (q := 18) (t := 22) C dX6_isMentioned_15 rfl (by decide) hr (fun hc => ?_) (fun hc => ?_)
    · have H := Ht hc
      refine g_iconst (q := 23) C dX6_isMentioned_22 rfl ?_
      exact g_zret C hR dX6_isMentioned_23 rfl (by decide) H
    · have H := Hf hc
      refine g_iconst (q := 19) C dX6_isMentioned_18 rfl ?_
      refine g_goto (t := 23) C dX6_isMentioned_19 (by decide) ?_
      exact g_zret C hR dX6_isMentioned_23 rfl (by decide) H
set_option maxRecDepth 10000 in
set_option maxHeartbeats 2000000 in
theorem X6_weightOf_0 {x : Xx} {post : Int → Mm → Prop} (C : Cx x mX6_weightOf) (hR : Rt x mX6_weightOf post)  (v1 : Int) (M : Mm) (H : Gx x 4 4 [(0, vr (xg x) 105), (1, vi v1), (2, vi 0), (3, vi 0)] [] M) : Gx x 4 0 [(0, vr (xg x) 105), (1, vi v1)] [] M := by
  refine g_iconst (q := 1) C dX6_weightOf_0 rfl ?_
  refine g_istore_n (q := 2) (L2 := [(2, vi 0), (0, vr (xg x) 105), (1, vi v1)]) C dX6_weightOf_1 rfl rfl (by decide) rfl ?_
  refine g_iconst (q := 3) C dX6_weightOf_2 rfl ?_
  refine g_istore_n (q := 4) (L2 := [(3, vi 0), (2, vi 0), (0, vr (xg x) 105), (1, vi v1)]) C dX6_weightOf_3 rfl rfl (by decide) rfl ?_
  refine g_sub [2, 3, 1, 0] rfl ?_
  exact H
set_option maxRecDepth 10000 in
set_option maxHeartbeats 2000000 in
theorem X6_weightOf_4 {x : Xx} {post : Int → Mm → Prop} (C : Cx x mX6_weightOf) (hR : Rt x mX6_weightOf post)  (v1 v2 v3 : Int) (M : Mm) (H : (inR v3 ∧ inR (M 106 6)) ∧ (M 106 6 ≤ v3 → (post v2 M)) ∧ (¬ (M 106 6 ≤ v3) → (((0 ≤ v1 ∧ v1 < 2147483648) ∧ (0 ≤ v3 ∧ v3 < 31)) ∧ ((inR ((v1 / 2 ^ v3.toNat) % 2)) ∧ (¬ ((v1 / 2 ^ v3.toNat) % 2 = 1) → (∀ w35 : Int, w35 = (v2 + 0) → (Gx x 4 4 [(0, vr (xg x) 105), (1, vi v1), (2, vi w35), (3, vi (v3 + 1))] [] M))) ∧ ((v1 / 2 ^ v3.toNat) % 2 = 1 → (∃ p27 : Int → Mm → Prop, Ct (xl x) (xg x) mX6_weight [vr (xg x) 105, vi v3] M p27 ∧ ∀ (r27 : Int) (M27 : Mm), p27 r27 M27 → (∀ w35 : Int, w35 = (v2 + r27) → (Gx x 4 4 [(0, vr (xg x) 105), (1, vi v1), (2, vi w35), (3, vi (v3 + 1))] [] M27)))))))) : Gx x 4 4 [(0, vr (xg x) 105), (1, vi v1), (2, vi v2), (3, vi v3)] [] M := by
  refine g_iload_n (q := 5) C dX6_weightOf_4 rfl 3 rfl rfl ?_
  refine g_aload_n (q := 6) C dX6_weightOf_5 rfl 0 rfl rfl ?_
  refine g_get (q := 9) C (by decide) (celr_6 (by decide)) (ci := 6) (i := 0) rfl inlX6 (by decide) wm_4_11 rfl dX6_weightOf_6 rfl ?_
  refine g_bipush (q := 11) C dX6_weightOf_9 rfl (by decide) ?_
  refine g_iald (q := 12) (m := 47) C (by decide) (by decide) (by decide) (by decide) (by decide) dX6_weightOf_11 rfl ?_
  obtain ⟨hr, Ht, Hf⟩ := H
  refine g_icmp_ge (q := 15) (t := 42) C dX6_weightOf_12 rfl (by decide) hr (fun hc => ?_) (fun hc => ?_)
  · have H := Ht hc
    refine g_iload_n (q := 43) C dX6_weightOf_42 rfl 2 rfl rfl ?_
    exact g_iret C hR dX6_weightOf_43 rfl H
  · have H := Hf hc
    refine g_iload_n (q := 16) C dX6_weightOf_15 rfl 2 rfl rfl ?_
    refine g_iload_n (q := 17) C dX6_weightOf_16 rfl 1 rfl rfl ?_
    refine g_iload_n (q := 18) C dX6_weightOf_17 rfl 3 rfl rfl ?_
    obtain ⟨hc, H⟩ := H
    refine g_ishr (q := 19) C dX6_weightOf_18 rfl hc ?_
    refine g_iconst (q := 20) C dX6_weightOf_19 rfl ?_
    refine g_iand (q := 21) (p := 2) C dX6_weightOf_20 rfl 1 (by decide) (by decide) ?_
    refine g_iconst (q := 22) C dX6_weightOf_21 rfl ?_
    obtain ⟨hr, Ht, Hf⟩ := H
    refine g_icmp_ne (q := 25) (t := 33) C dX6_weightOf_22 rfl (by decide) ⟨hr, by decide⟩ (fun hc => ?_) (fun hc => ?_)
    · have H := Ht hc
      refine g_iconst (q := 34) C dX6_weightOf_33 rfl ?_
      refine g_iadd (q := 35) C dX6_weightOf_34 rfl ?_
      refine g_topi (fun w35 hw35 => ?_)
      have H := H w35 hw35
      refine g_istore_n (q := 36) (L2 := [(2, vi w35), (0, vr (xg x) 105), (1, vi v1), (3, vi v3)]) C dX6_weightOf_35 rfl rfl (by decide) rfl ?_
      refine g_iinc (q := 39) (L2 := [(3, vi (v3 + 1)), (2, vi w35), (0, vr (xg x) 105), (1, vi v1)]) C dX6_weightOf_36 rfl 3 rfl (by decide) rfl ?_
      refine g_goto (t := 4) C dX6_weightOf_39 (by decide) ?_
      refine g_sub [2, 3, 1, 0] rfl ?_
      exact H
    · have H := Hf hc
      refine g_aload_n (q := 26) C dX6_weightOf_25 rfl 0 rfl rfl ?_
      refine g_iload_n (q := 27) C dX6_weightOf_26 rfl 3 rfl rfl ?_
      obtain ⟨p27, hM, H⟩ := H
      refine g_callV (q := 30) (As := [vi v3]) (st := [vi v2]) (na := 1) C mX6_weight (by decide) (celr_6 (by decide)) rfl hM wm_17_21 wm_17_22 wm_17_23 wm_1_5 wm_18_0 (by decide +kernel) rfl rfl (by decide) rfl (Nat.le_of_ble_eq_true rfl) dX6_weightOf_27 rfl (fun r27 M27 hp => ?_)
      have H := H r27 M27 hp
      show Gx x 4 30 [(0, vr (xg x) 105), (1, vi v1), (2, vi v2), (3, vi v3)] [vi r27, vi v2] M27
      refine g_goto (t := 34) C dX6_weightOf_30 (by decide) ?_
      refine g_iadd (q := 35) C dX6_weightOf_34 rfl ?_
      refine g_topi (fun w35 hw35 => ?_)
      have H := H w35 hw35
      refine g_istore_n (q := 36) (L2 := [(2, vi w35), (0, vr (xg x) 105), (1, vi v1), (3, vi v3)]) C dX6_weightOf_35 rfl rfl (by decide) rfl ?_
      refine g_iinc (q := 39) (L2 := [(3, vi (v3 + 1)), (2, vi w35), (0, vr (xg x) 105), (1, vi v1)]) C dX6_weightOf_36 rfl 3 rfl (by decide) rfl ?_
      refine g_goto (t := 4) C dX6_weightOf_39 (by decide) ?_
      refine g_sub [2, 3, 1, 0] rfl ?_
      exact H
set_option maxRecDepth 10000 in
set_option maxHeartbeats 2000000 in
theorem X6_weight_0 {x : Xx} {post : Int → Mm → Prop} (C : Cx x mX6_weight) (hR : Rt x mX6_weight post)  (v1 : Int) (M : Mm) (H : (0 ≤ (7 + (4 * v1)) + 3 ∧ (7 + (4 * v1)) + 3 < 47) ∧ (post (M 106 ((7 + (4 * v1)) + 3)) M)) : Gx x 2 0 [(0, vr (xg x) 105), (1, vi v1)] [] M := by
  refine g_aload_n (q := 1) C dX6_weight_0 rfl 0 rfl rfl ?_
  refine g_get (q := 4) C (by decide) (celr_6 (by decide)) (ci := 6) (i := 0) rfl inlX6 (by decide) wm_4_11 rfl dX6_weight_1 rfl ?_
  refine g_bipush (q := 6) C dX6_weight_4 rfl (by decide) ?_
  refine g_iconst (q := 7) C dX6_weight_6 rfl ?_
  refine g_iload_n (q := 8) C dX6_weight_7 rfl 1 rfl rfl ?_
  refine g_imul (q := 9) C dX6_weight_8 rfl ?_
  refine g_iadd (q := 10) C dX6_weight_9 rfl ?_
  refine g_iconst (q := 11) C dX6_weight_10 rfl ?_
  refine g_iadd (q := 12) C dX6_weight_11 rfl ?_
  obtain ⟨hc, H⟩ := H
  refine g_iald (q := 13) (m := 47) C (by decide) (by decide) (by decide) hc (by decide) dX6_weight_12 rfl ?_
  exact g_iret C hR dX6_weight_13 rfl H
set_option maxRecDepth 10000 in
set_option maxHeartbeats 2000000 in
theorem X6_undo_0 {x : Xx} {post : Int → Mm → Prop} (C : Cx x mX6_undo) (hR : Rt x mX6_undo post)  (M : Mm) (H : (inR (M 105 2)) ∧ (¬ (M 105 2 = 0) → (∀ M17 : Mm, M17 = mu M 105 2 ((M 105 2) - 1) → (∃ p38 : Int → Mm → Prop, Ct (xl x) (xg x) mX6_bring [vr (xg x) 108, vi (47 * (M17 105 2)), vr (xg x) 106, vi 0, vi 47] M17 p38 ∧ ∀ (r38 : Int) (M38 : Mm), p38 r38 M38 → (post (M38 105 2) M38)))) ∧ (M 105 2 = 0 → (post (-1000000003) M))) : Gx x 1 0 [(0, vr (xg x) 105)] [] M := by
  refine g_aload_n (q := 1) C dX6_undo_0 rfl 0 rfl rfl ?_
  refine g_get (q := 4) C (by decide) (celr_6 (by decide)) (ci := 6) (i := 2) rfl inlX6 (by decide) wm_6_22 rfl dX6_undo_1 rfl ?_
  obtain ⟨hr, Ht, Hf⟩ := H
  refine g_if_ne (q := 7) (t := 10) C dX6_undo_4 rfl (by decide) hr (fun hc => ?_) (fun hc => ?_)
  · have H := Ht hc
    refine g_aload_n (q := 11) C dX6_undo_10 rfl 0 rfl rfl ?_
    refine g_dup (q := 12) C dX6_undo_11 rfl rfl ?_
    refine g_get (q := 15) C (by decide) (celr_6 (by decide)) (ci := 6) (i := 2) rfl inlX6 (by decide) wm_6_22 rfl dX6_undo_12 rfl ?_
    refine g_iconst (q := 16) C dX6_undo_15 rfl ?_
    refine g_isub (q := 17) C dX6_undo_16 rfl ?_
    refine g_put (q := 20) (ty := .int) C (by decide) (celr_6 (by decide)) (ci := 6) (i := 2) rfl inlX6 tyX6_ok nmX6 (by decide) wm_6_22 rfl rfl rfl rfl (Nat.le_of_ble_eq_true rfl) (by rw [celr_6 (by decide)]; rfl) dX6_undo_17 rfl ?_
    refine g_topM (fun M17 hM17 => ?_)
    have H := H M17 hM17
    refine g_aload_n (q := 21) C dX6_undo_20 rfl 0 rfl rfl ?_
    refine g_get (q := 24) C (by decide) (celr_6 (by decide)) (ci := 6) (i := 3) rfl inlX6 (by decide) wm_4_13 rfl dX6_undo_21 rfl ?_
    refine g_bipush (q := 26) C dX6_undo_24 rfl (by decide) ?_
    refine g_aload_n (q := 27) C dX6_undo_26 rfl 0 rfl rfl ?_
    refine g_get (q := 30) C (by decide) (celr_6 (by decide)) (ci := 6) (i := 2) rfl inlX6 (by decide) wm_6_22 rfl dX6_undo_27 rfl ?_
    refine g_imul (q := 31) C dX6_undo_30 rfl ?_
    refine g_aload_n (q := 32) C dX6_undo_31 rfl 0 rfl rfl ?_
    refine g_get (q := 35) C (by decide) (celr_6 (by decide)) (ci := 6) (i := 0) rfl inlX6 (by decide) wm_4_11 rfl dX6_undo_32 rfl ?_
    refine g_iconst (q := 36) C dX6_undo_35 rfl ?_
    refine g_bipush (q := 38) C dX6_undo_36 rfl (by decide) ?_
    obtain ⟨p38, hM, H⟩ := H
    refine g_callS (q := 41) (As := [vr (xg x) 108, vi (47 * (M17 105 2)), vr (xg x) 106, vi 0, vi 47]) (st := []) (na := 5) C mX6_bring hM wm_6_23 wm_7_0 wm_1_5 wm_7_1 (by decide +kernel) rfl rfl (by decide) rfl (Nat.le_of_ble_eq_true rfl) dX6_undo_38 rfl (fun r38 M38 hp => ?_)
    have H := H r38 M38 hp
    show Gx x 1 41 [(0, vr (xg x) 105)] [] M38
    refine g_aload_n (q := 42) C dX6_undo_41 rfl 0 rfl rfl ?_
    refine g_get (q := 45) C (by decide) (celr_6 (by decide)) (ci := 6) (i := 2) rfl inlX6 (by decide) wm_6_22 rfl dX6_undo_42 rfl ?_
    exact g_iret C hR dX6_undo_45 rfl H
  · have H := Hf hc
    refine g_ldc (q := 9) (z := (-1000000003)) C dX6_undo_7 rfl wc_18_14 ?_
    exact g_iret C hR dX6_undo_9 rfl H
set_option maxRecDepth 10000 in
set_option maxHeartbeats 2000000 in
theorem X6_told_0 {x : Xx} {post : Int → Mm → Prop} (C : Cx x mX6_told) (hR : Rt x mX6_told post)  (v1 : Int) (M : Mm) (H : ∃ p4 : Int → Mm → Prop, Ct (xl x) (xg x) mX6_in [vi v1, vi 0, vi 15] M p4 ∧ ∀ (r4 : Int) (M4 : Mm), p4 r4 M4 → ((inR r4) ∧ (¬ (r4 = 0) → ((inR v1) ∧ (7 ≤ v1 → ((inR v1) ∧ ((v1 < 7 ∨ 14 < v1) → (post (M4 105 2) M4)) ∧ (v1 = 7 → (∃ p73 : Int → Mm → Prop, Ct (xl x) (xg x) mX6_clashing [vr (xg x) 105] M4 p73 ∧ ∀ (r73 : Int) (M73 : Mm), p73 r73 M73 → (post r73 M73))) ∧ (v1 = 8 → (∃ p78 : Int → Mm → Prop, Ct (xl x) (xg x) mX6_bestOf [vr (xg x) 105] M4 p78 ∧ ∀ (r78 : Int) (M78 : Mm), p78 r78 M78 → (post r78 M78))) ∧ (v1 = 9 → (∃ p83 : Int → Mm → Prop, Ct (xl x) (xg x) mX6_bestOf [vr (xg x) 105] M4 p83 ∧ ∀ (r83 : Int) (M83 : Mm), p83 r83 M83 → ((inR r83) ∧ (¬ (r83 = (-1)) → (post (M83 113 0) M83)) ∧ (r83 = (-1) → (post (-1) M83))))) ∧ (v1 = 10 → (∃ p102 : Int → Mm → Prop, Ct (xl x) (xg x) mX6_isGreedy [vr (xg x) 105] M4 p102 ∧ ∀ (r102 : Int) (M102 : Mm), p102 r102 M102 → ((inR r102) ∧ (r102 = 0 → (post (-1) M102)) ∧ (¬ (r102 = 0) → (∃ p109 : Int → Mm → Prop, Ct (xl x) (xg x) mX6_paidOfAll [vr (xg x) 105] M102 p109 ∧ ∀ (r109 : Int) (M109 : Mm), p109 r109 M109 → (post r109 M109)))))) ∧ (v1 = 11 → (∃ p118 : Int → Mm → Prop, Ct (xl x) (xg x) mX6_isGreedy [vr (xg x) 105] M4 p118 ∧ ∀ (r118 : Int) (M118 : Mm), p118 r118 M118 → ((inR r118) ∧ (r118 = 0 → (post (-1) M118)) ∧ (¬ (r118 = 0) → (post (M118 105 12) M118))))) ∧ (v1 = 12 → (∃ p134 : Int → Mm → Prop, Ct (xl x) (xg x) mX6_layPlaces [vr (xg x) 105] M4 p134 ∧ ∀ (r134 : Int) (M134 : Mm), p134 r134 M134 → (post r134 M134))) ∧ (v1 = 13 → (∃ p139 : Int → Mm → Prop, Ct (xl x) (xg x) mX6_heaviest [vr (xg x) 105] M4 p139 ∧ ∀ (r139 : Int) (M139 : Mm), p139 r139 M139 → (post r139 M139))) ∧ (v1 = 14 → (post (M4 105 6) M4)))) ∧ (¬ (7 ≤ v1) → ((0 ≤ v1 ∧ v1 < 47) ∧ (post (M4 106 v1) M4))))) ∧ (r4 = 0 → (post (-1000000002) M4)))) : Gx x 2 0 [(0, vr (xg x) 105), (1, vi v1)] [] M := by
  refine g_iload_n (q := 1) C dX6_told_0 rfl 1 rfl rfl ?_
  refine g_iconst (q := 2) C dX6_told_1 rfl ?_
  refine g_bipush (q := 4) C dX6_told_2 rfl (by decide) ?_
  obtain ⟨p4, hM, H⟩ := H
  refine g_callS (q := 7) (As := [vi v1, vi 0, vi 15]) (st := []) (na := 3) C mX6_in hM wm_6_11 wm_6_12 wm_1_5 wm_6_13 (by decide +kernel) rfl rfl (by decide) rfl (Nat.le_of_ble_eq_true rfl) dX6_told_4 rfl (fun r4 M4 hp => ?_)
  have H := H r4 M4 hp
  show Gx x 2 7 [(0, vr (xg x) 105), (1, vi v1)] [vi r4] M4
  obtain ⟨hr, Ht, Hf⟩ := H
  refine g_if_ne (q := 10) (t := 13) C dX6_told_7 rfl (by decide) hr (fun hc => ?_) (fun hc => ?_)
  · have H := Ht hc
    refine g_iload_n (q := 14) C dX6_told_13 rfl 1 rfl rfl ?_
    refine g_bipush (q := 16) C dX6_told_14 rfl (by decide) ?_
    obtain ⟨hr, Ht, Hf⟩ := H
    refine g_icmp_ge (q := 19) (t := 26) C dX6_told_16 rfl (by decide) ⟨hr, by decide⟩ (fun hc => ?_) (fun hc => ?_)
    · have H := Ht hc
      refine g_iload_n (q := 27) C dX6_told_26 rfl 1 rfl rfl ?_
      obtain ⟨hr, Hd, H⟩ := H
      rcases (show (v1 < 7 ∨ 14 < v1) ∨ v1 = 7 ∨ v1 = 8 ∨ v1 = 9 ∨ v1 = 10 ∨ v1 = 11 ∨ v1 = 12 ∨ v1 = 13 ∨ v1 = 14 by omega) with hc | hc | hc | hc | hc | hc | hc | hc | hc
      · have H := Hd hc
        refine g_tabOut (t := 148) C dX6_told_27 hr hc (by decide) ?_
        refine g_aload_n (q := 149) C dX6_told_148 rfl 0 rfl rfl ?_
        refine g_get (q := 152) C (by decide) (celr_6 (by decide)) (ci := 6) (i := 2) rfl inlX6 (by decide) wm_6_22 rfl dX6_told_149 rfl ?_
        exact g_iret C hR dX6_told_152 rfl H
      · have H := H.1 hc
        refine g_tabIn (t := 72) C dX6_told_27 hr (by omega) (by rw [hc]; rfl) (by decide) ?_
        refine g_aload_n (q := 73) C dX6_told_72 rfl 0 rfl rfl ?_
        obtain ⟨p73, hM, H⟩ := H
        refine g_callV (q := 76) (As := []) (st := []) (na := 0) C mX6_clashing (by decide) (celr_6 (by decide)) rfl hM wm_20_4 wm_20_5 wm_20_6 wm_1_5 wm_20_7 (by decide +kernel) rfl rfl (by decide) rfl (Nat.le_of_ble_eq_true rfl) dX6_told_73 rfl (fun r73 M73 hp => ?_)
        have H := H r73 M73 hp
        show Gx x 2 76 [(0, vr (xg x) 105), (1, vi v1)] [vi r73] M73
        exact g_iret C hR dX6_told_76 rfl H
      · have H := H.2.1 hc
        refine g_tabIn (t := 77) C dX6_told_27 hr (by omega) (by rw [hc]; rfl) (by decide) ?_
        refine g_aload_n (q := 78) C dX6_told_77 rfl 0 rfl rfl ?_
        obtain ⟨p78, hM, H⟩ := H
        refine g_callV (q := 81) (As := []) (st := []) (na := 0) C mX6_bestOf (by decide) (celr_6 (by decide)) rfl hM wm_15_4 wm_15_5 wm_15_6 wm_1_5 wm_15_7 (by decide +kernel) rfl rfl (by decide) rfl (Nat.le_of_ble_eq_true rfl) dX6_told_78 rfl (fun r78 M78 hp => ?_)
        have H := H r78 M78 hp
        show Gx x 2 81 [(0, vr (xg x) 105), (1, vi v1)] [vi r78] M78
        exact g_iret C hR dX6_told_81 rfl H
      · have H := H.2.2.1 hc
        refine g_tabIn (t := 82) C dX6_told_27 hr (by omega) (by rw [hc]; rfl) (by decide) ?_
        refine g_aload_n (q := 83) C dX6_told_82 rfl 0 rfl rfl ?_
        obtain ⟨p83, hM, H⟩ := H
        refine g_callV (q := 86) (As := []) (st := []) (na := 0) C mX6_bestOf (by decide) (celr_6 (by decide)) rfl hM wm_15_4 wm_15_5 wm_15_6 wm_1_5 wm_15_7 (by decide +kernel) rfl rfl (by decide) rfl (Nat.le_of_ble_eq_true rfl) dX6_told_83 rfl (fun r83 M83 hp => ?_)
        have H := H r83 M83 hp
        show Gx x 2 86 [(0, vr (xg x) 105), (1, vi v1)] [vi r83] M83
        refine g_iconst (q := 87) C dX6_told_86 rfl ?_
        obtain ⟨hr, Ht, Hf⟩ := H
        refine g_icmp_ne (q := 90) (t := 94) C dX6_told_87 rfl (by decide) ⟨hr, by decide⟩ (fun hc => ?_) (fun hc => ?_)
        · have H := Ht hc
          refine g_aload_n (q := 95) C dX6_told_94 rfl 0 rfl rfl ?_
          refine g_get (q := 98) C (by decide) (celr_6 (by decide)) (ci := 6) (i := 9) rfl inlX6 (by decide) wm_4_18 rfl dX6_told_95 rfl ?_
          refine g_iconst (q := 99) C dX6_told_98 rfl ?_
          refine g_iald (q := 100) (m := 1331) C (by decide) (by decide) (by decide) (by decide) (by decide) dX6_told_99 rfl ?_
          exact g_iret C hR dX6_told_100 rfl H
        · have H := Hf hc
          refine g_iconst (q := 91) C dX6_told_90 rfl ?_
          refine g_goto (t := 100) C dX6_told_91 (by decide) ?_
          exact g_iret C hR dX6_told_100 rfl H
      · have H := H.2.2.2.1 hc
        refine g_tabIn (t := 101) C dX6_told_27 hr (by omega) (by rw [hc]; rfl) (by decide) ?_
        refine g_aload_n (q := 102) C dX6_told_101 rfl 0 rfl rfl ?_
        obtain ⟨p102, hM, H⟩ := H
        refine g_callV (q := 105) (As := []) (st := []) (na := 0) C mX6_isGreedy (by decide) (celr_6 (by decide)) rfl hM wm_20_8 wm_20_9 wm_20_10 wm_1_5 wm_20_11 (by decide +kernel) rfl rfl (by decide) rfl (Nat.le_of_ble_eq_true rfl) dX6_told_102 rfl (fun r102 M102 hp => ?_)
        have H := H r102 M102 hp
        show Gx x 2 105 [(0, vr (xg x) 105), (1, vi v1)] [vi r102] M102
        obtain ⟨hr, Ht, Hf⟩ := H
        refine g_if_eq (q := 108) (t := 115) C dX6_told_105 rfl (by decide) hr (fun hc => ?_) (fun hc => ?_)
        · have H := Ht hc
          refine g_iconst (q := 116) C dX6_told_115 rfl ?_
          exact g_iret C hR dX6_told_116 rfl H
        · have H := Hf hc
          refine g_aload_n (q := 109) C dX6_told_108 rfl 0 rfl rfl ?_
          obtain ⟨p109, hM, H⟩ := H
          refine g_callV (q := 112) (As := []) (st := []) (na := 0) C mX6_paidOfAll (by decide) (celr_6 (by decide)) rfl hM wm_20_16 wm_20_17 wm_20_18 wm_1_5 wm_20_19 (by decide +kernel) rfl rfl (by decide) rfl (Nat.le_of_ble_eq_true rfl) dX6_told_109 rfl (fun r109 M109 hp => ?_)
          have H := H r109 M109 hp
          show Gx x 2 112 [(0, vr (xg x) 105), (1, vi v1)] [vi r109] M109
          refine g_goto (t := 116) C dX6_told_112 (by decide) ?_
          exact g_iret C hR dX6_told_116 rfl H
      · have H := H.2.2.2.2.1 hc
        refine g_tabIn (t := 117) C dX6_told_27 hr (by omega) (by rw [hc]; rfl) (by decide) ?_
        refine g_aload_n (q := 118) C dX6_told_117 rfl 0 rfl rfl ?_
        obtain ⟨p118, hM, H⟩ := H
        refine g_callV (q := 121) (As := []) (st := []) (na := 0) C mX6_isGreedy (by decide) (celr_6 (by decide)) rfl hM wm_20_8 wm_20_9 wm_20_10 wm_1_5 wm_20_11 (by decide +kernel) rfl rfl (by decide) rfl (Nat.le_of_ble_eq_true rfl) dX6_told_118 rfl (fun r118 M118 hp => ?_)
        have H := H r118 M118 hp
        show Gx x 2 121 [(0, vr (xg x) 105), (1, vi v1)] [vi r118] M118
        obtain ⟨hr, Ht, Hf⟩ := H
        refine g_if_eq (q := 124) (t := 131) C dX6_told_121 rfl (by decide) hr (fun hc => ?_) (fun hc => ?_)
        · have H := Ht hc
          refine g_iconst (q := 132) C dX6_told_131 rfl ?_
          exact g_iret C hR dX6_told_132 rfl H
        · have H := Hf hc
          refine g_aload_n (q := 125) C dX6_told_124 rfl 0 rfl rfl ?_
          refine g_get (q := 128) C (by decide) (celr_6 (by decide)) (ci := 6) (i := 12) rfl inlX6 (by decide) wm_20_2 rfl dX6_told_125 rfl ?_
          refine g_goto (t := 132) C dX6_told_128 (by decide) ?_
          exact g_iret C hR dX6_told_132 rfl H
      · have H := H.2.2.2.2.2.1 hc
        refine g_tabIn (t := 133) C dX6_told_27 hr (by omega) (by rw [hc]; rfl) (by decide) ?_
        refine g_aload_n (q := 134) C dX6_told_133 rfl 0 rfl rfl ?_
        obtain ⟨p134, hM, H⟩ := H
        refine g_callV (q := 137) (As := []) (st := []) (na := 0) C mX6_layPlaces (by decide) (celr_6 (by decide)) rfl hM wm_20_20 wm_20_21 wm_20_22 wm_1_5 wm_20_23 (by decide +kernel) rfl rfl (by decide) rfl (Nat.le_of_ble_eq_true rfl) dX6_told_134 rfl (fun r134 M134 hp => ?_)
        have H := H r134 M134 hp
        show Gx x 2 137 [(0, vr (xg x) 105), (1, vi v1)] [vi r134] M134
        exact g_iret C hR dX6_told_137 rfl H
      · have H := H.2.2.2.2.2.2.1 hc
        refine g_tabIn (t := 138) C dX6_told_27 hr (by omega) (by rw [hc]; rfl) (by decide) ?_
        refine g_aload_n (q := 139) C dX6_told_138 rfl 0 rfl rfl ?_
        obtain ⟨p139, hM, H⟩ := H
        refine g_callV (q := 142) (As := []) (st := []) (na := 0) C mX6_heaviest (by decide) (celr_6 (by decide)) rfl hM wm_21_0 wm_21_1 wm_21_2 wm_1_5 wm_21_3 (by decide +kernel) rfl rfl (by decide) rfl (Nat.le_of_ble_eq_true rfl) dX6_told_139 rfl (fun r139 M139 hp => ?_)
        have H := H r139 M139 hp
        show Gx x 2 142 [(0, vr (xg x) 105), (1, vi v1)] [vi r139] M139
        exact g_iret C hR dX6_told_142 rfl H
      · have H := H.2.2.2.2.2.2.2 hc
        refine g_tabIn (t := 143) C dX6_told_27 hr (by omega) (by rw [hc]; rfl) (by decide) ?_
        refine g_aload_n (q := 144) C dX6_told_143 rfl 0 rfl rfl ?_
        refine g_get (q := 147) C (by decide) (celr_6 (by decide)) (ci := 6) (i := 6) rfl inlX6 (by decide) wm_20_3 rfl dX6_told_144 rfl ?_
        exact g_iret C hR dX6_told_147 rfl H
    · have H := Hf hc
      refine g_aload_n (q := 20) C dX6_told_19 rfl 0 rfl rfl ?_
      refine g_get (q := 23) C (by decide) (celr_6 (by decide)) (ci := 6) (i := 0) rfl inlX6 (by decide) wm_4_11 rfl dX6_told_20 rfl ?_
      refine g_iload_n (q := 24) C dX6_told_23 rfl 1 rfl rfl ?_
      obtain ⟨hc, H⟩ := H
      refine g_iald (q := 25) (m := 47) C (by decide) (by decide) (by decide) hc (by decide) dX6_told_24 rfl ?_
      exact g_iret C hR dX6_told_25 rfl H
  · have H := Hf hc
    refine g_ldc (q := 12) (z := (-1000000002)) C dX6_told_10 rfl wc_6_10 ?_
    exact g_iret C hR dX6_told_12 rfl H
set_option maxRecDepth 10000 in
set_option maxHeartbeats 2000000 in
theorem X6_clashing_0 {x : Xx} {post : Int → Mm → Prop} (C : Cx x mX6_clashing) (hR : Rt x mX6_clashing post)  (M : Mm) (H : Gx x 2 2 [(0, vr (xg x) 105), (1, vi 0)] [] M) : Gx x 2 0 [(0, vr (xg x) 105)] [] M := by
  refine g_iconst (q := 1) C dX6_clashing_0 rfl ?_
  refine g_istore_n (q := 2) (L2 := [(1, vi 0), (0, vr (xg x) 105)]) C dX6_clashing_1 rfl rfl (by decide) rfl ?_
  refine g_sub [1, 0] rfl ?_
  exact H
set_option maxRecDepth 10000 in
set_option maxHeartbeats 2000000 in
theorem X6_clashing_2 {x : Xx} {post : Int → Mm → Prop} (C : Cx x mX6_clashing) (hR : Rt x mX6_clashing post)  (v1 : Int) (M : Mm) (H : (inR v1 ∧ inR (M 106 6)) ∧ (M 106 6 ≤ v1 → (post (-1) M)) ∧ (¬ (M 106 6 ≤ v1) → (∃ p16 : Int → Mm → Prop, Ct (xl x) (xg x) mX6_isFit [vr (xg x) 105, vi v1, vi 1] M p16 ∧ ∀ (r16 : Int) (M16 : Mm), p16 r16 M16 → ((inR r16) ∧ (¬ (r16 = 0) → (Gx x 2 2 [(0, vr (xg x) 105), (1, vi (v1 + 1))] [] M16)) ∧ (r16 = 0 → (post v1 M16)))))) : Gx x 2 2 [(0, vr (xg x) 105), (1, vi v1)] [] M := by
  refine g_iload_n (q := 3) C dX6_clashing_2 rfl 1 rfl rfl ?_
  refine g_aload_n (q := 4) C dX6_clashing_3 rfl 0 rfl rfl ?_
  refine g_get (q := 7) C (by decide) (celr_6 (by decide)) (ci := 6) (i := 0) rfl inlX6 (by decide) wm_4_11 rfl dX6_clashing_4 rfl ?_
  refine g_bipush (q := 9) C dX6_clashing_7 rfl (by decide) ?_
  refine g_iald (q := 10) (m := 47) C (by decide) (by decide) (by decide) (by decide) (by decide) dX6_clashing_9 rfl ?_
  obtain ⟨hr, Ht, Hf⟩ := H
  refine g_icmp_ge (q := 13) (t := 30) C dX6_clashing_10 rfl (by decide) hr (fun hc => ?_) (fun hc => ?_)
  · have H := Ht hc
    refine g_iconst (q := 31) C dX6_clashing_30 rfl ?_
    exact g_iret C hR dX6_clashing_31 rfl H
  · have H := Hf hc
    refine g_aload_n (q := 14) C dX6_clashing_13 rfl 0 rfl rfl ?_
    refine g_iload_n (q := 15) C dX6_clashing_14 rfl 1 rfl rfl ?_
    refine g_iconst (q := 16) C dX6_clashing_15 rfl ?_
    obtain ⟨p16, hM, H⟩ := H
    refine g_callV (q := 19) (As := [vi v1, vi 1]) (st := []) (na := 2) C mX6_isFit (by decide) (celr_6 (by decide)) rfl hM wm_15_21 wm_15_22 wm_15_23 wm_1_5 wm_16_0 (by decide +kernel) rfl rfl (by decide) rfl (Nat.le_of_ble_eq_true rfl) dX6_clashing_16 rfl (fun r16 M16 hp => ?_)
    have H := H r16 M16 hp
    show Gx x 2 19 [(0, vr (xg x) 105), (1, vi v1)] [vi r16] M16
    obtain ⟨hr, Ht, Hf⟩ := H
    refine g_if_ne (q := 22) (t := 24) C dX6_clashing_19 rfl (by decide) hr (fun hc => ?_) (fun hc => ?_)
    · have H := Ht hc
      refine g_iinc (q := 27) (L2 := [(1, vi (v1 + 1)), (0, vr (xg x) 105)]) C dX6_clashing_24 rfl 1 rfl (by decide) rfl ?_
      refine g_goto (t := 2) C dX6_clashing_27 (by decide) ?_
      refine g_sub [1, 0] rfl ?_
      exact H
    · have H := Hf hc
      refine g_iload_n (q := 23) C dX6_clashing_22 rfl 1 rfl rfl ?_
      exact g_iret C hR dX6_clashing_23 rfl H
set_option maxRecDepth 10000 in
set_option maxHeartbeats 2000000 in
theorem X6_isGreedy_0 {x : Xx} {post : Int → Mm → Prop} (C : Cx x mX6_isGreedy) (hR : Rt x mX6_isGreedy post)  (M : Mm) (H : ∀ M2 : Mm, M2 = mu M 105 12 0 → (∃ p6 : Int → Mm → Prop, Ct (xl x) (xg x) mX6_clashing [vr (xg x) 105] M2 p6 ∧ ∀ (r6 : Int) (M6 : Mm), p6 r6 M6 → ((inR r6) ∧ (r6 = (-1) → (Gx x 4 19 [(0, vr (xg x) 105), (1, vi 0), (2, vi 0)] [] M6)) ∧ (¬ (r6 = (-1)) → (post 0 M6))))) : Gx x 4 0 [(0, vr (xg x) 105)] [] M := by
  refine g_aload_n (q := 1) C dX6_isGreedy_0 rfl 0 rfl rfl ?_
  refine g_iconst (q := 2) C dX6_isGreedy_1 rfl ?_
  refine g_put (q := 5) (ty := .int) C (by decide) (celr_6 (by decide)) (ci := 6) (i := 12) rfl inlX6 tyX6_ok nmX6 (by decide) wm_20_2 rfl rfl rfl rfl (Nat.le_of_ble_eq_true rfl) (by rw [celr_6 (by decide)]; rfl) dX6_isGreedy_2 rfl ?_
  refine g_topM (fun M2 hM2 => ?_)
  have H := H M2 hM2
  refine g_aload_n (q := 6) C dX6_isGreedy_5 rfl 0 rfl rfl ?_
  obtain ⟨p6, hM, H⟩ := H
  refine g_callV (q := 9) (As := []) (st := []) (na := 0) C mX6_clashing (by decide) (celr_6 (by decide)) rfl hM wm_20_4 wm_20_5 wm_20_6 wm_1_5 wm_20_7 (by decide +kernel) rfl rfl (by decide) rfl (Nat.le_of_ble_eq_true rfl) dX6_isGreedy_6 rfl (fun r6 M6 hp => ?_)
  have H := H r6 M6 hp
  show Gx x 4 9 [(0, vr (xg x) 105)] [vi r6] M6
  refine g_iconst (q := 10) C dX6_isGreedy_9 rfl ?_
  obtain ⟨hr, Ht, Hf⟩ := H
  refine g_icmp_eq (q := 13) (t := 15) C dX6_isGreedy_10 rfl (by decide) ⟨hr, by decide⟩ (fun hc => ?_) (fun hc => ?_)
  · have H := Ht hc
    refine g_iconst (q := 16) C dX6_isGreedy_15 rfl ?_
    refine g_istore_n (q := 17) (L2 := [(1, vi 0), (0, vr (xg x) 105)]) C dX6_isGreedy_16 rfl rfl (by decide) rfl ?_
    refine g_iconst (q := 18) C dX6_isGreedy_17 rfl ?_
    refine g_istore_n (q := 19) (L2 := [(2, vi 0), (1, vi 0), (0, vr (xg x) 105)]) C dX6_isGreedy_18 rfl rfl (by decide) rfl ?_
    refine g_sub [2, 1, 0] rfl ?_
    exact H
  · have H := Hf hc
    refine g_iconst (q := 14) C dX6_isGreedy_13 rfl ?_
    exact g_zret C hR dX6_isGreedy_14 rfl (by decide) H
set_option maxRecDepth 10000 in
set_option maxHeartbeats 2000000 in
theorem X6_isGreedy_19 {x : Xx} {post : Int → Mm → Prop} (C : Cx x mX6_isGreedy) (hR : Rt x mX6_isGreedy post)  (v1 v2 : Int) (M : Mm) (H : (inR v1 ∧ inR (M 106 0)) ∧ (v1 < M 106 0 → (Gx x 4 40 [(0, vr (xg x) 105), (1, vi v1), (2, vi v2)] [] M)) ∧ (¬ (v1 < M 106 0) → ((inR v2 ∧ inR (M 106 6)) ∧ (M 106 6 ≤ v2 → (post 1 M)) ∧ (¬ (M 106 6 ≤ v2) → (Gx x 4 40 [(0, vr (xg x) 105), (1, vi v1), (2, vi v2)] [] M))))) : Gx x 4 19 [(0, vr (xg x) 105), (1, vi v1), (2, vi v2)] [] M := by
  refine g_iload_n (q := 20) C dX6_isGreedy_19 rfl 1 rfl rfl ?_
  refine g_aload_n (q := 21) C dX6_isGreedy_20 rfl 0 rfl rfl ?_
  refine g_get (q := 24) C (by decide) (celr_6 (by decide)) (ci := 6) (i := 0) rfl inlX6 (by decide) wm_4_11 rfl dX6_isGreedy_21 rfl ?_
  refine g_iconst (q := 25) C dX6_isGreedy_24 rfl ?_
  refine g_iald (q := 26) (m := 47) C (by decide) (by decide) (by decide) (by decide) (by decide) dX6_isGreedy_25 rfl ?_
  obtain ⟨hr, Ht, Hf⟩ := H
  refine g_icmp_lt (q := 29) (t := 40) C dX6_isGreedy_26 rfl (by decide) hr (fun hc => ?_) (fun hc => ?_)
  · have H := Ht hc
    refine g_sub [0, 1, 2] rfl ?_
    exact H
  · have H := Hf hc
    refine g_iload_n (q := 30) C dX6_isGreedy_29 rfl 2 rfl rfl ?_
    refine g_aload_n (q := 31) C dX6_isGreedy_30 rfl 0 rfl rfl ?_
    refine g_get (q := 34) C (by decide) (celr_6 (by decide)) (ci := 6) (i := 0) rfl inlX6 (by decide) wm_4_11 rfl dX6_isGreedy_31 rfl ?_
    refine g_bipush (q := 36) C dX6_isGreedy_34 rfl (by decide) ?_
    refine g_iald (q := 37) (m := 47) C (by decide) (by decide) (by decide) (by decide) (by decide) dX6_isGreedy_36 rfl ?_
    obtain ⟨hr, Ht, Hf⟩ := H
    refine g_icmp_ge (q := 40) (t := 144) C dX6_isGreedy_37 rfl (by decide) hr (fun hc => ?_) (fun hc => ?_)
    · have H := Ht hc
      refine g_iconst (q := 145) C dX6_isGreedy_144 rfl ?_
      exact g_zret C hR dX6_isGreedy_145 rfl (by decide) H
    · have H := Hf hc
      refine g_sub [0, 1, 2] rfl ?_
      exact H
set_option maxRecDepth 10000 in
set_option maxHeartbeats 2000000 in
theorem X6_isGreedy_40 {x : Xx} {post : Int → Mm → Prop} (C : Cx x mX6_isGreedy) (hR : Rt x mX6_isGreedy post)  (v1 v2 : Int) (M : Mm) (H : (inR (M 106 4) ∧ inR ((M 106 6) - v2)) ∧ ((M 106 6) - v2 ≤ M 106 4 → (∀ w76 : Int, w76 = ((M 106 6) - v2) → (Gx x 4 77 [(0, vr (xg x) 105), (1, vi v1), (2, vi v2), (3, vi w76)] [] M))) ∧ (¬ ((M 106 6) - v2 ≤ M 106 4) → (∀ w76 : Int, w76 = (M 106 4) → (Gx x 4 77 [(0, vr (xg x) 105), (1, vi v1), (2, vi v2), (3, vi w76)] [] M)))) : Gx x 4 40 [(0, vr (xg x) 105), (1, vi v1), (2, vi v2)] [] M := by
  refine g_aload_n (q := 41) C dX6_isGreedy_40 rfl 0 rfl rfl ?_
  refine g_get (q := 44) C (by decide) (celr_6 (by decide)) (ci := 6) (i := 0) rfl inlX6 (by decide) wm_4_11 rfl dX6_isGreedy_41 rfl ?_
  refine g_iconst (q := 45) C dX6_isGreedy_44 rfl ?_
  refine g_iald (q := 46) (m := 47) C (by decide) (by decide) (by decide) (by decide) (by decide) dX6_isGreedy_45 rfl ?_
  refine g_aload_n (q := 47) C dX6_isGreedy_46 rfl 0 rfl rfl ?_
  refine g_get (q := 50) C (by decide) (celr_6 (by decide)) (ci := 6) (i := 0) rfl inlX6 (by decide) wm_4_11 rfl dX6_isGreedy_47 rfl ?_
  refine g_bipush (q := 52) C dX6_isGreedy_50 rfl (by decide) ?_
  refine g_iald (q := 53) (m := 47) C (by decide) (by decide) (by decide) (by decide) (by decide) dX6_isGreedy_52 rfl ?_
  refine g_iload_n (q := 54) C dX6_isGreedy_53 rfl 2 rfl rfl ?_
  refine g_isub (q := 55) C dX6_isGreedy_54 rfl ?_
  obtain ⟨hr, Ht, Hf⟩ := H
  refine g_icmp_ge (q := 58) (t := 67) C dX6_isGreedy_55 rfl (by decide) hr (fun hc => ?_) (fun hc => ?_)
  · have H := Ht hc
    refine g_aload_n (q := 68) C dX6_isGreedy_67 rfl 0 rfl rfl ?_
    refine g_get (q := 71) C (by decide) (celr_6 (by decide)) (ci := 6) (i := 0) rfl inlX6 (by decide) wm_4_11 rfl dX6_isGreedy_68 rfl ?_
    refine g_bipush (q := 73) C dX6_isGreedy_71 rfl (by decide) ?_
    refine g_iald (q := 74) (m := 47) C (by decide) (by decide) (by decide) (by decide) (by decide) dX6_isGreedy_73 rfl ?_
    refine g_iload_n (q := 75) C dX6_isGreedy_74 rfl 2 rfl rfl ?_
    refine g_isub (q := 76) C dX6_isGreedy_75 rfl ?_
    refine g_topi (fun w76 hw76 => ?_)
    have H := H w76 hw76
    refine g_istore_n (q := 77) (L2 := [(3, vi w76), (0, vr (xg x) 105), (1, vi v1), (2, vi v2)]) C dX6_isGreedy_76 rfl rfl (by decide) rfl ?_
    refine g_sub [1, 2, 3, 0] rfl ?_
    exact H
  · have H := Hf hc
    refine g_aload_n (q := 59) C dX6_isGreedy_58 rfl 0 rfl rfl ?_
    refine g_get (q := 62) C (by decide) (celr_6 (by decide)) (ci := 6) (i := 0) rfl inlX6 (by decide) wm_4_11 rfl dX6_isGreedy_59 rfl ?_
    refine g_iconst (q := 63) C dX6_isGreedy_62 rfl ?_
    refine g_iald (q := 64) (m := 47) C (by decide) (by decide) (by decide) (by decide) (by decide) dX6_isGreedy_63 rfl ?_
    refine g_goto (t := 76) C dX6_isGreedy_64 (by decide) ?_
    refine g_topi (fun w76 hw76 => ?_)
    have H := H w76 hw76
    refine g_istore_n (q := 77) (L2 := [(3, vi w76), (0, vr (xg x) 105), (1, vi v1), (2, vi v2)]) C dX6_isGreedy_76 rfl rfl (by decide) rfl ?_
    refine g_sub [1, 2, 3, 0] rfl ?_
    exact H
set_option maxRecDepth 10000 in
set_option maxHeartbeats 2000000 in
theorem X6_isGreedy_77 {x : Xx} {post : Int → Mm → Prop} (C : Cx x mX6_isGreedy) (hR : Rt x mX6_isGreedy post)  (v1 v2 v3 : Int) (M : Mm) (H : ∃ p80 : Int → Mm → Prop, Ct (xl x) (xg x) mX6_isFit [vr (xg x) 105, vi v2, vi v3] M p80 ∧ ∀ (r80 : Int) (M80 : Mm), p80 r80 M80 → ((inR r80) ∧ (r80 = 0 → (Gx x 4 77 [(0, vr (xg x) 105), (1, vi v1), (2, vi v2), (3, vi (v3 + (-1)))] [] M80)) ∧ (¬ (r80 = 0) → ((inR v1 ∧ inR (M80 106 0)) ∧ (M80 106 0 ≤ v1 → (Gx x 4 118 [(0, vr (xg x) 105), (1, vi v1), (2, vi v2), (3, vi v3)] [] M80)) ∧ (¬ (M80 106 0 ≤ v1) → (∃ p103 : Int → Mm → Prop, Ct (xl x) (xg x) mX6_linesBehind [vr (xg x) 105, vi v1, vi v2, vi v3] M80 p103 ∧ ∀ (r103 : Int) (M103 : Mm), p103 r103 M103 → (∃ p106 : Int → Mm → Prop, Ct (xl x) (xg x) mX6_areMentioned [vr (xg x) 105, vi v2, vi v3, vi r103] M103 p106 ∧ ∀ (r106 : Int) (M106 : Mm), p106 r106 M106 → ((inR r106) ∧ (¬ (r106 = 0) → (Gx x 4 118 [(0, vr (xg x) 105), (1, vi v1), (2, vi v2), (3, vi v3)] [] M106)) ∧ (r106 = 0 → (Gx x 4 77 [(0, vr (xg x) 105), (1, vi v1), (2, vi v2), (3, vi (v3 + (-1)))] [] M106)))))))))) : Gx x 4 77 [(0, vr (xg x) 105), (1, vi v1), (2, vi v2), (3, vi v3)] [] M := by
  refine g_aload_n (q := 78) C dX6_isGreedy_77 rfl 0 rfl rfl ?_
  refine g_iload_n (q := 79) C dX6_isGreedy_78 rfl 2 rfl rfl ?_
  refine g_iload_n (q := 80) C dX6_isGreedy_79 rfl 3 rfl rfl ?_
  obtain ⟨p80, hM, H⟩ := H
  refine g_callV (q := 83) (As := [vi v2, vi v3]) (st := []) (na := 2) C mX6_isFit (by decide) (celr_6 (by decide)) rfl hM wm_15_21 wm_15_22 wm_15_23 wm_1_5 wm_16_0 (by decide +kernel) rfl rfl (by decide) rfl (Nat.le_of_ble_eq_true rfl) dX6_isGreedy_80 rfl (fun r80 M80 hp => ?_)
  have H := H r80 M80 hp
  show Gx x 4 83 [(0, vr (xg x) 105), (1, vi v1), (2, vi v2), (3, vi v3)] [vi r80] M80
  obtain ⟨hr, Ht, Hf⟩ := H
  refine g_if_eq (q := 86) (t := 112) C dX6_isGreedy_83 rfl (by decide) hr (fun hc => ?_) (fun hc => ?_)
  · have H := Ht hc
    refine g_iinc (q := 115) (L2 := [(3, vi (v3 + (-1))), (0, vr (xg x) 105), (1, vi v1), (2, vi v2)]) C dX6_isGreedy_112 rfl 3 rfl (by decide) rfl ?_
    refine g_goto (t := 77) C dX6_isGreedy_115 (by decide) ?_
    refine g_sub [1, 2, 3, 0] rfl ?_
    exact H
  · have H := Hf hc
    refine g_iload_n (q := 87) C dX6_isGreedy_86 rfl 1 rfl rfl ?_
    refine g_aload_n (q := 88) C dX6_isGreedy_87 rfl 0 rfl rfl ?_
    refine g_get (q := 91) C (by decide) (celr_6 (by decide)) (ci := 6) (i := 0) rfl inlX6 (by decide) wm_4_11 rfl dX6_isGreedy_88 rfl ?_
    refine g_iconst (q := 92) C dX6_isGreedy_91 rfl ?_
    refine g_iald (q := 93) (m := 47) C (by decide) (by decide) (by decide) (by decide) (by decide) dX6_isGreedy_92 rfl ?_
    obtain ⟨hr, Ht, Hf⟩ := H
    refine g_icmp_ge (q := 96) (t := 118) C dX6_isGreedy_93 rfl (by decide) hr (fun hc => ?_) (fun hc => ?_)
    · have H := Ht hc
      refine g_sub [0, 1, 2, 3] rfl ?_
      exact H
    · have H := Hf hc
      refine g_aload_n (q := 97) C dX6_isGreedy_96 rfl 0 rfl rfl ?_
      refine g_iload_n (q := 98) C dX6_isGreedy_97 rfl 2 rfl rfl ?_
      refine g_iload_n (q := 99) C dX6_isGreedy_98 rfl 3 rfl rfl ?_
      refine g_aload_n (q := 100) C dX6_isGreedy_99 rfl 0 rfl rfl ?_
      refine g_iload_n (q := 101) C dX6_isGreedy_100 rfl 1 rfl rfl ?_
      refine g_iload_n (q := 102) C dX6_isGreedy_101 rfl 2 rfl rfl ?_
      refine g_iload_n (q := 103) C dX6_isGreedy_102 rfl 3 rfl rfl ?_
      obtain ⟨p103, hM, H⟩ := H
      refine g_callV (q := 106) (As := [vi v1, vi v2, vi v3]) (st := [vi v3, vi v2, vr (xg x) 105]) (na := 3) C mX6_linesBehind (by decide) (celr_6 (by decide)) rfl hM wm_16_13 wm_16_14 wm_16_15 wm_1_5 wm_16_16 (by decide +kernel) rfl rfl (by decide) rfl (Nat.le_of_ble_eq_true rfl) dX6_isGreedy_103 rfl (fun r103 M103 hp => ?_)
      have H := H r103 M103 hp
      show Gx x 4 106 [(0, vr (xg x) 105), (1, vi v1), (2, vi v2), (3, vi v3)] [vi r103, vi v3, vi v2, vr (xg x) 105] M103
      obtain ⟨p106, hM, H⟩ := H
      refine g_callV (q := 109) (As := [vi v2, vi v3, vi r103]) (st := []) (na := 3) C mX6_areMentioned (by decide) (celr_6 (by decide)) rfl hM wm_16_21 wm_16_22 wm_16_23 wm_1_5 wm_17_0 (by decide +kernel) rfl rfl (by decide) rfl (Nat.le_of_ble_eq_true rfl) dX6_isGreedy_106 rfl (fun r106 M106 hp => ?_)
      have H := H r106 M106 hp
      show Gx x 4 109 [(0, vr (xg x) 105), (1, vi v1), (2, vi v2), (3, vi v3)] [vi r106] M106
      obtain ⟨hr, Ht, Hf⟩ := H
      refine g_if_ne (q := 112) (t := 118) C dX6_isGreedy_109 rfl (by decide) hr (fun hc => ?_) (fun hc => ?_)
      · have H := Ht hc
        refine g_sub [0, 1, 2, 3] rfl ?_
        exact H
      · have H := Hf hc
        refine g_iinc (q := 115) (L2 := [(3, vi (v3 + (-1))), (0, vr (xg x) 105), (1, vi v1), (2, vi v2)]) C dX6_isGreedy_112 rfl 3 rfl (by decide) rfl ?_
        refine g_goto (t := 77) C dX6_isGreedy_115 (by decide) ?_
        refine g_sub [1, 2, 3, 0] rfl ?_
        exact H
set_option maxRecDepth 10000 in
set_option maxHeartbeats 2000000 in
theorem X6_isGreedy_118 {x : Xx} {post : Int → Mm → Prop} (C : Cx x mX6_isGreedy) (hR : Rt x mX6_isGreedy post)  (v1 v2 v3 : Int) (M : Mm) (H : ∃ p122 : Int → Mm → Prop, Ct (xl x) (xg x) mX6_addPage [vr (xg x) 105, vi v1, vi v2, vi v3] M p122 ∧ ∀ (r122 : Int) (M122 : Mm), p122 r122 M122 → ((0 ≤ (M122 105 12) - 1 ∧ (M122 105 12) - 1 < 160) ∧ (∀ w136 : Int, w136 = (M122 117 ((M122 105 12) - 1)) → (∀ w140 : Int, w140 = (v2 + v3) → (Gx x 4 19 [(0, vr (xg x) 105), (1, vi w136), (2, vi w140)] [] M122))))) : Gx x 4 118 [(0, vr (xg x) 105), (1, vi v1), (2, vi v2), (3, vi v3)] [] M := by
  refine g_aload_n (q := 119) C dX6_isGreedy_118 rfl 0 rfl rfl ?_
  refine g_iload_n (q := 120) C dX6_isGreedy_119 rfl 1 rfl rfl ?_
  refine g_iload_n (q := 121) C dX6_isGreedy_120 rfl 2 rfl rfl ?_
  refine g_iload_n (q := 122) C dX6_isGreedy_121 rfl 3 rfl rfl ?_
  obtain ⟨p122, hM, H⟩ := H
  refine g_callV (q := 125) (As := [vi v1, vi v2, vi v3]) (st := []) (na := 3) C mX6_addPage (by decide) (celr_6 (by decide)) rfl hM wm_20_12 wm_20_13 wm_20_14 wm_1_5 wm_20_15 (by decide +kernel) rfl rfl (by decide) rfl (Nat.le_of_ble_eq_true rfl) dX6_isGreedy_122 rfl (fun r122 M122 hp => ?_)
  have H := H r122 M122 hp
  show Gx x 4 125 [(0, vr (xg x) 105), (1, vi v1), (2, vi v2), (3, vi v3)] [] M122
  refine g_aload_n (q := 126) C dX6_isGreedy_125 rfl 0 rfl rfl ?_
  refine g_get (q := 129) C (by decide) (celr_6 (by decide)) (ci := 6) (i := 14) rfl inlX6 (by decide) wm_4_22 rfl dX6_isGreedy_126 rfl ?_
  refine g_aload_n (q := 130) C dX6_isGreedy_129 rfl 0 rfl rfl ?_
  refine g_get (q := 133) C (by decide) (celr_6 (by decide)) (ci := 6) (i := 12) rfl inlX6 (by decide) wm_20_2 rfl dX6_isGreedy_130 rfl ?_
  refine g_iconst (q := 134) C dX6_isGreedy_133 rfl ?_
  refine g_isub (q := 135) C dX6_isGreedy_134 rfl ?_
  obtain ⟨hc, H⟩ := H
  refine g_iald (q := 136) (m := 160) C (by decide) (by decide) (by decide) hc (by decide) dX6_isGreedy_135 rfl ?_
  refine g_topi (fun w136 hw136 => ?_)
  have H := H w136 hw136
  refine g_istore_n (q := 137) (L2 := [(1, vi w136), (0, vr (xg x) 105), (2, vi v2), (3, vi v3)]) C dX6_isGreedy_136 rfl rfl (by decide) rfl ?_
  refine g_iload_n (q := 138) C dX6_isGreedy_137 rfl 2 rfl rfl ?_
  refine g_iload_n (q := 139) C dX6_isGreedy_138 rfl 3 rfl rfl ?_
  refine g_iadd (q := 140) C dX6_isGreedy_139 rfl ?_
  refine g_topi (fun w140 hw140 => ?_)
  have H := H w140 hw140
  refine g_istore_n (q := 141) (L2 := [(2, vi w140), (1, vi w136), (0, vr (xg x) 105), (3, vi v3)]) C dX6_isGreedy_140 rfl rfl (by decide) rfl ?_
  refine g_goto (t := 19) C dX6_isGreedy_141 (by decide) ?_
  refine g_sub [2, 1, 0] rfl ?_
  exact H
set_option maxRecDepth 10000 in
set_option maxHeartbeats 2000000 in
theorem X6_addPage_0 {x : Xx} {post : Int → Mm → Prop} (C : Cx x mX6_addPage) (hR : Rt x mX6_addPage post)  (v1 v2 v3 : Int) (M : Mm) (H : (0 ≤ M 105 12 ∧ M 105 12 < 160) ∧ (∀ M9 : Mm, M9 = mu M 116 (M 105 12) v3 → (∃ p22 : Int → Mm → Prop, Ct (xl x) (xg x) mX6_linesBehind [vr (xg x) 105, vi v1, vi v2, vi v3] M9 p22 ∧ ∀ (r22 : Int) (M22 : Mm), p22 r22 M22 → ((0 ≤ M9 105 12 ∧ M9 105 12 < 160) ∧ (∀ M25 : Mm, M25 = mu M22 117 (M9 105 12) r22 → ((0 ≤ M25 105 12 ∧ M25 105 12 < 160) ∧ (∀ M37 : Mm, M37 = mu M25 118 (M25 105 12) (v2 + v3) → (∀ M45 : Mm, M45 = mu M37 105 12 ((M37 105 12) + 1) → (post 0 M45))))))))) : Gx x 4 0 [(0, vr (xg x) 105), (1, vi v1), (2, vi v2), (3, vi v3)] [] M := by
  refine g_aload_n (q := 1) C dX6_addPage_0 rfl 0 rfl rfl ?_
  refine g_get (q := 4) C (by decide) (celr_6 (by decide)) (ci := 6) (i := 13) rfl inlX6 (by decide) wm_4_21 rfl dX6_addPage_1 rfl ?_
  refine g_aload_n (q := 5) C dX6_addPage_4 rfl 0 rfl rfl ?_
  refine g_get (q := 8) C (by decide) (celr_6 (by decide)) (ci := 6) (i := 12) rfl inlX6 (by decide) wm_20_2 rfl dX6_addPage_5 rfl ?_
  refine g_iload_n (q := 9) C dX6_addPage_8 rfl 3 rfl rfl ?_
  obtain ⟨hc, H⟩ := H
  refine g_iast (q := 10) (m := 160) C (by decide) (by decide) (by decide) hc (by decide) dX6_addPage_9 rfl ?_
  refine g_topM (fun M9 hM9 => ?_)
  have H := H M9 hM9
  refine g_aload_n (q := 11) C dX6_addPage_10 rfl 0 rfl rfl ?_
  refine g_get (q := 14) C (by decide) (celr_6 (by decide)) (ci := 6) (i := 14) rfl inlX6 (by decide) wm_4_22 rfl dX6_addPage_11 rfl ?_
  refine g_aload_n (q := 15) C dX6_addPage_14 rfl 0 rfl rfl ?_
  refine g_get (q := 18) C (by decide) (celr_6 (by decide)) (ci := 6) (i := 12) rfl inlX6 (by decide) wm_20_2 rfl dX6_addPage_15 rfl ?_
  refine g_aload_n (q := 19) C dX6_addPage_18 rfl 0 rfl rfl ?_
  refine g_iload_n (q := 20) C dX6_addPage_19 rfl 1 rfl rfl ?_
  refine g_iload_n (q := 21) C dX6_addPage_20 rfl 2 rfl rfl ?_
  refine g_iload_n (q := 22) C dX6_addPage_21 rfl 3 rfl rfl ?_
  obtain ⟨p22, hM, H⟩ := H
  refine g_callV (q := 25) (As := [vi v1, vi v2, vi v3]) (st := [vi (M9 105 12), vr (xg x) 117]) (na := 3) C mX6_linesBehind (by decide) (celr_6 (by decide)) rfl hM wm_16_13 wm_16_14 wm_16_15 wm_1_5 wm_16_16 (by decide +kernel) rfl rfl (by decide) rfl (Nat.le_of_ble_eq_true rfl) dX6_addPage_22 rfl (fun r22 M22 hp => ?_)
  have H := H r22 M22 hp
  show Gx x 4 25 [(0, vr (xg x) 105), (1, vi v1), (2, vi v2), (3, vi v3)] [vi r22, vi (M9 105 12), vr (xg x) 117] M22
  obtain ⟨hc, H⟩ := H
  refine g_iast (q := 26) (m := 160) C (by decide) (by decide) (by decide) hc (by decide) dX6_addPage_25 rfl ?_
  refine g_topM (fun M25 hM25 => ?_)
  have H := H M25 hM25
  refine g_aload_n (q := 27) C dX6_addPage_26 rfl 0 rfl rfl ?_
  refine g_get (q := 30) C (by decide) (celr_6 (by decide)) (ci := 6) (i := 15) rfl inlX6 (by decide) wm_4_23 rfl dX6_addPage_27 rfl ?_
  refine g_aload_n (q := 31) C dX6_addPage_30 rfl 0 rfl rfl ?_
  refine g_get (q := 34) C (by decide) (celr_6 (by decide)) (ci := 6) (i := 12) rfl inlX6 (by decide) wm_20_2 rfl dX6_addPage_31 rfl ?_
  refine g_iload_n (q := 35) C dX6_addPage_34 rfl 2 rfl rfl ?_
  refine g_iload_n (q := 36) C dX6_addPage_35 rfl 3 rfl rfl ?_
  refine g_iadd (q := 37) C dX6_addPage_36 rfl ?_
  obtain ⟨hc, H⟩ := H
  refine g_iast (q := 38) (m := 160) C (by decide) (by decide) (by decide) hc (by decide) dX6_addPage_37 rfl ?_
  refine g_topM (fun M37 hM37 => ?_)
  have H := H M37 hM37
  refine g_aload_n (q := 39) C dX6_addPage_38 rfl 0 rfl rfl ?_
  refine g_dup (q := 40) C dX6_addPage_39 rfl rfl ?_
  refine g_get (q := 43) C (by decide) (celr_6 (by decide)) (ci := 6) (i := 12) rfl inlX6 (by decide) wm_20_2 rfl dX6_addPage_40 rfl ?_
  refine g_iconst (q := 44) C dX6_addPage_43 rfl ?_
  refine g_iadd (q := 45) C dX6_addPage_44 rfl ?_
  refine g_put (q := 48) (ty := .int) C (by decide) (celr_6 (by decide)) (ci := 6) (i := 12) rfl inlX6 tyX6_ok nmX6 (by decide) wm_20_2 rfl rfl rfl rfl (Nat.le_of_ble_eq_true rfl) (by rw [celr_6 (by decide)]; rfl) dX6_addPage_45 rfl ?_
  refine g_topM (fun M45 hM45 => ?_)
  have H := H M45 hM45
  exact g_ret C hR dX6_addPage_48 rfl H
set_option maxRecDepth 10000 in
set_option maxHeartbeats 2000000 in
theorem X6_paidOfAll_0 {x : Xx} {post : Int → Mm → Prop} (C : Cx x mX6_paidOfAll) (hR : Rt x mX6_paidOfAll post)  (M : Mm) (H : Gx x 3 4 [(0, vr (xg x) 105), (1, vi 0), (2, vi 0)] [] M) : Gx x 3 0 [(0, vr (xg x) 105)] [] M := by
  refine g_iconst (q := 1) C dX6_paidOfAll_0 rfl ?_
  refine g_istore_n (q := 2) (L2 := [(1, vi 0), (0, vr (xg x) 105)]) C dX6_paidOfAll_1 rfl rfl (by decide) rfl ?_
  refine g_iconst (q := 3) C dX6_paidOfAll_2 rfl ?_
  refine g_istore_n (q := 4) (L2 := [(2, vi 0), (1, vi 0), (0, vr (xg x) 105)]) C dX6_paidOfAll_3 rfl rfl (by decide) rfl ?_
  refine g_sub [2, 1, 0] rfl ?_
  exact H
set_option maxRecDepth 10000 in
set_option maxHeartbeats 2000000 in
theorem X6_paidOfAll_4 {x : Xx} {post : Int → Mm → Prop} (C : Cx x mX6_paidOfAll) (hR : Rt x mX6_paidOfAll post)  (v1 v2 : Int) (M : Mm) (H : (inR v2 ∧ inR (M 105 12)) ∧ (M 105 12 ≤ v2 → (post v1 M)) ∧ (¬ (M 105 12 ≤ v2) → ((0 ≤ v2 ∧ v2 < 160) ∧ ((0 ≤ v2 ∧ v2 < 160) ∧ (∃ p26 : Int → Mm → Prop, Ct (xl x) (xg x) mX6_paid [vr (xg x) 105, vi (M 117 v2), vi (M 118 v2)] M p26 ∧ ∀ (r26 : Int) (M26 : Mm), p26 r26 M26 → (∀ w30 : Int, w30 = (v1 + r26) → (Gx x 3 4 [(0, vr (xg x) 105), (1, vi w30), (2, vi (v2 + 1))] [] M26))))))) : Gx x 3 4 [(0, vr (xg x) 105), (1, vi v1), (2, vi v2)] [] M := by
  refine g_iload_n (q := 5) C dX6_paidOfAll_4 rfl 2 rfl rfl ?_
  refine g_aload_n (q := 6) C dX6_paidOfAll_5 rfl 0 rfl rfl ?_
  refine g_get (q := 9) C (by decide) (celr_6 (by decide)) (ci := 6) (i := 12) rfl inlX6 (by decide) wm_20_2 rfl dX6_paidOfAll_6 rfl ?_
  obtain ⟨hr, Ht, Hf⟩ := H
  refine g_icmp_ge (q := 12) (t := 37) C dX6_paidOfAll_9 rfl (by decide) hr (fun hc => ?_) (fun hc => ?_)
  · have H := Ht hc
    refine g_iload_n (q := 38) C dX6_paidOfAll_37 rfl 1 rfl rfl ?_
    exact g_iret C hR dX6_paidOfAll_38 rfl H
  · have H := Hf hc
    refine g_iload_n (q := 13) C dX6_paidOfAll_12 rfl 1 rfl rfl ?_
    refine g_aload_n (q := 14) C dX6_paidOfAll_13 rfl 0 rfl rfl ?_
    refine g_aload_n (q := 15) C dX6_paidOfAll_14 rfl 0 rfl rfl ?_
    refine g_get (q := 18) C (by decide) (celr_6 (by decide)) (ci := 6) (i := 14) rfl inlX6 (by decide) wm_4_22 rfl dX6_paidOfAll_15 rfl ?_
    refine g_iload_n (q := 19) C dX6_paidOfAll_18 rfl 2 rfl rfl ?_
    obtain ⟨hc, H⟩ := H
    refine g_iald (q := 20) (m := 160) C (by decide) (by decide) (by decide) hc (by decide) dX6_paidOfAll_19 rfl ?_
    refine g_aload_n (q := 21) C dX6_paidOfAll_20 rfl 0 rfl rfl ?_
    refine g_get (q := 24) C (by decide) (celr_6 (by decide)) (ci := 6) (i := 15) rfl inlX6 (by decide) wm_4_23 rfl dX6_paidOfAll_21 rfl ?_
    refine g_iload_n (q := 25) C dX6_paidOfAll_24 rfl 2 rfl rfl ?_
    obtain ⟨hc, H⟩ := H
    refine g_iald (q := 26) (m := 160) C (by decide) (by decide) (by decide) hc (by decide) dX6_paidOfAll_25 rfl ?_
    obtain ⟨p26, hM, H⟩ := H
    refine g_callV (q := 29) (As := [vi (M 117 v2), vi (M 118 v2)]) (st := [vi v1]) (na := 2) C mX6_paid (by decide) (celr_6 (by decide)) rfl hM wm_17_5 wm_17_6 wm_17_7 wm_1_5 wm_17_8 (by decide +kernel) rfl rfl (by decide) rfl (Nat.le_of_ble_eq_true rfl) dX6_paidOfAll_26 rfl (fun r26 M26 hp => ?_)
    have H := H r26 M26 hp
    show Gx x 3 29 [(0, vr (xg x) 105), (1, vi v1), (2, vi v2)] [vi r26, vi v1] M26
    refine g_iadd (q := 30) C dX6_paidOfAll_29 rfl ?_
    refine g_topi (fun w30 hw30 => ?_)
    have H := H w30 hw30
    refine g_istore_n (q := 31) (L2 := [(1, vi w30), (0, vr (xg x) 105), (2, vi v2)]) C dX6_paidOfAll_30 rfl rfl (by decide) rfl ?_
    refine g_iinc (q := 34) (L2 := [(2, vi (v2 + 1)), (1, vi w30), (0, vr (xg x) 105)]) C dX6_paidOfAll_31 rfl 2 rfl (by decide) rfl ?_
    refine g_goto (t := 4) C dX6_paidOfAll_34 (by decide) ?_
    refine g_sub [2, 1, 0] rfl ?_
    exact H
set_option maxRecDepth 10000 in
set_option maxHeartbeats 2000000 in
theorem X6_layPlaces_0 {x : Xx} {post : Int → Mm → Prop} (C : Cx x mX6_layPlaces) (hR : Rt x mX6_layPlaces post)  (M : Mm) (H : Gx x 6 2 [(0, vr (xg x) 105), (1, vi 0)] [] M) : Gx x 6 0 [(0, vr (xg x) 105)] [] M := by
  refine g_iconst (q := 1) C dX6_layPlaces_0 rfl ?_
  refine g_istore_n (q := 2) (L2 := [(1, vi 0), (0, vr (xg x) 105)]) C dX6_layPlaces_1 rfl rfl (by decide) rfl ?_
  refine g_sub [1, 0] rfl ?_
  exact H
set_option maxRecDepth 10000 in
set_option maxHeartbeats 2000000 in
theorem X6_layPlaces_2 {x : Xx} {post : Int → Mm → Prop} (C : Cx x mX6_layPlaces) (hR : Rt x mX6_layPlaces post)  (v1 : Int) (M : Mm) (H : (inR v1) ∧ (1331 ≤ v1 → (∃ p23 : Int → Mm → Prop, Ct (xl x) (xg x) mX6_bestOf [vr (xg x) 105] M p23 ∧ ∀ (r23 : Int) (M23 : Mm), p23 r23 M23 → ((inR r23) ∧ (¬ (r23 = (-1)) → (∀ M38 : Mm, M38 = mu M23 115 0 1 → (Gx x 6 43 [(0, vr (xg x) 105), (1, vi 0), (2, vi 0)] [] M38))) ∧ (r23 = (-1) → (post 0 M23))))) ∧ (¬ (1331 ≤ v1) → ((0 ≤ v1 ∧ v1 < 1331) ∧ (∀ M15 : Mm, M15 = mu M 115 v1 0 → (Gx x 6 2 [(0, vr (xg x) 105), (1, vi (v1 + 1))] [] M15))))) : Gx x 6 2 [(0, vr (xg x) 105), (1, vi v1)] [] M := by
  refine g_iload_n (q := 3) C dX6_layPlaces_2 rfl 1 rfl rfl ?_
  refine g_sipush (q := 6) C dX6_layPlaces_3 rfl (by decide) ?_
  obtain ⟨hr, Ht, Hf⟩ := H
  refine g_icmp_ge (q := 9) (t := 22) C dX6_layPlaces_6 rfl (by decide) ⟨hr, by decide⟩ (fun hc => ?_) (fun hc => ?_)
  · have H := Ht hc
    refine g_aload_n (q := 23) C dX6_layPlaces_22 rfl 0 rfl rfl ?_
    obtain ⟨p23, hM, H⟩ := H
    refine g_callV (q := 26) (As := []) (st := []) (na := 0) C mX6_bestOf (by decide) (celr_6 (by decide)) rfl hM wm_15_4 wm_15_5 wm_15_6 wm_1_5 wm_15_7 (by decide +kernel) rfl rfl (by decide) rfl (Nat.le_of_ble_eq_true rfl) dX6_layPlaces_23 rfl (fun r23 M23 hp => ?_)
    have H := H r23 M23 hp
    show Gx x 6 26 [(0, vr (xg x) 105), (1, vi v1)] [vi r23] M23
    refine g_iconst (q := 27) C dX6_layPlaces_26 rfl ?_
    obtain ⟨hr, Ht, Hf⟩ := H
    refine g_icmp_ne (q := 30) (t := 32) C dX6_layPlaces_27 rfl (by decide) ⟨hr, by decide⟩ (fun hc => ?_) (fun hc => ?_)
    · have H := Ht hc
      refine g_aload_n (q := 33) C dX6_layPlaces_32 rfl 0 rfl rfl ?_
      refine g_get (q := 36) C (by decide) (celr_6 (by decide)) (ci := 6) (i := 11) rfl inlX6 (by decide) wm_4_20 rfl dX6_layPlaces_33 rfl ?_
      refine g_iconst (q := 37) C dX6_layPlaces_36 rfl ?_
      refine g_iconst (q := 38) C dX6_layPlaces_37 rfl ?_
      refine g_zast (q := 39) (m := 1331) C (by decide) (by decide) (by decide) (by decide) (by decide) (by decide) dX6_layPlaces_38 rfl ?_
      refine g_topM (fun M38 hM38 => ?_)
      have H := H M38 hM38
      refine g_iconst (q := 40) C dX6_layPlaces_39 rfl ?_
      refine g_istore_n (q := 41) (L2 := [(1, vi 0), (0, vr (xg x) 105)]) C dX6_layPlaces_40 rfl rfl (by decide) rfl ?_
      refine g_iconst (q := 42) C dX6_layPlaces_41 rfl ?_
      refine g_istore_n (q := 43) (L2 := [(2, vi 0), (1, vi 0), (0, vr (xg x) 105)]) C dX6_layPlaces_42 rfl rfl (by decide) rfl ?_
      refine g_sub [2, 1, 0] rfl ?_
      exact H
    · have H := Hf hc
      refine g_iconst (q := 31) C dX6_layPlaces_30 rfl ?_
      exact g_iret C hR dX6_layPlaces_31 rfl H
  · have H := Hf hc
    refine g_aload_n (q := 10) C dX6_layPlaces_9 rfl 0 rfl rfl ?_
    refine g_get (q := 13) C (by decide) (celr_6 (by decide)) (ci := 6) (i := 11) rfl inlX6 (by decide) wm_4_20 rfl dX6_layPlaces_10 rfl ?_
    refine g_iload_n (q := 14) C dX6_layPlaces_13 rfl 1 rfl rfl ?_
    refine g_iconst (q := 15) C dX6_layPlaces_14 rfl ?_
    obtain ⟨hc, H⟩ := H
    refine g_zast (q := 16) (m := 1331) C (by decide) (by decide) (by decide) hc (by decide) (by decide) dX6_layPlaces_15 rfl ?_
    refine g_topM (fun M15 hM15 => ?_)
    have H := H M15 hM15
    refine g_iinc (q := 19) (L2 := [(1, vi (v1 + 1)), (0, vr (xg x) 105)]) C dX6_layPlaces_16 rfl 1 rfl (by decide) rfl ?_
    refine g_goto (t := 2) C dX6_layPlaces_19 (by decide) ?_
    refine g_sub [1, 0] rfl ?_
    exact H
set_option maxRecDepth 10000 in
set_option maxHeartbeats 2000000 in
theorem X6_layPlaces_43 {x : Xx} {post : Int → Mm → Prop} (C : Cx x mX6_layPlaces) (hR : Rt x mX6_layPlaces post)  (v1 v2 : Int) (M : Mm) (H : (inR v2 ∧ inR (M 106 0)) ∧ (M 106 0 < v2 → (post v1 M)) ∧ (¬ (M 106 0 < v2) → (Gx x 6 55 [(0, vr (xg x) 105), (1, vi v1), (2, vi v2), (3, vi 0)] [] M))) : Gx x 6 43 [(0, vr (xg x) 105), (1, vi v1), (2, vi v2)] [] M := by
  refine g_iload_n (q := 44) C dX6_layPlaces_43 rfl 2 rfl rfl ?_
  refine g_aload_n (q := 45) C dX6_layPlaces_44 rfl 0 rfl rfl ?_
  refine g_get (q := 48) C (by decide) (celr_6 (by decide)) (ci := 6) (i := 0) rfl inlX6 (by decide) wm_4_11 rfl dX6_layPlaces_45 rfl ?_
  refine g_iconst (q := 49) C dX6_layPlaces_48 rfl ?_
  refine g_iald (q := 50) (m := 47) C (by decide) (by decide) (by decide) (by decide) (by decide) dX6_layPlaces_49 rfl ?_
  obtain ⟨hr, Ht, Hf⟩ := H
  refine g_icmp_gt (q := 53) (t := 207) C dX6_layPlaces_50 rfl (by decide) hr (fun hc => ?_) (fun hc => ?_)
  · have H := Ht hc
    refine g_iload_n (q := 208) C dX6_layPlaces_207 rfl 1 rfl rfl ?_
    exact g_iret C hR dX6_layPlaces_208 rfl H
  · have H := Hf hc
    refine g_iconst (q := 54) C dX6_layPlaces_53 rfl ?_
    refine g_istore_n (q := 55) (L2 := [(3, vi 0), (0, vr (xg x) 105), (1, vi v1), (2, vi v2)]) C dX6_layPlaces_54 rfl rfl (by decide) rfl ?_
    refine g_sub [1, 2, 3, 0] rfl ?_
    exact H
set_option maxRecDepth 10000 in
set_option maxHeartbeats 2000000 in
theorem X6_layPlaces_55 {x : Xx} {post : Int → Mm → Prop} (C : Cx x mX6_layPlaces) (hR : Rt x mX6_layPlaces post)  (v1 v2 v3 : Int) (M : Mm) (H : (inR v3 ∧ inR (M 106 6)) ∧ (M 106 6 < v3 → (Gx x 6 43 [(0, vr (xg x) 105), (1, vi v1), (2, vi (v2 + 1))] [] M)) ∧ (¬ (M 106 6 < v3) → ((0 ≤ (11 * v2) + v3 ∧ (11 * v2) + v3 < 1331) ∧ ((inR (M 115 ((11 * v2) + v3))) ∧ (M 115 ((11 * v2) + v3) = 0 → (Gx x 6 55 [(0, vr (xg x) 105), (1, vi v1), (2, vi v2), (3, vi (v3 + 1))] [] M)) ∧ (¬ (M 115 ((11 * v2) + v3) = 0) → (Gx x 6 86 [(0, vr (xg x) 105), (1, vi (v1 + 1)), (2, vi v2), (3, vi v3), (4, vi 0)] [] M)))))) : Gx x 6 55 [(0, vr (xg x) 105), (1, vi v1), (2, vi v2), (3, vi v3)] [] M := by
  refine g_iload_n (q := 56) C dX6_layPlaces_55 rfl 3 rfl rfl ?_
  refine g_aload_n (q := 57) C dX6_layPlaces_56 rfl 0 rfl rfl ?_
  refine g_get (q := 60) C (by decide) (celr_6 (by decide)) (ci := 6) (i := 0) rfl inlX6 (by decide) wm_4_11 rfl dX6_layPlaces_57 rfl ?_
  refine g_bipush (q := 62) C dX6_layPlaces_60 rfl (by decide) ?_
  refine g_iald (q := 63) (m := 47) C (by decide) (by decide) (by decide) (by decide) (by decide) dX6_layPlaces_62 rfl ?_
  obtain ⟨hr, Ht, Hf⟩ := H
  refine g_icmp_gt (q := 66) (t := 201) C dX6_layPlaces_63 rfl (by decide) hr (fun hc => ?_) (fun hc => ?_)
  · have H := Ht hc
    refine g_iinc (q := 204) (L2 := [(2, vi (v2 + 1)), (0, vr (xg x) 105), (1, vi v1), (3, vi v3)]) C dX6_layPlaces_201 rfl 2 rfl (by decide) rfl ?_
    refine g_goto (t := 43) C dX6_layPlaces_204 (by decide) ?_
    refine g_sub [1, 2, 0] rfl ?_
    exact H
  · have H := Hf hc
    refine g_aload_n (q := 67) C dX6_layPlaces_66 rfl 0 rfl rfl ?_
    refine g_get (q := 70) C (by decide) (celr_6 (by decide)) (ci := 6) (i := 11) rfl inlX6 (by decide) wm_4_20 rfl dX6_layPlaces_67 rfl ?_
    refine g_bipush (q := 72) C dX6_layPlaces_70 rfl (by decide) ?_
    refine g_iload_n (q := 73) C dX6_layPlaces_72 rfl 2 rfl rfl ?_
    refine g_imul (q := 74) C dX6_layPlaces_73 rfl ?_
    refine g_iload_n (q := 75) C dX6_layPlaces_74 rfl 3 rfl rfl ?_
    refine g_iadd (q := 76) C dX6_layPlaces_75 rfl ?_
    obtain ⟨hc, H⟩ := H
    refine g_zald (q := 77) (m := 1331) C (by decide) (by decide) (by decide) hc (by decide) dX6_layPlaces_76 rfl ?_
    obtain ⟨hr, Ht, Hf⟩ := H
    refine g_if_eq (q := 80) (t := 195) C dX6_layPlaces_77 rfl (by decide) hr (fun hc => ?_) (fun hc => ?_)
    · have H := Ht hc
      refine g_iinc (q := 198) (L2 := [(3, vi (v3 + 1)), (0, vr (xg x) 105), (1, vi v1), (2, vi v2)]) C dX6_layPlaces_195 rfl 3 rfl (by decide) rfl ?_
      refine g_goto (t := 55) C dX6_layPlaces_198 (by decide) ?_
      refine g_sub [1, 2, 3, 0] rfl ?_
      exact H
    · have H := Hf hc
      refine g_iinc (q := 83) (L2 := [(1, vi (v1 + 1)), (0, vr (xg x) 105), (2, vi v2), (3, vi v3)]) C dX6_layPlaces_80 rfl 1 rfl (by decide) rfl ?_
      refine g_iconst (q := 84) C dX6_layPlaces_83 rfl ?_
      refine g_istore (q := 86) (L2 := [(4, vi 0), (1, vi (v1 + 1)), (0, vr (xg x) 105), (2, vi v2), (3, vi v3)]) C dX6_layPlaces_84 rfl (by decide) rfl ?_
      refine g_sub [2, 1, 3, 4, 0] rfl ?_
      exact H
set_option maxRecDepth 10000 in
set_option maxHeartbeats 2000000 in
theorem X6_layPlaces_86 {x : Xx} {post : Int → Mm → Prop} (C : Cx x mX6_layPlaces) (hR : Rt x mX6_layPlaces post)  (v1 v2 v3 v4 : Int) (M : Mm) (H : (inR v4 ∧ inR (M 106 4)) ∧ (M 106 4 < v4 → (Gx x 6 55 [(0, vr (xg x) 105), (1, vi v1), (2, vi v2), (3, vi (v3 + 1))] [] M)) ∧ (¬ (M 106 4 < v4) → ((inR v2 ∧ inR (M 106 0)) ∧ (¬ (v2 = M 106 0) → (Gx x 6 123 [(0, vr (xg x) 105), (1, vi v1), (2, vi v2), (3, vi v3), (4, vi v4)] [vi 0] M)) ∧ (v2 = M 106 0 → ((inR v3 ∧ inR (M 106 6)) ∧ (¬ (v3 = M 106 6) → (Gx x 6 123 [(0, vr (xg x) 105), (1, vi v1), (2, vi v2), (3, vi v3), (4, vi v4)] [vi 0] M)) ∧ (v3 = M 106 6 → (Gx x 6 123 [(0, vr (xg x) 105), (1, vi v1), (2, vi v2), (3, vi v3), (4, vi v4)] [vi 1] M))))))) : Gx x 6 86 [(0, vr (xg x) 105), (1, vi v1), (2, vi v2), (3, vi v3), (4, vi v4)] [] M := by
  refine g_iload (q := 88) C dX6_layPlaces_86 rfl 4 rfl ?_
  refine g_aload_n (q := 89) C dX6_layPlaces_88 rfl 0 rfl rfl ?_
  refine g_get (q := 92) C (by decide) (celr_6 (by decide)) (ci := 6) (i := 0) rfl inlX6 (by decide) wm_4_11 rfl dX6_layPlaces_89 rfl ?_
  refine g_iconst (q := 93) C dX6_layPlaces_92 rfl ?_
  refine g_iald (q := 94) (m := 47) C (by decide) (by decide) (by decide) (by decide) (by decide) dX6_layPlaces_93 rfl ?_
  obtain ⟨hr, Ht, Hf⟩ := H
  refine g_icmp_gt (q := 97) (t := 195) C dX6_layPlaces_94 rfl (by decide) hr (fun hc => ?_) (fun hc => ?_)
  · have H := Ht hc
    refine g_iinc (q := 198) (L2 := [(3, vi (v3 + 1)), (0, vr (xg x) 105), (1, vi v1), (2, vi v2), (4, vi v4)]) C dX6_layPlaces_195 rfl 3 rfl (by decide) rfl ?_
    refine g_goto (t := 55) C dX6_layPlaces_198 (by decide) ?_
    refine g_sub [1, 2, 3, 0] rfl ?_
    exact H
  · have H := Hf hc
    refine g_iload_n (q := 98) C dX6_layPlaces_97 rfl 2 rfl rfl ?_
    refine g_aload_n (q := 99) C dX6_layPlaces_98 rfl 0 rfl rfl ?_
    refine g_get (q := 102) C (by decide) (celr_6 (by decide)) (ci := 6) (i := 0) rfl inlX6 (by decide) wm_4_11 rfl dX6_layPlaces_99 rfl ?_
    refine g_iconst (q := 103) C dX6_layPlaces_102 rfl ?_
    refine g_iald (q := 104) (m := 47) C (by decide) (by decide) (by decide) (by decide) (by decide) dX6_layPlaces_103 rfl ?_
    obtain ⟨hr, Ht, Hf⟩ := H
    refine g_icmp_ne (q := 107) (t := 122) C dX6_layPlaces_104 rfl (by decide) hr (fun hc => ?_) (fun hc => ?_)
    · have H := Ht hc
      refine g_iconst (q := 123) C dX6_layPlaces_122 rfl ?_
      refine g_sub [0, 1, 2, 3, 4] rfl ?_
      exact H
    · have H := Hf hc
      refine g_iload_n (q := 108) C dX6_layPlaces_107 rfl 3 rfl rfl ?_
      refine g_aload_n (q := 109) C dX6_layPlaces_108 rfl 0 rfl rfl ?_
      refine g_get (q := 112) C (by decide) (celr_6 (by decide)) (ci := 6) (i := 0) rfl inlX6 (by decide) wm_4_11 rfl dX6_layPlaces_109 rfl ?_
      refine g_bipush (q := 114) C dX6_layPlaces_112 rfl (by decide) ?_
      refine g_iald (q := 115) (m := 47) C (by decide) (by decide) (by decide) (by decide) (by decide) dX6_layPlaces_114 rfl ?_
      obtain ⟨hr, Ht, Hf⟩ := H
      refine g_icmp_ne (q := 118) (t := 122) C dX6_layPlaces_115 rfl (by decide) hr (fun hc => ?_) (fun hc => ?_)
      · have H := Ht hc
        refine g_iconst (q := 123) C dX6_layPlaces_122 rfl ?_
        refine g_sub [0, 1, 2, 3, 4] rfl ?_
        exact H
      · have H := Hf hc
        refine g_iconst (q := 119) C dX6_layPlaces_118 rfl ?_
        refine g_goto (t := 123) C dX6_layPlaces_119 (by decide) ?_
        refine g_sub [0, 1, 2, 3, 4] rfl ?_
        exact H
set_option maxRecDepth 10000 in
set_option maxHeartbeats 2000000 in
theorem X6_layPlaces_123 {x : Xx} {post : Int → Mm → Prop} (C : Cx x mX6_layPlaces) (hR : Rt x mX6_layPlaces post)  (v1 v2 v3 v4 s0 : Int) (M : Mm) (H : (inR s0) ∧ (¬ (s0 = 0) → (Gx x 6 86 [(0, vr (xg x) 105), (1, vi v1), (2, vi v2), (3, vi v3), (4, vi (v4 + 1))] [] M)) ∧ (s0 = 0 → (∃ p135 : Int → Mm → Prop, Ct (xl x) (xg x) mX6_isPage [vr (xg x) 105, vi v2, vi v3, vi v4] M p135 ∧ ∀ (r135 : Int) (M135 : Mm), p135 r135 M135 → ((inR r135) ∧ (r135 = 0 → (Gx x 6 86 [(0, vr (xg x) 105), (1, vi v1), (2, vi v2), (3, vi v3), (4, vi (v4 + 1))] [] M135)) ∧ (¬ (r135 = 0) → (∃ p152 : Int → Mm → Prop, Ct (xl x) (xg x) mX6_linesBehind [vr (xg x) 105, vi v2, vi v3, vi v4] M135 p152 ∧ ∀ (r152 : Int) (M152 : Mm), p152 r152 M152 → ((0 ≤ ((11 * r152) + v3) + v4 ∧ ((11 * r152) + v3) + v4 < 1331) ∧ ((inR (M152 112 (((11 * r152) + v3) + v4))) ∧ (100000000 ≤ M152 112 (((11 * r152) + v3) + v4) → (Gx x 6 86 [(0, vr (xg x) 105), (1, vi v1), (2, vi v2), (3, vi v3), (4, vi (v4 + 1))] [] M152)) ∧ (¬ (100000000 ≤ M152 112 (((11 * r152) + v3) + v4)) → (∃ p178 : Int → Mm → Prop, Ct (xl x) (xg x) mX6_linesBehind [vr (xg x) 105, vi v2, vi v3, vi v4] M152 p178 ∧ ∀ (r178 : Int) (M178 : Mm), p178 r178 M178 → ((0 ≤ ((11 * r178) + v3) + v4 ∧ ((11 * r178) + v3) + v4 < 1331) ∧ (∀ M188 : Mm, M188 = mu M178 115 (((11 * r178) + v3) + v4) 1 → (Gx x 6 86 [(0, vr (xg x) 105), (1, vi v1), (2, vi v2), (3, vi v3), (4, vi (v4 + 1))] [] M188))))))))))))) : Gx x 6 123 [(0, vr (xg x) 105), (1, vi v1), (2, vi v2), (3, vi v3), (4, vi v4)] [vi s0] M := by
  refine g_istore (q := 125) (L2 := [(5, vi s0), (0, vr (xg x) 105), (1, vi v1), (2, vi v2), (3, vi v3), (4, vi v4)]) C dX6_layPlaces_123 rfl (by decide) rfl ?_
  refine g_iload (q := 127) C dX6_layPlaces_125 rfl 0 rfl ?_
  obtain ⟨hr, Ht, Hf⟩ := H
  refine g_if_ne (q := 130) (t := 189) C dX6_layPlaces_127 rfl (by decide) hr (fun hc => ?_) (fun hc => ?_)
  · have H := Ht hc
    refine g_iinc (q := 192) (L2 := [(4, vi (v4 + 1)), (5, vi s0), (0, vr (xg x) 105), (1, vi v1), (2, vi v2), (3, vi v3)]) C dX6_layPlaces_189 rfl 5 rfl (by decide) rfl ?_
    refine g_goto (t := 86) C dX6_layPlaces_192 (by decide) ?_
    refine g_sub [2, 3, 4, 5, 0] rfl ?_
    exact H
  · have H := Hf hc
    refine g_aload_n (q := 131) C dX6_layPlaces_130 rfl 1 rfl rfl ?_
    refine g_iload_n (q := 132) C dX6_layPlaces_131 rfl 3 rfl rfl ?_
    refine g_iload_n (q := 133) C dX6_layPlaces_132 rfl 4 rfl rfl ?_
    refine g_iload (q := 135) C dX6_layPlaces_133 rfl 5 rfl ?_
    obtain ⟨p135, hM, H⟩ := H
    refine g_callV (q := 138) (As := [vi v2, vi v3, vi v4]) (st := []) (na := 3) C mX6_isPage (by decide) (celr_6 (by decide)) rfl hM wm_15_17 wm_15_18 wm_15_19 wm_1_5 wm_15_20 (by decide +kernel) rfl rfl (by decide) rfl (Nat.le_of_ble_eq_true rfl) dX6_layPlaces_135 rfl (fun r135 M135 hp => ?_)
    have H := H r135 M135 hp
    show Gx x 6 138 [(5, vi s0), (0, vr (xg x) 105), (1, vi v1), (2, vi v2), (3, vi v3), (4, vi v4)] [vi r135] M135
    obtain ⟨hr, Ht, Hf⟩ := H
    refine g_if_eq (q := 141) (t := 189) C dX6_layPlaces_138 rfl (by decide) hr (fun hc => ?_) (fun hc => ?_)
    · have H := Ht hc
      refine g_iinc (q := 192) (L2 := [(4, vi (v4 + 1)), (5, vi s0), (0, vr (xg x) 105), (1, vi v1), (2, vi v2), (3, vi v3)]) C dX6_layPlaces_189 rfl 5 rfl (by decide) rfl ?_
      refine g_goto (t := 86) C dX6_layPlaces_192 (by decide) ?_
      refine g_sub [2, 3, 4, 5, 0] rfl ?_
      exact H
    · have H := Hf hc
      refine g_aload_n (q := 142) C dX6_layPlaces_141 rfl 1 rfl rfl ?_
      refine g_get (q := 145) C (by decide) (celr_6 (by decide)) (ci := 6) (i := 8) rfl inlX6 (by decide) wm_4_17 rfl dX6_layPlaces_142 rfl ?_
      refine g_bipush (q := 147) C dX6_layPlaces_145 rfl (by decide) ?_
      refine g_aload_n (q := 148) C dX6_layPlaces_147 rfl 1 rfl rfl ?_
      refine g_iload_n (q := 149) C dX6_layPlaces_148 rfl 3 rfl rfl ?_
      refine g_iload_n (q := 150) C dX6_layPlaces_149 rfl 4 rfl rfl ?_
      refine g_iload (q := 152) C dX6_layPlaces_150 rfl 5 rfl ?_
      obtain ⟨p152, hM, H⟩ := H
      refine g_callV (q := 155) (As := [vi v2, vi v3, vi v4]) (st := [vi 11, vr (xg x) 112]) (na := 3) C mX6_linesBehind (by decide) (celr_6 (by decide)) rfl hM wm_16_13 wm_16_14 wm_16_15 wm_1_5 wm_16_16 (by decide +kernel) rfl rfl (by decide) rfl (Nat.le_of_ble_eq_true rfl) dX6_layPlaces_152 rfl (fun r152 M152 hp => ?_)
      have H := H r152 M152 hp
      show Gx x 6 155 [(5, vi s0), (0, vr (xg x) 105), (1, vi v1), (2, vi v2), (3, vi v3), (4, vi v4)] [vi r152, vi 11, vr (xg x) 112] M152
      refine g_imul (q := 156) C dX6_layPlaces_155 rfl ?_
      refine g_iload_n (q := 157) C dX6_layPlaces_156 rfl 4 rfl rfl ?_
      refine g_iadd (q := 158) C dX6_layPlaces_157 rfl ?_
      refine g_iload (q := 160) C dX6_layPlaces_158 rfl 5 rfl ?_
      refine g_iadd (q := 161) C dX6_layPlaces_160 rfl ?_
      obtain ⟨hc, H⟩ := H
      refine g_iald (q := 162) (m := 1331) C (by decide) (by decide) (by decide) hc (by decide) dX6_layPlaces_161 rfl ?_
      refine g_ldc (q := 164) (z := 100000000) C dX6_layPlaces_162 rfl wc_15_8 ?_
      obtain ⟨hr, Ht, Hf⟩ := H
      refine g_icmp_ge (q := 167) (t := 189) C dX6_layPlaces_164 rfl (by decide) ⟨hr, by decide⟩ (fun hc => ?_) (fun hc => ?_)
      · have H := Ht hc
        refine g_iinc (q := 192) (L2 := [(4, vi (v4 + 1)), (5, vi s0), (0, vr (xg x) 105), (1, vi v1), (2, vi v2), (3, vi v3)]) C dX6_layPlaces_189 rfl 5 rfl (by decide) rfl ?_
        refine g_goto (t := 86) C dX6_layPlaces_192 (by decide) ?_
        refine g_sub [2, 3, 4, 5, 0] rfl ?_
        exact H
      · have H := Hf hc
        refine g_aload_n (q := 168) C dX6_layPlaces_167 rfl 1 rfl rfl ?_
        refine g_get (q := 171) C (by decide) (celr_6 (by decide)) (ci := 6) (i := 11) rfl inlX6 (by decide) wm_4_20 rfl dX6_layPlaces_168 rfl ?_
        refine g_bipush (q := 173) C dX6_layPlaces_171 rfl (by decide) ?_
        refine g_aload_n (q := 174) C dX6_layPlaces_173 rfl 1 rfl rfl ?_
        refine g_iload_n (q := 175) C dX6_layPlaces_174 rfl 3 rfl rfl ?_
        refine g_iload_n (q := 176) C dX6_layPlaces_175 rfl 4 rfl rfl ?_
        refine g_iload (q := 178) C dX6_layPlaces_176 rfl 5 rfl ?_
        obtain ⟨p178, hM, H⟩ := H
        refine g_callV (q := 181) (As := [vi v2, vi v3, vi v4]) (st := [vi 11, vr (xg x) 115]) (na := 3) C mX6_linesBehind (by decide) (celr_6 (by decide)) rfl hM wm_16_13 wm_16_14 wm_16_15 wm_1_5 wm_16_16 (by decide +kernel) rfl rfl (by decide) rfl (Nat.le_of_ble_eq_true rfl) dX6_layPlaces_178 rfl (fun r178 M178 hp => ?_)
        have H := H r178 M178 hp
        show Gx x 6 181 [(5, vi s0), (0, vr (xg x) 105), (1, vi v1), (2, vi v2), (3, vi v3), (4, vi v4)] [vi r178, vi 11, vr (xg x) 115] M178
        refine g_imul (q := 182) C dX6_layPlaces_181 rfl ?_
        refine g_iload_n (q := 183) C dX6_layPlaces_182 rfl 4 rfl rfl ?_
        refine g_iadd (q := 184) C dX6_layPlaces_183 rfl ?_
        refine g_iload (q := 186) C dX6_layPlaces_184 rfl 5 rfl ?_
        refine g_iadd (q := 187) C dX6_layPlaces_186 rfl ?_
        refine g_iconst (q := 188) C dX6_layPlaces_187 rfl ?_
        obtain ⟨hc, H⟩ := H
        refine g_zast (q := 189) (m := 1331) C (by decide) (by decide) (by decide) hc (by decide) (by decide) dX6_layPlaces_188 rfl ?_
        refine g_topM (fun M188 hM188 => ?_)
        have H := H M188 hM188
        refine g_iinc (q := 192) (L2 := [(4, vi (v4 + 1)), (5, vi s0), (0, vr (xg x) 105), (1, vi v1), (2, vi v2), (3, vi v3)]) C dX6_layPlaces_189 rfl 5 rfl (by decide) rfl ?_
        refine g_goto (t := 86) C dX6_layPlaces_192 (by decide) ?_
        refine g_sub [2, 3, 4, 5, 0] rfl ?_
        exact H
set_option maxRecDepth 10000 in
set_option maxHeartbeats 2000000 in
theorem X6_heaviest_0 {x : Xx} {post : Int → Mm → Prop} (C : Cx x mX6_heaviest) (hR : Rt x mX6_heaviest post)  (M : Mm) (H : ∃ p1 : Int → Mm → Prop, Ct (xl x) (xg x) mX6_isPlanned [vr (xg x) 105] M p1 ∧ ∀ (r1 : Int) (M1 : Mm), p1 r1 M1 → ((inR r1) ∧ (¬ (r1 = 0) → (Gx x 4 15 [(0, vr (xg x) 105), (1, vi (-1)), (2, vi 0), (3, vi 0)] [] M1)) ∧ (r1 = 0 → (post (-1) M1)))) : Gx x 4 0 [(0, vr (xg x) 105)] [] M := by
  refine g_aload_n (q := 1) C dX6_heaviest_0 rfl 0 rfl rfl ?_
  obtain ⟨p1, hM, H⟩ := H
  refine g_callV (q := 4) (As := []) (st := []) (na := 0) C mX6_isPlanned (by decide) (celr_6 (by decide)) rfl hM wm_21_4 wm_21_5 wm_21_6 wm_1_5 wm_21_7 (by decide +kernel) rfl rfl (by decide) rfl (Nat.le_of_ble_eq_true rfl) dX6_heaviest_1 rfl (fun r1 M1 hp => ?_)
  have H := H r1 M1 hp
  show Gx x 4 4 [(0, vr (xg x) 105)] [vi r1] M1
  obtain ⟨hr, Ht, Hf⟩ := H
  refine g_if_ne (q := 7) (t := 9) C dX6_heaviest_4 rfl (by decide) hr (fun hc => ?_) (fun hc => ?_)
  · have H := Ht hc
    refine g_iconst (q := 10) C dX6_heaviest_9 rfl ?_
    refine g_istore_n (q := 11) (L2 := [(1, vi (-1)), (0, vr (xg x) 105)]) C dX6_heaviest_10 rfl rfl (by decide) rfl ?_
    refine g_iconst (q := 12) C dX6_heaviest_11 rfl ?_
    refine g_istore_n (q := 13) (L2 := [(2, vi 0), (1, vi (-1)), (0, vr (xg x) 105)]) C dX6_heaviest_12 rfl rfl (by decide) rfl ?_
    refine g_iconst (q := 14) C dX6_heaviest_13 rfl ?_
    refine g_istore_n (q := 15) (L2 := [(3, vi 0), (2, vi 0), (1, vi (-1)), (0, vr (xg x) 105)]) C dX6_heaviest_14 rfl rfl (by decide) rfl ?_
    refine g_sub [3, 2, 1, 0] rfl ?_
    exact H
  · have H := Hf hc
    refine g_iconst (q := 8) C dX6_heaviest_7 rfl ?_
    exact g_iret C hR dX6_heaviest_8 rfl H
set_option maxRecDepth 10000 in
set_option maxHeartbeats 2000000 in
theorem X6_heaviest_15 {x : Xx} {post : Int → Mm → Prop} (C : Cx x mX6_heaviest) (hR : Rt x mX6_heaviest post)  (v1 v2 v3 : Int) (M : Mm) (H : (inR v3 ∧ inR (M 106 6)) ∧ (M 106 6 ≤ v3 → (post v1 M)) ∧ (¬ (M 106 6 ≤ v3) → (∃ p28 : Int → Mm → Prop, Ct (xl x) (xg x) mX6_costOf [vr (xg x) 105, vi v3] M p28 ∧ ∀ (r28 : Int) (M28 : Mm), p28 r28 M28 → ((inR r28 ∧ inR v2) ∧ (r28 ≤ v2 → (Gx x 4 40 [(0, vr (xg x) 105), (2, vi v2), (3, vi v3)] [vi v1] M28)) ∧ (¬ (r28 ≤ v2) → (Gx x 4 40 [(0, vr (xg x) 105), (2, vi v2), (3, vi v3)] [vi v3] M28)))))) : Gx x 4 15 [(0, vr (xg x) 105), (1, vi v1), (2, vi v2), (3, vi v3)] [] M := by
  refine g_iload_n (q := 16) C dX6_heaviest_15 rfl 3 rfl rfl ?_
  refine g_aload_n (q := 17) C dX6_heaviest_16 rfl 0 rfl rfl ?_
  refine g_get (q := 20) C (by decide) (celr_6 (by decide)) (ci := 6) (i := 0) rfl inlX6 (by decide) wm_4_11 rfl dX6_heaviest_17 rfl ?_
  refine g_bipush (q := 22) C dX6_heaviest_20 rfl (by decide) ?_
  refine g_iald (q := 23) (m := 47) C (by decide) (by decide) (by decide) (by decide) (by decide) dX6_heaviest_22 rfl ?_
  obtain ⟨hr, Ht, Hf⟩ := H
  refine g_icmp_ge (q := 26) (t := 66) C dX6_heaviest_23 rfl (by decide) hr (fun hc => ?_) (fun hc => ?_)
  · have H := Ht hc
    refine g_iload_n (q := 67) C dX6_heaviest_66 rfl 1 rfl rfl ?_
    exact g_iret C hR dX6_heaviest_67 rfl H
  · have H := Hf hc
    refine g_aload_n (q := 27) C dX6_heaviest_26 rfl 0 rfl rfl ?_
    refine g_iload_n (q := 28) C dX6_heaviest_27 rfl 3 rfl rfl ?_
    obtain ⟨p28, hM, H⟩ := H
    refine g_callV (q := 31) (As := [vi v3]) (st := []) (na := 1) C mX6_costOf (by decide) (celr_6 (by decide)) rfl hM wm_21_12 wm_21_13 wm_21_14 wm_1_5 wm_21_15 (by decide +kernel) rfl rfl (by decide) rfl (Nat.le_of_ble_eq_true rfl) dX6_heaviest_28 rfl (fun r28 M28 hp => ?_)
    have H := H r28 M28 hp
    show Gx x 4 31 [(0, vr (xg x) 105), (1, vi v1), (2, vi v2), (3, vi v3)] [vi r28] M28
    refine g_iload_n (q := 32) C dX6_heaviest_31 rfl 2 rfl rfl ?_
    obtain ⟨hr, Ht, Hf⟩ := H
    refine g_icmp_le (q := 35) (t := 39) C dX6_heaviest_32 rfl (by decide) hr (fun hc => ?_) (fun hc => ?_)
    · have H := Ht hc
      refine g_iload_n (q := 40) C dX6_heaviest_39 rfl 1 rfl rfl ?_
      refine g_sub [0, 2, 3] rfl ?_
      exact H
    · have H := Hf hc
      refine g_iload_n (q := 36) C dX6_heaviest_35 rfl 3 rfl rfl ?_
      refine g_goto (t := 40) C dX6_heaviest_36 (by decide) ?_
      refine g_sub [0, 2, 3] rfl ?_
      exact H
set_option maxRecDepth 10000 in
set_option maxHeartbeats 2000000 in
theorem X6_heaviest_40 {x : Xx} {post : Int → Mm → Prop} (C : Cx x mX6_heaviest) (hR : Rt x mX6_heaviest post)  (v2 v3 s0 : Int) (M : Mm) (H : ∃ p43 : Int → Mm → Prop, Ct (xl x) (xg x) mX6_costOf [vr (xg x) 105, vi v3] M p43 ∧ ∀ (r43 : Int) (M43 : Mm), p43 r43 M43 → ((inR r43 ∧ inR v2) ∧ (r43 ≤ v2 → (Gx x 4 15 [(0, vr (xg x) 105), (1, vi s0), (2, vi v2), (3, vi (v3 + 1))] [] M43)) ∧ (¬ (r43 ≤ v2) → (∃ p52 : Int → Mm → Prop, Ct (xl x) (xg x) mX6_costOf [vr (xg x) 105, vi v3] M43 p52 ∧ ∀ (r52 : Int) (M52 : Mm), p52 r52 M52 → (Gx x 4 15 [(0, vr (xg x) 105), (1, vi s0), (2, vi r52), (3, vi (v3 + 1))] [] M52))))) : Gx x 4 40 [(0, vr (xg x) 105), (2, vi v2), (3, vi v3)] [vi s0] M := by
  refine g_istore_n (q := 41) (L2 := [(1, vi s0), (0, vr (xg x) 105), (2, vi v2), (3, vi v3)]) C dX6_heaviest_40 rfl rfl (by decide) rfl ?_
  refine g_aload_n (q := 42) C dX6_heaviest_41 rfl 1 rfl rfl ?_
  refine g_iload_n (q := 43) C dX6_heaviest_42 rfl 3 rfl rfl ?_
  obtain ⟨p43, hM, H⟩ := H
  refine g_callV (q := 46) (As := [vi v3]) (st := []) (na := 1) C mX6_costOf (by decide) (celr_6 (by decide)) rfl hM wm_21_12 wm_21_13 wm_21_14 wm_1_5 wm_21_15 (by decide +kernel) rfl rfl (by decide) rfl (Nat.le_of_ble_eq_true rfl) dX6_heaviest_43 rfl (fun r43 M43 hp => ?_)
  have H := H r43 M43 hp
  show Gx x 4 46 [(1, vi s0), (0, vr (xg x) 105), (2, vi v2), (3, vi v3)] [vi r43] M43
  refine g_iload_n (q := 47) C dX6_heaviest_46 rfl 2 rfl rfl ?_
  obtain ⟨hr, Ht, Hf⟩ := H
  refine g_icmp_le (q := 50) (t := 58) C dX6_heaviest_47 rfl (by decide) hr (fun hc => ?_) (fun hc => ?_)
  · have H := Ht hc
    refine g_iload_n (q := 59) C dX6_heaviest_58 rfl 2 rfl rfl ?_
    refine g_istore_n (q := 60) (L2 := [(2, vi v2), (1, vi s0), (0, vr (xg x) 105), (3, vi v3)]) C dX6_heaviest_59 rfl rfl (by decide) rfl ?_
    refine g_iinc (q := 63) (L2 := [(3, vi (v3 + 1)), (2, vi v2), (1, vi s0), (0, vr (xg x) 105)]) C dX6_heaviest_60 rfl 3 rfl (by decide) rfl ?_
    refine g_goto (t := 15) C dX6_heaviest_63 (by decide) ?_
    refine g_sub [3, 2, 1, 0] rfl ?_
    exact H
  · have H := Hf hc
    refine g_aload_n (q := 51) C dX6_heaviest_50 rfl 1 rfl rfl ?_
    refine g_iload_n (q := 52) C dX6_heaviest_51 rfl 3 rfl rfl ?_
    obtain ⟨p52, hM, H⟩ := H
    refine g_callV (q := 55) (As := [vi v3]) (st := []) (na := 1) C mX6_costOf (by decide) (celr_6 (by decide)) rfl hM wm_21_12 wm_21_13 wm_21_14 wm_1_5 wm_21_15 (by decide +kernel) rfl rfl (by decide) rfl (Nat.le_of_ble_eq_true rfl) dX6_heaviest_52 rfl (fun r52 M52 hp => ?_)
    have H := H r52 M52 hp
    show Gx x 4 55 [(1, vi s0), (0, vr (xg x) 105), (2, vi v2), (3, vi v3)] [vi r52] M52
    refine g_goto (t := 59) C dX6_heaviest_55 (by decide) ?_
    refine g_istore_n (q := 60) (L2 := [(2, vi r52), (1, vi s0), (0, vr (xg x) 105), (3, vi v3)]) C dX6_heaviest_59 rfl rfl (by decide) rfl ?_
    refine g_iinc (q := 63) (L2 := [(3, vi (v3 + 1)), (2, vi r52), (1, vi s0), (0, vr (xg x) 105)]) C dX6_heaviest_60 rfl 3 rfl (by decide) rfl ?_
    refine g_goto (t := 15) C dX6_heaviest_63 (by decide) ?_
    refine g_sub [3, 2, 1, 0] rfl ?_
    exact H
set_option maxRecDepth 10000 in
set_option maxHeartbeats 2000000 in
theorem X6_isPlanned_0 {x : Xx} {post : Int → Mm → Prop} (C : Cx x mX6_isPlanned) (hR : Rt x mX6_isPlanned post)  (M : Mm) (H : ∀ M2 : Mm, M2 = mu M 105 12 0 → (∃ p6 : Int → Mm → Prop, Ct (xl x) (xg x) mX6_bestOf [vr (xg x) 105] M2 p6 ∧ ∀ (r6 : Int) (M6 : Mm), p6 r6 M6 → ((inR r6) ∧ (¬ (r6 = (-1)) → (Gx x 4 19 [(0, vr (xg x) 105), (1, vi 0), (2, vi 0)] [] M6)) ∧ (r6 = (-1) → (post 0 M6))))) : Gx x 4 0 [(0, vr (xg x) 105)] [] M := by
  refine g_aload_n (q := 1) C dX6_isPlanned_0 rfl 0 rfl rfl ?_
  refine g_iconst (q := 2) C dX6_isPlanned_1 rfl ?_
  refine g_put (q := 5) (ty := .int) C (by decide) (celr_6 (by decide)) (ci := 6) (i := 12) rfl inlX6 tyX6_ok nmX6 (by decide) wm_20_2 rfl rfl rfl rfl (Nat.le_of_ble_eq_true rfl) (by rw [celr_6 (by decide)]; rfl) dX6_isPlanned_2 rfl ?_
  refine g_topM (fun M2 hM2 => ?_)
  have H := H M2 hM2
  refine g_aload_n (q := 6) C dX6_isPlanned_5 rfl 0 rfl rfl ?_
  obtain ⟨p6, hM, H⟩ := H
  refine g_callV (q := 9) (As := []) (st := []) (na := 0) C mX6_bestOf (by decide) (celr_6 (by decide)) rfl hM wm_15_4 wm_15_5 wm_15_6 wm_1_5 wm_15_7 (by decide +kernel) rfl rfl (by decide) rfl (Nat.le_of_ble_eq_true rfl) dX6_isPlanned_6 rfl (fun r6 M6 hp => ?_)
  have H := H r6 M6 hp
  show Gx x 4 9 [(0, vr (xg x) 105)] [vi r6] M6
  refine g_iconst (q := 10) C dX6_isPlanned_9 rfl ?_
  obtain ⟨hr, Ht, Hf⟩ := H
  refine g_icmp_ne (q := 13) (t := 15) C dX6_isPlanned_10 rfl (by decide) ⟨hr, by decide⟩ (fun hc => ?_) (fun hc => ?_)
  · have H := Ht hc
    refine g_iconst (q := 16) C dX6_isPlanned_15 rfl ?_
    refine g_istore_n (q := 17) (L2 := [(1, vi 0), (0, vr (xg x) 105)]) C dX6_isPlanned_16 rfl rfl (by decide) rfl ?_
    refine g_iconst (q := 18) C dX6_isPlanned_17 rfl ?_
    refine g_istore_n (q := 19) (L2 := [(2, vi 0), (1, vi 0), (0, vr (xg x) 105)]) C dX6_isPlanned_18 rfl rfl (by decide) rfl ?_
    refine g_sub [2, 1, 0] rfl ?_
    exact H
  · have H := Hf hc
    refine g_iconst (q := 14) C dX6_isPlanned_13 rfl ?_
    exact g_zret C hR dX6_isPlanned_14 rfl (by decide) H
set_option maxRecDepth 10000 in
set_option maxHeartbeats 2000000 in
theorem X6_isPlanned_19 {x : Xx} {post : Int → Mm → Prop} (C : Cx x mX6_isPlanned) (hR : Rt x mX6_isPlanned post)  (v1 v2 : Int) (M : Mm) (H : (inR v1 ∧ inR (M 106 0)) ∧ (v1 < M 106 0 → (Gx x 4 42 [(0, vr (xg x) 105), (1, vi v1), (2, vi v2), (3, vi 0)] [] M)) ∧ (¬ (v1 < M 106 0) → ((inR v2 ∧ inR (M 106 6)) ∧ (M 106 6 ≤ v2 → (post 1 M)) ∧ (¬ (M 106 6 ≤ v2) → (Gx x 4 42 [(0, vr (xg x) 105), (1, vi v1), (2, vi v2), (3, vi 0)] [] M))))) : Gx x 4 19 [(0, vr (xg x) 105), (1, vi v1), (2, vi v2)] [] M := by
  refine g_iload_n (q := 20) C dX6_isPlanned_19 rfl 1 rfl rfl ?_
  refine g_aload_n (q := 21) C dX6_isPlanned_20 rfl 0 rfl rfl ?_
  refine g_get (q := 24) C (by decide) (celr_6 (by decide)) (ci := 6) (i := 0) rfl inlX6 (by decide) wm_4_11 rfl dX6_isPlanned_21 rfl ?_
  refine g_iconst (q := 25) C dX6_isPlanned_24 rfl ?_
  refine g_iald (q := 26) (m := 47) C (by decide) (by decide) (by decide) (by decide) (by decide) dX6_isPlanned_25 rfl ?_
  obtain ⟨hr, Ht, Hf⟩ := H
  refine g_icmp_lt (q := 29) (t := 40) C dX6_isPlanned_26 rfl (by decide) hr (fun hc => ?_) (fun hc => ?_)
  · have H := Ht hc
    refine g_iconst (q := 41) C dX6_isPlanned_40 rfl ?_
    refine g_istore_n (q := 42) (L2 := [(3, vi 0), (0, vr (xg x) 105), (1, vi v1), (2, vi v2)]) C dX6_isPlanned_41 rfl rfl (by decide) rfl ?_
    refine g_sub [1, 2, 3, 0] rfl ?_
    exact H
  · have H := Hf hc
    refine g_iload_n (q := 30) C dX6_isPlanned_29 rfl 2 rfl rfl ?_
    refine g_aload_n (q := 31) C dX6_isPlanned_30 rfl 0 rfl rfl ?_
    refine g_get (q := 34) C (by decide) (celr_6 (by decide)) (ci := 6) (i := 0) rfl inlX6 (by decide) wm_4_11 rfl dX6_isPlanned_31 rfl ?_
    refine g_bipush (q := 36) C dX6_isPlanned_34 rfl (by decide) ?_
    refine g_iald (q := 37) (m := 47) C (by decide) (by decide) (by decide) (by decide) (by decide) dX6_isPlanned_36 rfl ?_
    obtain ⟨hr, Ht, Hf⟩ := H
    refine g_icmp_ge (q := 40) (t := 84) C dX6_isPlanned_37 rfl (by decide) hr (fun hc => ?_) (fun hc => ?_)
    · have H := Ht hc
      refine g_iconst (q := 85) C dX6_isPlanned_84 rfl ?_
      exact g_zret C hR dX6_isPlanned_85 rfl (by decide) H
    · have H := Hf hc
      refine g_iconst (q := 41) C dX6_isPlanned_40 rfl ?_
      refine g_istore_n (q := 42) (L2 := [(3, vi 0), (0, vr (xg x) 105), (1, vi v1), (2, vi v2)]) C dX6_isPlanned_41 rfl rfl (by decide) rfl ?_
      refine g_sub [1, 2, 3, 0] rfl ?_
      exact H
set_option maxRecDepth 10000 in
set_option maxHeartbeats 2000000 in
theorem X6_isPlanned_42 {x : Xx} {post : Int → Mm → Prop} (C : Cx x mX6_isPlanned) (hR : Rt x mX6_isPlanned post)  (v1 v2 v3 : Int) (M : Mm) (H : ∃ p46 : Int → Mm → Prop, Ct (xl x) (xg x) mX6_isBestPage [vr (xg x) 105, vi v1, vi v2, vi v3] M p46 ∧ ∀ (r46 : Int) (M46 : Mm), p46 r46 M46 → ((inR r46) ∧ (¬ (r46 = 0) → (∃ p62 : Int → Mm → Prop, Ct (xl x) (xg x) mX6_addPage [vr (xg x) 105, vi v1, vi v2, vi v3] M46 p62 ∧ ∀ (r62 : Int) (M62 : Mm), p62 r62 M62 → ((0 ≤ (M62 105 12) - 1 ∧ (M62 105 12) - 1 < 160) ∧ (∀ w76 : Int, w76 = (M62 117 ((M62 105 12) - 1)) → (∀ w80 : Int, w80 = (v2 + v3) → (Gx x 4 19 [(0, vr (xg x) 105), (1, vi w76), (2, vi w80)] [] M62)))))) ∧ (r46 = 0 → (Gx x 4 42 [(0, vr (xg x) 105), (1, vi v1), (2, vi v2), (3, vi (v3 + 1))] [] M46)))) : Gx x 4 42 [(0, vr (xg x) 105), (1, vi v1), (2, vi v2), (3, vi v3)] [] M := by
  refine g_aload_n (q := 43) C dX6_isPlanned_42 rfl 0 rfl rfl ?_
  refine g_iload_n (q := 44) C dX6_isPlanned_43 rfl 1 rfl rfl ?_
  refine g_iload_n (q := 45) C dX6_isPlanned_44 rfl 2 rfl rfl ?_
  refine g_iload_n (q := 46) C dX6_isPlanned_45 rfl 3 rfl rfl ?_
  obtain ⟨p46, hM, H⟩ := H
  refine g_callV (q := 49) (As := [vi v1, vi v2, vi v3]) (st := []) (na := 3) C mX6_isBestPage (by decide) (celr_6 (by decide)) rfl hM wm_21_8 wm_21_9 wm_21_10 wm_1_5 wm_21_11 (by decide +kernel) rfl rfl (by decide) rfl (Nat.le_of_ble_eq_true rfl) dX6_isPlanned_46 rfl (fun r46 M46 hp => ?_)
  have H := H r46 M46 hp
  show Gx x 4 49 [(0, vr (xg x) 105), (1, vi v1), (2, vi v2), (3, vi v3)] [vi r46] M46
  obtain ⟨hr, Ht, Hf⟩ := H
  refine g_if_ne (q := 52) (t := 58) C dX6_isPlanned_49 rfl (by decide) hr (fun hc => ?_) (fun hc => ?_)
  · have H := Ht hc
    refine g_aload_n (q := 59) C dX6_isPlanned_58 rfl 0 rfl rfl ?_
    refine g_iload_n (q := 60) C dX6_isPlanned_59 rfl 1 rfl rfl ?_
    refine g_iload_n (q := 61) C dX6_isPlanned_60 rfl 2 rfl rfl ?_
    refine g_iload_n (q := 62) C dX6_isPlanned_61 rfl 3 rfl rfl ?_
    obtain ⟨p62, hM, H⟩ := H
    refine g_callV (q := 65) (As := [vi v1, vi v2, vi v3]) (st := []) (na := 3) C mX6_addPage (by decide) (celr_6 (by decide)) rfl hM wm_20_12 wm_20_13 wm_20_14 wm_1_5 wm_20_15 (by decide +kernel) rfl rfl (by decide) rfl (Nat.le_of_ble_eq_true rfl) dX6_isPlanned_62 rfl (fun r62 M62 hp => ?_)
    have H := H r62 M62 hp
    show Gx x 4 65 [(0, vr (xg x) 105), (1, vi v1), (2, vi v2), (3, vi v3)] [] M62
    refine g_aload_n (q := 66) C dX6_isPlanned_65 rfl 0 rfl rfl ?_
    refine g_get (q := 69) C (by decide) (celr_6 (by decide)) (ci := 6) (i := 14) rfl inlX6 (by decide) wm_4_22 rfl dX6_isPlanned_66 rfl ?_
    refine g_aload_n (q := 70) C dX6_isPlanned_69 rfl 0 rfl rfl ?_
    refine g_get (q := 73) C (by decide) (celr_6 (by decide)) (ci := 6) (i := 12) rfl inlX6 (by decide) wm_20_2 rfl dX6_isPlanned_70 rfl ?_
    refine g_iconst (q := 74) C dX6_isPlanned_73 rfl ?_
    refine g_isub (q := 75) C dX6_isPlanned_74 rfl ?_
    obtain ⟨hc, H⟩ := H
    refine g_iald (q := 76) (m := 160) C (by decide) (by decide) (by decide) hc (by decide) dX6_isPlanned_75 rfl ?_
    refine g_topi (fun w76 hw76 => ?_)
    have H := H w76 hw76
    refine g_istore_n (q := 77) (L2 := [(1, vi w76), (0, vr (xg x) 105), (2, vi v2), (3, vi v3)]) C dX6_isPlanned_76 rfl rfl (by decide) rfl ?_
    refine g_iload_n (q := 78) C dX6_isPlanned_77 rfl 2 rfl rfl ?_
    refine g_iload_n (q := 79) C dX6_isPlanned_78 rfl 3 rfl rfl ?_
    refine g_iadd (q := 80) C dX6_isPlanned_79 rfl ?_
    refine g_topi (fun w80 hw80 => ?_)
    have H := H w80 hw80
    refine g_istore_n (q := 81) (L2 := [(2, vi w80), (1, vi w76), (0, vr (xg x) 105), (3, vi v3)]) C dX6_isPlanned_80 rfl rfl (by decide) rfl ?_
    refine g_goto (t := 19) C dX6_isPlanned_81 (by decide) ?_
    refine g_sub [2, 1, 0] rfl ?_
    exact H
  · have H := Hf hc
    refine g_iinc (q := 55) (L2 := [(3, vi (v3 + 1)), (0, vr (xg x) 105), (1, vi v1), (2, vi v2)]) C dX6_isPlanned_52 rfl 3 rfl (by decide) rfl ?_
    refine g_goto (t := 42) C dX6_isPlanned_55 (by decide) ?_
    refine g_sub [1, 2, 3, 0] rfl ?_
    exact H
set_option maxRecDepth 10000 in
set_option maxHeartbeats 2000000 in
theorem X6_isBestPage_0 {x : Xx} {post : Int → Mm → Prop} (C : Cx x mX6_isBestPage) (hR : Rt x mX6_isBestPage post)  (v1 v2 v3 : Int) (M : Mm) (H : ∃ p4 : Int → Mm → Prop, Ct (xl x) (xg x) mX6_isPage [vr (xg x) 105, vi v1, vi v2, vi v3] M p4 ∧ ∀ (r4 : Int) (M4 : Mm), p4 r4 M4 → ((inR r4) ∧ (¬ (r4 = 0) → (∃ p16 : Int → Mm → Prop, Ct (xl x) (xg x) mX6_linesBehind [vr (xg x) 105, vi v1, vi v2, vi v3] M4 p16 ∧ ∀ (r16 : Int) (M16 : Mm), p16 r16 M16 → (∀ w30 : Int, w30 = (((11 * r16) + v2) + v3) → (∀ w38 : Int, w38 = ((11 * v1) + v2) → ((0 ≤ w30 ∧ w30 < 1331) ∧ ((inR (M16 112 w30)) ∧ (100000000 ≤ M16 112 w30 → (post 0 M16)) ∧ (¬ (100000000 ≤ M16 112 w30) → ((0 ≤ w30 ∧ w30 < 1331) ∧ (∃ p65 : Int → Mm → Prop, Ct (xl x) (xg x) mX6_paid [vr (xg x) 105, vi r16, vi (v2 + v3)] M16 p65 ∧ ∀ (r65 : Int) (M65 : Mm), p65 r65 M65 → ((0 ≤ w38 ∧ w38 < 1331) ∧ ((inR ((M16 112 w30) + r65) ∧ inR (M65 112 w38)) ∧ (¬ ((M16 112 w30) + r65 = M65 112 w38) → (post 0 M65)) ∧ ((M16 112 w30) + r65 = M65 112 w38 → ((0 ≤ w30 ∧ w30 < 1331) ∧ ((0 ≤ w38 ∧ w38 < 1331) ∧ ((inR ((M65 113 w30) + 1) ∧ inR (M65 113 w38)) ∧ (¬ ((M65 113 w30) + 1 = M65 113 w38) → (post 0 M65)) ∧ ((M65 113 w30) + 1 = M65 113 w38 → (post 1 M65))))))))))))))))) ∧ (r4 = 0 → (post 0 M4)))) : Gx x 7 0 [(0, vr (xg x) 105), (1, vi v1), (2, vi v2), (3, vi v3)] [] M := by
  refine g_aload_n (q := 1) C dX6_isBestPage_0 rfl 0 rfl rfl ?_
  refine g_iload_n (q := 2) C dX6_isBestPage_1 rfl 1 rfl rfl ?_
  refine g_iload_n (q := 3) C dX6_isBestPage_2 rfl 2 rfl rfl ?_
  refine g_iload_n (q := 4) C dX6_isBestPage_3 rfl 3 rfl rfl ?_
  obtain ⟨p4, hM, H⟩ := H
  refine g_callV (q := 7) (As := [vi v1, vi v2, vi v3]) (st := []) (na := 3) C mX6_isPage (by decide) (celr_6 (by decide)) rfl hM wm_15_17 wm_15_18 wm_15_19 wm_1_5 wm_15_20 (by decide +kernel) rfl rfl (by decide) rfl (Nat.le_of_ble_eq_true rfl) dX6_isBestPage_4 rfl (fun r4 M4 hp => ?_)
  have H := H r4 M4 hp
  show Gx x 7 7 [(0, vr (xg x) 105), (1, vi v1), (2, vi v2), (3, vi v3)] [vi r4] M4
  obtain ⟨hr, Ht, Hf⟩ := H
  refine g_if_ne (q := 10) (t := 12) C dX6_isBestPage_7 rfl (by decide) hr (fun hc => ?_) (fun hc => ?_)
  · have H := Ht hc
    refine g_aload_n (q := 13) C dX6_isBestPage_12 rfl 0 rfl rfl ?_
    refine g_iload_n (q := 14) C dX6_isBestPage_13 rfl 1 rfl rfl ?_
    refine g_iload_n (q := 15) C dX6_isBestPage_14 rfl 2 rfl rfl ?_
    refine g_iload_n (q := 16) C dX6_isBestPage_15 rfl 3 rfl rfl ?_
    obtain ⟨p16, hM, H⟩ := H
    refine g_callV (q := 19) (As := [vi v1, vi v2, vi v3]) (st := []) (na := 3) C mX6_linesBehind (by decide) (celr_6 (by decide)) rfl hM wm_16_13 wm_16_14 wm_16_15 wm_1_5 wm_16_16 (by decide +kernel) rfl rfl (by decide) rfl (Nat.le_of_ble_eq_true rfl) dX6_isBestPage_16 rfl (fun r16 M16 hp => ?_)
    have H := H r16 M16 hp
    show Gx x 7 19 [(0, vr (xg x) 105), (1, vi v1), (2, vi v2), (3, vi v3)] [vi r16] M16
    refine g_istore (q := 21) (L2 := [(4, vi r16), (0, vr (xg x) 105), (1, vi v1), (2, vi v2), (3, vi v3)]) C dX6_isBestPage_19 rfl (by decide) rfl ?_
    refine g_bipush (q := 23) C dX6_isBestPage_21 rfl (by decide) ?_
    refine g_iload (q := 25) C dX6_isBestPage_23 rfl 0 rfl ?_
    refine g_imul (q := 26) C dX6_isBestPage_25 rfl ?_
    refine g_iload_n (q := 27) C dX6_isBestPage_26 rfl 3 rfl rfl ?_
    refine g_iadd (q := 28) C dX6_isBestPage_27 rfl ?_
    refine g_iload_n (q := 29) C dX6_isBestPage_28 rfl 4 rfl rfl ?_
    refine g_iadd (q := 30) C dX6_isBestPage_29 rfl ?_
    refine g_topi (fun w30 hw30 => ?_)
    have H := H w30 hw30
    refine g_istore (q := 32) (L2 := [(5, vi w30), (4, vi r16), (0, vr (xg x) 105), (1, vi v1), (2, vi v2), (3, vi v3)]) C dX6_isBestPage_30 rfl (by decide) rfl ?_
    refine g_bipush (q := 34) C dX6_isBestPage_32 rfl (by decide) ?_
    refine g_iload_n (q := 35) C dX6_isBestPage_34 rfl 3 rfl rfl ?_
    refine g_imul (q := 36) C dX6_isBestPage_35 rfl ?_
    refine g_iload_n (q := 37) C dX6_isBestPage_36 rfl 4 rfl rfl ?_
    refine g_iadd (q := 38) C dX6_isBestPage_37 rfl ?_
    refine g_topi (fun w38 hw38 => ?_)
    have H := H w38 hw38
    refine g_istore (q := 40) (L2 := [(6, vi w38), (5, vi w30), (4, vi r16), (0, vr (xg x) 105), (1, vi v1), (2, vi v2), (3, vi v3)]) C dX6_isBestPage_38 rfl (by decide) rfl ?_
    refine g_aload_n (q := 41) C dX6_isBestPage_40 rfl 3 rfl rfl ?_
    refine g_get (q := 44) C (by decide) (celr_6 (by decide)) (ci := 6) (i := 8) rfl inlX6 (by decide) wm_4_17 rfl dX6_isBestPage_41 rfl ?_
    refine g_iload (q := 46) C dX6_isBestPage_44 rfl 1 rfl ?_
    obtain ⟨hc, H⟩ := H
    refine g_iald (q := 47) (m := 1331) C (by decide) (by decide) (by decide) hc (by decide) dX6_isBestPage_46 rfl ?_
    refine g_ldc (q := 49) (z := 100000000) C dX6_isBestPage_47 rfl wc_15_8 ?_
    obtain ⟨hr, Ht, Hf⟩ := H
    refine g_icmp_ge (q := 52) (t := 102) C dX6_isBestPage_49 rfl (by decide) ⟨hr, by decide⟩ (fun hc => ?_) (fun hc => ?_)
    · have H := Ht hc
      refine g_iconst (q := 103) C dX6_isBestPage_102 rfl ?_
      exact g_zret C hR dX6_isBestPage_103 rfl (by decide) H
    · have H := Hf hc
      refine g_aload_n (q := 53) C dX6_isBestPage_52 rfl 3 rfl rfl ?_
      refine g_get (q := 56) C (by decide) (celr_6 (by decide)) (ci := 6) (i := 8) rfl inlX6 (by decide) wm_4_17 rfl dX6_isBestPage_53 rfl ?_
      refine g_iload (q := 58) C dX6_isBestPage_56 rfl 1 rfl ?_
      obtain ⟨hc, H⟩ := H
      refine g_iald (q := 59) (m := 1331) C (by decide) (by decide) (by decide) hc (by decide) dX6_isBestPage_58 rfl ?_
      refine g_aload_n (q := 60) C dX6_isBestPage_59 rfl 3 rfl rfl ?_
      refine g_iload (q := 62) C dX6_isBestPage_60 rfl 2 rfl ?_
      refine g_iload_n (q := 63) C dX6_isBestPage_62 rfl 5 rfl rfl ?_
      refine g_iload_n (q := 64) C dX6_isBestPage_63 rfl 6 rfl rfl ?_
      refine g_iadd (q := 65) C dX6_isBestPage_64 rfl ?_
      obtain ⟨p65, hM, H⟩ := H
      refine g_callV (q := 68) (As := [vi r16, vi (v2 + v3)]) (st := [vi (M16 112 w30)]) (na := 2) C mX6_paid (by decide) (celr_6 (by decide)) rfl hM wm_17_5 wm_17_6 wm_17_7 wm_1_5 wm_17_8 (by decide +kernel) rfl rfl (by decide) rfl (Nat.le_of_ble_eq_true rfl) dX6_isBestPage_65 rfl (fun r65 M65 hp => ?_)
      have H := H r65 M65 hp
      show Gx x 7 68 [(6, vi w38), (5, vi w30), (4, vi r16), (0, vr (xg x) 105), (1, vi v1), (2, vi v2), (3, vi v3)] [vi r65, vi (M16 112 w30)] M65
      refine g_iadd (q := 69) C dX6_isBestPage_68 rfl ?_
      refine g_aload_n (q := 70) C dX6_isBestPage_69 rfl 3 rfl rfl ?_
      refine g_get (q := 73) C (by decide) (celr_6 (by decide)) (ci := 6) (i := 8) rfl inlX6 (by decide) wm_4_17 rfl dX6_isBestPage_70 rfl ?_
      refine g_iload (q := 75) C dX6_isBestPage_73 rfl 0 rfl ?_
      obtain ⟨hc, H⟩ := H
      refine g_iald (q := 76) (m := 1331) C (by decide) (by decide) (by decide) hc (by decide) dX6_isBestPage_75 rfl ?_
      obtain ⟨hr, Ht, Hf⟩ := H
      refine g_icmp_ne (q := 79) (t := 102) C dX6_isBestPage_76 rfl (by decide) hr (fun hc => ?_) (fun hc => ?_)
      · have H := Ht hc
        refine g_iconst (q := 103) C dX6_isBestPage_102 rfl ?_
        exact g_zret C hR dX6_isBestPage_103 rfl (by decide) H
      · have H := Hf hc
        refine g_aload_n (q := 80) C dX6_isBestPage_79 rfl 3 rfl rfl ?_
        refine g_get (q := 83) C (by decide) (celr_6 (by decide)) (ci := 6) (i := 9) rfl inlX6 (by decide) wm_4_18 rfl dX6_isBestPage_80 rfl ?_
        refine g_iload (q := 85) C dX6_isBestPage_83 rfl 1 rfl ?_
        obtain ⟨hc, H⟩ := H
        refine g_iald (q := 86) (m := 1331) C (by decide) (by decide) (by decide) hc (by decide) dX6_isBestPage_85 rfl ?_
        refine g_iconst (q := 87) C dX6_isBestPage_86 rfl ?_
        refine g_iadd (q := 88) C dX6_isBestPage_87 rfl ?_
        refine g_aload_n (q := 89) C dX6_isBestPage_88 rfl 3 rfl rfl ?_
        refine g_get (q := 92) C (by decide) (celr_6 (by decide)) (ci := 6) (i := 9) rfl inlX6 (by decide) wm_4_18 rfl dX6_isBestPage_89 rfl ?_
        refine g_iload (q := 94) C dX6_isBestPage_92 rfl 0 rfl ?_
        obtain ⟨hc, H⟩ := H
        refine g_iald (q := 95) (m := 1331) C (by decide) (by decide) (by decide) hc (by decide) dX6_isBestPage_94 rfl ?_
        obtain ⟨hr, Ht, Hf⟩ := H
        refine g_icmp_ne (q := 98) (t := 102) C dX6_isBestPage_95 rfl (by decide) hr (fun hc => ?_) (fun hc => ?_)
        · have H := Ht hc
          refine g_iconst (q := 103) C dX6_isBestPage_102 rfl ?_
          exact g_zret C hR dX6_isBestPage_103 rfl (by decide) H
        · have H := Hf hc
          refine g_iconst (q := 99) C dX6_isBestPage_98 rfl ?_
          refine g_goto (t := 103) C dX6_isBestPage_99 (by decide) ?_
          exact g_zret C hR dX6_isBestPage_103 rfl (by decide) H
  · have H := Hf hc
    refine g_iconst (q := 11) C dX6_isBestPage_10 rfl ?_
    exact g_zret C hR dX6_isBestPage_11 rfl (by decide) H
set_option maxRecDepth 10000 in
set_option maxHeartbeats 2000000 in
theorem X6_costOf_0 {x : Xx} {post : Int → Mm → Prop} (C : Cx x mX6_costOf) (hR : Rt x mX6_costOf post)  (v1 : Int) (M : Mm) (H : ∃ p2 : Int → Mm → Prop, Ct (xl x) (xg x) mX6_pageOfFigure [vr (xg x) 105, vi v1] M p2 ∧ ∀ (r2 : Int) (M2 : Mm), p2 r2 M2 → (∃ p7 : Int → Mm → Prop, Ct (xl x) (xg x) mX6_pageOfMention [vr (xg x) 105, vi v1] M2 p7 ∧ ∀ (r7 : Int) (M7 : Mm), p7 r7 M7 → (∀ w11 : Int, w11 = (r2 - r7) → (∃ p14 : Int → Mm → Prop, Ct (xl x) (xg x) mX6_weight [vr (xg x) 105, vi v1] M7 p14 ∧ ∀ (r14 : Int) (M14 : Mm), p14 r14 M14 → ((inR w11) ∧ (0 ≤ w11 → (post (r14 * w11) M14)) ∧ (¬ (0 ≤ w11) → (post (r14 * (-w11)) M14))))))) : Gx x 3 0 [(0, vr (xg x) 105), (1, vi v1)] [] M := by
  refine g_aload_n (q := 1) C dX6_costOf_0 rfl 0 rfl rfl ?_
  refine g_iload_n (q := 2) C dX6_costOf_1 rfl 1 rfl rfl ?_
  obtain ⟨p2, hM, H⟩ := H
  refine g_callV (q := 5) (As := [vi v1]) (st := []) (na := 1) C mX6_pageOfFigure (by decide) (celr_6 (by decide)) rfl hM wm_21_16 wm_21_17 wm_21_18 wm_1_5 wm_21_19 (by decide +kernel) rfl rfl (by decide) rfl (Nat.le_of_ble_eq_true rfl) dX6_costOf_2 rfl (fun r2 M2 hp => ?_)
  have H := H r2 M2 hp
  show Gx x 3 5 [(0, vr (xg x) 105), (1, vi v1)] [vi r2] M2
  refine g_aload_n (q := 6) C dX6_costOf_5 rfl 0 rfl rfl ?_
  refine g_iload_n (q := 7) C dX6_costOf_6 rfl 1 rfl rfl ?_
  obtain ⟨p7, hM, H⟩ := H
  refine g_callV (q := 10) (As := [vi v1]) (st := [vi r2]) (na := 1) C mX6_pageOfMention (by decide) (celr_6 (by decide)) rfl hM wm_21_20 wm_21_21 wm_21_22 wm_1_5 wm_21_23 (by decide +kernel) rfl rfl (by decide) rfl (Nat.le_of_ble_eq_true rfl) dX6_costOf_7 rfl (fun r7 M7 hp => ?_)
  have H := H r7 M7 hp
  show Gx x 3 10 [(0, vr (xg x) 105), (1, vi v1)] [vi r7, vi r2] M7
  refine g_isub (q := 11) C dX6_costOf_10 rfl ?_
  refine g_topi (fun w11 hw11 => ?_)
  have H := H w11 hw11
  refine g_istore_n (q := 12) (L2 := [(2, vi w11), (0, vr (xg x) 105), (1, vi v1)]) C dX6_costOf_11 rfl rfl (by decide) rfl ?_
  refine g_aload_n (q := 13) C dX6_costOf_12 rfl 1 rfl rfl ?_
  refine g_iload_n (q := 14) C dX6_costOf_13 rfl 2 rfl rfl ?_
  obtain ⟨p14, hM, H⟩ := H
  refine g_callV (q := 17) (As := [vi v1]) (st := []) (na := 1) C mX6_weight (by decide) (celr_6 (by decide)) rfl hM wm_17_21 wm_17_22 wm_17_23 wm_1_5 wm_18_0 (by decide +kernel) rfl rfl (by decide) rfl (Nat.le_of_ble_eq_true rfl) dX6_costOf_14 rfl (fun r14 M14 hp => ?_)
  have H := H r14 M14 hp
  show Gx x 3 17 [(2, vi w11), (0, vr (xg x) 105), (1, vi v1)] [vi r14] M14
  refine g_iload_n (q := 18) C dX6_costOf_17 rfl 0 rfl rfl ?_
  obtain ⟨hr, Ht, Hf⟩ := H
  refine g_if_ge (q := 21) (t := 26) C dX6_costOf_18 rfl (by decide) hr (fun hc => ?_) (fun hc => ?_)
  · have H := Ht hc
    refine g_iload_n (q := 27) C dX6_costOf_26 rfl 0 rfl rfl ?_
    refine g_imul (q := 28) C dX6_costOf_27 rfl ?_
    exact g_iret C hR dX6_costOf_28 rfl H
  · have H := Hf hc
    refine g_iload_n (q := 22) C dX6_costOf_21 rfl 0 rfl rfl ?_
    refine g_ineg (q := 23) C dX6_costOf_22 rfl ?_
    refine g_goto (t := 27) C dX6_costOf_23 (by decide) ?_
    refine g_imul (q := 28) C dX6_costOf_27 rfl ?_
    exact g_iret C hR dX6_costOf_28 rfl H
set_option maxRecDepth 10000 in
set_option maxHeartbeats 2000000 in
theorem X6_pageOfFigure_0 {x : Xx} {post : Int → Mm → Prop} (C : Cx x mX6_pageOfFigure) (hR : Rt x mX6_pageOfFigure post)  (v1 : Int) (M : Mm) (H : Gx x 3 2 [(0, vr (xg x) 105), (1, vi v1), (2, vi 0)] [] M) : Gx x 3 0 [(0, vr (xg x) 105), (1, vi v1)] [] M := by
  refine g_iconst (q := 1) C dX6_pageOfFigure_0 rfl ?_
  refine g_istore_n (q := 2) (L2 := [(2, vi 0), (0, vr (xg x) 105), (1, vi v1)]) C dX6_pageOfFigure_1 rfl rfl (by decide) rfl ?_
  refine g_sub [1, 2, 0] rfl ?_
  exact H
set_option maxRecDepth 10000 in
set_option maxHeartbeats 2000000 in
theorem X6_pageOfFigure_2 {x : Xx} {post : Int → Mm → Prop} (C : Cx x mX6_pageOfFigure) (hR : Rt x mX6_pageOfFigure post)  (v1 v2 : Int) (M : Mm) (H : (0 ≤ v2 ∧ v2 < 160) ∧ ((inR (M 118 v2) ∧ inR v1) ∧ (v1 < M 118 v2 → (post v2 M)) ∧ (¬ (v1 < M 118 v2) → (Gx x 3 2 [(0, vr (xg x) 105), (1, vi v1), (2, vi (v2 + 1))] [] M)))) : Gx x 3 2 [(0, vr (xg x) 105), (1, vi v1), (2, vi v2)] [] M := by
  refine g_aload_n (q := 3) C dX6_pageOfFigure_2 rfl 0 rfl rfl ?_
  refine g_get (q := 6) C (by decide) (celr_6 (by decide)) (ci := 6) (i := 15) rfl inlX6 (by decide) wm_4_23 rfl dX6_pageOfFigure_3 rfl ?_
  refine g_iload_n (q := 7) C dX6_pageOfFigure_6 rfl 2 rfl rfl ?_
  obtain ⟨hc, H⟩ := H
  refine g_iald (q := 8) (m := 160) C (by decide) (by decide) (by decide) hc (by decide) dX6_pageOfFigure_7 rfl ?_
  refine g_iload_n (q := 9) C dX6_pageOfFigure_8 rfl 1 rfl rfl ?_
  obtain ⟨hr, Ht, Hf⟩ := H
  refine g_icmp_gt (q := 12) (t := 18) C dX6_pageOfFigure_9 rfl (by decide) hr (fun hc => ?_) (fun hc => ?_)
  · have H := Ht hc
    refine g_iload_n (q := 19) C dX6_pageOfFigure_18 rfl 2 rfl rfl ?_
    exact g_iret C hR dX6_pageOfFigure_19 rfl H
  · have H := Hf hc
    refine g_iinc (q := 15) (L2 := [(2, vi (v2 + 1)), (0, vr (xg x) 105), (1, vi v1)]) C dX6_pageOfFigure_12 rfl 2 rfl (by decide) rfl ?_
    refine g_goto (t := 2) C dX6_pageOfFigure_15 (by decide) ?_
    refine g_sub [1, 2, 0] rfl ?_
    exact H
set_option maxRecDepth 10000 in
set_option maxHeartbeats 2000000 in
theorem X6_pageOfMention_0 {x : Xx} {post : Int → Mm → Prop} (C : Cx x mX6_pageOfMention) (hR : Rt x mX6_pageOfMention post)  (v1 : Int) (M : Mm) (H : (inR (M 106 0)) ∧ (¬ (M 106 0 = 0) → (∃ p16 : Int → Mm → Prop, Ct (xl x) (xg x) mX6_mentionLine [vr (xg x) 105, vi v1] M p16 ∧ ∀ (r16 : Int) (M16 : Mm), p16 r16 M16 → (∃ p19 : Int → Mm → Prop, Ct (xl x) (xg x) mX6_pageOfLine [vr (xg x) 105, vi r16] M16 p19 ∧ ∀ (r19 : Int) (M19 : Mm), p19 r19 M19 → (post r19 M19)))) ∧ (M 106 0 = 0 → (post 0 M))) : Gx x 2 0 [(0, vr (xg x) 105), (1, vi v1)] [] M := by
  refine g_aload_n (q := 1) C dX6_pageOfMention_0 rfl 0 rfl rfl ?_
  refine g_get (q := 4) C (by decide) (celr_6 (by decide)) (ci := 6) (i := 0) rfl inlX6 (by decide) wm_4_11 rfl dX6_pageOfMention_1 rfl ?_
  refine g_iconst (q := 5) C dX6_pageOfMention_4 rfl ?_
  refine g_iald (q := 6) (m := 47) C (by decide) (by decide) (by decide) (by decide) (by decide) dX6_pageOfMention_5 rfl ?_
  obtain ⟨hr, Ht, Hf⟩ := H
  refine g_if_ne (q := 9) (t := 13) C dX6_pageOfMention_6 rfl (by decide) hr (fun hc => ?_) (fun hc => ?_)
  · have H := Ht hc
    refine g_aload_n (q := 14) C dX6_pageOfMention_13 rfl 0 rfl rfl ?_
    refine g_aload_n (q := 15) C dX6_pageOfMention_14 rfl 0 rfl rfl ?_
    refine g_iload_n (q := 16) C dX6_pageOfMention_15 rfl 1 rfl rfl ?_
    obtain ⟨p16, hM, H⟩ := H
    refine g_callV (q := 19) (As := [vi v1]) (st := [vr (xg x) 105]) (na := 1) C mX6_mentionLine (by decide) (celr_6 (by decide)) rfl hM wm_17_1 wm_17_2 wm_17_3 wm_1_5 wm_17_4 (by decide +kernel) rfl rfl (by decide) rfl (Nat.le_of_ble_eq_true rfl) dX6_pageOfMention_16 rfl (fun r16 M16 hp => ?_)
    have H := H r16 M16 hp
    show Gx x 2 19 [(0, vr (xg x) 105), (1, vi v1)] [vi r16, vr (xg x) 105] M16
    obtain ⟨p19, hM, H⟩ := H
    refine g_callV (q := 22) (As := [vi r16]) (st := []) (na := 1) C mX6_pageOfLine (by decide) (celr_6 (by decide)) rfl hM wm_22_0 wm_22_1 wm_22_2 wm_1_5 wm_22_3 (by decide +kernel) rfl rfl (by decide) rfl (Nat.le_of_ble_eq_true rfl) dX6_pageOfMention_19 rfl (fun r19 M19 hp => ?_)
    have H := H r19 M19 hp
    show Gx x 2 22 [(0, vr (xg x) 105), (1, vi v1)] [vi r19] M19
    exact g_iret C hR dX6_pageOfMention_22 rfl H
  · have H := Hf hc
    refine g_iconst (q := 10) C dX6_pageOfMention_9 rfl ?_
    refine g_goto (t := 22) C dX6_pageOfMention_10 (by decide) ?_
    exact g_iret C hR dX6_pageOfMention_22 rfl H
set_option maxRecDepth 10000 in
set_option maxHeartbeats 2000000 in
theorem X6_pageOfLine_0 {x : Xx} {post : Int → Mm → Prop} (C : Cx x mX6_pageOfLine) (hR : Rt x mX6_pageOfLine post)  (v1 : Int) (M : Mm) (H : Gx x 3 2 [(0, vr (xg x) 105), (1, vi v1), (2, vi 0)] [] M) : Gx x 3 0 [(0, vr (xg x) 105), (1, vi v1)] [] M := by
  refine g_iconst (q := 1) C dX6_pageOfLine_0 rfl ?_
  refine g_istore_n (q := 2) (L2 := [(2, vi 0), (0, vr (xg x) 105), (1, vi v1)]) C dX6_pageOfLine_1 rfl rfl (by decide) rfl ?_
  refine g_sub [1, 2, 0] rfl ?_
  exact H
set_option maxRecDepth 10000 in
set_option maxHeartbeats 2000000 in
theorem X6_pageOfLine_2 {x : Xx} {post : Int → Mm → Prop} (C : Cx x mX6_pageOfLine) (hR : Rt x mX6_pageOfLine post)  (v1 v2 : Int) (M : Mm) (H : (0 ≤ v2 ∧ v2 < 160) ∧ ((inR (M 117 v2) ∧ inR v1) ∧ (v1 < M 117 v2 → (post v2 M)) ∧ (¬ (v1 < M 117 v2) → (Gx x 3 2 [(0, vr (xg x) 105), (1, vi v1), (2, vi (v2 + 1))] [] M)))) : Gx x 3 2 [(0, vr (xg x) 105), (1, vi v1), (2, vi v2)] [] M := by
  refine g_aload_n (q := 3) C dX6_pageOfLine_2 rfl 0 rfl rfl ?_
  refine g_get (q := 6) C (by decide) (celr_6 (by decide)) (ci := 6) (i := 14) rfl inlX6 (by decide) wm_4_22 rfl dX6_pageOfLine_3 rfl ?_
  refine g_iload_n (q := 7) C dX6_pageOfLine_6 rfl 2 rfl rfl ?_
  obtain ⟨hc, H⟩ := H
  refine g_iald (q := 8) (m := 160) C (by decide) (by decide) (by decide) hc (by decide) dX6_pageOfLine_7 rfl ?_
  refine g_iload_n (q := 9) C dX6_pageOfLine_8 rfl 1 rfl rfl ?_
  obtain ⟨hr, Ht, Hf⟩ := H
  refine g_icmp_gt (q := 12) (t := 18) C dX6_pageOfLine_9 rfl (by decide) hr (fun hc => ?_) (fun hc => ?_)
  · have H := Ht hc
    refine g_iload_n (q := 19) C dX6_pageOfLine_18 rfl 2 rfl rfl ?_
    exact g_iret C hR dX6_pageOfLine_19 rfl H
  · have H := Hf hc
    refine g_iinc (q := 15) (L2 := [(2, vi (v2 + 1)), (0, vr (xg x) 105), (1, vi v1)]) C dX6_pageOfLine_12 rfl 2 rfl (by decide) rfl ?_
    refine g_goto (t := 2) C dX6_pageOfLine_15 (by decide) ?_
    refine g_sub [1, 2, 0] rfl ?_
    exact H
set_option maxRecDepth 10000 in
set_option maxHeartbeats 2000000 in
theorem X6_figureOf_0 {x : Xx} {post : Int → Mm → Prop} (C : Cx x mX6_figureOf) (hR : Rt x mX6_figureOf post)  (v1 v2 : Int) (M : Mm) (H : ∃ p2 : Int → Mm → Prop, Ct (xl x) (xg x) mX6_isFigure [vr (xg x) 105, vi v1] M p2 ∧ ∀ (r2 : Int) (M2 : Mm), p2 r2 M2 → ((inR r2) ∧ (¬ (r2 = 0) → (∃ p15 : Int → Mm → Prop, Ct (xl x) (xg x) mX6_in [vi v2, vi 0, vi 7] M2 p15 ∧ ∀ (r15 : Int) (M15 : Mm), p15 r15 M15 → ((inR r15) ∧ (¬ (r15 = 0) → ((inR v2) ∧ (4 ≤ v2 → ((inR v2) ∧ (¬ (v2 = 7) → (∃ p57 : Int → Mm → Prop, Ct (xl x) (xg x) mX6_isPlanned [vr (xg x) 105] M15 p57 ∧ ∀ (r57 : Int) (M57 : Mm), p57 r57 M57 → (Gx x 4 60 [(0, vr (xg x) 105), (1, vi v1), (2, vi v2)] [vi r57] M57))) ∧ (v2 = 7 → (∃ p50 : Int → Mm → Prop, Ct (xl x) (xg x) mX6_isGreedy [vr (xg x) 105] M15 p50 ∧ ∀ (r50 : Int) (M50 : Mm), p50 r50 M50 → (Gx x 4 60 [(0, vr (xg x) 105), (1, vi v1), (2, vi v2)] [vi r50] M50))))) ∧ (¬ (4 ≤ v2) → ((0 ≤ (7 + (4 * v1)) + v2 ∧ (7 + (4 * v1)) + v2 < 47) ∧ (post (M15 106 ((7 + (4 * v1)) + v2)) M15))))) ∧ (r15 = 0 → (post (-1000000002) M15))))) ∧ (r2 = 0 → (post (-1000000001) M2)))) : Gx x 4 0 [(0, vr (xg x) 105), (1, vi v1), (2, vi v2)] [] M := by
  refine g_aload_n (q := 1) C dX6_figureOf_0 rfl 0 rfl rfl ?_
  refine g_iload_n (q := 2) C dX6_figureOf_1 rfl 1 rfl rfl ?_
  obtain ⟨p2, hM, H⟩ := H
  refine g_callV (q := 5) (As := [vi v1]) (st := []) (na := 1) C mX6_isFigure (by decide) (celr_6 (by decide)) rfl hM wm_8_23 wm_9_0 wm_9_1 wm_1_5 wm_9_2 (by decide +kernel) rfl rfl (by decide) rfl (Nat.le_of_ble_eq_true rfl) dX6_figureOf_2 rfl (fun r2 M2 hp => ?_)
  have H := H r2 M2 hp
  show Gx x 4 5 [(0, vr (xg x) 105), (1, vi v1), (2, vi v2)] [vi r2] M2
  obtain ⟨hr, Ht, Hf⟩ := H
  refine g_if_ne (q := 8) (t := 11) C dX6_figureOf_5 rfl (by decide) hr (fun hc => ?_) (fun hc => ?_)
  · have H := Ht hc
    refine g_iload_n (q := 12) C dX6_figureOf_11 rfl 2 rfl rfl ?_
    refine g_iconst (q := 13) C dX6_figureOf_12 rfl ?_
    refine g_bipush (q := 15) C dX6_figureOf_13 rfl (by decide) ?_
    obtain ⟨p15, hM, H⟩ := H
    refine g_callS (q := 18) (As := [vi v2, vi 0, vi 7]) (st := []) (na := 3) C mX6_in hM wm_6_11 wm_6_12 wm_1_5 wm_6_13 (by decide +kernel) rfl rfl (by decide) rfl (Nat.le_of_ble_eq_true rfl) dX6_figureOf_15 rfl (fun r15 M15 hp => ?_)
    have H := H r15 M15 hp
    show Gx x 4 18 [(0, vr (xg x) 105), (1, vi v1), (2, vi v2)] [vi r15] M15
    obtain ⟨hr, Ht, Hf⟩ := H
    refine g_if_ne (q := 21) (t := 24) C dX6_figureOf_18 rfl (by decide) hr (fun hc => ?_) (fun hc => ?_)
    · have H := Ht hc
      refine g_iload_n (q := 25) C dX6_figureOf_24 rfl 2 rfl rfl ?_
      refine g_iconst (q := 26) C dX6_figureOf_25 rfl ?_
      obtain ⟨hr, Ht, Hf⟩ := H
      refine g_icmp_ge (q := 29) (t := 43) C dX6_figureOf_26 rfl (by decide) ⟨hr, by decide⟩ (fun hc => ?_) (fun hc => ?_)
      · have H := Ht hc
        refine g_iload_n (q := 44) C dX6_figureOf_43 rfl 2 rfl rfl ?_
        refine g_bipush (q := 46) C dX6_figureOf_44 rfl (by decide) ?_
        obtain ⟨hr, Ht, Hf⟩ := H
        refine g_icmp_ne (q := 49) (t := 56) C dX6_figureOf_46 rfl (by decide) ⟨hr, by decide⟩ (fun hc => ?_) (fun hc => ?_)
        · have H := Ht hc
          refine g_aload_n (q := 57) C dX6_figureOf_56 rfl 0 rfl rfl ?_
          obtain ⟨p57, hM, H⟩ := H
          refine g_callV (q := 60) (As := []) (st := []) (na := 0) C mX6_isPlanned (by decide) (celr_6 (by decide)) rfl hM wm_21_4 wm_21_5 wm_21_6 wm_1_5 wm_21_7 (by decide +kernel) rfl rfl (by decide) rfl (Nat.le_of_ble_eq_true rfl) dX6_figureOf_57 rfl (fun r57 M57 hp => ?_)
          have H := H r57 M57 hp
          show Gx x 4 60 [(0, vr (xg x) 105), (1, vi v1), (2, vi v2)] [vi r57] M57
          refine g_sub [0, 1, 2] rfl ?_
          exact H
        · have H := Hf hc
          refine g_aload_n (q := 50) C dX6_figureOf_49 rfl 0 rfl rfl ?_
          obtain ⟨p50, hM, H⟩ := H
          refine g_callV (q := 53) (As := []) (st := []) (na := 0) C mX6_isGreedy (by decide) (celr_6 (by decide)) rfl hM wm_20_8 wm_20_9 wm_20_10 wm_1_5 wm_20_11 (by decide +kernel) rfl rfl (by decide) rfl (Nat.le_of_ble_eq_true rfl) dX6_figureOf_50 rfl (fun r50 M50 hp => ?_)
          have H := H r50 M50 hp
          show Gx x 4 53 [(0, vr (xg x) 105), (1, vi v1), (2, vi v2)] [vi r50] M50
          refine g_goto (t := 60) C dX6_figureOf_53 (by decide) ?_
          refine g_sub [0, 1, 2] rfl ?_
          exact H
      · have H := Hf hc
        refine g_aload_n (q := 30) C dX6_figureOf_29 rfl 0 rfl rfl ?_
        refine g_get (q := 33) C (by decide) (celr_6 (by decide)) (ci := 6) (i := 0) rfl inlX6 (by decide) wm_4_11 rfl dX6_figureOf_30 rfl ?_
        refine g_bipush (q := 35) C dX6_figureOf_33 rfl (by decide) ?_
        refine g_iconst (q := 36) C dX6_figureOf_35 rfl ?_
        refine g_iload_n (q := 37) C dX6_figureOf_36 rfl 1 rfl rfl ?_
        refine g_imul (q := 38) C dX6_figureOf_37 rfl ?_
        refine g_iadd (q := 39) C dX6_figureOf_38 rfl ?_
        refine g_iload_n (q := 40) C dX6_figureOf_39 rfl 2 rfl rfl ?_
        refine g_iadd (q := 41) C dX6_figureOf_40 rfl ?_
        obtain ⟨hc, H⟩ := H
        refine g_iald (q := 42) (m := 47) C (by decide) (by decide) (by decide) hc (by decide) dX6_figureOf_41 rfl ?_
        exact g_iret C hR dX6_figureOf_42 rfl H
    · have H := Hf hc
      refine g_ldc (q := 23) (z := (-1000000002)) C dX6_figureOf_21 rfl wc_6_10 ?_
      exact g_iret C hR dX6_figureOf_23 rfl H
  · have H := Hf hc
    refine g_ldc (q := 10) (z := (-1000000001)) C dX6_figureOf_8 rfl wc_8_22 ?_
    exact g_iret C hR dX6_figureOf_10 rfl H
set_option maxRecDepth 10000 in
set_option maxHeartbeats 2000000 in
theorem X6_figureOf_60 {x : Xx} {post : Int → Mm → Prop} (C : Cx x mX6_figureOf) (hR : Rt x mX6_figureOf post)  (v1 v2 s0 : Int) (M : Mm) (H : (inR s0) ∧ (¬ (s0 = 0) → ((inR v2) ∧ (¬ (v2 = 5) → ((inR v2) ∧ (¬ (v2 = 6) → (∃ p96 : Int → Mm → Prop, Ct (xl x) (xg x) mX6_pageOfFigure [vr (xg x) 105, vi v1] M p96 ∧ ∀ (r96 : Int) (M96 : Mm), p96 r96 M96 → (post r96 M96))) ∧ (v2 = 6 → (∃ p88 : Int → Mm → Prop, Ct (xl x) (xg x) mX6_costOf [vr (xg x) 105, vi v1] M p88 ∧ ∀ (r88 : Int) (M88 : Mm), p88 r88 M88 → (post r88 M88))))) ∧ (v2 = 5 → (∃ p74 : Int → Mm → Prop, Ct (xl x) (xg x) mX6_pageOfMention [vr (xg x) 105, vi v1] M p74 ∧ ∀ (r74 : Int) (M74 : Mm), p74 r74 M74 → (post r74 M74))))) ∧ (s0 = 0 → (post (-1) M))) : Gx x 4 60 [(0, vr (xg x) 105), (1, vi v1), (2, vi v2)] [vi s0] M := by
  refine g_istore_n (q := 61) (L2 := [(3, vi s0), (0, vr (xg x) 105), (1, vi v1), (2, vi v2)]) C dX6_figureOf_60 rfl rfl (by decide) rfl ?_
  refine g_iload_n (q := 62) C dX6_figureOf_61 rfl 0 rfl rfl ?_
  obtain ⟨hr, Ht, Hf⟩ := H
  refine g_if_ne (q := 65) (t := 67) C dX6_figureOf_62 rfl (by decide) hr (fun hc => ?_) (fun hc => ?_)
  · have H := Ht hc
    refine g_iload_n (q := 68) C dX6_figureOf_67 rfl 3 rfl rfl ?_
    refine g_iconst (q := 69) C dX6_figureOf_68 rfl ?_
    obtain ⟨hr, Ht, Hf⟩ := H
    refine g_icmp_ne (q := 72) (t := 80) C dX6_figureOf_69 rfl (by decide) ⟨hr, by decide⟩ (fun hc => ?_) (fun hc => ?_)
    · have H := Ht hc
      refine g_iload_n (q := 81) C dX6_figureOf_80 rfl 3 rfl rfl ?_
      refine g_bipush (q := 83) C dX6_figureOf_81 rfl (by decide) ?_
      obtain ⟨hr, Ht, Hf⟩ := H
      refine g_icmp_ne (q := 86) (t := 94) C dX6_figureOf_83 rfl (by decide) ⟨hr, by decide⟩ (fun hc => ?_) (fun hc => ?_)
      · have H := Ht hc
        refine g_aload_n (q := 95) C dX6_figureOf_94 rfl 1 rfl rfl ?_
        refine g_iload_n (q := 96) C dX6_figureOf_95 rfl 2 rfl rfl ?_
        obtain ⟨p96, hM, H⟩ := H
        refine g_callV (q := 99) (As := [vi v1]) (st := []) (na := 1) C mX6_pageOfFigure (by decide) (celr_6 (by decide)) rfl hM wm_21_16 wm_21_17 wm_21_18 wm_1_5 wm_21_19 (by decide +kernel) rfl rfl (by decide) rfl (Nat.le_of_ble_eq_true rfl) dX6_figureOf_96 rfl (fun r96 M96 hp => ?_)
        have H := H r96 M96 hp
        show Gx x 4 99 [(3, vi s0), (0, vr (xg x) 105), (1, vi v1), (2, vi v2)] [vi r96] M96
        exact g_iret C hR dX6_figureOf_99 rfl H
      · have H := Hf hc
        refine g_aload_n (q := 87) C dX6_figureOf_86 rfl 1 rfl rfl ?_
        refine g_iload_n (q := 88) C dX6_figureOf_87 rfl 2 rfl rfl ?_
        obtain ⟨p88, hM, H⟩ := H
        refine g_callV (q := 91) (As := [vi v1]) (st := []) (na := 1) C mX6_costOf (by decide) (celr_6 (by decide)) rfl hM wm_21_12 wm_21_13 wm_21_14 wm_1_5 wm_21_15 (by decide +kernel) rfl rfl (by decide) rfl (Nat.le_of_ble_eq_true rfl) dX6_figureOf_88 rfl (fun r88 M88 hp => ?_)
        have H := H r88 M88 hp
        show Gx x 4 91 [(3, vi s0), (0, vr (xg x) 105), (1, vi v1), (2, vi v2)] [vi r88] M88
        refine g_goto (t := 99) C dX6_figureOf_91 (by decide) ?_
        exact g_iret C hR dX6_figureOf_99 rfl H
    · have H := Hf hc
      refine g_aload_n (q := 73) C dX6_figureOf_72 rfl 1 rfl rfl ?_
      refine g_iload_n (q := 74) C dX6_figureOf_73 rfl 2 rfl rfl ?_
      obtain ⟨p74, hM, H⟩ := H
      refine g_callV (q := 77) (As := [vi v1]) (st := []) (na := 1) C mX6_pageOfMention (by decide) (celr_6 (by decide)) rfl hM wm_21_20 wm_21_21 wm_21_22 wm_1_5 wm_21_23 (by decide +kernel) rfl rfl (by decide) rfl (Nat.le_of_ble_eq_true rfl) dX6_figureOf_74 rfl (fun r74 M74 hp => ?_)
      have H := H r74 M74 hp
      show Gx x 4 77 [(3, vi s0), (0, vr (xg x) 105), (1, vi v1), (2, vi v2)] [vi r74] M74
      refine g_goto (t := 99) C dX6_figureOf_77 (by decide) ?_
      exact g_iret C hR dX6_figureOf_99 rfl H
  · have H := Hf hc
    refine g_iconst (q := 66) C dX6_figureOf_65 rfl ?_
    exact g_iret C hR dX6_figureOf_66 rfl H
set_option maxRecDepth 10000 in
set_option maxHeartbeats 2000000 in
theorem X6_page_0 {x : Xx} {post : Int → Mm → Prop} (C : Cx x mX6_page) (hR : Rt x mX6_page post)  (v1 v2 : Int) (M : Mm) (H : ∃ p1 : Int → Mm → Prop, Ct (xl x) (xg x) mX6_isPlanned [vr (xg x) 105] M p1 ∧ ∀ (r1 : Int) (M1 : Mm), p1 r1 M1 → ((inR r1) ∧ (r1 = 0 → (post (-1000000001) M1)) ∧ (¬ (r1 = 0) → (∃ p15 : Int → Mm → Prop, Ct (xl x) (xg x) mX6_in [vi v1, vi 0, vi ((M1 105 12) - 1)] M1 p15 ∧ ∀ (r15 : Int) (M15 : Mm), p15 r15 M15 → ((inR r15) ∧ (¬ (r15 = 0) → (∃ p28 : Int → Mm → Prop, Ct (xl x) (xg x) mX6_in [vi v2, vi 0, vi 6] M15 p28 ∧ ∀ (r28 : Int) (M28 : Mm), p28 r28 M28 → ((inR r28) ∧ (¬ (r28 = 0) → ((inR v1) ∧ (¬ (v1 = 0) → ((0 ≤ v1 - 1 ∧ v1 - 1 < 160) ∧ (Gx x 6 53 [(0, vr (xg x) 105), (1, vi v1), (2, vi v2)] [vi (M28 117 (v1 - 1))] M28))) ∧ (v1 = 0 → (Gx x 6 53 [(0, vr (xg x) 105), (1, vi v1), (2, vi v2)] [vi 0] M28)))) ∧ (r28 = 0 → (post (-1000000002) M28))))) ∧ (r15 = 0 → (post (-1000000001) M15))))))) : Gx x 6 0 [(0, vr (xg x) 105), (1, vi v1), (2, vi v2)] [] M := by
  refine g_aload_n (q := 1) C dX6_page_0 rfl 0 rfl rfl ?_
  obtain ⟨p1, hM, H⟩ := H
  refine g_callV (q := 4) (As := []) (st := []) (na := 0) C mX6_isPlanned (by decide) (celr_6 (by decide)) rfl hM wm_21_4 wm_21_5 wm_21_6 wm_1_5 wm_21_7 (by decide +kernel) rfl rfl (by decide) rfl (Nat.le_of_ble_eq_true rfl) dX6_page_1 rfl (fun r1 M1 hp => ?_)
  have H := H r1 M1 hp
  show Gx x 6 4 [(0, vr (xg x) 105), (1, vi v1), (2, vi v2)] [vi r1] M1
  obtain ⟨hr, Ht, Hf⟩ := H
  refine g_if_eq (q := 7) (t := 21) C dX6_page_4 rfl (by decide) hr (fun hc => ?_) (fun hc => ?_)
  · have H := Ht hc
    refine g_ldc (q := 23) (z := (-1000000001)) C dX6_page_21 rfl wc_8_22 ?_
    exact g_iret C hR dX6_page_23 rfl H
  · have H := Hf hc
    refine g_iload_n (q := 8) C dX6_page_7 rfl 1 rfl rfl ?_
    refine g_iconst (q := 9) C dX6_page_8 rfl ?_
    refine g_aload_n (q := 10) C dX6_page_9 rfl 0 rfl rfl ?_
    refine g_get (q := 13) C (by decide) (celr_6 (by decide)) (ci := 6) (i := 12) rfl inlX6 (by decide) wm_20_2 rfl dX6_page_10 rfl ?_
    refine g_iconst (q := 14) C dX6_page_13 rfl ?_
    refine g_isub (q := 15) C dX6_page_14 rfl ?_
    obtain ⟨p15, hM, H⟩ := H
    refine g_callS (q := 18) (As := [vi v1, vi 0, vi ((M1 105 12) - 1)]) (st := []) (na := 3) C mX6_in hM wm_6_11 wm_6_12 wm_1_5 wm_6_13 (by decide +kernel) rfl rfl (by decide) rfl (Nat.le_of_ble_eq_true rfl) dX6_page_15 rfl (fun r15 M15 hp => ?_)
    have H := H r15 M15 hp
    show Gx x 6 18 [(0, vr (xg x) 105), (1, vi v1), (2, vi v2)] [vi r15] M15
    obtain ⟨hr, Ht, Hf⟩ := H
    refine g_if_ne (q := 21) (t := 24) C dX6_page_18 rfl (by decide) hr (fun hc => ?_) (fun hc => ?_)
    · have H := Ht hc
      refine g_iload_n (q := 25) C dX6_page_24 rfl 2 rfl rfl ?_
      refine g_iconst (q := 26) C dX6_page_25 rfl ?_
      refine g_bipush (q := 28) C dX6_page_26 rfl (by decide) ?_
      obtain ⟨p28, hM, H⟩ := H
      refine g_callS (q := 31) (As := [vi v2, vi 0, vi 6]) (st := []) (na := 3) C mX6_in hM wm_6_11 wm_6_12 wm_1_5 wm_6_13 (by decide +kernel) rfl rfl (by decide) rfl (Nat.le_of_ble_eq_true rfl) dX6_page_28 rfl (fun r28 M28 hp => ?_)
      have H := H r28 M28 hp
      show Gx x 6 31 [(0, vr (xg x) 105), (1, vi v1), (2, vi v2)] [vi r28] M28
      obtain ⟨hr, Ht, Hf⟩ := H
      refine g_if_ne (q := 34) (t := 37) C dX6_page_31 rfl (by decide) hr (fun hc => ?_) (fun hc => ?_)
      · have H := Ht hc
        refine g_iload_n (q := 38) C dX6_page_37 rfl 1 rfl rfl ?_
        obtain ⟨hr, Ht, Hf⟩ := H
        refine g_if_ne (q := 41) (t := 45) C dX6_page_38 rfl (by decide) hr (fun hc => ?_) (fun hc => ?_)
        · have H := Ht hc
          refine g_aload_n (q := 46) C dX6_page_45 rfl 0 rfl rfl ?_
          refine g_get (q := 49) C (by decide) (celr_6 (by decide)) (ci := 6) (i := 14) rfl inlX6 (by decide) wm_4_22 rfl dX6_page_46 rfl ?_
          refine g_iload_n (q := 50) C dX6_page_49 rfl 1 rfl rfl ?_
          refine g_iconst (q := 51) C dX6_page_50 rfl ?_
          refine g_isub (q := 52) C dX6_page_51 rfl ?_
          obtain ⟨hc, H⟩ := H
          refine g_iald (q := 53) (m := 160) C (by decide) (by decide) (by decide) hc (by decide) dX6_page_52 rfl ?_
          refine g_sub [0, 1, 2] rfl ?_
          exact H
        · have H := Hf hc
          refine g_iconst (q := 42) C dX6_page_41 rfl ?_
          refine g_goto (t := 53) C dX6_page_42 (by decide) ?_
          refine g_sub [0, 1, 2] rfl ?_
          exact H
      · have H := Hf hc
        refine g_ldc (q := 36) (z := (-1000000002)) C dX6_page_34 rfl wc_6_10 ?_
        exact g_iret C hR dX6_page_36 rfl H
    · have H := Hf hc
      refine g_ldc (q := 23) (z := (-1000000001)) C dX6_page_21 rfl wc_8_22 ?_
      exact g_iret C hR dX6_page_23 rfl H
set_option maxRecDepth 10000 in
set_option maxHeartbeats 2000000 in
theorem X6_page_53 {x : Xx} {post : Int → Mm → Prop} (C : Cx x mX6_page) (hR : Rt x mX6_page post)  (v1 v2 s0 : Int) (M : Mm) (H : (0 ≤ v1 ∧ v1 < 160) ∧ (∀ w62 : Int, w62 = ((M 117 v1) - s0) → ((0 ≤ v1 ∧ v1 < 160) ∧ ((0 ≤ v1 ∧ v1 < 160) ∧ ((0 ≤ v1 ∧ v1 < 160) ∧ (∃ p84 : Int → Mm → Prop, Ct (xl x) (xg x) mX6_taken [vr (xg x) 105, vi ((M 118 v1) - (M 116 v1)), vi (M 116 v1)] M p84 ∧ ∀ (r84 : Int) (M84 : Mm), p84 r84 M84 → ((inR v2) ∧ ((v2 < 0 ∨ 4 < v2) → ((0 ≤ v1 ∧ v1 < 160) ∧ ((0 ≤ v1 ∧ v1 < 160) ∧ ((inR v2) ∧ (¬ (v2 = 6) → (∃ p192 : Int → Mm → Prop, Ct (xl x) (xg x) mX6_between [vr (xg x) 105, vi (M84 117 v1), vi (M84 118 v1), vi 0] M84 p192 ∧ ∀ (r192 : Int) (M192 : Mm), p192 r192 M192 → (post r192 M192))) ∧ (v2 = 6 → (∃ p192 : Int → Mm → Prop, Ct (xl x) (xg x) mX6_between [vr (xg x) 105, vi (M84 117 v1), vi (M84 118 v1), vi 1] M84 p192 ∧ ∀ (r192 : Int) (M192 : Mm), p192 r192 M192 → (post r192 M192))))))) ∧ (v2 = 0 → ((0 ≤ v1 ∧ v1 < 160) ∧ (post (M84 116 v1) M84))) ∧ (v2 = 1 → (post w62 M84)) ∧ (v2 = 2 → ((inR w62) ∧ (¬ (w62 = 0) → (post s0 M84)) ∧ (w62 = 0 → (post (-1) M84)))) ∧ (v2 = 3 → (post r84 M84)) ∧ (v2 = 4 → (post ((((M84 106 2) * (M84 106 1)) - r84) - w62) M84))))))))) : Gx x 6 53 [(0, vr (xg x) 105), (1, vi v1), (2, vi v2)] [vi s0] M := by
  refine g_istore_n (q := 54) (L2 := [(3, vi s0), (0, vr (xg x) 105), (1, vi v1), (2, vi v2)]) C dX6_page_53 rfl rfl (by decide) rfl ?_
  refine g_aload_n (q := 55) C dX6_page_54 rfl 1 rfl rfl ?_
  refine g_get (q := 58) C (by decide) (celr_6 (by decide)) (ci := 6) (i := 14) rfl inlX6 (by decide) wm_4_22 rfl dX6_page_55 rfl ?_
  refine g_iload_n (q := 59) C dX6_page_58 rfl 2 rfl rfl ?_
  obtain ⟨hc, H⟩ := H
  refine g_iald (q := 60) (m := 160) C (by decide) (by decide) (by decide) hc (by decide) dX6_page_59 rfl ?_
  refine g_iload_n (q := 61) C dX6_page_60 rfl 0 rfl rfl ?_
  refine g_isub (q := 62) C dX6_page_61 rfl ?_
  refine g_topi (fun w62 hw62 => ?_)
  have H := H w62 hw62
  refine g_istore (q := 64) (L2 := [(4, vi w62), (3, vi s0), (0, vr (xg x) 105), (1, vi v1), (2, vi v2)]) C dX6_page_62 rfl (by decide) rfl ?_
  refine g_aload_n (q := 65) C dX6_page_64 rfl 2 rfl rfl ?_
  refine g_aload_n (q := 66) C dX6_page_65 rfl 2 rfl rfl ?_
  refine g_get (q := 69) C (by decide) (celr_6 (by decide)) (ci := 6) (i := 15) rfl inlX6 (by decide) wm_4_23 rfl dX6_page_66 rfl ?_
  refine g_iload_n (q := 70) C dX6_page_69 rfl 3 rfl rfl ?_
  obtain ⟨hc, H⟩ := H
  refine g_iald (q := 71) (m := 160) C (by decide) (by decide) (by decide) hc (by decide) dX6_page_70 rfl ?_
  refine g_aload_n (q := 72) C dX6_page_71 rfl 2 rfl rfl ?_
  refine g_get (q := 75) C (by decide) (celr_6 (by decide)) (ci := 6) (i := 13) rfl inlX6 (by decide) wm_4_21 rfl dX6_page_72 rfl ?_
  refine g_iload_n (q := 76) C dX6_page_75 rfl 3 rfl rfl ?_
  obtain ⟨hc, H⟩ := H
  refine g_iald (q := 77) (m := 160) C (by decide) (by decide) (by decide) hc (by decide) dX6_page_76 rfl ?_
  refine g_isub (q := 78) C dX6_page_77 rfl ?_
  refine g_aload_n (q := 79) C dX6_page_78 rfl 2 rfl rfl ?_
  refine g_get (q := 82) C (by decide) (celr_6 (by decide)) (ci := 6) (i := 13) rfl inlX6 (by decide) wm_4_21 rfl dX6_page_79 rfl ?_
  refine g_iload_n (q := 83) C dX6_page_82 rfl 3 rfl rfl ?_
  obtain ⟨hc, H⟩ := H
  refine g_iald (q := 84) (m := 160) C (by decide) (by decide) (by decide) hc (by decide) dX6_page_83 rfl ?_
  obtain ⟨p84, hM, H⟩ := H
  refine g_callV (q := 87) (As := [vi ((M 118 v1) - (M 116 v1)), vi (M 116 v1)]) (st := []) (na := 2) C mX6_taken (by decide) (celr_6 (by decide)) rfl hM wm_16_17 wm_16_18 wm_16_19 wm_1_5 wm_16_20 (by decide +kernel) rfl rfl (by decide) rfl (Nat.le_of_ble_eq_true rfl) dX6_page_84 rfl (fun r84 M84 hp => ?_)
  have H := H r84 M84 hp
  show Gx x 6 87 [(4, vi w62), (3, vi s0), (0, vr (xg x) 105), (1, vi v1), (2, vi v2)] [vi r84] M84
  refine g_istore (q := 89) (L2 := [(5, vi r84), (4, vi w62), (3, vi s0), (0, vr (xg x) 105), (1, vi v1), (2, vi v2)]) C dX6_page_87 rfl (by decide) rfl ?_
  refine g_iload_n (q := 90) C dX6_page_89 rfl 5 rfl rfl ?_
  obtain ⟨hr, Hd, H⟩ := H
  rcases (show (v2 < 0 ∨ 4 < v2) ∨ v2 = 0 ∨ v2 = 1 ∨ v2 = 2 ∨ v2 = 3 ∨ v2 = 4 by omega) with hc | hc | hc | hc | hc | hc
  · have H := Hd hc
    refine g_tabOut (t := 168) C dX6_page_90 hr hc (by decide) ?_
    refine g_aload_n (q := 169) C dX6_page_168 rfl 3 rfl rfl ?_
    refine g_aload_n (q := 170) C dX6_page_169 rfl 3 rfl rfl ?_
    refine g_get (q := 173) C (by decide) (celr_6 (by decide)) (ci := 6) (i := 14) rfl inlX6 (by decide) wm_4_22 rfl dX6_page_170 rfl ?_
    refine g_iload_n (q := 174) C dX6_page_173 rfl 4 rfl rfl ?_
    obtain ⟨hc, H⟩ := H
    refine g_iald (q := 175) (m := 160) C (by decide) (by decide) (by decide) hc (by decide) dX6_page_174 rfl ?_
    refine g_aload_n (q := 176) C dX6_page_175 rfl 3 rfl rfl ?_
    refine g_get (q := 179) C (by decide) (celr_6 (by decide)) (ci := 6) (i := 15) rfl inlX6 (by decide) wm_4_23 rfl dX6_page_176 rfl ?_
    refine g_iload_n (q := 180) C dX6_page_179 rfl 4 rfl rfl ?_
    obtain ⟨hc, H⟩ := H
    refine g_iald (q := 181) (m := 160) C (by decide) (by decide) (by decide) hc (by decide) dX6_page_180 rfl ?_
    refine g_iload_n (q := 182) C dX6_page_181 rfl 5 rfl rfl ?_
    refine g_bipush (q := 184) C dX6_page_182 rfl (by decide) ?_
    obtain ⟨hr, Ht, Hf⟩ := H
    refine g_icmp_ne (q := 187) (t := 191) C dX6_page_184 rfl (by decide) ⟨hr, by decide⟩ (fun hc => ?_) (fun hc => ?_)
    · have H := Ht hc
      refine g_iconst (q := 192) C dX6_page_191 rfl ?_
      obtain ⟨p192, hM, H⟩ := H
      refine g_callV (q := 195) (As := [vi (M84 117 v1), vi (M84 118 v1), vi 0]) (st := []) (na := 3) C mX6_between (by decide) (celr_6 (by decide)) rfl hM wm_17_9 wm_17_10 wm_17_11 wm_1_5 wm_17_12 (by decide +kernel) rfl rfl (by decide) rfl (Nat.le_of_ble_eq_true rfl) dX6_page_192 rfl (fun r192 M192 hp => ?_)
      have H := H r192 M192 hp
      show Gx x 6 195 [(5, vi r84), (4, vi w62), (3, vi s0), (0, vr (xg x) 105), (1, vi v1), (2, vi v2)] [vi r192] M192
      exact g_iret C hR dX6_page_195 rfl H
    · have H := Hf hc
      refine g_iconst (q := 188) C dX6_page_187 rfl ?_
      refine g_goto (t := 192) C dX6_page_188 (by decide) ?_
      obtain ⟨p192, hM, H⟩ := H
      refine g_callV (q := 195) (As := [vi (M84 117 v1), vi (M84 118 v1), vi 1]) (st := []) (na := 3) C mX6_between (by decide) (celr_6 (by decide)) rfl hM wm_17_9 wm_17_10 wm_17_11 wm_1_5 wm_17_12 (by decide +kernel) rfl rfl (by decide) rfl (Nat.le_of_ble_eq_true rfl) dX6_page_192 rfl (fun r192 M192 hp => ?_)
      have H := H r192 M192 hp
      show Gx x 6 195 [(5, vi r84), (4, vi w62), (3, vi s0), (0, vr (xg x) 105), (1, vi v1), (2, vi v2)] [vi r192] M192
      exact g_iret C hR dX6_page_195 rfl H
  · have H := H.1 hc
    refine g_tabIn (t := 124) C dX6_page_90 hr (by omega) (by rw [hc]; rfl) (by decide) ?_
    refine g_aload_n (q := 125) C dX6_page_124 rfl 3 rfl rfl ?_
    refine g_get (q := 128) C (by decide) (celr_6 (by decide)) (ci := 6) (i := 13) rfl inlX6 (by decide) wm_4_21 rfl dX6_page_125 rfl ?_
    refine g_iload_n (q := 129) C dX6_page_128 rfl 4 rfl rfl ?_
    obtain ⟨hc, H⟩ := H
    refine g_iald (q := 130) (m := 160) C (by decide) (by decide) (by decide) hc (by decide) dX6_page_129 rfl ?_
    exact g_iret C hR dX6_page_130 rfl H
  · have H := H.2.1 hc
    refine g_tabIn (t := 131) C dX6_page_90 hr (by omega) (by rw [hc]; rfl) (by decide) ?_
    refine g_iload (q := 133) C dX6_page_131 rfl 1 rfl ?_
    exact g_iret C hR dX6_page_133 rfl H
  · have H := H.2.2.1 hc
    refine g_tabIn (t := 134) C dX6_page_90 hr (by omega) (by rw [hc]; rfl) (by decide) ?_
    refine g_iload (q := 136) C dX6_page_134 rfl 1 rfl ?_
    obtain ⟨hr, Ht, Hf⟩ := H
    refine g_if_ne (q := 139) (t := 143) C dX6_page_136 rfl (by decide) hr (fun hc => ?_) (fun hc => ?_)
    · have H := Ht hc
      refine g_iload_n (q := 144) C dX6_page_143 rfl 2 rfl rfl ?_
      exact g_iret C hR dX6_page_144 rfl H
    · have H := Hf hc
      refine g_iconst (q := 140) C dX6_page_139 rfl ?_
      refine g_goto (t := 144) C dX6_page_140 (by decide) ?_
      exact g_iret C hR dX6_page_144 rfl H
  · have H := H.2.2.2.1 hc
    refine g_tabIn (t := 145) C dX6_page_90 hr (by omega) (by rw [hc]; rfl) (by decide) ?_
    refine g_iload (q := 147) C dX6_page_145 rfl 0 rfl ?_
    exact g_iret C hR dX6_page_147 rfl H
  · have H := H.2.2.2.2 hc
    refine g_tabIn (t := 148) C dX6_page_90 hr (by omega) (by rw [hc]; rfl) (by decide) ?_
    refine g_aload_n (q := 149) C dX6_page_148 rfl 3 rfl rfl ?_
    refine g_get (q := 152) C (by decide) (celr_6 (by decide)) (ci := 6) (i := 0) rfl inlX6 (by decide) wm_4_11 rfl dX6_page_149 rfl ?_
    refine g_iconst (q := 153) C dX6_page_152 rfl ?_
    refine g_iald (q := 154) (m := 47) C (by decide) (by decide) (by decide) (by decide) (by decide) dX6_page_153 rfl ?_
    refine g_aload_n (q := 155) C dX6_page_154 rfl 3 rfl rfl ?_
    refine g_get (q := 158) C (by decide) (celr_6 (by decide)) (ci := 6) (i := 0) rfl inlX6 (by decide) wm_4_11 rfl dX6_page_155 rfl ?_
    refine g_iconst (q := 159) C dX6_page_158 rfl ?_
    refine g_iald (q := 160) (m := 47) C (by decide) (by decide) (by decide) (by decide) (by decide) dX6_page_159 rfl ?_
    refine g_imul (q := 161) C dX6_page_160 rfl ?_
    refine g_iload (q := 163) C dX6_page_161 rfl 0 rfl ?_
    refine g_isub (q := 164) C dX6_page_163 rfl ?_
    refine g_iload (q := 166) C dX6_page_164 rfl 1 rfl ?_
    refine g_isub (q := 167) C dX6_page_166 rfl ?_
    exact g_iret C hR dX6_page_167 rfl H
set_option maxRecDepth 10000 in
set_option maxHeartbeats 2000000 in
theorem X6_pageOf_0 {x : Xx} {post : Int → Mm → Prop} (C : Cx x mX6_pageOf) (hR : Rt x mX6_pageOf post)  (v1 : Int) (M : Mm) (H : ∃ p10 : Int → Mm → Prop, Ct (xl x) (xg x) mX6_in [vi v1, vi 0, vi ((M 106 0) - 1)] M p10 ∧ ∀ (r10 : Int) (M10 : Mm), p10 r10 M10 → ((inR r10) ∧ (¬ (r10 = 0) → (∃ p20 : Int → Mm → Prop, Ct (xl x) (xg x) mX6_isPlanned [vr (xg x) 105] M10 p20 ∧ ∀ (r20 : Int) (M20 : Mm), p20 r20 M20 → ((inR r20) ∧ (r20 = 0 → (post (-1000000003) M20)) ∧ (¬ (r20 = 0) → (∃ p28 : Int → Mm → Prop, Ct (xl x) (xg x) mX6_pageOfLine [vr (xg x) 105, vi v1] M20 p28 ∧ ∀ (r28 : Int) (M28 : Mm), p28 r28 M28 → (post r28 M28)))))) ∧ (r10 = 0 → (post (-1000000001) M10)))) : Gx x 2 0 [(0, vr (xg x) 105), (1, vi v1)] [] M := by
  refine g_iload_n (q := 1) C dX6_pageOf_0 rfl 1 rfl rfl ?_
  refine g_iconst (q := 2) C dX6_pageOf_1 rfl ?_
  refine g_aload_n (q := 3) C dX6_pageOf_2 rfl 0 rfl rfl ?_
  refine g_get (q := 6) C (by decide) (celr_6 (by decide)) (ci := 6) (i := 0) rfl inlX6 (by decide) wm_4_11 rfl dX6_pageOf_3 rfl ?_
  refine g_iconst (q := 7) C dX6_pageOf_6 rfl ?_
  refine g_iald (q := 8) (m := 47) C (by decide) (by decide) (by decide) (by decide) (by decide) dX6_pageOf_7 rfl ?_
  refine g_iconst (q := 9) C dX6_pageOf_8 rfl ?_
  refine g_isub (q := 10) C dX6_pageOf_9 rfl ?_
  obtain ⟨p10, hM, H⟩ := H
  refine g_callS (q := 13) (As := [vi v1, vi 0, vi ((M 106 0) - 1)]) (st := []) (na := 3) C mX6_in hM wm_6_11 wm_6_12 wm_1_5 wm_6_13 (by decide +kernel) rfl rfl (by decide) rfl (Nat.le_of_ble_eq_true rfl) dX6_pageOf_10 rfl (fun r10 M10 hp => ?_)
  have H := H r10 M10 hp
  show Gx x 2 13 [(0, vr (xg x) 105), (1, vi v1)] [vi r10] M10
  obtain ⟨hr, Ht, Hf⟩ := H
  refine g_if_ne (q := 16) (t := 19) C dX6_pageOf_13 rfl (by decide) hr (fun hc => ?_) (fun hc => ?_)
  · have H := Ht hc
    refine g_aload_n (q := 20) C dX6_pageOf_19 rfl 0 rfl rfl ?_
    obtain ⟨p20, hM, H⟩ := H
    refine g_callV (q := 23) (As := []) (st := []) (na := 0) C mX6_isPlanned (by decide) (celr_6 (by decide)) rfl hM wm_21_4 wm_21_5 wm_21_6 wm_1_5 wm_21_7 (by decide +kernel) rfl rfl (by decide) rfl (Nat.le_of_ble_eq_true rfl) dX6_pageOf_20 rfl (fun r20 M20 hp => ?_)
    have H := H r20 M20 hp
    show Gx x 2 23 [(0, vr (xg x) 105), (1, vi v1)] [vi r20] M20
    obtain ⟨hr, Ht, Hf⟩ := H
    refine g_if_eq (q := 26) (t := 34) C dX6_pageOf_23 rfl (by decide) hr (fun hc => ?_) (fun hc => ?_)
    · have H := Ht hc
      refine g_ldc (q := 36) (z := (-1000000003)) C dX6_pageOf_34 rfl wc_18_14 ?_
      exact g_iret C hR dX6_pageOf_36 rfl H
    · have H := Hf hc
      refine g_aload_n (q := 27) C dX6_pageOf_26 rfl 0 rfl rfl ?_
      refine g_iload_n (q := 28) C dX6_pageOf_27 rfl 1 rfl rfl ?_
      obtain ⟨p28, hM, H⟩ := H
      refine g_callV (q := 31) (As := [vi v1]) (st := []) (na := 1) C mX6_pageOfLine (by decide) (celr_6 (by decide)) rfl hM wm_22_0 wm_22_1 wm_22_2 wm_1_5 wm_22_3 (by decide +kernel) rfl rfl (by decide) rfl (Nat.le_of_ble_eq_true rfl) dX6_pageOf_28 rfl (fun r28 M28 hp => ?_)
      have H := H r28 M28 hp
      show Gx x 2 31 [(0, vr (xg x) 105), (1, vi v1)] [vi r28] M28
      refine g_goto (t := 36) C dX6_pageOf_31 (by decide) ?_
      exact g_iret C hR dX6_pageOf_36 rfl H
  · have H := Hf hc
    refine g_ldc (q := 18) (z := (-1000000001)) C dX6_pageOf_16 rfl wc_8_22 ?_
    exact g_iret C hR dX6_pageOf_18 rfl H
set_option maxRecDepth 10000 in
set_option maxHeartbeats 2000000 in
theorem X6_fits_0 {x : Xx} {post : Int → Mm → Prop} (C : Cx x mX6_fits) (hR : Rt x mX6_fits post)  (v1 v2 : Int) (M : Mm) (H : (inR v2) ∧ (0 ≤ v2 → ((inR v2) ∧ (¬ (v2 = 0) → (∃ p15 : Int → Mm → Prop, Ct (xl x) (xg x) mX6_isFigure [vr (xg x) 105, vi v1] M p15 ∧ ∀ (r15 : Int) (M15 : Mm), p15 r15 M15 → ((inR r15) ∧ (¬ (r15 = 0) → ((inR v2 ∧ inR ((M15 106 6) - v1)) ∧ (v2 ≤ (M15 106 6) - v1 → (∃ p43 : Int → Mm → Prop, Ct (xl x) (xg x) mX6_isFit [vr (xg x) 105, vi v1, vi v2] M15 p43 ∧ ∀ (r43 : Int) (M43 : Mm), p43 r43 M43 → ((inR r43) ∧ (r43 = 0 → (post 0 M43)) ∧ (¬ (r43 = 0) → (post 1 M43))))) ∧ (¬ (v2 ≤ (M15 106 6) - v1) → (post (-1000000002) M15)))) ∧ (r15 = 0 → (post (-1000000001) M15))))) ∧ (v2 = 0 → (post 1 M)))) ∧ (¬ (0 ≤ v2) → (post (-1000000002) M))) : Gx x 3 0 [(0, vr (xg x) 105), (1, vi v1), (2, vi v2)] [] M := by
  refine g_iload_n (q := 1) C dX6_fits_0 rfl 2 rfl rfl ?_
  obtain ⟨hr, Ht, Hf⟩ := H
  refine g_if_ge (q := 4) (t := 7) C dX6_fits_1 rfl (by decide) hr (fun hc => ?_) (fun hc => ?_)
  · have H := Ht hc
    refine g_iload_n (q := 8) C dX6_fits_7 rfl 2 rfl rfl ?_
    obtain ⟨hr, Ht, Hf⟩ := H
    refine g_if_ne (q := 11) (t := 13) C dX6_fits_8 rfl (by decide) hr (fun hc => ?_) (fun hc => ?_)
    · have H := Ht hc
      refine g_aload_n (q := 14) C dX6_fits_13 rfl 0 rfl rfl ?_
      refine g_iload_n (q := 15) C dX6_fits_14 rfl 1 rfl rfl ?_
      obtain ⟨p15, hM, H⟩ := H
      refine g_callV (q := 18) (As := [vi v1]) (st := []) (na := 1) C mX6_isFigure (by decide) (celr_6 (by decide)) rfl hM wm_8_23 wm_9_0 wm_9_1 wm_1_5 wm_9_2 (by decide +kernel) rfl rfl (by decide) rfl (Nat.le_of_ble_eq_true rfl) dX6_fits_15 rfl (fun r15 M15 hp => ?_)
      have H := H r15 M15 hp
      show Gx x 3 18 [(0, vr (xg x) 105), (1, vi v1), (2, vi v2)] [vi r15] M15
      obtain ⟨hr, Ht, Hf⟩ := H
      refine g_if_ne (q := 21) (t := 24) C dX6_fits_18 rfl (by decide) hr (fun hc => ?_) (fun hc => ?_)
      · have H := Ht hc
        refine g_iload_n (q := 25) C dX6_fits_24 rfl 2 rfl rfl ?_
        refine g_aload_n (q := 26) C dX6_fits_25 rfl 0 rfl rfl ?_
        refine g_get (q := 29) C (by decide) (celr_6 (by decide)) (ci := 6) (i := 0) rfl inlX6 (by decide) wm_4_11 rfl dX6_fits_26 rfl ?_
        refine g_bipush (q := 31) C dX6_fits_29 rfl (by decide) ?_
        refine g_iald (q := 32) (m := 47) C (by decide) (by decide) (by decide) (by decide) (by decide) dX6_fits_31 rfl ?_
        refine g_iload_n (q := 33) C dX6_fits_32 rfl 1 rfl rfl ?_
        refine g_isub (q := 34) C dX6_fits_33 rfl ?_
        obtain ⟨hr, Ht, Hf⟩ := H
        refine g_icmp_le (q := 37) (t := 40) C dX6_fits_34 rfl (by decide) hr (fun hc => ?_) (fun hc => ?_)
        · have H := Ht hc
          refine g_aload_n (q := 41) C dX6_fits_40 rfl 0 rfl rfl ?_
          refine g_iload_n (q := 42) C dX6_fits_41 rfl 1 rfl rfl ?_
          refine g_iload_n (q := 43) C dX6_fits_42 rfl 2 rfl rfl ?_
          obtain ⟨p43, hM, H⟩ := H
          refine g_callV (q := 46) (As := [vi v1, vi v2]) (st := []) (na := 2) C mX6_isFit (by decide) (celr_6 (by decide)) rfl hM wm_15_21 wm_15_22 wm_15_23 wm_1_5 wm_16_0 (by decide +kernel) rfl rfl (by decide) rfl (Nat.le_of_ble_eq_true rfl) dX6_fits_43 rfl (fun r43 M43 hp => ?_)
          have H := H r43 M43 hp
          show Gx x 3 46 [(0, vr (xg x) 105), (1, vi v1), (2, vi v2)] [vi r43] M43
          obtain ⟨hr, Ht, Hf⟩ := H
          refine g_if_eq (q := 49) (t := 53) C dX6_fits_46 rfl (by decide) hr (fun hc => ?_) (fun hc => ?_)
          · have H := Ht hc
            refine g_iconst (q := 54) C dX6_fits_53 rfl ?_
            exact g_iret C hR dX6_fits_54 rfl H
          · have H := Hf hc
            refine g_iconst (q := 50) C dX6_fits_49 rfl ?_
            refine g_goto (t := 54) C dX6_fits_50 (by decide) ?_
            exact g_iret C hR dX6_fits_54 rfl H
        · have H := Hf hc
          refine g_ldc (q := 39) (z := (-1000000002)) C dX6_fits_37 rfl wc_6_10 ?_
          exact g_iret C hR dX6_fits_39 rfl H
      · have H := Hf hc
        refine g_ldc (q := 23) (z := (-1000000001)) C dX6_fits_21 rfl wc_8_22 ?_
        exact g_iret C hR dX6_fits_23 rfl H
    · have H := Hf hc
      refine g_iconst (q := 12) C dX6_fits_11 rfl ?_
      exact g_iret C hR dX6_fits_12 rfl H
  · have H := Hf hc
    refine g_ldc (q := 6) (z := (-1000000002)) C dX6_fits_4 rfl wc_6_10 ?_
    exact g_iret C hR dX6_fits_6 rfl H
set_option maxRecDepth 10000 in
set_option maxHeartbeats 2000000 in
theorem X6_ways_0 {x : Xx} {post : Int → Mm → Prop} (C : Cx x mX6_ways) (hR : Rt x mX6_ways post)  (M : Mm) (H : ∃ p1 : Int → Mm → Prop, Ct (xl x) (xg x) mX6_bestOf [vr (xg x) 105] M p1 ∧ ∀ (r1 : Int) (M1 : Mm), p1 r1 M1 → ((inR r1) ∧ (¬ (r1 = (-1)) → (post (M1 114 0) M1)) ∧ (r1 = (-1) → (post 0 M1)))) : Gx x 1 0 [(0, vr (xg x) 105)] [] M := by
  refine g_aload_n (q := 1) C dX6_ways_0 rfl 0 rfl rfl ?_
  obtain ⟨p1, hM, H⟩ := H
  refine g_callV (q := 4) (As := []) (st := []) (na := 0) C mX6_bestOf (by decide) (celr_6 (by decide)) rfl hM wm_15_4 wm_15_5 wm_15_6 wm_1_5 wm_15_7 (by decide +kernel) rfl rfl (by decide) rfl (Nat.le_of_ble_eq_true rfl) dX6_ways_1 rfl (fun r1 M1 hp => ?_)
  have H := H r1 M1 hp
  show Gx x 1 4 [(0, vr (xg x) 105)] [vi r1] M1
  refine g_iconst (q := 5) C dX6_ways_4 rfl ?_
  obtain ⟨hr, Ht, Hf⟩ := H
  refine g_icmp_ne (q := 8) (t := 12) C dX6_ways_5 rfl (by decide) ⟨hr, by decide⟩ (fun hc => ?_) (fun hc => ?_)
  · have H := Ht hc
    refine g_aload_n (q := 13) C dX6_ways_12 rfl 0 rfl rfl ?_
    refine g_get (q := 16) C (by decide) (celr_6 (by decide)) (ci := 6) (i := 10) rfl inlX6 (by decide) wm_4_19 rfl dX6_ways_13 rfl ?_
    refine g_iconst (q := 17) C dX6_ways_16 rfl ?_
    refine g_lald (q := 18) (m := 1331) C (by decide) (by decide) (by decide) (by decide) (by decide) dX6_ways_17 rfl ?_
    exact g_lret C hR dX6_ways_18 rfl H
  · have H := Hf hc
    refine g_lconst (q := 9) C dX6_ways_8 rfl ?_
    refine g_goto (t := 18) C dX6_ways_9 (by decide) ?_
    exact g_lret C hR dX6_ways_18 rfl H
set_option maxRecDepth 10000 in
set_option maxHeartbeats 2000000 in
theorem X6_without_0 {x : Xx} {post : Int → Mm → Prop} (C : Cx x mX6_without) (hR : Rt x mX6_without post)  (v1 : Int) (M : Mm) (H : ∃ p2 : Int → Mm → Prop, Ct (xl x) (xg x) mX6_isFigure [vr (xg x) 105, vi v1] M p2 ∧ ∀ (r2 : Int) (M2 : Mm), p2 r2 M2 → ((inR r2) ∧ (¬ (r2 = 0) → (∃ p23 : Int → Mm → Prop, Ct (xl x) (xg x) mX6_bring [vr (xg x) 106, vi 0, vr (xg x) 107, vi 0, vi 47] M2 p23 ∧ ∀ (r23 : Int) (M23 : Mm), p23 r23 M23 → (∃ p28 : Int → Mm → Prop, Ct (xl x) (xg x) mX6_remove [vr (xg x) 105, vi v1] M23 p28 ∧ ∀ (r28 : Int) (M28 : Mm), p28 r28 M28 → (∃ p32 : Int → Mm → Prop, Ct (xl x) (xg x) mX6_bestOf [vr (xg x) 105] M28 p32 ∧ ∀ (r32 : Int) (M32 : Mm), p32 r32 M32 → (∃ p48 : Int → Mm → Prop, Ct (xl x) (xg x) mX6_bring [vr (xg x) 107, vi 0, vr (xg x) 106, vi 0, vi 47] M32 p48 ∧ ∀ (r48 : Int) (M48 : Mm), p48 r48 M48 → (post r32 M48)))))) ∧ (r2 = 0 → (post (-1000000001) M2)))) : Gx x 3 0 [(0, vr (xg x) 105), (1, vi v1)] [] M := by
  refine g_aload_n (q := 1) C dX6_without_0 rfl 0 rfl rfl ?_
  refine g_iload_n (q := 2) C dX6_without_1 rfl 1 rfl rfl ?_
  obtain ⟨p2, hM, H⟩ := H
  refine g_callV (q := 5) (As := [vi v1]) (st := []) (na := 1) C mX6_isFigure (by decide) (celr_6 (by decide)) rfl hM wm_8_23 wm_9_0 wm_9_1 wm_1_5 wm_9_2 (by decide +kernel) rfl rfl (by decide) rfl (Nat.le_of_ble_eq_true rfl) dX6_without_2 rfl (fun r2 M2 hp => ?_)
  have H := H r2 M2 hp
  show Gx x 3 5 [(0, vr (xg x) 105), (1, vi v1)] [vi r2] M2
  obtain ⟨hr, Ht, Hf⟩ := H
  refine g_if_ne (q := 8) (t := 11) C dX6_without_5 rfl (by decide) hr (fun hc => ?_) (fun hc => ?_)
  · have H := Ht hc
    refine g_aload_n (q := 12) C dX6_without_11 rfl 0 rfl rfl ?_
    refine g_get (q := 15) C (by decide) (celr_6 (by decide)) (ci := 6) (i := 0) rfl inlX6 (by decide) wm_4_11 rfl dX6_without_12 rfl ?_
    refine g_iconst (q := 16) C dX6_without_15 rfl ?_
    refine g_aload_n (q := 17) C dX6_without_16 rfl 0 rfl rfl ?_
    refine g_get (q := 20) C (by decide) (celr_6 (by decide)) (ci := 6) (i := 1) rfl inlX6 (by decide) wm_4_12 rfl dX6_without_17 rfl ?_
    refine g_iconst (q := 21) C dX6_without_20 rfl ?_
    refine g_bipush (q := 23) C dX6_without_21 rfl (by decide) ?_
    obtain ⟨p23, hM, H⟩ := H
    refine g_callS (q := 26) (As := [vr (xg x) 106, vi 0, vr (xg x) 107, vi 0, vi 47]) (st := []) (na := 5) C mX6_bring hM wm_6_23 wm_7_0 wm_1_5 wm_7_1 (by decide +kernel) rfl rfl (by decide) rfl (Nat.le_of_ble_eq_true rfl) dX6_without_23 rfl (fun r23 M23 hp => ?_)
    have H := H r23 M23 hp
    show Gx x 3 26 [(0, vr (xg x) 105), (1, vi v1)] [] M23
    refine g_aload_n (q := 27) C dX6_without_26 rfl 0 rfl rfl ?_
    refine g_iload_n (q := 28) C dX6_without_27 rfl 1 rfl rfl ?_
    obtain ⟨p28, hM, H⟩ := H
    refine g_callV (q := 31) (As := [vi v1]) (st := []) (na := 1) C mX6_remove (by decide) (celr_6 (by decide)) rfl hM wm_9_3 wm_9_4 wm_9_5 wm_1_5 wm_9_6 (by decide +kernel) rfl rfl (by decide) rfl (Nat.le_of_ble_eq_true rfl) dX6_without_28 rfl (fun r28 M28 hp => ?_)
    have H := H r28 M28 hp
    show Gx x 3 31 [(0, vr (xg x) 105), (1, vi v1)] [] M28
    refine g_aload_n (q := 32) C dX6_without_31 rfl 0 rfl rfl ?_
    obtain ⟨p32, hM, H⟩ := H
    refine g_callV (q := 35) (As := []) (st := []) (na := 0) C mX6_bestOf (by decide) (celr_6 (by decide)) rfl hM wm_15_4 wm_15_5 wm_15_6 wm_1_5 wm_15_7 (by decide +kernel) rfl rfl (by decide) rfl (Nat.le_of_ble_eq_true rfl) dX6_without_32 rfl (fun r32 M32 hp => ?_)
    have H := H r32 M32 hp
    show Gx x 3 35 [(0, vr (xg x) 105), (1, vi v1)] [vi r32] M32
    refine g_istore_n (q := 36) (L2 := [(2, vi r32), (0, vr (xg x) 105), (1, vi v1)]) C dX6_without_35 rfl rfl (by decide) rfl ?_
    refine g_aload_n (q := 37) C dX6_without_36 rfl 1 rfl rfl ?_
    refine g_get (q := 40) C (by decide) (celr_6 (by decide)) (ci := 6) (i := 1) rfl inlX6 (by decide) wm_4_12 rfl dX6_without_37 rfl ?_
    refine g_iconst (q := 41) C dX6_without_40 rfl ?_
    refine g_aload_n (q := 42) C dX6_without_41 rfl 1 rfl rfl ?_
    refine g_get (q := 45) C (by decide) (celr_6 (by decide)) (ci := 6) (i := 0) rfl inlX6 (by decide) wm_4_11 rfl dX6_without_42 rfl ?_
    refine g_iconst (q := 46) C dX6_without_45 rfl ?_
    refine g_bipush (q := 48) C dX6_without_46 rfl (by decide) ?_
    obtain ⟨p48, hM, H⟩ := H
    refine g_callS (q := 51) (As := [vr (xg x) 107, vi 0, vr (xg x) 106, vi 0, vi 47]) (st := []) (na := 5) C mX6_bring hM wm_6_23 wm_7_0 wm_1_5 wm_7_1 (by decide +kernel) rfl rfl (by decide) rfl (Nat.le_of_ble_eq_true rfl) dX6_without_48 rfl (fun r48 M48 hp => ?_)
    have H := H r48 M48 hp
    show Gx x 3 51 [(2, vi r32), (0, vr (xg x) 105), (1, vi v1)] [] M48
    refine g_iload_n (q := 52) C dX6_without_51 rfl 0 rfl rfl ?_
    exact g_iret C hR dX6_without_52 rfl H
  · have H := Hf hc
    refine g_ldc (q := 10) (z := (-1000000001)) C dX6_without_8 rfl wc_8_22 ?_
    exact g_iret C hR dX6_without_10 rfl H
set_option maxRecDepth 10000 in
set_option maxHeartbeats 2000000 in
theorem X6_moved_0 {x : Xx} {post : Int → Mm → Prop} (C : Cx x mX6_moved) (hR : Rt x mX6_moved post)  (v1 v2 : Int) (M : Mm) (H : ∃ p2 : Int → Mm → Prop, Ct (xl x) (xg x) mX6_isFigure [vr (xg x) 105, vi v1] M p2 ∧ ∀ (r2 : Int) (M2 : Mm), p2 r2 M2 → ((inR r2) ∧ (¬ (r2 = 0) → (∃ p15 : Int → Mm → Prop, Ct (xl x) (xg x) mX6_in [vi v2, vi 0, vi 119] M2 p15 ∧ ∀ (r15 : Int) (M15 : Mm), p15 r15 M15 → ((inR r15) ∧ (¬ (r15 = 0) → ((0 ≤ (7 + (4 * v1)) + 2 ∧ (7 + (4 * v1)) + 2 < 47) ∧ (∀ w37 : Int, w37 = (M15 106 ((7 + (4 * v1)) + 2)) → ((0 ≤ (7 + (4 * v1)) + 2 ∧ (7 + (4 * v1)) + 2 < 47) ∧ (∀ M51 : Mm, M51 = mu M15 106 ((7 + (4 * v1)) + 2) v2 → (∃ p53 : Int → Mm → Prop, Ct (xl x) (xg x) mX6_bestOf [vr (xg x) 105] M51 p53 ∧ ∀ (r53 : Int) (M53 : Mm), p53 r53 M53 → ((0 ≤ (7 + (4 * v1)) + 2 ∧ (7 + (4 * v1)) + 2 < 47) ∧ (∀ M71 : Mm, M71 = mu M53 106 ((7 + (4 * v1)) + 2) w37 → (post r53 M71))))))))) ∧ (r15 = 0 → (post (-1000000002) M15))))) ∧ (r2 = 0 → (post (-1000000001) M2)))) : Gx x 5 0 [(0, vr (xg x) 105), (1, vi v1), (2, vi v2)] [] M := by
  refine g_aload_n (q := 1) C dX6_moved_0 rfl 0 rfl rfl ?_
  refine g_iload_n (q := 2) C dX6_moved_1 rfl 1 rfl rfl ?_
  obtain ⟨p2, hM, H⟩ := H
  refine g_callV (q := 5) (As := [vi v1]) (st := []) (na := 1) C mX6_isFigure (by decide) (celr_6 (by decide)) rfl hM wm_8_23 wm_9_0 wm_9_1 wm_1_5 wm_9_2 (by decide +kernel) rfl rfl (by decide) rfl (Nat.le_of_ble_eq_true rfl) dX6_moved_2 rfl (fun r2 M2 hp => ?_)
  have H := H r2 M2 hp
  show Gx x 5 5 [(0, vr (xg x) 105), (1, vi v1), (2, vi v2)] [vi r2] M2
  obtain ⟨hr, Ht, Hf⟩ := H
  refine g_if_ne (q := 8) (t := 11) C dX6_moved_5 rfl (by decide) hr (fun hc => ?_) (fun hc => ?_)
  · have H := Ht hc
    refine g_iload_n (q := 12) C dX6_moved_11 rfl 2 rfl rfl ?_
    refine g_iconst (q := 13) C dX6_moved_12 rfl ?_
    refine g_bipush (q := 15) C dX6_moved_13 rfl (by decide) ?_
    obtain ⟨p15, hM, H⟩ := H
    refine g_callS (q := 18) (As := [vi v2, vi 0, vi 119]) (st := []) (na := 3) C mX6_in hM wm_6_11 wm_6_12 wm_1_5 wm_6_13 (by decide +kernel) rfl rfl (by decide) rfl (Nat.le_of_ble_eq_true rfl) dX6_moved_15 rfl (fun r15 M15 hp => ?_)
    have H := H r15 M15 hp
    show Gx x 5 18 [(0, vr (xg x) 105), (1, vi v1), (2, vi v2)] [vi r15] M15
    obtain ⟨hr, Ht, Hf⟩ := H
    refine g_if_ne (q := 21) (t := 24) C dX6_moved_18 rfl (by decide) hr (fun hc => ?_) (fun hc => ?_)
    · have H := Ht hc
      refine g_aload_n (q := 25) C dX6_moved_24 rfl 0 rfl rfl ?_
      refine g_get (q := 28) C (by decide) (celr_6 (by decide)) (ci := 6) (i := 0) rfl inlX6 (by decide) wm_4_11 rfl dX6_moved_25 rfl ?_
      refine g_bipush (q := 30) C dX6_moved_28 rfl (by decide) ?_
      refine g_iconst (q := 31) C dX6_moved_30 rfl ?_
      refine g_iload_n (q := 32) C dX6_moved_31 rfl 1 rfl rfl ?_
      refine g_imul (q := 33) C dX6_moved_32 rfl ?_
      refine g_iadd (q := 34) C dX6_moved_33 rfl ?_
      refine g_iconst (q := 35) C dX6_moved_34 rfl ?_
      refine g_iadd (q := 36) C dX6_moved_35 rfl ?_
      obtain ⟨hc, H⟩ := H
      refine g_iald (q := 37) (m := 47) C (by decide) (by decide) (by decide) hc (by decide) dX6_moved_36 rfl ?_
      refine g_topi (fun w37 hw37 => ?_)
      have H := H w37 hw37
      refine g_istore_n (q := 38) (L2 := [(3, vi w37), (0, vr (xg x) 105), (1, vi v1), (2, vi v2)]) C dX6_moved_37 rfl rfl (by decide) rfl ?_
      refine g_aload_n (q := 39) C dX6_moved_38 rfl 1 rfl rfl ?_
      refine g_get (q := 42) C (by decide) (celr_6 (by decide)) (ci := 6) (i := 0) rfl inlX6 (by decide) wm_4_11 rfl dX6_moved_39 rfl ?_
      refine g_bipush (q := 44) C dX6_moved_42 rfl (by decide) ?_
      refine g_iconst (q := 45) C dX6_moved_44 rfl ?_
      refine g_iload_n (q := 46) C dX6_moved_45 rfl 2 rfl rfl ?_
      refine g_imul (q := 47) C dX6_moved_46 rfl ?_
      refine g_iadd (q := 48) C dX6_moved_47 rfl ?_
      refine g_iconst (q := 49) C dX6_moved_48 rfl ?_
      refine g_iadd (q := 50) C dX6_moved_49 rfl ?_
      refine g_iload_n (q := 51) C dX6_moved_50 rfl 3 rfl rfl ?_
      obtain ⟨hc, H⟩ := H
      refine g_iast (q := 52) (m := 47) C (by decide) (by decide) (by decide) hc (by decide) dX6_moved_51 rfl ?_
      refine g_topM (fun M51 hM51 => ?_)
      have H := H M51 hM51
      refine g_aload_n (q := 53) C dX6_moved_52 rfl 1 rfl rfl ?_
      obtain ⟨p53, hM, H⟩ := H
      refine g_callV (q := 56) (As := []) (st := []) (na := 0) C mX6_bestOf (by decide) (celr_6 (by decide)) rfl hM wm_15_4 wm_15_5 wm_15_6 wm_1_5 wm_15_7 (by decide +kernel) rfl rfl (by decide) rfl (Nat.le_of_ble_eq_true rfl) dX6_moved_53 rfl (fun r53 M53 hp => ?_)
      have H := H r53 M53 hp
      show Gx x 5 56 [(3, vi w37), (0, vr (xg x) 105), (1, vi v1), (2, vi v2)] [vi r53] M53
      refine g_istore (q := 58) (L2 := [(4, vi r53), (3, vi w37), (0, vr (xg x) 105), (1, vi v1), (2, vi v2)]) C dX6_moved_56 rfl (by decide) rfl ?_
      refine g_aload_n (q := 59) C dX6_moved_58 rfl 2 rfl rfl ?_
      refine g_get (q := 62) C (by decide) (celr_6 (by decide)) (ci := 6) (i := 0) rfl inlX6 (by decide) wm_4_11 rfl dX6_moved_59 rfl ?_
      refine g_bipush (q := 64) C dX6_moved_62 rfl (by decide) ?_
      refine g_iconst (q := 65) C dX6_moved_64 rfl ?_
      refine g_iload_n (q := 66) C dX6_moved_65 rfl 3 rfl rfl ?_
      refine g_imul (q := 67) C dX6_moved_66 rfl ?_
      refine g_iadd (q := 68) C dX6_moved_67 rfl ?_
      refine g_iconst (q := 69) C dX6_moved_68 rfl ?_
      refine g_iadd (q := 70) C dX6_moved_69 rfl ?_
      refine g_iload_n (q := 71) C dX6_moved_70 rfl 1 rfl rfl ?_
      obtain ⟨hc, H⟩ := H
      refine g_iast (q := 72) (m := 47) C (by decide) (by decide) (by decide) hc (by decide) dX6_moved_71 rfl ?_
      refine g_topM (fun M71 hM71 => ?_)
      have H := H M71 hM71
      refine g_iload (q := 74) C dX6_moved_72 rfl 0 rfl ?_
      exact g_iret C hR dX6_moved_74 rfl H
    · have H := Hf hc
      refine g_ldc (q := 23) (z := (-1000000002)) C dX6_moved_21 rfl wc_6_10 ?_
      exact g_iret C hR dX6_moved_23 rfl H
  · have H := Hf hc
    refine g_ldc (q := 10) (z := (-1000000001)) C dX6_moved_8 rfl wc_8_22 ?_
    exact g_iret C hR dX6_moved_10 rfl H
set_option maxRecDepth 10000 in
set_option maxHeartbeats 2000000 in
theorem X6_from_0 {x : Xx} {post : Int → Mm → Prop} (C : Cx x mX6_from) (hR : Rt x mX6_from post)  (v1 v2 v3 : Int) (M : Mm) (H : ∃ p3 : Int → Mm → Prop, Ct (xl x) (xg x) mX6_in [vi v3, vi 0, vi 1] M p3 ∧ ∀ (r3 : Int) (M3 : Mm), p3 r3 M3 → ((inR r3) ∧ (¬ (r3 = 0) → (∃ p20 : Int → Mm → Prop, Ct (xl x) (xg x) mX6_in [vi v1, vi 0, vi (M3 106 0)] M3 p20 ∧ ∀ (r20 : Int) (M20 : Mm), p20 r20 M20 → ((inR r20) ∧ (r20 = 0 → (post (-1) M20)) ∧ (¬ (r20 = 0) → (∃ p35 : Int → Mm → Prop, Ct (xl x) (xg x) mX6_in [vi v2, vi 0, vi (M20 106 6)] M20 p35 ∧ ∀ (r35 : Int) (M35 : Mm), p35 r35 M35 → ((inR r35) ∧ (r35 = 0 → (post (-1) M35)) ∧ (¬ (r35 = 0) → (∃ p42 : Int → Mm → Prop, Ct (xl x) (xg x) mX6_layPlaces [vr (xg x) 105] M35 p42 ∧ ∀ (r42 : Int) (M42 : Mm), p42 r42 M42 → ((inR r42) ∧ (r42 = 0 → (post (-1) M42)) ∧ (¬ (r42 = 0) → ((0 ≤ (11 * v1) + v2 ∧ (11 * v1) + v2 < 1331) ∧ ((inR (M42 115 ((11 * v1) + v2))) ∧ (¬ (M42 115 ((11 * v1) + v2) = 0) → ((inR v3) ∧ (¬ (v3 = 0) → ((0 ≤ (11 * v1) + v2 ∧ (11 * v1) + v2 < 1331) ∧ (post (M42 113 ((11 * v1) + v2)) M42))) ∧ (v3 = 0 → ((0 ≤ (11 * v1) + v2 ∧ (11 * v1) + v2 < 1331) ∧ (post (M42 112 ((11 * v1) + v2)) M42))))) ∧ (M42 115 ((11 * v1) + v2) = 0 → (post (-1) M42)))))))))))))) ∧ (r3 = 0 → (post (-1000000002) M3)))) : Gx x 4 0 [(0, vr (xg x) 105), (1, vi v1), (2, vi v2), (3, vi v3)] [] M := by
  refine g_iload_n (q := 1) C dX6_from_0 rfl 3 rfl rfl ?_
  refine g_iconst (q := 2) C dX6_from_1 rfl ?_
  refine g_iconst (q := 3) C dX6_from_2 rfl ?_
  obtain ⟨p3, hM, H⟩ := H
  refine g_callS (q := 6) (As := [vi v3, vi 0, vi 1]) (st := []) (na := 3) C mX6_in hM wm_6_11 wm_6_12 wm_1_5 wm_6_13 (by decide +kernel) rfl rfl (by decide) rfl (Nat.le_of_ble_eq_true rfl) dX6_from_3 rfl (fun r3 M3 hp => ?_)
  have H := H r3 M3 hp
  show Gx x 4 6 [(0, vr (xg x) 105), (1, vi v1), (2, vi v2), (3, vi v3)] [vi r3] M3
  obtain ⟨hr, Ht, Hf⟩ := H
  refine g_if_ne (q := 9) (t := 12) C dX6_from_6 rfl (by decide) hr (fun hc => ?_) (fun hc => ?_)
  · have H := Ht hc
    refine g_iload_n (q := 13) C dX6_from_12 rfl 1 rfl rfl ?_
    refine g_iconst (q := 14) C dX6_from_13 rfl ?_
    refine g_aload_n (q := 15) C dX6_from_14 rfl 0 rfl rfl ?_
    refine g_get (q := 18) C (by decide) (celr_6 (by decide)) (ci := 6) (i := 0) rfl inlX6 (by decide) wm_4_11 rfl dX6_from_15 rfl ?_
    refine g_iconst (q := 19) C dX6_from_18 rfl ?_
    refine g_iald (q := 20) (m := 47) C (by decide) (by decide) (by decide) (by decide) (by decide) dX6_from_19 rfl ?_
    obtain ⟨p20, hM, H⟩ := H
    refine g_callS (q := 23) (As := [vi v1, vi 0, vi (M3 106 0)]) (st := []) (na := 3) C mX6_in hM wm_6_11 wm_6_12 wm_1_5 wm_6_13 (by decide +kernel) rfl rfl (by decide) rfl (Nat.le_of_ble_eq_true rfl) dX6_from_20 rfl (fun r20 M20 hp => ?_)
    have H := H r20 M20 hp
    show Gx x 4 23 [(0, vr (xg x) 105), (1, vi v1), (2, vi v2), (3, vi v3)] [vi r20] M20
    obtain ⟨hr, Ht, Hf⟩ := H
    refine g_if_eq (q := 26) (t := 62) C dX6_from_23 rfl (by decide) hr (fun hc => ?_) (fun hc => ?_)
    · have H := Ht hc
      refine g_iconst (q := 63) C dX6_from_62 rfl ?_
      exact g_iret C hR dX6_from_63 rfl H
    · have H := Hf hc
      refine g_iload_n (q := 27) C dX6_from_26 rfl 2 rfl rfl ?_
      refine g_iconst (q := 28) C dX6_from_27 rfl ?_
      refine g_aload_n (q := 29) C dX6_from_28 rfl 0 rfl rfl ?_
      refine g_get (q := 32) C (by decide) (celr_6 (by decide)) (ci := 6) (i := 0) rfl inlX6 (by decide) wm_4_11 rfl dX6_from_29 rfl ?_
      refine g_bipush (q := 34) C dX6_from_32 rfl (by decide) ?_
      refine g_iald (q := 35) (m := 47) C (by decide) (by decide) (by decide) (by decide) (by decide) dX6_from_34 rfl ?_
      obtain ⟨p35, hM, H⟩ := H
      refine g_callS (q := 38) (As := [vi v2, vi 0, vi (M20 106 6)]) (st := []) (na := 3) C mX6_in hM wm_6_11 wm_6_12 wm_1_5 wm_6_13 (by decide +kernel) rfl rfl (by decide) rfl (Nat.le_of_ble_eq_true rfl) dX6_from_35 rfl (fun r35 M35 hp => ?_)
      have H := H r35 M35 hp
      show Gx x 4 38 [(0, vr (xg x) 105), (1, vi v1), (2, vi v2), (3, vi v3)] [vi r35] M35
      obtain ⟨hr, Ht, Hf⟩ := H
      refine g_if_eq (q := 41) (t := 62) C dX6_from_38 rfl (by decide) hr (fun hc => ?_) (fun hc => ?_)
      · have H := Ht hc
        refine g_iconst (q := 63) C dX6_from_62 rfl ?_
        exact g_iret C hR dX6_from_63 rfl H
      · have H := Hf hc
        refine g_aload_n (q := 42) C dX6_from_41 rfl 0 rfl rfl ?_
        obtain ⟨p42, hM, H⟩ := H
        refine g_callV (q := 45) (As := []) (st := []) (na := 0) C mX6_layPlaces (by decide) (celr_6 (by decide)) rfl hM wm_20_20 wm_20_21 wm_20_22 wm_1_5 wm_20_23 (by decide +kernel) rfl rfl (by decide) rfl (Nat.le_of_ble_eq_true rfl) dX6_from_42 rfl (fun r42 M42 hp => ?_)
        have H := H r42 M42 hp
        show Gx x 4 45 [(0, vr (xg x) 105), (1, vi v1), (2, vi v2), (3, vi v3)] [vi r42] M42
        obtain ⟨hr, Ht, Hf⟩ := H
        refine g_if_eq (q := 48) (t := 62) C dX6_from_45 rfl (by decide) hr (fun hc => ?_) (fun hc => ?_)
        · have H := Ht hc
          refine g_iconst (q := 63) C dX6_from_62 rfl ?_
          exact g_iret C hR dX6_from_63 rfl H
        · have H := Hf hc
          refine g_aload_n (q := 49) C dX6_from_48 rfl 0 rfl rfl ?_
          refine g_get (q := 52) C (by decide) (celr_6 (by decide)) (ci := 6) (i := 11) rfl inlX6 (by decide) wm_4_20 rfl dX6_from_49 rfl ?_
          refine g_bipush (q := 54) C dX6_from_52 rfl (by decide) ?_
          refine g_iload_n (q := 55) C dX6_from_54 rfl 1 rfl rfl ?_
          refine g_imul (q := 56) C dX6_from_55 rfl ?_
          refine g_iload_n (q := 57) C dX6_from_56 rfl 2 rfl rfl ?_
          refine g_iadd (q := 58) C dX6_from_57 rfl ?_
          obtain ⟨hc, H⟩ := H
          refine g_zald (q := 59) (m := 1331) C (by decide) (by decide) (by decide) hc (by decide) dX6_from_58 rfl ?_
          obtain ⟨hr, Ht, Hf⟩ := H
          refine g_if_ne (q := 62) (t := 64) C dX6_from_59 rfl (by decide) hr (fun hc => ?_) (fun hc => ?_)
          · have H := Ht hc
            refine g_iload_n (q := 65) C dX6_from_64 rfl 3 rfl rfl ?_
            obtain ⟨hr, Ht, Hf⟩ := H
            refine g_if_ne (q := 68) (t := 82) C dX6_from_65 rfl (by decide) hr (fun hc => ?_) (fun hc => ?_)
            · have H := Ht hc
              refine g_aload_n (q := 83) C dX6_from_82 rfl 0 rfl rfl ?_
              refine g_get (q := 86) C (by decide) (celr_6 (by decide)) (ci := 6) (i := 9) rfl inlX6 (by decide) wm_4_18 rfl dX6_from_83 rfl ?_
              refine g_bipush (q := 88) C dX6_from_86 rfl (by decide) ?_
              refine g_iload_n (q := 89) C dX6_from_88 rfl 1 rfl rfl ?_
              refine g_imul (q := 90) C dX6_from_89 rfl ?_
              refine g_iload_n (q := 91) C dX6_from_90 rfl 2 rfl rfl ?_
              refine g_iadd (q := 92) C dX6_from_91 rfl ?_
              obtain ⟨hc, H⟩ := H
              refine g_iald (q := 93) (m := 1331) C (by decide) (by decide) (by decide) hc (by decide) dX6_from_92 rfl ?_
              exact g_iret C hR dX6_from_93 rfl H
            · have H := Hf hc
              refine g_aload_n (q := 69) C dX6_from_68 rfl 0 rfl rfl ?_
              refine g_get (q := 72) C (by decide) (celr_6 (by decide)) (ci := 6) (i := 8) rfl inlX6 (by decide) wm_4_17 rfl dX6_from_69 rfl ?_
              refine g_bipush (q := 74) C dX6_from_72 rfl (by decide) ?_
              refine g_iload_n (q := 75) C dX6_from_74 rfl 1 rfl rfl ?_
              refine g_imul (q := 76) C dX6_from_75 rfl ?_
              refine g_iload_n (q := 77) C dX6_from_76 rfl 2 rfl rfl ?_
              refine g_iadd (q := 78) C dX6_from_77 rfl ?_
              obtain ⟨hc, H⟩ := H
              refine g_iald (q := 79) (m := 1331) C (by decide) (by decide) (by decide) hc (by decide) dX6_from_78 rfl ?_
              refine g_goto (t := 93) C dX6_from_79 (by decide) ?_
              exact g_iret C hR dX6_from_93 rfl H
          · have H := Hf hc
            refine g_iconst (q := 63) C dX6_from_62 rfl ?_
            exact g_iret C hR dX6_from_63 rfl H
  · have H := Hf hc
    refine g_ldc (q := 11) (z := (-1000000002)) C dX6_from_9 rfl wc_6_10 ?_
    exact g_iret C hR dX6_from_11 rfl H
set_option maxRecDepth 10000 in
set_option maxHeartbeats 2000000 in
theorem X6_hand_0 {x : Xx} {post : Int → Mm → Prop} (C : Cx x mX6_hand) (hR : Rt x mX6_hand post)  (v1 : Int) (M : Mm) (H : ∃ p3 : Int → Mm → Prop, Ct (xl x) (xg x) mX6_in [vi v1, vi 0, vi 4] M p3 ∧ ∀ (r3 : Int) (M3 : Mm), p3 r3 M3 → ((inR r3) ∧ (¬ (r3 = 0) → ((inR (M3 105 6)) ∧ (¬ (M3 105 6 = 30) → ((0 ≤ M3 105 6 ∧ M3 105 6 < 30) ∧ (∀ M33 : Mm, M33 = mu M3 111 (M3 105 6) v1 → (∀ M41 : Mm, M41 = mu M33 105 6 ((M33 105 6) + 1) → (post (M41 105 6) M41))))) ∧ (M3 105 6 = 30 → (post (-1000000004) M3)))) ∧ (r3 = 0 → (post (-1000000002) M3)))) : Gx x 2 0 [(0, vr (xg x) 105), (1, vi v1)] [] M := by
  refine g_iload_n (q := 1) C dX6_hand_0 rfl 1 rfl rfl ?_
  refine g_iconst (q := 2) C dX6_hand_1 rfl ?_
  refine g_iconst (q := 3) C dX6_hand_2 rfl ?_
  obtain ⟨p3, hM, H⟩ := H
  refine g_callS (q := 6) (As := [vi v1, vi 0, vi 4]) (st := []) (na := 3) C mX6_in hM wm_6_11 wm_6_12 wm_1_5 wm_6_13 (by decide +kernel) rfl rfl (by decide) rfl (Nat.le_of_ble_eq_true rfl) dX6_hand_3 rfl (fun r3 M3 hp => ?_)
  have H := H r3 M3 hp
  show Gx x 2 6 [(0, vr (xg x) 105), (1, vi v1)] [vi r3] M3
  obtain ⟨hr, Ht, Hf⟩ := H
  refine g_if_ne (q := 9) (t := 12) C dX6_hand_6 rfl (by decide) hr (fun hc => ?_) (fun hc => ?_)
  · have H := Ht hc
    refine g_aload_n (q := 13) C dX6_hand_12 rfl 0 rfl rfl ?_
    refine g_get (q := 16) C (by decide) (celr_6 (by decide)) (ci := 6) (i := 6) rfl inlX6 (by decide) wm_20_3 rfl dX6_hand_13 rfl ?_
    refine g_bipush (q := 18) C dX6_hand_16 rfl (by decide) ?_
    obtain ⟨hr, Ht, Hf⟩ := H
    refine g_icmp_ne (q := 21) (t := 24) C dX6_hand_18 rfl (by decide) ⟨hr, by decide⟩ (fun hc => ?_) (fun hc => ?_)
    · have H := Ht hc
      refine g_aload_n (q := 25) C dX6_hand_24 rfl 0 rfl rfl ?_
      refine g_get (q := 28) C (by decide) (celr_6 (by decide)) (ci := 6) (i := 7) rfl inlX6 (by decide) wm_4_16 rfl dX6_hand_25 rfl ?_
      refine g_aload_n (q := 29) C dX6_hand_28 rfl 0 rfl rfl ?_
      refine g_get (q := 32) C (by decide) (celr_6 (by decide)) (ci := 6) (i := 6) rfl inlX6 (by decide) wm_20_3 rfl dX6_hand_29 rfl ?_
      refine g_iload_n (q := 33) C dX6_hand_32 rfl 1 rfl rfl ?_
      obtain ⟨hc, H⟩ := H
      refine g_iast (q := 34) (m := 30) C (by decide) (by decide) (by decide) hc (by decide) dX6_hand_33 rfl ?_
      refine g_topM (fun M33 hM33 => ?_)
      have H := H M33 hM33
      refine g_aload_n (q := 35) C dX6_hand_34 rfl 0 rfl rfl ?_
      refine g_dup (q := 36) C dX6_hand_35 rfl rfl ?_
      refine g_get (q := 39) C (by decide) (celr_6 (by decide)) (ci := 6) (i := 6) rfl inlX6 (by decide) wm_20_3 rfl dX6_hand_36 rfl ?_
      refine g_iconst (q := 40) C dX6_hand_39 rfl ?_
      refine g_iadd (q := 41) C dX6_hand_40 rfl ?_
      refine g_put (q := 44) (ty := .int) C (by decide) (celr_6 (by decide)) (ci := 6) (i := 6) rfl inlX6 tyX6_ok nmX6 (by decide) wm_20_3 rfl rfl rfl rfl (Nat.le_of_ble_eq_true rfl) (by rw [celr_6 (by decide)]; rfl) dX6_hand_41 rfl ?_
      refine g_topM (fun M41 hM41 => ?_)
      have H := H M41 hM41
      refine g_aload_n (q := 45) C dX6_hand_44 rfl 0 rfl rfl ?_
      refine g_get (q := 48) C (by decide) (celr_6 (by decide)) (ci := 6) (i := 6) rfl inlX6 (by decide) wm_20_3 rfl dX6_hand_45 rfl ?_
      exact g_iret C hR dX6_hand_48 rfl H
    · have H := Hf hc
      refine g_ldc (q := 23) (z := (-1000000004)) C dX6_hand_21 rfl wc_8_0 ?_
      exact g_iret C hR dX6_hand_23 rfl H
  · have H := Hf hc
    refine g_ldc (q := 11) (z := (-1000000002)) C dX6_hand_9 rfl wc_6_10 ?_
    exact g_iret C hR dX6_hand_11 rfl H
set_option maxRecDepth 10000 in
set_option maxHeartbeats 2000000 in
theorem X6_clear_0 {x : Xx} {post : Int → Mm → Prop} (C : Cx x mX6_clear) (hR : Rt x mX6_clear post)  (M : Mm) (H : ∀ w4 : Int, w4 = (M 105 6) → (∀ M7 : Mm, M7 = mu M 105 6 0 → (post w4 M7))) : Gx x 2 0 [(0, vr (xg x) 105)] [] M := by
  refine g_aload_n (q := 1) C dX6_clear_0 rfl 0 rfl rfl ?_
  refine g_get (q := 4) C (by decide) (celr_6 (by decide)) (ci := 6) (i := 6) rfl inlX6 (by decide) wm_20_3 rfl dX6_clear_1 rfl ?_
  refine g_topi (fun w4 hw4 => ?_)
  have H := H w4 hw4
  refine g_istore_n (q := 5) (L2 := [(1, vi w4), (0, vr (xg x) 105)]) C dX6_clear_4 rfl rfl (by decide) rfl ?_
  refine g_aload_n (q := 6) C dX6_clear_5 rfl 1 rfl rfl ?_
  refine g_iconst (q := 7) C dX6_clear_6 rfl ?_
  refine g_put (q := 10) (ty := .int) C (by decide) (celr_6 (by decide)) (ci := 6) (i := 6) rfl inlX6 tyX6_ok nmX6 (by decide) wm_20_3 rfl rfl rfl rfl (Nat.le_of_ble_eq_true rfl) (by rw [celr_6 (by decide)]; rfl) dX6_clear_7 rfl ?_
  refine g_topM (fun M7 hM7 => ?_)
  have H := H M7 hM7
  refine g_iload_n (q := 11) C dX6_clear_10 rfl 0 rfl rfl ?_
  exact g_iret C hR dX6_clear_11 rfl H
set_option maxRecDepth 10000 in
set_option maxHeartbeats 2000000 in
theorem X6_judge_0 {x : Xx} {post : Int → Mm → Prop} (C : Cx x mX6_judge) (hR : Rt x mX6_judge post)  (v1 : Int) (M : Mm) (H : ∃ p3 : Int → Mm → Prop, Ct (xl x) (xg x) mX6_in [vi v1, vi 0, vi 1] M p3 ∧ ∀ (r3 : Int) (M3 : Mm), p3 r3 M3 → ((inR r3) ∧ (¬ (r3 = 0) → (∀ M14 : Mm, M14 = mu M3 105 12 0 → (Gx x 6 24 [(0, vr (xg x) 105), (1, vi v1), (2, vi 0), (3, vi 0), (4, vi 0)] [] M14))) ∧ (r3 = 0 → (post (-1000000002) M3)))) : Gx x 6 0 [(0, vr (xg x) 105), (1, vi v1)] [] M := by
  refine g_iload_n (q := 1) C dX6_judge_0 rfl 1 rfl rfl ?_
  refine g_iconst (q := 2) C dX6_judge_1 rfl ?_
  refine g_iconst (q := 3) C dX6_judge_2 rfl ?_
  obtain ⟨p3, hM, H⟩ := H
  refine g_callS (q := 6) (As := [vi v1, vi 0, vi 1]) (st := []) (na := 3) C mX6_in hM wm_6_11 wm_6_12 wm_1_5 wm_6_13 (by decide +kernel) rfl rfl (by decide) rfl (Nat.le_of_ble_eq_true rfl) dX6_judge_3 rfl (fun r3 M3 hp => ?_)
  have H := H r3 M3 hp
  show Gx x 6 6 [(0, vr (xg x) 105), (1, vi v1)] [vi r3] M3
  obtain ⟨hr, Ht, Hf⟩ := H
  refine g_if_ne (q := 9) (t := 12) C dX6_judge_6 rfl (by decide) hr (fun hc => ?_) (fun hc => ?_)
  · have H := Ht hc
    refine g_aload_n (q := 13) C dX6_judge_12 rfl 0 rfl rfl ?_
    refine g_iconst (q := 14) C dX6_judge_13 rfl ?_
    refine g_put (q := 17) (ty := .int) C (by decide) (celr_6 (by decide)) (ci := 6) (i := 12) rfl inlX6 tyX6_ok nmX6 (by decide) wm_20_2 rfl rfl rfl rfl (Nat.le_of_ble_eq_true rfl) (by rw [celr_6 (by decide)]; rfl) dX6_judge_14 rfl ?_
    refine g_topM (fun M14 hM14 => ?_)
    have H := H M14 hM14
    refine g_iconst (q := 18) C dX6_judge_17 rfl ?_
    refine g_istore_n (q := 19) (L2 := [(2, vi 0), (0, vr (xg x) 105), (1, vi v1)]) C dX6_judge_18 rfl rfl (by decide) rfl ?_
    refine g_iconst (q := 20) C dX6_judge_19 rfl ?_
    refine g_istore_n (q := 21) (L2 := [(3, vi 0), (2, vi 0), (0, vr (xg x) 105), (1, vi v1)]) C dX6_judge_20 rfl rfl (by decide) rfl ?_
    refine g_iconst (q := 22) C dX6_judge_21 rfl ?_
    refine g_istore (q := 24) (L2 := [(4, vi 0), (3, vi 0), (2, vi 0), (0, vr (xg x) 105), (1, vi v1)]) C dX6_judge_22 rfl (by decide) rfl ?_
    refine g_sub [3, 4, 2, 1, 0] rfl ?_
    exact H
  · have H := Hf hc
    refine g_ldc (q := 11) (z := (-1000000002)) C dX6_judge_9 rfl wc_6_10 ?_
    exact g_iret C hR dX6_judge_11 rfl H
set_option maxRecDepth 10000 in
set_option maxHeartbeats 2000000 in
theorem X6_judge_24 {x : Xx} {post : Int → Mm → Prop} (C : Cx x mX6_judge) (hR : Rt x mX6_judge post)  (v1 v2 v3 v4 : Int) (M : Mm) (H : (inR v4 ∧ inR (M 105 6)) ∧ (M 105 6 ≤ v4 → ((inR v2 ∧ inR (M 106 0)) ∧ (¬ (v2 = M 106 0) → (Gx x 6 158 [(0, vr (xg x) 105), (1, vi v1)] [vi 0] M)) ∧ (v2 = M 106 0 → ((inR v3 ∧ inR (M 106 6)) ∧ (¬ (v3 = M 106 6) → (Gx x 6 158 [(0, vr (xg x) 105), (1, vi v1)] [vi 0] M)) ∧ (v3 = M 106 6 → (Gx x 6 158 [(0, vr (xg x) 105), (1, vi v1)] [vi 1] M)))))) ∧ (¬ (M 105 6 ≤ v4) → ((inR v2 ∧ inR (M 106 0)) ∧ (¬ (v2 = M 106 0) → (Gx x 6 59 [(0, vr (xg x) 105), (1, vi v1), (2, vi v2), (3, vi v3), (4, vi v4)] [vi 0] M)) ∧ (v2 = M 106 0 → ((inR v3 ∧ inR (M 106 6)) ∧ (¬ (v3 = M 106 6) → (Gx x 6 59 [(0, vr (xg x) 105), (1, vi v1), (2, vi v2), (3, vi v3), (4, vi v4)] [vi 0] M)) ∧ (v3 = M 106 6 → (Gx x 6 59 [(0, vr (xg x) 105), (1, vi v1), (2, vi v2), (3, vi v3), (4, vi v4)] [vi 1] M))))))) : Gx x 6 24 [(0, vr (xg x) 105), (1, vi v1), (2, vi v2), (3, vi v3), (4, vi v4)] [] M := by
  refine g_iload (q := 26) C dX6_judge_24 rfl 4 rfl ?_
  refine g_aload_n (q := 27) C dX6_judge_26 rfl 0 rfl rfl ?_
  refine g_get (q := 30) C (by decide) (celr_6 (by decide)) (ci := 6) (i := 6) rfl inlX6 (by decide) wm_20_3 rfl dX6_judge_27 rfl ?_
  obtain ⟨hr, Ht, Hf⟩ := H
  refine g_icmp_ge (q := 33) (t := 132) C dX6_judge_30 rfl (by decide) hr (fun hc => ?_) (fun hc => ?_)
  · have H := Ht hc
    refine g_iload_n (q := 133) C dX6_judge_132 rfl 2 rfl rfl ?_
    refine g_aload_n (q := 134) C dX6_judge_133 rfl 0 rfl rfl ?_
    refine g_get (q := 137) C (by decide) (celr_6 (by decide)) (ci := 6) (i := 0) rfl inlX6 (by decide) wm_4_11 rfl dX6_judge_134 rfl ?_
    refine g_iconst (q := 138) C dX6_judge_137 rfl ?_
    refine g_iald (q := 139) (m := 47) C (by decide) (by decide) (by decide) (by decide) (by decide) dX6_judge_138 rfl ?_
    obtain ⟨hr, Ht, Hf⟩ := H
    refine g_icmp_ne (q := 142) (t := 157) C dX6_judge_139 rfl (by decide) hr (fun hc => ?_) (fun hc => ?_)
    · have H := Ht hc
      refine g_iconst (q := 158) C dX6_judge_157 rfl ?_
      refine g_sub [0, 1] rfl ?_
      exact H
    · have H := Hf hc
      refine g_iload_n (q := 143) C dX6_judge_142 rfl 3 rfl rfl ?_
      refine g_aload_n (q := 144) C dX6_judge_143 rfl 0 rfl rfl ?_
      refine g_get (q := 147) C (by decide) (celr_6 (by decide)) (ci := 6) (i := 0) rfl inlX6 (by decide) wm_4_11 rfl dX6_judge_144 rfl ?_
      refine g_bipush (q := 149) C dX6_judge_147 rfl (by decide) ?_
      refine g_iald (q := 150) (m := 47) C (by decide) (by decide) (by decide) (by decide) (by decide) dX6_judge_149 rfl ?_
      obtain ⟨hr, Ht, Hf⟩ := H
      refine g_icmp_ne (q := 153) (t := 157) C dX6_judge_150 rfl (by decide) hr (fun hc => ?_) (fun hc => ?_)
      · have H := Ht hc
        refine g_iconst (q := 158) C dX6_judge_157 rfl ?_
        refine g_sub [0, 1] rfl ?_
        exact H
      · have H := Hf hc
        refine g_iconst (q := 154) C dX6_judge_153 rfl ?_
        refine g_goto (t := 158) C dX6_judge_154 (by decide) ?_
        refine g_sub [0, 1] rfl ?_
        exact H
  · have H := Hf hc
    refine g_iload_n (q := 34) C dX6_judge_33 rfl 2 rfl rfl ?_
    refine g_aload_n (q := 35) C dX6_judge_34 rfl 0 rfl rfl ?_
    refine g_get (q := 38) C (by decide) (celr_6 (by decide)) (ci := 6) (i := 0) rfl inlX6 (by decide) wm_4_11 rfl dX6_judge_35 rfl ?_
    refine g_iconst (q := 39) C dX6_judge_38 rfl ?_
    refine g_iald (q := 40) (m := 47) C (by decide) (by decide) (by decide) (by decide) (by decide) dX6_judge_39 rfl ?_
    obtain ⟨hr, Ht, Hf⟩ := H
    refine g_icmp_ne (q := 43) (t := 58) C dX6_judge_40 rfl (by decide) hr (fun hc => ?_) (fun hc => ?_)
    · have H := Ht hc
      refine g_iconst (q := 59) C dX6_judge_58 rfl ?_
      refine g_sub [0, 1, 2, 3, 4] rfl ?_
      exact H
    · have H := Hf hc
      refine g_iload_n (q := 44) C dX6_judge_43 rfl 3 rfl rfl ?_
      refine g_aload_n (q := 45) C dX6_judge_44 rfl 0 rfl rfl ?_
      refine g_get (q := 48) C (by decide) (celr_6 (by decide)) (ci := 6) (i := 0) rfl inlX6 (by decide) wm_4_11 rfl dX6_judge_45 rfl ?_
      refine g_bipush (q := 50) C dX6_judge_48 rfl (by decide) ?_
      refine g_iald (q := 51) (m := 47) C (by decide) (by decide) (by decide) (by decide) (by decide) dX6_judge_50 rfl ?_
      obtain ⟨hr, Ht, Hf⟩ := H
      refine g_icmp_ne (q := 54) (t := 58) C dX6_judge_51 rfl (by decide) hr (fun hc => ?_) (fun hc => ?_)
      · have H := Ht hc
        refine g_iconst (q := 59) C dX6_judge_58 rfl ?_
        refine g_sub [0, 1, 2, 3, 4] rfl ?_
        exact H
      · have H := Hf hc
        refine g_iconst (q := 55) C dX6_judge_54 rfl ?_
        refine g_goto (t := 59) C dX6_judge_55 (by decide) ?_
        refine g_sub [0, 1, 2, 3, 4] rfl ?_
        exact H
set_option maxRecDepth 10000 in
set_option maxHeartbeats 2000000 in
theorem X6_judge_158 {x : Xx} {post : Int → Mm → Prop} (C : Cx x mX6_judge) (hR : Rt x mX6_judge post)  (v1 s0 : Int) (M : Mm) (H : (inR v1) ∧ (¬ (v1 = 0) → ((inR s0) ∧ (s0 = 0 → (post (-1) M)) ∧ (¬ (s0 = 0) → (∃ p186 : Int → Mm → Prop, Ct (xl x) (xg x) mX6_paidOfAll [vr (xg x) 105] M p186 ∧ ∀ (r186 : Int) (M186 : Mm), p186 r186 M186 → (post r186 M186))))) ∧ (v1 = 0 → ((inR s0) ∧ (s0 = 0 → (post ((M 105 6) + 1) M)) ∧ (¬ (s0 = 0) → (post 0 M))))) : Gx x 6 158 [(0, vr (xg x) 105), (1, vi v1)] [vi s0] M := by
  refine g_istore (q := 160) (L2 := [(4, vi s0), (0, vr (xg x) 105), (1, vi v1)]) C dX6_judge_158 rfl (by decide) rfl ?_
  refine g_iload_n (q := 161) C dX6_judge_160 rfl 2 rfl rfl ?_
  obtain ⟨hr, Ht, Hf⟩ := H
  refine g_if_ne (q := 164) (t := 180) C dX6_judge_161 rfl (by decide) hr (fun hc => ?_) (fun hc => ?_)
  · have H := Ht hc
    refine g_iload (q := 182) C dX6_judge_180 rfl 0 rfl ?_
    obtain ⟨hr, Ht, Hf⟩ := H
    refine g_if_eq (q := 185) (t := 192) C dX6_judge_182 rfl (by decide) hr (fun hc => ?_) (fun hc => ?_)
    · have H := Ht hc
      refine g_iconst (q := 193) C dX6_judge_192 rfl ?_
      exact g_iret C hR dX6_judge_193 rfl H
    · have H := Hf hc
      refine g_aload_n (q := 186) C dX6_judge_185 rfl 1 rfl rfl ?_
      obtain ⟨p186, hM, H⟩ := H
      refine g_callV (q := 189) (As := []) (st := []) (na := 0) C mX6_paidOfAll (by decide) (celr_6 (by decide)) rfl hM wm_20_16 wm_20_17 wm_20_18 wm_1_5 wm_20_19 (by decide +kernel) rfl rfl (by decide) rfl (Nat.le_of_ble_eq_true rfl) dX6_judge_186 rfl (fun r186 M186 hp => ?_)
      have H := H r186 M186 hp
      show Gx x 6 189 [(4, vi s0), (0, vr (xg x) 105), (1, vi v1)] [vi r186] M186
      refine g_goto (t := 193) C dX6_judge_189 (by decide) ?_
      exact g_iret C hR dX6_judge_193 rfl H
  · have H := Hf hc
    refine g_iload (q := 166) C dX6_judge_164 rfl 0 rfl ?_
    obtain ⟨hr, Ht, Hf⟩ := H
    refine g_if_eq (q := 169) (t := 173) C dX6_judge_166 rfl (by decide) hr (fun hc => ?_) (fun hc => ?_)
    · have H := Ht hc
      refine g_aload_n (q := 174) C dX6_judge_173 rfl 1 rfl rfl ?_
      refine g_get (q := 177) C (by decide) (celr_6 (by decide)) (ci := 6) (i := 6) rfl inlX6 (by decide) wm_20_3 rfl dX6_judge_174 rfl ?_
      refine g_iconst (q := 178) C dX6_judge_177 rfl ?_
      refine g_iadd (q := 179) C dX6_judge_178 rfl ?_
      exact g_iret C hR dX6_judge_179 rfl H
    · have H := Hf hc
      refine g_iconst (q := 170) C dX6_judge_169 rfl ?_
      refine g_goto (t := 179) C dX6_judge_170 (by decide) ?_
      exact g_iret C hR dX6_judge_179 rfl H
set_option maxRecDepth 10000 in
set_option maxHeartbeats 2000000 in
theorem X6_judge_59 {x : Xx} {post : Int → Mm → Prop} (C : Cx x mX6_judge) (hR : Rt x mX6_judge post)  (v1 v2 v3 v4 s0 : Int) (M : Mm) (H : (inR s0) ∧ (¬ (s0 = 0) → ((inR v1) ∧ (¬ (v1 = 0) → (post (-1) M)) ∧ (v1 = 0 → (post (v4 + 1) M)))) ∧ (s0 = 0 → ((0 ≤ v4 ∧ v4 < 30) ∧ (∃ p76 : Int → Mm → Prop, Ct (xl x) (xg x) mX6_isPage [vr (xg x) 105, vi v2, vi v3, vi (M 111 v4)] M p76 ∧ ∀ (r76 : Int) (M76 : Mm), p76 r76 M76 → ((inR r76) ∧ (¬ (r76 = 0) → ((0 ≤ v4 ∧ v4 < 30) ∧ (∃ p105 : Int → Mm → Prop, Ct (xl x) (xg x) mX6_addPage [vr (xg x) 105, vi v2, vi v3, vi (M76 111 v4)] M76 p105 ∧ ∀ (r105 : Int) (M105 : Mm), p105 r105 M105 → ((0 ≤ v4 ∧ v4 < 160) ∧ (∀ w115 : Int, w115 = (M105 117 v4) → ((0 ≤ v4 ∧ v4 < 30) ∧ (∀ w125 : Int, w125 = (v3 + (M105 111 v4)) → (Gx x 6 24 [(0, vr (xg x) 105), (1, vi v1), (2, vi w115), (3, vi w125), (4, vi (v4 + 1))] [] M105)))))))) ∧ (r76 = 0 → ((inR v1) ∧ (¬ (v1 = 0) → (post (-1) M76)) ∧ (v1 = 0 → (post (v4 + 1) M76))))))))) : Gx x 6 59 [(0, vr (xg x) 105), (1, vi v1), (2, vi v2), (3, vi v3), (4, vi v4)] [vi s0] M := by
  refine g_istore (q := 61) (L2 := [(5, vi s0), (0, vr (xg x) 105), (1, vi v1), (2, vi v2), (3, vi v3), (4, vi v4)]) C dX6_judge_59 rfl (by decide) rfl ?_
  refine g_iload (q := 63) C dX6_judge_61 rfl 0 rfl ?_
  obtain ⟨hr, Ht, Hf⟩ := H
  refine g_if_ne (q := 66) (t := 82) C dX6_judge_63 rfl (by decide) hr (fun hc => ?_) (fun hc => ?_)
  · have H := Ht hc
    refine g_iload_n (q := 83) C dX6_judge_82 rfl 2 rfl rfl ?_
    obtain ⟨hr, Ht, Hf⟩ := H
    refine g_if_ne (q := 86) (t := 93) C dX6_judge_83 rfl (by decide) hr (fun hc => ?_) (fun hc => ?_)
    · have H := Ht hc
      refine g_iconst (q := 94) C dX6_judge_93 rfl ?_
      exact g_iret C hR dX6_judge_94 rfl H
    · have H := Hf hc
      refine g_iload (q := 88) C dX6_judge_86 rfl 5 rfl ?_
      refine g_iconst (q := 89) C dX6_judge_88 rfl ?_
      refine g_iadd (q := 90) C dX6_judge_89 rfl ?_
      refine g_goto (t := 94) C dX6_judge_90 (by decide) ?_
      exact g_iret C hR dX6_judge_94 rfl H
  · have H := Hf hc
    refine g_aload_n (q := 67) C dX6_judge_66 rfl 1 rfl rfl ?_
    refine g_iload_n (q := 68) C dX6_judge_67 rfl 3 rfl rfl ?_
    refine g_iload_n (q := 69) C dX6_judge_68 rfl 4 rfl rfl ?_
    refine g_aload_n (q := 70) C dX6_judge_69 rfl 1 rfl rfl ?_
    refine g_get (q := 73) C (by decide) (celr_6 (by decide)) (ci := 6) (i := 7) rfl inlX6 (by decide) wm_4_16 rfl dX6_judge_70 rfl ?_
    refine g_iload (q := 75) C dX6_judge_73 rfl 5 rfl ?_
    obtain ⟨hc, H⟩ := H
    refine g_iald (q := 76) (m := 30) C (by decide) (by decide) (by decide) hc (by decide) dX6_judge_75 rfl ?_
    obtain ⟨p76, hM, H⟩ := H
    refine g_callV (q := 79) (As := [vi v2, vi v3, vi (M 111 v4)]) (st := []) (na := 3) C mX6_isPage (by decide) (celr_6 (by decide)) rfl hM wm_15_17 wm_15_18 wm_15_19 wm_1_5 wm_15_20 (by decide +kernel) rfl rfl (by decide) rfl (Nat.le_of_ble_eq_true rfl) dX6_judge_76 rfl (fun r76 M76 hp => ?_)
    have H := H r76 M76 hp
    show Gx x 6 79 [(5, vi s0), (0, vr (xg x) 105), (1, vi v1), (2, vi v2), (3, vi v3), (4, vi v4)] [vi r76] M76
    obtain ⟨hr, Ht, Hf⟩ := H
    refine g_if_ne (q := 82) (t := 95) C dX6_judge_79 rfl (by decide) hr (fun hc => ?_) (fun hc => ?_)
    · have H := Ht hc
      refine g_aload_n (q := 96) C dX6_judge_95 rfl 1 rfl rfl ?_
      refine g_iload_n (q := 97) C dX6_judge_96 rfl 3 rfl rfl ?_
      refine g_iload_n (q := 98) C dX6_judge_97 rfl 4 rfl rfl ?_
      refine g_aload_n (q := 99) C dX6_judge_98 rfl 1 rfl rfl ?_
      refine g_get (q := 102) C (by decide) (celr_6 (by decide)) (ci := 6) (i := 7) rfl inlX6 (by decide) wm_4_16 rfl dX6_judge_99 rfl ?_
      refine g_iload (q := 104) C dX6_judge_102 rfl 5 rfl ?_
      obtain ⟨hc, H⟩ := H
      refine g_iald (q := 105) (m := 30) C (by decide) (by decide) (by decide) hc (by decide) dX6_judge_104 rfl ?_
      obtain ⟨p105, hM, H⟩ := H
      refine g_callV (q := 108) (As := [vi v2, vi v3, vi (M76 111 v4)]) (st := []) (na := 3) C mX6_addPage (by decide) (celr_6 (by decide)) rfl hM wm_20_12 wm_20_13 wm_20_14 wm_1_5 wm_20_15 (by decide +kernel) rfl rfl (by decide) rfl (Nat.le_of_ble_eq_true rfl) dX6_judge_105 rfl (fun r105 M105 hp => ?_)
      have H := H r105 M105 hp
      show Gx x 6 108 [(5, vi s0), (0, vr (xg x) 105), (1, vi v1), (2, vi v2), (3, vi v3), (4, vi v4)] [] M105
      refine g_aload_n (q := 109) C dX6_judge_108 rfl 1 rfl rfl ?_
      refine g_get (q := 112) C (by decide) (celr_6 (by decide)) (ci := 6) (i := 14) rfl inlX6 (by decide) wm_4_22 rfl dX6_judge_109 rfl ?_
      refine g_iload (q := 114) C dX6_judge_112 rfl 5 rfl ?_
      obtain ⟨hc, H⟩ := H
      refine g_iald (q := 115) (m := 160) C (by decide) (by decide) (by decide) hc (by decide) dX6_judge_114 rfl ?_
      refine g_topi (fun w115 hw115 => ?_)
      have H := H w115 hw115
      refine g_istore_n (q := 116) (L2 := [(2, vi w115), (5, vi s0), (0, vr (xg x) 105), (1, vi v1), (3, vi v3), (4, vi v4)]) C dX6_judge_115 rfl rfl (by decide) rfl ?_
      refine g_iload_n (q := 117) C dX6_judge_116 rfl 4 rfl rfl ?_
      refine g_aload_n (q := 118) C dX6_judge_117 rfl 2 rfl rfl ?_
      refine g_get (q := 121) C (by decide) (celr_6 (by decide)) (ci := 6) (i := 7) rfl inlX6 (by decide) wm_4_16 rfl dX6_judge_118 rfl ?_
      refine g_iload (q := 123) C dX6_judge_121 rfl 5 rfl ?_
      obtain ⟨hc, H⟩ := H
      refine g_iald (q := 124) (m := 30) C (by decide) (by decide) (by decide) hc (by decide) dX6_judge_123 rfl ?_
      refine g_iadd (q := 125) C dX6_judge_124 rfl ?_
      refine g_topi (fun w125 hw125 => ?_)
      have H := H w125 hw125
      refine g_istore_n (q := 126) (L2 := [(3, vi w125), (2, vi w115), (5, vi s0), (0, vr (xg x) 105), (1, vi v1), (4, vi v4)]) C dX6_judge_125 rfl rfl (by decide) rfl ?_
      refine g_iinc (q := 129) (L2 := [(4, vi (v4 + 1)), (3, vi w125), (2, vi w115), (5, vi s0), (0, vr (xg x) 105), (1, vi v1)]) C dX6_judge_126 rfl 5 rfl (by decide) rfl ?_
      refine g_goto (t := 24) C dX6_judge_129 (by decide) ?_
      refine g_sub [4, 5, 2, 1, 0] rfl ?_
      exact H
    · have H := Hf hc
      refine g_iload_n (q := 83) C dX6_judge_82 rfl 2 rfl rfl ?_
      obtain ⟨hr, Ht, Hf⟩ := H
      refine g_if_ne (q := 86) (t := 93) C dX6_judge_83 rfl (by decide) hr (fun hc => ?_) (fun hc => ?_)
      · have H := Ht hc
        refine g_iconst (q := 94) C dX6_judge_93 rfl ?_
        exact g_iret C hR dX6_judge_94 rfl H
      · have H := Hf hc
        refine g_iload (q := 88) C dX6_judge_86 rfl 5 rfl ?_
        refine g_iconst (q := 89) C dX6_judge_88 rfl ?_
        refine g_iadd (q := 90) C dX6_judge_89 rfl ?_
        refine g_goto (t := 94) C dX6_judge_90 (by decide) ?_
        exact g_iret C hR dX6_judge_94 rfl H
set_option maxRecDepth 10000 in
set_option maxHeartbeats 2000000 in
theorem X6_keep_0 {x : Xx} {post : Int → Mm → Prop} (C : Cx x mX6_keep) (hR : Rt x mX6_keep post)  (v1 : Int) (M : Mm) (H : ∃ p3 : Int → Mm → Prop, Ct (xl x) (xg x) mX6_in [vi v1, vi 0, vi 1] M p3 ∧ ∀ (r3 : Int) (M3 : Mm), p3 r3 M3 → ((inR r3) ∧ (¬ (r3 = 0) → (∃ p27 : Int → Mm → Prop, Ct (xl x) (xg x) mX6_bring [vr (xg x) 106, vi 0, vr (xg x) 109, vi (47 * v1), vi 47] M3 p27 ∧ ∀ (r27 : Int) (M27 : Mm), p27 r27 M27 → ((0 ≤ v1 ∧ v1 < 2) ∧ (∀ M36 : Mm, M36 = mu M27 110 v1 1 → (∀ M39 : Mm, M39 = mu M36 105 2 0 → (post (M39 106 6) M39)))))) ∧ (r3 = 0 → (post (-1000000001) M3)))) : Gx x 2 0 [(0, vr (xg x) 105), (1, vi v1)] [] M := by
  refine g_iload_n (q := 1) C dX6_keep_0 rfl 1 rfl rfl ?_
  refine g_iconst (q := 2) C dX6_keep_1 rfl ?_
  refine g_iconst (q := 3) C dX6_keep_2 rfl ?_
  obtain ⟨p3, hM, H⟩ := H
  refine g_callS (q := 6) (As := [vi v1, vi 0, vi 1]) (st := []) (na := 3) C mX6_in hM wm_6_11 wm_6_12 wm_1_5 wm_6_13 (by decide +kernel) rfl rfl (by decide) rfl (Nat.le_of_ble_eq_true rfl) dX6_keep_3 rfl (fun r3 M3 hp => ?_)
  have H := H r3 M3 hp
  show Gx x 2 6 [(0, vr (xg x) 105), (1, vi v1)] [vi r3] M3
  obtain ⟨hr, Ht, Hf⟩ := H
  refine g_if_ne (q := 9) (t := 12) C dX6_keep_6 rfl (by decide) hr (fun hc => ?_) (fun hc => ?_)
  · have H := Ht hc
    refine g_aload_n (q := 13) C dX6_keep_12 rfl 0 rfl rfl ?_
    refine g_get (q := 16) C (by decide) (celr_6 (by decide)) (ci := 6) (i := 0) rfl inlX6 (by decide) wm_4_11 rfl dX6_keep_13 rfl ?_
    refine g_iconst (q := 17) C dX6_keep_16 rfl ?_
    refine g_aload_n (q := 18) C dX6_keep_17 rfl 0 rfl rfl ?_
    refine g_get (q := 21) C (by decide) (celr_6 (by decide)) (ci := 6) (i := 4) rfl inlX6 (by decide) wm_4_14 rfl dX6_keep_18 rfl ?_
    refine g_bipush (q := 23) C dX6_keep_21 rfl (by decide) ?_
    refine g_iload_n (q := 24) C dX6_keep_23 rfl 1 rfl rfl ?_
    refine g_imul (q := 25) C dX6_keep_24 rfl ?_
    refine g_bipush (q := 27) C dX6_keep_25 rfl (by decide) ?_
    obtain ⟨p27, hM, H⟩ := H
    refine g_callS (q := 30) (As := [vr (xg x) 106, vi 0, vr (xg x) 109, vi (47 * v1), vi 47]) (st := []) (na := 5) C mX6_bring hM wm_6_23 wm_7_0 wm_1_5 wm_7_1 (by decide +kernel) rfl rfl (by decide) rfl (Nat.le_of_ble_eq_true rfl) dX6_keep_27 rfl (fun r27 M27 hp => ?_)
    have H := H r27 M27 hp
    show Gx x 2 30 [(0, vr (xg x) 105), (1, vi v1)] [] M27
    refine g_aload_n (q := 31) C dX6_keep_30 rfl 0 rfl rfl ?_
    refine g_get (q := 34) C (by decide) (celr_6 (by decide)) (ci := 6) (i := 5) rfl inlX6 (by decide) wm_4_15 rfl dX6_keep_31 rfl ?_
    refine g_iload_n (q := 35) C dX6_keep_34 rfl 1 rfl rfl ?_
    refine g_iconst (q := 36) C dX6_keep_35 rfl ?_
    obtain ⟨hc, H⟩ := H
    refine g_zast (q := 37) (m := 2) C (by decide) (by decide) (by decide) hc (by decide) (by decide) dX6_keep_36 rfl ?_
    refine g_topM (fun M36 hM36 => ?_)
    have H := H M36 hM36
    refine g_aload_n (q := 38) C dX6_keep_37 rfl 0 rfl rfl ?_
    refine g_iconst (q := 39) C dX6_keep_38 rfl ?_
    refine g_put (q := 42) (ty := .int) C (by decide) (celr_6 (by decide)) (ci := 6) (i := 2) rfl inlX6 tyX6_ok nmX6 (by decide) wm_6_22 rfl rfl rfl rfl (Nat.le_of_ble_eq_true rfl) (by rw [celr_6 (by decide)]; rfl) dX6_keep_39 rfl ?_
    refine g_topM (fun M39 hM39 => ?_)
    have H := H M39 hM39
    refine g_aload_n (q := 43) C dX6_keep_42 rfl 0 rfl rfl ?_
    refine g_get (q := 46) C (by decide) (celr_6 (by decide)) (ci := 6) (i := 0) rfl inlX6 (by decide) wm_4_11 rfl dX6_keep_43 rfl ?_
    refine g_bipush (q := 48) C dX6_keep_46 rfl (by decide) ?_
    refine g_iald (q := 49) (m := 47) C (by decide) (by decide) (by decide) (by decide) (by decide) dX6_keep_48 rfl ?_
    exact g_iret C hR dX6_keep_49 rfl H
  · have H := Hf hc
    refine g_ldc (q := 11) (z := (-1000000001)) C dX6_keep_9 rfl wc_8_22 ?_
    exact g_iret C hR dX6_keep_11 rfl H
set_option maxRecDepth 10000 in
set_option maxHeartbeats 2000000 in
theorem X6_goBack_0 {x : Xx} {post : Int → Mm → Prop} (C : Cx x mX6_goBack) (hR : Rt x mX6_goBack post)  (v1 : Int) (M : Mm) (H : ∃ p3 : Int → Mm → Prop, Ct (xl x) (xg x) mX6_in [vi v1, vi 0, vi 1] M p3 ∧ ∀ (r3 : Int) (M3 : Mm), p3 r3 M3 → ((inR r3) ∧ (¬ (r3 = 0) → ((0 ≤ v1 ∧ v1 < 2) ∧ ((inR (M3 110 v1)) ∧ (¬ (M3 110 v1 = 0) → (∃ p39 : Int → Mm → Prop, Ct (xl x) (xg x) mX6_bring [vr (xg x) 109, vi (47 * v1), vr (xg x) 106, vi 0, vi 47] M3 p39 ∧ ∀ (r39 : Int) (M39 : Mm), p39 r39 M39 → (∀ M44 : Mm, M44 = mu M39 105 2 0 → (post (M44 106 6) M44)))) ∧ (M3 110 v1 = 0 → (post (-1000000003) M3))))) ∧ (r3 = 0 → (post (-1000000001) M3)))) : Gx x 2 0 [(0, vr (xg x) 105), (1, vi v1)] [] M := by
  refine g_iload_n (q := 1) C dX6_goBack_0 rfl 1 rfl rfl ?_
  refine g_iconst (q := 2) C dX6_goBack_1 rfl ?_
  refine g_iconst (q := 3) C dX6_goBack_2 rfl ?_
  obtain ⟨p3, hM, H⟩ := H
  refine g_callS (q := 6) (As := [vi v1, vi 0, vi 1]) (st := []) (na := 3) C mX6_in hM wm_6_11 wm_6_12 wm_1_5 wm_6_13 (by decide +kernel) rfl rfl (by decide) rfl (Nat.le_of_ble_eq_true rfl) dX6_goBack_3 rfl (fun r3 M3 hp => ?_)
  have H := H r3 M3 hp
  show Gx x 2 6 [(0, vr (xg x) 105), (1, vi v1)] [vi r3] M3
  obtain ⟨hr, Ht, Hf⟩ := H
  refine g_if_ne (q := 9) (t := 12) C dX6_goBack_6 rfl (by decide) hr (fun hc => ?_) (fun hc => ?_)
  · have H := Ht hc
    refine g_aload_n (q := 13) C dX6_goBack_12 rfl 0 rfl rfl ?_
    refine g_get (q := 16) C (by decide) (celr_6 (by decide)) (ci := 6) (i := 5) rfl inlX6 (by decide) wm_4_15 rfl dX6_goBack_13 rfl ?_
    refine g_iload_n (q := 17) C dX6_goBack_16 rfl 1 rfl rfl ?_
    obtain ⟨hc, H⟩ := H
    refine g_zald (q := 18) (m := 2) C (by decide) (by decide) (by decide) hc (by decide) dX6_goBack_17 rfl ?_
    obtain ⟨hr, Ht, Hf⟩ := H
    refine g_if_ne (q := 21) (t := 24) C dX6_goBack_18 rfl (by decide) hr (fun hc => ?_) (fun hc => ?_)
    · have H := Ht hc
      refine g_aload_n (q := 25) C dX6_goBack_24 rfl 0 rfl rfl ?_
      refine g_get (q := 28) C (by decide) (celr_6 (by decide)) (ci := 6) (i := 4) rfl inlX6 (by decide) wm_4_14 rfl dX6_goBack_25 rfl ?_
      refine g_bipush (q := 30) C dX6_goBack_28 rfl (by decide) ?_
      refine g_iload_n (q := 31) C dX6_goBack_30 rfl 1 rfl rfl ?_
      refine g_imul (q := 32) C dX6_goBack_31 rfl ?_
      refine g_aload_n (q := 33) C dX6_goBack_32 rfl 0 rfl rfl ?_
      refine g_get (q := 36) C (by decide) (celr_6 (by decide)) (ci := 6) (i := 0) rfl inlX6 (by decide) wm_4_11 rfl dX6_goBack_33 rfl ?_
      refine g_iconst (q := 37) C dX6_goBack_36 rfl ?_
      refine g_bipush (q := 39) C dX6_goBack_37 rfl (by decide) ?_
      obtain ⟨p39, hM, H⟩ := H
      refine g_callS (q := 42) (As := [vr (xg x) 109, vi (47 * v1), vr (xg x) 106, vi 0, vi 47]) (st := []) (na := 5) C mX6_bring hM wm_6_23 wm_7_0 wm_1_5 wm_7_1 (by decide +kernel) rfl rfl (by decide) rfl (Nat.le_of_ble_eq_true rfl) dX6_goBack_39 rfl (fun r39 M39 hp => ?_)
      have H := H r39 M39 hp
      show Gx x 2 42 [(0, vr (xg x) 105), (1, vi v1)] [] M39
      refine g_aload_n (q := 43) C dX6_goBack_42 rfl 0 rfl rfl ?_
      refine g_iconst (q := 44) C dX6_goBack_43 rfl ?_
      refine g_put (q := 47) (ty := .int) C (by decide) (celr_6 (by decide)) (ci := 6) (i := 2) rfl inlX6 tyX6_ok nmX6 (by decide) wm_6_22 rfl rfl rfl rfl (Nat.le_of_ble_eq_true rfl) (by rw [celr_6 (by decide)]; rfl) dX6_goBack_44 rfl ?_
      refine g_topM (fun M44 hM44 => ?_)
      have H := H M44 hM44
      refine g_aload_n (q := 48) C dX6_goBack_47 rfl 0 rfl rfl ?_
      refine g_get (q := 51) C (by decide) (celr_6 (by decide)) (ci := 6) (i := 0) rfl inlX6 (by decide) wm_4_11 rfl dX6_goBack_48 rfl ?_
      refine g_bipush (q := 53) C dX6_goBack_51 rfl (by decide) ?_
      refine g_iald (q := 54) (m := 47) C (by decide) (by decide) (by decide) (by decide) (by decide) dX6_goBack_53 rfl ?_
      exact g_iret C hR dX6_goBack_54 rfl H
    · have H := Hf hc
      refine g_ldc (q := 23) (z := (-1000000003)) C dX6_goBack_21 rfl wc_18_14 ?_
      exact g_iret C hR dX6_goBack_23 rfl H
  · have H := Hf hc
    refine g_ldc (q := 11) (z := (-1000000001)) C dX6_goBack_9 rfl wc_8_22 ?_
    exact g_iret C hR dX6_goBack_11 rfl H
