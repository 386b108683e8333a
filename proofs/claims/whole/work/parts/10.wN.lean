set_option maxRecDepth 10000 in
set_option maxHeartbeats 2000000 in
theorem X5_layout_0 {x : Xx} {post : Int → Mm → Prop} (C : Cx x mX5_layout) (hR : Rt x mX5_layout post)  (v1 v2 : Int) (M : Mm) (H : ∃ p6 : Int → Mm → Prop, Ct (xl x) (xg x) mX4_boundMayBe [vr (xg x) 6, vi v1, vi v2] M p6 ∧ ∀ (r6 : Int) (M6 : Mm), p6 r6 M6 → ((inR r6) ∧ (¬ (r6 = 0) → ((0 ≤ v1 ∧ v1 < 6) ∧ (∀ w24 : Int, w24 = (M6 7 v1) → (∃ p26 : Int → Mm → Prop, Ct (xl x) (xg x) mX5_aheadOfChange [vr (xg x) 0] M6 p26 ∧ ∀ (r26 : Int) (M26 : Mm), p26 r26 M26 → ((0 ≤ v1 ∧ v1 < 6) ∧ (∀ M38 : Mm, M38 = mu M26 7 v1 v2 → ((inR (M38 7 3) ∧ inR (M38 7 1)) ∧ (∀ M68 : Mm, M68 = mu M38 7 3 (if M38 7 1 < M38 7 3 then M38 7 1 else M38 7 3) → (post w24 M68))))))))) ∧ (r6 = 0 → (post (-1000000002) M6)))) : Gx x 4 0 [(0, vr (xg x) 0), (1, vi v1), (2, vi v2)] [] M := by
  refine g_aload_n (q := 1) C dX5_layout_0 rfl 0 rfl rfl ?_
  refine g_get (q := 4) C (by decide) (celr_5 (by decide)) (ci := 5) (i := 0) rfl inlX5 (by decide) wm_1_15 rfl dX5_layout_1 rfl ?_
  refine g_iload_n (q := 5) C dX5_layout_4 rfl 1 rfl rfl ?_
  refine g_iload_n (q := 6) C dX5_layout_5 rfl 2 rfl rfl ?_
  obtain ⟨p6, hM, H⟩ := H
  refine g_callV (q := 9) (As := [vi v1, vi v2]) (st := []) (na := 2) C mX4_boundMayBe (isS_6).o.1 (celr_4 (isS_6).o.2) rfl hM wm_5_9 wm_5_10 wm_5_11 wm_1_14 wm_5_12 (by decide +kernel) rfl rfl (by decide) rfl (Nat.le_of_ble_eq_true rfl) dX5_layout_6 rfl (fun r6 M6 hp => ?_)
  have H := H r6 M6 hp
  show Gx x 4 9 [(0, vr (xg x) 0), (1, vi v1), (2, vi v2)] [vi r6] M6
  obtain ⟨hr, Ht, Hf⟩ := H
  refine g_if_ne (q := 12) (t := 15) C dX5_layout_9 rfl (by decide) hr (fun hc => ?_) (fun hc => ?_)
  · have H := Ht hc
    refine g_aload_n (q := 16) C dX5_layout_15 rfl 0 rfl rfl ?_
    refine g_get (q := 19) C (by decide) (celr_5 (by decide)) (ci := 5) (i := 0) rfl inlX5 (by decide) wm_1_15 rfl dX5_layout_16 rfl ?_
    refine g_getN (q := 22) C (isS_6).o.1 (celr_4 (isS_6).o.2) (ci := 4) (i := 0) rfl inlX4 (by decide) (by decide +kernel) rfl dX5_layout_19 rfl ?_
    refine g_iload_n (q := 23) C dX5_layout_22 rfl 1 rfl rfl ?_
    obtain ⟨hc, H⟩ := H
    refine g_iald (q := 24) (m := 6) C ((isS_6).b).1 ((isS_6).b).2.1 ((isS_6).b).2.2 hc (by decide) dX5_layout_23 rfl ?_
    refine g_topi (fun w24 hw24 => ?_)
    have H := H w24 hw24
    refine g_istore_n (q := 25) (L2 := [(3, vi w24), (0, vr (xg x) 0), (1, vi v1), (2, vi v2)]) C dX5_layout_24 rfl rfl (by decide) rfl ?_
    refine g_aload_n (q := 26) C dX5_layout_25 rfl 1 rfl rfl ?_
    obtain ⟨p26, hM, H⟩ := H
    refine g_callV (q := 29) (As := []) (st := []) (na := 0) C mX5_aheadOfChange (by decide) (celr_5 (by decide)) rfl hM wm_5_13 wm_5_14 wm_5_15 wm_1_2 wm_5_16 (by decide +kernel) rfl rfl (by decide) rfl (Nat.le_of_ble_eq_true rfl) dX5_layout_26 rfl (fun r26 M26 hp => ?_)
    have H := H r26 M26 hp
    show Gx x 4 29 [(3, vi w24), (0, vr (xg x) 0), (1, vi v1), (2, vi v2)] [] M26
    refine g_aload_n (q := 30) C dX5_layout_29 rfl 1 rfl rfl ?_
    refine g_get (q := 33) C (by decide) (celr_5 (by decide)) (ci := 5) (i := 0) rfl inlX5 (by decide) wm_1_15 rfl dX5_layout_30 rfl ?_
    refine g_getN (q := 36) C (isS_6).o.1 (celr_4 (isS_6).o.2) (ci := 4) (i := 0) rfl inlX4 (by decide) (by decide +kernel) rfl dX5_layout_33 rfl ?_
    refine g_iload_n (q := 37) C dX5_layout_36 rfl 2 rfl rfl ?_
    refine g_iload_n (q := 38) C dX5_layout_37 rfl 3 rfl rfl ?_
    obtain ⟨hc, H⟩ := H
    refine g_iast (q := 39) (m := 6) C ((isS_6).b).1 ((isS_6).b).2.1 ((isS_6).b).2.2 hc (by decide) dX5_layout_38 rfl ?_
    refine g_topM (fun M38 hM38 => ?_)
    have H := H M38 hM38
    refine g_aload_n (q := 40) C dX5_layout_39 rfl 1 rfl rfl ?_
    refine g_get (q := 43) C (by decide) (celr_5 (by decide)) (ci := 5) (i := 0) rfl inlX5 (by decide) wm_1_15 rfl dX5_layout_40 rfl ?_
    refine g_getN (q := 46) C (isS_6).o.1 (celr_4 (isS_6).o.2) (ci := 4) (i := 0) rfl inlX4 (by decide) (by decide +kernel) rfl dX5_layout_43 rfl ?_
    refine g_iconst (q := 47) C dX5_layout_46 rfl ?_
    refine g_aload_n (q := 48) C dX5_layout_47 rfl 1 rfl rfl ?_
    refine g_get (q := 51) C (by decide) (celr_5 (by decide)) (ci := 5) (i := 0) rfl inlX5 (by decide) wm_1_15 rfl dX5_layout_48 rfl ?_
    refine g_getN (q := 54) C (isS_6).o.1 (celr_4 (isS_6).o.2) (ci := 4) (i := 0) rfl inlX4 (by decide) (by decide +kernel) rfl dX5_layout_51 rfl ?_
    refine g_iconst (q := 55) C dX5_layout_54 rfl ?_
    refine g_iald (q := 56) (m := 6) C ((isS_6).b).1 ((isS_6).b).2.1 ((isS_6).b).2.2 (by decide) (by decide) dX5_layout_55 rfl ?_
    refine g_aload_n (q := 57) C dX5_layout_56 rfl 1 rfl rfl ?_
    refine g_get (q := 60) C (by decide) (celr_5 (by decide)) (ci := 5) (i := 0) rfl inlX5 (by decide) wm_1_15 rfl dX5_layout_57 rfl ?_
    refine g_getN (q := 63) C (isS_6).o.1 (celr_4 (isS_6).o.2) (ci := 4) (i := 0) rfl inlX4 (by decide) (by decide +kernel) rfl dX5_layout_60 rfl ?_
    refine g_iconst (q := 64) C dX5_layout_63 rfl ?_
    refine g_iald (q := 65) (m := 6) C ((isS_6).b).1 ((isS_6).b).2.1 ((isS_6).b).2.2 (by decide) (by decide) dX5_layout_64 rfl ?_
    obtain ⟨hc, H⟩ := H
    refine g_mmin (q := 68) C hc wm_5_5 wm_5_6 wm_5_8 wm_5_7 rfl (by decide) (Nat.le_of_ble_eq_true rfl) dX5_layout_65 rfl ?_
    refine g_iast (q := 69) (m := 6) C ((isS_6).b).1 ((isS_6).b).2.1 ((isS_6).b).2.2 (by decide) (by decide) dX5_layout_68 rfl ?_
    refine g_topM (fun M68 hM68 => ?_)
    have H := H M68 hM68
    refine g_iload_n (q := 70) C dX5_layout_69 rfl 0 rfl rfl ?_
    exact g_iret C hR dX5_layout_70 rfl H
  · have H := Hf hc
    refine g_ldc (q := 14) (z := (-1000000002)) C dX5_layout_12 rfl wc_5_4 ?_
    exact g_iret C hR dX5_layout_14 rfl H
set_option maxRecDepth 10000 in
set_option maxHeartbeats 2000000 in
theorem X5_aheadOfChange_0 {x : Xx} {post : Int → Mm → Prop} (C : Cx x mX5_aheadOfChange) (hR : Rt x mX5_aheadOfChange post)  (M : Mm) (H : ∃ p8 : Int → Mm → Prop, Ct (xl x) (xg x) mX0_remember [vr (xg x) 4, vr (xg x) 6] M p8 ∧ ∀ (r8 : Int) (M8 : Mm), p8 r8 M8 → (∀ M13 : Mm, M13 = mu M8 0 12 1 → (post 0 M13))) : Gx x 1 0 [(0, vr (xg x) 0)] [] M := by
  refine g_aload_n (q := 1) C dX5_aheadOfChange_0 rfl 0 rfl rfl ?_
  refine g_get (q := 4) C (by decide) (celr_5 (by decide)) (ci := 5) (i := 4) rfl inlX5 (by decide) wm_1_23 rfl dX5_aheadOfChange_1 rfl ?_
  refine g_aload_n (q := 5) C dX5_aheadOfChange_4 rfl 0 rfl rfl ?_
  refine g_get (q := 8) C (by decide) (celr_5 (by decide)) (ci := 5) (i := 0) rfl inlX5 (by decide) wm_1_15 rfl dX5_aheadOfChange_5 rfl ?_
  obtain ⟨p8, hM, H⟩ := H
  refine g_callV (q := 11) (As := [vr (xg x) 6]) (st := []) (na := 1) C mX0_remember (by decide) (celr_0 (by decide)) rfl hM wm_5_17 wm_5_18 wm_5_19 wm_1_22 wm_5_20 (by decide +kernel) rfl rfl (by decide) rfl (Nat.le_of_ble_eq_true rfl) dX5_aheadOfChange_8 rfl (fun r8 M8 hp => ?_)
  have H := H r8 M8 hp
  show Gx x 1 11 [(0, vr (xg x) 0)] [] M8
  refine g_aload_n (q := 12) C dX5_aheadOfChange_11 rfl 0 rfl rfl ?_
  refine g_iconst (q := 13) C dX5_aheadOfChange_12 rfl ?_
  refine g_put (q := 16) (ty := .boolean) C (by decide) (celr_5 (by decide)) (ci := 5) (i := 12) rfl inlX5 tyX5_ok nmX5 (by decide) wm_2_14 rfl rfl (by decide) rfl (Nat.le_of_ble_eq_true rfl) (by rw [celr_5 (by decide)]; rfl) dX5_aheadOfChange_13 rfl ?_
  refine g_topM (fun M13 hM13 => ?_)
  have H := H M13 hM13
  exact g_ret C hR dX5_aheadOfChange_16 rfl H
set_option maxRecDepth 10000 in
set_option maxHeartbeats 2000000 in
theorem X5_figure_0 {x : Xx} {post : Int → Mm → Prop} (C : Cx x mX5_figure) (hR : Rt x mX5_figure post)  (v1 v2 v3 v4 v5 : Int) (M : Mm) (H : (inR v1) ∧ (v1 < 0 → (post (-1000000002) M)) ∧ (¬ (v1 < 0) → ((inR v1 ∧ inR (M 6 2)) ∧ (M 6 2 < v1 → (post (-1000000002) M)) ∧ (¬ (M 6 2 < v1) → (∃ p17 : Int → Mm → Prop, Ct (xl x) (xg x) mX5_partMayBe [vi 0, vi v2] M p17 ∧ ∀ (r17 : Int) (M17 : Mm), p17 r17 M17 → ((inR r17) ∧ (r17 = 0 → (post (-1000000002) M17)) ∧ (¬ (r17 = 0) → (∃ p25 : Int → Mm → Prop, Ct (xl x) (xg x) mX5_partMayBe [vi 1, vi v3] M17 p25 ∧ ∀ (r25 : Int) (M25 : Mm), p25 r25 M25 → ((inR r25) ∧ (r25 = 0 → (post (-1000000002) M25)) ∧ (¬ (r25 = 0) → (∃ p34 : Int → Mm → Prop, Ct (xl x) (xg x) mX5_partMayBe [vi 2, vi v4] M25 p34 ∧ ∀ (r34 : Int) (M34 : Mm), p34 r34 M34 → ((inR r34) ∧ (r34 = 0 → (post (-1000000002) M34)) ∧ (¬ (r34 = 0) → (∃ p43 : Int → Mm → Prop, Ct (xl x) (xg x) mX5_partMayBe [vi 3, vi v5] M34 p43 ∧ ∀ (r43 : Int) (M43 : Mm), p43 r43 M43 → ((inR r43) ∧ (¬ (r43 = 0) → ((inR (M43 6 2)) ∧ (M43 6 2 < 10 → (∃ p68 : Int → Mm → Prop, Ct (xl x) (xg x) mX5_aheadOfChange [vr (xg x) 0] M43 p68 ∧ ∀ (r68 : Int) (M68 : Mm), p68 r68 M68 → (∃ p76 : Int → Mm → Prop, Ct (xl x) (xg x) mX4_openAt [vr (xg x) 6, vi v1] M68 p76 ∧ ∀ (r76 : Int) (M76 : Mm), p76 r76 M76 → (∃ p90 : Int → Mm → Prop, Ct (xl x) (xg x) mX4_describe [vr (xg x) 6, vi v1, vi v2, vi v3, vi v4, vi v5] M76 p90 ∧ ∀ (r90 : Int) (M90 : Mm), p90 r90 M90 → (post (M90 6 2) M90))))) ∧ (¬ (M43 6 2 < 10) → (post (-1000000004) M43)))) ∧ (r43 = 0 → (post (-1000000002) M43))))))))))))))))) : Gx x 6 0 [(0, vr (xg x) 0), (1, vi v1), (2, vi v2), (3, vi v3), (4, vi v4), (5, vi v5)] [] M := by
  refine g_iload_n (q := 1) C dX5_figure_0 rfl 1 rfl rfl ?_
  obtain ⟨hr, Ht, Hf⟩ := H
  refine g_if_lt (q := 4) (t := 49) C dX5_figure_1 rfl (by decide) hr (fun hc => ?_) (fun hc => ?_)
  · have H := Ht hc
    refine g_ldc (q := 51) (z := (-1000000002)) C dX5_figure_49 rfl wc_5_4 ?_
    exact g_iret C hR dX5_figure_51 rfl H
  · have H := Hf hc
    refine g_iload_n (q := 5) C dX5_figure_4 rfl 1 rfl rfl ?_
    refine g_aload_n (q := 6) C dX5_figure_5 rfl 0 rfl rfl ?_
    refine g_get (q := 9) C (by decide) (celr_5 (by decide)) (ci := 5) (i := 0) rfl inlX5 (by decide) wm_1_15 rfl dX5_figure_6 rfl ?_
    refine g_getN (q := 12) C (isS_6).o.1 (celr_4 (isS_6).o.2) (ci := 4) (i := 2) rfl inlX4 (by decide) (by decide +kernel) rfl dX5_figure_9 rfl ?_
    obtain ⟨hr, Ht, Hf⟩ := H
    refine g_icmp_gt (q := 15) (t := 49) C dX5_figure_12 rfl (by decide) hr (fun hc => ?_) (fun hc => ?_)
    · have H := Ht hc
      refine g_ldc (q := 51) (z := (-1000000002)) C dX5_figure_49 rfl wc_5_4 ?_
      exact g_iret C hR dX5_figure_51 rfl H
    · have H := Hf hc
      refine g_iconst (q := 16) C dX5_figure_15 rfl ?_
      refine g_iload_n (q := 17) C dX5_figure_16 rfl 2 rfl rfl ?_
      obtain ⟨p17, hM, H⟩ := H
      refine g_callS (q := 20) (As := [vi 0, vi v2]) (st := []) (na := 2) C mX5_partMayBe hM wm_7_7 wm_7_8 wm_1_2 wm_7_9 (by decide +kernel) rfl rfl (by decide) rfl (Nat.le_of_ble_eq_true rfl) dX5_figure_17 rfl (fun r17 M17 hp => ?_)
      have H := H r17 M17 hp
      show Gx x 6 20 [(0, vr (xg x) 0), (1, vi v1), (2, vi v2), (3, vi v3), (4, vi v4), (5, vi v5)] [vi r17] M17
      obtain ⟨hr, Ht, Hf⟩ := H
      refine g_if_eq (q := 23) (t := 49) C dX5_figure_20 rfl (by decide) hr (fun hc => ?_) (fun hc => ?_)
      · have H := Ht hc
        refine g_ldc (q := 51) (z := (-1000000002)) C dX5_figure_49 rfl wc_5_4 ?_
        exact g_iret C hR dX5_figure_51 rfl H
      · have H := Hf hc
        refine g_iconst (q := 24) C dX5_figure_23 rfl ?_
        refine g_iload_n (q := 25) C dX5_figure_24 rfl 3 rfl rfl ?_
        obtain ⟨p25, hM, H⟩ := H
        refine g_callS (q := 28) (As := [vi 1, vi v3]) (st := []) (na := 2) C mX5_partMayBe hM wm_7_7 wm_7_8 wm_1_2 wm_7_9 (by decide +kernel) rfl rfl (by decide) rfl (Nat.le_of_ble_eq_true rfl) dX5_figure_25 rfl (fun r25 M25 hp => ?_)
        have H := H r25 M25 hp
        show Gx x 6 28 [(0, vr (xg x) 0), (1, vi v1), (2, vi v2), (3, vi v3), (4, vi v4), (5, vi v5)] [vi r25] M25
        obtain ⟨hr, Ht, Hf⟩ := H
        refine g_if_eq (q := 31) (t := 49) C dX5_figure_28 rfl (by decide) hr (fun hc => ?_) (fun hc => ?_)
        · have H := Ht hc
          refine g_ldc (q := 51) (z := (-1000000002)) C dX5_figure_49 rfl wc_5_4 ?_
          exact g_iret C hR dX5_figure_51 rfl H
        · have H := Hf hc
          refine g_iconst (q := 32) C dX5_figure_31 rfl ?_
          refine g_iload (q := 34) C dX5_figure_32 rfl 4 rfl ?_
          obtain ⟨p34, hM, H⟩ := H
          refine g_callS (q := 37) (As := [vi 2, vi v4]) (st := []) (na := 2) C mX5_partMayBe hM wm_7_7 wm_7_8 wm_1_2 wm_7_9 (by decide +kernel) rfl rfl (by decide) rfl (Nat.le_of_ble_eq_true rfl) dX5_figure_34 rfl (fun r34 M34 hp => ?_)
          have H := H r34 M34 hp
          show Gx x 6 37 [(0, vr (xg x) 0), (1, vi v1), (2, vi v2), (3, vi v3), (4, vi v4), (5, vi v5)] [vi r34] M34
          obtain ⟨hr, Ht, Hf⟩ := H
          refine g_if_eq (q := 40) (t := 49) C dX5_figure_37 rfl (by decide) hr (fun hc => ?_) (fun hc => ?_)
          · have H := Ht hc
            refine g_ldc (q := 51) (z := (-1000000002)) C dX5_figure_49 rfl wc_5_4 ?_
            exact g_iret C hR dX5_figure_51 rfl H
          · have H := Hf hc
            refine g_iconst (q := 41) C dX5_figure_40 rfl ?_
            refine g_iload (q := 43) C dX5_figure_41 rfl 5 rfl ?_
            obtain ⟨p43, hM, H⟩ := H
            refine g_callS (q := 46) (As := [vi 3, vi v5]) (st := []) (na := 2) C mX5_partMayBe hM wm_7_7 wm_7_8 wm_1_2 wm_7_9 (by decide +kernel) rfl rfl (by decide) rfl (Nat.le_of_ble_eq_true rfl) dX5_figure_43 rfl (fun r43 M43 hp => ?_)
            have H := H r43 M43 hp
            show Gx x 6 46 [(0, vr (xg x) 0), (1, vi v1), (2, vi v2), (3, vi v3), (4, vi v4), (5, vi v5)] [vi r43] M43
            obtain ⟨hr, Ht, Hf⟩ := H
            refine g_if_ne (q := 49) (t := 52) C dX5_figure_46 rfl (by decide) hr (fun hc => ?_) (fun hc => ?_)
            · have H := Ht hc
              refine g_aload_n (q := 53) C dX5_figure_52 rfl 0 rfl rfl ?_
              refine g_get (q := 56) C (by decide) (celr_5 (by decide)) (ci := 5) (i := 0) rfl inlX5 (by decide) wm_1_15 rfl dX5_figure_53 rfl ?_
              refine g_getN (q := 59) C (isS_6).o.1 (celr_4 (isS_6).o.2) (ci := 4) (i := 2) rfl inlX4 (by decide) (by decide +kernel) rfl dX5_figure_56 rfl ?_
              refine g_bipush (q := 61) C dX5_figure_59 rfl (by decide) ?_
              obtain ⟨hr, Ht, Hf⟩ := H
              refine g_icmp_lt (q := 64) (t := 67) C dX5_figure_61 rfl (by decide) ⟨hr, by decide⟩ (fun hc => ?_) (fun hc => ?_)
              · have H := Ht hc
                refine g_aload_n (q := 68) C dX5_figure_67 rfl 0 rfl rfl ?_
                obtain ⟨p68, hM, H⟩ := H
                refine g_callV (q := 71) (As := []) (st := []) (na := 0) C mX5_aheadOfChange (by decide) (celr_5 (by decide)) rfl hM wm_5_13 wm_5_14 wm_5_15 wm_1_2 wm_5_16 (by decide +kernel) rfl rfl (by decide) rfl (Nat.le_of_ble_eq_true rfl) dX5_figure_68 rfl (fun r68 M68 hp => ?_)
                have H := H r68 M68 hp
                show Gx x 6 71 [(0, vr (xg x) 0), (1, vi v1), (2, vi v2), (3, vi v3), (4, vi v4), (5, vi v5)] [] M68
                refine g_aload_n (q := 72) C dX5_figure_71 rfl 0 rfl rfl ?_
                refine g_get (q := 75) C (by decide) (celr_5 (by decide)) (ci := 5) (i := 0) rfl inlX5 (by decide) wm_1_15 rfl dX5_figure_72 rfl ?_
                refine g_iload_n (q := 76) C dX5_figure_75 rfl 1 rfl rfl ?_
                obtain ⟨p76, hM, H⟩ := H
                refine g_callV (q := 79) (As := [vi v1]) (st := []) (na := 1) C mX4_openAt (isS_6).o.1 (celr_4 (isS_6).o.2) rfl hM wm_7_12 wm_7_13 wm_7_14 wm_1_14 wm_7_15 (by decide +kernel) rfl rfl (by decide) rfl (Nat.le_of_ble_eq_true rfl) dX5_figure_76 rfl (fun r76 M76 hp => ?_)
                have H := H r76 M76 hp
                show Gx x 6 79 [(0, vr (xg x) 0), (1, vi v1), (2, vi v2), (3, vi v3), (4, vi v4), (5, vi v5)] [] M76
                refine g_aload_n (q := 80) C dX5_figure_79 rfl 0 rfl rfl ?_
                refine g_get (q := 83) C (by decide) (celr_5 (by decide)) (ci := 5) (i := 0) rfl inlX5 (by decide) wm_1_15 rfl dX5_figure_80 rfl ?_
                refine g_iload_n (q := 84) C dX5_figure_83 rfl 1 rfl rfl ?_
                refine g_iload_n (q := 85) C dX5_figure_84 rfl 2 rfl rfl ?_
                refine g_iload_n (q := 86) C dX5_figure_85 rfl 3 rfl rfl ?_
                refine g_iload (q := 88) C dX5_figure_86 rfl 4 rfl ?_
                refine g_iload (q := 90) C dX5_figure_88 rfl 5 rfl ?_
                obtain ⟨p90, hM, H⟩ := H
                refine g_callV (q := 93) (As := [vi v1, vi v2, vi v3, vi v4, vi v5]) (st := []) (na := 5) C mX4_describe (isS_6).o.1 (celr_4 (isS_6).o.2) rfl hM wm_7_16 wm_7_17 wm_7_18 wm_1_14 wm_7_19 (by decide +kernel) rfl rfl (by decide) rfl (Nat.le_of_ble_eq_true rfl) dX5_figure_90 rfl (fun r90 M90 hp => ?_)
                have H := H r90 M90 hp
                show Gx x 6 93 [(0, vr (xg x) 0), (1, vi v1), (2, vi v2), (3, vi v3), (4, vi v4), (5, vi v5)] [] M90
                refine g_aload_n (q := 94) C dX5_figure_93 rfl 0 rfl rfl ?_
                refine g_get (q := 97) C (by decide) (celr_5 (by decide)) (ci := 5) (i := 0) rfl inlX5 (by decide) wm_1_15 rfl dX5_figure_94 rfl ?_
                refine g_getN (q := 100) C (isS_6).o.1 (celr_4 (isS_6).o.2) (ci := 4) (i := 2) rfl inlX4 (by decide) (by decide +kernel) rfl dX5_figure_97 rfl ?_
                exact g_iret C hR dX5_figure_100 rfl H
              · have H := Hf hc
                refine g_ldc (q := 66) (z := (-1000000004)) C dX5_figure_64 rfl wc_7_6 ?_
                exact g_iret C hR dX5_figure_66 rfl H
            · have H := Hf hc
              refine g_ldc (q := 51) (z := (-1000000002)) C dX5_figure_49 rfl wc_5_4 ?_
              exact g_iret C hR dX5_figure_51 rfl H
set_option maxRecDepth 10000 in
set_option maxHeartbeats 2000000 in
theorem X5_partMayBe_0 {x : Xx} {post : Int → Mm → Prop} (C : Cx x mX5_partMayBe) (hR : Rt x mX5_partMayBe post)  (v0 v1 : Int) (M : Mm) (H : (0 ≤ v0 ∧ v0 < 4) ∧ ((inR v1 ∧ inR (sLP v0.toNat)) ∧ (v1 < sLP v0.toNat → (post 0 M)) ∧ (¬ (v1 < sLP v0.toNat) → ((0 ≤ v0 ∧ v0 < 4) ∧ ((inR v1 ∧ inR (sGP v0.toNat)) ∧ (sGP v0.toNat < v1 → (post 0 M)) ∧ (¬ (sGP v0.toNat < v1) → (post 1 M))))))) : Gx x 2 0 [(0, vi v0), (1, vi v1)] [] M := by
  refine g_iload_n (q := 1) C dX5_partMayBe_0 rfl 1 rfl rfl ?_
  refine g_gets (q := 4) C C.st.2.2.1 wm_7_10 dX5_partMayBe_1 rfl (fun t1 hT1 => ?_)
  refine g_iload_n (q := 5) C dX5_partMayBe_4 rfl 0 rfl rfl ?_
  obtain ⟨hc, H⟩ := H
  refine g_ti (q := 6) C hT1 hc (by decide) dX5_partMayBe_5 rfl ?_
  obtain ⟨hr, Ht, Hf⟩ := H
  refine g_icmp_lt (q := 9) (t := 22) C dX5_partMayBe_6 rfl (by decide) hr (fun hc => ?_) (fun hc => ?_)
  · have H := Ht hc
    refine g_iconst (q := 23) C dX5_partMayBe_22 rfl ?_
    exact g_zret C hR dX5_partMayBe_23 rfl (by decide) H
  · have H := Hf hc
    refine g_iload_n (q := 10) C dX5_partMayBe_9 rfl 1 rfl rfl ?_
    refine g_gets (q := 13) C C.st.2.2.2 wm_7_11 dX5_partMayBe_10 rfl (fun t10 hT10 => ?_)
    refine g_iload_n (q := 14) C dX5_partMayBe_13 rfl 0 rfl rfl ?_
    obtain ⟨hc, H⟩ := H
    refine g_ti (q := 15) C hT10 hc (by decide) dX5_partMayBe_14 rfl ?_
    obtain ⟨hr, Ht, Hf⟩ := H
    refine g_icmp_gt (q := 18) (t := 22) C dX5_partMayBe_15 rfl (by decide) hr (fun hc => ?_) (fun hc => ?_)
    · have H := Ht hc
      refine g_iconst (q := 23) C dX5_partMayBe_22 rfl ?_
      exact g_zret C hR dX5_partMayBe_23 rfl (by decide) H
    · have H := Hf hc
      refine g_iconst (q := 19) C dX5_partMayBe_18 rfl ?_
      refine g_goto (t := 23) C dX5_partMayBe_19 (by decide) ?_
      exact g_zret C hR dX5_partMayBe_23 rfl (by decide) H
set_option maxRecDepth 10000 in
set_option maxHeartbeats 2000000 in
theorem X5_drop_0 {x : Xx} {post : Int → Mm → Prop} (C : Cx x mX5_drop) (hR : Rt x mX5_drop post)  (v1 : Int) (M : Mm) (H : ∃ p5 : Int → Mm → Prop, Ct (xl x) (xg x) mX4_has [vr (xg x) 6, vi v1] M p5 ∧ ∀ (r5 : Int) (M5 : Mm), p5 r5 M5 → ((inR r5) ∧ (¬ (r5 = 0) → (∃ p15 : Int → Mm → Prop, Ct (xl x) (xg x) mX5_aheadOfChange [vr (xg x) 0] M5 p15 ∧ ∀ (r15 : Int) (M15 : Mm), p15 r15 M15 → (∃ p23 : Int → Mm → Prop, Ct (xl x) (xg x) mX4_closeAt [vr (xg x) 6, vi v1] M15 p23 ∧ ∀ (r23 : Int) (M23 : Mm), p23 r23 M23 → (post (M23 6 2) M23)))) ∧ (r5 = 0 → (post (-1000000001) M5)))) : Gx x 2 0 [(0, vr (xg x) 0), (1, vi v1)] [] M := by
  refine g_aload_n (q := 1) C dX5_drop_0 rfl 0 rfl rfl ?_
  refine g_get (q := 4) C (by decide) (celr_5 (by decide)) (ci := 5) (i := 0) rfl inlX5 (by decide) wm_1_15 rfl dX5_drop_1 rfl ?_
  refine g_iload_n (q := 5) C dX5_drop_4 rfl 1 rfl rfl ?_
  obtain ⟨p5, hM, H⟩ := H
  refine g_callV (q := 8) (As := [vi v1]) (st := []) (na := 1) C mX4_has (isS_6).o.1 (celr_4 (isS_6).o.2) rfl hM wm_8_10 wm_8_11 wm_8_12 wm_1_14 wm_8_13 (by decide +kernel) rfl rfl (by decide) rfl (Nat.le_of_ble_eq_true rfl) dX5_drop_5 rfl (fun r5 M5 hp => ?_)
  have H := H r5 M5 hp
  show Gx x 2 8 [(0, vr (xg x) 0), (1, vi v1)] [vi r5] M5
  obtain ⟨hr, Ht, Hf⟩ := H
  refine g_if_ne (q := 11) (t := 14) C dX5_drop_8 rfl (by decide) hr (fun hc => ?_) (fun hc => ?_)
  · have H := Ht hc
    refine g_aload_n (q := 15) C dX5_drop_14 rfl 0 rfl rfl ?_
    obtain ⟨p15, hM, H⟩ := H
    refine g_callV (q := 18) (As := []) (st := []) (na := 0) C mX5_aheadOfChange (by decide) (celr_5 (by decide)) rfl hM wm_5_13 wm_5_14 wm_5_15 wm_1_2 wm_5_16 (by decide +kernel) rfl rfl (by decide) rfl (Nat.le_of_ble_eq_true rfl) dX5_drop_15 rfl (fun r15 M15 hp => ?_)
    have H := H r15 M15 hp
    show Gx x 2 18 [(0, vr (xg x) 0), (1, vi v1)] [] M15
    refine g_aload_n (q := 19) C dX5_drop_18 rfl 0 rfl rfl ?_
    refine g_get (q := 22) C (by decide) (celr_5 (by decide)) (ci := 5) (i := 0) rfl inlX5 (by decide) wm_1_15 rfl dX5_drop_19 rfl ?_
    refine g_iload_n (q := 23) C dX5_drop_22 rfl 1 rfl rfl ?_
    obtain ⟨p23, hM, H⟩ := H
    refine g_callV (q := 26) (As := [vi v1]) (st := []) (na := 1) C mX4_closeAt (isS_6).o.1 (celr_4 (isS_6).o.2) rfl hM wm_8_14 wm_8_15 wm_8_16 wm_1_14 wm_8_17 (by decide +kernel) rfl rfl (by decide) rfl (Nat.le_of_ble_eq_true rfl) dX5_drop_23 rfl (fun r23 M23 hp => ?_)
    have H := H r23 M23 hp
    show Gx x 2 26 [(0, vr (xg x) 0), (1, vi v1)] [] M23
    refine g_aload_n (q := 27) C dX5_drop_26 rfl 0 rfl rfl ?_
    refine g_get (q := 30) C (by decide) (celr_5 (by decide)) (ci := 5) (i := 0) rfl inlX5 (by decide) wm_1_15 rfl dX5_drop_27 rfl ?_
    refine g_getN (q := 33) C (isS_6).o.1 (celr_4 (isS_6).o.2) (ci := 4) (i := 2) rfl inlX4 (by decide) (by decide +kernel) rfl dX5_drop_30 rfl ?_
    exact g_iret C hR dX5_drop_33 rfl H
  · have H := Hf hc
    refine g_ldc (q := 13) (z := (-1000000001)) C dX5_drop_11 rfl wc_8_9 ?_
    exact g_iret C hR dX5_drop_13 rfl H
set_option maxRecDepth 10000 in
set_option maxHeartbeats 2000000 in
theorem X5_mention_0 {x : Xx} {post : Int → Mm → Prop} (C : Cx x mX5_mention) (hR : Rt x mX5_mention post)  (v1 v2 : Int) (M : Mm) (H : ∃ p5 : Int → Mm → Prop, Ct (xl x) (xg x) mX4_has [vr (xg x) 6, vi v1] M p5 ∧ ∀ (r5 : Int) (M5 : Mm), p5 r5 M5 → ((inR r5) ∧ (¬ (r5 = 0) → (∃ p16 : Int → Mm → Prop, Ct (xl x) (xg x) mX5_partMayBe [vi 2, vi v2] M5 p16 ∧ ∀ (r16 : Int) (M16 : Mm), p16 r16 M16 → ((inR r16) ∧ (¬ (r16 = 0) → ((0 ≤ v1 ∧ v1 < 10) ∧ (∀ w36 : Int, w36 = (M16 11 v1) → (∃ p38 : Int → Mm → Prop, Ct (xl x) (xg x) mX5_aheadOfChange [vr (xg x) 0] M16 p38 ∧ ∀ (r38 : Int) (M38 : Mm), p38 r38 M38 → ((0 ≤ v1 ∧ v1 < 10) ∧ (∀ M52 : Mm, M52 = mu M38 11 v1 v2 → (post w36 M52))))))) ∧ (r16 = 0 → (post (-1000000002) M16))))) ∧ (r5 = 0 → (post (-1000000001) M5)))) : Gx x 4 0 [(0, vr (xg x) 0), (1, vi v1), (2, vi v2)] [] M := by
  refine g_aload_n (q := 1) C dX5_mention_0 rfl 0 rfl rfl ?_
  refine g_get (q := 4) C (by decide) (celr_5 (by decide)) (ci := 5) (i := 0) rfl inlX5 (by decide) wm_1_15 rfl dX5_mention_1 rfl ?_
  refine g_iload_n (q := 5) C dX5_mention_4 rfl 1 rfl rfl ?_
  obtain ⟨p5, hM, H⟩ := H
  refine g_callV (q := 8) (As := [vi v1]) (st := []) (na := 1) C mX4_has (isS_6).o.1 (celr_4 (isS_6).o.2) rfl hM wm_8_10 wm_8_11 wm_8_12 wm_1_14 wm_8_13 (by decide +kernel) rfl rfl (by decide) rfl (Nat.le_of_ble_eq_true rfl) dX5_mention_5 rfl (fun r5 M5 hp => ?_)
  have H := H r5 M5 hp
  show Gx x 4 8 [(0, vr (xg x) 0), (1, vi v1), (2, vi v2)] [vi r5] M5
  obtain ⟨hr, Ht, Hf⟩ := H
  refine g_if_ne (q := 11) (t := 14) C dX5_mention_8 rfl (by decide) hr (fun hc => ?_) (fun hc => ?_)
  · have H := Ht hc
    refine g_iconst (q := 15) C dX5_mention_14 rfl ?_
    refine g_iload_n (q := 16) C dX5_mention_15 rfl 2 rfl rfl ?_
    obtain ⟨p16, hM, H⟩ := H
    refine g_callS (q := 19) (As := [vi 2, vi v2]) (st := []) (na := 2) C mX5_partMayBe hM wm_7_7 wm_7_8 wm_1_2 wm_7_9 (by decide +kernel) rfl rfl (by decide) rfl (Nat.le_of_ble_eq_true rfl) dX5_mention_16 rfl (fun r16 M16 hp => ?_)
    have H := H r16 M16 hp
    show Gx x 4 19 [(0, vr (xg x) 0), (1, vi v1), (2, vi v2)] [vi r16] M16
    obtain ⟨hr, Ht, Hf⟩ := H
    refine g_if_ne (q := 22) (t := 25) C dX5_mention_19 rfl (by decide) hr (fun hc => ?_) (fun hc => ?_)
    · have H := Ht hc
      refine g_aload_n (q := 26) C dX5_mention_25 rfl 0 rfl rfl ?_
      refine g_get (q := 29) C (by decide) (celr_5 (by decide)) (ci := 5) (i := 0) rfl inlX5 (by decide) wm_1_15 rfl dX5_mention_26 rfl ?_
      refine g_getN (q := 32) C (isS_6).o.1 (celr_4 (isS_6).o.2) (ci := 4) (i := 1) rfl inlX4 (by decide) (by decide +kernel) rfl dX5_mention_29 rfl ?_
      refine g_iconst (q := 33) C dX5_mention_32 rfl ?_
      refine g_aald (q := 34) (r := 11) C ((isS_6).p).1 ((isS_6).p).2.1 ((isS_6).p).2.2 (by decide) (by decide) (isS.f isS_6 2) dX5_mention_33 rfl ?_
      refine g_iload_n (q := 35) C dX5_mention_34 rfl 1 rfl rfl ?_
      obtain ⟨hc, H⟩ := H
      refine g_iald (q := 36) (m := 10) C (isS.r isS_6 2 (by decide)).1 (isS.r isS_6 2 (by decide)).2.1 (isS.r isS_6 2 (by decide)).2.2 hc (by decide) dX5_mention_35 rfl ?_
      refine g_topi (fun w36 hw36 => ?_)
      have H := H w36 hw36
      refine g_istore_n (q := 37) (L2 := [(3, vi w36), (0, vr (xg x) 0), (1, vi v1), (2, vi v2)]) C dX5_mention_36 rfl rfl (by decide) rfl ?_
      refine g_aload_n (q := 38) C dX5_mention_37 rfl 1 rfl rfl ?_
      obtain ⟨p38, hM, H⟩ := H
      refine g_callV (q := 41) (As := []) (st := []) (na := 0) C mX5_aheadOfChange (by decide) (celr_5 (by decide)) rfl hM wm_5_13 wm_5_14 wm_5_15 wm_1_2 wm_5_16 (by decide +kernel) rfl rfl (by decide) rfl (Nat.le_of_ble_eq_true rfl) dX5_mention_38 rfl (fun r38 M38 hp => ?_)
      have H := H r38 M38 hp
      show Gx x 4 41 [(3, vi w36), (0, vr (xg x) 0), (1, vi v1), (2, vi v2)] [] M38
      refine g_aload_n (q := 42) C dX5_mention_41 rfl 1 rfl rfl ?_
      refine g_get (q := 45) C (by decide) (celr_5 (by decide)) (ci := 5) (i := 0) rfl inlX5 (by decide) wm_1_15 rfl dX5_mention_42 rfl ?_
      refine g_getN (q := 48) C (isS_6).o.1 (celr_4 (isS_6).o.2) (ci := 4) (i := 1) rfl inlX4 (by decide) (by decide +kernel) rfl dX5_mention_45 rfl ?_
      refine g_iconst (q := 49) C dX5_mention_48 rfl ?_
      refine g_aald (q := 50) (r := 11) C ((isS_6).p).1 ((isS_6).p).2.1 ((isS_6).p).2.2 (by decide) (by decide) (isS.f isS_6 2) dX5_mention_49 rfl ?_
      refine g_iload_n (q := 51) C dX5_mention_50 rfl 2 rfl rfl ?_
      refine g_iload_n (q := 52) C dX5_mention_51 rfl 3 rfl rfl ?_
      obtain ⟨hc, H⟩ := H
      refine g_iast (q := 53) (m := 10) C (isS.r isS_6 2 (by decide)).1 (isS.r isS_6 2 (by decide)).2.1 (isS.r isS_6 2 (by decide)).2.2 hc (by decide) dX5_mention_52 rfl ?_
      refine g_topM (fun M52 hM52 => ?_)
      have H := H M52 hM52
      refine g_iload_n (q := 54) C dX5_mention_53 rfl 0 rfl rfl ?_
      exact g_iret C hR dX5_mention_54 rfl H
    · have H := Hf hc
      refine g_ldc (q := 24) (z := (-1000000002)) C dX5_mention_22 rfl wc_5_4 ?_
      exact g_iret C hR dX5_mention_24 rfl H
  · have H := Hf hc
    refine g_ldc (q := 13) (z := (-1000000001)) C dX5_mention_11 rfl wc_8_9 ?_
    exact g_iret C hR dX5_mention_13 rfl H
set_option maxRecDepth 10000 in
set_option maxHeartbeats 2000000 in
theorem X5_drift_0 {x : Xx} {post : Int → Mm → Prop} (C : Cx x mX5_drift) (hR : Rt x mX5_drift post)  (v1 v2 : Int) (M : Mm) (H : (inR v1) ∧ (v1 < 0 → (post (-1000000002) M)) ∧ (¬ (v1 < 0) → ((inR v1) ∧ (10 < v1 → (post (-1000000002) M)) ∧ (¬ (10 < v1) → ((inR v2) ∧ (v2 < 1 → (post (-1000000002) M)) ∧ (¬ (v2 < 1) → ((inR v2) ∧ (v2 ≤ 999999 → (∃ p25 : Int → Mm → Prop, Ct (xl x) (xg x) mX5_aheadOfChange [vr (xg x) 0] M p25 ∧ ∀ (r25 : Int) (M25 : Mm), p25 r25 M25 → (∃ p34 : Int → Mm → Prop, Ct (xl x) (xg x) mX4_drawLots [vr (xg x) 6, vi v1, vi v2] M25 p34 ∧ ∀ (r34 : Int) (M34 : Mm), p34 r34 M34 → (∃ p38 : Int → Mm → Prop, Ct (xl x) (xg x) mX5_settle [vr (xg x) 0] M34 p38 ∧ ∀ (r38 : Int) (M38 : Mm), p38 r38 M38 → (∃ p47 : Int → Mm → Prop, Ct (xl x) (xg x) mX3_costFrom [vr (xg x) 76, vi 0, vi 0] M38 p47 ∧ ∀ (r47 : Int) (M47 : Mm), p47 r47 M47 → (post r47 M47)))))) ∧ (¬ (v2 ≤ 999999) → (post (-1000000002) M))))))))) : Gx x 3 0 [(0, vr (xg x) 0), (1, vi v1), (2, vi v2)] [] M := by
  refine g_iload_n (q := 1) C dX5_drift_0 rfl 1 rfl rfl ?_
  obtain ⟨hr, Ht, Hf⟩ := H
  refine g_if_lt (q := 4) (t := 21) C dX5_drift_1 rfl (by decide) hr (fun hc => ?_) (fun hc => ?_)
  · have H := Ht hc
    refine g_ldc (q := 23) (z := (-1000000002)) C dX5_drift_21 rfl wc_5_4 ?_
    exact g_iret C hR dX5_drift_23 rfl H
  · have H := Hf hc
    refine g_iload_n (q := 5) C dX5_drift_4 rfl 1 rfl rfl ?_
    refine g_bipush (q := 7) C dX5_drift_5 rfl (by decide) ?_
    obtain ⟨hr, Ht, Hf⟩ := H
    refine g_icmp_gt (q := 10) (t := 21) C dX5_drift_7 rfl (by decide) ⟨hr, by decide⟩ (fun hc => ?_) (fun hc => ?_)
    · have H := Ht hc
      refine g_ldc (q := 23) (z := (-1000000002)) C dX5_drift_21 rfl wc_5_4 ?_
      exact g_iret C hR dX5_drift_23 rfl H
    · have H := Hf hc
      refine g_iload_n (q := 11) C dX5_drift_10 rfl 2 rfl rfl ?_
      refine g_iconst (q := 12) C dX5_drift_11 rfl ?_
      obtain ⟨hr, Ht, Hf⟩ := H
      refine g_icmp_lt (q := 15) (t := 21) C dX5_drift_12 rfl (by decide) ⟨hr, by decide⟩ (fun hc => ?_) (fun hc => ?_)
      · have H := Ht hc
        refine g_ldc (q := 23) (z := (-1000000002)) C dX5_drift_21 rfl wc_5_4 ?_
        exact g_iret C hR dX5_drift_23 rfl H
      · have H := Hf hc
        refine g_iload_n (q := 16) C dX5_drift_15 rfl 2 rfl rfl ?_
        refine g_ldc (q := 18) (z := 999999) C dX5_drift_16 rfl wc_9_19 ?_
        obtain ⟨hr, Ht, Hf⟩ := H
        refine g_icmp_le (q := 21) (t := 24) C dX5_drift_18 rfl (by decide) ⟨hr, by decide⟩ (fun hc => ?_) (fun hc => ?_)
        · have H := Ht hc
          refine g_aload_n (q := 25) C dX5_drift_24 rfl 0 rfl rfl ?_
          obtain ⟨p25, hM, H⟩ := H
          refine g_callV (q := 28) (As := []) (st := []) (na := 0) C mX5_aheadOfChange (by decide) (celr_5 (by decide)) rfl hM wm_5_13 wm_5_14 wm_5_15 wm_1_2 wm_5_16 (by decide +kernel) rfl rfl (by decide) rfl (Nat.le_of_ble_eq_true rfl) dX5_drift_25 rfl (fun r25 M25 hp => ?_)
          have H := H r25 M25 hp
          show Gx x 3 28 [(0, vr (xg x) 0), (1, vi v1), (2, vi v2)] [] M25
          refine g_aload_n (q := 29) C dX5_drift_28 rfl 0 rfl rfl ?_
          refine g_get (q := 32) C (by decide) (celr_5 (by decide)) (ci := 5) (i := 0) rfl inlX5 (by decide) wm_1_15 rfl dX5_drift_29 rfl ?_
          refine g_iload_n (q := 33) C dX5_drift_32 rfl 1 rfl rfl ?_
          refine g_iload_n (q := 34) C dX5_drift_33 rfl 2 rfl rfl ?_
          obtain ⟨p34, hM, H⟩ := H
          refine g_callV (q := 37) (As := [vi v1, vi v2]) (st := []) (na := 2) C mX4_drawLots (isS_6).o.1 (celr_4 (isS_6).o.2) rfl hM wm_9_20 wm_9_21 wm_9_22 wm_1_14 wm_9_23 (by decide +kernel) rfl rfl (by decide) rfl (Nat.le_of_ble_eq_true rfl) dX5_drift_34 rfl (fun r34 M34 hp => ?_)
          have H := H r34 M34 hp
          show Gx x 3 37 [(0, vr (xg x) 0), (1, vi v1), (2, vi v2)] [] M34
          refine g_aload_n (q := 38) C dX5_drift_37 rfl 0 rfl rfl ?_
          obtain ⟨p38, hM, H⟩ := H
          refine g_callV (q := 41) (As := []) (st := []) (na := 0) C mX5_settle (by decide) (celr_5 (by decide)) rfl hM wm_10_8 wm_10_9 wm_10_10 wm_1_2 wm_10_11 (by decide +kernel) rfl rfl (by decide) rfl (Nat.le_of_ble_eq_true rfl) dX5_drift_38 rfl (fun r38 M38 hp => ?_)
          have H := H r38 M38 hp
          show Gx x 3 41 [(0, vr (xg x) 0), (1, vi v1), (2, vi v2)] [] M38
          refine g_aload_n (q := 42) C dX5_drift_41 rfl 0 rfl rfl ?_
          refine g_get (q := 45) C (by decide) (celr_5 (by decide)) (ci := 5) (i := 5) rfl inlX5 (by decide) wm_2_3 rfl dX5_drift_42 rfl ?_
          refine g_iconst (q := 46) C dX5_drift_45 rfl ?_
          refine g_iconst (q := 47) C dX5_drift_46 rfl ?_
          obtain ⟨p47, hM, H⟩ := H
          refine g_callV (q := 50) (As := [vi 0, vi 0]) (st := []) (na := 2) C mX3_costFrom (isP_76).o.1 (celr_3 (isP_76).o.2) rfl hM wm_14_15 wm_14_16 wm_14_17 wm_2_2 wm_14_18 (by decide +kernel) rfl rfl (by decide) rfl (Nat.le_of_ble_eq_true rfl) dX5_drift_47 rfl (fun r47 M47 hp => ?_)
          have H := H r47 M47 hp
          show Gx x 3 50 [(0, vr (xg x) 0), (1, vi v1), (2, vi v2)] [vi r47] M47
          exact g_iret C hR dX5_drift_50 rfl H
        · have H := Hf hc
          refine g_ldc (q := 23) (z := (-1000000002)) C dX5_drift_21 rfl wc_5_4 ?_
          exact g_iret C hR dX5_drift_23 rfl H
set_option maxRecDepth 10000 in
set_option maxHeartbeats 2000000 in
theorem X5_settle_0 {x : Xx} {post : Int → Mm → Prop} (C : Cx x mX5_settle) (hR : Rt x mX5_settle post)  (M : Mm) (H : (inR (M 0 12)) ∧ (¬ (M 0 12 = 0) → (∃ p16 : Int → Mm → Prop, Ct (xl x) (xg x) mX3_solve [vr (xg x) 76, vr (xg x) 6] M p16 ∧ ∀ (r16 : Int) (M16 : Mm), p16 r16 M16 → (∃ p27 : Int → Mm → Prop, Ct (xl x) (xg x) mX2_follow [vr (xg x) 96, vr (xg x) 76] M16 p27 ∧ ∀ (r27 : Int) (M27 : Mm), p27 r27 M27 → (∃ p41 : Int → Mm → Prop, Ct (xl x) (xg x) mX2_takeMost [vr (xg x) 99, vr (xg x) 77] M27 p41 ∧ ∀ (r41 : Int) (M41 : Mm), p41 r41 M41 → (∀ M46 : Mm, M46 = mu M41 0 12 0 → (post 0 M46)))))) ∧ (M 0 12 = 0 → (post 0 M))) : Gx x 1 0 [(0, vr (xg x) 0)] [] M := by
  refine g_aload_n (q := 1) C dX5_settle_0 rfl 0 rfl rfl ?_
  refine g_get (q := 4) C (by decide) (celr_5 (by decide)) (ci := 5) (i := 12) rfl inlX5 (by decide) wm_2_14 rfl dX5_settle_1 rfl ?_
  obtain ⟨hr, Ht, Hf⟩ := H
  refine g_if_ne (q := 7) (t := 8) C dX5_settle_4 rfl (by decide) hr (fun hc => ?_) (fun hc => ?_)
  · have H := Ht hc
    refine g_aload_n (q := 9) C dX5_settle_8 rfl 0 rfl rfl ?_
    refine g_get (q := 12) C (by decide) (celr_5 (by decide)) (ci := 5) (i := 5) rfl inlX5 (by decide) wm_2_3 rfl dX5_settle_9 rfl ?_
    refine g_aload_n (q := 13) C dX5_settle_12 rfl 0 rfl rfl ?_
    refine g_get (q := 16) C (by decide) (celr_5 (by decide)) (ci := 5) (i := 0) rfl inlX5 (by decide) wm_1_15 rfl dX5_settle_13 rfl ?_
    obtain ⟨p16, hM, H⟩ := H
    refine g_callV (q := 19) (As := [vr (xg x) 6]) (st := []) (na := 1) C mX3_solve (isP_76).o.1 (celr_3 (isP_76).o.2) rfl hM wm_10_12 wm_10_13 wm_10_14 wm_2_2 wm_10_15 (by decide +kernel) rfl rfl (by decide) rfl (Nat.le_of_ble_eq_true rfl) dX5_settle_16 rfl (fun r16 M16 hp => ?_)
    have H := H r16 M16 hp
    show Gx x 1 19 [(0, vr (xg x) 0)] [] M16
    refine g_aload_n (q := 20) C dX5_settle_19 rfl 0 rfl rfl ?_
    refine g_get (q := 23) C (by decide) (celr_5 (by decide)) (ci := 5) (i := 7) rfl inlX5 (by decide) wm_2_8 rfl dX5_settle_20 rfl ?_
    refine g_aload_n (q := 24) C dX5_settle_23 rfl 0 rfl rfl ?_
    refine g_get (q := 27) C (by decide) (celr_5 (by decide)) (ci := 5) (i := 5) rfl inlX5 (by decide) wm_2_3 rfl dX5_settle_24 rfl ?_
    obtain ⟨p27, hM, H⟩ := H
    refine g_callV (q := 30) (As := [vr (xg x) 76]) (st := []) (na := 1) C mX2_follow (isPl_96).o.1 (celr_2 (isPl_96).o.2) rfl hM wm_13_12 wm_13_13 wm_13_14 wm_2_7 wm_13_15 (by decide +kernel) rfl rfl (by decide) rfl (Nat.le_of_ble_eq_true rfl) dX5_settle_27 rfl (fun r27 M27 hp => ?_)
    have H := H r27 M27 hp
    show Gx x 1 30 [(0, vr (xg x) 0)] [] M27
    refine g_aload_n (q := 31) C dX5_settle_30 rfl 0 rfl rfl ?_
    refine g_get (q := 34) C (by decide) (celr_5 (by decide)) (ci := 5) (i := 8) rfl inlX5 (by decide) wm_2_9 rfl dX5_settle_31 rfl ?_
    refine g_aload_n (q := 35) C dX5_settle_34 rfl 0 rfl rfl ?_
    refine g_get (q := 38) C (by decide) (celr_5 (by decide)) (ci := 5) (i := 5) rfl inlX5 (by decide) wm_2_3 rfl dX5_settle_35 rfl ?_
    refine g_getN (q := 41) C (isP_76).o.1 (celr_3 (isP_76).o.2) (ci := 3) (i := 0) rfl inlX3 (by decide) (by decide +kernel) rfl dX5_settle_38 rfl ?_
    obtain ⟨p41, hM, H⟩ := H
    refine g_callV (q := 44) (As := [vr (xg x) 77]) (st := []) (na := 1) C mX2_takeMost (isPl_99).o.1 (celr_2 (isPl_99).o.2) rfl hM wm_14_10 wm_14_11 wm_14_12 wm_2_7 wm_14_13 (by decide +kernel) rfl rfl (by decide) rfl (Nat.le_of_ble_eq_true rfl) dX5_settle_41 rfl (fun r41 M41 hp => ?_)
    have H := H r41 M41 hp
    show Gx x 1 44 [(0, vr (xg x) 0)] [] M41
    refine g_aload_n (q := 45) C dX5_settle_44 rfl 0 rfl rfl ?_
    refine g_iconst (q := 46) C dX5_settle_45 rfl ?_
    refine g_put (q := 49) (ty := .boolean) C (by decide) (celr_5 (by decide)) (ci := 5) (i := 12) rfl inlX5 tyX5_ok nmX5 (by decide) wm_2_14 rfl rfl (by decide) rfl (Nat.le_of_ble_eq_true rfl) (by rw [celr_5 (by decide)]; rfl) dX5_settle_46 rfl ?_
    refine g_topM (fun M46 hM46 => ?_)
    have H := H M46 hM46
    exact g_ret C hR dX5_settle_49 rfl H
  · have H := Hf hc
    exact g_ret C hR dX5_settle_7 rfl H
set_option maxRecDepth 10000 in
set_option maxHeartbeats 2000000 in
theorem X5_undo_0 {x : Xx} {post : Int → Mm → Prop} (C : Cx x mX5_undo) (hR : Rt x mX5_undo post)  (M : Mm) (H : (inR (M 4 2)) ∧ (¬ (M 4 2 = 0) → (∃ p21 : Int → Mm → Prop, Ct (xl x) (xg x) mX0_bringBack [vr (xg x) 4, vr (xg x) 6] M p21 ∧ ∀ (r21 : Int) (M21 : Mm), p21 r21 M21 → (∀ M26 : Mm, M26 = mu M21 0 12 1 → (post (M26 4 2) M26)))) ∧ (M 4 2 = 0 → (post (-1000000003) M))) : Gx x 1 0 [(0, vr (xg x) 0)] [] M := by
  refine g_aload_n (q := 1) C dX5_undo_0 rfl 0 rfl rfl ?_
  refine g_get (q := 4) C (by decide) (celr_5 (by decide)) (ci := 5) (i := 4) rfl inlX5 (by decide) wm_1_23 rfl dX5_undo_1 rfl ?_
  refine g_getN (q := 7) C (by decide) (celr_0 (by decide)) (ci := 0) (i := 2) rfl inlX0 (by decide) (by decide +kernel) rfl dX5_undo_4 rfl ?_
  obtain ⟨hr, Ht, Hf⟩ := H
  refine g_if_ne (q := 10) (t := 13) C dX5_undo_7 rfl (by decide) hr (fun hc => ?_) (fun hc => ?_)
  · have H := Ht hc
    refine g_aload_n (q := 14) C dX5_undo_13 rfl 0 rfl rfl ?_
    refine g_get (q := 17) C (by decide) (celr_5 (by decide)) (ci := 5) (i := 4) rfl inlX5 (by decide) wm_1_23 rfl dX5_undo_14 rfl ?_
    refine g_aload_n (q := 18) C dX5_undo_17 rfl 0 rfl rfl ?_
    refine g_get (q := 21) C (by decide) (celr_5 (by decide)) (ci := 5) (i := 0) rfl inlX5 (by decide) wm_1_15 rfl dX5_undo_18 rfl ?_
    obtain ⟨p21, hM, H⟩ := H
    refine g_callV (q := 24) (As := [vr (xg x) 6]) (st := []) (na := 1) C mX0_bringBack (by decide) (celr_0 (by decide)) rfl hM wm_18_6 wm_18_7 wm_18_8 wm_1_22 wm_18_9 (by decide +kernel) rfl rfl (by decide) rfl (Nat.le_of_ble_eq_true rfl) dX5_undo_21 rfl (fun r21 M21 hp => ?_)
    have H := H r21 M21 hp
    show Gx x 1 24 [(0, vr (xg x) 0)] [] M21
    refine g_aload_n (q := 25) C dX5_undo_24 rfl 0 rfl rfl ?_
    refine g_iconst (q := 26) C dX5_undo_25 rfl ?_
    refine g_put (q := 29) (ty := .boolean) C (by decide) (celr_5 (by decide)) (ci := 5) (i := 12) rfl inlX5 tyX5_ok nmX5 (by decide) wm_2_14 rfl rfl (by decide) rfl (Nat.le_of_ble_eq_true rfl) (by rw [celr_5 (by decide)]; rfl) dX5_undo_26 rfl ?_
    refine g_topM (fun M26 hM26 => ?_)
    have H := H M26 hM26
    refine g_aload_n (q := 30) C dX5_undo_29 rfl 0 rfl rfl ?_
    refine g_get (q := 33) C (by decide) (celr_5 (by decide)) (ci := 5) (i := 4) rfl inlX5 (by decide) wm_1_23 rfl dX5_undo_30 rfl ?_
    refine g_getN (q := 36) C (by decide) (celr_0 (by decide)) (ci := 0) (i := 2) rfl inlX0 (by decide) (by decide +kernel) rfl dX5_undo_33 rfl ?_
    exact g_iret C hR dX5_undo_36 rfl H
  · have H := Hf hc
    refine g_ldc (q := 12) (z := (-1000000003)) C dX5_undo_10 rfl wc_18_5 ?_
    exact g_iret C hR dX5_undo_12 rfl H
set_option maxRecDepth 10000 in
set_option maxHeartbeats 2000000 in
theorem X5_told_0 {x : Xx} {post : Int → Mm → Prop} (C : Cx x mX5_told) (hR : Rt x mX5_told post)  (v1 : Int) (M : Mm) (H : (inR v1) ∧ (v1 < 0 → (post (-1000000002) M)) ∧ (¬ (v1 < 0) → ((inR v1) ∧ (v1 ≤ 15 → ((inR v1) ∧ (6 ≤ v1 → (∃ p30 : Int → Mm → Prop, Ct (xl x) (xg x) mX5_settle [vr (xg x) 0] M p30 ∧ ∀ (r30 : Int) (M30 : Mm), p30 r30 M30 → ((inR v1) ∧ ((v1 < 6 ∨ 14 < v1) → (post (M30 4 2) M30)) ∧ (v1 = 6 → (post (M30 6 2) M30)) ∧ (v1 = 7 → (post (M30 77 4) M30)) ∧ (v1 = 8 → (∃ p109 : Int → Mm → Prop, Ct (xl x) (xg x) mX3_costFrom [vr (xg x) 76, vi 0, vi 0] M30 p109 ∧ ∀ (r109 : Int) (M109 : Mm), p109 r109 M109 → (post r109 M109))) ∧ (v1 = 9 → (post (M30 96 2) M30)) ∧ (v1 = 10 → (∃ p132 : Int → Mm → Prop, Ct (xl x) (xg x) mX2_cost [vr (xg x) 99, vr (xg x) 77] M30 p132 ∧ ∀ (r132 : Int) (M132 : Mm), p132 r132 M132 → (post r132 M132))) ∧ (v1 = 11 → (post (M30 99 2) M30)) ∧ (v1 = 12 → (post (M30 76 5) M30)) ∧ (v1 = 13 → (∃ p163 : Int → Mm → Prop, Ct (xl x) (xg x) mX2_heavy [vr (xg x) 96, vr (xg x) 77] M30 p163 ∧ ∀ (r163 : Int) (M163 : Mm), p163 r163 M163 → (post r163 M163))) ∧ (v1 = 14 → (post (M30 0 11) M30))))) ∧ (¬ (6 ≤ v1) → ((0 ≤ v1 ∧ v1 < 6) ∧ (post (M 7 v1) M))))) ∧ (¬ (v1 ≤ 15) → (post (-1000000002) M))))) : Gx x 2 0 [(0, vr (xg x) 0), (1, vi v1)] [] M := by
  refine g_iload_n (q := 1) C dX5_told_0 rfl 1 rfl rfl ?_
  obtain ⟨hr, Ht, Hf⟩ := H
  refine g_if_lt (q := 4) (t := 10) C dX5_told_1 rfl (by decide) hr (fun hc => ?_) (fun hc => ?_)
  · have H := Ht hc
    refine g_ldc (q := 12) (z := (-1000000002)) C dX5_told_10 rfl wc_5_4 ?_
    exact g_iret C hR dX5_told_12 rfl H
  · have H := Hf hc
    refine g_iload_n (q := 5) C dX5_told_4 rfl 1 rfl rfl ?_
    refine g_bipush (q := 7) C dX5_told_5 rfl (by decide) ?_
    obtain ⟨hr, Ht, Hf⟩ := H
    refine g_icmp_le (q := 10) (t := 13) C dX5_told_7 rfl (by decide) ⟨hr, by decide⟩ (fun hc => ?_) (fun hc => ?_)
    · have H := Ht hc
      refine g_iload_n (q := 14) C dX5_told_13 rfl 1 rfl rfl ?_
      refine g_bipush (q := 16) C dX5_told_14 rfl (by decide) ?_
      obtain ⟨hr, Ht, Hf⟩ := H
      refine g_icmp_ge (q := 19) (t := 29) C dX5_told_16 rfl (by decide) ⟨hr, by decide⟩ (fun hc => ?_) (fun hc => ?_)
      · have H := Ht hc
        refine g_aload_n (q := 30) C dX5_told_29 rfl 0 rfl rfl ?_
        obtain ⟨p30, hM, H⟩ := H
        refine g_callV (q := 33) (As := []) (st := []) (na := 0) C mX5_settle (by decide) (celr_5 (by decide)) rfl hM wm_10_8 wm_10_9 wm_10_10 wm_1_2 wm_10_11 (by decide +kernel) rfl rfl (by decide) rfl (Nat.le_of_ble_eq_true rfl) dX5_told_30 rfl (fun r30 M30 hp => ?_)
        have H := H r30 M30 hp
        show Gx x 2 33 [(0, vr (xg x) 0), (1, vi v1)] [] M30
        refine g_iload_n (q := 34) C dX5_told_33 rfl 1 rfl rfl ?_
        obtain ⟨hr, Hd, H⟩ := H
        rcases (show (v1 < 6 ∨ 14 < v1) ∨ v1 = 6 ∨ v1 = 7 ∨ v1 = 8 ∨ v1 = 9 ∨ v1 = 10 ∨ v1 = 11 ∨ v1 = 12 ∨ v1 = 13 ∨ v1 = 14 by omega) with hc | hc | hc | hc | hc | hc | hc | hc | hc | hc
        · have H := Hd hc
          refine g_tabOut (t := 172) C dX5_told_34 hr hc (by decide) ?_
          refine g_aload_n (q := 173) C dX5_told_172 rfl 0 rfl rfl ?_
          refine g_get (q := 176) C (by decide) (celr_5 (by decide)) (ci := 5) (i := 4) rfl inlX5 (by decide) wm_1_23 rfl dX5_told_173 rfl ?_
          refine g_getN (q := 179) C (by decide) (celr_0 (by decide)) (ci := 0) (i := 2) rfl inlX0 (by decide) (by decide +kernel) rfl dX5_told_176 rfl ?_
          exact g_iret C hR dX5_told_179 rfl H
        · have H := H.1 hc
          refine g_tabIn (t := 84) C dX5_told_34 hr (by omega) (by rw [hc]; rfl) (by decide) ?_
          refine g_aload_n (q := 85) C dX5_told_84 rfl 0 rfl rfl ?_
          refine g_get (q := 88) C (by decide) (celr_5 (by decide)) (ci := 5) (i := 0) rfl inlX5 (by decide) wm_1_15 rfl dX5_told_85 rfl ?_
          refine g_getN (q := 91) C (isS_6).o.1 (celr_4 (isS_6).o.2) (ci := 4) (i := 2) rfl inlX4 (by decide) (by decide +kernel) rfl dX5_told_88 rfl ?_
          exact g_iret C hR dX5_told_91 rfl H
        · have H := H.2.1 hc
          refine g_tabIn (t := 92) C dX5_told_34 hr (by omega) (by rw [hc]; rfl) (by decide) ?_
          refine g_aload_n (q := 93) C dX5_told_92 rfl 0 rfl rfl ?_
          refine g_get (q := 96) C (by decide) (celr_5 (by decide)) (ci := 5) (i := 5) rfl inlX5 (by decide) wm_2_3 rfl dX5_told_93 rfl ?_
          refine g_getN (q := 99) C (isP_76).o.1 (celr_3 (isP_76).o.2) (ci := 3) (i := 0) rfl inlX3 (by decide) (by decide +kernel) rfl dX5_told_96 rfl ?_
          refine g_getN (q := 102) C ((isP_76).m).o.1 (celr_1 ((isP_76).m).o.2) (ci := 1) (i := 4) rfl inlX1 (by decide) (by decide +kernel) rfl dX5_told_99 rfl ?_
          exact g_iret C hR dX5_told_102 rfl H
        · have H := H.2.2.1 hc
          refine g_tabIn (t := 103) C dX5_told_34 hr (by omega) (by rw [hc]; rfl) (by decide) ?_
          refine g_aload_n (q := 104) C dX5_told_103 rfl 0 rfl rfl ?_
          refine g_get (q := 107) C (by decide) (celr_5 (by decide)) (ci := 5) (i := 5) rfl inlX5 (by decide) wm_2_3 rfl dX5_told_104 rfl ?_
          refine g_iconst (q := 108) C dX5_told_107 rfl ?_
          refine g_iconst (q := 109) C dX5_told_108 rfl ?_
          obtain ⟨p109, hM, H⟩ := H
          refine g_callV (q := 112) (As := [vi 0, vi 0]) (st := []) (na := 2) C mX3_costFrom (isP_76).o.1 (celr_3 (isP_76).o.2) rfl hM wm_14_15 wm_14_16 wm_14_17 wm_2_2 wm_14_18 (by decide +kernel) rfl rfl (by decide) rfl (Nat.le_of_ble_eq_true rfl) dX5_told_109 rfl (fun r109 M109 hp => ?_)
          have H := H r109 M109 hp
          show Gx x 2 112 [(0, vr (xg x) 0), (1, vi v1)] [vi r109] M109
          exact g_iret C hR dX5_told_112 rfl H
        · have H := H.2.2.2.1 hc
          refine g_tabIn (t := 113) C dX5_told_34 hr (by omega) (by rw [hc]; rfl) (by decide) ?_
          refine g_aload_n (q := 114) C dX5_told_113 rfl 0 rfl rfl ?_
          refine g_get (q := 117) C (by decide) (celr_5 (by decide)) (ci := 5) (i := 7) rfl inlX5 (by decide) wm_2_8 rfl dX5_told_114 rfl ?_
          refine g_getN (q := 120) C (isPl_96).o.1 (celr_2 (isPl_96).o.2) (ci := 2) (i := 2) rfl inlX2 (by decide) (by decide +kernel) rfl dX5_told_117 rfl ?_
          exact g_iret C hR dX5_told_120 rfl H
        · have H := H.2.2.2.2.1 hc
          refine g_tabIn (t := 121) C dX5_told_34 hr (by omega) (by rw [hc]; rfl) (by decide) ?_
          refine g_aload_n (q := 122) C dX5_told_121 rfl 0 rfl rfl ?_
          refine g_get (q := 125) C (by decide) (celr_5 (by decide)) (ci := 5) (i := 8) rfl inlX5 (by decide) wm_2_9 rfl dX5_told_122 rfl ?_
          refine g_aload_n (q := 126) C dX5_told_125 rfl 0 rfl rfl ?_
          refine g_get (q := 129) C (by decide) (celr_5 (by decide)) (ci := 5) (i := 5) rfl inlX5 (by decide) wm_2_3 rfl dX5_told_126 rfl ?_
          refine g_getN (q := 132) C (isP_76).o.1 (celr_3 (isP_76).o.2) (ci := 3) (i := 0) rfl inlX3 (by decide) (by decide +kernel) rfl dX5_told_129 rfl ?_
          obtain ⟨p132, hM, H⟩ := H
          refine g_callV (q := 135) (As := [vr (xg x) 77]) (st := []) (na := 1) C mX2_cost (isPl_99).o.1 (celr_2 (isPl_99).o.2) rfl hM wm_18_19 wm_18_20 wm_18_21 wm_2_7 wm_18_22 (by decide +kernel) rfl rfl (by decide) rfl (Nat.le_of_ble_eq_true rfl) dX5_told_132 rfl (fun r132 M132 hp => ?_)
          have H := H r132 M132 hp
          show Gx x 2 135 [(0, vr (xg x) 0), (1, vi v1)] [vi r132] M132
          exact g_iret C hR dX5_told_135 rfl H
        · have H := H.2.2.2.2.2.1 hc
          refine g_tabIn (t := 136) C dX5_told_34 hr (by omega) (by rw [hc]; rfl) (by decide) ?_
          refine g_aload_n (q := 137) C dX5_told_136 rfl 0 rfl rfl ?_
          refine g_get (q := 140) C (by decide) (celr_5 (by decide)) (ci := 5) (i := 8) rfl inlX5 (by decide) wm_2_9 rfl dX5_told_137 rfl ?_
          refine g_getN (q := 143) C (isPl_99).o.1 (celr_2 (isPl_99).o.2) (ci := 2) (i := 2) rfl inlX2 (by decide) (by decide +kernel) rfl dX5_told_140 rfl ?_
          exact g_iret C hR dX5_told_143 rfl H
        · have H := H.2.2.2.2.2.2.1 hc
          refine g_tabIn (t := 144) C dX5_told_34 hr (by omega) (by rw [hc]; rfl) (by decide) ?_
          refine g_aload_n (q := 145) C dX5_told_144 rfl 0 rfl rfl ?_
          refine g_get (q := 148) C (by decide) (celr_5 (by decide)) (ci := 5) (i := 5) rfl inlX5 (by decide) wm_2_3 rfl dX5_told_145 rfl ?_
          refine g_getN (q := 151) C (isP_76).o.1 (celr_3 (isP_76).o.2) (ci := 3) (i := 5) rfl inlX3 (by decide) (by decide +kernel) rfl dX5_told_148 rfl ?_
          exact g_iret C hR dX5_told_151 rfl H
        · have H := H.2.2.2.2.2.2.2.1 hc
          refine g_tabIn (t := 152) C dX5_told_34 hr (by omega) (by rw [hc]; rfl) (by decide) ?_
          refine g_aload_n (q := 153) C dX5_told_152 rfl 0 rfl rfl ?_
          refine g_get (q := 156) C (by decide) (celr_5 (by decide)) (ci := 5) (i := 7) rfl inlX5 (by decide) wm_2_8 rfl dX5_told_153 rfl ?_
          refine g_aload_n (q := 157) C dX5_told_156 rfl 0 rfl rfl ?_
          refine g_get (q := 160) C (by decide) (celr_5 (by decide)) (ci := 5) (i := 5) rfl inlX5 (by decide) wm_2_3 rfl dX5_told_157 rfl ?_
          refine g_getN (q := 163) C (isP_76).o.1 (celr_3 (isP_76).o.2) (ci := 3) (i := 0) rfl inlX3 (by decide) (by decide +kernel) rfl dX5_told_160 rfl ?_
          obtain ⟨p163, hM, H⟩ := H
          refine g_callV (q := 166) (As := [vr (xg x) 77]) (st := []) (na := 1) C mX2_heavy (isPl_96).o.1 (celr_2 (isPl_96).o.2) rfl hM wm_19_18 wm_19_19 wm_19_20 wm_2_7 wm_19_21 (by decide +kernel) rfl rfl (by decide) rfl (Nat.le_of_ble_eq_true rfl) dX5_told_163 rfl (fun r163 M163 hp => ?_)
          have H := H r163 M163 hp
          show Gx x 2 166 [(0, vr (xg x) 0), (1, vi v1)] [vi r163] M163
          exact g_iret C hR dX5_told_166 rfl H
        · have H := H.2.2.2.2.2.2.2.2 hc
          refine g_tabIn (t := 167) C dX5_told_34 hr (by omega) (by rw [hc]; rfl) (by decide) ?_
          refine g_aload_n (q := 168) C dX5_told_167 rfl 0 rfl rfl ?_
          refine g_get (q := 171) C (by decide) (celr_5 (by decide)) (ci := 5) (i := 11) rfl inlX5 (by decide) wm_2_13 rfl dX5_told_168 rfl ?_
          exact g_iret C hR dX5_told_171 rfl H
      · have H := Hf hc
        refine g_aload_n (q := 20) C dX5_told_19 rfl 0 rfl rfl ?_
        refine g_get (q := 23) C (by decide) (celr_5 (by decide)) (ci := 5) (i := 0) rfl inlX5 (by decide) wm_1_15 rfl dX5_told_20 rfl ?_
        refine g_getN (q := 26) C (isS_6).o.1 (celr_4 (isS_6).o.2) (ci := 4) (i := 0) rfl inlX4 (by decide) (by decide +kernel) rfl dX5_told_23 rfl ?_
        refine g_iload_n (q := 27) C dX5_told_26 rfl 1 rfl rfl ?_
        obtain ⟨hc, H⟩ := H
        refine g_iald (q := 28) (m := 6) C ((isS_6).b).1 ((isS_6).b).2.1 ((isS_6).b).2.2 hc (by decide) dX5_told_27 rfl ?_
        exact g_iret C hR dX5_told_28 rfl H
    · have H := Hf hc
      refine g_ldc (q := 12) (z := (-1000000002)) C dX5_told_10 rfl wc_5_4 ?_
      exact g_iret C hR dX5_told_12 rfl H
set_option maxRecDepth 10000 in
set_option maxHeartbeats 2000000 in
theorem X5_figureOf_0 {x : Xx} {post : Int → Mm → Prop} (C : Cx x mX5_figureOf) (hR : Rt x mX5_figureOf post)  (v1 v2 : Int) (M : Mm) (H : ∃ p5 : Int → Mm → Prop, Ct (xl x) (xg x) mX4_has [vr (xg x) 6, vi v1] M p5 ∧ ∀ (r5 : Int) (M5 : Mm), p5 r5 M5 → ((inR r5) ∧ (¬ (r5 = 0) → ((inR v2) ∧ (v2 < 0 → (post (-1000000002) M5)) ∧ (¬ (v2 < 0) → ((inR v2) ∧ (v2 ≤ 7 → ((inR v2) ∧ (4 ≤ v2 → (∃ p45 : Int → Mm → Prop, Ct (xl x) (xg x) mX5_settle [vr (xg x) 0] M5 p45 ∧ ∀ (r45 : Int) (M45 : Mm), p45 r45 M45 → ((inR v2) ∧ ((v2 < 4 ∨ 6 < v2) → (∃ p126 : Int → Mm → Prop, Ct (xl x) (xg x) mX2_pageOfFigure [vr (xg x) 99, vi v1] M45 p126 ∧ ∀ (r126 : Int) (M126 : Mm), p126 r126 M126 → (post r126 M126))) ∧ (v2 = 4 → (∃ p81 : Int → Mm → Prop, Ct (xl x) (xg x) mX2_pageOfFigure [vr (xg x) 96, vi v1] M45 p81 ∧ ∀ (r81 : Int) (M81 : Mm), p81 r81 M81 → (post r81 M81))) ∧ (v2 = 5 → ((0 ≤ v1 ∧ v1 < 10) ∧ (∃ p101 : Int → Mm → Prop, Ct (xl x) (xg x) mX2_pageWithLine [vr (xg x) 96, vi (M45 78 v1)] M45 p101 ∧ ∀ (r101 : Int) (M101 : Mm), p101 r101 M101 → (post r101 M101)))) ∧ (v2 = 6 → (∃ p117 : Int → Mm → Prop, Ct (xl x) (xg x) mX2_costOfFigure [vr (xg x) 96, vr (xg x) 77, vi v1] M45 p117 ∧ ∀ (r117 : Int) (M117 : Mm), p117 r117 M117 → (post r117 M117)))))) ∧ (¬ (4 ≤ v2) → ((0 ≤ v2 ∧ v2 < 4) ∧ ((0 ≤ v1 ∧ v1 < 10) ∧ (post (M5 (6 + 3 + v2.toNat) v1) M5)))))) ∧ (¬ (v2 ≤ 7) → (post (-1000000002) M5)))))) ∧ (r5 = 0 → (post (-1000000001) M5)))) : Gx x 3 0 [(0, vr (xg x) 0), (1, vi v1), (2, vi v2)] [] M := by
  refine g_aload_n (q := 1) C dX5_figureOf_0 rfl 0 rfl rfl ?_
  refine g_get (q := 4) C (by decide) (celr_5 (by decide)) (ci := 5) (i := 0) rfl inlX5 (by decide) wm_1_15 rfl dX5_figureOf_1 rfl ?_
  refine g_iload_n (q := 5) C dX5_figureOf_4 rfl 1 rfl rfl ?_
  obtain ⟨p5, hM, H⟩ := H
  refine g_callV (q := 8) (As := [vi v1]) (st := []) (na := 1) C mX4_has (isS_6).o.1 (celr_4 (isS_6).o.2) rfl hM wm_8_10 wm_8_11 wm_8_12 wm_1_14 wm_8_13 (by decide +kernel) rfl rfl (by decide) rfl (Nat.le_of_ble_eq_true rfl) dX5_figureOf_5 rfl (fun r5 M5 hp => ?_)
  have H := H r5 M5 hp
  show Gx x 3 8 [(0, vr (xg x) 0), (1, vi v1), (2, vi v2)] [vi r5] M5
  obtain ⟨hr, Ht, Hf⟩ := H
  refine g_if_ne (q := 11) (t := 14) C dX5_figureOf_8 rfl (by decide) hr (fun hc => ?_) (fun hc => ?_)
  · have H := Ht hc
    refine g_iload_n (q := 15) C dX5_figureOf_14 rfl 2 rfl rfl ?_
    obtain ⟨hr, Ht, Hf⟩ := H
    refine g_if_lt (q := 18) (t := 24) C dX5_figureOf_15 rfl (by decide) hr (fun hc => ?_) (fun hc => ?_)
    · have H := Ht hc
      refine g_ldc (q := 26) (z := (-1000000002)) C dX5_figureOf_24 rfl wc_5_4 ?_
      exact g_iret C hR dX5_figureOf_26 rfl H
    · have H := Hf hc
      refine g_iload_n (q := 19) C dX5_figureOf_18 rfl 2 rfl rfl ?_
      refine g_bipush (q := 21) C dX5_figureOf_19 rfl (by decide) ?_
      obtain ⟨hr, Ht, Hf⟩ := H
      refine g_icmp_le (q := 24) (t := 27) C dX5_figureOf_21 rfl (by decide) ⟨hr, by decide⟩ (fun hc => ?_) (fun hc => ?_)
      · have H := Ht hc
        refine g_iload_n (q := 28) C dX5_figureOf_27 rfl 2 rfl rfl ?_
        refine g_iconst (q := 29) C dX5_figureOf_28 rfl ?_
        obtain ⟨hr, Ht, Hf⟩ := H
        refine g_icmp_ge (q := 32) (t := 44) C dX5_figureOf_29 rfl (by decide) ⟨hr, by decide⟩ (fun hc => ?_) (fun hc => ?_)
        · have H := Ht hc
          refine g_aload_n (q := 45) C dX5_figureOf_44 rfl 0 rfl rfl ?_
          obtain ⟨p45, hM, H⟩ := H
          refine g_callV (q := 48) (As := []) (st := []) (na := 0) C mX5_settle (by decide) (celr_5 (by decide)) rfl hM wm_10_8 wm_10_9 wm_10_10 wm_1_2 wm_10_11 (by decide +kernel) rfl rfl (by decide) rfl (Nat.le_of_ble_eq_true rfl) dX5_figureOf_45 rfl (fun r45 M45 hp => ?_)
          have H := H r45 M45 hp
          show Gx x 3 48 [(0, vr (xg x) 0), (1, vi v1), (2, vi v2)] [] M45
          refine g_iload_n (q := 49) C dX5_figureOf_48 rfl 2 rfl rfl ?_
          obtain ⟨hr, Hd, H⟩ := H
          rcases (show (v2 < 4 ∨ 6 < v2) ∨ v2 = 4 ∨ v2 = 5 ∨ v2 = 6 by omega) with hc | hc | hc | hc
          · have H := Hd hc
            refine g_tabOut (t := 121) C dX5_figureOf_49 hr hc (by decide) ?_
            refine g_aload_n (q := 122) C dX5_figureOf_121 rfl 0 rfl rfl ?_
            refine g_get (q := 125) C (by decide) (celr_5 (by decide)) (ci := 5) (i := 8) rfl inlX5 (by decide) wm_2_9 rfl dX5_figureOf_122 rfl ?_
            refine g_iload_n (q := 126) C dX5_figureOf_125 rfl 1 rfl rfl ?_
            obtain ⟨p126, hM, H⟩ := H
            refine g_callV (q := 129) (As := [vi v1]) (st := []) (na := 1) C mX2_pageOfFigure (isPl_99).o.1 (celr_2 (isPl_99).o.2) rfl hM wm_22_8 wm_19_7 wm_19_8 wm_2_7 wm_19_9 (by decide +kernel) rfl rfl (by decide) rfl (Nat.le_of_ble_eq_true rfl) dX5_figureOf_126 rfl (fun r126 M126 hp => ?_)
            have H := H r126 M126 hp
            show Gx x 3 129 [(0, vr (xg x) 0), (1, vi v1), (2, vi v2)] [vi r126] M126
            exact g_iret C hR dX5_figureOf_129 rfl H
          · have H := H.1 hc
            refine g_tabIn (t := 76) C dX5_figureOf_49 hr (by omega) (by rw [hc]; rfl) (by decide) ?_
            refine g_aload_n (q := 77) C dX5_figureOf_76 rfl 0 rfl rfl ?_
            refine g_get (q := 80) C (by decide) (celr_5 (by decide)) (ci := 5) (i := 7) rfl inlX5 (by decide) wm_2_8 rfl dX5_figureOf_77 rfl ?_
            refine g_iload_n (q := 81) C dX5_figureOf_80 rfl 1 rfl rfl ?_
            obtain ⟨p81, hM, H⟩ := H
            refine g_callV (q := 84) (As := [vi v1]) (st := []) (na := 1) C mX2_pageOfFigure (isPl_96).o.1 (celr_2 (isPl_96).o.2) rfl hM wm_22_8 wm_19_7 wm_19_8 wm_2_7 wm_19_9 (by decide +kernel) rfl rfl (by decide) rfl (Nat.le_of_ble_eq_true rfl) dX5_figureOf_81 rfl (fun r81 M81 hp => ?_)
            have H := H r81 M81 hp
            show Gx x 3 84 [(0, vr (xg x) 0), (1, vi v1), (2, vi v2)] [vi r81] M81
            exact g_iret C hR dX5_figureOf_84 rfl H
          · have H := H.2.1 hc
            refine g_tabIn (t := 85) C dX5_figureOf_49 hr (by omega) (by rw [hc]; rfl) (by decide) ?_
            refine g_aload_n (q := 86) C dX5_figureOf_85 rfl 0 rfl rfl ?_
            refine g_get (q := 89) C (by decide) (celr_5 (by decide)) (ci := 5) (i := 7) rfl inlX5 (by decide) wm_2_8 rfl dX5_figureOf_86 rfl ?_
            refine g_aload_n (q := 90) C dX5_figureOf_89 rfl 0 rfl rfl ?_
            refine g_get (q := 93) C (by decide) (celr_5 (by decide)) (ci := 5) (i := 5) rfl inlX5 (by decide) wm_2_3 rfl dX5_figureOf_90 rfl ?_
            refine g_getN (q := 96) C (isP_76).o.1 (celr_3 (isP_76).o.2) (ci := 3) (i := 0) rfl inlX3 (by decide) (by decide +kernel) rfl dX5_figureOf_93 rfl ?_
            refine g_getN (q := 99) C ((isP_76).m).o.1 (celr_1 ((isP_76).m).o.2) (ci := 1) (i := 5) rfl inlX1 (by decide) (by decide +kernel) rfl dX5_figureOf_96 rfl ?_
            refine g_iload_n (q := 100) C dX5_figureOf_99 rfl 1 rfl rfl ?_
            obtain ⟨hc, H⟩ := H
            refine g_iald (q := 101) (m := 10) C (((isP_76).m).a1).1 (((isP_76).m).a1).2.1 (((isP_76).m).a1).2.2 hc (by decide) dX5_figureOf_100 rfl ?_
            obtain ⟨p101, hM, H⟩ := H
            refine g_callV (q := 104) (As := [vi (M45 78 v1)]) (st := []) (na := 1) C mX2_pageWithLine (isPl_96).o.1 (celr_2 (isPl_96).o.2) rfl hM wm_22_9 wm_19_15 wm_19_16 wm_2_7 wm_19_17 (by decide +kernel) rfl rfl (by decide) rfl (Nat.le_of_ble_eq_true rfl) dX5_figureOf_101 rfl (fun r101 M101 hp => ?_)
            have H := H r101 M101 hp
            show Gx x 3 104 [(0, vr (xg x) 0), (1, vi v1), (2, vi v2)] [vi r101] M101
            exact g_iret C hR dX5_figureOf_104 rfl H
          · have H := H.2.2 hc
            refine g_tabIn (t := 105) C dX5_figureOf_49 hr (by omega) (by rw [hc]; rfl) (by decide) ?_
            refine g_aload_n (q := 106) C dX5_figureOf_105 rfl 0 rfl rfl ?_
            refine g_get (q := 109) C (by decide) (celr_5 (by decide)) (ci := 5) (i := 7) rfl inlX5 (by decide) wm_2_8 rfl dX5_figureOf_106 rfl ?_
            refine g_aload_n (q := 110) C dX5_figureOf_109 rfl 0 rfl rfl ?_
            refine g_get (q := 113) C (by decide) (celr_5 (by decide)) (ci := 5) (i := 5) rfl inlX5 (by decide) wm_2_3 rfl dX5_figureOf_110 rfl ?_
            refine g_getN (q := 116) C (isP_76).o.1 (celr_3 (isP_76).o.2) (ci := 3) (i := 0) rfl inlX3 (by decide) (by decide +kernel) rfl dX5_figureOf_113 rfl ?_
            refine g_iload_n (q := 117) C dX5_figureOf_116 rfl 1 rfl rfl ?_
            obtain ⟨p117, hM, H⟩ := H
            refine g_callV (q := 120) (As := [vr (xg x) 77, vi v1]) (st := []) (na := 2) C mX2_costOfFigure (isPl_96).o.1 (celr_2 (isPl_96).o.2) rfl hM wm_22_10 wm_19_0 wm_19_1 wm_2_7 wm_19_2 (by decide +kernel) rfl rfl (by decide) rfl (Nat.le_of_ble_eq_true rfl) dX5_figureOf_117 rfl (fun r117 M117 hp => ?_)
            have H := H r117 M117 hp
            show Gx x 3 120 [(0, vr (xg x) 0), (1, vi v1), (2, vi v2)] [vi r117] M117
            exact g_iret C hR dX5_figureOf_120 rfl H
        · have H := Hf hc
          refine g_aload_n (q := 33) C dX5_figureOf_32 rfl 0 rfl rfl ?_
          refine g_get (q := 36) C (by decide) (celr_5 (by decide)) (ci := 5) (i := 0) rfl inlX5 (by decide) wm_1_15 rfl dX5_figureOf_33 rfl ?_
          refine g_getN (q := 39) C (isS_6).o.1 (celr_4 (isS_6).o.2) (ci := 4) (i := 1) rfl inlX4 (by decide) (by decide +kernel) rfl dX5_figureOf_36 rfl ?_
          refine g_iload_n (q := 40) C dX5_figureOf_39 rfl 2 rfl rfl ?_
          obtain ⟨hc, H⟩ := H
          have hq40 := isS.ri isS_6 hc
          refine g_aald (q := 41) (r := 6 + 3 + v2.toNat) C ((isS_6).p).1 ((isS_6).p).2.1 ((isS_6).p).2.2 hc (by decide) (isS.f isS_6 _) dX5_figureOf_40 rfl ?_
          refine g_iload_n (q := 42) C dX5_figureOf_41 rfl 1 rfl rfl ?_
          obtain ⟨hc, H⟩ := H
          refine g_iald (q := 43) (m := 10) C (hq40).1 (hq40).2.1 (hq40).2.2 hc (by decide) dX5_figureOf_42 rfl ?_
          exact g_iret C hR dX5_figureOf_43 rfl H
      · have H := Hf hc
        refine g_ldc (q := 26) (z := (-1000000002)) C dX5_figureOf_24 rfl wc_5_4 ?_
        exact g_iret C hR dX5_figureOf_26 rfl H
  · have H := Hf hc
    refine g_ldc (q := 13) (z := (-1000000001)) C dX5_figureOf_11 rfl wc_8_9 ?_
    exact g_iret C hR dX5_figureOf_13 rfl H
set_option maxRecDepth 10000 in
set_option maxHeartbeats 2000000 in
theorem X5_page_0 {x : Xx} {post : Int → Mm → Prop} (C : Cx x mX5_page) (hR : Rt x mX5_page post)  (v1 v2 : Int) (M : Mm) (H : ∃ p1 : Int → Mm → Prop, Ct (xl x) (xg x) mX5_settle [vr (xg x) 0] M p1 ∧ ∀ (r1 : Int) (M1 : Mm), p1 r1 M1 → ((inR v1) ∧ (v1 < 0 → (post (-1000000001) M1)) ∧ (¬ (v1 < 0) → ((inR v1 ∧ inR (M1 96 2)) ∧ (v1 < M1 96 2 → ((inR v2) ∧ (v2 < 0 → (post (-1000000002) M1)) ∧ (¬ (v2 < 0) → ((inR v2) ∧ (v2 ≤ 6 → ((0 ≤ v1 + 1 ∧ v1 + 1 < 31) ∧ ((0 ≤ v1 ∧ v1 < 31) ∧ (∀ w64 : Int, w64 = ((M1 97 (v1 + 1)) - (M1 97 v1)) → ((0 ≤ v1 + 1 ∧ v1 + 1 < 31) ∧ ((0 ≤ M1 98 (v1 + 1) ∧ M1 98 (v1 + 1) < 11) ∧ ((0 ≤ v1 ∧ v1 < 31) ∧ ((0 ≤ M1 98 v1 ∧ M1 98 v1 < 11) ∧ (∀ w97 : Int, w97 = ((M1 81 (M1 98 (v1 + 1))) - (M1 81 (M1 98 v1))) → ((inR v2) ∧ ((v2 < 0 ∨ 5 < v2) → ((0 ≤ v1 + 1 ∧ v1 + 1 < 31) ∧ ((0 ≤ v1 + 1 ∧ v1 + 1 < 31) ∧ (∃ p248 : Int → Mm → Prop, Ct (xl x) (xg x) mX1_unmentioned [vr (xg x) 77, vi (M1 97 (v1 + 1)), vi (M1 98 (v1 + 1))] M1 p248 ∧ ∀ (r248 : Int) (M248 : Mm), p248 r248 M248 → (post r248 M248))))) ∧ (v2 = 0 → ((0 ≤ v1 + 1 ∧ v1 + 1 < 31) ∧ ((0 ≤ v1 ∧ v1 < 31) ∧ (post ((M1 98 (v1 + 1)) - (M1 98 v1)) M1)))) ∧ (v2 = 1 → (post w64 M1)) ∧ (v2 = 2 → ((inR w64) ∧ (¬ (w64 = 0) → ((0 ≤ v1 ∧ v1 < 31) ∧ (post (M1 97 v1) M1))) ∧ (w64 = 0 → (post (-1) M1)))) ∧ (v2 = 3 → (post w97 M1)) ∧ (v2 = 4 → (post (((M1 77 2) - w97) - w64) M1)) ∧ (v2 = 5 → ((0 ≤ v1 + 1 ∧ v1 + 1 < 31) ∧ ((0 ≤ v1 + 1 ∧ v1 + 1 < 31) ∧ (∃ p221 : Int → Mm → Prop, Ct (xl x) (xg x) mX1_waiting [vr (xg x) 77, vi (M1 97 (v1 + 1)), vi (M1 98 (v1 + 1))] M1 p221 ∧ ∀ (r221 : Int) (M221 : Mm), p221 r221 M221 → (post r221 M221))))))))))))))) ∧ (¬ (v2 ≤ 6) → (post (-1000000002) M1)))))) ∧ (¬ (v1 < M1 96 2) → (post (-1000000001) M1)))))) : Gx x 6 0 [(0, vr (xg x) 0), (1, vi v1), (2, vi v2)] [] M := by
  refine g_aload_n (q := 1) C dX5_page_0 rfl 0 rfl rfl ?_
  obtain ⟨p1, hM, H⟩ := H
  refine g_callV (q := 4) (As := []) (st := []) (na := 0) C mX5_settle (by decide) (celr_5 (by decide)) rfl hM wm_10_8 wm_10_9 wm_10_10 wm_1_2 wm_10_11 (by decide +kernel) rfl rfl (by decide) rfl (Nat.le_of_ble_eq_true rfl) dX5_page_1 rfl (fun r1 M1 hp => ?_)
  have H := H r1 M1 hp
  show Gx x 6 4 [(0, vr (xg x) 0), (1, vi v1), (2, vi v2)] [] M1
  refine g_iload_n (q := 5) C dX5_page_4 rfl 1 rfl rfl ?_
  obtain ⟨hr, Ht, Hf⟩ := H
  refine g_if_lt (q := 8) (t := 19) C dX5_page_5 rfl (by decide) hr (fun hc => ?_) (fun hc => ?_)
  · have H := Ht hc
    refine g_ldc (q := 21) (z := (-1000000001)) C dX5_page_19 rfl wc_8_9 ?_
    exact g_iret C hR dX5_page_21 rfl H
  · have H := Hf hc
    refine g_iload_n (q := 9) C dX5_page_8 rfl 1 rfl rfl ?_
    refine g_aload_n (q := 10) C dX5_page_9 rfl 0 rfl rfl ?_
    refine g_get (q := 13) C (by decide) (celr_5 (by decide)) (ci := 5) (i := 7) rfl inlX5 (by decide) wm_2_8 rfl dX5_page_10 rfl ?_
    refine g_getN (q := 16) C (isPl_96).o.1 (celr_2 (isPl_96).o.2) (ci := 2) (i := 2) rfl inlX2 (by decide) (by decide +kernel) rfl dX5_page_13 rfl ?_
    obtain ⟨hr, Ht, Hf⟩ := H
    refine g_icmp_lt (q := 19) (t := 22) C dX5_page_16 rfl (by decide) hr (fun hc => ?_) (fun hc => ?_)
    · have H := Ht hc
      refine g_iload_n (q := 23) C dX5_page_22 rfl 2 rfl rfl ?_
      obtain ⟨hr, Ht, Hf⟩ := H
      refine g_if_lt (q := 26) (t := 32) C dX5_page_23 rfl (by decide) hr (fun hc => ?_) (fun hc => ?_)
      · have H := Ht hc
        refine g_ldc (q := 34) (z := (-1000000002)) C dX5_page_32 rfl wc_5_4 ?_
        exact g_iret C hR dX5_page_34 rfl H
      · have H := Hf hc
        refine g_iload_n (q := 27) C dX5_page_26 rfl 2 rfl rfl ?_
        refine g_bipush (q := 29) C dX5_page_27 rfl (by decide) ?_
        obtain ⟨hr, Ht, Hf⟩ := H
        refine g_icmp_le (q := 32) (t := 35) C dX5_page_29 rfl (by decide) ⟨hr, by decide⟩ (fun hc => ?_) (fun hc => ?_)
        · have H := Ht hc
          refine g_aload_n (q := 36) C dX5_page_35 rfl 0 rfl rfl ?_
          refine g_get (q := 39) C (by decide) (celr_5 (by decide)) (ci := 5) (i := 5) rfl inlX5 (by decide) wm_2_3 rfl dX5_page_36 rfl ?_
          refine g_getN (q := 42) C (isP_76).o.1 (celr_3 (isP_76).o.2) (ci := 3) (i := 0) rfl inlX3 (by decide) (by decide +kernel) rfl dX5_page_39 rfl ?_
          refine g_astore_n (q := 43) (L2 := [(3, vr (xg x) 77), (0, vr (xg x) 0), (1, vi v1), (2, vi v2)]) C dX5_page_42 rfl rfl (by decide) rfl ?_
          refine g_aload_n (q := 44) C dX5_page_43 rfl 1 rfl rfl ?_
          refine g_get (q := 47) C (by decide) (celr_5 (by decide)) (ci := 5) (i := 7) rfl inlX5 (by decide) wm_2_8 rfl dX5_page_44 rfl ?_
          refine g_getN (q := 50) C (isPl_96).o.1 (celr_2 (isPl_96).o.2) (ci := 2) (i := 0) rfl inlX2 (by decide) (by decide +kernel) rfl dX5_page_47 rfl ?_
          refine g_iload_n (q := 51) C dX5_page_50 rfl 2 rfl rfl ?_
          refine g_iconst (q := 52) C dX5_page_51 rfl ?_
          refine g_iadd (q := 53) C dX5_page_52 rfl ?_
          obtain ⟨hc, H⟩ := H
          refine g_iald (q := 54) (m := 31) C ((isPl_96).a1).1 ((isPl_96).a1).2.1 ((isPl_96).a1).2.2 hc (by decide) dX5_page_53 rfl ?_
          refine g_aload_n (q := 55) C dX5_page_54 rfl 1 rfl rfl ?_
          refine g_get (q := 58) C (by decide) (celr_5 (by decide)) (ci := 5) (i := 7) rfl inlX5 (by decide) wm_2_8 rfl dX5_page_55 rfl ?_
          refine g_getN (q := 61) C (isPl_96).o.1 (celr_2 (isPl_96).o.2) (ci := 2) (i := 0) rfl inlX2 (by decide) (by decide +kernel) rfl dX5_page_58 rfl ?_
          refine g_iload_n (q := 62) C dX5_page_61 rfl 2 rfl rfl ?_
          obtain ⟨hc, H⟩ := H
          refine g_iald (q := 63) (m := 31) C ((isPl_96).a1).1 ((isPl_96).a1).2.1 ((isPl_96).a1).2.2 hc (by decide) dX5_page_62 rfl ?_
          refine g_isub (q := 64) C dX5_page_63 rfl ?_
          refine g_topi (fun w64 hw64 => ?_)
          have H := H w64 hw64
          refine g_istore (q := 66) (L2 := [(4, vi w64), (3, vr (xg x) 77), (0, vr (xg x) 0), (1, vi v1), (2, vi v2)]) C dX5_page_64 rfl (by decide) rfl ?_
          refine g_aload_n (q := 67) C dX5_page_66 rfl 1 rfl rfl ?_
          refine g_getN (q := 70) C ((isP_76).m).o.1 (celr_1 ((isP_76).m).o.2) (ci := 1) (i := 8) rfl inlX1 (by decide) (by decide +kernel) rfl dX5_page_67 rfl ?_
          refine g_aload_n (q := 71) C dX5_page_70 rfl 2 rfl rfl ?_
          refine g_get (q := 74) C (by decide) (celr_5 (by decide)) (ci := 5) (i := 7) rfl inlX5 (by decide) wm_2_8 rfl dX5_page_71 rfl ?_
          refine g_getN (q := 77) C (isPl_96).o.1 (celr_2 (isPl_96).o.2) (ci := 2) (i := 1) rfl inlX2 (by decide) (by decide +kernel) rfl dX5_page_74 rfl ?_
          refine g_iload_n (q := 78) C dX5_page_77 rfl 3 rfl rfl ?_
          refine g_iconst (q := 79) C dX5_page_78 rfl ?_
          refine g_iadd (q := 80) C dX5_page_79 rfl ?_
          obtain ⟨hc, H⟩ := H
          refine g_iald (q := 81) (m := 31) C ((isPl_96).a2).1 ((isPl_96).a2).2.1 ((isPl_96).a2).2.2 hc (by decide) dX5_page_80 rfl ?_
          obtain ⟨hc, H⟩ := H
          refine g_iald (q := 82) (m := 11) C (((isP_76).m).a4).1 (((isP_76).m).a4).2.1 (((isP_76).m).a4).2.2 hc (by decide) dX5_page_81 rfl ?_
          refine g_aload_n (q := 83) C dX5_page_82 rfl 1 rfl rfl ?_
          refine g_getN (q := 86) C ((isP_76).m).o.1 (celr_1 ((isP_76).m).o.2) (ci := 1) (i := 8) rfl inlX1 (by decide) (by decide +kernel) rfl dX5_page_83 rfl ?_
          refine g_aload_n (q := 87) C dX5_page_86 rfl 2 rfl rfl ?_
          refine g_get (q := 90) C (by decide) (celr_5 (by decide)) (ci := 5) (i := 7) rfl inlX5 (by decide) wm_2_8 rfl dX5_page_87 rfl ?_
          refine g_getN (q := 93) C (isPl_96).o.1 (celr_2 (isPl_96).o.2) (ci := 2) (i := 1) rfl inlX2 (by decide) (by decide +kernel) rfl dX5_page_90 rfl ?_
          refine g_iload_n (q := 94) C dX5_page_93 rfl 3 rfl rfl ?_
          obtain ⟨hc, H⟩ := H
          refine g_iald (q := 95) (m := 31) C ((isPl_96).a2).1 ((isPl_96).a2).2.1 ((isPl_96).a2).2.2 hc (by decide) dX5_page_94 rfl ?_
          obtain ⟨hc, H⟩ := H
          refine g_iald (q := 96) (m := 11) C (((isP_76).m).a4).1 (((isP_76).m).a4).2.1 (((isP_76).m).a4).2.2 hc (by decide) dX5_page_95 rfl ?_
          refine g_isub (q := 97) C dX5_page_96 rfl ?_
          refine g_topi (fun w97 hw97 => ?_)
          have H := H w97 hw97
          refine g_istore (q := 99) (L2 := [(5, vi w97), (4, vi w64), (3, vr (xg x) 77), (0, vr (xg x) 0), (1, vi v1), (2, vi v2)]) C dX5_page_97 rfl (by decide) rfl ?_
          refine g_iload_n (q := 100) C dX5_page_99 rfl 5 rfl rfl ?_
          obtain ⟨hr, Hd, H⟩ := H
          rcases (show (v2 < 0 ∨ 5 < v2) ∨ v2 = 0 ∨ v2 = 1 ∨ v2 = 2 ∨ v2 = 3 ∨ v2 = 4 ∨ v2 = 5 by omega) with hc | hc | hc | hc | hc | hc | hc
          · have H := Hd hc
            refine g_tabOut (t := 225) C dX5_page_100 hr hc (by decide) ?_
            refine g_aload_n (q := 226) C dX5_page_225 rfl 2 rfl rfl ?_
            refine g_aload_n (q := 227) C dX5_page_226 rfl 3 rfl rfl ?_
            refine g_get (q := 230) C (by decide) (celr_5 (by decide)) (ci := 5) (i := 7) rfl inlX5 (by decide) wm_2_8 rfl dX5_page_227 rfl ?_
            refine g_getN (q := 233) C (isPl_96).o.1 (celr_2 (isPl_96).o.2) (ci := 2) (i := 0) rfl inlX2 (by decide) (by decide +kernel) rfl dX5_page_230 rfl ?_
            refine g_iload_n (q := 234) C dX5_page_233 rfl 4 rfl rfl ?_
            refine g_iconst (q := 235) C dX5_page_234 rfl ?_
            refine g_iadd (q := 236) C dX5_page_235 rfl ?_
            obtain ⟨hc, H⟩ := H
            refine g_iald (q := 237) (m := 31) C ((isPl_96).a1).1 ((isPl_96).a1).2.1 ((isPl_96).a1).2.2 hc (by decide) dX5_page_236 rfl ?_
            refine g_aload_n (q := 238) C dX5_page_237 rfl 3 rfl rfl ?_
            refine g_get (q := 241) C (by decide) (celr_5 (by decide)) (ci := 5) (i := 7) rfl inlX5 (by decide) wm_2_8 rfl dX5_page_238 rfl ?_
            refine g_getN (q := 244) C (isPl_96).o.1 (celr_2 (isPl_96).o.2) (ci := 2) (i := 1) rfl inlX2 (by decide) (by decide +kernel) rfl dX5_page_241 rfl ?_
            refine g_iload_n (q := 245) C dX5_page_244 rfl 4 rfl rfl ?_
            refine g_iconst (q := 246) C dX5_page_245 rfl ?_
            refine g_iadd (q := 247) C dX5_page_246 rfl ?_
            obtain ⟨hc, H⟩ := H
            refine g_iald (q := 248) (m := 31) C ((isPl_96).a2).1 ((isPl_96).a2).2.1 ((isPl_96).a2).2.2 hc (by decide) dX5_page_247 rfl ?_
            obtain ⟨p248, hM, H⟩ := H
            refine g_callV (q := 251) (As := [vi (M1 97 (v1 + 1)), vi (M1 98 (v1 + 1))]) (st := []) (na := 2) C mX1_unmentioned ((isP_76).m).o.1 (celr_1 ((isP_76).m).o.2) rfl hM wm_22_23 wm_23_0 wm_23_1 wm_3_11 wm_23_2 (by decide +kernel) rfl rfl (by decide) rfl (Nat.le_of_ble_eq_true rfl) dX5_page_248 rfl (fun r248 M248 hp => ?_)
            have H := H r248 M248 hp
            show Gx x 6 251 [(5, vi w97), (4, vi w64), (3, vr (xg x) 77), (0, vr (xg x) 0), (1, vi v1), (2, vi v2)] [vi r248] M248
            exact g_iret C hR dX5_page_251 rfl H
          · have H := H.1 hc
            refine g_tabIn (t := 140) C dX5_page_100 hr (by omega) (by rw [hc]; rfl) (by decide) ?_
            refine g_aload_n (q := 141) C dX5_page_140 rfl 3 rfl rfl ?_
            refine g_get (q := 144) C (by decide) (celr_5 (by decide)) (ci := 5) (i := 7) rfl inlX5 (by decide) wm_2_8 rfl dX5_page_141 rfl ?_
            refine g_getN (q := 147) C (isPl_96).o.1 (celr_2 (isPl_96).o.2) (ci := 2) (i := 1) rfl inlX2 (by decide) (by decide +kernel) rfl dX5_page_144 rfl ?_
            refine g_iload_n (q := 148) C dX5_page_147 rfl 4 rfl rfl ?_
            refine g_iconst (q := 149) C dX5_page_148 rfl ?_
            refine g_iadd (q := 150) C dX5_page_149 rfl ?_
            obtain ⟨hc, H⟩ := H
            refine g_iald (q := 151) (m := 31) C ((isPl_96).a2).1 ((isPl_96).a2).2.1 ((isPl_96).a2).2.2 hc (by decide) dX5_page_150 rfl ?_
            refine g_aload_n (q := 152) C dX5_page_151 rfl 3 rfl rfl ?_
            refine g_get (q := 155) C (by decide) (celr_5 (by decide)) (ci := 5) (i := 7) rfl inlX5 (by decide) wm_2_8 rfl dX5_page_152 rfl ?_
            refine g_getN (q := 158) C (isPl_96).o.1 (celr_2 (isPl_96).o.2) (ci := 2) (i := 1) rfl inlX2 (by decide) (by decide +kernel) rfl dX5_page_155 rfl ?_
            refine g_iload_n (q := 159) C dX5_page_158 rfl 4 rfl rfl ?_
            obtain ⟨hc, H⟩ := H
            refine g_iald (q := 160) (m := 31) C ((isPl_96).a2).1 ((isPl_96).a2).2.1 ((isPl_96).a2).2.2 hc (by decide) dX5_page_159 rfl ?_
            refine g_isub (q := 161) C dX5_page_160 rfl ?_
            exact g_iret C hR dX5_page_161 rfl H
          · have H := H.2.1 hc
            refine g_tabIn (t := 162) C dX5_page_100 hr (by omega) (by rw [hc]; rfl) (by decide) ?_
            refine g_iload (q := 164) C dX5_page_162 rfl 1 rfl ?_
            exact g_iret C hR dX5_page_164 rfl H
          · have H := H.2.2.1 hc
            refine g_tabIn (t := 165) C dX5_page_100 hr (by omega) (by rw [hc]; rfl) (by decide) ?_
            refine g_iload (q := 167) C dX5_page_165 rfl 1 rfl ?_
            obtain ⟨hr, Ht, Hf⟩ := H
            refine g_if_ne (q := 170) (t := 174) C dX5_page_167 rfl (by decide) hr (fun hc => ?_) (fun hc => ?_)
            · have H := Ht hc
              refine g_aload_n (q := 175) C dX5_page_174 rfl 3 rfl rfl ?_
              refine g_get (q := 178) C (by decide) (celr_5 (by decide)) (ci := 5) (i := 7) rfl inlX5 (by decide) wm_2_8 rfl dX5_page_175 rfl ?_
              refine g_getN (q := 181) C (isPl_96).o.1 (celr_2 (isPl_96).o.2) (ci := 2) (i := 0) rfl inlX2 (by decide) (by decide +kernel) rfl dX5_page_178 rfl ?_
              refine g_iload_n (q := 182) C dX5_page_181 rfl 4 rfl rfl ?_
              obtain ⟨hc, H⟩ := H
              refine g_iald (q := 183) (m := 31) C ((isPl_96).a1).1 ((isPl_96).a1).2.1 ((isPl_96).a1).2.2 hc (by decide) dX5_page_182 rfl ?_
              exact g_iret C hR dX5_page_183 rfl H
            · have H := Hf hc
              refine g_iconst (q := 171) C dX5_page_170 rfl ?_
              refine g_goto (t := 183) C dX5_page_171 (by decide) ?_
              exact g_iret C hR dX5_page_183 rfl H
          · have H := H.2.2.2.1 hc
            refine g_tabIn (t := 184) C dX5_page_100 hr (by omega) (by rw [hc]; rfl) (by decide) ?_
            refine g_iload (q := 186) C dX5_page_184 rfl 0 rfl ?_
            exact g_iret C hR dX5_page_186 rfl H
          · have H := H.2.2.2.2.1 hc
            refine g_tabIn (t := 187) C dX5_page_100 hr (by omega) (by rw [hc]; rfl) (by decide) ?_
            refine g_aload_n (q := 188) C dX5_page_187 rfl 2 rfl rfl ?_
            refine g_getN (q := 191) C ((isP_76).m).o.1 (celr_1 ((isP_76).m).o.2) (ci := 1) (i := 2) rfl inlX1 (by decide) (by decide +kernel) rfl dX5_page_188 rfl ?_
            refine g_iload (q := 193) C dX5_page_191 rfl 0 rfl ?_
            refine g_isub (q := 194) C dX5_page_193 rfl ?_
            refine g_iload (q := 196) C dX5_page_194 rfl 1 rfl ?_
            refine g_isub (q := 197) C dX5_page_196 rfl ?_
            exact g_iret C hR dX5_page_197 rfl H
          · have H := H.2.2.2.2.2 hc
            refine g_tabIn (t := 198) C dX5_page_100 hr (by omega) (by rw [hc]; rfl) (by decide) ?_
            refine g_aload_n (q := 199) C dX5_page_198 rfl 2 rfl rfl ?_
            refine g_aload_n (q := 200) C dX5_page_199 rfl 3 rfl rfl ?_
            refine g_get (q := 203) C (by decide) (celr_5 (by decide)) (ci := 5) (i := 7) rfl inlX5 (by decide) wm_2_8 rfl dX5_page_200 rfl ?_
            refine g_getN (q := 206) C (isPl_96).o.1 (celr_2 (isPl_96).o.2) (ci := 2) (i := 0) rfl inlX2 (by decide) (by decide +kernel) rfl dX5_page_203 rfl ?_
            refine g_iload_n (q := 207) C dX5_page_206 rfl 4 rfl rfl ?_
            refine g_iconst (q := 208) C dX5_page_207 rfl ?_
            refine g_iadd (q := 209) C dX5_page_208 rfl ?_
            obtain ⟨hc, H⟩ := H
            refine g_iald (q := 210) (m := 31) C ((isPl_96).a1).1 ((isPl_96).a1).2.1 ((isPl_96).a1).2.2 hc (by decide) dX5_page_209 rfl ?_
            refine g_aload_n (q := 211) C dX5_page_210 rfl 3 rfl rfl ?_
            refine g_get (q := 214) C (by decide) (celr_5 (by decide)) (ci := 5) (i := 7) rfl inlX5 (by decide) wm_2_8 rfl dX5_page_211 rfl ?_
            refine g_getN (q := 217) C (isPl_96).o.1 (celr_2 (isPl_96).o.2) (ci := 2) (i := 1) rfl inlX2 (by decide) (by decide +kernel) rfl dX5_page_214 rfl ?_
            refine g_iload_n (q := 218) C dX5_page_217 rfl 4 rfl rfl ?_
            refine g_iconst (q := 219) C dX5_page_218 rfl ?_
            refine g_iadd (q := 220) C dX5_page_219 rfl ?_
            obtain ⟨hc, H⟩ := H
            refine g_iald (q := 221) (m := 31) C ((isPl_96).a2).1 ((isPl_96).a2).2.1 ((isPl_96).a2).2.2 hc (by decide) dX5_page_220 rfl ?_
            obtain ⟨p221, hM, H⟩ := H
            refine g_callV (q := 224) (As := [vi (M1 97 (v1 + 1)), vi (M1 98 (v1 + 1))]) (st := []) (na := 2) C mX1_waiting ((isP_76).m).o.1 (celr_1 ((isP_76).m).o.2) rfl hM wm_22_19 wm_22_20 wm_22_21 wm_3_11 wm_22_22 (by decide +kernel) rfl rfl (by decide) rfl (Nat.le_of_ble_eq_true rfl) dX5_page_221 rfl (fun r221 M221 hp => ?_)
            have H := H r221 M221 hp
            show Gx x 6 224 [(5, vi w97), (4, vi w64), (3, vr (xg x) 77), (0, vr (xg x) 0), (1, vi v1), (2, vi v2)] [vi r221] M221
            exact g_iret C hR dX5_page_224 rfl H
        · have H := Hf hc
          refine g_ldc (q := 34) (z := (-1000000002)) C dX5_page_32 rfl wc_5_4 ?_
          exact g_iret C hR dX5_page_34 rfl H
    · have H := Hf hc
      refine g_ldc (q := 21) (z := (-1000000001)) C dX5_page_19 rfl wc_8_9 ?_
      exact g_iret C hR dX5_page_21 rfl H
set_option maxRecDepth 10000 in
set_option maxHeartbeats 2000000 in
theorem X5_pageOf_0 {x : Xx} {post : Int → Mm → Prop} (C : Cx x mX5_pageOf) (hR : Rt x mX5_pageOf post)  (v1 : Int) (M : Mm) (H : (inR v1) ∧ (v1 < 0 → (post (-1000000001) M)) ∧ (¬ (v1 < 0) → ((inR v1 ∧ inR (M 7 0)) ∧ (v1 < M 7 0 → (∃ p21 : Int → Mm → Prop, Ct (xl x) (xg x) mX5_settle [vr (xg x) 0] M p21 ∧ ∀ (r21 : Int) (M21 : Mm), p21 r21 M21 → ((inR (M21 96 2)) ∧ (¬ (M21 96 2 = (-1)) → (∃ p45 : Int → Mm → Prop, Ct (xl x) (xg x) mX2_pageWithLine [vr (xg x) 96, vi v1] M21 p45 ∧ ∀ (r45 : Int) (M45 : Mm), p45 r45 M45 → (post r45 M45))) ∧ (M21 96 2 = (-1) → (post (-1000000003) M21))))) ∧ (¬ (v1 < M 7 0) → (post (-1000000001) M))))) : Gx x 2 0 [(0, vr (xg x) 0), (1, vi v1)] [] M := by
  refine g_iload_n (q := 1) C dX5_pageOf_0 rfl 1 rfl rfl ?_
  obtain ⟨hr, Ht, Hf⟩ := H
  refine g_if_lt (q := 4) (t := 17) C dX5_pageOf_1 rfl (by decide) hr (fun hc => ?_) (fun hc => ?_)
  · have H := Ht hc
    refine g_ldc (q := 19) (z := (-1000000001)) C dX5_pageOf_17 rfl wc_8_9 ?_
    exact g_iret C hR dX5_pageOf_19 rfl H
  · have H := Hf hc
    refine g_iload_n (q := 5) C dX5_pageOf_4 rfl 1 rfl rfl ?_
    refine g_aload_n (q := 6) C dX5_pageOf_5 rfl 0 rfl rfl ?_
    refine g_get (q := 9) C (by decide) (celr_5 (by decide)) (ci := 5) (i := 0) rfl inlX5 (by decide) wm_1_15 rfl dX5_pageOf_6 rfl ?_
    refine g_getN (q := 12) C (isS_6).o.1 (celr_4 (isS_6).o.2) (ci := 4) (i := 0) rfl inlX4 (by decide) (by decide +kernel) rfl dX5_pageOf_9 rfl ?_
    refine g_iconst (q := 13) C dX5_pageOf_12 rfl ?_
    refine g_iald (q := 14) (m := 6) C ((isS_6).b).1 ((isS_6).b).2.1 ((isS_6).b).2.2 (by decide) (by decide) dX5_pageOf_13 rfl ?_
    obtain ⟨hr, Ht, Hf⟩ := H
    refine g_icmp_lt (q := 17) (t := 20) C dX5_pageOf_14 rfl (by decide) hr (fun hc => ?_) (fun hc => ?_)
    · have H := Ht hc
      refine g_aload_n (q := 21) C dX5_pageOf_20 rfl 0 rfl rfl ?_
      obtain ⟨p21, hM, H⟩ := H
      refine g_callV (q := 24) (As := []) (st := []) (na := 0) C mX5_settle (by decide) (celr_5 (by decide)) rfl hM wm_10_8 wm_10_9 wm_10_10 wm_1_2 wm_10_11 (by decide +kernel) rfl rfl (by decide) rfl (Nat.le_of_ble_eq_true rfl) dX5_pageOf_21 rfl (fun r21 M21 hp => ?_)
      have H := H r21 M21 hp
      show Gx x 2 24 [(0, vr (xg x) 0), (1, vi v1)] [] M21
      refine g_aload_n (q := 25) C dX5_pageOf_24 rfl 0 rfl rfl ?_
      refine g_get (q := 28) C (by decide) (celr_5 (by decide)) (ci := 5) (i := 7) rfl inlX5 (by decide) wm_2_8 rfl dX5_pageOf_25 rfl ?_
      refine g_getN (q := 31) C (isPl_96).o.1 (celr_2 (isPl_96).o.2) (ci := 2) (i := 2) rfl inlX2 (by decide) (by decide +kernel) rfl dX5_pageOf_28 rfl ?_
      refine g_iconst (q := 32) C dX5_pageOf_31 rfl ?_
      obtain ⟨hr, Ht, Hf⟩ := H
      refine g_icmp_ne (q := 35) (t := 40) C dX5_pageOf_32 rfl (by decide) ⟨hr, by decide⟩ (fun hc => ?_) (fun hc => ?_)
      · have H := Ht hc
        refine g_aload_n (q := 41) C dX5_pageOf_40 rfl 0 rfl rfl ?_
        refine g_get (q := 44) C (by decide) (celr_5 (by decide)) (ci := 5) (i := 7) rfl inlX5 (by decide) wm_2_8 rfl dX5_pageOf_41 rfl ?_
        refine g_iload_n (q := 45) C dX5_pageOf_44 rfl 1 rfl rfl ?_
        obtain ⟨p45, hM, H⟩ := H
        refine g_callV (q := 48) (As := [vi v1]) (st := []) (na := 1) C mX2_pageWithLine (isPl_96).o.1 (celr_2 (isPl_96).o.2) rfl hM wm_22_9 wm_19_15 wm_19_16 wm_2_7 wm_19_17 (by decide +kernel) rfl rfl (by decide) rfl (Nat.le_of_ble_eq_true rfl) dX5_pageOf_45 rfl (fun r45 M45 hp => ?_)
        have H := H r45 M45 hp
        show Gx x 2 48 [(0, vr (xg x) 0), (1, vi v1)] [vi r45] M45
        exact g_iret C hR dX5_pageOf_48 rfl H
      · have H := Hf hc
        refine g_ldc (q := 37) (z := (-1000000003)) C dX5_pageOf_35 rfl wc_18_5 ?_
        refine g_goto (t := 48) C dX5_pageOf_37 (by decide) ?_
        exact g_iret C hR dX5_pageOf_48 rfl H
    · have H := Hf hc
      refine g_ldc (q := 19) (z := (-1000000001)) C dX5_pageOf_17 rfl wc_8_9 ?_
      exact g_iret C hR dX5_pageOf_19 rfl H
set_option maxRecDepth 10000 in
set_option maxHeartbeats 2000000 in
theorem X5_fits_0 {x : Xx} {post : Int → Mm → Prop} (C : Cx x mX5_fits) (hR : Rt x mX5_fits post)  (v1 v2 : Int) (M : Mm) (H : (inR v2) ∧ (v2 ≤ 0 → (Gx x 3 18 [(0, vr (xg x) 0), (1, vi v1), (2, vi v2)] [] M)) ∧ (¬ (v2 ≤ 0) → (∃ p9 : Int → Mm → Prop, Ct (xl x) (xg x) mX4_has [vr (xg x) 6, vi v1] M p9 ∧ ∀ (r9 : Int) (M9 : Mm), p9 r9 M9 → ((inR r9) ∧ (¬ (r9 = 0) → (Gx x 3 18 [(0, vr (xg x) 0), (1, vi v1), (2, vi v2)] [] M9)) ∧ (r9 = 0 → (post (-1000000001) M9)))))) : Gx x 3 0 [(0, vr (xg x) 0), (1, vi v1), (2, vi v2)] [] M := by
  refine g_iload_n (q := 1) C dX5_fits_0 rfl 2 rfl rfl ?_
  obtain ⟨hr, Ht, Hf⟩ := H
  refine g_if_le (q := 4) (t := 18) C dX5_fits_1 rfl (by decide) hr (fun hc => ?_) (fun hc => ?_)
  · have H := Ht hc
    refine g_sub [0, 1, 2] rfl ?_
    exact H
  · have H := Hf hc
    refine g_aload_n (q := 5) C dX5_fits_4 rfl 0 rfl rfl ?_
    refine g_get (q := 8) C (by decide) (celr_5 (by decide)) (ci := 5) (i := 0) rfl inlX5 (by decide) wm_1_15 rfl dX5_fits_5 rfl ?_
    refine g_iload_n (q := 9) C dX5_fits_8 rfl 1 rfl rfl ?_
    obtain ⟨p9, hM, H⟩ := H
    refine g_callV (q := 12) (As := [vi v1]) (st := []) (na := 1) C mX4_has (isS_6).o.1 (celr_4 (isS_6).o.2) rfl hM wm_8_10 wm_8_11 wm_8_12 wm_1_14 wm_8_13 (by decide +kernel) rfl rfl (by decide) rfl (Nat.le_of_ble_eq_true rfl) dX5_fits_9 rfl (fun r9 M9 hp => ?_)
    have H := H r9 M9 hp
    show Gx x 3 12 [(0, vr (xg x) 0), (1, vi v1), (2, vi v2)] [vi r9] M9
    obtain ⟨hr, Ht, Hf⟩ := H
    refine g_if_ne (q := 15) (t := 18) C dX5_fits_12 rfl (by decide) hr (fun hc => ?_) (fun hc => ?_)
    · have H := Ht hc
      refine g_sub [0, 1, 2] rfl ?_
      exact H
    · have H := Hf hc
      refine g_ldc (q := 17) (z := (-1000000001)) C dX5_fits_15 rfl wc_8_9 ?_
      exact g_iret C hR dX5_fits_17 rfl H
set_option maxRecDepth 10000 in
set_option maxHeartbeats 2000000 in
theorem X5_fits_18 {x : Xx} {post : Int → Mm → Prop} (C : Cx x mX5_fits) (hR : Rt x mX5_fits post)  (v1 v2 : Int) (M : Mm) (H : (inR v2) ∧ (¬ (v2 = 0) → ((inR v2) ∧ (v2 < 0 → (post (-1000000002) M)) ∧ (¬ (v2 < 0) → ((inR v2 ∧ inR ((M 6 2) - v1)) ∧ (v2 ≤ (M 6 2) - v1 → (∃ p50 : Int → Mm → Prop, Ct (xl x) (xg x) mX4_standTogether [vr (xg x) 6, vi v1, vi v2] M p50 ∧ ∀ (r50 : Int) (M50 : Mm), p50 r50 M50 → ((inR r50) ∧ (r50 = 0 → (post 0 M50)) ∧ (¬ (r50 = 0) → (post 1 M50))))) ∧ (¬ (v2 ≤ (M 6 2) - v1) → (post (-1000000002) M)))))) ∧ (v2 = 0 → (post 1 M))) : Gx x 3 18 [(0, vr (xg x) 0), (1, vi v1), (2, vi v2)] [] M := by
  refine g_iload_n (q := 19) C dX5_fits_18 rfl 2 rfl rfl ?_
  obtain ⟨hr, Ht, Hf⟩ := H
  refine g_if_ne (q := 22) (t := 24) C dX5_fits_19 rfl (by decide) hr (fun hc => ?_) (fun hc => ?_)
  · have H := Ht hc
    refine g_iload_n (q := 25) C dX5_fits_24 rfl 2 rfl rfl ?_
    obtain ⟨hr, Ht, Hf⟩ := H
    refine g_if_lt (q := 28) (t := 41) C dX5_fits_25 rfl (by decide) hr (fun hc => ?_) (fun hc => ?_)
    · have H := Ht hc
      refine g_ldc (q := 43) (z := (-1000000002)) C dX5_fits_41 rfl wc_5_4 ?_
      exact g_iret C hR dX5_fits_43 rfl H
    · have H := Hf hc
      refine g_iload_n (q := 29) C dX5_fits_28 rfl 2 rfl rfl ?_
      refine g_aload_n (q := 30) C dX5_fits_29 rfl 0 rfl rfl ?_
      refine g_get (q := 33) C (by decide) (celr_5 (by decide)) (ci := 5) (i := 0) rfl inlX5 (by decide) wm_1_15 rfl dX5_fits_30 rfl ?_
      refine g_getN (q := 36) C (isS_6).o.1 (celr_4 (isS_6).o.2) (ci := 4) (i := 2) rfl inlX4 (by decide) (by decide +kernel) rfl dX5_fits_33 rfl ?_
      refine g_iload_n (q := 37) C dX5_fits_36 rfl 1 rfl rfl ?_
      refine g_isub (q := 38) C dX5_fits_37 rfl ?_
      obtain ⟨hr, Ht, Hf⟩ := H
      refine g_icmp_le (q := 41) (t := 44) C dX5_fits_38 rfl (by decide) hr (fun hc => ?_) (fun hc => ?_)
      · have H := Ht hc
        refine g_aload_n (q := 45) C dX5_fits_44 rfl 0 rfl rfl ?_
        refine g_get (q := 48) C (by decide) (celr_5 (by decide)) (ci := 5) (i := 0) rfl inlX5 (by decide) wm_1_15 rfl dX5_fits_45 rfl ?_
        refine g_iload_n (q := 49) C dX5_fits_48 rfl 1 rfl rfl ?_
        refine g_iload_n (q := 50) C dX5_fits_49 rfl 2 rfl rfl ?_
        obtain ⟨p50, hM, H⟩ := H
        refine g_callV (q := 53) (As := [vi v1, vi v2]) (st := []) (na := 2) C mX4_standTogether (isS_6).o.1 (celr_4 (isS_6).o.2) rfl hM wm_23_19 wm_11_7 wm_11_8 wm_1_14 wm_11_9 (by decide +kernel) rfl rfl (by decide) rfl (Nat.le_of_ble_eq_true rfl) dX5_fits_50 rfl (fun r50 M50 hp => ?_)
        have H := H r50 M50 hp
        show Gx x 3 53 [(0, vr (xg x) 0), (1, vi v1), (2, vi v2)] [vi r50] M50
        obtain ⟨hr, Ht, Hf⟩ := H
        refine g_if_eq (q := 56) (t := 60) C dX5_fits_53 rfl (by decide) hr (fun hc => ?_) (fun hc => ?_)
        · have H := Ht hc
          refine g_iconst (q := 61) C dX5_fits_60 rfl ?_
          exact g_iret C hR dX5_fits_61 rfl H
        · have H := Hf hc
          refine g_iconst (q := 57) C dX5_fits_56 rfl ?_
          refine g_goto (t := 61) C dX5_fits_57 (by decide) ?_
          exact g_iret C hR dX5_fits_61 rfl H
      · have H := Hf hc
        refine g_ldc (q := 43) (z := (-1000000002)) C dX5_fits_41 rfl wc_5_4 ?_
        exact g_iret C hR dX5_fits_43 rfl H
  · have H := Hf hc
    refine g_iconst (q := 23) C dX5_fits_22 rfl ?_
    exact g_iret C hR dX5_fits_23 rfl H
set_option maxRecDepth 10000 in
set_option maxHeartbeats 2000000 in
theorem X5_ways_0 {x : Xx} {post : Int → Mm → Prop} (C : Cx x mX5_ways) (hR : Rt x mX5_ways post)  (M : Mm) (H : ∃ p1 : Int → Mm → Prop, Ct (xl x) (xg x) mX5_settle [vr (xg x) 0] M p1 ∧ ∀ (r1 : Int) (M1 : Mm), p1 r1 M1 → (∃ p8 : Int → Mm → Prop, Ct (xl x) (xg x) mX3_waysOfBest [vr (xg x) 76] M1 p8 ∧ ∀ (r8 : Int) (M8 : Mm), p8 r8 M8 → (post r8 M8))) : Gx x 1 0 [(0, vr (xg x) 0)] [] M := by
  refine g_aload_n (q := 1) C dX5_ways_0 rfl 0 rfl rfl ?_
  obtain ⟨p1, hM, H⟩ := H
  refine g_callV (q := 4) (As := []) (st := []) (na := 0) C mX5_settle (by decide) (celr_5 (by decide)) rfl hM wm_10_8 wm_10_9 wm_10_10 wm_1_2 wm_10_11 (by decide +kernel) rfl rfl (by decide) rfl (Nat.le_of_ble_eq_true rfl) dX5_ways_1 rfl (fun r1 M1 hp => ?_)
  have H := H r1 M1 hp
  show Gx x 1 4 [(0, vr (xg x) 0)] [] M1
  refine g_aload_n (q := 5) C dX5_ways_4 rfl 0 rfl rfl ?_
  refine g_get (q := 8) C (by decide) (celr_5 (by decide)) (ci := 5) (i := 5) rfl inlX5 (by decide) wm_2_3 rfl dX5_ways_5 rfl ?_
  obtain ⟨p8, hM, H⟩ := H
  refine g_callV (q := 11) (As := []) (st := []) (na := 0) C mX3_waysOfBest (isP_76).o.1 (celr_3 (isP_76).o.2) rfl hM wm_24_4 wm_24_5 wm_24_6 wm_2_2 wm_24_7 (by decide +kernel) rfl rfl (by decide) rfl (Nat.le_of_ble_eq_true rfl) dX5_ways_8 rfl (fun r8 M8 hp => ?_)
  have H := H r8 M8 hp
  show Gx x 1 11 [(0, vr (xg x) 0)] [vl r8] M8
  exact g_lret C hR dX5_ways_11 rfl H
set_option maxRecDepth 10000 in
set_option maxHeartbeats 2000000 in
theorem X5_without_0 {x : Xx} {post : Int → Mm → Prop} (C : Cx x mX5_without) (hR : Rt x mX5_without post)  (v1 : Int) (M : Mm) (H : ∃ p5 : Int → Mm → Prop, Ct (xl x) (xg x) mX4_has [vr (xg x) 6, vi v1] M p5 ∧ ∀ (r5 : Int) (M5 : Mm), p5 r5 M5 → ((inR r5) ∧ (¬ (r5 = 0) → (∃ p22 : Int → Mm → Prop, Ct (xl x) (xg x) mX4_becomes [vr (xg x) 13, vr (xg x) 6] M5 p22 ∧ ∀ (r22 : Int) (M22 : Mm), p22 r22 M22 → (∃ p30 : Int → Mm → Prop, Ct (xl x) (xg x) mX4_closeAt [vr (xg x) 13, vi v1] M22 p30 ∧ ∀ (r30 : Int) (M30 : Mm), p30 r30 M30 → (∃ p34 : Int → Mm → Prop, Ct (xl x) (xg x) mX5_costOfTrial [vr (xg x) 0] M30 p34 ∧ ∀ (r34 : Int) (M34 : Mm), p34 r34 M34 → (post r34 M34))))) ∧ (r5 = 0 → (post (-1000000001) M5)))) : Gx x 2 0 [(0, vr (xg x) 0), (1, vi v1)] [] M := by
  refine g_aload_n (q := 1) C dX5_without_0 rfl 0 rfl rfl ?_
  refine g_get (q := 4) C (by decide) (celr_5 (by decide)) (ci := 5) (i := 0) rfl inlX5 (by decide) wm_1_15 rfl dX5_without_1 rfl ?_
  refine g_iload_n (q := 5) C dX5_without_4 rfl 1 rfl rfl ?_
  obtain ⟨p5, hM, H⟩ := H
  refine g_callV (q := 8) (As := [vi v1]) (st := []) (na := 1) C mX4_has (isS_6).o.1 (celr_4 (isS_6).o.2) rfl hM wm_8_10 wm_8_11 wm_8_12 wm_1_14 wm_8_13 (by decide +kernel) rfl rfl (by decide) rfl (Nat.le_of_ble_eq_true rfl) dX5_without_5 rfl (fun r5 M5 hp => ?_)
  have H := H r5 M5 hp
  show Gx x 2 8 [(0, vr (xg x) 0), (1, vi v1)] [vi r5] M5
  obtain ⟨hr, Ht, Hf⟩ := H
  refine g_if_ne (q := 11) (t := 14) C dX5_without_8 rfl (by decide) hr (fun hc => ?_) (fun hc => ?_)
  · have H := Ht hc
    refine g_aload_n (q := 15) C dX5_without_14 rfl 0 rfl rfl ?_
    refine g_get (q := 18) C (by decide) (celr_5 (by decide)) (ci := 5) (i := 1) rfl inlX5 (by decide) wm_1_16 rfl dX5_without_15 rfl ?_
    refine g_aload_n (q := 19) C dX5_without_18 rfl 0 rfl rfl ?_
    refine g_get (q := 22) C (by decide) (celr_5 (by decide)) (ci := 5) (i := 0) rfl inlX5 (by decide) wm_1_15 rfl dX5_without_19 rfl ?_
    obtain ⟨p22, hM, H⟩ := H
    refine g_callV (q := 25) (As := [vr (xg x) 6]) (st := []) (na := 1) C mX4_becomes (isS_13).o.1 (celr_4 (isS_13).o.2) rfl hM wm_24_16 wm_5_23 wm_6_0 wm_1_14 wm_6_1 (by decide +kernel) rfl rfl (by decide) rfl (Nat.le_of_ble_eq_true rfl) dX5_without_22 rfl (fun r22 M22 hp => ?_)
    have H := H r22 M22 hp
    show Gx x 2 25 [(0, vr (xg x) 0), (1, vi v1)] [] M22
    refine g_aload_n (q := 26) C dX5_without_25 rfl 0 rfl rfl ?_
    refine g_get (q := 29) C (by decide) (celr_5 (by decide)) (ci := 5) (i := 1) rfl inlX5 (by decide) wm_1_16 rfl dX5_without_26 rfl ?_
    refine g_iload_n (q := 30) C dX5_without_29 rfl 1 rfl rfl ?_
    obtain ⟨p30, hM, H⟩ := H
    refine g_callV (q := 33) (As := [vi v1]) (st := []) (na := 1) C mX4_closeAt (isS_13).o.1 (celr_4 (isS_13).o.2) rfl hM wm_8_14 wm_8_15 wm_8_16 wm_1_14 wm_8_17 (by decide +kernel) rfl rfl (by decide) rfl (Nat.le_of_ble_eq_true rfl) dX5_without_30 rfl (fun r30 M30 hp => ?_)
    have H := H r30 M30 hp
    show Gx x 2 33 [(0, vr (xg x) 0), (1, vi v1)] [] M30
    refine g_aload_n (q := 34) C dX5_without_33 rfl 0 rfl rfl ?_
    obtain ⟨p34, hM, H⟩ := H
    refine g_callV (q := 37) (As := []) (st := []) (na := 0) C mX5_costOfTrial (by decide) (celr_5 (by decide)) rfl hM wm_24_17 wm_24_18 wm_24_19 wm_1_2 wm_24_20 (by decide +kernel) rfl rfl (by decide) rfl (Nat.le_of_ble_eq_true rfl) dX5_without_34 rfl (fun r34 M34 hp => ?_)
    have H := H r34 M34 hp
    show Gx x 2 37 [(0, vr (xg x) 0), (1, vi v1)] [vi r34] M34
    exact g_iret C hR dX5_without_37 rfl H
  · have H := Hf hc
    refine g_ldc (q := 13) (z := (-1000000001)) C dX5_without_11 rfl wc_8_9 ?_
    exact g_iret C hR dX5_without_13 rfl H
set_option maxRecDepth 10000 in
set_option maxHeartbeats 2000000 in
theorem X5_costOfTrial_0 {x : Xx} {post : Int → Mm → Prop} (C : Cx x mX5_costOfTrial) (hR : Rt x mX5_costOfTrial post)  (M : Mm) (H : ∃ p8 : Int → Mm → Prop, Ct (xl x) (xg x) mX3_solve [vr (xg x) 86, vr (xg x) 13] M p8 ∧ ∀ (r8 : Int) (M8 : Mm), p8 r8 M8 → (∃ p17 : Int → Mm → Prop, Ct (xl x) (xg x) mX3_costFrom [vr (xg x) 86, vi 0, vi 0] M8 p17 ∧ ∀ (r17 : Int) (M17 : Mm), p17 r17 M17 → (post r17 M17))) : Gx x 1 0 [(0, vr (xg x) 0)] [] M := by
  refine g_aload_n (q := 1) C dX5_costOfTrial_0 rfl 0 rfl rfl ?_
  refine g_get (q := 4) C (by decide) (celr_5 (by decide)) (ci := 5) (i := 6) rfl inlX5 (by decide) wm_2_4 rfl dX5_costOfTrial_1 rfl ?_
  refine g_aload_n (q := 5) C dX5_costOfTrial_4 rfl 0 rfl rfl ?_
  refine g_get (q := 8) C (by decide) (celr_5 (by decide)) (ci := 5) (i := 1) rfl inlX5 (by decide) wm_1_16 rfl dX5_costOfTrial_5 rfl ?_
  obtain ⟨p8, hM, H⟩ := H
  refine g_callV (q := 11) (As := [vr (xg x) 13]) (st := []) (na := 1) C mX3_solve (isP_86).o.1 (celr_3 (isP_86).o.2) rfl hM wm_10_12 wm_10_13 wm_10_14 wm_2_2 wm_10_15 (by decide +kernel) rfl rfl (by decide) rfl (Nat.le_of_ble_eq_true rfl) dX5_costOfTrial_8 rfl (fun r8 M8 hp => ?_)
  have H := H r8 M8 hp
  show Gx x 1 11 [(0, vr (xg x) 0)] [] M8
  refine g_aload_n (q := 12) C dX5_costOfTrial_11 rfl 0 rfl rfl ?_
  refine g_get (q := 15) C (by decide) (celr_5 (by decide)) (ci := 5) (i := 6) rfl inlX5 (by decide) wm_2_4 rfl dX5_costOfTrial_12 rfl ?_
  refine g_iconst (q := 16) C dX5_costOfTrial_15 rfl ?_
  refine g_iconst (q := 17) C dX5_costOfTrial_16 rfl ?_
  obtain ⟨p17, hM, H⟩ := H
  refine g_callV (q := 20) (As := [vi 0, vi 0]) (st := []) (na := 2) C mX3_costFrom (isP_86).o.1 (celr_3 (isP_86).o.2) rfl hM wm_14_15 wm_14_16 wm_14_17 wm_2_2 wm_14_18 (by decide +kernel) rfl rfl (by decide) rfl (Nat.le_of_ble_eq_true rfl) dX5_costOfTrial_17 rfl (fun r17 M17 hp => ?_)
  have H := H r17 M17 hp
  show Gx x 1 20 [(0, vr (xg x) 0)] [vi r17] M17
  exact g_iret C hR dX5_costOfTrial_20 rfl H
set_option maxRecDepth 10000 in
set_option maxHeartbeats 2000000 in
theorem X5_moved_0 {x : Xx} {post : Int → Mm → Prop} (C : Cx x mX5_moved) (hR : Rt x mX5_moved post)  (v1 v2 : Int) (M : Mm) (H : ∃ p5 : Int → Mm → Prop, Ct (xl x) (xg x) mX4_has [vr (xg x) 6, vi v1] M p5 ∧ ∀ (r5 : Int) (M5 : Mm), p5 r5 M5 → ((inR r5) ∧ (¬ (r5 = 0) → (∃ p16 : Int → Mm → Prop, Ct (xl x) (xg x) mX5_partMayBe [vi 2, vi v2] M5 p16 ∧ ∀ (r16 : Int) (M16 : Mm), p16 r16 M16 → ((inR r16) ∧ (¬ (r16 = 0) → (∃ p33 : Int → Mm → Prop, Ct (xl x) (xg x) mX4_becomes [vr (xg x) 13, vr (xg x) 6] M16 p33 ∧ ∀ (r33 : Int) (M33 : Mm), p33 r33 M33 → ((0 ≤ v1 ∧ v1 < 10) ∧ (∀ M47 : Mm, M47 = mu M33 18 v1 v2 → (∃ p49 : Int → Mm → Prop, Ct (xl x) (xg x) mX5_costOfTrial [vr (xg x) 0] M47 p49 ∧ ∀ (r49 : Int) (M49 : Mm), p49 r49 M49 → (post r49 M49)))))) ∧ (r16 = 0 → (post (-1000000002) M16))))) ∧ (r5 = 0 → (post (-1000000001) M5)))) : Gx x 3 0 [(0, vr (xg x) 0), (1, vi v1), (2, vi v2)] [] M := by
  refine g_aload_n (q := 1) C dX5_moved_0 rfl 0 rfl rfl ?_
  refine g_get (q := 4) C (by decide) (celr_5 (by decide)) (ci := 5) (i := 0) rfl inlX5 (by decide) wm_1_15 rfl dX5_moved_1 rfl ?_
  refine g_iload_n (q := 5) C dX5_moved_4 rfl 1 rfl rfl ?_
  obtain ⟨p5, hM, H⟩ := H
  refine g_callV (q := 8) (As := [vi v1]) (st := []) (na := 1) C mX4_has (isS_6).o.1 (celr_4 (isS_6).o.2) rfl hM wm_8_10 wm_8_11 wm_8_12 wm_1_14 wm_8_13 (by decide +kernel) rfl rfl (by decide) rfl (Nat.le_of_ble_eq_true rfl) dX5_moved_5 rfl (fun r5 M5 hp => ?_)
  have H := H r5 M5 hp
  show Gx x 3 8 [(0, vr (xg x) 0), (1, vi v1), (2, vi v2)] [vi r5] M5
  obtain ⟨hr, Ht, Hf⟩ := H
  refine g_if_ne (q := 11) (t := 14) C dX5_moved_8 rfl (by decide) hr (fun hc => ?_) (fun hc => ?_)
  · have H := Ht hc
    refine g_iconst (q := 15) C dX5_moved_14 rfl ?_
    refine g_iload_n (q := 16) C dX5_moved_15 rfl 2 rfl rfl ?_
    obtain ⟨p16, hM, H⟩ := H
    refine g_callS (q := 19) (As := [vi 2, vi v2]) (st := []) (na := 2) C mX5_partMayBe hM wm_7_7 wm_7_8 wm_1_2 wm_7_9 (by decide +kernel) rfl rfl (by decide) rfl (Nat.le_of_ble_eq_true rfl) dX5_moved_16 rfl (fun r16 M16 hp => ?_)
    have H := H r16 M16 hp
    show Gx x 3 19 [(0, vr (xg x) 0), (1, vi v1), (2, vi v2)] [vi r16] M16
    obtain ⟨hr, Ht, Hf⟩ := H
    refine g_if_ne (q := 22) (t := 25) C dX5_moved_19 rfl (by decide) hr (fun hc => ?_) (fun hc => ?_)
    · have H := Ht hc
      refine g_aload_n (q := 26) C dX5_moved_25 rfl 0 rfl rfl ?_
      refine g_get (q := 29) C (by decide) (celr_5 (by decide)) (ci := 5) (i := 1) rfl inlX5 (by decide) wm_1_16 rfl dX5_moved_26 rfl ?_
      refine g_aload_n (q := 30) C dX5_moved_29 rfl 0 rfl rfl ?_
      refine g_get (q := 33) C (by decide) (celr_5 (by decide)) (ci := 5) (i := 0) rfl inlX5 (by decide) wm_1_15 rfl dX5_moved_30 rfl ?_
      obtain ⟨p33, hM, H⟩ := H
      refine g_callV (q := 36) (As := [vr (xg x) 6]) (st := []) (na := 1) C mX4_becomes (isS_13).o.1 (celr_4 (isS_13).o.2) rfl hM wm_24_16 wm_5_23 wm_6_0 wm_1_14 wm_6_1 (by decide +kernel) rfl rfl (by decide) rfl (Nat.le_of_ble_eq_true rfl) dX5_moved_33 rfl (fun r33 M33 hp => ?_)
      have H := H r33 M33 hp
      show Gx x 3 36 [(0, vr (xg x) 0), (1, vi v1), (2, vi v2)] [] M33
      refine g_aload_n (q := 37) C dX5_moved_36 rfl 0 rfl rfl ?_
      refine g_get (q := 40) C (by decide) (celr_5 (by decide)) (ci := 5) (i := 1) rfl inlX5 (by decide) wm_1_16 rfl dX5_moved_37 rfl ?_
      refine g_getN (q := 43) C (isS_13).o.1 (celr_4 (isS_13).o.2) (ci := 4) (i := 1) rfl inlX4 (by decide) (by decide +kernel) rfl dX5_moved_40 rfl ?_
      refine g_iconst (q := 44) C dX5_moved_43 rfl ?_
      refine g_aald (q := 45) (r := 18) C ((isS_13).p).1 ((isS_13).p).2.1 ((isS_13).p).2.2 (by decide) (by decide) (isS.f isS_13 2) dX5_moved_44 rfl ?_
      refine g_iload_n (q := 46) C dX5_moved_45 rfl 1 rfl rfl ?_
      refine g_iload_n (q := 47) C dX5_moved_46 rfl 2 rfl rfl ?_
      obtain ⟨hc, H⟩ := H
      refine g_iast (q := 48) (m := 10) C (isS.r isS_13 2 (by decide)).1 (isS.r isS_13 2 (by decide)).2.1 (isS.r isS_13 2 (by decide)).2.2 hc (by decide) dX5_moved_47 rfl ?_
      refine g_topM (fun M47 hM47 => ?_)
      have H := H M47 hM47
      refine g_aload_n (q := 49) C dX5_moved_48 rfl 0 rfl rfl ?_
      obtain ⟨p49, hM, H⟩ := H
      refine g_callV (q := 52) (As := []) (st := []) (na := 0) C mX5_costOfTrial (by decide) (celr_5 (by decide)) rfl hM wm_24_17 wm_24_18 wm_24_19 wm_1_2 wm_24_20 (by decide +kernel) rfl rfl (by decide) rfl (Nat.le_of_ble_eq_true rfl) dX5_moved_49 rfl (fun r49 M49 hp => ?_)
      have H := H r49 M49 hp
      show Gx x 3 52 [(0, vr (xg x) 0), (1, vi v1), (2, vi v2)] [vi r49] M49
      exact g_iret C hR dX5_moved_52 rfl H
    · have H := Hf hc
      refine g_ldc (q := 24) (z := (-1000000002)) C dX5_moved_22 rfl wc_5_4 ?_
      exact g_iret C hR dX5_moved_24 rfl H
  · have H := Hf hc
    refine g_ldc (q := 13) (z := (-1000000001)) C dX5_moved_11 rfl wc_8_9 ?_
    exact g_iret C hR dX5_moved_13 rfl H
set_option maxRecDepth 10000 in
set_option maxHeartbeats 2000000 in
theorem X5_from_0 {x : Xx} {post : Int → Mm → Prop} (C : Cx x mX5_from) (hR : Rt x mX5_from post)  (v1 v2 v3 : Int) (M : Mm) (H : (inR v3) ∧ (v3 < 0 → (post (-1000000002) M)) ∧ (¬ (v3 < 0) → ((inR v3) ∧ (v3 ≤ 1 → (∃ p13 : Int → Mm → Prop, Ct (xl x) (xg x) mX5_settle [vr (xg x) 0] M p13 ∧ ∀ (r13 : Int) (M13 : Mm), p13 r13 M13 → ((inR v3) ∧ (¬ (v3 = 0) → (∃ p38 : Int → Mm → Prop, Ct (xl x) (xg x) mX3_pagesFrom [vr (xg x) 76, vi v1, vi v2] M13 p38 ∧ ∀ (r38 : Int) (M38 : Mm), p38 r38 M38 → (post r38 M38))) ∧ (v3 = 0 → (∃ p26 : Int → Mm → Prop, Ct (xl x) (xg x) mX3_costFrom [vr (xg x) 76, vi v1, vi v2] M13 p26 ∧ ∀ (r26 : Int) (M26 : Mm), p26 r26 M26 → (post r26 M26)))))) ∧ (¬ (v3 ≤ 1) → (post (-1000000002) M))))) : Gx x 4 0 [(0, vr (xg x) 0), (1, vi v1), (2, vi v2), (3, vi v3)] [] M := by
  refine g_iload_n (q := 1) C dX5_from_0 rfl 3 rfl rfl ?_
  obtain ⟨hr, Ht, Hf⟩ := H
  refine g_if_lt (q := 4) (t := 9) C dX5_from_1 rfl (by decide) hr (fun hc => ?_) (fun hc => ?_)
  · have H := Ht hc
    refine g_ldc (q := 11) (z := (-1000000002)) C dX5_from_9 rfl wc_5_4 ?_
    exact g_iret C hR dX5_from_11 rfl H
  · have H := Hf hc
    refine g_iload_n (q := 5) C dX5_from_4 rfl 3 rfl rfl ?_
    refine g_iconst (q := 6) C dX5_from_5 rfl ?_
    obtain ⟨hr, Ht, Hf⟩ := H
    refine g_icmp_le (q := 9) (t := 12) C dX5_from_6 rfl (by decide) ⟨hr, by decide⟩ (fun hc => ?_) (fun hc => ?_)
    · have H := Ht hc
      refine g_aload_n (q := 13) C dX5_from_12 rfl 0 rfl rfl ?_
      obtain ⟨p13, hM, H⟩ := H
      refine g_callV (q := 16) (As := []) (st := []) (na := 0) C mX5_settle (by decide) (celr_5 (by decide)) rfl hM wm_10_8 wm_10_9 wm_10_10 wm_1_2 wm_10_11 (by decide +kernel) rfl rfl (by decide) rfl (Nat.le_of_ble_eq_true rfl) dX5_from_13 rfl (fun r13 M13 hp => ?_)
      have H := H r13 M13 hp
      show Gx x 4 16 [(0, vr (xg x) 0), (1, vi v1), (2, vi v2), (3, vi v3)] [] M13
      refine g_iload_n (q := 17) C dX5_from_16 rfl 3 rfl rfl ?_
      obtain ⟨hr, Ht, Hf⟩ := H
      refine g_if_ne (q := 20) (t := 32) C dX5_from_17 rfl (by decide) hr (fun hc => ?_) (fun hc => ?_)
      · have H := Ht hc
        refine g_aload_n (q := 33) C dX5_from_32 rfl 0 rfl rfl ?_
        refine g_get (q := 36) C (by decide) (celr_5 (by decide)) (ci := 5) (i := 5) rfl inlX5 (by decide) wm_2_3 rfl dX5_from_33 rfl ?_
        refine g_iload_n (q := 37) C dX5_from_36 rfl 1 rfl rfl ?_
        refine g_iload_n (q := 38) C dX5_from_37 rfl 2 rfl rfl ?_
        obtain ⟨p38, hM, H⟩ := H
        refine g_callV (q := 41) (As := [vi v1, vi v2]) (st := []) (na := 2) C mX3_pagesFrom (isP_76).o.1 (celr_3 (isP_76).o.2) rfl hM wm_25_13 wm_25_14 wm_25_15 wm_2_2 wm_25_16 (by decide +kernel) rfl rfl (by decide) rfl (Nat.le_of_ble_eq_true rfl) dX5_from_38 rfl (fun r38 M38 hp => ?_)
        have H := H r38 M38 hp
        show Gx x 4 41 [(0, vr (xg x) 0), (1, vi v1), (2, vi v2), (3, vi v3)] [vi r38] M38
        exact g_iret C hR dX5_from_41 rfl H
      · have H := Hf hc
        refine g_aload_n (q := 21) C dX5_from_20 rfl 0 rfl rfl ?_
        refine g_get (q := 24) C (by decide) (celr_5 (by decide)) (ci := 5) (i := 5) rfl inlX5 (by decide) wm_2_3 rfl dX5_from_21 rfl ?_
        refine g_iload_n (q := 25) C dX5_from_24 rfl 1 rfl rfl ?_
        refine g_iload_n (q := 26) C dX5_from_25 rfl 2 rfl rfl ?_
        obtain ⟨p26, hM, H⟩ := H
        refine g_callV (q := 29) (As := [vi v1, vi v2]) (st := []) (na := 2) C mX3_costFrom (isP_76).o.1 (celr_3 (isP_76).o.2) rfl hM wm_14_15 wm_14_16 wm_14_17 wm_2_2 wm_14_18 (by decide +kernel) rfl rfl (by decide) rfl (Nat.le_of_ble_eq_true rfl) dX5_from_26 rfl (fun r26 M26 hp => ?_)
        have H := H r26 M26 hp
        show Gx x 4 29 [(0, vr (xg x) 0), (1, vi v1), (2, vi v2), (3, vi v3)] [vi r26] M26
        refine g_goto (t := 41) C dX5_from_29 (by decide) ?_
        exact g_iret C hR dX5_from_41 rfl H
    · have H := Hf hc
      refine g_ldc (q := 11) (z := (-1000000002)) C dX5_from_9 rfl wc_5_4 ?_
      exact g_iret C hR dX5_from_11 rfl H
set_option maxRecDepth 10000 in
set_option maxHeartbeats 2000000 in
theorem X5_hand_0 {x : Xx} {post : Int → Mm → Prop} (C : Cx x mX5_hand) (hR : Rt x mX5_hand post)  (v1 : Int) (M : Mm) (H : (inR v1) ∧ (v1 < 0 → (post (-1000000002) M)) ∧ (¬ (v1 < 0) → ((inR v1) ∧ (v1 ≤ 4 → ((inR (M 0 11)) ∧ (M 0 11 < 30 → ((0 ≤ M 0 11 ∧ M 0 11 < 30) ∧ (∀ M33 : Mm, M33 = mu M 3 (M 0 11) v1 → (∀ M41 : Mm, M41 = mu M33 0 11 ((M33 0 11) + 1) → (post (M41 0 11) M41))))) ∧ (¬ (M 0 11 < 30) → (post (-1000000004) M)))) ∧ (¬ (v1 ≤ 4) → (post (-1000000002) M))))) : Gx x 2 0 [(0, vr (xg x) 0), (1, vi v1)] [] M := by
  refine g_iload_n (q := 1) C dX5_hand_0 rfl 1 rfl rfl ?_
  obtain ⟨hr, Ht, Hf⟩ := H
  refine g_if_lt (q := 4) (t := 9) C dX5_hand_1 rfl (by decide) hr (fun hc => ?_) (fun hc => ?_)
  · have H := Ht hc
    refine g_ldc (q := 11) (z := (-1000000002)) C dX5_hand_9 rfl wc_5_4 ?_
    exact g_iret C hR dX5_hand_11 rfl H
  · have H := Hf hc
    refine g_iload_n (q := 5) C dX5_hand_4 rfl 1 rfl rfl ?_
    refine g_iconst (q := 6) C dX5_hand_5 rfl ?_
    obtain ⟨hr, Ht, Hf⟩ := H
    refine g_icmp_le (q := 9) (t := 12) C dX5_hand_6 rfl (by decide) ⟨hr, by decide⟩ (fun hc => ?_) (fun hc => ?_)
    · have H := Ht hc
      refine g_aload_n (q := 13) C dX5_hand_12 rfl 0 rfl rfl ?_
      refine g_get (q := 16) C (by decide) (celr_5 (by decide)) (ci := 5) (i := 11) rfl inlX5 (by decide) wm_2_13 rfl dX5_hand_13 rfl ?_
      refine g_bipush (q := 18) C dX5_hand_16 rfl (by decide) ?_
      obtain ⟨hr, Ht, Hf⟩ := H
      refine g_icmp_lt (q := 21) (t := 24) C dX5_hand_18 rfl (by decide) ⟨hr, by decide⟩ (fun hc => ?_) (fun hc => ?_)
      · have H := Ht hc
        refine g_aload_n (q := 25) C dX5_hand_24 rfl 0 rfl rfl ?_
        refine g_get (q := 28) C (by decide) (celr_5 (by decide)) (ci := 5) (i := 10) rfl inlX5 (by decide) wm_2_12 rfl dX5_hand_25 rfl ?_
        refine g_aload_n (q := 29) C dX5_hand_28 rfl 0 rfl rfl ?_
        refine g_get (q := 32) C (by decide) (celr_5 (by decide)) (ci := 5) (i := 11) rfl inlX5 (by decide) wm_2_13 rfl dX5_hand_29 rfl ?_
        refine g_iload_n (q := 33) C dX5_hand_32 rfl 1 rfl rfl ?_
        obtain ⟨hc, H⟩ := H
        refine g_iast (q := 34) (m := 30) C (by decide) (by decide) (by decide) hc (by decide) dX5_hand_33 rfl ?_
        refine g_topM (fun M33 hM33 => ?_)
        have H := H M33 hM33
        refine g_aload_n (q := 35) C dX5_hand_34 rfl 0 rfl rfl ?_
        refine g_dup (q := 36) C dX5_hand_35 rfl rfl ?_
        refine g_get (q := 39) C (by decide) (celr_5 (by decide)) (ci := 5) (i := 11) rfl inlX5 (by decide) wm_2_13 rfl dX5_hand_36 rfl ?_
        refine g_iconst (q := 40) C dX5_hand_39 rfl ?_
        refine g_iadd (q := 41) C dX5_hand_40 rfl ?_
        refine g_put (q := 44) (ty := .int) C (by decide) (celr_5 (by decide)) (ci := 5) (i := 11) rfl inlX5 tyX5_ok nmX5 (by decide) wm_2_13 rfl rfl rfl rfl (Nat.le_of_ble_eq_true rfl) (by rw [celr_5 (by decide)]; rfl) dX5_hand_41 rfl ?_
        refine g_topM (fun M41 hM41 => ?_)
        have H := H M41 hM41
        refine g_aload_n (q := 45) C dX5_hand_44 rfl 0 rfl rfl ?_
        refine g_get (q := 48) C (by decide) (celr_5 (by decide)) (ci := 5) (i := 11) rfl inlX5 (by decide) wm_2_13 rfl dX5_hand_45 rfl ?_
        exact g_iret C hR dX5_hand_48 rfl H
      · have H := Hf hc
        refine g_ldc (q := 23) (z := (-1000000004)) C dX5_hand_21 rfl wc_7_6 ?_
        exact g_iret C hR dX5_hand_23 rfl H
    · have H := Hf hc
      refine g_ldc (q := 11) (z := (-1000000002)) C dX5_hand_9 rfl wc_5_4 ?_
      exact g_iret C hR dX5_hand_11 rfl H
set_option maxRecDepth 10000 in
set_option maxHeartbeats 2000000 in
theorem X5_clear_0 {x : Xx} {post : Int → Mm → Prop} (C : Cx x mX5_clear) (hR : Rt x mX5_clear post)  (M : Mm) (H : ∀ w4 : Int, w4 = (M 0 11) → (∀ M7 : Mm, M7 = mu M 0 11 0 → (post w4 M7))) : Gx x 2 0 [(0, vr (xg x) 0)] [] M := by
  refine g_aload_n (q := 1) C dX5_clear_0 rfl 0 rfl rfl ?_
  refine g_get (q := 4) C (by decide) (celr_5 (by decide)) (ci := 5) (i := 11) rfl inlX5 (by decide) wm_2_13 rfl dX5_clear_1 rfl ?_
  refine g_topi (fun w4 hw4 => ?_)
  have H := H w4 hw4
  refine g_istore_n (q := 5) (L2 := [(1, vi w4), (0, vr (xg x) 0)]) C dX5_clear_4 rfl rfl (by decide) rfl ?_
  refine g_aload_n (q := 6) C dX5_clear_5 rfl 1 rfl rfl ?_
  refine g_iconst (q := 7) C dX5_clear_6 rfl ?_
  refine g_put (q := 10) (ty := .int) C (by decide) (celr_5 (by decide)) (ci := 5) (i := 11) rfl inlX5 tyX5_ok nmX5 (by decide) wm_2_13 rfl rfl rfl rfl (Nat.le_of_ble_eq_true rfl) (by rw [celr_5 (by decide)]; rfl) dX5_clear_7 rfl ?_
  refine g_topM (fun M7 hM7 => ?_)
  have H := H M7 hM7
  refine g_iload_n (q := 11) C dX5_clear_10 rfl 0 rfl rfl ?_
  exact g_iret C hR dX5_clear_11 rfl H
set_option maxRecDepth 10000 in
set_option maxHeartbeats 2000000 in
theorem X5_judge_0 {x : Xx} {post : Int → Mm → Prop} (C : Cx x mX5_judge) (hR : Rt x mX5_judge post)  (v1 : Int) (M : Mm) (H : (inR v1) ∧ (v1 < 0 → (post (-1000000002) M)) ∧ (¬ (v1 < 0) → ((inR v1) ∧ (v1 ≤ 1 → (∃ p13 : Int → Mm → Prop, Ct (xl x) (xg x) mX5_settle [vr (xg x) 0] M p13 ∧ ∀ (r13 : Int) (M13 : Mm), p13 r13 M13 → (∃ p35 : Int → Mm → Prop, Ct (xl x) (xg x) mX2_takeHanded [vr (xg x) 102, vr (xg x) 77, vr (xg x) 3, vi (M13 0 11)] M13 p35 ∧ ∀ (r35 : Int) (M35 : Mm), p35 r35 M35 → ((inR v1) ∧ (¬ (v1 = 0) → ((inR r35) ∧ (¬ (r35 = 0) → (post (-1) M35)) ∧ (r35 = 0 → (∃ p60 : Int → Mm → Prop, Ct (xl x) (xg x) mX2_cost [vr (xg x) 102, vr (xg x) 77] M35 p60 ∧ ∀ (r60 : Int) (M60 : Mm), p60 r60 M60 → (post r60 M60))))) ∧ (v1 = 0 → (post r35 M35)))))) ∧ (¬ (v1 ≤ 1) → (post (-1000000002) M))))) : Gx x 3 0 [(0, vr (xg x) 0), (1, vi v1)] [] M := by
  refine g_iload_n (q := 1) C dX5_judge_0 rfl 1 rfl rfl ?_
  obtain ⟨hr, Ht, Hf⟩ := H
  refine g_if_lt (q := 4) (t := 9) C dX5_judge_1 rfl (by decide) hr (fun hc => ?_) (fun hc => ?_)
  · have H := Ht hc
    refine g_ldc (q := 11) (z := (-1000000002)) C dX5_judge_9 rfl wc_5_4 ?_
    exact g_iret C hR dX5_judge_11 rfl H
  · have H := Hf hc
    refine g_iload_n (q := 5) C dX5_judge_4 rfl 1 rfl rfl ?_
    refine g_iconst (q := 6) C dX5_judge_5 rfl ?_
    obtain ⟨hr, Ht, Hf⟩ := H
    refine g_icmp_le (q := 9) (t := 12) C dX5_judge_6 rfl (by decide) ⟨hr, by decide⟩ (fun hc => ?_) (fun hc => ?_)
    · have H := Ht hc
      refine g_aload_n (q := 13) C dX5_judge_12 rfl 0 rfl rfl ?_
      obtain ⟨p13, hM, H⟩ := H
      refine g_callV (q := 16) (As := []) (st := []) (na := 0) C mX5_settle (by decide) (celr_5 (by decide)) rfl hM wm_10_8 wm_10_9 wm_10_10 wm_1_2 wm_10_11 (by decide +kernel) rfl rfl (by decide) rfl (Nat.le_of_ble_eq_true rfl) dX5_judge_13 rfl (fun r13 M13 hp => ?_)
      have H := H r13 M13 hp
      show Gx x 3 16 [(0, vr (xg x) 0), (1, vi v1)] [] M13
      refine g_aload_n (q := 17) C dX5_judge_16 rfl 0 rfl rfl ?_
      refine g_get (q := 20) C (by decide) (celr_5 (by decide)) (ci := 5) (i := 9) rfl inlX5 (by decide) wm_2_10 rfl dX5_judge_17 rfl ?_
      refine g_aload_n (q := 21) C dX5_judge_20 rfl 0 rfl rfl ?_
      refine g_get (q := 24) C (by decide) (celr_5 (by decide)) (ci := 5) (i := 5) rfl inlX5 (by decide) wm_2_3 rfl dX5_judge_21 rfl ?_
      refine g_getN (q := 27) C (isP_76).o.1 (celr_3 (isP_76).o.2) (ci := 3) (i := 0) rfl inlX3 (by decide) (by decide +kernel) rfl dX5_judge_24 rfl ?_
      refine g_aload_n (q := 28) C dX5_judge_27 rfl 0 rfl rfl ?_
      refine g_get (q := 31) C (by decide) (celr_5 (by decide)) (ci := 5) (i := 10) rfl inlX5 (by decide) wm_2_12 rfl dX5_judge_28 rfl ?_
      refine g_aload_n (q := 32) C dX5_judge_31 rfl 0 rfl rfl ?_
      refine g_get (q := 35) C (by decide) (celr_5 (by decide)) (ci := 5) (i := 11) rfl inlX5 (by decide) wm_2_13 rfl dX5_judge_32 rfl ?_
      obtain ⟨p35, hM, H⟩ := H
      refine g_callV (q := 38) (As := [vr (xg x) 77, vr (xg x) 3, vi (M13 0 11)]) (st := []) (na := 3) C mX2_takeHanded (isPl_102).o.1 (celr_2 (isPl_102).o.2) rfl hM wm_26_17 wm_26_18 wm_26_19 wm_2_7 wm_26_20 (by decide +kernel) rfl rfl (by decide) rfl (Nat.le_of_ble_eq_true rfl) dX5_judge_35 rfl (fun r35 M35 hp => ?_)
      have H := H r35 M35 hp
      show Gx x 3 38 [(0, vr (xg x) 0), (1, vi v1)] [vi r35] M35
      refine g_istore_n (q := 39) (L2 := [(2, vi r35), (0, vr (xg x) 0), (1, vi v1)]) C dX5_judge_38 rfl rfl (by decide) rfl ?_
      refine g_iload_n (q := 40) C dX5_judge_39 rfl 2 rfl rfl ?_
      obtain ⟨hr, Ht, Hf⟩ := H
      refine g_if_ne (q := 43) (t := 45) C dX5_judge_40 rfl (by decide) hr (fun hc => ?_) (fun hc => ?_)
      · have H := Ht hc
        refine g_iload_n (q := 46) C dX5_judge_45 rfl 0 rfl rfl ?_
        obtain ⟨hr, Ht, Hf⟩ := H
        refine g_if_ne (q := 49) (t := 66) C dX5_judge_46 rfl (by decide) hr (fun hc => ?_) (fun hc => ?_)
        · have H := Ht hc
          refine g_iconst (q := 67) C dX5_judge_66 rfl ?_
          exact g_iret C hR dX5_judge_67 rfl H
        · have H := Hf hc
          refine g_aload_n (q := 50) C dX5_judge_49 rfl 1 rfl rfl ?_
          refine g_get (q := 53) C (by decide) (celr_5 (by decide)) (ci := 5) (i := 9) rfl inlX5 (by decide) wm_2_10 rfl dX5_judge_50 rfl ?_
          refine g_aload_n (q := 54) C dX5_judge_53 rfl 1 rfl rfl ?_
          refine g_get (q := 57) C (by decide) (celr_5 (by decide)) (ci := 5) (i := 5) rfl inlX5 (by decide) wm_2_3 rfl dX5_judge_54 rfl ?_
          refine g_getN (q := 60) C (isP_76).o.1 (celr_3 (isP_76).o.2) (ci := 3) (i := 0) rfl inlX3 (by decide) (by decide +kernel) rfl dX5_judge_57 rfl ?_
          obtain ⟨p60, hM, H⟩ := H
          refine g_callV (q := 63) (As := [vr (xg x) 77]) (st := []) (na := 1) C mX2_cost (isPl_102).o.1 (celr_2 (isPl_102).o.2) rfl hM wm_18_19 wm_18_20 wm_18_21 wm_2_7 wm_18_22 (by decide +kernel) rfl rfl (by decide) rfl (Nat.le_of_ble_eq_true rfl) dX5_judge_60 rfl (fun r60 M60 hp => ?_)
          have H := H r60 M60 hp
          show Gx x 3 63 [(2, vi r35), (0, vr (xg x) 0), (1, vi v1)] [vi r60] M60
          refine g_goto (t := 67) C dX5_judge_63 (by decide) ?_
          exact g_iret C hR dX5_judge_67 rfl H
      · have H := Hf hc
        refine g_iload_n (q := 44) C dX5_judge_43 rfl 0 rfl rfl ?_
        exact g_iret C hR dX5_judge_44 rfl H
    · have H := Hf hc
      refine g_ldc (q := 11) (z := (-1000000002)) C dX5_judge_9 rfl wc_5_4 ?_
      exact g_iret C hR dX5_judge_11 rfl H
set_option maxRecDepth 10000 in
set_option maxHeartbeats 2000000 in
theorem X5_keep_0 {x : Xx} {post : Int → Mm → Prop} (C : Cx x mX5_keep) (hR : Rt x mX5_keep post)  (v1 : Int) (M : Mm) (H : (inR v1) ∧ (v1 < 0 → (post (-1000000001) M)) ∧ (¬ (v1 < 0) → ((inR v1) ∧ (v1 < 2 → ((0 ≤ v1 ∧ v1 < 2) ∧ (∃ p22 : Int → Mm → Prop, Ct (xl x) (xg x) mX4_becomes [vr (xg x) (20 + 7 * v1.toNat), vr (xg x) 6] M p22 ∧ ∀ (r22 : Int) (M22 : Mm), p22 r22 M22 → ((0 ≤ v1 ∧ v1 < 2) ∧ (∀ M31 : Mm, M31 = mu M22 2 v1 1 → (∀ M37 : Mm, M37 = mu M31 4 2 0 → (post (M37 6 2) M37))))))) ∧ (¬ (v1 < 2) → (post (-1000000001) M))))) : Gx x 2 0 [(0, vr (xg x) 0), (1, vi v1)] [] M := by
  refine g_iload_n (q := 1) C dX5_keep_0 rfl 1 rfl rfl ?_
  obtain ⟨hr, Ht, Hf⟩ := H
  refine g_if_lt (q := 4) (t := 9) C dX5_keep_1 rfl (by decide) hr (fun hc => ?_) (fun hc => ?_)
  · have H := Ht hc
    refine g_ldc (q := 11) (z := (-1000000001)) C dX5_keep_9 rfl wc_8_9 ?_
    exact g_iret C hR dX5_keep_11 rfl H
  · have H := Hf hc
    refine g_iload_n (q := 5) C dX5_keep_4 rfl 1 rfl rfl ?_
    refine g_iconst (q := 6) C dX5_keep_5 rfl ?_
    obtain ⟨hr, Ht, Hf⟩ := H
    refine g_icmp_lt (q := 9) (t := 12) C dX5_keep_6 rfl (by decide) ⟨hr, by decide⟩ (fun hc => ?_) (fun hc => ?_)
    · have H := Ht hc
      refine g_aload_n (q := 13) C dX5_keep_12 rfl 0 rfl rfl ?_
      refine g_get (q := 16) C (by decide) (celr_5 (by decide)) (ci := 5) (i := 2) rfl inlX5 (by decide) wm_1_17 rfl dX5_keep_13 rfl ?_
      refine g_iload_n (q := 17) C dX5_keep_16 rfl 1 rfl rfl ?_
      obtain ⟨hc, H⟩ := H
      have hq17 := imgS hc
      refine g_sald (q := 18) (r := 20 + 7 * v1.toNat) C (by decide) (by decide) (by decide) hc (by decide) rfl dX5_keep_17 rfl ?_
      refine g_aload_n (q := 19) C dX5_keep_18 rfl 0 rfl rfl ?_
      refine g_get (q := 22) C (by decide) (celr_5 (by decide)) (ci := 5) (i := 0) rfl inlX5 (by decide) wm_1_15 rfl dX5_keep_19 rfl ?_
      obtain ⟨p22, hM, H⟩ := H
      refine g_callV (q := 25) (As := [vr (xg x) 6]) (st := []) (na := 1) C mX4_becomes (hq17).o.1 (celr_4 (hq17).o.2) rfl hM wm_24_16 wm_5_23 wm_6_0 wm_1_14 wm_6_1 (by decide +kernel) rfl rfl (by decide) rfl (Nat.le_of_ble_eq_true rfl) dX5_keep_22 rfl (fun r22 M22 hp => ?_)
      have H := H r22 M22 hp
      show Gx x 2 25 [(0, vr (xg x) 0), (1, vi v1)] [] M22
      refine g_aload_n (q := 26) C dX5_keep_25 rfl 0 rfl rfl ?_
      refine g_get (q := 29) C (by decide) (celr_5 (by decide)) (ci := 5) (i := 3) rfl inlX5 (by decide) wm_1_19 rfl dX5_keep_26 rfl ?_
      refine g_iload_n (q := 30) C dX5_keep_29 rfl 1 rfl rfl ?_
      refine g_iconst (q := 31) C dX5_keep_30 rfl ?_
      obtain ⟨hc, H⟩ := H
      refine g_zast (q := 32) (m := 2) C (by decide) (by decide) (by decide) hc (by decide) (by decide) dX5_keep_31 rfl ?_
      refine g_topM (fun M31 hM31 => ?_)
      have H := H M31 hM31
      refine g_aload_n (q := 33) C dX5_keep_32 rfl 0 rfl rfl ?_
      refine g_get (q := 36) C (by decide) (celr_5 (by decide)) (ci := 5) (i := 4) rfl inlX5 (by decide) wm_1_23 rfl dX5_keep_33 rfl ?_
      refine g_iconst (q := 37) C dX5_keep_36 rfl ?_
      refine g_putN (q := 40) (ty := .int) C (by decide) (celr_0 (by decide)) (ci := 0) (i := 2) rfl inlX0 tyX0_ok nmX0 (by decide) (by decide +kernel) rfl rfl rfl rfl (Nat.le_of_ble_eq_true rfl) (by rw [celr_0 (by decide)]; rfl) dX5_keep_37 rfl ?_
      refine g_topM (fun M37 hM37 => ?_)
      have H := H M37 hM37
      refine g_aload_n (q := 41) C dX5_keep_40 rfl 0 rfl rfl ?_
      refine g_get (q := 44) C (by decide) (celr_5 (by decide)) (ci := 5) (i := 0) rfl inlX5 (by decide) wm_1_15 rfl dX5_keep_41 rfl ?_
      refine g_getN (q := 47) C (isS_6).o.1 (celr_4 (isS_6).o.2) (ci := 4) (i := 2) rfl inlX4 (by decide) (by decide +kernel) rfl dX5_keep_44 rfl ?_
      exact g_iret C hR dX5_keep_47 rfl H
    · have H := Hf hc
      refine g_ldc (q := 11) (z := (-1000000001)) C dX5_keep_9 rfl wc_8_9 ?_
      exact g_iret C hR dX5_keep_11 rfl H
set_option maxRecDepth 10000 in
set_option maxHeartbeats 2000000 in
theorem X5_goBack_0 {x : Xx} {post : Int → Mm → Prop} (C : Cx x mX5_goBack) (hR : Rt x mX5_goBack post)  (v1 : Int) (M : Mm) (H : (inR v1) ∧ (v1 < 0 → (post (-1000000001) M)) ∧ (¬ (v1 < 0) → ((inR v1) ∧ (v1 < 2 → ((0 ≤ v1 ∧ v1 < 2) ∧ ((inR (M 2 v1)) ∧ (¬ (M 2 v1 = 0) → ((0 ≤ v1 ∧ v1 < 2) ∧ (∃ p34 : Int → Mm → Prop, Ct (xl x) (xg x) mX4_becomes [vr (xg x) 6, vr (xg x) (20 + 7 * v1.toNat)] M p34 ∧ ∀ (r34 : Int) (M34 : Mm), p34 r34 M34 → (∀ M42 : Mm, M42 = mu M34 4 2 0 → (∀ M47 : Mm, M47 = mu M42 0 12 1 → (post (M47 6 2) M47)))))) ∧ (M 2 v1 = 0 → (post (-1000000003) M))))) ∧ (¬ (v1 < 2) → (post (-1000000001) M))))) : Gx x 2 0 [(0, vr (xg x) 0), (1, vi v1)] [] M := by
  refine g_iload_n (q := 1) C dX5_goBack_0 rfl 1 rfl rfl ?_
  obtain ⟨hr, Ht, Hf⟩ := H
  refine g_if_lt (q := 4) (t := 9) C dX5_goBack_1 rfl (by decide) hr (fun hc => ?_) (fun hc => ?_)
  · have H := Ht hc
    refine g_ldc (q := 11) (z := (-1000000001)) C dX5_goBack_9 rfl wc_8_9 ?_
    exact g_iret C hR dX5_goBack_11 rfl H
  · have H := Hf hc
    refine g_iload_n (q := 5) C dX5_goBack_4 rfl 1 rfl rfl ?_
    refine g_iconst (q := 6) C dX5_goBack_5 rfl ?_
    obtain ⟨hr, Ht, Hf⟩ := H
    refine g_icmp_lt (q := 9) (t := 12) C dX5_goBack_6 rfl (by decide) ⟨hr, by decide⟩ (fun hc => ?_) (fun hc => ?_)
    · have H := Ht hc
      refine g_aload_n (q := 13) C dX5_goBack_12 rfl 0 rfl rfl ?_
      refine g_get (q := 16) C (by decide) (celr_5 (by decide)) (ci := 5) (i := 3) rfl inlX5 (by decide) wm_1_19 rfl dX5_goBack_13 rfl ?_
      refine g_iload_n (q := 17) C dX5_goBack_16 rfl 1 rfl rfl ?_
      obtain ⟨hc, H⟩ := H
      refine g_zald (q := 18) (m := 2) C (by decide) (by decide) (by decide) hc (by decide) dX5_goBack_17 rfl ?_
      obtain ⟨hr, Ht, Hf⟩ := H
      refine g_if_ne (q := 21) (t := 24) C dX5_goBack_18 rfl (by decide) hr (fun hc => ?_) (fun hc => ?_)
      · have H := Ht hc
        refine g_aload_n (q := 25) C dX5_goBack_24 rfl 0 rfl rfl ?_
        refine g_get (q := 28) C (by decide) (celr_5 (by decide)) (ci := 5) (i := 0) rfl inlX5 (by decide) wm_1_15 rfl dX5_goBack_25 rfl ?_
        refine g_aload_n (q := 29) C dX5_goBack_28 rfl 0 rfl rfl ?_
        refine g_get (q := 32) C (by decide) (celr_5 (by decide)) (ci := 5) (i := 2) rfl inlX5 (by decide) wm_1_17 rfl dX5_goBack_29 rfl ?_
        refine g_iload_n (q := 33) C dX5_goBack_32 rfl 1 rfl rfl ?_
        obtain ⟨hc, H⟩ := H
        have hq33 := imgS hc
        refine g_sald (q := 34) (r := 20 + 7 * v1.toNat) C (by decide) (by decide) (by decide) hc (by decide) rfl dX5_goBack_33 rfl ?_
        obtain ⟨p34, hM, H⟩ := H
        refine g_callV (q := 37) (As := [vr (xg x) (20 + 7 * v1.toNat)]) (st := []) (na := 1) C mX4_becomes (isS_6).o.1 (celr_4 (isS_6).o.2) rfl hM wm_24_16 wm_5_23 wm_6_0 wm_1_14 wm_6_1 (by decide +kernel) rfl rfl (by decide) rfl (Nat.le_of_ble_eq_true rfl) dX5_goBack_34 rfl (fun r34 M34 hp => ?_)
        have H := H r34 M34 hp
        show Gx x 2 37 [(0, vr (xg x) 0), (1, vi v1)] [] M34
        refine g_aload_n (q := 38) C dX5_goBack_37 rfl 0 rfl rfl ?_
        refine g_get (q := 41) C (by decide) (celr_5 (by decide)) (ci := 5) (i := 4) rfl inlX5 (by decide) wm_1_23 rfl dX5_goBack_38 rfl ?_
        refine g_iconst (q := 42) C dX5_goBack_41 rfl ?_
        refine g_putN (q := 45) (ty := .int) C (by decide) (celr_0 (by decide)) (ci := 0) (i := 2) rfl inlX0 tyX0_ok nmX0 (by decide) (by decide +kernel) rfl rfl rfl rfl (Nat.le_of_ble_eq_true rfl) (by rw [celr_0 (by decide)]; rfl) dX5_goBack_42 rfl ?_
        refine g_topM (fun M42 hM42 => ?_)
        have H := H M42 hM42
        refine g_aload_n (q := 46) C dX5_goBack_45 rfl 0 rfl rfl ?_
        refine g_iconst (q := 47) C dX5_goBack_46 rfl ?_
        refine g_put (q := 50) (ty := .boolean) C (by decide) (celr_5 (by decide)) (ci := 5) (i := 12) rfl inlX5 tyX5_ok nmX5 (by decide) wm_2_14 rfl rfl (by decide) rfl (Nat.le_of_ble_eq_true rfl) (by rw [celr_5 (by decide)]; rfl) dX5_goBack_47 rfl ?_
        refine g_topM (fun M47 hM47 => ?_)
        have H := H M47 hM47
        refine g_aload_n (q := 51) C dX5_goBack_50 rfl 0 rfl rfl ?_
        refine g_get (q := 54) C (by decide) (celr_5 (by decide)) (ci := 5) (i := 0) rfl inlX5 (by decide) wm_1_15 rfl dX5_goBack_51 rfl ?_
        refine g_getN (q := 57) C (isS_6).o.1 (celr_4 (isS_6).o.2) (ci := 4) (i := 2) rfl inlX4 (by decide) (by decide +kernel) rfl dX5_goBack_54 rfl ?_
        exact g_iret C hR dX5_goBack_57 rfl H
      · have H := Hf hc
        refine g_ldc (q := 23) (z := (-1000000003)) C dX5_goBack_21 rfl wc_18_5 ?_
        exact g_iret C hR dX5_goBack_23 rfl H
    · have H := Hf hc
      refine g_ldc (q := 11) (z := (-1000000001)) C dX5_goBack_9 rfl wc_8_9 ?_
      exact g_iret C hR dX5_goBack_11 rfl H
