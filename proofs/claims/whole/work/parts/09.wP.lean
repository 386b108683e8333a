set_option maxRecDepth 10000 in
set_option maxHeartbeats 2000000 in
theorem X0_remember_0 {x : Xx} {post : Int → Mm → Prop} (C : Cx x mX0_remember) (hR : Rt x mX0_remember post) {k1 : Nat} (h1 : isS k1) (M : Mm) (H : (0 ≤ M 4 1 ∧ M 4 1 < 6) ∧ (∃ p10 : Int → Mm → Prop, Ct (xl x) (xg x) mX4_becomes [vr (xg x) (34 + 7 * (M 4 1).toNat), vr (xg x) k1] M p10 ∧ ∀ (r10 : Int) (M10 : Mm), p10 r10 M10 → ((0 ≤ (M10 4 1) + 1 ∧ (M10 4 1) + 1 < 2147483648) ∧ (∀ M23 : Mm, M23 = mu M10 4 1 (((M10 4 1) + 1) % 6) → ((inR ((M23 4 2) + 1)) ∧ (∀ M38 : Mm, M38 = mu M23 4 2 (if 6 < (M23 4 2) + 1 then 6 else (M23 4 2) + 1) → (post 0 M38))))))) : Gx x 2 0 [(0, vr (xg x) 4), (1, vr (xg x) k1)] [] M := by
  refine g_aload_n (q := 1) C dX0_remember_0 rfl 0 rfl rfl ?_
  refine g_get (q := 4) C (by decide) (celr_0 (by decide)) (ci := 0) (i := 0) rfl inlX0 (by decide) wm_3_3 rfl dX0_remember_1 rfl ?_
  refine g_aload_n (q := 5) C dX0_remember_4 rfl 0 rfl rfl ?_
  refine g_get (q := 8) C (by decide) (celr_0 (by decide)) (ci := 0) (i := 1) rfl inlX0 (by decide) wm_3_4 rfl dX0_remember_5 rfl ?_
  obtain ⟨hc, H⟩ := H
  have hq8 := ringS hc
  refine g_sald (q := 9) (r := 34 + 7 * (M 4 1).toNat) C (by decide) (by decide) (by decide) hc (by decide) rfl dX0_remember_8 rfl ?_
  refine g_aload_n (q := 10) C dX0_remember_9 rfl 1 rfl rfl ?_
  obtain ⟨p10, hM, H⟩ := H
  refine g_callV (q := 13) (As := [vr (xg x) k1]) (st := []) (na := 1) C mX4_becomes (hq8).o.1 (celr_4 (hq8).o.2) rfl hM wm_5_22 wm_5_23 wm_6_0 wm_1_14 wm_6_1 (by decide +kernel) rfl rfl (by decide) rfl (Nat.le_of_ble_eq_true rfl) dX0_remember_10 rfl (fun r10 M10 hp => ?_)
  have H := H r10 M10 hp
  show Gx x 2 13 [(0, vr (xg x) 4), (1, vr (xg x) k1)] [] M10
  refine g_aload_n (q := 14) C dX0_remember_13 rfl 0 rfl rfl ?_
  refine g_aload_n (q := 15) C dX0_remember_14 rfl 0 rfl rfl ?_
  refine g_get (q := 18) C (by decide) (celr_0 (by decide)) (ci := 0) (i := 1) rfl inlX0 (by decide) wm_3_4 rfl dX0_remember_15 rfl ?_
  refine g_iconst (q := 19) C dX0_remember_18 rfl ?_
  refine g_iadd (q := 20) C dX0_remember_19 rfl ?_
  refine g_bipush (q := 22) C dX0_remember_20 rfl (by decide) ?_
  obtain ⟨hc, H⟩ := H
  refine g_irem (q := 23) C dX0_remember_22 rfl ⟨hc, by decide⟩ ?_
  refine g_put (q := 26) (ty := .int) C (by decide) (celr_0 (by decide)) (ci := 0) (i := 1) rfl inlX0 tyX0_ok nmX0 (by decide) wm_3_4 rfl rfl rfl rfl (Nat.le_of_ble_eq_true rfl) (by rw [celr_0 (by decide)]; rfl) dX0_remember_23 rfl ?_
  refine g_topM (fun M23 hM23 => ?_)
  have H := H M23 hM23
  refine g_aload_n (q := 27) C dX0_remember_26 rfl 0 rfl rfl ?_
  refine g_aload_n (q := 28) C dX0_remember_27 rfl 0 rfl rfl ?_
  refine g_get (q := 31) C (by decide) (celr_0 (by decide)) (ci := 0) (i := 2) rfl inlX0 (by decide) wm_3_5 rfl dX0_remember_28 rfl ?_
  refine g_iconst (q := 32) C dX0_remember_31 rfl ?_
  refine g_iadd (q := 33) C dX0_remember_32 rfl ?_
  refine g_bipush (q := 35) C dX0_remember_33 rfl (by decide) ?_
  obtain ⟨hc, H⟩ := H
  refine g_mmin (q := 38) C ⟨hc, by decide⟩ wm_5_21 wm_5_6 wm_5_8 wm_5_7 rfl (by decide) (Nat.le_of_ble_eq_true rfl) dX0_remember_35 rfl ?_
  refine g_put (q := 41) (ty := .int) C (by decide) (celr_0 (by decide)) (ci := 0) (i := 2) rfl inlX0 tyX0_ok nmX0 (by decide) wm_3_5 rfl rfl rfl rfl (Nat.le_of_ble_eq_true rfl) (by rw [celr_0 (by decide)]; rfl) dX0_remember_38 rfl ?_
  refine g_topM (fun M38 hM38 => ?_)
  have H := H M38 hM38
  exact g_ret C hR dX0_remember_41 rfl H
set_option maxRecDepth 10000 in
set_option maxHeartbeats 2000000 in
theorem X3_solve_0 {x : Xx} {post : Int → Mm → Prop} (C : Cx x mX3_solve) (hR : Rt x mX3_solve post) {k0 : Nat} (h0 : isP k0) {k1 : Nat} (h1 : isS k1) (M : Mm) (H : ∃ p5 : Int → Mm → Prop, Ct (xl x) (xg x) mX1_take [vr (xg x) (k0 + 1), vr (xg x) k1] M p5 ∧ ∀ (r5 : Int) (M5 : Mm), p5 r5 M5 → (∃ p13 : Int → Mm → Prop, Ct (xl x) (xg x) mJ7_fill_53178 [vr (xg x) (k0 + 6), vi (-1)] M5 p13 ∧ ∀ (r13 : Int) (M13 : Mm), p13 r13 M13 → (∀ M18 : Mm, M18 = mu M13 k0 5 0 → ((inR (M18 (k0 + 1) 4)) ∧ (¬ (M18 (k0 + 1) 4 = (-1)) → (post 0 M18)) ∧ (M18 (k0 + 1) 4 = (-1) → (∃ p33 : Int → Mm → Prop, Ct (xl x) (xg x) mX3_reachPlaces [vr (xg x) k0] M18 p33 ∧ ∀ (r33 : Int) (M33 : Mm), p33 r33 M33 → (∃ p37 : Int → Mm → Prop, Ct (xl x) (xg x) mX3_valuePlaces [vr (xg x) k0] M33 p37 ∧ ∀ (r37 : Int) (M37 : Mm), p37 r37 M37 → (post 0 M37)))))))) : Gx x 2 0 [(0, vr (xg x) k0), (1, vr (xg x) k1)] [] M := by
  refine g_aload_n (q := 1) C dX3_solve_0 rfl 0 rfl rfl ?_
  refine g_get (q := 4) C (h0).o.1 (celr_3 (h0).o.2) (ci := 3) (i := 0) rfl inlX3 (by decide) wm_3_12 rfl dX3_solve_1 rfl ?_
  refine g_aload_n (q := 5) C dX3_solve_4 rfl 1 rfl rfl ?_
  obtain ⟨p5, hM, H⟩ := H
  refine g_callV (q := 8) (As := [vr (xg x) k1]) (st := []) (na := 1) C mX1_take ((h0).m).o.1 (celr_1 ((h0).m).o.2) rfl hM wm_10_17 wm_10_18 wm_10_19 wm_3_11 wm_10_20 (by decide +kernel) rfl rfl (by decide) rfl (Nat.le_of_ble_eq_true rfl) dX3_solve_5 rfl (fun r5 M5 hp => ?_)
  have H := H r5 M5 hp
  show Gx x 2 8 [(0, vr (xg x) k0), (1, vr (xg x) k1)] [] M5
  refine g_aload_n (q := 9) C dX3_solve_8 rfl 0 rfl rfl ?_
  refine g_get (q := 12) C (h0).o.1 (celr_3 (h0).o.2) (ci := 3) (i := 1) rfl inlX3 (by decide) wm_3_13 rfl dX3_solve_9 rfl ?_
  refine g_iconst (q := 13) C dX3_solve_12 rfl ?_
  obtain ⟨p13, hM, H⟩ := H
  refine g_callS (q := 16) (As := [vr (xg x) (k0 + 6), vi (-1)]) (st := []) (na := 2) C mJ7_fill_53178 hM wm_11_14 wm_11_15 wm_11_16 wm_11_17 (by decide +kernel) rfl rfl (by decide) rfl (Nat.le_of_ble_eq_true rfl) dX3_solve_13 rfl (fun r13 M13 hp => ?_)
  have H := H r13 M13 hp
  show Gx x 2 16 [(0, vr (xg x) k0), (1, vr (xg x) k1)] [] M13
  refine g_aload_n (q := 17) C dX3_solve_16 rfl 0 rfl rfl ?_
  refine g_iconst (q := 18) C dX3_solve_17 rfl ?_
  refine g_put (q := 21) (ty := .int) C (h0).o.1 (celr_3 (h0).o.2) (ci := 3) (i := 5) rfl inlX3 tyX3_ok nmX3 (by decide) wm_10_16 rfl rfl rfl rfl (Nat.le_of_ble_eq_true rfl) (by rw [celr_3 (h0).o.2]; rfl) dX3_solve_18 rfl ?_
  refine g_topM (fun M18 hM18 => ?_)
  have H := H M18 hM18
  refine g_aload_n (q := 22) C dX3_solve_21 rfl 0 rfl rfl ?_
  refine g_get (q := 25) C (h0).o.1 (celr_3 (h0).o.2) (ci := 3) (i := 0) rfl inlX3 (by decide) wm_3_12 rfl dX3_solve_22 rfl ?_
  refine g_getN (q := 28) C ((h0).m).o.1 (celr_1 ((h0).m).o.2) (ci := 1) (i := 4) rfl inlX1 (by decide) (by decide +kernel) rfl dX3_solve_25 rfl ?_
  refine g_iconst (q := 29) C dX3_solve_28 rfl ?_
  obtain ⟨hr, Ht, Hf⟩ := H
  refine g_icmp_ne (q := 32) (t := 40) C dX3_solve_29 rfl (by decide) ⟨hr, by decide⟩ (fun hc => ?_) (fun hc => ?_)
  · have H := Ht hc
    exact g_ret C hR dX3_solve_40 rfl H
  · have H := Hf hc
    refine g_aload_n (q := 33) C dX3_solve_32 rfl 0 rfl rfl ?_
    obtain ⟨p33, hM, H⟩ := H
    refine g_callV (q := 36) (As := []) (st := []) (na := 0) C mX3_reachPlaces (h0).o.1 (celr_3 (h0).o.2) rfl hM wm_11_18 wm_11_19 wm_11_20 wm_2_2 wm_11_21 (by decide +kernel) rfl rfl (by decide) rfl (Nat.le_of_ble_eq_true rfl) dX3_solve_33 rfl (fun r33 M33 hp => ?_)
    have H := H r33 M33 hp
    show Gx x 2 36 [(0, vr (xg x) k0), (1, vr (xg x) k1)] [] M33
    refine g_aload_n (q := 37) C dX3_solve_36 rfl 0 rfl rfl ?_
    obtain ⟨p37, hM, H⟩ := H
    refine g_callV (q := 40) (As := []) (st := []) (na := 0) C mX3_valuePlaces (h0).o.1 (celr_3 (h0).o.2) rfl hM wm_12_23 wm_13_0 wm_13_1 wm_2_2 wm_13_2 (by decide +kernel) rfl rfl (by decide) rfl (Nat.le_of_ble_eq_true rfl) dX3_solve_37 rfl (fun r37 M37 hp => ?_)
    have H := H r37 M37 hp
    show Gx x 2 40 [(0, vr (xg x) k0), (1, vr (xg x) k1)] [] M37
    exact g_ret C hR dX3_solve_40 rfl H
set_option maxRecDepth 10000 in
set_option maxHeartbeats 2000000 in
theorem X3_reachPlaces_0 {x : Xx} {post : Int → Mm → Prop} (C : Cx x mX3_reachPlaces) (hR : Rt x mX3_reachPlaces post) {k0 : Nat} (h0 : isP k0) (M : Mm) (H : ∀ M6 : Mm, M6 = mu M (k0 + 6) 0 0 → (Gx x 4 9 [(0, vr (xg x) k0), (1, vi 0)] [] M6)) : Gx x 4 0 [(0, vr (xg x) k0)] [] M := by
  refine g_aload_n (q := 1) C dX3_reachPlaces_0 rfl 0 rfl rfl ?_
  refine g_get (q := 4) C (h0).o.1 (celr_3 (h0).o.2) (ci := 3) (i := 1) rfl inlX3 (by decide) wm_3_13 rfl dX3_reachPlaces_1 rfl ?_
  refine g_iconst (q := 5) C dX3_reachPlaces_4 rfl ?_
  refine g_iconst (q := 6) C dX3_reachPlaces_5 rfl ?_
  refine g_iast (q := 7) (m := 1331) C ((h0).a6).1 ((h0).a6).2.1 ((h0).a6).2.2 (by decide) (by decide) dX3_reachPlaces_6 rfl ?_
  refine g_topM (fun M6 hM6 => ?_)
  have H := H M6 hM6
  refine g_iconst (q := 8) C dX3_reachPlaces_7 rfl ?_
  refine g_istore_n (q := 9) (L2 := [(1, vi 0), (0, vr (xg x) k0)]) C dX3_reachPlaces_8 rfl rfl (by decide) rfl ?_
  refine g_sub [1, 0] rfl ?_
  exact H
set_option maxRecDepth 10000 in
set_option maxHeartbeats 2000000 in
theorem X3_reachPlaces_9 {x : Xx} {post : Int → Mm → Prop} (C : Cx x mX3_reachPlaces) (hR : Rt x mX3_reachPlaces post) {k0 : Nat} (h0 : isP k0) (v1 : Int) (M : Mm) (H : (inR v1 ∧ inR (M (k0 + 1) 0)) ∧ (M (k0 + 1) 0 < v1 → (post 0 M)) ∧ (¬ (M (k0 + 1) 0 < v1) → (Gx x 4 22 [(0, vr (xg x) k0), (1, vi v1), (2, vi 0)] [] M))) : Gx x 4 9 [(0, vr (xg x) k0), (1, vi v1)] [] M := by
  refine g_iload_n (q := 10) C dX3_reachPlaces_9 rfl 1 rfl rfl ?_
  refine g_aload_n (q := 11) C dX3_reachPlaces_10 rfl 0 rfl rfl ?_
  refine g_get (q := 14) C (h0).o.1 (celr_3 (h0).o.2) (ci := 3) (i := 0) rfl inlX3 (by decide) wm_3_12 rfl dX3_reachPlaces_11 rfl ?_
  refine g_getN (q := 17) C ((h0).m).o.1 (celr_1 ((h0).m).o.2) (ci := 1) (i := 0) rfl inlX1 (by decide) (by decide +kernel) rfl dX3_reachPlaces_14 rfl ?_
  obtain ⟨hr, Ht, Hf⟩ := H
  refine g_icmp_gt (q := 20) (t := 93) C dX3_reachPlaces_17 rfl (by decide) hr (fun hc => ?_) (fun hc => ?_)
  · have H := Ht hc
    exact g_ret C hR dX3_reachPlaces_93 rfl H
  · have H := Hf hc
    refine g_iconst (q := 21) C dX3_reachPlaces_20 rfl ?_
    refine g_istore_n (q := 22) (L2 := [(2, vi 0), (0, vr (xg x) k0), (1, vi v1)]) C dX3_reachPlaces_21 rfl rfl (by decide) rfl ?_
    refine g_sub [1, 2, 0] rfl ?_
    exact H
set_option maxRecDepth 10000 in
set_option maxHeartbeats 2000000 in
theorem X3_reachPlaces_22 {x : Xx} {post : Int → Mm → Prop} (C : Cx x mX3_reachPlaces) (hR : Rt x mX3_reachPlaces post) {k0 : Nat} (h0 : isP k0) (v1 v2 : Int) (M : Mm) (H : (inR v2 ∧ inR (M (k0 + 1) 1)) ∧ (M (k0 + 1) 1 < v2 → (Gx x 4 9 [(0, vr (xg x) k0), (1, vi (v1 + 1))] [] M)) ∧ (¬ (M (k0 + 1) 1 < v2) → (∀ w39 : Int, w39 = ((v1 * 11) + v2) → ((0 ≤ w39 ∧ w39 < 1331) ∧ ((inR (M (k0 + 6) w39)) ∧ (M (k0 + 6) w39 = (-1) → (Gx x 4 22 [(0, vr (xg x) k0), (1, vi v1), (2, vi (v2 + 1))] [] M)) ∧ (¬ (M (k0 + 6) w39 = (-1)) → (∀ M57 : Mm, M57 = mu M k0 5 ((M k0 5) + 1) → (∃ p71 : Int → Mm → Prop, Ct (xl x) (xg x) mX1_toll [vr (xg x) (k0 + 1), vi v1, vi v2] M57 p71 ∧ ∀ (r71 : Int) (M71 : Mm), p71 r71 M71 → ((0 ≤ w39 ∧ w39 < 1331) ∧ (∀ M74 : Mm, M74 = mu M71 (k0 + 7) w39 r71 → (∃ p78 : Int → Mm → Prop, Ct (xl x) (xg x) mX3_reachFrom [vr (xg x) k0, vi v1, vi v2] M74 p78 ∧ ∀ (r78 : Int) (M78 : Mm), p78 r78 M78 → (Gx x 4 22 [(0, vr (xg x) k0), (1, vi v1), (2, vi (v2 + 1))] [] M78)))))))))))) : Gx x 4 22 [(0, vr (xg x) k0), (1, vi v1), (2, vi v2)] [] M := by
  refine g_iload_n (q := 23) C dX3_reachPlaces_22 rfl 2 rfl rfl ?_
  refine g_aload_n (q := 24) C dX3_reachPlaces_23 rfl 0 rfl rfl ?_
  refine g_get (q := 27) C (h0).o.1 (celr_3 (h0).o.2) (ci := 3) (i := 0) rfl inlX3 (by decide) wm_3_12 rfl dX3_reachPlaces_24 rfl ?_
  refine g_getN (q := 30) C ((h0).m).o.1 (celr_1 ((h0).m).o.2) (ci := 1) (i := 1) rfl inlX1 (by decide) (by decide +kernel) rfl dX3_reachPlaces_27 rfl ?_
  obtain ⟨hr, Ht, Hf⟩ := H
  refine g_icmp_gt (q := 33) (t := 87) C dX3_reachPlaces_30 rfl (by decide) hr (fun hc => ?_) (fun hc => ?_)
  · have H := Ht hc
    refine g_iinc (q := 90) (L2 := [(1, vi (v1 + 1)), (0, vr (xg x) k0), (2, vi v2)]) C dX3_reachPlaces_87 rfl 1 rfl (by decide) rfl ?_
    refine g_goto (t := 9) C dX3_reachPlaces_90 (by decide) ?_
    refine g_sub [1, 0] rfl ?_
    exact H
  · have H := Hf hc
    refine g_iload_n (q := 34) C dX3_reachPlaces_33 rfl 1 rfl rfl ?_
    refine g_bipush (q := 36) C dX3_reachPlaces_34 rfl (by decide) ?_
    refine g_imul (q := 37) C dX3_reachPlaces_36 rfl ?_
    refine g_iload_n (q := 38) C dX3_reachPlaces_37 rfl 2 rfl rfl ?_
    refine g_iadd (q := 39) C dX3_reachPlaces_38 rfl ?_
    refine g_topi (fun w39 hw39 => ?_)
    have H := H w39 hw39
    refine g_istore_n (q := 40) (L2 := [(3, vi w39), (0, vr (xg x) k0), (1, vi v1), (2, vi v2)]) C dX3_reachPlaces_39 rfl rfl (by decide) rfl ?_
    refine g_aload_n (q := 41) C dX3_reachPlaces_40 rfl 1 rfl rfl ?_
    refine g_get (q := 44) C (h0).o.1 (celr_3 (h0).o.2) (ci := 3) (i := 1) rfl inlX3 (by decide) wm_3_13 rfl dX3_reachPlaces_41 rfl ?_
    refine g_iload_n (q := 45) C dX3_reachPlaces_44 rfl 0 rfl rfl ?_
    obtain ⟨hc, H⟩ := H
    refine g_iald (q := 46) (m := 1331) C ((h0).a6).1 ((h0).a6).2.1 ((h0).a6).2.2 hc (by decide) dX3_reachPlaces_45 rfl ?_
    refine g_iconst (q := 47) C dX3_reachPlaces_46 rfl ?_
    obtain ⟨hr, Ht, Hf⟩ := H
    refine g_icmp_eq (q := 50) (t := 81) C dX3_reachPlaces_47 rfl (by decide) ⟨hr, by decide⟩ (fun hc => ?_) (fun hc => ?_)
    · have H := Ht hc
      refine g_iinc (q := 84) (L2 := [(2, vi (v2 + 1)), (3, vi w39), (0, vr (xg x) k0), (1, vi v1)]) C dX3_reachPlaces_81 rfl 3 rfl (by decide) rfl ?_
      refine g_goto (t := 22) C dX3_reachPlaces_84 (by decide) ?_
      refine g_sub [2, 3, 0] rfl ?_
      exact H
    · have H := Hf hc
      refine g_aload_n (q := 51) C dX3_reachPlaces_50 rfl 1 rfl rfl ?_
      refine g_dup (q := 52) C dX3_reachPlaces_51 rfl rfl ?_
      refine g_get (q := 55) C (h0).o.1 (celr_3 (h0).o.2) (ci := 3) (i := 5) rfl inlX3 (by decide) wm_10_16 rfl dX3_reachPlaces_52 rfl ?_
      refine g_iconst (q := 56) C dX3_reachPlaces_55 rfl ?_
      refine g_iadd (q := 57) C dX3_reachPlaces_56 rfl ?_
      refine g_put (q := 60) (ty := .int) C (h0).o.1 (celr_3 (h0).o.2) (ci := 3) (i := 5) rfl inlX3 tyX3_ok nmX3 (by decide) wm_10_16 rfl rfl rfl rfl (Nat.le_of_ble_eq_true rfl) (by rw [celr_3 (h0).o.2]; rfl) dX3_reachPlaces_57 rfl ?_
      refine g_topM (fun M57 hM57 => ?_)
      have H := H M57 hM57
      refine g_aload_n (q := 61) C dX3_reachPlaces_60 rfl 1 rfl rfl ?_
      refine g_get (q := 64) C (h0).o.1 (celr_3 (h0).o.2) (ci := 3) (i := 2) rfl inlX3 (by decide) wm_3_14 rfl dX3_reachPlaces_61 rfl ?_
      refine g_iload_n (q := 65) C dX3_reachPlaces_64 rfl 0 rfl rfl ?_
      refine g_aload_n (q := 66) C dX3_reachPlaces_65 rfl 1 rfl rfl ?_
      refine g_get (q := 69) C (h0).o.1 (celr_3 (h0).o.2) (ci := 3) (i := 0) rfl inlX3 (by decide) wm_3_12 rfl dX3_reachPlaces_66 rfl ?_
      refine g_iload_n (q := 70) C dX3_reachPlaces_69 rfl 2 rfl rfl ?_
      refine g_iload_n (q := 71) C dX3_reachPlaces_70 rfl 3 rfl rfl ?_
      obtain ⟨p71, hM, H⟩ := H
      refine g_callV (q := 74) (As := [vi v1, vi v2]) (st := [vi w39, vr (xg x) (k0 + 7)]) (na := 2) C mX1_toll ((h0).m).o.1 (celr_1 ((h0).m).o.2) rfl hM wm_11_22 wm_11_23 wm_12_0 wm_3_11 wm_12_1 (by decide +kernel) rfl rfl (by decide) rfl (Nat.le_of_ble_eq_true rfl) dX3_reachPlaces_71 rfl (fun r71 M71 hp => ?_)
      have H := H r71 M71 hp
      show Gx x 4 74 [(3, vi w39), (0, vr (xg x) k0), (1, vi v1), (2, vi v2)] [vi r71, vi w39, vr (xg x) (k0 + 7)] M71
      obtain ⟨hc, H⟩ := H
      refine g_iast (q := 75) (m := 1331) C ((h0).a7).1 ((h0).a7).2.1 ((h0).a7).2.2 hc (by decide) dX3_reachPlaces_74 rfl ?_
      refine g_topM (fun M74 hM74 => ?_)
      have H := H M74 hM74
      refine g_aload_n (q := 76) C dX3_reachPlaces_75 rfl 1 rfl rfl ?_
      refine g_iload_n (q := 77) C dX3_reachPlaces_76 rfl 2 rfl rfl ?_
      refine g_iload_n (q := 78) C dX3_reachPlaces_77 rfl 3 rfl rfl ?_
      obtain ⟨p78, hM, H⟩ := H
      refine g_callV (q := 81) (As := [vi v1, vi v2]) (st := []) (na := 2) C mX3_reachFrom (h0).o.1 (celr_3 (h0).o.2) rfl hM wm_12_2 wm_12_3 wm_12_4 wm_2_2 wm_12_5 (by decide +kernel) rfl rfl (by decide) rfl (Nat.le_of_ble_eq_true rfl) dX3_reachPlaces_78 rfl (fun r78 M78 hp => ?_)
      have H := H r78 M78 hp
      show Gx x 4 81 [(3, vi w39), (0, vr (xg x) k0), (1, vi v1), (2, vi v2)] [] M78
      refine g_iinc (q := 84) (L2 := [(2, vi (v2 + 1)), (3, vi w39), (0, vr (xg x) k0), (1, vi v1)]) C dX3_reachPlaces_81 rfl 3 rfl (by decide) rfl ?_
      refine g_goto (t := 22) C dX3_reachPlaces_84 (by decide) ?_
      refine g_sub [2, 3, 0] rfl ?_
      exact H
set_option maxRecDepth 10000 in
set_option maxHeartbeats 2000000 in
theorem X3_reachFrom_0 {x : Xx} {post : Int → Mm → Prop} (C : Cx x mX3_reachFrom) (hR : Rt x mX3_reachFrom post) {k0 : Nat} (h0 : isP k0) (v1 v2 : Int) (M : Mm) (H : Gx x 4 2 [(0, vr (xg x) k0), (1, vi v1), (2, vi v2), (3, vi 0)] [] M) : Gx x 4 0 [(0, vr (xg x) k0), (1, vi v1), (2, vi v2)] [] M := by
  refine g_iconst (q := 1) C dX3_reachFrom_0 rfl ?_
  refine g_istore_n (q := 2) (L2 := [(3, vi 0), (0, vr (xg x) k0), (1, vi v1), (2, vi v2)]) C dX3_reachFrom_1 rfl rfl (by decide) rfl ?_
  refine g_sub [1, 2, 3, 0] rfl ?_
  exact H
set_option maxRecDepth 10000 in
set_option maxHeartbeats 2000000 in
theorem X3_reachFrom_2 {x : Xx} {post : Int → Mm → Prop} (C : Cx x mX3_reachFrom) (hR : Rt x mX3_reachFrom post) {k0 : Nat} (h0 : isP k0) (v1 v2 v3 : Int) (M : Mm) (H : (0 ≤ v2 ∧ v2 < 11) ∧ ((inR v3 ∧ inR (M (k0 + 1 + 3) v2)) ∧ (M (k0 + 1 + 3) v2 < v3 → (post 0 M)) ∧ (¬ (M (k0 + 1 + 3) v2 < v3) → (∃ p22 : Int → Mm → Prop, Ct (xl x) (xg x) mX1_mayTake [vr (xg x) (k0 + 1), vi v1, vi v2, vi v3] M p22 ∧ ∀ (r22 : Int) (M22 : Mm), p22 r22 M22 → ((inR r22) ∧ (r22 = 0 → (Gx x 4 2 [(0, vr (xg x) k0), (1, vi v1), (2, vi v2), (3, vi (v3 + 1))] [] M22)) ∧ (¬ (r22 = 0) → (∃ p36 : Int → Mm → Prop, Ct (xl x) (xg x) mX3_placeBehind [vr (xg x) k0, vi v1, vi v2, vi v3] M22 p36 ∧ ∀ (r36 : Int) (M36 : Mm), p36 r36 M36 → ((0 ≤ r36 ∧ r36 < 1331) ∧ (∀ M40 : Mm, M40 = mu M36 (k0 + 6) r36 0 → (Gx x 4 2 [(0, vr (xg x) k0), (1, vi v1), (2, vi v2), (3, vi (v3 + 1))] [] M40)))))))))) : Gx x 4 2 [(0, vr (xg x) k0), (1, vi v1), (2, vi v2), (3, vi v3)] [] M := by
  refine g_iload_n (q := 3) C dX3_reachFrom_2 rfl 3 rfl rfl ?_
  refine g_aload_n (q := 4) C dX3_reachFrom_3 rfl 0 rfl rfl ?_
  refine g_get (q := 7) C (h0).o.1 (celr_3 (h0).o.2) (ci := 3) (i := 0) rfl inlX3 (by decide) wm_3_12 rfl dX3_reachFrom_4 rfl ?_
  refine g_getN (q := 10) C ((h0).m).o.1 (celr_1 ((h0).m).o.2) (ci := 1) (i := 7) rfl inlX1 (by decide) (by decide +kernel) rfl dX3_reachFrom_7 rfl ?_
  refine g_iload_n (q := 11) C dX3_reachFrom_10 rfl 2 rfl rfl ?_
  obtain ⟨hc, H⟩ := H
  refine g_iald (q := 12) (m := 11) C (((h0).m).a3).1 (((h0).m).a3).2.1 (((h0).m).a3).2.2 hc (by decide) dX3_reachFrom_11 rfl ?_
  obtain ⟨hr, Ht, Hf⟩ := H
  refine g_icmp_gt (q := 15) (t := 47) C dX3_reachFrom_12 rfl (by decide) hr (fun hc => ?_) (fun hc => ?_)
  · have H := Ht hc
    exact g_ret C hR dX3_reachFrom_47 rfl H
  · have H := Hf hc
    refine g_aload_n (q := 16) C dX3_reachFrom_15 rfl 0 rfl rfl ?_
    refine g_get (q := 19) C (h0).o.1 (celr_3 (h0).o.2) (ci := 3) (i := 0) rfl inlX3 (by decide) wm_3_12 rfl dX3_reachFrom_16 rfl ?_
    refine g_iload_n (q := 20) C dX3_reachFrom_19 rfl 1 rfl rfl ?_
    refine g_iload_n (q := 21) C dX3_reachFrom_20 rfl 2 rfl rfl ?_
    refine g_iload_n (q := 22) C dX3_reachFrom_21 rfl 3 rfl rfl ?_
    obtain ⟨p22, hM, H⟩ := H
    refine g_callV (q := 25) (As := [vi v1, vi v2, vi v3]) (st := []) (na := 3) C mX1_mayTake ((h0).m).o.1 (celr_1 ((h0).m).o.2) rfl hM wm_12_6 wm_12_7 wm_12_8 wm_3_11 wm_12_9 (by decide +kernel) rfl rfl (by decide) rfl (Nat.le_of_ble_eq_true rfl) dX3_reachFrom_22 rfl (fun r22 M22 hp => ?_)
    have H := H r22 M22 hp
    show Gx x 4 25 [(0, vr (xg x) k0), (1, vi v1), (2, vi v2), (3, vi v3)] [vi r22] M22
    obtain ⟨hr, Ht, Hf⟩ := H
    refine g_if_eq (q := 28) (t := 41) C dX3_reachFrom_25 rfl (by decide) hr (fun hc => ?_) (fun hc => ?_)
    · have H := Ht hc
      refine g_iinc (q := 44) (L2 := [(3, vi (v3 + 1)), (0, vr (xg x) k0), (1, vi v1), (2, vi v2)]) C dX3_reachFrom_41 rfl 3 rfl (by decide) rfl ?_
      refine g_goto (t := 2) C dX3_reachFrom_44 (by decide) ?_
      refine g_sub [1, 2, 3, 0] rfl ?_
      exact H
    · have H := Hf hc
      refine g_aload_n (q := 29) C dX3_reachFrom_28 rfl 0 rfl rfl ?_
      refine g_get (q := 32) C (h0).o.1 (celr_3 (h0).o.2) (ci := 3) (i := 1) rfl inlX3 (by decide) wm_3_13 rfl dX3_reachFrom_29 rfl ?_
      refine g_aload_n (q := 33) C dX3_reachFrom_32 rfl 0 rfl rfl ?_
      refine g_iload_n (q := 34) C dX3_reachFrom_33 rfl 1 rfl rfl ?_
      refine g_iload_n (q := 35) C dX3_reachFrom_34 rfl 2 rfl rfl ?_
      refine g_iload_n (q := 36) C dX3_reachFrom_35 rfl 3 rfl rfl ?_
      obtain ⟨p36, hM, H⟩ := H
      refine g_callV (q := 39) (As := [vi v1, vi v2, vi v3]) (st := [vr (xg x) (k0 + 6)]) (na := 3) C mX3_placeBehind (h0).o.1 (celr_3 (h0).o.2) rfl hM wm_12_18 wm_12_19 wm_12_20 wm_2_2 wm_12_21 (by decide +kernel) rfl rfl (by decide) rfl (Nat.le_of_ble_eq_true rfl) dX3_reachFrom_36 rfl (fun r36 M36 hp => ?_)
      have H := H r36 M36 hp
      show Gx x 4 39 [(0, vr (xg x) k0), (1, vi v1), (2, vi v2), (3, vi v3)] [vi r36, vr (xg x) (k0 + 6)] M36
      refine g_iconst (q := 40) C dX3_reachFrom_39 rfl ?_
      obtain ⟨hc, H⟩ := H
      refine g_iast (q := 41) (m := 1331) C ((h0).a6).1 ((h0).a6).2.1 ((h0).a6).2.2 hc (by decide) dX3_reachFrom_40 rfl ?_
      refine g_topM (fun M40 hM40 => ?_)
      have H := H M40 hM40
      refine g_iinc (q := 44) (L2 := [(3, vi (v3 + 1)), (0, vr (xg x) k0), (1, vi v1), (2, vi v2)]) C dX3_reachFrom_41 rfl 3 rfl (by decide) rfl ?_
      refine g_goto (t := 2) C dX3_reachFrom_44 (by decide) ?_
      refine g_sub [1, 2, 3, 0] rfl ?_
      exact H
set_option maxRecDepth 10000 in
set_option maxHeartbeats 2000000 in
theorem X3_placeBehind_0 {x : Xx} {post : Int → Mm → Prop} (C : Cx x mX3_placeBehind) (hR : Rt x mX3_placeBehind post) {k0 : Nat} (h0 : isP k0) (v1 v2 v3 : Int) (M : Mm) (H : ∃ p7 : Int → Mm → Prop, Ct (xl x) (xg x) mX1_linesBehind [vr (xg x) (k0 + 1), vi v1, vi v2, vi v3] M p7 ∧ ∀ (r7 : Int) (M7 : Mm), p7 r7 M7 → (post (((r7 * 11) + v2) + v3) M7)) : Gx x 4 0 [(0, vr (xg x) k0), (1, vi v1), (2, vi v2), (3, vi v3)] [] M := by
  refine g_aload_n (q := 1) C dX3_placeBehind_0 rfl 0 rfl rfl ?_
  refine g_get (q := 4) C (h0).o.1 (celr_3 (h0).o.2) (ci := 3) (i := 0) rfl inlX3 (by decide) wm_3_12 rfl dX3_placeBehind_1 rfl ?_
  refine g_iload_n (q := 5) C dX3_placeBehind_4 rfl 1 rfl rfl ?_
  refine g_iload_n (q := 6) C dX3_placeBehind_5 rfl 2 rfl rfl ?_
  refine g_iload_n (q := 7) C dX3_placeBehind_6 rfl 3 rfl rfl ?_
  obtain ⟨p7, hM, H⟩ := H
  refine g_callV (q := 10) (As := [vi v1, vi v2, vi v3]) (st := []) (na := 3) C mX1_linesBehind ((h0).m).o.1 (celr_1 ((h0).m).o.2) rfl hM wm_12_22 wm_12_11 wm_12_12 wm_3_11 wm_12_13 (by decide +kernel) rfl rfl (by decide) rfl (Nat.le_of_ble_eq_true rfl) dX3_placeBehind_7 rfl (fun r7 M7 hp => ?_)
  have H := H r7 M7 hp
  show Gx x 4 10 [(0, vr (xg x) k0), (1, vi v1), (2, vi v2), (3, vi v3)] [vi r7] M7
  refine g_bipush (q := 12) C dX3_placeBehind_10 rfl (by decide) ?_
  refine g_imul (q := 13) C dX3_placeBehind_12 rfl ?_
  refine g_iload_n (q := 14) C dX3_placeBehind_13 rfl 2 rfl rfl ?_
  refine g_iadd (q := 15) C dX3_placeBehind_14 rfl ?_
  refine g_iload_n (q := 16) C dX3_placeBehind_15 rfl 3 rfl rfl ?_
  refine g_iadd (q := 17) C dX3_placeBehind_16 rfl ?_
  exact g_iret C hR dX3_placeBehind_17 rfl H
set_option maxRecDepth 10000 in
set_option maxHeartbeats 2000000 in
theorem X3_valuePlaces_0 {x : Xx} {post : Int → Mm → Prop} (C : Cx x mX3_valuePlaces) (hR : Rt x mX3_valuePlaces post) {k0 : Nat} (h0 : isP k0) (M : Mm) (H : ∀ w7 : Int, w7 = (M (k0 + 1) 0) → (Gx x 3 8 [(0, vr (xg x) k0), (1, vi w7)] [] M)) : Gx x 3 0 [(0, vr (xg x) k0)] [] M := by
  refine g_aload_n (q := 1) C dX3_valuePlaces_0 rfl 0 rfl rfl ?_
  refine g_get (q := 4) C (h0).o.1 (celr_3 (h0).o.2) (ci := 3) (i := 0) rfl inlX3 (by decide) wm_3_12 rfl dX3_valuePlaces_1 rfl ?_
  refine g_getN (q := 7) C ((h0).m).o.1 (celr_1 ((h0).m).o.2) (ci := 1) (i := 0) rfl inlX1 (by decide) (by decide +kernel) rfl dX3_valuePlaces_4 rfl ?_
  refine g_topi (fun w7 hw7 => ?_)
  have H := H w7 hw7
  refine g_istore_n (q := 8) (L2 := [(1, vi w7), (0, vr (xg x) k0)]) C dX3_valuePlaces_7 rfl rfl (by decide) rfl ?_
  refine g_sub [1, 0] rfl ?_
  exact H
set_option maxRecDepth 10000 in
set_option maxHeartbeats 2000000 in
theorem X3_valuePlaces_8 {x : Xx} {post : Int → Mm → Prop} (C : Cx x mX3_valuePlaces) (hR : Rt x mX3_valuePlaces post) {k0 : Nat} (h0 : isP k0) (v1 : Int) (M : Mm) (H : (inR v1) ∧ (v1 < 0 → (post 0 M)) ∧ (¬ (v1 < 0) → (∀ w19 : Int, w19 = (M (k0 + 1) 1) → (Gx x 3 20 [(0, vr (xg x) k0), (1, vi v1), (2, vi w19)] [] M)))) : Gx x 3 8 [(0, vr (xg x) k0), (1, vi v1)] [] M := by
  refine g_iload_n (q := 9) C dX3_valuePlaces_8 rfl 1 rfl rfl ?_
  obtain ⟨hr, Ht, Hf⟩ := H
  refine g_if_lt (q := 12) (t := 57) C dX3_valuePlaces_9 rfl (by decide) hr (fun hc => ?_) (fun hc => ?_)
  · have H := Ht hc
    exact g_ret C hR dX3_valuePlaces_57 rfl H
  · have H := Hf hc
    refine g_aload_n (q := 13) C dX3_valuePlaces_12 rfl 0 rfl rfl ?_
    refine g_get (q := 16) C (h0).o.1 (celr_3 (h0).o.2) (ci := 3) (i := 0) rfl inlX3 (by decide) wm_3_12 rfl dX3_valuePlaces_13 rfl ?_
    refine g_getN (q := 19) C ((h0).m).o.1 (celr_1 ((h0).m).o.2) (ci := 1) (i := 1) rfl inlX1 (by decide) (by decide +kernel) rfl dX3_valuePlaces_16 rfl ?_
    refine g_topi (fun w19 hw19 => ?_)
    have H := H w19 hw19
    refine g_istore_n (q := 20) (L2 := [(2, vi w19), (0, vr (xg x) k0), (1, vi v1)]) C dX3_valuePlaces_19 rfl rfl (by decide) rfl ?_
    refine g_sub [1, 2, 0] rfl ?_
    exact H
set_option maxRecDepth 10000 in
set_option maxHeartbeats 2000000 in
theorem X3_valuePlaces_20 {x : Xx} {post : Int → Mm → Prop} (C : Cx x mX3_valuePlaces) (hR : Rt x mX3_valuePlaces post) {k0 : Nat} (h0 : isP k0) (v1 v2 : Int) (M : Mm) (H : (inR v2) ∧ (v2 < 0 → (Gx x 3 8 [(0, vr (xg x) k0), (1, vi (v1 + (-1)))] [] M)) ∧ (¬ (v2 < 0) → ((0 ≤ (v1 * 11) + v2 ∧ (v1 * 11) + v2 < 1331) ∧ ((inR (M (k0 + 6) ((v1 * 11) + v2))) ∧ (M (k0 + 6) ((v1 * 11) + v2) = (-1) → (Gx x 3 20 [(0, vr (xg x) k0), (1, vi v1), (2, vi (v2 + (-1)))] [] M)) ∧ (¬ (M (k0 + 6) ((v1 * 11) + v2) = (-1)) → (∃ p42 : Int → Mm → Prop, Ct (xl x) (xg x) mX3_valuePlace [vr (xg x) k0, vi v1, vi v2] M p42 ∧ ∀ (r42 : Int) (M42 : Mm), p42 r42 M42 → (Gx x 3 20 [(0, vr (xg x) k0), (1, vi v1), (2, vi (v2 + (-1)))] [] M42))))))) : Gx x 3 20 [(0, vr (xg x) k0), (1, vi v1), (2, vi v2)] [] M := by
  refine g_iload_n (q := 21) C dX3_valuePlaces_20 rfl 2 rfl rfl ?_
  obtain ⟨hr, Ht, Hf⟩ := H
  refine g_if_lt (q := 24) (t := 51) C dX3_valuePlaces_21 rfl (by decide) hr (fun hc => ?_) (fun hc => ?_)
  · have H := Ht hc
    refine g_iinc (q := 54) (L2 := [(1, vi (v1 + (-1))), (0, vr (xg x) k0), (2, vi v2)]) C dX3_valuePlaces_51 rfl 1 rfl (by decide) rfl ?_
    refine g_goto (t := 8) C dX3_valuePlaces_54 (by decide) ?_
    refine g_sub [1, 0] rfl ?_
    exact H
  · have H := Hf hc
    refine g_aload_n (q := 25) C dX3_valuePlaces_24 rfl 0 rfl rfl ?_
    refine g_get (q := 28) C (h0).o.1 (celr_3 (h0).o.2) (ci := 3) (i := 1) rfl inlX3 (by decide) wm_3_13 rfl dX3_valuePlaces_25 rfl ?_
    refine g_iload_n (q := 29) C dX3_valuePlaces_28 rfl 1 rfl rfl ?_
    refine g_bipush (q := 31) C dX3_valuePlaces_29 rfl (by decide) ?_
    refine g_imul (q := 32) C dX3_valuePlaces_31 rfl ?_
    refine g_iload_n (q := 33) C dX3_valuePlaces_32 rfl 2 rfl rfl ?_
    refine g_iadd (q := 34) C dX3_valuePlaces_33 rfl ?_
    obtain ⟨hc, H⟩ := H
    refine g_iald (q := 35) (m := 1331) C ((h0).a6).1 ((h0).a6).2.1 ((h0).a6).2.2 hc (by decide) dX3_valuePlaces_34 rfl ?_
    refine g_iconst (q := 36) C dX3_valuePlaces_35 rfl ?_
    obtain ⟨hr, Ht, Hf⟩ := H
    refine g_icmp_eq (q := 39) (t := 45) C dX3_valuePlaces_36 rfl (by decide) ⟨hr, by decide⟩ (fun hc => ?_) (fun hc => ?_)
    · have H := Ht hc
      refine g_iinc (q := 48) (L2 := [(2, vi (v2 + (-1))), (0, vr (xg x) k0), (1, vi v1)]) C dX3_valuePlaces_45 rfl 2 rfl (by decide) rfl ?_
      refine g_goto (t := 20) C dX3_valuePlaces_48 (by decide) ?_
      refine g_sub [1, 2, 0] rfl ?_
      exact H
    · have H := Hf hc
      refine g_aload_n (q := 40) C dX3_valuePlaces_39 rfl 0 rfl rfl ?_
      refine g_iload_n (q := 41) C dX3_valuePlaces_40 rfl 1 rfl rfl ?_
      refine g_iload_n (q := 42) C dX3_valuePlaces_41 rfl 2 rfl rfl ?_
      obtain ⟨p42, hM, H⟩ := H
      refine g_callV (q := 45) (As := [vi v1, vi v2]) (st := []) (na := 2) C mX3_valuePlace (h0).o.1 (celr_3 (h0).o.2) rfl hM wm_13_3 wm_13_4 wm_13_5 wm_2_2 wm_13_6 (by decide +kernel) rfl rfl (by decide) rfl (Nat.le_of_ble_eq_true rfl) dX3_valuePlaces_42 rfl (fun r42 M42 hp => ?_)
      have H := H r42 M42 hp
      show Gx x 3 45 [(0, vr (xg x) k0), (1, vi v1), (2, vi v2)] [] M42
      refine g_iinc (q := 48) (L2 := [(2, vi (v2 + (-1))), (0, vr (xg x) k0), (1, vi v1)]) C dX3_valuePlaces_45 rfl 2 rfl (by decide) rfl ?_
      refine g_goto (t := 20) C dX3_valuePlaces_48 (by decide) ?_
      refine g_sub [1, 2, 0] rfl ?_
      exact H
set_option maxRecDepth 10000 in
set_option maxHeartbeats 2000000 in
theorem X3_valuePlace_0 {x : Xx} {post : Int → Mm → Prop} (C : Cx x mX3_valuePlace) (hR : Rt x mX3_valuePlace post) {k0 : Nat} (h0 : isP k0) (v1 v2 : Int) (M : Mm) (H : ∃ p6 : Int → Mm → Prop, Ct (xl x) (xg x) mX1_isEnd [vr (xg x) (k0 + 1), vi v1, vi v2] M p6 ∧ ∀ (r6 : Int) (M6 : Mm), p6 r6 M6 → ((inR r6) ∧ (r6 = 0 → (Gx x 11 20 [(0, vr (xg x) k0), (1, vi v1), (2, vi v2), (3, vi r6)] [vi 2147483647] M6)) ∧ (¬ (r6 = 0) → (Gx x 11 20 [(0, vr (xg x) k0), (1, vi v1), (2, vi v2), (3, vi r6)] [vi 0] M6)))) : Gx x 11 0 [(0, vr (xg x) k0), (1, vi v1), (2, vi v2)] [] M := by
  refine g_aload_n (q := 1) C dX3_valuePlace_0 rfl 0 rfl rfl ?_
  refine g_get (q := 4) C (h0).o.1 (celr_3 (h0).o.2) (ci := 3) (i := 0) rfl inlX3 (by decide) wm_3_12 rfl dX3_valuePlace_1 rfl ?_
  refine g_iload_n (q := 5) C dX3_valuePlace_4 rfl 1 rfl rfl ?_
  refine g_iload_n (q := 6) C dX3_valuePlace_5 rfl 2 rfl rfl ?_
  obtain ⟨p6, hM, H⟩ := H
  refine g_callV (q := 9) (As := [vi v1, vi v2]) (st := []) (na := 2) C mX1_isEnd ((h0).m).o.1 (celr_1 ((h0).m).o.2) rfl hM wm_13_8 wm_13_9 wm_13_10 wm_3_11 wm_13_11 (by decide +kernel) rfl rfl (by decide) rfl (Nat.le_of_ble_eq_true rfl) dX3_valuePlace_6 rfl (fun r6 M6 hp => ?_)
  have H := H r6 M6 hp
  show Gx x 11 9 [(0, vr (xg x) k0), (1, vi v1), (2, vi v2)] [vi r6] M6
  refine g_istore_n (q := 10) (L2 := [(3, vi r6), (0, vr (xg x) k0), (1, vi v1), (2, vi v2)]) C dX3_valuePlace_9 rfl rfl (by decide) rfl ?_
  refine g_iload_n (q := 11) C dX3_valuePlace_10 rfl 0 rfl rfl ?_
  obtain ⟨hr, Ht, Hf⟩ := H
  refine g_if_eq (q := 14) (t := 18) C dX3_valuePlace_11 rfl (by decide) hr (fun hc => ?_) (fun hc => ?_)
  · have H := Ht hc
    refine g_ldc (q := 20) (z := 2147483647) C dX3_valuePlace_18 rfl wc_13_7 ?_
    refine g_sub [1, 2, 3, 0] rfl ?_
    exact H
  · have H := Hf hc
    refine g_iconst (q := 15) C dX3_valuePlace_14 rfl ?_
    refine g_goto (t := 20) C dX3_valuePlace_15 (by decide) ?_
    refine g_sub [1, 2, 3, 0] rfl ?_
    exact H
set_option maxRecDepth 10000 in
set_option maxHeartbeats 2000000 in
theorem X3_valuePlace_20 {x : Xx} {post : Int → Mm → Prop} (C : Cx x mX3_valuePlace) (hR : Rt x mX3_valuePlace post) {k0 : Nat} (h0 : isP k0) (v1 v2 v3 s0 : Int) (M : Mm) (H : (inR v3) ∧ (v3 = 0 → (Gx x 11 39 [(0, vr (xg x) k0), (1, vi v1), (2, vi v2), (4, vi s0), (5, vl 0), (7, vi 0), (8, vi 0)] [] M)) ∧ (¬ (v3 = 0) → (Gx x 11 39 [(0, vr (xg x) k0), (1, vi v1), (2, vi v2), (4, vi s0), (5, vl 1), (7, vi 0), (8, vi 0)] [] M))) : Gx x 11 20 [(0, vr (xg x) k0), (1, vi v1), (2, vi v2), (3, vi v3)] [vi s0] M := by
  refine g_istore (q := 22) (L2 := [(4, vi s0), (0, vr (xg x) k0), (1, vi v1), (2, vi v2), (3, vi v3)]) C dX3_valuePlace_20 rfl (by decide) rfl ?_
  refine g_iload_n (q := 23) C dX3_valuePlace_22 rfl 4 rfl rfl ?_
  obtain ⟨hr, Ht, Hf⟩ := H
  refine g_if_eq (q := 26) (t := 30) C dX3_valuePlace_23 rfl (by decide) hr (fun hc => ?_) (fun hc => ?_)
  · have H := Ht hc
    refine g_lconst (q := 31) C dX3_valuePlace_30 rfl ?_
    refine g_lstore (q := 33) (L2 := [(5, vl 0), (4, vi s0), (0, vr (xg x) k0), (1, vi v1), (2, vi v2), (3, vi v3)]) C dX3_valuePlace_31 rfl (by decide) rfl ?_
    refine g_iconst (q := 34) C dX3_valuePlace_33 rfl ?_
    refine g_istore (q := 36) (L2 := [(7, vi 0), (5, vl 0), (4, vi s0), (0, vr (xg x) k0), (1, vi v1), (2, vi v2), (3, vi v3)]) C dX3_valuePlace_34 rfl (by decide) rfl ?_
    refine g_iconst (q := 37) C dX3_valuePlace_36 rfl ?_
    refine g_istore (q := 39) (L2 := [(8, vi 0), (7, vi 0), (5, vl 0), (4, vi s0), (0, vr (xg x) k0), (1, vi v1), (2, vi v2), (3, vi v3)]) C dX3_valuePlace_37 rfl (by decide) rfl ?_
    refine g_sub [4, 5, 6, 3, 2, 1, 0] rfl ?_
    exact H
  · have H := Hf hc
    refine g_lconst (q := 27) C dX3_valuePlace_26 rfl ?_
    refine g_goto (t := 31) C dX3_valuePlace_27 (by decide) ?_
    refine g_lstore (q := 33) (L2 := [(5, vl 1), (4, vi s0), (0, vr (xg x) k0), (1, vi v1), (2, vi v2), (3, vi v3)]) C dX3_valuePlace_31 rfl (by decide) rfl ?_
    refine g_iconst (q := 34) C dX3_valuePlace_33 rfl ?_
    refine g_istore (q := 36) (L2 := [(7, vi 0), (5, vl 1), (4, vi s0), (0, vr (xg x) k0), (1, vi v1), (2, vi v2), (3, vi v3)]) C dX3_valuePlace_34 rfl (by decide) rfl ?_
    refine g_iconst (q := 37) C dX3_valuePlace_36 rfl ?_
    refine g_istore (q := 39) (L2 := [(8, vi 0), (7, vi 0), (5, vl 1), (4, vi s0), (0, vr (xg x) k0), (1, vi v1), (2, vi v2), (3, vi v3)]) C dX3_valuePlace_37 rfl (by decide) rfl ?_
    refine g_sub [4, 5, 6, 3, 2, 1, 0] rfl ?_
    exact H
set_option maxRecDepth 10000 in
set_option maxHeartbeats 2000000 in
theorem X3_valuePlace_39 {x : Xx} {post : Int → Mm → Prop} (C : Cx x mX3_valuePlace) (hR : Rt x mX3_valuePlace post) {k0 : Nat} (h0 : isP k0) (v1 v2 v4 v5 v7 v8 : Int) (M : Mm) (H : (0 ≤ v2 ∧ v2 < 11) ∧ ((inR v8 ∧ inR (M (k0 + 1 + 3) v2)) ∧ (M (k0 + 1 + 3) v2 < v8 → (∀ w151 : Int, w151 = ((v1 * 11) + v2) → ((0 ≤ w151 ∧ w151 < 1331) ∧ (∀ M161 : Mm, M161 = mu M (k0 + 6) w151 v4 → ((0 ≤ w151 ∧ w151 < 1331) ∧ (∀ M170 : Mm, M170 = mu M161 (k0 + 9) w151 v5 → ((0 ≤ w151 ∧ w151 < 1331) ∧ (∀ M179 : Mm, M179 = mu M170 (k0 + 8) w151 v7 → (post 0 M179))))))))) ∧ (¬ (M (k0 + 1 + 3) v2 < v8) → (∃ p61 : Int → Mm → Prop, Ct (xl x) (xg x) mX1_mayTake [vr (xg x) (k0 + 1), vi v1, vi v2, vi v8] M p61 ∧ ∀ (r61 : Int) (M61 : Mm), p61 r61 M61 → ((inR r61) ∧ (¬ (r61 = 0) → (∃ p75 : Int → Mm → Prop, Ct (xl x) (xg x) mX3_placeBehind [vr (xg x) k0, vi v1, vi v2, vi v8] M61 p75 ∧ ∀ (r75 : Int) (M75 : Mm), p75 r75 M75 → ((0 ≤ r75 ∧ r75 < 1331) ∧ ((0 ≤ r75 ∧ r75 < 1331) ∧ (∀ w100 : Int, w100 = (((M75 (k0 + 6) r75) + ((M75 (k0 + 7) r75) * 64)) + 1) → ((inR w100 ∧ inR v4) ∧ (v4 ≤ w100 → (Gx x 11 120 [(0, vr (xg x) k0), (1, vi v1), (2, vi v2), (4, vi v4), (5, vl v5), (7, vi v7), (8, vi v8), (9, vi r75), (10, vi w100)] [] M75)) ∧ (¬ (v4 ≤ w100) → (Gx x 11 120 [(0, vr (xg x) k0), (1, vi v1), (2, vi v2), (4, vi w100), (5, vl 0), (7, vi v8), (8, vi v8), (9, vi r75), (10, vi w100)] [] M75)))))))) ∧ (r61 = 0 → (Gx x 11 39 [(0, vr (xg x) k0), (1, vi v1), (2, vi v2), (4, vi v4), (5, vl v5), (7, vi v7), (8, vi (v8 + 1))] [] M61))))))) : Gx x 11 39 [(0, vr (xg x) k0), (1, vi v1), (2, vi v2), (4, vi v4), (5, vl v5), (7, vi v7), (8, vi v8)] [] M := by
  refine g_iload (q := 41) C dX3_valuePlace_39 rfl 6 rfl ?_
  refine g_aload_n (q := 42) C dX3_valuePlace_41 rfl 0 rfl rfl ?_
  refine g_get (q := 45) C (h0).o.1 (celr_3 (h0).o.2) (ci := 3) (i := 0) rfl inlX3 (by decide) wm_3_12 rfl dX3_valuePlace_42 rfl ?_
  refine g_getN (q := 48) C ((h0).m).o.1 (celr_1 ((h0).m).o.2) (ci := 1) (i := 7) rfl inlX1 (by decide) (by decide +kernel) rfl dX3_valuePlace_45 rfl ?_
  refine g_iload_n (q := 49) C dX3_valuePlace_48 rfl 2 rfl rfl ?_
  obtain ⟨hc, H⟩ := H
  refine g_iald (q := 50) (m := 11) C (((h0).m).a3).1 (((h0).m).a3).2.1 (((h0).m).a3).2.2 hc (by decide) dX3_valuePlace_49 rfl ?_
  obtain ⟨hr, Ht, Hf⟩ := H
  refine g_icmp_gt (q := 53) (t := 145) C dX3_valuePlace_50 rfl (by decide) hr (fun hc => ?_) (fun hc => ?_)
  · have H := Ht hc
    refine g_iload_n (q := 146) C dX3_valuePlace_145 rfl 1 rfl rfl ?_
    refine g_bipush (q := 148) C dX3_valuePlace_146 rfl (by decide) ?_
    refine g_imul (q := 149) C dX3_valuePlace_148 rfl ?_
    refine g_iload_n (q := 150) C dX3_valuePlace_149 rfl 2 rfl rfl ?_
    refine g_iadd (q := 151) C dX3_valuePlace_150 rfl ?_
    refine g_topi (fun w151 hw151 => ?_)
    have H := H w151 hw151
    refine g_istore (q := 153) (L2 := [(8, vi w151), (0, vr (xg x) k0), (1, vi v1), (2, vi v2), (4, vi v4), (5, vl v5), (7, vi v7)]) C dX3_valuePlace_151 rfl (by decide) rfl ?_
    refine g_aload_n (q := 154) C dX3_valuePlace_153 rfl 1 rfl rfl ?_
    refine g_get (q := 157) C (h0).o.1 (celr_3 (h0).o.2) (ci := 3) (i := 1) rfl inlX3 (by decide) wm_3_13 rfl dX3_valuePlace_154 rfl ?_
    refine g_iload (q := 159) C dX3_valuePlace_157 rfl 0 rfl ?_
    refine g_iload (q := 161) C dX3_valuePlace_159 rfl 4 rfl ?_
    obtain ⟨hc, H⟩ := H
    refine g_iast (q := 162) (m := 1331) C ((h0).a6).1 ((h0).a6).2.1 ((h0).a6).2.2 hc (by decide) dX3_valuePlace_161 rfl ?_
    refine g_topM (fun M161 hM161 => ?_)
    have H := H M161 hM161
    refine g_aload_n (q := 163) C dX3_valuePlace_162 rfl 1 rfl rfl ?_
    refine g_get (q := 166) C (h0).o.1 (celr_3 (h0).o.2) (ci := 3) (i := 4) rfl inlX3 (by decide) wm_3_17 rfl dX3_valuePlace_163 rfl ?_
    refine g_iload (q := 168) C dX3_valuePlace_166 rfl 0 rfl ?_
    refine g_lload (q := 170) C dX3_valuePlace_168 rfl 5 rfl ?_
    obtain ⟨hc, H⟩ := H
    refine g_last (q := 171) (m := 1331) C ((h0).a9).1 ((h0).a9).2.1 ((h0).a9).2.2 hc (by decide) dX3_valuePlace_170 rfl ?_
    refine g_topM (fun M170 hM170 => ?_)
    have H := H M170 hM170
    refine g_aload_n (q := 172) C dX3_valuePlace_171 rfl 1 rfl rfl ?_
    refine g_get (q := 175) C (h0).o.1 (celr_3 (h0).o.2) (ci := 3) (i := 3) rfl inlX3 (by decide) wm_3_15 rfl dX3_valuePlace_172 rfl ?_
    refine g_iload (q := 177) C dX3_valuePlace_175 rfl 0 rfl ?_
    refine g_iload (q := 179) C dX3_valuePlace_177 rfl 6 rfl ?_
    obtain ⟨hc, H⟩ := H
    refine g_iast (q := 180) (m := 1331) C ((h0).a8).1 ((h0).a8).2.1 ((h0).a8).2.2 hc (by decide) dX3_valuePlace_179 rfl ?_
    refine g_topM (fun M179 hM179 => ?_)
    have H := H M179 hM179
    exact g_ret C hR dX3_valuePlace_180 rfl H
  · have H := Hf hc
    refine g_aload_n (q := 54) C dX3_valuePlace_53 rfl 0 rfl rfl ?_
    refine g_get (q := 57) C (h0).o.1 (celr_3 (h0).o.2) (ci := 3) (i := 0) rfl inlX3 (by decide) wm_3_12 rfl dX3_valuePlace_54 rfl ?_
    refine g_iload_n (q := 58) C dX3_valuePlace_57 rfl 1 rfl rfl ?_
    refine g_iload_n (q := 59) C dX3_valuePlace_58 rfl 2 rfl rfl ?_
    refine g_iload (q := 61) C dX3_valuePlace_59 rfl 6 rfl ?_
    obtain ⟨p61, hM, H⟩ := H
    refine g_callV (q := 64) (As := [vi v1, vi v2, vi v8]) (st := []) (na := 3) C mX1_mayTake ((h0).m).o.1 (celr_1 ((h0).m).o.2) rfl hM wm_12_6 wm_12_7 wm_12_8 wm_3_11 wm_12_9 (by decide +kernel) rfl rfl (by decide) rfl (Nat.le_of_ble_eq_true rfl) dX3_valuePlace_61 rfl (fun r61 M61 hp => ?_)
    have H := H r61 M61 hp
    show Gx x 11 64 [(0, vr (xg x) k0), (1, vi v1), (2, vi v2), (4, vi v4), (5, vl v5), (7, vi v7), (8, vi v8)] [vi r61] M61
    obtain ⟨hr, Ht, Hf⟩ := H
    refine g_if_ne (q := 67) (t := 70) C dX3_valuePlace_64 rfl (by decide) hr (fun hc => ?_) (fun hc => ?_)
    · have H := Ht hc
      refine g_aload_n (q := 71) C dX3_valuePlace_70 rfl 0 rfl rfl ?_
      refine g_iload_n (q := 72) C dX3_valuePlace_71 rfl 1 rfl rfl ?_
      refine g_iload_n (q := 73) C dX3_valuePlace_72 rfl 2 rfl rfl ?_
      refine g_iload (q := 75) C dX3_valuePlace_73 rfl 6 rfl ?_
      obtain ⟨p75, hM, H⟩ := H
      refine g_callV (q := 78) (As := [vi v1, vi v2, vi v8]) (st := []) (na := 3) C mX3_placeBehind (h0).o.1 (celr_3 (h0).o.2) rfl hM wm_12_18 wm_12_19 wm_12_20 wm_2_2 wm_12_21 (by decide +kernel) rfl rfl (by decide) rfl (Nat.le_of_ble_eq_true rfl) dX3_valuePlace_75 rfl (fun r75 M75 hp => ?_)
      have H := H r75 M75 hp
      show Gx x 11 78 [(0, vr (xg x) k0), (1, vi v1), (2, vi v2), (4, vi v4), (5, vl v5), (7, vi v7), (8, vi v8)] [vi r75] M75
      refine g_istore (q := 80) (L2 := [(9, vi r75), (0, vr (xg x) k0), (1, vi v1), (2, vi v2), (4, vi v4), (5, vl v5), (7, vi v7), (8, vi v8)]) C dX3_valuePlace_78 rfl (by decide) rfl ?_
      refine g_aload_n (q := 81) C dX3_valuePlace_80 rfl 1 rfl rfl ?_
      refine g_get (q := 84) C (h0).o.1 (celr_3 (h0).o.2) (ci := 3) (i := 1) rfl inlX3 (by decide) wm_3_13 rfl dX3_valuePlace_81 rfl ?_
      refine g_iload (q := 86) C dX3_valuePlace_84 rfl 0 rfl ?_
      obtain ⟨hc, H⟩ := H
      refine g_iald (q := 87) (m := 1331) C ((h0).a6).1 ((h0).a6).2.1 ((h0).a6).2.2 hc (by decide) dX3_valuePlace_86 rfl ?_
      refine g_aload_n (q := 88) C dX3_valuePlace_87 rfl 1 rfl rfl ?_
      refine g_get (q := 91) C (h0).o.1 (celr_3 (h0).o.2) (ci := 3) (i := 2) rfl inlX3 (by decide) wm_3_14 rfl dX3_valuePlace_88 rfl ?_
      refine g_iload (q := 93) C dX3_valuePlace_91 rfl 0 rfl ?_
      obtain ⟨hc, H⟩ := H
      refine g_iald (q := 94) (m := 1331) C ((h0).a7).1 ((h0).a7).2.1 ((h0).a7).2.2 hc (by decide) dX3_valuePlace_93 rfl ?_
      refine g_bipush (q := 96) C dX3_valuePlace_94 rfl (by decide) ?_
      refine g_imul (q := 97) C dX3_valuePlace_96 rfl ?_
      refine g_iadd (q := 98) C dX3_valuePlace_97 rfl ?_
      refine g_iconst (q := 99) C dX3_valuePlace_98 rfl ?_
      refine g_iadd (q := 100) C dX3_valuePlace_99 rfl ?_
      refine g_topi (fun w100 hw100 => ?_)
      have H := H w100 hw100
      refine g_istore (q := 102) (L2 := [(10, vi w100), (9, vi r75), (0, vr (xg x) k0), (1, vi v1), (2, vi v2), (4, vi v4), (5, vl v5), (7, vi v7), (8, vi v8)]) C dX3_valuePlace_100 rfl (by decide) rfl ?_
      refine g_iload (q := 104) C dX3_valuePlace_102 rfl 0 rfl ?_
      refine g_iload (q := 106) C dX3_valuePlace_104 rfl 5 rfl ?_
      obtain ⟨hr, Ht, Hf⟩ := H
      refine g_icmp_ge (q := 109) (t := 120) C dX3_valuePlace_106 rfl (by decide) hr (fun hc => ?_) (fun hc => ?_)
      · have H := Ht hc
        refine g_sub [2, 3, 4, 5, 6, 7, 8, 1, 0] rfl ?_
        exact H
      · have H := Hf hc
        refine g_iload (q := 111) C dX3_valuePlace_109 rfl 0 rfl ?_
        refine g_istore (q := 113) (L2 := [(4, vi w100), (10, vi w100), (9, vi r75), (0, vr (xg x) k0), (1, vi v1), (2, vi v2), (5, vl v5), (7, vi v7), (8, vi v8)]) C dX3_valuePlace_111 rfl (by decide) rfl ?_
        refine g_lconst (q := 114) C dX3_valuePlace_113 rfl ?_
        refine g_lstore (q := 116) (L2 := [(5, vl 0), (4, vi w100), (10, vi w100), (9, vi r75), (0, vr (xg x) k0), (1, vi v1), (2, vi v2), (7, vi v7), (8, vi v8)]) C dX3_valuePlace_114 rfl (by decide) rfl ?_
        refine g_iload (q := 118) C dX3_valuePlace_116 rfl 8 rfl ?_
        refine g_istore (q := 120) (L2 := [(7, vi v8), (5, vl 0), (4, vi w100), (10, vi w100), (9, vi r75), (0, vr (xg x) k0), (1, vi v1), (2, vi v2), (8, vi v8)]) C dX3_valuePlace_118 rfl (by decide) rfl ?_
        refine g_sub [5, 6, 7, 2, 1, 0, 8, 4, 3] rfl ?_
        exact H
    · have H := Hf hc
      refine g_goto (t := 139) C dX3_valuePlace_67 (by decide) ?_
      refine g_iinc (q := 142) (L2 := [(8, vi (v8 + 1)), (0, vr (xg x) k0), (1, vi v1), (2, vi v2), (4, vi v4), (5, vl v5), (7, vi v7)]) C dX3_valuePlace_139 rfl 6 rfl (by decide) rfl ?_
      refine g_goto (t := 39) C dX3_valuePlace_142 (by decide) ?_
      refine g_sub [1, 2, 3, 4, 5, 6, 0] rfl ?_
      exact H
set_option maxRecDepth 10000 in
set_option maxHeartbeats 2000000 in
theorem X3_valuePlace_120 {x : Xx} {post : Int → Mm → Prop} (C : Cx x mX3_valuePlace) (hR : Rt x mX3_valuePlace post) {k0 : Nat} (h0 : isP k0) (v1 v2 v4 v5 v7 v8 v9 v10 : Int) (M : Mm) (H : (inR v10 ∧ inR v4) ∧ (¬ (v10 = v4) → (Gx x 11 39 [(0, vr (xg x) k0), (1, vi v1), (2, vi v2), (4, vi v4), (5, vl v5), (7, vi v7), (8, vi (v8 + 1))] [] M)) ∧ (v10 = v4 → ((0 ≤ v9 ∧ v9 < 1331) ∧ (∀ w137 : Int, w137 = (v5 + (M (k0 + 9) v9)) → (Gx x 11 39 [(0, vr (xg x) k0), (1, vi v1), (2, vi v2), (4, vi v4), (5, vl w137), (7, vi v7), (8, vi (v8 + 1))] [] M))))) : Gx x 11 120 [(0, vr (xg x) k0), (1, vi v1), (2, vi v2), (4, vi v4), (5, vl v5), (7, vi v7), (8, vi v8), (9, vi v9), (10, vi v10)] [] M := by
  refine g_iload (q := 122) C dX3_valuePlace_120 rfl 8 rfl ?_
  refine g_iload (q := 124) C dX3_valuePlace_122 rfl 3 rfl ?_
  obtain ⟨hr, Ht, Hf⟩ := H
  refine g_icmp_ne (q := 127) (t := 139) C dX3_valuePlace_124 rfl (by decide) hr (fun hc => ?_) (fun hc => ?_)
  · have H := Ht hc
    refine g_iinc (q := 142) (L2 := [(8, vi (v8 + 1)), (0, vr (xg x) k0), (1, vi v1), (2, vi v2), (4, vi v4), (5, vl v5), (7, vi v7), (9, vi v9), (10, vi v10)]) C dX3_valuePlace_139 rfl 6 rfl (by decide) rfl ?_
    refine g_goto (t := 39) C dX3_valuePlace_142 (by decide) ?_
    refine g_sub [1, 2, 3, 4, 5, 6, 0] rfl ?_
    exact H
  · have H := Hf hc
    refine g_lload (q := 129) C dX3_valuePlace_127 rfl 4 rfl ?_
    refine g_aload_n (q := 130) C dX3_valuePlace_129 rfl 0 rfl rfl ?_
    refine g_get (q := 133) C (h0).o.1 (celr_3 (h0).o.2) (ci := 3) (i := 4) rfl inlX3 (by decide) wm_3_17 rfl dX3_valuePlace_130 rfl ?_
    refine g_iload (q := 135) C dX3_valuePlace_133 rfl 7 rfl ?_
    obtain ⟨hc, H⟩ := H
    refine g_lald (q := 136) (m := 1331) C ((h0).a9).1 ((h0).a9).2.1 ((h0).a9).2.2 hc (by decide) dX3_valuePlace_135 rfl ?_
    refine g_ladd (q := 137) C dX3_valuePlace_136 rfl ?_
    refine g_topl (fun w137 hw137 => ?_)
    have H := H w137 hw137
    refine g_lstore (q := 139) (L2 := [(5, vl w137), (0, vr (xg x) k0), (1, vi v1), (2, vi v2), (4, vi v4), (7, vi v7), (8, vi v8), (9, vi v9), (10, vi v10)]) C dX3_valuePlace_137 rfl (by decide) rfl ?_
    refine g_iinc (q := 142) (L2 := [(8, vi (v8 + 1)), (5, vl w137), (0, vr (xg x) k0), (1, vi v1), (2, vi v2), (4, vi v4), (7, vi v7), (9, vi v9), (10, vi v10)]) C dX3_valuePlace_139 rfl 6 rfl (by decide) rfl ?_
    refine g_goto (t := 39) C dX3_valuePlace_142 (by decide) ?_
    refine g_sub [2, 3, 4, 5, 1, 6, 0] rfl ?_
    exact H
set_option maxRecDepth 10000 in
set_option maxHeartbeats 2000000 in
theorem X2_follow_0 {x : Xx} {post : Int → Mm → Prop} (C : Cx x mX2_follow) (hR : Rt x mX2_follow post) {k0 : Nat} (h0 : isPl k0) {k1 : Nat} (h1 : isP k1) (M : Mm) (H : (inR (M (k1 + 1) 4)) ∧ (M (k1 + 1) 4 = (-1) → (∀ M19 : Mm, M19 = mu M k0 2 0 → (Gx x 3 24 [(0, vr (xg x) k0), (1, vr (xg x) k1), (2, vi 0)] [] M19))) ∧ (¬ (M (k1 + 1) 4 = (-1)) → (∀ M13 : Mm, M13 = mu M k0 2 (-1) → (post 0 M13)))) : Gx x 3 0 [(0, vr (xg x) k0), (1, vr (xg x) k1)] [] M := by
  refine g_aload_n (q := 1) C dX2_follow_0 rfl 1 rfl rfl ?_
  refine g_getN (q := 4) C (h1).o.1 (celr_3 (h1).o.2) (ci := 3) (i := 0) rfl inlX3 (by decide) (by decide +kernel) rfl dX2_follow_1 rfl ?_
  refine g_getN (q := 7) C ((h1).m).o.1 (celr_1 ((h1).m).o.2) (ci := 1) (i := 4) rfl inlX1 (by decide) (by decide +kernel) rfl dX2_follow_4 rfl ?_
  refine g_iconst (q := 8) C dX2_follow_7 rfl ?_
  obtain ⟨hr, Ht, Hf⟩ := H
  refine g_icmp_eq (q := 11) (t := 17) C dX2_follow_8 rfl (by decide) ⟨hr, by decide⟩ (fun hc => ?_) (fun hc => ?_)
  · have H := Ht hc
    refine g_aload_n (q := 18) C dX2_follow_17 rfl 0 rfl rfl ?_
    refine g_iconst (q := 19) C dX2_follow_18 rfl ?_
    refine g_put (q := 22) (ty := .int) C (h0).o.1 (celr_2 (h0).o.2) (ci := 2) (i := 2) rfl inlX2 tyX2_ok nmX2 (by decide) wm_4_6 rfl rfl rfl rfl (Nat.le_of_ble_eq_true rfl) (by rw [celr_2 (h0).o.2]; rfl) dX2_follow_19 rfl ?_
    refine g_topM (fun M19 hM19 => ?_)
    have H := H M19 hM19
    refine g_iconst (q := 23) C dX2_follow_22 rfl ?_
    refine g_istore_n (q := 24) (L2 := [(2, vi 0), (0, vr (xg x) k0), (1, vr (xg x) k1)]) C dX2_follow_23 rfl rfl (by decide) rfl ?_
    refine g_sub [1, 2, 0] rfl ?_
    exact H
  · have H := Hf hc
    refine g_aload_n (q := 12) C dX2_follow_11 rfl 0 rfl rfl ?_
    refine g_iconst (q := 13) C dX2_follow_12 rfl ?_
    refine g_put (q := 16) (ty := .int) C (h0).o.1 (celr_2 (h0).o.2) (ci := 2) (i := 2) rfl inlX2 tyX2_ok nmX2 (by decide) wm_4_6 rfl rfl rfl rfl (Nat.le_of_ble_eq_true rfl) (by rw [celr_2 (h0).o.2]; rfl) dX2_follow_13 rfl ?_
    refine g_topM (fun M13 hM13 => ?_)
    have H := H M13 hM13
    exact g_ret C hR dX2_follow_16 rfl H
set_option maxRecDepth 10000 in
set_option maxHeartbeats 2000000 in
theorem X2_follow_24 {x : Xx} {post : Int → Mm → Prop} (C : Cx x mX2_follow) (hR : Rt x mX2_follow post) {k0 : Nat} (h0 : isPl k0) {k1 : Nat} (h1 : isP k1) (v2 : Int) (M : Mm) (H : (inR v2) ∧ (30 ≤ v2 → (post 0 M)) ∧ (¬ (30 ≤ v2) → (∃ p35 : Int → Mm → Prop, Ct (xl x) (xg x) mX2_mayGoOn [vr (xg x) k0, vr (xg x) (k1 + 1)] M p35 ∧ ∀ (r35 : Int) (M35 : Mm), p35 r35 M35 → ((inR r35) ∧ (r35 = 0 → (post 0 M35)) ∧ (¬ (r35 = 0) → ((0 ≤ v2 ∧ v2 < 31) ∧ ((0 ≤ v2 ∧ v2 < 31) ∧ (∃ p59 : Int → Mm → Prop, Ct (xl x) (xg x) mX3_takenFrom [vr (xg x) k1, vi (M35 (k0 + 1) v2), vi (M35 (k0 + 2) v2)] M35 p59 ∧ ∀ (r59 : Int) (M59 : Mm), p59 r59 M59 → (∃ p62 : Int → Mm → Prop, Ct (xl x) (xg x) mX2_addPage [vr (xg x) k0, vr (xg x) (k1 + 1), vi r59] M59 p62 ∧ ∀ (r62 : Int) (M62 : Mm), p62 r62 M62 → (Gx x 3 24 [(0, vr (xg x) k0), (1, vr (xg x) k1), (2, vi (v2 + 1))] [] M62)))))))))) : Gx x 3 24 [(0, vr (xg x) k0), (1, vr (xg x) k1), (2, vi v2)] [] M := by
  refine g_iload_n (q := 25) C dX2_follow_24 rfl 2 rfl rfl ?_
  refine g_bipush (q := 27) C dX2_follow_25 rfl (by decide) ?_
  obtain ⟨hr, Ht, Hf⟩ := H
  refine g_icmp_ge (q := 30) (t := 71) C dX2_follow_27 rfl (by decide) ⟨hr, by decide⟩ (fun hc => ?_) (fun hc => ?_)
  · have H := Ht hc
    exact g_ret C hR dX2_follow_71 rfl H
  · have H := Hf hc
    refine g_aload_n (q := 31) C dX2_follow_30 rfl 0 rfl rfl ?_
    refine g_aload_n (q := 32) C dX2_follow_31 rfl 1 rfl rfl ?_
    refine g_getN (q := 35) C (h1).o.1 (celr_3 (h1).o.2) (ci := 3) (i := 0) rfl inlX3 (by decide) (by decide +kernel) rfl dX2_follow_32 rfl ?_
    obtain ⟨p35, hM, H⟩ := H
    refine g_callV (q := 38) (As := [vr (xg x) (k1 + 1)]) (st := []) (na := 1) C mX2_mayGoOn (h0).o.1 (celr_2 (h0).o.2) rfl hM wm_13_16 wm_13_17 wm_13_18 wm_2_7 wm_13_19 (by decide +kernel) rfl rfl (by decide) rfl (Nat.le_of_ble_eq_true rfl) dX2_follow_35 rfl (fun r35 M35 hp => ?_)
    have H := H r35 M35 hp
    show Gx x 3 38 [(0, vr (xg x) k0), (1, vr (xg x) k1), (2, vi v2)] [vi r35] M35
    obtain ⟨hr, Ht, Hf⟩ := H
    refine g_if_eq (q := 41) (t := 71) C dX2_follow_38 rfl (by decide) hr (fun hc => ?_) (fun hc => ?_)
    · have H := Ht hc
      exact g_ret C hR dX2_follow_71 rfl H
    · have H := Hf hc
      refine g_aload_n (q := 42) C dX2_follow_41 rfl 0 rfl rfl ?_
      refine g_aload_n (q := 43) C dX2_follow_42 rfl 1 rfl rfl ?_
      refine g_getN (q := 46) C (h1).o.1 (celr_3 (h1).o.2) (ci := 3) (i := 0) rfl inlX3 (by decide) (by decide +kernel) rfl dX2_follow_43 rfl ?_
      refine g_aload_n (q := 47) C dX2_follow_46 rfl 1 rfl rfl ?_
      refine g_aload_n (q := 48) C dX2_follow_47 rfl 0 rfl rfl ?_
      refine g_get (q := 51) C (h0).o.1 (celr_2 (h0).o.2) (ci := 2) (i := 0) rfl inlX2 (by decide) wm_4_4 rfl dX2_follow_48 rfl ?_
      refine g_iload_n (q := 52) C dX2_follow_51 rfl 2 rfl rfl ?_
      obtain ⟨hc, H⟩ := H
      refine g_iald (q := 53) (m := 31) C ((h0).a1).1 ((h0).a1).2.1 ((h0).a1).2.2 hc (by decide) dX2_follow_52 rfl ?_
      refine g_aload_n (q := 54) C dX2_follow_53 rfl 0 rfl rfl ?_
      refine g_get (q := 57) C (h0).o.1 (celr_2 (h0).o.2) (ci := 2) (i := 1) rfl inlX2 (by decide) wm_4_5 rfl dX2_follow_54 rfl ?_
      refine g_iload_n (q := 58) C dX2_follow_57 rfl 2 rfl rfl ?_
      obtain ⟨hc, H⟩ := H
      refine g_iald (q := 59) (m := 31) C ((h0).a2).1 ((h0).a2).2.1 ((h0).a2).2.2 hc (by decide) dX2_follow_58 rfl ?_
      obtain ⟨p59, hM, H⟩ := H
      refine g_callV (q := 62) (As := [vi (M35 (k0 + 1) v2), vi (M35 (k0 + 2) v2)]) (st := [vr (xg x) (k1 + 1), vr (xg x) k0]) (na := 2) C mX3_takenFrom (h1).o.1 (celr_3 (h1).o.2) rfl hM wm_13_21 wm_13_22 wm_13_23 wm_2_2 wm_14_0 (by decide +kernel) rfl rfl (by decide) rfl (Nat.le_of_ble_eq_true rfl) dX2_follow_59 rfl (fun r59 M59 hp => ?_)
      have H := H r59 M59 hp
      show Gx x 3 62 [(0, vr (xg x) k0), (1, vr (xg x) k1), (2, vi v2)] [vi r59, vr (xg x) (k1 + 1), vr (xg x) k0] M59
      obtain ⟨p62, hM, H⟩ := H
      refine g_callV (q := 65) (As := [vr (xg x) (k1 + 1), vi r59]) (st := []) (na := 2) C mX2_addPage (h0).o.1 (celr_2 (h0).o.2) rfl hM wm_14_5 wm_14_6 wm_14_7 wm_2_7 wm_14_8 (by decide +kernel) rfl rfl (by decide) rfl (Nat.le_of_ble_eq_true rfl) dX2_follow_62 rfl (fun r62 M62 hp => ?_)
      have H := H r62 M62 hp
      show Gx x 3 65 [(0, vr (xg x) k0), (1, vr (xg x) k1), (2, vi v2)] [] M62
      refine g_iinc (q := 68) (L2 := [(2, vi (v2 + 1)), (0, vr (xg x) k0), (1, vr (xg x) k1)]) C dX2_follow_65 rfl 2 rfl (by decide) rfl ?_
      refine g_goto (t := 24) C dX2_follow_68 (by decide) ?_
      refine g_sub [1, 2, 0] rfl ?_
      exact H
set_option maxRecDepth 10000 in
set_option maxHeartbeats 2000000 in
theorem X2_mayGoOn_0 {x : Xx} {post : Int → Mm → Prop} (C : Cx x mX2_mayGoOn) (hR : Rt x mX2_mayGoOn post) {k0 : Nat} (h0 : isPl k0) {k1 : Nat} (h1 : isMe k1) (M : Mm) (H : (inR (M k0 2)) ∧ (30 ≤ M k0 2 → (post 0 M)) ∧ (¬ (30 ≤ M k0 2) → ((0 ≤ M k0 2 ∧ M k0 2 < 31) ∧ ((0 ≤ M k0 2 ∧ M k0 2 < 31) ∧ (∃ p28 : Int → Mm → Prop, Ct (xl x) (xg x) mX1_isEnd [vr (xg x) k1, vi (M (k0 + 1) (M k0 2)), vi (M (k0 + 2) (M k0 2))] M p28 ∧ ∀ (r28 : Int) (M28 : Mm), p28 r28 M28 → ((inR r28) ∧ (¬ (r28 = 0) → (post 0 M28)) ∧ (r28 = 0 → (post 1 M28)))))))) : Gx x 2 0 [(0, vr (xg x) k0), (1, vr (xg x) k1)] [] M := by
  refine g_aload_n (q := 1) C dX2_mayGoOn_0 rfl 0 rfl rfl ?_
  refine g_get (q := 4) C (h0).o.1 (celr_2 (h0).o.2) (ci := 2) (i := 2) rfl inlX2 (by decide) wm_4_6 rfl dX2_mayGoOn_1 rfl ?_
  refine g_bipush (q := 6) C dX2_mayGoOn_4 rfl (by decide) ?_
  obtain ⟨hr, Ht, Hf⟩ := H
  refine g_icmp_ge (q := 9) (t := 38) C dX2_mayGoOn_6 rfl (by decide) ⟨hr, by decide⟩ (fun hc => ?_) (fun hc => ?_)
  · have H := Ht hc
    refine g_iconst (q := 39) C dX2_mayGoOn_38 rfl ?_
    exact g_zret C hR dX2_mayGoOn_39 rfl (by decide) H
  · have H := Hf hc
    refine g_aload_n (q := 10) C dX2_mayGoOn_9 rfl 1 rfl rfl ?_
    refine g_aload_n (q := 11) C dX2_mayGoOn_10 rfl 0 rfl rfl ?_
    refine g_get (q := 14) C (h0).o.1 (celr_2 (h0).o.2) (ci := 2) (i := 0) rfl inlX2 (by decide) wm_4_4 rfl dX2_mayGoOn_11 rfl ?_
    refine g_aload_n (q := 15) C dX2_mayGoOn_14 rfl 0 rfl rfl ?_
    refine g_get (q := 18) C (h0).o.1 (celr_2 (h0).o.2) (ci := 2) (i := 2) rfl inlX2 (by decide) wm_4_6 rfl dX2_mayGoOn_15 rfl ?_
    obtain ⟨hc, H⟩ := H
    refine g_iald (q := 19) (m := 31) C ((h0).a1).1 ((h0).a1).2.1 ((h0).a1).2.2 hc (by decide) dX2_mayGoOn_18 rfl ?_
    refine g_aload_n (q := 20) C dX2_mayGoOn_19 rfl 0 rfl rfl ?_
    refine g_get (q := 23) C (h0).o.1 (celr_2 (h0).o.2) (ci := 2) (i := 1) rfl inlX2 (by decide) wm_4_5 rfl dX2_mayGoOn_20 rfl ?_
    refine g_aload_n (q := 24) C dX2_mayGoOn_23 rfl 0 rfl rfl ?_
    refine g_get (q := 27) C (h0).o.1 (celr_2 (h0).o.2) (ci := 2) (i := 2) rfl inlX2 (by decide) wm_4_6 rfl dX2_mayGoOn_24 rfl ?_
    obtain ⟨hc, H⟩ := H
    refine g_iald (q := 28) (m := 31) C ((h0).a2).1 ((h0).a2).2.1 ((h0).a2).2.2 hc (by decide) dX2_mayGoOn_27 rfl ?_
    obtain ⟨p28, hM, H⟩ := H
    refine g_callV (q := 31) (As := [vi (M (k0 + 1) (M k0 2)), vi (M (k0 + 2) (M k0 2))]) (st := []) (na := 2) C mX1_isEnd (h1).o.1 (celr_1 (h1).o.2) rfl hM wm_13_20 wm_13_9 wm_13_10 wm_3_11 wm_13_11 (by decide +kernel) rfl rfl (by decide) rfl (Nat.le_of_ble_eq_true rfl) dX2_mayGoOn_28 rfl (fun r28 M28 hp => ?_)
    have H := H r28 M28 hp
    show Gx x 2 31 [(0, vr (xg x) k0), (1, vr (xg x) k1)] [vi r28] M28
    obtain ⟨hr, Ht, Hf⟩ := H
    refine g_if_ne (q := 34) (t := 38) C dX2_mayGoOn_31 rfl (by decide) hr (fun hc => ?_) (fun hc => ?_)
    · have H := Ht hc
      refine g_iconst (q := 39) C dX2_mayGoOn_38 rfl ?_
      exact g_zret C hR dX2_mayGoOn_39 rfl (by decide) H
    · have H := Hf hc
      refine g_iconst (q := 35) C dX2_mayGoOn_34 rfl ?_
      refine g_goto (t := 39) C dX2_mayGoOn_35 (by decide) ?_
      exact g_zret C hR dX2_mayGoOn_39 rfl (by decide) H
set_option maxRecDepth 10000 in
set_option maxHeartbeats 2000000 in
theorem X3_takenFrom_0 {x : Xx} {post : Int → Mm → Prop} (C : Cx x mX3_takenFrom) (hR : Rt x mX3_takenFrom post) {k0 : Nat} (h0 : isP k0) (v1 v2 : Int) (M : Mm) (H : ∃ p3 : Int → Mm → Prop, Ct (xl x) (xg x) mX3_isPlace [vr (xg x) k0, vi v1, vi v2] M p3 ∧ ∀ (r3 : Int) (M3 : Mm), p3 r3 M3 → ((inR r3) ∧ (r3 = 0 → (post 0 M3)) ∧ (¬ (r3 = 0) → ((0 ≤ (v1 * 11) + v2 ∧ (v1 * 11) + v2 < 1331) ∧ (post (M3 (k0 + 8) ((v1 * 11) + v2)) M3))))) : Gx x 3 0 [(0, vr (xg x) k0), (1, vi v1), (2, vi v2)] [] M := by
  refine g_aload_n (q := 1) C dX3_takenFrom_0 rfl 0 rfl rfl ?_
  refine g_iload_n (q := 2) C dX3_takenFrom_1 rfl 1 rfl rfl ?_
  refine g_iload_n (q := 3) C dX3_takenFrom_2 rfl 2 rfl rfl ?_
  obtain ⟨p3, hM, H⟩ := H
  refine g_callV (q := 6) (As := [vi v1, vi v2]) (st := []) (na := 2) C mX3_isPlace (h0).o.1 (celr_3 (h0).o.2) rfl hM wm_14_1 wm_14_2 wm_14_3 wm_2_2 wm_14_4 (by decide +kernel) rfl rfl (by decide) rfl (Nat.le_of_ble_eq_true rfl) dX3_takenFrom_3 rfl (fun r3 M3 hp => ?_)
  have H := H r3 M3 hp
  show Gx x 3 6 [(0, vr (xg x) k0), (1, vi v1), (2, vi v2)] [vi r3] M3
  obtain ⟨hr, Ht, Hf⟩ := H
  refine g_if_eq (q := 9) (t := 23) C dX3_takenFrom_6 rfl (by decide) hr (fun hc => ?_) (fun hc => ?_)
  · have H := Ht hc
    refine g_iconst (q := 24) C dX3_takenFrom_23 rfl ?_
    exact g_iret C hR dX3_takenFrom_24 rfl H
  · have H := Hf hc
    refine g_aload_n (q := 10) C dX3_takenFrom_9 rfl 0 rfl rfl ?_
    refine g_get (q := 13) C (h0).o.1 (celr_3 (h0).o.2) (ci := 3) (i := 3) rfl inlX3 (by decide) wm_3_15 rfl dX3_takenFrom_10 rfl ?_
    refine g_iload_n (q := 14) C dX3_takenFrom_13 rfl 1 rfl rfl ?_
    refine g_bipush (q := 16) C dX3_takenFrom_14 rfl (by decide) ?_
    refine g_imul (q := 17) C dX3_takenFrom_16 rfl ?_
    refine g_iload_n (q := 18) C dX3_takenFrom_17 rfl 2 rfl rfl ?_
    refine g_iadd (q := 19) C dX3_takenFrom_18 rfl ?_
    obtain ⟨hc, H⟩ := H
    refine g_iald (q := 20) (m := 1331) C ((h0).a8).1 ((h0).a8).2.1 ((h0).a8).2.2 hc (by decide) dX3_takenFrom_19 rfl ?_
    refine g_goto (t := 24) C dX3_takenFrom_20 (by decide) ?_
    exact g_iret C hR dX3_takenFrom_24 rfl H
set_option maxRecDepth 10000 in
set_option maxHeartbeats 2000000 in
theorem X3_isPlace_0 {x : Xx} {post : Int → Mm → Prop} (C : Cx x mX3_isPlace) (hR : Rt x mX3_isPlace post) {k0 : Nat} (h0 : isP k0) (v1 v2 : Int) (M : Mm) (H : (inR v1) ∧ (v1 < 0 → (post 0 M)) ∧ (¬ (v1 < 0) → ((inR v1 ∧ inR (M (k0 + 1) 0)) ∧ (M (k0 + 1) 0 < v1 → (post 0 M)) ∧ (¬ (M (k0 + 1) 0 < v1) → ((inR v2) ∧ (v2 < 0 → (post 0 M)) ∧ (¬ (v2 < 0) → ((inR v2 ∧ inR (M (k0 + 1) 1)) ∧ (M (k0 + 1) 1 < v2 → (post 0 M)) ∧ (¬ (M (k0 + 1) 1 < v2) → ((0 ≤ (v1 * 11) + v2 ∧ (v1 * 11) + v2 < 1331) ∧ ((inR (M (k0 + 6) ((v1 * 11) + v2))) ∧ (M (k0 + 6) ((v1 * 11) + v2) = (-1) → (post 0 M)) ∧ (¬ (M (k0 + 6) ((v1 * 11) + v2) = (-1)) → (post 1 M)))))))))))) : Gx x 3 0 [(0, vr (xg x) k0), (1, vi v1), (2, vi v2)] [] M := by
  refine g_iload_n (q := 1) C dX3_isPlace_0 rfl 1 rfl rfl ?_
  obtain ⟨hr, Ht, Hf⟩ := H
  refine g_if_lt (q := 4) (t := 49) C dX3_isPlace_1 rfl (by decide) hr (fun hc => ?_) (fun hc => ?_)
  · have H := Ht hc
    refine g_iconst (q := 50) C dX3_isPlace_49 rfl ?_
    exact g_zret C hR dX3_isPlace_50 rfl (by decide) H
  · have H := Hf hc
    refine g_iload_n (q := 5) C dX3_isPlace_4 rfl 1 rfl rfl ?_
    refine g_aload_n (q := 6) C dX3_isPlace_5 rfl 0 rfl rfl ?_
    refine g_get (q := 9) C (h0).o.1 (celr_3 (h0).o.2) (ci := 3) (i := 0) rfl inlX3 (by decide) wm_3_12 rfl dX3_isPlace_6 rfl ?_
    refine g_getN (q := 12) C ((h0).m).o.1 (celr_1 ((h0).m).o.2) (ci := 1) (i := 0) rfl inlX1 (by decide) (by decide +kernel) rfl dX3_isPlace_9 rfl ?_
    obtain ⟨hr, Ht, Hf⟩ := H
    refine g_icmp_gt (q := 15) (t := 49) C dX3_isPlace_12 rfl (by decide) hr (fun hc => ?_) (fun hc => ?_)
    · have H := Ht hc
      refine g_iconst (q := 50) C dX3_isPlace_49 rfl ?_
      exact g_zret C hR dX3_isPlace_50 rfl (by decide) H
    · have H := Hf hc
      refine g_iload_n (q := 16) C dX3_isPlace_15 rfl 2 rfl rfl ?_
      obtain ⟨hr, Ht, Hf⟩ := H
      refine g_if_lt (q := 19) (t := 49) C dX3_isPlace_16 rfl (by decide) hr (fun hc => ?_) (fun hc => ?_)
      · have H := Ht hc
        refine g_iconst (q := 50) C dX3_isPlace_49 rfl ?_
        exact g_zret C hR dX3_isPlace_50 rfl (by decide) H
      · have H := Hf hc
        refine g_iload_n (q := 20) C dX3_isPlace_19 rfl 2 rfl rfl ?_
        refine g_aload_n (q := 21) C dX3_isPlace_20 rfl 0 rfl rfl ?_
        refine g_get (q := 24) C (h0).o.1 (celr_3 (h0).o.2) (ci := 3) (i := 0) rfl inlX3 (by decide) wm_3_12 rfl dX3_isPlace_21 rfl ?_
        refine g_getN (q := 27) C ((h0).m).o.1 (celr_1 ((h0).m).o.2) (ci := 1) (i := 1) rfl inlX1 (by decide) (by decide +kernel) rfl dX3_isPlace_24 rfl ?_
        obtain ⟨hr, Ht, Hf⟩ := H
        refine g_icmp_gt (q := 30) (t := 49) C dX3_isPlace_27 rfl (by decide) hr (fun hc => ?_) (fun hc => ?_)
        · have H := Ht hc
          refine g_iconst (q := 50) C dX3_isPlace_49 rfl ?_
          exact g_zret C hR dX3_isPlace_50 rfl (by decide) H
        · have H := Hf hc
          refine g_aload_n (q := 31) C dX3_isPlace_30 rfl 0 rfl rfl ?_
          refine g_get (q := 34) C (h0).o.1 (celr_3 (h0).o.2) (ci := 3) (i := 1) rfl inlX3 (by decide) wm_3_13 rfl dX3_isPlace_31 rfl ?_
          refine g_iload_n (q := 35) C dX3_isPlace_34 rfl 1 rfl rfl ?_
          refine g_bipush (q := 37) C dX3_isPlace_35 rfl (by decide) ?_
          refine g_imul (q := 38) C dX3_isPlace_37 rfl ?_
          refine g_iload_n (q := 39) C dX3_isPlace_38 rfl 2 rfl rfl ?_
          refine g_iadd (q := 40) C dX3_isPlace_39 rfl ?_
          obtain ⟨hc, H⟩ := H
          refine g_iald (q := 41) (m := 1331) C ((h0).a6).1 ((h0).a6).2.1 ((h0).a6).2.2 hc (by decide) dX3_isPlace_40 rfl ?_
          refine g_iconst (q := 42) C dX3_isPlace_41 rfl ?_
          obtain ⟨hr, Ht, Hf⟩ := H
          refine g_icmp_eq (q := 45) (t := 49) C dX3_isPlace_42 rfl (by decide) ⟨hr, by decide⟩ (fun hc => ?_) (fun hc => ?_)
          · have H := Ht hc
            refine g_iconst (q := 50) C dX3_isPlace_49 rfl ?_
            exact g_zret C hR dX3_isPlace_50 rfl (by decide) H
          · have H := Hf hc
            refine g_iconst (q := 46) C dX3_isPlace_45 rfl ?_
            refine g_goto (t := 50) C dX3_isPlace_46 (by decide) ?_
            exact g_zret C hR dX3_isPlace_50 rfl (by decide) H
set_option maxRecDepth 10000 in
set_option maxHeartbeats 2000000 in
theorem X2_addPage_0 {x : Xx} {post : Int → Mm → Prop} (C : Cx x mX2_addPage) (hR : Rt x mX2_addPage post) {k0 : Nat} (h0 : isPl k0) {k1 : Nat} (h1 : isMe k1) (v2 : Int) (M : Mm) (H : (0 ≤ M k0 2 ∧ M k0 2 < 31) ∧ (∀ w9 : Int, w9 = (M (k0 + 1) (M k0 2)) → ((0 ≤ M k0 2 ∧ M k0 2 < 31) ∧ (∀ w19 : Int, w19 = (M (k0 + 2) (M k0 2)) → (∀ M28 : Mm, M28 = mu M k0 2 ((M k0 2) + 1) → (∃ p44 : Int → Mm → Prop, Ct (xl x) (xg x) mX1_linesBehind [vr (xg x) k1, vi w9, vi w19, vi v2] M28 p44 ∧ ∀ (r44 : Int) (M44 : Mm), p44 r44 M44 → ((0 ≤ M28 k0 2 ∧ M28 k0 2 < 31) ∧ (∀ M47 : Mm, M47 = mu M44 (k0 + 1) (M28 k0 2) r44 → ((0 ≤ M47 k0 2 ∧ M47 k0 2 < 31) ∧ (∀ M60 : Mm, M60 = mu M47 (k0 + 2) (M47 k0 2) (w19 + v2) → (post 0 M60))))))))))) : Gx x 5 0 [(0, vr (xg x) k0), (1, vr (xg x) k1), (2, vi v2)] [] M := by
  refine g_aload_n (q := 1) C dX2_addPage_0 rfl 0 rfl rfl ?_
  refine g_get (q := 4) C (h0).o.1 (celr_2 (h0).o.2) (ci := 2) (i := 0) rfl inlX2 (by decide) wm_4_4 rfl dX2_addPage_1 rfl ?_
  refine g_aload_n (q := 5) C dX2_addPage_4 rfl 0 rfl rfl ?_
  refine g_get (q := 8) C (h0).o.1 (celr_2 (h0).o.2) (ci := 2) (i := 2) rfl inlX2 (by decide) wm_4_6 rfl dX2_addPage_5 rfl ?_
  obtain ⟨hc, H⟩ := H
  refine g_iald (q := 9) (m := 31) C ((h0).a1).1 ((h0).a1).2.1 ((h0).a1).2.2 hc (by decide) dX2_addPage_8 rfl ?_
  refine g_topi (fun w9 hw9 => ?_)
  have H := H w9 hw9
  refine g_istore_n (q := 10) (L2 := [(3, vi w9), (0, vr (xg x) k0), (1, vr (xg x) k1), (2, vi v2)]) C dX2_addPage_9 rfl rfl (by decide) rfl ?_
  refine g_aload_n (q := 11) C dX2_addPage_10 rfl 1 rfl rfl ?_
  refine g_get (q := 14) C (h0).o.1 (celr_2 (h0).o.2) (ci := 2) (i := 1) rfl inlX2 (by decide) wm_4_5 rfl dX2_addPage_11 rfl ?_
  refine g_aload_n (q := 15) C dX2_addPage_14 rfl 1 rfl rfl ?_
  refine g_get (q := 18) C (h0).o.1 (celr_2 (h0).o.2) (ci := 2) (i := 2) rfl inlX2 (by decide) wm_4_6 rfl dX2_addPage_15 rfl ?_
  obtain ⟨hc, H⟩ := H
  refine g_iald (q := 19) (m := 31) C ((h0).a2).1 ((h0).a2).2.1 ((h0).a2).2.2 hc (by decide) dX2_addPage_18 rfl ?_
  refine g_topi (fun w19 hw19 => ?_)
  have H := H w19 hw19
  refine g_istore (q := 21) (L2 := [(4, vi w19), (3, vi w9), (0, vr (xg x) k0), (1, vr (xg x) k1), (2, vi v2)]) C dX2_addPage_19 rfl (by decide) rfl ?_
  refine g_aload_n (q := 22) C dX2_addPage_21 rfl 2 rfl rfl ?_
  refine g_dup (q := 23) C dX2_addPage_22 rfl rfl ?_
  refine g_get (q := 26) C (h0).o.1 (celr_2 (h0).o.2) (ci := 2) (i := 2) rfl inlX2 (by decide) wm_4_6 rfl dX2_addPage_23 rfl ?_
  refine g_iconst (q := 27) C dX2_addPage_26 rfl ?_
  refine g_iadd (q := 28) C dX2_addPage_27 rfl ?_
  refine g_put (q := 31) (ty := .int) C (h0).o.1 (celr_2 (h0).o.2) (ci := 2) (i := 2) rfl inlX2 tyX2_ok nmX2 (by decide) wm_4_6 rfl rfl rfl rfl (Nat.le_of_ble_eq_true rfl) (by rw [celr_2 (h0).o.2]; rfl) dX2_addPage_28 rfl ?_
  refine g_topM (fun M28 hM28 => ?_)
  have H := H M28 hM28
  refine g_aload_n (q := 32) C dX2_addPage_31 rfl 2 rfl rfl ?_
  refine g_get (q := 35) C (h0).o.1 (celr_2 (h0).o.2) (ci := 2) (i := 0) rfl inlX2 (by decide) wm_4_4 rfl dX2_addPage_32 rfl ?_
  refine g_aload_n (q := 36) C dX2_addPage_35 rfl 2 rfl rfl ?_
  refine g_get (q := 39) C (h0).o.1 (celr_2 (h0).o.2) (ci := 2) (i := 2) rfl inlX2 (by decide) wm_4_6 rfl dX2_addPage_36 rfl ?_
  refine g_aload_n (q := 40) C dX2_addPage_39 rfl 3 rfl rfl ?_
  refine g_iload_n (q := 41) C dX2_addPage_40 rfl 1 rfl rfl ?_
  refine g_iload (q := 43) C dX2_addPage_41 rfl 0 rfl ?_
  refine g_iload_n (q := 44) C dX2_addPage_43 rfl 4 rfl rfl ?_
  obtain ⟨p44, hM, H⟩ := H
  refine g_callV (q := 47) (As := [vi w9, vi w19, vi v2]) (st := [vi (M28 k0 2), vr (xg x) (k0 + 1)]) (na := 3) C mX1_linesBehind (h1).o.1 (celr_1 (h1).o.2) rfl hM wm_14_9 wm_12_11 wm_12_12 wm_3_11 wm_12_13 (by decide +kernel) rfl rfl (by decide) rfl (Nat.le_of_ble_eq_true rfl) dX2_addPage_44 rfl (fun r44 M44 hp => ?_)
  have H := H r44 M44 hp
  show Gx x 5 47 [(4, vi w19), (3, vi w9), (0, vr (xg x) k0), (1, vr (xg x) k1), (2, vi v2)] [vi r44, vi (M28 k0 2), vr (xg x) (k0 + 1)] M44
  obtain ⟨hc, H⟩ := H
  refine g_iast (q := 48) (m := 31) C ((h0).a1).1 ((h0).a1).2.1 ((h0).a1).2.2 hc (by decide) dX2_addPage_47 rfl ?_
  refine g_topM (fun M47 hM47 => ?_)
  have H := H M47 hM47
  refine g_aload_n (q := 49) C dX2_addPage_48 rfl 2 rfl rfl ?_
  refine g_get (q := 52) C (h0).o.1 (celr_2 (h0).o.2) (ci := 2) (i := 1) rfl inlX2 (by decide) wm_4_5 rfl dX2_addPage_49 rfl ?_
  refine g_aload_n (q := 53) C dX2_addPage_52 rfl 2 rfl rfl ?_
  refine g_get (q := 56) C (h0).o.1 (celr_2 (h0).o.2) (ci := 2) (i := 2) rfl inlX2 (by decide) wm_4_6 rfl dX2_addPage_53 rfl ?_
  refine g_iload (q := 58) C dX2_addPage_56 rfl 0 rfl ?_
  refine g_iload_n (q := 59) C dX2_addPage_58 rfl 4 rfl rfl ?_
  refine g_iadd (q := 60) C dX2_addPage_59 rfl ?_
  obtain ⟨hc, H⟩ := H
  refine g_iast (q := 61) (m := 31) C ((h0).a2).1 ((h0).a2).2.1 ((h0).a2).2.2 hc (by decide) dX2_addPage_60 rfl ?_
  refine g_topM (fun M60 hM60 => ?_)
  have H := H M60 hM60
  exact g_ret C hR dX2_addPage_61 rfl H
set_option maxRecDepth 10000 in
set_option maxHeartbeats 2000000 in
theorem X2_takeMost_0 {x : Xx} {post : Int → Mm → Prop} (C : Cx x mX2_takeMost) (hR : Rt x mX2_takeMost post) {k0 : Nat} (h0 : isPl k0) {k1 : Nat} (h1 : isMe k1) (M : Mm) (H : (inR (M k1 4)) ∧ (M k1 4 = (-1) → (∀ M16 : Mm, M16 = mu M k0 2 0 → (Gx x 5 21 [(0, vr (xg x) k0), (1, vr (xg x) k1), (2, vi 0)] [] M16))) ∧ (¬ (M k1 4 = (-1)) → (∀ M10 : Mm, M10 = mu M k0 2 (-1) → (post 0 M10)))) : Gx x 5 0 [(0, vr (xg x) k0), (1, vr (xg x) k1)] [] M := by
  refine g_aload_n (q := 1) C dX2_takeMost_0 rfl 1 rfl rfl ?_
  refine g_getN (q := 4) C (h1).o.1 (celr_1 (h1).o.2) (ci := 1) (i := 4) rfl inlX1 (by decide) (by decide +kernel) rfl dX2_takeMost_1 rfl ?_
  refine g_iconst (q := 5) C dX2_takeMost_4 rfl ?_
  obtain ⟨hr, Ht, Hf⟩ := H
  refine g_icmp_eq (q := 8) (t := 14) C dX2_takeMost_5 rfl (by decide) ⟨hr, by decide⟩ (fun hc => ?_) (fun hc => ?_)
  · have H := Ht hc
    refine g_aload_n (q := 15) C dX2_takeMost_14 rfl 0 rfl rfl ?_
    refine g_iconst (q := 16) C dX2_takeMost_15 rfl ?_
    refine g_put (q := 19) (ty := .int) C (h0).o.1 (celr_2 (h0).o.2) (ci := 2) (i := 2) rfl inlX2 tyX2_ok nmX2 (by decide) wm_4_6 rfl rfl rfl rfl (Nat.le_of_ble_eq_true rfl) (by rw [celr_2 (h0).o.2]; rfl) dX2_takeMost_16 rfl ?_
    refine g_topM (fun M16 hM16 => ?_)
    have H := H M16 hM16
    refine g_iconst (q := 20) C dX2_takeMost_19 rfl ?_
    refine g_istore_n (q := 21) (L2 := [(2, vi 0), (0, vr (xg x) k0), (1, vr (xg x) k1)]) C dX2_takeMost_20 rfl rfl (by decide) rfl ?_
    refine g_sub [1, 2, 0] rfl ?_
    exact H
  · have H := Hf hc
    refine g_aload_n (q := 9) C dX2_takeMost_8 rfl 0 rfl rfl ?_
    refine g_iconst (q := 10) C dX2_takeMost_9 rfl ?_
    refine g_put (q := 13) (ty := .int) C (h0).o.1 (celr_2 (h0).o.2) (ci := 2) (i := 2) rfl inlX2 tyX2_ok nmX2 (by decide) wm_4_6 rfl rfl rfl rfl (Nat.le_of_ble_eq_true rfl) (by rw [celr_2 (h0).o.2]; rfl) dX2_takeMost_10 rfl ?_
    refine g_topM (fun M10 hM10 => ?_)
    have H := H M10 hM10
    exact g_ret C hR dX2_takeMost_13 rfl H
set_option maxRecDepth 10000 in
set_option maxHeartbeats 2000000 in
theorem X2_takeMost_21 {x : Xx} {post : Int → Mm → Prop} (C : Cx x mX2_takeMost) (hR : Rt x mX2_takeMost post) {k0 : Nat} (h0 : isPl k0) {k1 : Nat} (h1 : isMe k1) (v2 : Int) (M : Mm) (H : (inR v2) ∧ (30 ≤ v2 → (post 0 M)) ∧ (¬ (30 ≤ v2) → (∃ p29 : Int → Mm → Prop, Ct (xl x) (xg x) mX2_mayGoOn [vr (xg x) k0, vr (xg x) k1] M p29 ∧ ∀ (r29 : Int) (M29 : Mm), p29 r29 M29 → ((inR r29) ∧ (r29 = 0 → (post 0 M29)) ∧ (¬ (r29 = 0) → ((0 ≤ v2 ∧ v2 < 31) ∧ (∀ w41 : Int, w41 = (M29 (k0 + 2) v2) → ((0 ≤ w41 ∧ w41 < 11) ∧ (∀ w48 : Int, w48 = (M29 (k1 + 3) w41) → (Gx x 5 50 [(0, vr (xg x) k0), (1, vr (xg x) k1), (2, vi v2), (3, vi w41), (4, vi w48)] [] M29)))))))))) : Gx x 5 21 [(0, vr (xg x) k0), (1, vr (xg x) k1), (2, vi v2)] [] M := by
  refine g_iload_n (q := 22) C dX2_takeMost_21 rfl 2 rfl rfl ?_
  refine g_bipush (q := 24) C dX2_takeMost_22 rfl (by decide) ?_
  obtain ⟨hr, Ht, Hf⟩ := H
  refine g_icmp_ge (q := 27) (t := 97) C dX2_takeMost_24 rfl (by decide) ⟨hr, by decide⟩ (fun hc => ?_) (fun hc => ?_)
  · have H := Ht hc
    exact g_ret C hR dX2_takeMost_97 rfl H
  · have H := Hf hc
    refine g_aload_n (q := 28) C dX2_takeMost_27 rfl 0 rfl rfl ?_
    refine g_aload_n (q := 29) C dX2_takeMost_28 rfl 1 rfl rfl ?_
    obtain ⟨p29, hM, H⟩ := H
    refine g_callV (q := 32) (As := [vr (xg x) k1]) (st := []) (na := 1) C mX2_mayGoOn (h0).o.1 (celr_2 (h0).o.2) rfl hM wm_13_16 wm_13_17 wm_13_18 wm_2_7 wm_13_19 (by decide +kernel) rfl rfl (by decide) rfl (Nat.le_of_ble_eq_true rfl) dX2_takeMost_29 rfl (fun r29 M29 hp => ?_)
    have H := H r29 M29 hp
    show Gx x 5 32 [(0, vr (xg x) k0), (1, vr (xg x) k1), (2, vi v2)] [vi r29] M29
    obtain ⟨hr, Ht, Hf⟩ := H
    refine g_if_eq (q := 35) (t := 97) C dX2_takeMost_32 rfl (by decide) hr (fun hc => ?_) (fun hc => ?_)
    · have H := Ht hc
      exact g_ret C hR dX2_takeMost_97 rfl H
    · have H := Hf hc
      refine g_aload_n (q := 36) C dX2_takeMost_35 rfl 0 rfl rfl ?_
      refine g_get (q := 39) C (h0).o.1 (celr_2 (h0).o.2) (ci := 2) (i := 1) rfl inlX2 (by decide) wm_4_5 rfl dX2_takeMost_36 rfl ?_
      refine g_iload_n (q := 40) C dX2_takeMost_39 rfl 2 rfl rfl ?_
      obtain ⟨hc, H⟩ := H
      refine g_iald (q := 41) (m := 31) C ((h0).a2).1 ((h0).a2).2.1 ((h0).a2).2.2 hc (by decide) dX2_takeMost_40 rfl ?_
      refine g_topi (fun w41 hw41 => ?_)
      have H := H w41 hw41
      refine g_istore_n (q := 42) (L2 := [(3, vi w41), (0, vr (xg x) k0), (1, vr (xg x) k1), (2, vi v2)]) C dX2_takeMost_41 rfl rfl (by decide) rfl ?_
      refine g_aload_n (q := 43) C dX2_takeMost_42 rfl 2 rfl rfl ?_
      refine g_getN (q := 46) C (h1).o.1 (celr_1 (h1).o.2) (ci := 1) (i := 7) rfl inlX1 (by decide) (by decide +kernel) rfl dX2_takeMost_43 rfl ?_
      refine g_iload_n (q := 47) C dX2_takeMost_46 rfl 0 rfl rfl ?_
      obtain ⟨hc, H⟩ := H
      refine g_iald (q := 48) (m := 11) C ((h1).a3).1 ((h1).a3).2.1 ((h1).a3).2.2 hc (by decide) dX2_takeMost_47 rfl ?_
      refine g_topi (fun w48 hw48 => ?_)
      have H := H w48 hw48
      refine g_istore (q := 50) (L2 := [(4, vi w48), (3, vi w41), (0, vr (xg x) k0), (1, vr (xg x) k1), (2, vi v2)]) C dX2_takeMost_48 rfl (by decide) rfl ?_
      refine g_sub [2, 3, 4, 1, 0] rfl ?_
      exact H
set_option maxRecDepth 10000 in
set_option maxHeartbeats 2000000 in
theorem X2_takeMost_50 {x : Xx} {post : Int → Mm → Prop} (C : Cx x mX2_takeMost) (hR : Rt x mX2_takeMost post) {k0 : Nat} (h0 : isPl k0) {k1 : Nat} (h1 : isMe k1) (v2 v3 v4 : Int) (M : Mm) (H : (inR v4) ∧ (v4 ≤ 0 → (∃ p88 : Int → Mm → Prop, Ct (xl x) (xg x) mX2_addPage [vr (xg x) k0, vr (xg x) k1, vi v4] M p88 ∧ ∀ (r88 : Int) (M88 : Mm), p88 r88 M88 → (Gx x 5 21 [(0, vr (xg x) k0), (1, vr (xg x) k1), (2, vi (v2 + 1))] [] M88))) ∧ (¬ (v4 ≤ 0) → ((0 ≤ v2 ∧ v2 < 31) ∧ (∃ p69 : Int → Mm → Prop, Ct (xl x) (xg x) mX1_linesBehind [vr (xg x) k1, vi (M (k0 + 1) v2), vi v3, vi v4] M p69 ∧ ∀ (r69 : Int) (M69 : Mm), p69 r69 M69 → (∃ p72 : Int → Mm → Prop, Ct (xl x) (xg x) mX1_areMentioned [vr (xg x) k1, vi v3, vi v4, vi r69] M69 p72 ∧ ∀ (r72 : Int) (M72 : Mm), p72 r72 M72 → ((inR r72) ∧ (¬ (r72 = 0) → (∃ p88 : Int → Mm → Prop, Ct (xl x) (xg x) mX2_addPage [vr (xg x) k0, vr (xg x) k1, vi v4] M72 p88 ∧ ∀ (r88 : Int) (M88 : Mm), p88 r88 M88 → (Gx x 5 21 [(0, vr (xg x) k0), (1, vr (xg x) k1), (2, vi (v2 + 1))] [] M88))) ∧ (r72 = 0 → (Gx x 5 50 [(0, vr (xg x) k0), (1, vr (xg x) k1), (2, vi v2), (3, vi v3), (4, vi (v4 + (-1)))] [] M72)))))))) : Gx x 5 50 [(0, vr (xg x) k0), (1, vr (xg x) k1), (2, vi v2), (3, vi v3), (4, vi v4)] [] M := by
  refine g_iload (q := 52) C dX2_takeMost_50 rfl 4 rfl ?_
  obtain ⟨hr, Ht, Hf⟩ := H
  refine g_if_le (q := 55) (t := 84) C dX2_takeMost_52 rfl (by decide) hr (fun hc => ?_) (fun hc => ?_)
  · have H := Ht hc
    refine g_aload_n (q := 85) C dX2_takeMost_84 rfl 0 rfl rfl ?_
    refine g_aload_n (q := 86) C dX2_takeMost_85 rfl 1 rfl rfl ?_
    refine g_iload (q := 88) C dX2_takeMost_86 rfl 4 rfl ?_
    obtain ⟨p88, hM, H⟩ := H
    refine g_callV (q := 91) (As := [vr (xg x) k1, vi v4]) (st := []) (na := 2) C mX2_addPage (h0).o.1 (celr_2 (h0).o.2) rfl hM wm_14_5 wm_14_6 wm_14_7 wm_2_7 wm_14_8 (by decide +kernel) rfl rfl (by decide) rfl (Nat.le_of_ble_eq_true rfl) dX2_takeMost_88 rfl (fun r88 M88 hp => ?_)
    have H := H r88 M88 hp
    show Gx x 5 91 [(0, vr (xg x) k0), (1, vr (xg x) k1), (2, vi v2), (3, vi v3), (4, vi v4)] [] M88
    refine g_iinc (q := 94) (L2 := [(2, vi (v2 + 1)), (0, vr (xg x) k0), (1, vr (xg x) k1), (3, vi v3), (4, vi v4)]) C dX2_takeMost_91 rfl 2 rfl (by decide) rfl ?_
    refine g_goto (t := 21) C dX2_takeMost_94 (by decide) ?_
    refine g_sub [1, 2, 0] rfl ?_
    exact H
  · have H := Hf hc
    refine g_aload_n (q := 56) C dX2_takeMost_55 rfl 1 rfl rfl ?_
    refine g_iload_n (q := 57) C dX2_takeMost_56 rfl 3 rfl rfl ?_
    refine g_iload (q := 59) C dX2_takeMost_57 rfl 4 rfl ?_
    refine g_aload_n (q := 60) C dX2_takeMost_59 rfl 1 rfl rfl ?_
    refine g_aload_n (q := 61) C dX2_takeMost_60 rfl 0 rfl rfl ?_
    refine g_get (q := 64) C (h0).o.1 (celr_2 (h0).o.2) (ci := 2) (i := 0) rfl inlX2 (by decide) wm_4_4 rfl dX2_takeMost_61 rfl ?_
    refine g_iload_n (q := 65) C dX2_takeMost_64 rfl 2 rfl rfl ?_
    obtain ⟨hc, H⟩ := H
    refine g_iald (q := 66) (m := 31) C ((h0).a1).1 ((h0).a1).2.1 ((h0).a1).2.2 hc (by decide) dX2_takeMost_65 rfl ?_
    refine g_iload_n (q := 67) C dX2_takeMost_66 rfl 3 rfl rfl ?_
    refine g_iload (q := 69) C dX2_takeMost_67 rfl 4 rfl ?_
    obtain ⟨p69, hM, H⟩ := H
    refine g_callV (q := 72) (As := [vi (M (k0 + 1) v2), vi v3, vi v4]) (st := [vi v4, vi v3, vr (xg x) k1]) (na := 3) C mX1_linesBehind (h1).o.1 (celr_1 (h1).o.2) rfl hM wm_14_9 wm_12_11 wm_12_12 wm_3_11 wm_12_13 (by decide +kernel) rfl rfl (by decide) rfl (Nat.le_of_ble_eq_true rfl) dX2_takeMost_69 rfl (fun r69 M69 hp => ?_)
    have H := H r69 M69 hp
    show Gx x 5 72 [(0, vr (xg x) k0), (1, vr (xg x) k1), (2, vi v2), (3, vi v3), (4, vi v4)] [vi r69, vi v4, vi v3, vr (xg x) k1] M69
    obtain ⟨p72, hM, H⟩ := H
    refine g_callV (q := 75) (As := [vi v3, vi v4, vi r69]) (st := []) (na := 3) C mX1_areMentioned (h1).o.1 (celr_1 (h1).o.2) rfl hM wm_14_14 wm_12_15 wm_12_16 wm_3_11 wm_12_17 (by decide +kernel) rfl rfl (by decide) rfl (Nat.le_of_ble_eq_true rfl) dX2_takeMost_72 rfl (fun r72 M72 hp => ?_)
    have H := H r72 M72 hp
    show Gx x 5 75 [(0, vr (xg x) k0), (1, vr (xg x) k1), (2, vi v2), (3, vi v3), (4, vi v4)] [vi r72] M72
    obtain ⟨hr, Ht, Hf⟩ := H
    refine g_if_ne (q := 78) (t := 84) C dX2_takeMost_75 rfl (by decide) hr (fun hc => ?_) (fun hc => ?_)
    · have H := Ht hc
      refine g_aload_n (q := 85) C dX2_takeMost_84 rfl 0 rfl rfl ?_
      refine g_aload_n (q := 86) C dX2_takeMost_85 rfl 1 rfl rfl ?_
      refine g_iload (q := 88) C dX2_takeMost_86 rfl 4 rfl ?_
      obtain ⟨p88, hM, H⟩ := H
      refine g_callV (q := 91) (As := [vr (xg x) k1, vi v4]) (st := []) (na := 2) C mX2_addPage (h0).o.1 (celr_2 (h0).o.2) rfl hM wm_14_5 wm_14_6 wm_14_7 wm_2_7 wm_14_8 (by decide +kernel) rfl rfl (by decide) rfl (Nat.le_of_ble_eq_true rfl) dX2_takeMost_88 rfl (fun r88 M88 hp => ?_)
      have H := H r88 M88 hp
      show Gx x 5 91 [(0, vr (xg x) k0), (1, vr (xg x) k1), (2, vi v2), (3, vi v3), (4, vi v4)] [] M88
      refine g_iinc (q := 94) (L2 := [(2, vi (v2 + 1)), (0, vr (xg x) k0), (1, vr (xg x) k1), (3, vi v3), (4, vi v4)]) C dX2_takeMost_91 rfl 2 rfl (by decide) rfl ?_
      refine g_goto (t := 21) C dX2_takeMost_94 (by decide) ?_
      refine g_sub [1, 2, 0] rfl ?_
      exact H
    · have H := Hf hc
      refine g_iinc (q := 81) (L2 := [(4, vi (v4 + (-1))), (0, vr (xg x) k0), (1, vr (xg x) k1), (2, vi v2), (3, vi v3)]) C dX2_takeMost_78 rfl 4 rfl (by decide) rfl ?_
      refine g_goto (t := 50) C dX2_takeMost_81 (by decide) ?_
      refine g_sub [1, 2, 3, 4, 0] rfl ?_
      exact H
set_option maxRecDepth 10000 in
set_option maxHeartbeats 2000000 in
theorem X3_costFrom_0 {x : Xx} {post : Int → Mm → Prop} (C : Cx x mX3_costFrom) (hR : Rt x mX3_costFrom post) {k0 : Nat} (h0 : isP k0) (v1 v2 : Int) (M : Mm) (H : ∃ p3 : Int → Mm → Prop, Ct (xl x) (xg x) mX3_isPlace [vr (xg x) k0, vi v1, vi v2] M p3 ∧ ∀ (r3 : Int) (M3 : Mm), p3 r3 M3 → ((inR r3) ∧ (r3 = 0 → (post (-1) M3)) ∧ (¬ (r3 = 0) → ((0 ≤ (v1 * 11) + v2 ∧ (v1 * 11) + v2 < 1331) ∧ ((0 ≤ M3 (k0 + 6) ((v1 * 11) + v2) ∧ M3 (k0 + 6) ((v1 * 11) + v2) < 2147483648) ∧ (post ((M3 (k0 + 6) ((v1 * 11) + v2)) / 64) M3)))))) : Gx x 3 0 [(0, vr (xg x) k0), (1, vi v1), (2, vi v2)] [] M := by
  refine g_aload_n (q := 1) C dX3_costFrom_0 rfl 0 rfl rfl ?_
  refine g_iload_n (q := 2) C dX3_costFrom_1 rfl 1 rfl rfl ?_
  refine g_iload_n (q := 3) C dX3_costFrom_2 rfl 2 rfl rfl ?_
  obtain ⟨p3, hM, H⟩ := H
  refine g_callV (q := 6) (As := [vi v1, vi v2]) (st := []) (na := 2) C mX3_isPlace (h0).o.1 (celr_3 (h0).o.2) rfl hM wm_14_1 wm_14_2 wm_14_3 wm_2_2 wm_14_4 (by decide +kernel) rfl rfl (by decide) rfl (Nat.le_of_ble_eq_true rfl) dX3_costFrom_3 rfl (fun r3 M3 hp => ?_)
  have H := H r3 M3 hp
  show Gx x 3 6 [(0, vr (xg x) k0), (1, vi v1), (2, vi v2)] [vi r3] M3
  obtain ⟨hr, Ht, Hf⟩ := H
  refine g_if_eq (q := 9) (t := 26) C dX3_costFrom_6 rfl (by decide) hr (fun hc => ?_) (fun hc => ?_)
  · have H := Ht hc
    refine g_iconst (q := 27) C dX3_costFrom_26 rfl ?_
    exact g_iret C hR dX3_costFrom_27 rfl H
  · have H := Hf hc
    refine g_aload_n (q := 10) C dX3_costFrom_9 rfl 0 rfl rfl ?_
    refine g_get (q := 13) C (h0).o.1 (celr_3 (h0).o.2) (ci := 3) (i := 1) rfl inlX3 (by decide) wm_3_13 rfl dX3_costFrom_10 rfl ?_
    refine g_iload_n (q := 14) C dX3_costFrom_13 rfl 1 rfl rfl ?_
    refine g_bipush (q := 16) C dX3_costFrom_14 rfl (by decide) ?_
    refine g_imul (q := 17) C dX3_costFrom_16 rfl ?_
    refine g_iload_n (q := 18) C dX3_costFrom_17 rfl 2 rfl rfl ?_
    refine g_iadd (q := 19) C dX3_costFrom_18 rfl ?_
    obtain ⟨hc, H⟩ := H
    refine g_iald (q := 20) (m := 1331) C ((h0).a6).1 ((h0).a6).2.1 ((h0).a6).2.2 hc (by decide) dX3_costFrom_19 rfl ?_
    refine g_bipush (q := 22) C dX3_costFrom_20 rfl (by decide) ?_
    obtain ⟨hc, H⟩ := H
    refine g_idiv (q := 23) C dX3_costFrom_22 rfl ⟨hc, by decide⟩ ?_
    refine g_goto (t := 27) C dX3_costFrom_23 (by decide) ?_
    exact g_iret C hR dX3_costFrom_27 rfl H
set_option maxRecDepth 10000 in
set_option maxHeartbeats 2000000 in
theorem X0_bringBack_0 {x : Xx} {post : Int → Mm → Prop} (C : Cx x mX0_bringBack) (hR : Rt x mX0_bringBack post) {k1 : Nat} (h1 : isS k1) (M : Mm) (H : (0 ≤ ((M 4 1) + 6) - 1 ∧ ((M 4 1) + 6) - 1 < 2147483648) ∧ (∀ M13 : Mm, M13 = mu M 4 1 ((((M 4 1) + 6) - 1) % 6) → ((0 ≤ M13 4 1 ∧ M13 4 1 < 6) ∧ (∃ p26 : Int → Mm → Prop, Ct (xl x) (xg x) mX4_becomes [vr (xg x) k1, vr (xg x) (34 + 7 * (M13 4 1).toNat)] M13 p26 ∧ ∀ (r26 : Int) (M26 : Mm), p26 r26 M26 → (∀ M36 : Mm, M36 = mu M26 4 2 ((M26 4 2) - 1) → (post 0 M36)))))) : Gx x 2 0 [(0, vr (xg x) 4), (1, vr (xg x) k1)] [] M := by
  refine g_aload_n (q := 1) C dX0_bringBack_0 rfl 0 rfl rfl ?_
  refine g_aload_n (q := 2) C dX0_bringBack_1 rfl 0 rfl rfl ?_
  refine g_get (q := 5) C (by decide) (celr_0 (by decide)) (ci := 0) (i := 1) rfl inlX0 (by decide) wm_3_4 rfl dX0_bringBack_2 rfl ?_
  refine g_bipush (q := 7) C dX0_bringBack_5 rfl (by decide) ?_
  refine g_iadd (q := 8) C dX0_bringBack_7 rfl ?_
  refine g_iconst (q := 9) C dX0_bringBack_8 rfl ?_
  refine g_isub (q := 10) C dX0_bringBack_9 rfl ?_
  refine g_bipush (q := 12) C dX0_bringBack_10 rfl (by decide) ?_
  obtain ⟨hc, H⟩ := H
  refine g_irem (q := 13) C dX0_bringBack_12 rfl ⟨hc, by decide⟩ ?_
  refine g_put (q := 16) (ty := .int) C (by decide) (celr_0 (by decide)) (ci := 0) (i := 1) rfl inlX0 tyX0_ok nmX0 (by decide) wm_3_4 rfl rfl rfl rfl (Nat.le_of_ble_eq_true rfl) (by rw [celr_0 (by decide)]; rfl) dX0_bringBack_13 rfl ?_
  refine g_topM (fun M13 hM13 => ?_)
  have H := H M13 hM13
  refine g_aload_n (q := 17) C dX0_bringBack_16 rfl 1 rfl rfl ?_
  refine g_aload_n (q := 18) C dX0_bringBack_17 rfl 0 rfl rfl ?_
  refine g_get (q := 21) C (by decide) (celr_0 (by decide)) (ci := 0) (i := 0) rfl inlX0 (by decide) wm_3_3 rfl dX0_bringBack_18 rfl ?_
  refine g_aload_n (q := 22) C dX0_bringBack_21 rfl 0 rfl rfl ?_
  refine g_get (q := 25) C (by decide) (celr_0 (by decide)) (ci := 0) (i := 1) rfl inlX0 (by decide) wm_3_4 rfl dX0_bringBack_22 rfl ?_
  obtain ⟨hc, H⟩ := H
  have hq25 := ringS hc
  refine g_sald (q := 26) (r := 34 + 7 * (M13 4 1).toNat) C (by decide) (by decide) (by decide) hc (by decide) rfl dX0_bringBack_25 rfl ?_
  obtain ⟨p26, hM, H⟩ := H
  refine g_callV (q := 29) (As := [vr (xg x) (34 + 7 * (M13 4 1).toNat)]) (st := []) (na := 1) C mX4_becomes (h1).o.1 (celr_4 (h1).o.2) rfl hM wm_5_22 wm_5_23 wm_6_0 wm_1_14 wm_6_1 (by decide +kernel) rfl rfl (by decide) rfl (Nat.le_of_ble_eq_true rfl) dX0_bringBack_26 rfl (fun r26 M26 hp => ?_)
  have H := H r26 M26 hp
  show Gx x 2 29 [(0, vr (xg x) 4), (1, vr (xg x) k1)] [] M26
  refine g_aload_n (q := 30) C dX0_bringBack_29 rfl 0 rfl rfl ?_
  refine g_dup (q := 31) C dX0_bringBack_30 rfl rfl ?_
  refine g_get (q := 34) C (by decide) (celr_0 (by decide)) (ci := 0) (i := 2) rfl inlX0 (by decide) wm_3_5 rfl dX0_bringBack_31 rfl ?_
  refine g_iconst (q := 35) C dX0_bringBack_34 rfl ?_
  refine g_isub (q := 36) C dX0_bringBack_35 rfl ?_
  refine g_put (q := 39) (ty := .int) C (by decide) (celr_0 (by decide)) (ci := 0) (i := 2) rfl inlX0 tyX0_ok nmX0 (by decide) wm_3_5 rfl rfl rfl rfl (Nat.le_of_ble_eq_true rfl) (by rw [celr_0 (by decide)]; rfl) dX0_bringBack_36 rfl ?_
  refine g_topM (fun M36 hM36 => ?_)
  have H := H M36 hM36
  exact g_ret C hR dX0_bringBack_39 rfl H
set_option maxRecDepth 10000 in
set_option maxHeartbeats 2000000 in
theorem X2_cost_0 {x : Xx} {post : Int → Mm → Prop} (C : Cx x mX2_cost) (hR : Rt x mX2_cost post) {k0 : Nat} (h0 : isPl k0) {k1 : Nat} (h1 : isMe k1) (M : Mm) (H : (inR (M k0 2)) ∧ (¬ (M k0 2 = (-1)) → (Gx x 4 14 [(0, vr (xg x) k0), (1, vr (xg x) k1), (2, vi 0), (3, vi 0)] [] M)) ∧ (M k0 2 = (-1) → (post (-1) M))) : Gx x 4 0 [(0, vr (xg x) k0), (1, vr (xg x) k1)] [] M := by
  refine g_aload_n (q := 1) C dX2_cost_0 rfl 0 rfl rfl ?_
  refine g_get (q := 4) C (h0).o.1 (celr_2 (h0).o.2) (ci := 2) (i := 2) rfl inlX2 (by decide) wm_4_6 rfl dX2_cost_1 rfl ?_
  refine g_iconst (q := 5) C dX2_cost_4 rfl ?_
  obtain ⟨hr, Ht, Hf⟩ := H
  refine g_icmp_ne (q := 8) (t := 10) C dX2_cost_5 rfl (by decide) ⟨hr, by decide⟩ (fun hc => ?_) (fun hc => ?_)
  · have H := Ht hc
    refine g_iconst (q := 11) C dX2_cost_10 rfl ?_
    refine g_istore_n (q := 12) (L2 := [(2, vi 0), (0, vr (xg x) k0), (1, vr (xg x) k1)]) C dX2_cost_11 rfl rfl (by decide) rfl ?_
    refine g_iconst (q := 13) C dX2_cost_12 rfl ?_
    refine g_istore_n (q := 14) (L2 := [(3, vi 0), (2, vi 0), (0, vr (xg x) k0), (1, vr (xg x) k1)]) C dX2_cost_13 rfl rfl (by decide) rfl ?_
    refine g_sub [2, 3, 1, 0] rfl ?_
    exact H
  · have H := Hf hc
    refine g_iconst (q := 9) C dX2_cost_8 rfl ?_
    exact g_iret C hR dX2_cost_9 rfl H
set_option maxRecDepth 10000 in
set_option maxHeartbeats 2000000 in
theorem X2_cost_14 {x : Xx} {post : Int → Mm → Prop} (C : Cx x mX2_cost) (hR : Rt x mX2_cost post) {k0 : Nat} (h0 : isPl k0) {k1 : Nat} (h1 : isMe k1) (v2 v3 : Int) (M : Mm) (H : (inR v3 ∧ inR (M k1 1)) ∧ (M k1 1 ≤ v3 → (post v2 M)) ∧ (¬ (M k1 1 ≤ v3) → (∃ p26 : Int → Mm → Prop, Ct (xl x) (xg x) mX2_costOfFigure [vr (xg x) k0, vr (xg x) k1, vi v3] M p26 ∧ ∀ (r26 : Int) (M26 : Mm), p26 r26 M26 → (∀ w30 : Int, w30 = (v2 + r26) → (Gx x 4 14 [(0, vr (xg x) k0), (1, vr (xg x) k1), (2, vi w30), (3, vi (v3 + 1))] [] M26))))) : Gx x 4 14 [(0, vr (xg x) k0), (1, vr (xg x) k1), (2, vi v2), (3, vi v3)] [] M := by
  refine g_iload_n (q := 15) C dX2_cost_14 rfl 3 rfl rfl ?_
  refine g_aload_n (q := 16) C dX2_cost_15 rfl 1 rfl rfl ?_
  refine g_getN (q := 19) C (h1).o.1 (celr_1 (h1).o.2) (ci := 1) (i := 1) rfl inlX1 (by decide) (by decide +kernel) rfl dX2_cost_16 rfl ?_
  obtain ⟨hr, Ht, Hf⟩ := H
  refine g_icmp_ge (q := 22) (t := 37) C dX2_cost_19 rfl (by decide) hr (fun hc => ?_) (fun hc => ?_)
  · have H := Ht hc
    refine g_iload_n (q := 38) C dX2_cost_37 rfl 2 rfl rfl ?_
    exact g_iret C hR dX2_cost_38 rfl H
  · have H := Hf hc
    refine g_iload_n (q := 23) C dX2_cost_22 rfl 2 rfl rfl ?_
    refine g_aload_n (q := 24) C dX2_cost_23 rfl 0 rfl rfl ?_
    refine g_aload_n (q := 25) C dX2_cost_24 rfl 1 rfl rfl ?_
    refine g_iload_n (q := 26) C dX2_cost_25 rfl 3 rfl rfl ?_
    obtain ⟨p26, hM, H⟩ := H
    refine g_callV (q := 29) (As := [vr (xg x) k1, vi v3]) (st := [vi v2]) (na := 2) C mX2_costOfFigure (h0).o.1 (celr_2 (h0).o.2) rfl hM wm_18_23 wm_19_0 wm_19_1 wm_2_7 wm_19_2 (by decide +kernel) rfl rfl (by decide) rfl (Nat.le_of_ble_eq_true rfl) dX2_cost_26 rfl (fun r26 M26 hp => ?_)
    have H := H r26 M26 hp
    show Gx x 4 29 [(0, vr (xg x) k0), (1, vr (xg x) k1), (2, vi v2), (3, vi v3)] [vi r26, vi v2] M26
    refine g_iadd (q := 30) C dX2_cost_29 rfl ?_
    refine g_topi (fun w30 hw30 => ?_)
    have H := H w30 hw30
    refine g_istore_n (q := 31) (L2 := [(2, vi w30), (0, vr (xg x) k0), (1, vr (xg x) k1), (3, vi v3)]) C dX2_cost_30 rfl rfl (by decide) rfl ?_
    refine g_iinc (q := 34) (L2 := [(3, vi (v3 + 1)), (2, vi w30), (0, vr (xg x) k0), (1, vr (xg x) k1)]) C dX2_cost_31 rfl 3 rfl (by decide) rfl ?_
    refine g_goto (t := 14) C dX2_cost_34 (by decide) ?_
    refine g_sub [2, 3, 1, 0] rfl ?_
    exact H
set_option maxRecDepth 10000 in
set_option maxHeartbeats 2000000 in
theorem X2_costOfFigure_0 {x : Xx} {post : Int → Mm → Prop} (C : Cx x mX2_costOfFigure) (hR : Rt x mX2_costOfFigure post) {k0 : Nat} (h0 : isPl k0) {k1 : Nat} (h1 : isMe k1) (v2 : Int) (M : Mm) (H : (inR (M k0 2)) ∧ (¬ (M k0 2 = (-1)) → ((0 ≤ v2 ∧ v2 < 10) ∧ (∃ p18 : Int → Mm → Prop, Ct (xl x) (xg x) mX2_pageOfFigure [vr (xg x) k0, vi v2] M p18 ∧ ∀ (r18 : Int) (M18 : Mm), p18 r18 M18 → ((0 ≤ v2 ∧ v2 < 10) ∧ (∃ p28 : Int → Mm → Prop, Ct (xl x) (xg x) mX2_pageWithLine [vr (xg x) k0, vi (M18 (k1 + 1) v2)] M18 p28 ∧ ∀ (r28 : Int) (M28 : Mm), p28 r28 M28 → ((inR (r18 - r28)) ∧ (post ((M (k1 + 2) v2) * (if 0 ≤ r18 - r28 then r18 - r28 else 0 - (r18 - r28))) M28))))))) ∧ (M k0 2 = (-1) → (post (-1) M))) : Gx x 3 0 [(0, vr (xg x) k0), (1, vr (xg x) k1), (2, vi v2)] [] M := by
  refine g_aload_n (q := 1) C dX2_costOfFigure_0 rfl 0 rfl rfl ?_
  refine g_get (q := 4) C (h0).o.1 (celr_2 (h0).o.2) (ci := 2) (i := 2) rfl inlX2 (by decide) wm_4_6 rfl dX2_costOfFigure_1 rfl ?_
  refine g_iconst (q := 5) C dX2_costOfFigure_4 rfl ?_
  obtain ⟨hr, Ht, Hf⟩ := H
  refine g_icmp_ne (q := 8) (t := 10) C dX2_costOfFigure_5 rfl (by decide) ⟨hr, by decide⟩ (fun hc => ?_) (fun hc => ?_)
  · have H := Ht hc
    refine g_aload_n (q := 11) C dX2_costOfFigure_10 rfl 1 rfl rfl ?_
    refine g_getN (q := 14) C (h1).o.1 (celr_1 (h1).o.2) (ci := 1) (i := 6) rfl inlX1 (by decide) (by decide +kernel) rfl dX2_costOfFigure_11 rfl ?_
    refine g_iload_n (q := 15) C dX2_costOfFigure_14 rfl 2 rfl rfl ?_
    obtain ⟨hc, H⟩ := H
    refine g_iald (q := 16) (m := 10) C ((h1).a2).1 ((h1).a2).2.1 ((h1).a2).2.2 hc (by decide) dX2_costOfFigure_15 rfl ?_
    refine g_aload_n (q := 17) C dX2_costOfFigure_16 rfl 0 rfl rfl ?_
    refine g_iload_n (q := 18) C dX2_costOfFigure_17 rfl 2 rfl rfl ?_
    obtain ⟨p18, hM, H⟩ := H
    refine g_callV (q := 21) (As := [vi v2]) (st := [vi (M (k1 + 2) v2)]) (na := 1) C mX2_pageOfFigure (h0).o.1 (celr_2 (h0).o.2) rfl hM wm_19_6 wm_19_7 wm_19_8 wm_2_7 wm_19_9 (by decide +kernel) rfl rfl (by decide) rfl (Nat.le_of_ble_eq_true rfl) dX2_costOfFigure_18 rfl (fun r18 M18 hp => ?_)
    have H := H r18 M18 hp
    show Gx x 3 21 [(0, vr (xg x) k0), (1, vr (xg x) k1), (2, vi v2)] [vi r18, vi (M (k1 + 2) v2)] M18
    refine g_aload_n (q := 22) C dX2_costOfFigure_21 rfl 0 rfl rfl ?_
    refine g_aload_n (q := 23) C dX2_costOfFigure_22 rfl 1 rfl rfl ?_
    refine g_getN (q := 26) C (h1).o.1 (celr_1 (h1).o.2) (ci := 1) (i := 5) rfl inlX1 (by decide) (by decide +kernel) rfl dX2_costOfFigure_23 rfl ?_
    refine g_iload_n (q := 27) C dX2_costOfFigure_26 rfl 2 rfl rfl ?_
    obtain ⟨hc, H⟩ := H
    refine g_iald (q := 28) (m := 10) C ((h1).a1).1 ((h1).a1).2.1 ((h1).a1).2.2 hc (by decide) dX2_costOfFigure_27 rfl ?_
    obtain ⟨p28, hM, H⟩ := H
    refine g_callV (q := 31) (As := [vi (M18 (k1 + 1) v2)]) (st := [vi r18, vi (M (k1 + 2) v2)]) (na := 1) C mX2_pageWithLine (h0).o.1 (celr_2 (h0).o.2) rfl hM wm_19_14 wm_19_15 wm_19_16 wm_2_7 wm_19_17 (by decide +kernel) rfl rfl (by decide) rfl (Nat.le_of_ble_eq_true rfl) dX2_costOfFigure_28 rfl (fun r28 M28 hp => ?_)
    have H := H r28 M28 hp
    show Gx x 3 31 [(0, vr (xg x) k0), (1, vr (xg x) k1), (2, vi v2)] [vi r28, vi r18, vi (M (k1 + 2) v2)] M28
    refine g_isub (q := 32) C dX2_costOfFigure_31 rfl ?_
    obtain ⟨hc, H⟩ := H
    refine g_mabs (q := 35) C hc wm_19_3 wm_19_4 wm_19_5 wm_5_7 rfl (by decide) (Nat.le_of_ble_eq_true rfl) dX2_costOfFigure_32 rfl ?_
    refine g_imul (q := 36) C dX2_costOfFigure_35 rfl ?_
    exact g_iret C hR dX2_costOfFigure_36 rfl H
  · have H := Hf hc
    refine g_iconst (q := 9) C dX2_costOfFigure_8 rfl ?_
    exact g_iret C hR dX2_costOfFigure_9 rfl H
set_option maxRecDepth 10000 in
set_option maxHeartbeats 2000000 in
theorem X2_pageOfFigure_0 {x : Xx} {post : Int → Mm → Prop} (C : Cx x mX2_pageOfFigure) (hR : Rt x mX2_pageOfFigure post) {k0 : Nat} (h0 : isPl k0) (v1 : Int) (M : Mm) (H : ∃ p6 : Int → Mm → Prop, Ct (xl x) (xg x) mX2_firstAbove [vr (xg x) k0, vr (xg x) (k0 + 2), vi v1] M p6 ∧ ∀ (r6 : Int) (M6 : Mm), p6 r6 M6 → (post r6 M6)) : Gx x 2 0 [(0, vr (xg x) k0), (1, vi v1)] [] M := by
  refine g_aload_n (q := 1) C dX2_pageOfFigure_0 rfl 0 rfl rfl ?_
  refine g_aload_n (q := 2) C dX2_pageOfFigure_1 rfl 0 rfl rfl ?_
  refine g_get (q := 5) C (h0).o.1 (celr_2 (h0).o.2) (ci := 2) (i := 1) rfl inlX2 (by decide) wm_4_5 rfl dX2_pageOfFigure_2 rfl ?_
  refine g_iload_n (q := 6) C dX2_pageOfFigure_5 rfl 1 rfl rfl ?_
  obtain ⟨p6, hM, H⟩ := H
  refine g_callV (q := 9) (As := [vr (xg x) (k0 + 2), vi v1]) (st := []) (na := 2) C mX2_firstAbove (h0).o.1 (celr_2 (h0).o.2) rfl hM wm_19_10 wm_19_11 wm_19_12 wm_2_7 wm_19_13 (by decide +kernel) rfl rfl (by decide) rfl (Nat.le_of_ble_eq_true rfl) dX2_pageOfFigure_6 rfl (fun r6 M6 hp => ?_)
  have H := H r6 M6 hp
  show Gx x 2 9 [(0, vr (xg x) k0), (1, vi v1)] [vi r6] M6
  exact g_iret C hR dX2_pageOfFigure_9 rfl H
set_option maxRecDepth 10000 in
set_option maxHeartbeats 2000000 in
theorem X2_firstAbove_0 {x : Xx} {post : Int → Mm → Prop} (C : Cx x mX2_firstAbove) (hR : Rt x mX2_firstAbove post) {k0 : Nat} (h0 : isPl k0) {k1 m1 : Nat} (h1 : isA k1 m1) (v2 : Int) (M : Mm) (H : Gx x 4 2 [(0, vr (xg x) k0), (1, vr (xg x) k1), (2, vi v2), (3, vi 0)] [] M) : Gx x 4 0 [(0, vr (xg x) k0), (1, vr (xg x) k1), (2, vi v2)] [] M := by
  refine g_iconst (q := 1) C dX2_firstAbove_0 rfl ?_
  refine g_istore_n (q := 2) (L2 := [(3, vi 0), (0, vr (xg x) k0), (1, vr (xg x) k1), (2, vi v2)]) C dX2_firstAbove_1 rfl rfl (by decide) rfl ?_
  refine g_sub [1, 2, 3, 0] rfl ?_
  exact H
set_option maxRecDepth 10000 in
set_option maxHeartbeats 2000000 in
theorem X2_firstAbove_2 {x : Xx} {post : Int → Mm → Prop} (C : Cx x mX2_firstAbove) (hR : Rt x mX2_firstAbove post) {k0 : Nat} (h0 : isPl k0) {k1 m1 : Nat} (h1 : isA k1 m1) (v2 v3 : Int) (M : Mm) (H : (inR v3 ∧ inR (M k0 2)) ∧ (M k0 2 ≤ v3 → (post (-1) M)) ∧ (¬ (M k0 2 ≤ v3) → ((0 ≤ v3 + 1 ∧ v3 + 1 < (m1 : Int)) ∧ ((inR (M k1 (v3 + 1)) ∧ inR v2) ∧ (M k1 (v3 + 1) ≤ v2 → (Gx x 4 2 [(0, vr (xg x) k0), (1, vr (xg x) k1), (2, vi v2), (3, vi (v3 + 1))] [] M)) ∧ (¬ (M k1 (v3 + 1) ≤ v2) → (post v3 M)))))) : Gx x 4 2 [(0, vr (xg x) k0), (1, vr (xg x) k1), (2, vi v2), (3, vi v3)] [] M := by
  refine g_iload_n (q := 3) C dX2_firstAbove_2 rfl 3 rfl rfl ?_
  refine g_aload_n (q := 4) C dX2_firstAbove_3 rfl 0 rfl rfl ?_
  refine g_get (q := 7) C (h0).o.1 (celr_2 (h0).o.2) (ci := 2) (i := 2) rfl inlX2 (by decide) wm_4_6 rfl dX2_firstAbove_4 rfl ?_
  obtain ⟨hr, Ht, Hf⟩ := H
  refine g_icmp_ge (q := 10) (t := 27) C dX2_firstAbove_7 rfl (by decide) hr (fun hc => ?_) (fun hc => ?_)
  · have H := Ht hc
    refine g_iconst (q := 28) C dX2_firstAbove_27 rfl ?_
    exact g_iret C hR dX2_firstAbove_28 rfl H
  · have H := Hf hc
    refine g_aload_n (q := 11) C dX2_firstAbove_10 rfl 1 rfl rfl ?_
    refine g_iload_n (q := 12) C dX2_firstAbove_11 rfl 3 rfl rfl ?_
    refine g_iconst (q := 13) C dX2_firstAbove_12 rfl ?_
    refine g_iadd (q := 14) C dX2_firstAbove_13 rfl ?_
    obtain ⟨hc, H⟩ := H
    refine g_iald (q := 15) (m := m1) C (h1).1 (h1).2.1 (h1).2.2.1 hc (h1).lt dX2_firstAbove_14 rfl ?_
    refine g_iload_n (q := 16) C dX2_firstAbove_15 rfl 2 rfl rfl ?_
    obtain ⟨hr, Ht, Hf⟩ := H
    refine g_icmp_le (q := 19) (t := 21) C dX2_firstAbove_16 rfl (by decide) hr (fun hc => ?_) (fun hc => ?_)
    · have H := Ht hc
      refine g_iinc (q := 24) (L2 := [(3, vi (v3 + 1)), (0, vr (xg x) k0), (1, vr (xg x) k1), (2, vi v2)]) C dX2_firstAbove_21 rfl 3 rfl (by decide) rfl ?_
      refine g_goto (t := 2) C dX2_firstAbove_24 (by decide) ?_
      refine g_sub [1, 2, 3, 0] rfl ?_
      exact H
    · have H := Hf hc
      refine g_iload_n (q := 20) C dX2_firstAbove_19 rfl 3 rfl rfl ?_
      exact g_iret C hR dX2_firstAbove_20 rfl H
set_option maxRecDepth 10000 in
set_option maxHeartbeats 2000000 in
theorem X2_pageWithLine_0 {x : Xx} {post : Int → Mm → Prop} (C : Cx x mX2_pageWithLine) (hR : Rt x mX2_pageWithLine post) {k0 : Nat} (h0 : isPl k0) (v1 : Int) (M : Mm) (H : ∃ p6 : Int → Mm → Prop, Ct (xl x) (xg x) mX2_firstAbove [vr (xg x) k0, vr (xg x) (k0 + 1), vi v1] M p6 ∧ ∀ (r6 : Int) (M6 : Mm), p6 r6 M6 → (post r6 M6)) : Gx x 2 0 [(0, vr (xg x) k0), (1, vi v1)] [] M := by
  refine g_aload_n (q := 1) C dX2_pageWithLine_0 rfl 0 rfl rfl ?_
  refine g_aload_n (q := 2) C dX2_pageWithLine_1 rfl 0 rfl rfl ?_
  refine g_get (q := 5) C (h0).o.1 (celr_2 (h0).o.2) (ci := 2) (i := 0) rfl inlX2 (by decide) wm_4_4 rfl dX2_pageWithLine_2 rfl ?_
  refine g_iload_n (q := 6) C dX2_pageWithLine_5 rfl 1 rfl rfl ?_
  obtain ⟨p6, hM, H⟩ := H
  refine g_callV (q := 9) (As := [vr (xg x) (k0 + 1), vi v1]) (st := []) (na := 2) C mX2_firstAbove (h0).o.1 (celr_2 (h0).o.2) rfl hM wm_19_10 wm_19_11 wm_19_12 wm_2_7 wm_19_13 (by decide +kernel) rfl rfl (by decide) rfl (Nat.le_of_ble_eq_true rfl) dX2_pageWithLine_6 rfl (fun r6 M6 hp => ?_)
  have H := H r6 M6 hp
  show Gx x 2 9 [(0, vr (xg x) k0), (1, vi v1)] [vi r6] M6
  exact g_iret C hR dX2_pageWithLine_9 rfl H
set_option maxRecDepth 10000 in
set_option maxHeartbeats 2000000 in
theorem X2_heavy_0 {x : Xx} {post : Int → Mm → Prop} (C : Cx x mX2_heavy) (hR : Rt x mX2_heavy post) {k0 : Nat} (h0 : isPl k0) {k1 : Nat} (h1 : isMe k1) (M : Mm) (H : Gx x 6 7 [(0, vr (xg x) k0), (1, vr (xg x) k1), (2, vi (-1)), (3, vi 0), (4, vi 0)] [] M) : Gx x 6 0 [(0, vr (xg x) k0), (1, vr (xg x) k1)] [] M := by
  refine g_iconst (q := 1) C dX2_heavy_0 rfl ?_
  refine g_istore_n (q := 2) (L2 := [(2, vi (-1)), (0, vr (xg x) k0), (1, vr (xg x) k1)]) C dX2_heavy_1 rfl rfl (by decide) rfl ?_
  refine g_iconst (q := 3) C dX2_heavy_2 rfl ?_
  refine g_istore_n (q := 4) (L2 := [(3, vi 0), (2, vi (-1)), (0, vr (xg x) k0), (1, vr (xg x) k1)]) C dX2_heavy_3 rfl rfl (by decide) rfl ?_
  refine g_iconst (q := 5) C dX2_heavy_4 rfl ?_
  refine g_istore (q := 7) (L2 := [(4, vi 0), (3, vi 0), (2, vi (-1)), (0, vr (xg x) k0), (1, vr (xg x) k1)]) C dX2_heavy_5 rfl (by decide) rfl ?_
  refine g_sub [3, 4, 2, 1, 0] rfl ?_
  exact H
set_option maxRecDepth 10000 in
set_option maxHeartbeats 2000000 in
theorem X2_heavy_7 {x : Xx} {post : Int → Mm → Prop} (C : Cx x mX2_heavy) (hR : Rt x mX2_heavy post) {k0 : Nat} (h0 : isPl k0) {k1 : Nat} (h1 : isMe k1) (v2 v3 v4 : Int) (M : Mm) (H : (inR v4 ∧ inR (M k1 1)) ∧ (M k1 1 ≤ v4 → (post v2 M)) ∧ (¬ (M k1 1 ≤ v4) → (∃ p20 : Int → Mm → Prop, Ct (xl x) (xg x) mX2_costOfFigure [vr (xg x) k0, vr (xg x) k1, vi v4] M p20 ∧ ∀ (r20 : Int) (M20 : Mm), p20 r20 M20 → ((inR r20 ∧ inR v3) ∧ (r20 ≤ v3 → (Gx x 6 7 [(0, vr (xg x) k0), (1, vr (xg x) k1), (2, vi v2), (3, vi v3), (4, vi (v4 + 1))] [] M20)) ∧ (¬ (r20 ≤ v3) → (Gx x 6 7 [(0, vr (xg x) k0), (1, vr (xg x) k1), (2, vi v4), (3, vi r20), (4, vi (v4 + 1))] [] M20)))))) : Gx x 6 7 [(0, vr (xg x) k0), (1, vr (xg x) k1), (2, vi v2), (3, vi v3), (4, vi v4)] [] M := by
  refine g_iload (q := 9) C dX2_heavy_7 rfl 4 rfl ?_
  refine g_aload_n (q := 10) C dX2_heavy_9 rfl 1 rfl rfl ?_
  refine g_getN (q := 13) C (h1).o.1 (celr_1 (h1).o.2) (ci := 1) (i := 1) rfl inlX1 (by decide) (by decide +kernel) rfl dX2_heavy_10 rfl ?_
  obtain ⟨hr, Ht, Hf⟩ := H
  refine g_icmp_ge (q := 16) (t := 43) C dX2_heavy_13 rfl (by decide) hr (fun hc => ?_) (fun hc => ?_)
  · have H := Ht hc
    refine g_iload_n (q := 44) C dX2_heavy_43 rfl 2 rfl rfl ?_
    exact g_iret C hR dX2_heavy_44 rfl H
  · have H := Hf hc
    refine g_aload_n (q := 17) C dX2_heavy_16 rfl 0 rfl rfl ?_
    refine g_aload_n (q := 18) C dX2_heavy_17 rfl 1 rfl rfl ?_
    refine g_iload (q := 20) C dX2_heavy_18 rfl 4 rfl ?_
    obtain ⟨p20, hM, H⟩ := H
    refine g_callV (q := 23) (As := [vr (xg x) k1, vi v4]) (st := []) (na := 2) C mX2_costOfFigure (h0).o.1 (celr_2 (h0).o.2) rfl hM wm_18_23 wm_19_0 wm_19_1 wm_2_7 wm_19_2 (by decide +kernel) rfl rfl (by decide) rfl (Nat.le_of_ble_eq_true rfl) dX2_heavy_20 rfl (fun r20 M20 hp => ?_)
    have H := H r20 M20 hp
    show Gx x 6 23 [(0, vr (xg x) k0), (1, vr (xg x) k1), (2, vi v2), (3, vi v3), (4, vi v4)] [vi r20] M20
    refine g_istore (q := 25) (L2 := [(5, vi r20), (0, vr (xg x) k0), (1, vr (xg x) k1), (2, vi v2), (3, vi v3), (4, vi v4)]) C dX2_heavy_23 rfl (by decide) rfl ?_
    refine g_iload (q := 27) C dX2_heavy_25 rfl 0 rfl ?_
    refine g_iload_n (q := 28) C dX2_heavy_27 rfl 4 rfl rfl ?_
    obtain ⟨hr, Ht, Hf⟩ := H
    refine g_icmp_le (q := 31) (t := 37) C dX2_heavy_28 rfl (by decide) hr (fun hc => ?_) (fun hc => ?_)
    · have H := Ht hc
      refine g_iinc (q := 40) (L2 := [(4, vi (v4 + 1)), (5, vi r20), (0, vr (xg x) k0), (1, vr (xg x) k1), (2, vi v2), (3, vi v3)]) C dX2_heavy_37 rfl 5 rfl (by decide) rfl ?_
      refine g_goto (t := 7) C dX2_heavy_40 (by decide) ?_
      refine g_sub [2, 3, 4, 5, 0] rfl ?_
      exact H
    · have H := Hf hc
      refine g_iload (q := 33) C dX2_heavy_31 rfl 0 rfl ?_
      refine g_istore_n (q := 34) (L2 := [(3, vi r20), (5, vi r20), (0, vr (xg x) k0), (1, vr (xg x) k1), (2, vi v2), (4, vi v4)]) C dX2_heavy_33 rfl rfl (by decide) rfl ?_
      refine g_iload (q := 36) C dX2_heavy_34 rfl 5 rfl ?_
      refine g_istore_n (q := 37) (L2 := [(2, vi v4), (3, vi r20), (5, vi r20), (0, vr (xg x) k0), (1, vr (xg x) k1), (4, vi v4)]) C dX2_heavy_36 rfl rfl (by decide) rfl ?_
      refine g_iinc (q := 40) (L2 := [(4, vi (v4 + 1)), (2, vi v4), (3, vi r20), (5, vi r20), (0, vr (xg x) k0), (1, vr (xg x) k1)]) C dX2_heavy_37 rfl 5 rfl (by decide) rfl ?_
      refine g_goto (t := 7) C dX2_heavy_40 (by decide) ?_
      refine g_sub [4, 5, 1, 2, 0] rfl ?_
      exact H
set_option maxRecDepth 10000 in
set_option maxHeartbeats 2000000 in
theorem X3_waysOfBest_0 {x : Xx} {post : Int → Mm → Prop} (C : Cx x mX3_waysOfBest) (hR : Rt x mX3_waysOfBest post) {k0 : Nat} (h0 : isP k0) (M : Mm) (H : ∃ p3 : Int → Mm → Prop, Ct (xl x) (xg x) mX3_isPlace [vr (xg x) k0, vi 0, vi 0] M p3 ∧ ∀ (r3 : Int) (M3 : Mm), p3 r3 M3 → ((inR r3) ∧ (r3 = 0 → (post 0 M3)) ∧ (¬ (r3 = 0) → (post (M3 (k0 + 9) 0) M3)))) : Gx x 1 0 [(0, vr (xg x) k0)] [] M := by
  refine g_aload_n (q := 1) C dX3_waysOfBest_0 rfl 0 rfl rfl ?_
  refine g_iconst (q := 2) C dX3_waysOfBest_1 rfl ?_
  refine g_iconst (q := 3) C dX3_waysOfBest_2 rfl ?_
  obtain ⟨p3, hM, H⟩ := H
  refine g_callV (q := 6) (As := [vi 0, vi 0]) (st := []) (na := 2) C mX3_isPlace (h0).o.1 (celr_3 (h0).o.2) rfl hM wm_14_1 wm_14_2 wm_14_3 wm_2_2 wm_14_4 (by decide +kernel) rfl rfl (by decide) rfl (Nat.le_of_ble_eq_true rfl) dX3_waysOfBest_3 rfl (fun r3 M3 hp => ?_)
  have H := H r3 M3 hp
  show Gx x 1 6 [(0, vr (xg x) k0)] [vi r3] M3
  obtain ⟨hr, Ht, Hf⟩ := H
  refine g_if_eq (q := 9) (t := 18) C dX3_waysOfBest_6 rfl (by decide) hr (fun hc => ?_) (fun hc => ?_)
  · have H := Ht hc
    refine g_lconst (q := 19) C dX3_waysOfBest_18 rfl ?_
    exact g_lret C hR dX3_waysOfBest_19 rfl H
  · have H := Hf hc
    refine g_aload_n (q := 10) C dX3_waysOfBest_9 rfl 0 rfl rfl ?_
    refine g_get (q := 13) C (h0).o.1 (celr_3 (h0).o.2) (ci := 3) (i := 4) rfl inlX3 (by decide) wm_3_17 rfl dX3_waysOfBest_10 rfl ?_
    refine g_iconst (q := 14) C dX3_waysOfBest_13 rfl ?_
    refine g_lald (q := 15) (m := 1331) C ((h0).a9).1 ((h0).a9).2.1 ((h0).a9).2.2 (by decide) (by decide) dX3_waysOfBest_14 rfl ?_
    refine g_goto (t := 19) C dX3_waysOfBest_15 (by decide) ?_
    exact g_lret C hR dX3_waysOfBest_19 rfl H
set_option maxRecDepth 10000 in
set_option maxHeartbeats 2000000 in
theorem X3_pagesFrom_0 {x : Xx} {post : Int → Mm → Prop} (C : Cx x mX3_pagesFrom) (hR : Rt x mX3_pagesFrom post) {k0 : Nat} (h0 : isP k0) (v1 v2 : Int) (M : Mm) (H : ∃ p3 : Int → Mm → Prop, Ct (xl x) (xg x) mX3_isPlace [vr (xg x) k0, vi v1, vi v2] M p3 ∧ ∀ (r3 : Int) (M3 : Mm), p3 r3 M3 → ((inR r3) ∧ (r3 = 0 → (post (-1) M3)) ∧ (¬ (r3 = 0) → ((0 ≤ (v1 * 11) + v2 ∧ (v1 * 11) + v2 < 1331) ∧ ((0 ≤ M3 (k0 + 6) ((v1 * 11) + v2) ∧ M3 (k0 + 6) ((v1 * 11) + v2) < 2147483648) ∧ (post ((M3 (k0 + 6) ((v1 * 11) + v2)) % 64) M3)))))) : Gx x 3 0 [(0, vr (xg x) k0), (1, vi v1), (2, vi v2)] [] M := by
  refine g_aload_n (q := 1) C dX3_pagesFrom_0 rfl 0 rfl rfl ?_
  refine g_iload_n (q := 2) C dX3_pagesFrom_1 rfl 1 rfl rfl ?_
  refine g_iload_n (q := 3) C dX3_pagesFrom_2 rfl 2 rfl rfl ?_
  obtain ⟨p3, hM, H⟩ := H
  refine g_callV (q := 6) (As := [vi v1, vi v2]) (st := []) (na := 2) C mX3_isPlace (h0).o.1 (celr_3 (h0).o.2) rfl hM wm_14_1 wm_14_2 wm_14_3 wm_2_2 wm_14_4 (by decide +kernel) rfl rfl (by decide) rfl (Nat.le_of_ble_eq_true rfl) dX3_pagesFrom_3 rfl (fun r3 M3 hp => ?_)
  have H := H r3 M3 hp
  show Gx x 3 6 [(0, vr (xg x) k0), (1, vi v1), (2, vi v2)] [vi r3] M3
  obtain ⟨hr, Ht, Hf⟩ := H
  refine g_if_eq (q := 9) (t := 26) C dX3_pagesFrom_6 rfl (by decide) hr (fun hc => ?_) (fun hc => ?_)
  · have H := Ht hc
    refine g_iconst (q := 27) C dX3_pagesFrom_26 rfl ?_
    exact g_iret C hR dX3_pagesFrom_27 rfl H
  · have H := Hf hc
    refine g_aload_n (q := 10) C dX3_pagesFrom_9 rfl 0 rfl rfl ?_
    refine g_get (q := 13) C (h0).o.1 (celr_3 (h0).o.2) (ci := 3) (i := 1) rfl inlX3 (by decide) wm_3_13 rfl dX3_pagesFrom_10 rfl ?_
    refine g_iload_n (q := 14) C dX3_pagesFrom_13 rfl 1 rfl rfl ?_
    refine g_bipush (q := 16) C dX3_pagesFrom_14 rfl (by decide) ?_
    refine g_imul (q := 17) C dX3_pagesFrom_16 rfl ?_
    refine g_iload_n (q := 18) C dX3_pagesFrom_17 rfl 2 rfl rfl ?_
    refine g_iadd (q := 19) C dX3_pagesFrom_18 rfl ?_
    obtain ⟨hc, H⟩ := H
    refine g_iald (q := 20) (m := 1331) C ((h0).a6).1 ((h0).a6).2.1 ((h0).a6).2.2 hc (by decide) dX3_pagesFrom_19 rfl ?_
    refine g_bipush (q := 22) C dX3_pagesFrom_20 rfl (by decide) ?_
    obtain ⟨hc, H⟩ := H
    refine g_irem (q := 23) C dX3_pagesFrom_22 rfl ⟨hc, by decide⟩ ?_
    refine g_goto (t := 27) C dX3_pagesFrom_23 (by decide) ?_
    exact g_iret C hR dX3_pagesFrom_27 rfl H
set_option maxRecDepth 10000 in
set_option maxHeartbeats 2000000 in
theorem X2_takeHanded_0 {x : Xx} {post : Int → Mm → Prop} (C : Cx x mX2_takeHanded) (hR : Rt x mX2_takeHanded post) {k0 : Nat} (h0 : isPl k0) {k1 : Nat} (h1 : isMe k1) {k2 m2 : Nat} (h2 : isA k2 m2) (v3 : Int) (M : Mm) (H : ∀ M2 : Mm, M2 = mu M k0 2 0 → (Gx x 5 8 [(0, vr (xg x) k0), (1, vr (xg x) k1), (2, vr (xg x) k2), (3, vi v3), (4, vi 0)] [] M2)) : Gx x 5 0 [(0, vr (xg x) k0), (1, vr (xg x) k1), (2, vr (xg x) k2), (3, vi v3)] [] M := by
  refine g_aload_n (q := 1) C dX2_takeHanded_0 rfl 0 rfl rfl ?_
  refine g_iconst (q := 2) C dX2_takeHanded_1 rfl ?_
  refine g_put (q := 5) (ty := .int) C (h0).o.1 (celr_2 (h0).o.2) (ci := 2) (i := 2) rfl inlX2 tyX2_ok nmX2 (by decide) wm_4_6 rfl rfl rfl rfl (Nat.le_of_ble_eq_true rfl) (by rw [celr_2 (h0).o.2]; rfl) dX2_takeHanded_2 rfl ?_
  refine g_topM (fun M2 hM2 => ?_)
  have H := H M2 hM2
  refine g_iconst (q := 6) C dX2_takeHanded_5 rfl ?_
  refine g_istore (q := 8) (L2 := [(4, vi 0), (0, vr (xg x) k0), (1, vr (xg x) k1), (2, vr (xg x) k2), (3, vi v3)]) C dX2_takeHanded_6 rfl (by decide) rfl ?_
  refine g_sub [1, 2, 3, 4, 0] rfl ?_
  exact H
set_option maxRecDepth 10000 in
set_option maxHeartbeats 2000000 in
theorem X2_takeHanded_8 {x : Xx} {post : Int → Mm → Prop} (C : Cx x mX2_takeHanded) (hR : Rt x mX2_takeHanded post) {k0 : Nat} (h0 : isPl k0) {k1 : Nat} (h1 : isMe k1) {k2 m2 : Nat} (h2 : isA k2 m2) (v3 v4 : Int) (M : Mm) (H : (inR v4 ∧ inR v3) ∧ (v3 ≤ v4 → (Gx x 5 73 [(0, vr (xg x) k0), (1, vr (xg x) k1)] [] M)) ∧ (¬ (v3 ≤ v4) → ((inR v4) ∧ (30 ≤ v4 → (Gx x 5 73 [(0, vr (xg x) k0), (1, vr (xg x) k1)] [] M)) ∧ (¬ (30 ≤ v4) → ((inR v4 ∧ inR (m2 : Int)) ∧ ((m2 : Int) ≤ v4 → (Gx x 5 73 [(0, vr (xg x) k0), (1, vr (xg x) k1)] [] M)) ∧ (¬ ((m2 : Int) ≤ v4) → ((0 ≤ v4 ∧ v4 < 31) ∧ ((0 ≤ v4 ∧ v4 < 31) ∧ ((0 ≤ v4 ∧ v4 < (m2 : Int)) ∧ (∃ p47 : Int → Mm → Prop, Ct (xl x) (xg x) mX1_mayTake [vr (xg x) k1, vi (M (k0 + 1) v4), vi (M (k0 + 2) v4), vi (M k2 v4)] M p47 ∧ ∀ (r47 : Int) (M47 : Mm), p47 r47 M47 → ((inR r47) ∧ (¬ (r47 = 0) → ((0 ≤ v4 ∧ v4 < (m2 : Int)) ∧ (∃ p64 : Int → Mm → Prop, Ct (xl x) (xg x) mX2_addPage [vr (xg x) k0, vr (xg x) k1, vi (M47 k2 v4)] M47 p64 ∧ ∀ (r64 : Int) (M64 : Mm), p64 r64 M64 → (Gx x 5 8 [(0, vr (xg x) k0), (1, vr (xg x) k1), (2, vr (xg x) k2), (3, vi v3), (4, vi (v4 + 1))] [] M64)))) ∧ (r47 = 0 → (post (v4 + 1) M47))))))))))))) : Gx x 5 8 [(0, vr (xg x) k0), (1, vr (xg x) k1), (2, vr (xg x) k2), (3, vi v3), (4, vi v4)] [] M := by
  refine g_iload (q := 10) C dX2_takeHanded_8 rfl 4 rfl ?_
  refine g_iload_n (q := 11) C dX2_takeHanded_10 rfl 3 rfl rfl ?_
  obtain ⟨hr, Ht, Hf⟩ := H
  refine g_icmp_ge (q := 14) (t := 73) C dX2_takeHanded_11 rfl (by decide) hr (fun hc => ?_) (fun hc => ?_)
  · have H := Ht hc
    refine g_sub [0, 1] rfl ?_
    exact H
  · have H := Hf hc
    refine g_iload (q := 16) C dX2_takeHanded_14 rfl 4 rfl ?_
    refine g_bipush (q := 18) C dX2_takeHanded_16 rfl (by decide) ?_
    obtain ⟨hr, Ht, Hf⟩ := H
    refine g_icmp_ge (q := 21) (t := 73) C dX2_takeHanded_18 rfl (by decide) ⟨hr, by decide⟩ (fun hc => ?_) (fun hc => ?_)
    · have H := Ht hc
      refine g_sub [0, 1] rfl ?_
      exact H
    · have H := Hf hc
      refine g_iload (q := 23) C dX2_takeHanded_21 rfl 4 rfl ?_
      refine g_aload_n (q := 24) C dX2_takeHanded_23 rfl 2 rfl rfl ?_
      refine g_alen (q := 25) (m := m2) C (h2).1 (h2).2.1 (h2).2.2.1 dX2_takeHanded_24 rfl ?_
      obtain ⟨hr, Ht, Hf⟩ := H
      refine g_icmp_ge (q := 28) (t := 73) C dX2_takeHanded_25 rfl (by decide) hr (fun hc => ?_) (fun hc => ?_)
      · have H := Ht hc
        refine g_sub [0, 1] rfl ?_
        exact H
      · have H := Hf hc
        refine g_aload_n (q := 29) C dX2_takeHanded_28 rfl 1 rfl rfl ?_
        refine g_aload_n (q := 30) C dX2_takeHanded_29 rfl 0 rfl rfl ?_
        refine g_get (q := 33) C (h0).o.1 (celr_2 (h0).o.2) (ci := 2) (i := 0) rfl inlX2 (by decide) wm_4_4 rfl dX2_takeHanded_30 rfl ?_
        refine g_iload (q := 35) C dX2_takeHanded_33 rfl 4 rfl ?_
        obtain ⟨hc, H⟩ := H
        refine g_iald (q := 36) (m := 31) C ((h0).a1).1 ((h0).a1).2.1 ((h0).a1).2.2 hc (by decide) dX2_takeHanded_35 rfl ?_
        refine g_aload_n (q := 37) C dX2_takeHanded_36 rfl 0 rfl rfl ?_
        refine g_get (q := 40) C (h0).o.1 (celr_2 (h0).o.2) (ci := 2) (i := 1) rfl inlX2 (by decide) wm_4_5 rfl dX2_takeHanded_37 rfl ?_
        refine g_iload (q := 42) C dX2_takeHanded_40 rfl 4 rfl ?_
        obtain ⟨hc, H⟩ := H
        refine g_iald (q := 43) (m := 31) C ((h0).a2).1 ((h0).a2).2.1 ((h0).a2).2.2 hc (by decide) dX2_takeHanded_42 rfl ?_
        refine g_aload_n (q := 44) C dX2_takeHanded_43 rfl 2 rfl rfl ?_
        refine g_iload (q := 46) C dX2_takeHanded_44 rfl 4 rfl ?_
        obtain ⟨hc, H⟩ := H
        refine g_iald (q := 47) (m := m2) C (h2).1 (h2).2.1 (h2).2.2.1 hc (h2).lt dX2_takeHanded_46 rfl ?_
        obtain ⟨p47, hM, H⟩ := H
        refine g_callV (q := 50) (As := [vi (M (k0 + 1) v4), vi (M (k0 + 2) v4), vi (M k2 v4)]) (st := []) (na := 3) C mX1_mayTake (h1).o.1 (celr_1 (h1).o.2) rfl hM wm_26_21 wm_12_7 wm_12_8 wm_3_11 wm_12_9 (by decide +kernel) rfl rfl (by decide) rfl (Nat.le_of_ble_eq_true rfl) dX2_takeHanded_47 rfl (fun r47 M47 hp => ?_)
        have H := H r47 M47 hp
        show Gx x 5 50 [(0, vr (xg x) k0), (1, vr (xg x) k1), (2, vr (xg x) k2), (3, vi v3), (4, vi v4)] [vi r47] M47
        obtain ⟨hr, Ht, Hf⟩ := H
        refine g_if_ne (q := 53) (t := 58) C dX2_takeHanded_50 rfl (by decide) hr (fun hc => ?_) (fun hc => ?_)
        · have H := Ht hc
          refine g_aload_n (q := 59) C dX2_takeHanded_58 rfl 0 rfl rfl ?_
          refine g_aload_n (q := 60) C dX2_takeHanded_59 rfl 1 rfl rfl ?_
          refine g_aload_n (q := 61) C dX2_takeHanded_60 rfl 2 rfl rfl ?_
          refine g_iload (q := 63) C dX2_takeHanded_61 rfl 4 rfl ?_
          obtain ⟨hc, H⟩ := H
          refine g_iald (q := 64) (m := m2) C (h2).1 (h2).2.1 (h2).2.2.1 hc (h2).lt dX2_takeHanded_63 rfl ?_
          obtain ⟨p64, hM, H⟩ := H
          refine g_callV (q := 67) (As := [vr (xg x) k1, vi (M47 k2 v4)]) (st := []) (na := 2) C mX2_addPage (h0).o.1 (celr_2 (h0).o.2) rfl hM wm_14_5 wm_14_6 wm_14_7 wm_2_7 wm_14_8 (by decide +kernel) rfl rfl (by decide) rfl (Nat.le_of_ble_eq_true rfl) dX2_takeHanded_64 rfl (fun r64 M64 hp => ?_)
          have H := H r64 M64 hp
          show Gx x 5 67 [(0, vr (xg x) k0), (1, vr (xg x) k1), (2, vr (xg x) k2), (3, vi v3), (4, vi v4)] [] M64
          refine g_iinc (q := 70) (L2 := [(4, vi (v4 + 1)), (0, vr (xg x) k0), (1, vr (xg x) k1), (2, vr (xg x) k2), (3, vi v3)]) C dX2_takeHanded_67 rfl 4 rfl (by decide) rfl ?_
          refine g_goto (t := 8) C dX2_takeHanded_70 (by decide) ?_
          refine g_sub [1, 2, 3, 4, 0] rfl ?_
          exact H
        · have H := Hf hc
          refine g_iload (q := 55) C dX2_takeHanded_53 rfl 4 rfl ?_
          refine g_iconst (q := 56) C dX2_takeHanded_55 rfl ?_
          refine g_iadd (q := 57) C dX2_takeHanded_56 rfl ?_
          exact g_iret C hR dX2_takeHanded_57 rfl H
set_option maxRecDepth 10000 in
set_option maxHeartbeats 2000000 in
theorem X2_takeHanded_73 {x : Xx} {post : Int → Mm → Prop} (C : Cx x mX2_takeHanded) (hR : Rt x mX2_takeHanded post) {k0 : Nat} (h0 : isPl k0) {k1 : Nat} (h1 : isMe k1) {k2 m2 : Nat} (h2 : isA k2 m2) (M : Mm) (H : (0 ≤ M k0 2 ∧ M k0 2 < 31) ∧ ((0 ≤ M k0 2 ∧ M k0 2 < 31) ∧ (∃ p92 : Int → Mm → Prop, Ct (xl x) (xg x) mX1_isEnd [vr (xg x) k1, vi (M (k0 + 1) (M k0 2)), vi (M (k0 + 2) (M k0 2))] M p92 ∧ ∀ (r92 : Int) (M92 : Mm), p92 r92 M92 → ((inR r92) ∧ (r92 = 0 → (post ((M92 k0 2) + 1) M92)) ∧ (¬ (r92 = 0) → (post 0 M92)))))) : Gx x 5 73 [(0, vr (xg x) k0), (1, vr (xg x) k1)] [] M := by
  refine g_aload_n (q := 74) C dX2_takeHanded_73 rfl 1 rfl rfl ?_
  refine g_aload_n (q := 75) C dX2_takeHanded_74 rfl 0 rfl rfl ?_
  refine g_get (q := 78) C (h0).o.1 (celr_2 (h0).o.2) (ci := 2) (i := 0) rfl inlX2 (by decide) wm_4_4 rfl dX2_takeHanded_75 rfl ?_
  refine g_aload_n (q := 79) C dX2_takeHanded_78 rfl 0 rfl rfl ?_
  refine g_get (q := 82) C (h0).o.1 (celr_2 (h0).o.2) (ci := 2) (i := 2) rfl inlX2 (by decide) wm_4_6 rfl dX2_takeHanded_79 rfl ?_
  obtain ⟨hc, H⟩ := H
  refine g_iald (q := 83) (m := 31) C ((h0).a1).1 ((h0).a1).2.1 ((h0).a1).2.2 hc (by decide) dX2_takeHanded_82 rfl ?_
  refine g_aload_n (q := 84) C dX2_takeHanded_83 rfl 0 rfl rfl ?_
  refine g_get (q := 87) C (h0).o.1 (celr_2 (h0).o.2) (ci := 2) (i := 1) rfl inlX2 (by decide) wm_4_5 rfl dX2_takeHanded_84 rfl ?_
  refine g_aload_n (q := 88) C dX2_takeHanded_87 rfl 0 rfl rfl ?_
  refine g_get (q := 91) C (h0).o.1 (celr_2 (h0).o.2) (ci := 2) (i := 2) rfl inlX2 (by decide) wm_4_6 rfl dX2_takeHanded_88 rfl ?_
  obtain ⟨hc, H⟩ := H
  refine g_iald (q := 92) (m := 31) C ((h0).a2).1 ((h0).a2).2.1 ((h0).a2).2.2 hc (by decide) dX2_takeHanded_91 rfl ?_
  obtain ⟨p92, hM, H⟩ := H
  refine g_callV (q := 95) (As := [vi (M (k0 + 1) (M k0 2)), vi (M (k0 + 2) (M k0 2))]) (st := []) (na := 2) C mX1_isEnd (h1).o.1 (celr_1 (h1).o.2) rfl hM wm_13_20 wm_13_9 wm_13_10 wm_3_11 wm_13_11 (by decide +kernel) rfl rfl (by decide) rfl (Nat.le_of_ble_eq_true rfl) dX2_takeHanded_92 rfl (fun r92 M92 hp => ?_)
  have H := H r92 M92 hp
  show Gx x 5 95 [(0, vr (xg x) k0), (1, vr (xg x) k1)] [vi r92] M92
  obtain ⟨hr, Ht, Hf⟩ := H
  refine g_if_eq (q := 98) (t := 102) C dX2_takeHanded_95 rfl (by decide) hr (fun hc => ?_) (fun hc => ?_)
  · have H := Ht hc
    refine g_aload_n (q := 103) C dX2_takeHanded_102 rfl 0 rfl rfl ?_
    refine g_get (q := 106) C (h0).o.1 (celr_2 (h0).o.2) (ci := 2) (i := 2) rfl inlX2 (by decide) wm_4_6 rfl dX2_takeHanded_103 rfl ?_
    refine g_iconst (q := 107) C dX2_takeHanded_106 rfl ?_
    refine g_iadd (q := 108) C dX2_takeHanded_107 rfl ?_
    exact g_iret C hR dX2_takeHanded_108 rfl H
  · have H := Hf hc
    refine g_iconst (q := 99) C dX2_takeHanded_98 rfl ?_
    refine g_goto (t := 108) C dX2_takeHanded_99 (by decide) ?_
    exact g_iret C hR dX2_takeHanded_108 rfl H
