set_option maxRecDepth 10000 in
set_option maxHeartbeats 2000000 in
theorem X4_boundMayBe_0 {x : Xx} {post : Int → Mm → Prop} (C : Cx x mX4_boundMayBe) (hR : Rt x mX4_boundMayBe post) {k0 : Nat} (h0 : isS k0) (v1 v2 : Int) (M : Mm) (H : (inR v1) ∧ (v1 < 0 → (post 0 M)) ∧ (¬ (v1 < 0) → ((inR v1) ∧ (6 ≤ v1 → (post 0 M)) ∧ (¬ (6 ≤ v1) → ((0 ≤ v1 ∧ v1 < 6) ∧ ((inR v2 ∧ inR (sLB v1.toNat)) ∧ (v2 < sLB v1.toNat → (post 0 M)) ∧ (¬ (v2 < sLB v1.toNat) → ((0 ≤ v1 ∧ v1 < 6) ∧ ((inR v2 ∧ inR (sGB v1.toNat)) ∧ (v2 ≤ sGB v1.toNat → ((inR v1) ∧ (¬ (v1 = 3) → (post 1 M)) ∧ (v1 = 3 → ((inR v2 ∧ inR (M (k0 + 1) 1)) ∧ (M (k0 + 1) 1 < v2 → (post 0 M)) ∧ (¬ (M (k0 + 1) 1 < v2) → (post 1 M)))))) ∧ (¬ (v2 ≤ sGB v1.toNat) → (post 0 M))))))))))) : Gx x 3 0 [(0, vr (xg x) k0), (1, vi v1), (2, vi v2)] [] M := by
  refine g_iload_n (q := 1) C dX4_boundMayBe_0 rfl 1 rfl rfl ?_
  obtain ⟨hr, Ht, Hf⟩ := H
  refine g_if_lt (q := 4) (t := 28) C dX4_boundMayBe_1 rfl (by decide) hr (fun hc => ?_) (fun hc => ?_)
  · have H := Ht hc
    refine g_iconst (q := 29) C dX4_boundMayBe_28 rfl ?_
    exact g_zret C hR dX4_boundMayBe_29 rfl (by decide) H
  · have H := Hf hc
    refine g_iload_n (q := 5) C dX4_boundMayBe_4 rfl 1 rfl rfl ?_
    refine g_bipush (q := 7) C dX4_boundMayBe_5 rfl (by decide) ?_
    obtain ⟨hr, Ht, Hf⟩ := H
    refine g_icmp_ge (q := 10) (t := 28) C dX4_boundMayBe_7 rfl (by decide) ⟨hr, by decide⟩ (fun hc => ?_) (fun hc => ?_)
    · have H := Ht hc
      refine g_iconst (q := 29) C dX4_boundMayBe_28 rfl ?_
      exact g_zret C hR dX4_boundMayBe_29 rfl (by decide) H
    · have H := Hf hc
      refine g_iload_n (q := 11) C dX4_boundMayBe_10 rfl 2 rfl rfl ?_
      refine g_getsN (q := 14) C C.st.1 (by decide +kernel) dX4_boundMayBe_11 rfl (fun t11 hT11 => ?_)
      refine g_iload_n (q := 15) C dX4_boundMayBe_14 rfl 1 rfl rfl ?_
      obtain ⟨hc, H⟩ := H
      refine g_ti (q := 16) C hT11 hc (by decide) dX4_boundMayBe_15 rfl ?_
      obtain ⟨hr, Ht, Hf⟩ := H
      refine g_icmp_lt (q := 19) (t := 28) C dX4_boundMayBe_16 rfl (by decide) hr (fun hc => ?_) (fun hc => ?_)
      · have H := Ht hc
        refine g_iconst (q := 29) C dX4_boundMayBe_28 rfl ?_
        exact g_zret C hR dX4_boundMayBe_29 rfl (by decide) H
      · have H := Hf hc
        refine g_iload_n (q := 20) C dX4_boundMayBe_19 rfl 2 rfl rfl ?_
        refine g_getsN (q := 23) C C.st.2.1 (by decide +kernel) dX4_boundMayBe_20 rfl (fun t20 hT20 => ?_)
        refine g_iload_n (q := 24) C dX4_boundMayBe_23 rfl 1 rfl rfl ?_
        obtain ⟨hc, H⟩ := H
        refine g_ti (q := 25) C hT20 hc (by decide) dX4_boundMayBe_24 rfl ?_
        obtain ⟨hr, Ht, Hf⟩ := H
        refine g_icmp_le (q := 28) (t := 30) C dX4_boundMayBe_25 rfl (by decide) hr (fun hc => ?_) (fun hc => ?_)
        · have H := Ht hc
          refine g_iload_n (q := 31) C dX4_boundMayBe_30 rfl 1 rfl rfl ?_
          refine g_iconst (q := 32) C dX4_boundMayBe_31 rfl ?_
          obtain ⟨hr, Ht, Hf⟩ := H
          refine g_icmp_ne (q := 35) (t := 45) C dX4_boundMayBe_32 rfl (by decide) ⟨hr, by decide⟩ (fun hc => ?_) (fun hc => ?_)
          · have H := Ht hc
            refine g_iconst (q := 46) C dX4_boundMayBe_45 rfl ?_
            refine g_goto (t := 50) C dX4_boundMayBe_46 (by decide) ?_
            exact g_zret C hR dX4_boundMayBe_50 rfl (by decide) H
          · have H := Hf hc
            refine g_iload_n (q := 36) C dX4_boundMayBe_35 rfl 2 rfl rfl ?_
            refine g_aload_n (q := 37) C dX4_boundMayBe_36 rfl 0 rfl rfl ?_
            refine g_get (q := 40) C (h0).o.1 (celr_4 (h0).o.2) (ci := 4) (i := 0) rfl inlX4 (by decide) wm_2_18 rfl dX4_boundMayBe_37 rfl ?_
            refine g_iconst (q := 41) C dX4_boundMayBe_40 rfl ?_
            refine g_iald (q := 42) (m := 6) C ((h0).b).1 ((h0).b).2.1 ((h0).b).2.2 (by decide) (by decide) dX4_boundMayBe_41 rfl ?_
            obtain ⟨hr, Ht, Hf⟩ := H
            refine g_icmp_gt (q := 45) (t := 49) C dX4_boundMayBe_42 rfl (by decide) hr (fun hc => ?_) (fun hc => ?_)
            · have H := Ht hc
              refine g_iconst (q := 50) C dX4_boundMayBe_49 rfl ?_
              exact g_zret C hR dX4_boundMayBe_50 rfl (by decide) H
            · have H := Hf hc
              refine g_iconst (q := 46) C dX4_boundMayBe_45 rfl ?_
              refine g_goto (t := 50) C dX4_boundMayBe_46 (by decide) ?_
              exact g_zret C hR dX4_boundMayBe_50 rfl (by decide) H
        · have H := Hf hc
          refine g_iconst (q := 29) C dX4_boundMayBe_28 rfl ?_
          exact g_zret C hR dX4_boundMayBe_29 rfl (by decide) H
set_option maxRecDepth 10000 in
set_option maxHeartbeats 2000000 in
theorem X4_becomes_0 {x : Xx} {post : Int → Mm → Prop} (C : Cx x mX4_becomes) (hR : Rt x mX4_becomes post) {k0 : Nat} (h0 : isS k0) {k1 : Nat} (h1 : isS k1) (M : Mm) (H : ∀ M12 : Mm, M12 = mcp M (k1 + 1) 0 (k0 + 1) 0 6 → (Gx x 3 17 [(0, vr (xg x) k0), (1, vr (xg x) k1), (2, vi 0)] [] M12)) : Gx x 3 0 [(0, vr (xg x) k0), (1, vr (xg x) k1)] [] M := by
  refine g_aload_n (q := 1) C dX4_becomes_0 rfl 1 rfl rfl ?_
  refine g_get (q := 4) C (h1).o.1 (celr_4 (h1).o.2) (ci := 4) (i := 0) rfl inlX4 (by decide) wm_2_18 rfl dX4_becomes_1 rfl ?_
  refine g_iconst (q := 5) C dX4_becomes_4 rfl ?_
  refine g_aload_n (q := 6) C dX4_becomes_5 rfl 0 rfl rfl ?_
  refine g_get (q := 9) C (h0).o.1 (celr_4 (h0).o.2) (ci := 4) (i := 0) rfl inlX4 (by decide) wm_2_18 rfl dX4_becomes_6 rfl ?_
  refine g_iconst (q := 10) C dX4_becomes_9 rfl ?_
  refine g_bipush (q := 12) C dX4_becomes_10 rfl (by decide) ?_
  refine g_copy (q := 15) (m0 := 6) (m1 := 6) C ((h1).b).1 ((h1).b).2.1 ((h1).b).2.2 ((h0).b).1 ((h0).b).2.1 ((h0).b).2.2 (by decide) (by decide) wm_6_2 wm_6_3 wm_6_4 wm_6_5 rfl (by decide) (Nat.le_of_ble_eq_true rfl) dX4_becomes_12 rfl ?_
  refine g_topM (fun M12 hM12 => ?_)
  have H := H M12 hM12
  refine g_iconst (q := 16) C dX4_becomes_15 rfl ?_
  refine g_istore_n (q := 17) (L2 := [(2, vi 0), (0, vr (xg x) k0), (1, vr (xg x) k1)]) C dX4_becomes_16 rfl rfl (by decide) rfl ?_
  refine g_sub [1, 2, 0] rfl ?_
  exact H
set_option maxRecDepth 10000 in
set_option maxHeartbeats 2000000 in
theorem X4_becomes_17 {x : Xx} {post : Int → Mm → Prop} (C : Cx x mX4_becomes) (hR : Rt x mX4_becomes post) {k0 : Nat} (h0 : isS k0) {k1 : Nat} (h1 : isS k1) (v2 : Int) (M : Mm) (H : (inR v2) ∧ (4 ≤ v2 → (∀ M52 : Mm, M52 = mu M k0 2 (M k1 2) → (post 0 M52))) ∧ (¬ (4 ≤ v2) → ((0 ≤ v2 ∧ v2 < 4) ∧ ((0 ≤ v2 ∧ v2 < 4) ∧ (∀ M38 : Mm, M38 = mcp M (k1 + 3 + v2.toNat) 0 (k0 + 3 + v2.toNat) 0 10 → (Gx x 3 17 [(0, vr (xg x) k0), (1, vr (xg x) k1), (2, vi (v2 + 1))] [] M38)))))) : Gx x 3 17 [(0, vr (xg x) k0), (1, vr (xg x) k1), (2, vi v2)] [] M := by
  refine g_iload_n (q := 18) C dX4_becomes_17 rfl 2 rfl rfl ?_
  refine g_iconst (q := 19) C dX4_becomes_18 rfl ?_
  obtain ⟨hr, Ht, Hf⟩ := H
  refine g_icmp_ge (q := 22) (t := 47) C dX4_becomes_19 rfl (by decide) ⟨hr, by decide⟩ (fun hc => ?_) (fun hc => ?_)
  · have H := Ht hc
    refine g_aload_n (q := 48) C dX4_becomes_47 rfl 0 rfl rfl ?_
    refine g_aload_n (q := 49) C dX4_becomes_48 rfl 1 rfl rfl ?_
    refine g_get (q := 52) C (h1).o.1 (celr_4 (h1).o.2) (ci := 4) (i := 2) rfl inlX4 (by decide) wm_2_21 rfl dX4_becomes_49 rfl ?_
    refine g_put (q := 55) (ty := .int) C (h0).o.1 (celr_4 (h0).o.2) (ci := 4) (i := 2) rfl inlX4 tyX4_ok nmX4 (by decide) wm_2_21 rfl rfl rfl rfl (Nat.le_of_ble_eq_true rfl) (by rw [celr_4 (h0).o.2]; rfl) dX4_becomes_52 rfl ?_
    refine g_topM (fun M52 hM52 => ?_)
    have H := H M52 hM52
    exact g_ret C hR dX4_becomes_55 rfl H
  · have H := Hf hc
    refine g_aload_n (q := 23) C dX4_becomes_22 rfl 1 rfl rfl ?_
    refine g_get (q := 26) C (h1).o.1 (celr_4 (h1).o.2) (ci := 4) (i := 1) rfl inlX4 (by decide) wm_2_20 rfl dX4_becomes_23 rfl ?_
    refine g_iload_n (q := 27) C dX4_becomes_26 rfl 2 rfl rfl ?_
    obtain ⟨hc, H⟩ := H
    have hq27 := isS.ri h1 hc
    refine g_aald (q := 28) (r := k1 + 3 + v2.toNat) C ((h1).p).1 ((h1).p).2.1 ((h1).p).2.2 hc (by decide) (isS.f h1 _) dX4_becomes_27 rfl ?_
    refine g_iconst (q := 29) C dX4_becomes_28 rfl ?_
    refine g_aload_n (q := 30) C dX4_becomes_29 rfl 0 rfl rfl ?_
    refine g_get (q := 33) C (h0).o.1 (celr_4 (h0).o.2) (ci := 4) (i := 1) rfl inlX4 (by decide) wm_2_20 rfl dX4_becomes_30 rfl ?_
    refine g_iload_n (q := 34) C dX4_becomes_33 rfl 2 rfl rfl ?_
    obtain ⟨hc, H⟩ := H
    have hq34 := isS.ri h0 hc
    refine g_aald (q := 35) (r := k0 + 3 + v2.toNat) C ((h0).p).1 ((h0).p).2.1 ((h0).p).2.2 hc (by decide) (isS.f h0 _) dX4_becomes_34 rfl ?_
    refine g_iconst (q := 36) C dX4_becomes_35 rfl ?_
    refine g_bipush (q := 38) C dX4_becomes_36 rfl (by decide) ?_
    refine g_copy (q := 41) (m0 := 10) (m1 := 10) C (hq27).1 (hq27).2.1 (hq27).2.2 (hq34).1 (hq34).2.1 (hq34).2.2 (by decide) (by decide) wm_6_2 wm_6_3 wm_6_4 wm_6_5 rfl (by decide) (Nat.le_of_ble_eq_true rfl) dX4_becomes_38 rfl ?_
    refine g_topM (fun M38 hM38 => ?_)
    have H := H M38 hM38
    refine g_iinc (q := 44) (L2 := [(2, vi (v2 + 1)), (0, vr (xg x) k0), (1, vr (xg x) k1)]) C dX4_becomes_41 rfl 2 rfl (by decide) rfl ?_
    refine g_goto (t := 17) C dX4_becomes_44 (by decide) ?_
    refine g_sub [1, 2, 0] rfl ?_
    exact H
set_option maxRecDepth 10000 in
set_option maxHeartbeats 2000000 in
theorem X4_openAt_0 {x : Xx} {post : Int → Mm → Prop} (C : Cx x mX4_openAt) (hR : Rt x mX4_openAt post) {k0 : Nat} (h0 : isS k0) (v1 : Int) (M : Mm) (H : Gx x 3 2 [(0, vr (xg x) k0), (1, vi v1), (2, vi 0)] [] M) : Gx x 3 0 [(0, vr (xg x) k0), (1, vi v1)] [] M := by
  refine g_iconst (q := 1) C dX4_openAt_0 rfl ?_
  refine g_istore_n (q := 2) (L2 := [(2, vi 0), (0, vr (xg x) k0), (1, vi v1)]) C dX4_openAt_1 rfl rfl (by decide) rfl ?_
  refine g_sub [1, 2, 0] rfl ?_
  exact H
set_option maxRecDepth 10000 in
set_option maxHeartbeats 2000000 in
theorem X4_openAt_2 {x : Xx} {post : Int → Mm → Prop} (C : Cx x mX4_openAt) (hR : Rt x mX4_openAt post) {k0 : Nat} (h0 : isS k0) (v1 v2 : Int) (M : Mm) (H : (inR v2) ∧ (4 ≤ v2 → (∀ M45 : Mm, M45 = mu M k0 2 ((M k0 2) + 1) → (post 0 M45))) ∧ (¬ (4 ≤ v2) → ((0 ≤ v2 ∧ v2 < 4) ∧ ((0 ≤ v2 ∧ v2 < 4) ∧ ((0 ≤ v1 ∧ 0 ≤ v1 + 1 ∧ 0 ≤ (M k0 2) - v1 ∧ v1 + ((M k0 2) - v1) ≤ 10 ∧ (v1 + 1) + ((M k0 2) - v1) ≤ 10) ∧ (∀ M29 : Mm, M29 = mcp M (k0 + 3 + v2.toNat) v1 (k0 + 3 + v2.toNat) (v1 + 1) ((M k0 2) - v1) → (Gx x 3 2 [(0, vr (xg x) k0), (1, vi v1), (2, vi (v2 + 1))] [] M29))))))) : Gx x 3 2 [(0, vr (xg x) k0), (1, vi v1), (2, vi v2)] [] M := by
  refine g_iload_n (q := 3) C dX4_openAt_2 rfl 2 rfl rfl ?_
  refine g_iconst (q := 4) C dX4_openAt_3 rfl ?_
  obtain ⟨hr, Ht, Hf⟩ := H
  refine g_icmp_ge (q := 7) (t := 38) C dX4_openAt_4 rfl (by decide) ⟨hr, by decide⟩ (fun hc => ?_) (fun hc => ?_)
  · have H := Ht hc
    refine g_aload_n (q := 39) C dX4_openAt_38 rfl 0 rfl rfl ?_
    refine g_dup (q := 40) C dX4_openAt_39 rfl rfl ?_
    refine g_get (q := 43) C (h0).o.1 (celr_4 (h0).o.2) (ci := 4) (i := 2) rfl inlX4 (by decide) wm_2_21 rfl dX4_openAt_40 rfl ?_
    refine g_iconst (q := 44) C dX4_openAt_43 rfl ?_
    refine g_iadd (q := 45) C dX4_openAt_44 rfl ?_
    refine g_put (q := 48) (ty := .int) C (h0).o.1 (celr_4 (h0).o.2) (ci := 4) (i := 2) rfl inlX4 tyX4_ok nmX4 (by decide) wm_2_21 rfl rfl rfl rfl (Nat.le_of_ble_eq_true rfl) (by rw [celr_4 (h0).o.2]; rfl) dX4_openAt_45 rfl ?_
    refine g_topM (fun M45 hM45 => ?_)
    have H := H M45 hM45
    exact g_ret C hR dX4_openAt_48 rfl H
  · have H := Hf hc
    refine g_aload_n (q := 8) C dX4_openAt_7 rfl 0 rfl rfl ?_
    refine g_get (q := 11) C (h0).o.1 (celr_4 (h0).o.2) (ci := 4) (i := 1) rfl inlX4 (by decide) wm_2_20 rfl dX4_openAt_8 rfl ?_
    refine g_iload_n (q := 12) C dX4_openAt_11 rfl 2 rfl rfl ?_
    obtain ⟨hc, H⟩ := H
    have hq12 := isS.ri h0 hc
    refine g_aald (q := 13) (r := k0 + 3 + v2.toNat) C ((h0).p).1 ((h0).p).2.1 ((h0).p).2.2 hc (by decide) (isS.f h0 _) dX4_openAt_12 rfl ?_
    refine g_iload_n (q := 14) C dX4_openAt_13 rfl 1 rfl rfl ?_
    refine g_aload_n (q := 15) C dX4_openAt_14 rfl 0 rfl rfl ?_
    refine g_get (q := 18) C (h0).o.1 (celr_4 (h0).o.2) (ci := 4) (i := 1) rfl inlX4 (by decide) wm_2_20 rfl dX4_openAt_15 rfl ?_
    refine g_iload_n (q := 19) C dX4_openAt_18 rfl 2 rfl rfl ?_
    obtain ⟨hc, H⟩ := H
    have hq19 := isS.ri h0 hc
    refine g_aald (q := 20) (r := k0 + 3 + v2.toNat) C ((h0).p).1 ((h0).p).2.1 ((h0).p).2.2 hc (by decide) (isS.f h0 _) dX4_openAt_19 rfl ?_
    refine g_iload_n (q := 21) C dX4_openAt_20 rfl 1 rfl rfl ?_
    refine g_iconst (q := 22) C dX4_openAt_21 rfl ?_
    refine g_iadd (q := 23) C dX4_openAt_22 rfl ?_
    refine g_aload_n (q := 24) C dX4_openAt_23 rfl 0 rfl rfl ?_
    refine g_get (q := 27) C (h0).o.1 (celr_4 (h0).o.2) (ci := 4) (i := 2) rfl inlX4 (by decide) wm_2_21 rfl dX4_openAt_24 rfl ?_
    refine g_iload_n (q := 28) C dX4_openAt_27 rfl 1 rfl rfl ?_
    refine g_isub (q := 29) C dX4_openAt_28 rfl ?_
    obtain ⟨hc, H⟩ := H
    refine g_copy (q := 32) (m0 := 10) (m1 := 10) C (hq12).1 (hq12).2.1 (hq12).2.2 (hq19).1 (hq19).2.1 (hq19).2.2 hc (by decide) wm_6_2 wm_6_3 wm_6_4 wm_6_5 rfl (by decide) (Nat.le_of_ble_eq_true rfl) dX4_openAt_29 rfl ?_
    refine g_topM (fun M29 hM29 => ?_)
    have H := H M29 hM29
    refine g_iinc (q := 35) (L2 := [(2, vi (v2 + 1)), (0, vr (xg x) k0), (1, vi v1)]) C dX4_openAt_32 rfl 2 rfl (by decide) rfl ?_
    refine g_goto (t := 2) C dX4_openAt_35 (by decide) ?_
    refine g_sub [1, 2, 0] rfl ?_
    exact H
set_option maxRecDepth 10000 in
set_option maxHeartbeats 2000000 in
theorem X4_describe_0 {x : Xx} {post : Int → Mm → Prop} (C : Cx x mX4_describe) (hR : Rt x mX4_describe post) {k0 : Nat} (h0 : isS k0) (v1 v2 v3 v4 v5 : Int) (M : Mm) (H : (0 ≤ v1 ∧ v1 < 10) ∧ (∀ M8 : Mm, M8 = mu M (k0 + 3) v1 v2 → ((0 ≤ v1 ∧ v1 < 10) ∧ (∀ M17 : Mm, M17 = mu M8 (k0 + 4) v1 v3 → ((0 ≤ v1 ∧ v1 < 10) ∧ (∀ M27 : Mm, M27 = mu M17 (k0 + 5) v1 v4 → ((0 ≤ v1 ∧ v1 < 10) ∧ (∀ M37 : Mm, M37 = mu M27 (k0 + 6) v1 v5 → (post 0 M37))))))))) : Gx x 6 0 [(0, vr (xg x) k0), (1, vi v1), (2, vi v2), (3, vi v3), (4, vi v4), (5, vi v5)] [] M := by
  refine g_aload_n (q := 1) C dX4_describe_0 rfl 0 rfl rfl ?_
  refine g_get (q := 4) C (h0).o.1 (celr_4 (h0).o.2) (ci := 4) (i := 1) rfl inlX4 (by decide) wm_2_20 rfl dX4_describe_1 rfl ?_
  refine g_iconst (q := 5) C dX4_describe_4 rfl ?_
  refine g_aald (q := 6) (r := k0 + 3) C ((h0).p).1 ((h0).p).2.1 ((h0).p).2.2 (by decide) (by decide) (isS.f h0 0) dX4_describe_5 rfl ?_
  refine g_iload_n (q := 7) C dX4_describe_6 rfl 1 rfl rfl ?_
  refine g_iload_n (q := 8) C dX4_describe_7 rfl 2 rfl rfl ?_
  obtain ⟨hc, H⟩ := H
  refine g_iast (q := 9) (m := 10) C (isS.r h0 0 (by decide)).1 (isS.r h0 0 (by decide)).2.1 (isS.r h0 0 (by decide)).2.2 hc (by decide) dX4_describe_8 rfl ?_
  refine g_topM (fun M8 hM8 => ?_)
  have H := H M8 hM8
  refine g_aload_n (q := 10) C dX4_describe_9 rfl 0 rfl rfl ?_
  refine g_get (q := 13) C (h0).o.1 (celr_4 (h0).o.2) (ci := 4) (i := 1) rfl inlX4 (by decide) wm_2_20 rfl dX4_describe_10 rfl ?_
  refine g_iconst (q := 14) C dX4_describe_13 rfl ?_
  refine g_aald (q := 15) (r := k0 + 4) C ((h0).p).1 ((h0).p).2.1 ((h0).p).2.2 (by decide) (by decide) (isS.f h0 1) dX4_describe_14 rfl ?_
  refine g_iload_n (q := 16) C dX4_describe_15 rfl 1 rfl rfl ?_
  refine g_iload_n (q := 17) C dX4_describe_16 rfl 3 rfl rfl ?_
  obtain ⟨hc, H⟩ := H
  refine g_iast (q := 18) (m := 10) C (isS.r h0 1 (by decide)).1 (isS.r h0 1 (by decide)).2.1 (isS.r h0 1 (by decide)).2.2 hc (by decide) dX4_describe_17 rfl ?_
  refine g_topM (fun M17 hM17 => ?_)
  have H := H M17 hM17
  refine g_aload_n (q := 19) C dX4_describe_18 rfl 0 rfl rfl ?_
  refine g_get (q := 22) C (h0).o.1 (celr_4 (h0).o.2) (ci := 4) (i := 1) rfl inlX4 (by decide) wm_2_20 rfl dX4_describe_19 rfl ?_
  refine g_iconst (q := 23) C dX4_describe_22 rfl ?_
  refine g_aald (q := 24) (r := k0 + 5) C ((h0).p).1 ((h0).p).2.1 ((h0).p).2.2 (by decide) (by decide) (isS.f h0 2) dX4_describe_23 rfl ?_
  refine g_iload_n (q := 25) C dX4_describe_24 rfl 1 rfl rfl ?_
  refine g_iload (q := 27) C dX4_describe_25 rfl 4 rfl ?_
  obtain ⟨hc, H⟩ := H
  refine g_iast (q := 28) (m := 10) C (isS.r h0 2 (by decide)).1 (isS.r h0 2 (by decide)).2.1 (isS.r h0 2 (by decide)).2.2 hc (by decide) dX4_describe_27 rfl ?_
  refine g_topM (fun M27 hM27 => ?_)
  have H := H M27 hM27
  refine g_aload_n (q := 29) C dX4_describe_28 rfl 0 rfl rfl ?_
  refine g_get (q := 32) C (h0).o.1 (celr_4 (h0).o.2) (ci := 4) (i := 1) rfl inlX4 (by decide) wm_2_20 rfl dX4_describe_29 rfl ?_
  refine g_iconst (q := 33) C dX4_describe_32 rfl ?_
  refine g_aald (q := 34) (r := k0 + 6) C ((h0).p).1 ((h0).p).2.1 ((h0).p).2.2 (by decide) (by decide) (isS.f h0 3) dX4_describe_33 rfl ?_
  refine g_iload_n (q := 35) C dX4_describe_34 rfl 1 rfl rfl ?_
  refine g_iload (q := 37) C dX4_describe_35 rfl 5 rfl ?_
  obtain ⟨hc, H⟩ := H
  refine g_iast (q := 38) (m := 10) C (isS.r h0 3 (by decide)).1 (isS.r h0 3 (by decide)).2.1 (isS.r h0 3 (by decide)).2.2 hc (by decide) dX4_describe_37 rfl ?_
  refine g_topM (fun M37 hM37 => ?_)
  have H := H M37 hM37
  exact g_ret C hR dX4_describe_38 rfl H
set_option maxRecDepth 10000 in
set_option maxHeartbeats 2000000 in
theorem X4_has_0 {x : Xx} {post : Int → Mm → Prop} (C : Cx x mX4_has) (hR : Rt x mX4_has post) {k0 : Nat} (h0 : isS k0) (v1 : Int) (M : Mm) (H : (inR v1) ∧ (v1 < 0 → (post 0 M)) ∧ (¬ (v1 < 0) → ((inR v1 ∧ inR (M k0 2)) ∧ (M k0 2 ≤ v1 → (post 0 M)) ∧ (¬ (M k0 2 ≤ v1) → (post 1 M))))) : Gx x 2 0 [(0, vr (xg x) k0), (1, vi v1)] [] M := by
  refine g_iload_n (q := 1) C dX4_has_0 rfl 1 rfl rfl ?_
  obtain ⟨hr, Ht, Hf⟩ := H
  refine g_if_lt (q := 4) (t := 16) C dX4_has_1 rfl (by decide) hr (fun hc => ?_) (fun hc => ?_)
  · have H := Ht hc
    refine g_iconst (q := 17) C dX4_has_16 rfl ?_
    exact g_zret C hR dX4_has_17 rfl (by decide) H
  · have H := Hf hc
    refine g_iload_n (q := 5) C dX4_has_4 rfl 1 rfl rfl ?_
    refine g_aload_n (q := 6) C dX4_has_5 rfl 0 rfl rfl ?_
    refine g_get (q := 9) C (h0).o.1 (celr_4 (h0).o.2) (ci := 4) (i := 2) rfl inlX4 (by decide) wm_2_21 rfl dX4_has_6 rfl ?_
    obtain ⟨hr, Ht, Hf⟩ := H
    refine g_icmp_ge (q := 12) (t := 16) C dX4_has_9 rfl (by decide) hr (fun hc => ?_) (fun hc => ?_)
    · have H := Ht hc
      refine g_iconst (q := 17) C dX4_has_16 rfl ?_
      exact g_zret C hR dX4_has_17 rfl (by decide) H
    · have H := Hf hc
      refine g_iconst (q := 13) C dX4_has_12 rfl ?_
      refine g_goto (t := 17) C dX4_has_13 (by decide) ?_
      exact g_zret C hR dX4_has_17 rfl (by decide) H
set_option maxRecDepth 10000 in
set_option maxHeartbeats 2000000 in
theorem X4_closeAt_0 {x : Xx} {post : Int → Mm → Prop} (C : Cx x mX4_closeAt) (hR : Rt x mX4_closeAt post) {k0 : Nat} (h0 : isS k0) (v1 : Int) (M : Mm) (H : Gx x 3 2 [(0, vr (xg x) k0), (1, vi v1), (2, vi 0)] [] M) : Gx x 3 0 [(0, vr (xg x) k0), (1, vi v1)] [] M := by
  refine g_iconst (q := 1) C dX4_closeAt_0 rfl ?_
  refine g_istore_n (q := 2) (L2 := [(2, vi 0), (0, vr (xg x) k0), (1, vi v1)]) C dX4_closeAt_1 rfl rfl (by decide) rfl ?_
  refine g_sub [1, 2, 0] rfl ?_
  exact H
set_option maxRecDepth 10000 in
set_option maxHeartbeats 2000000 in
theorem X4_closeAt_2 {x : Xx} {post : Int → Mm → Prop} (C : Cx x mX4_closeAt) (hR : Rt x mX4_closeAt post) {k0 : Nat} (h0 : isS k0) (v1 v2 : Int) (M : Mm) (H : (inR v2) ∧ (4 ≤ v2 → (∀ M47 : Mm, M47 = mu M k0 2 ((M k0 2) - 1) → (post 0 M47))) ∧ (¬ (4 ≤ v2) → ((0 ≤ v2 ∧ v2 < 4) ∧ ((0 ≤ v2 ∧ v2 < 4) ∧ ((0 ≤ v1 + 1 ∧ 0 ≤ v1 ∧ 0 ≤ ((M k0 2) - v1) - 1 ∧ (v1 + 1) + (((M k0 2) - v1) - 1) ≤ 10 ∧ v1 + (((M k0 2) - v1) - 1) ≤ 10) ∧ (∀ M31 : Mm, M31 = mcp M (k0 + 3 + v2.toNat) (v1 + 1) (k0 + 3 + v2.toNat) v1 (((M k0 2) - v1) - 1) → (Gx x 3 2 [(0, vr (xg x) k0), (1, vi v1), (2, vi (v2 + 1))] [] M31))))))) : Gx x 3 2 [(0, vr (xg x) k0), (1, vi v1), (2, vi v2)] [] M := by
  refine g_iload_n (q := 3) C dX4_closeAt_2 rfl 2 rfl rfl ?_
  refine g_iconst (q := 4) C dX4_closeAt_3 rfl ?_
  obtain ⟨hr, Ht, Hf⟩ := H
  refine g_icmp_ge (q := 7) (t := 40) C dX4_closeAt_4 rfl (by decide) ⟨hr, by decide⟩ (fun hc => ?_) (fun hc => ?_)
  · have H := Ht hc
    refine g_aload_n (q := 41) C dX4_closeAt_40 rfl 0 rfl rfl ?_
    refine g_dup (q := 42) C dX4_closeAt_41 rfl rfl ?_
    refine g_get (q := 45) C (h0).o.1 (celr_4 (h0).o.2) (ci := 4) (i := 2) rfl inlX4 (by decide) wm_2_21 rfl dX4_closeAt_42 rfl ?_
    refine g_iconst (q := 46) C dX4_closeAt_45 rfl ?_
    refine g_isub (q := 47) C dX4_closeAt_46 rfl ?_
    refine g_put (q := 50) (ty := .int) C (h0).o.1 (celr_4 (h0).o.2) (ci := 4) (i := 2) rfl inlX4 tyX4_ok nmX4 (by decide) wm_2_21 rfl rfl rfl rfl (Nat.le_of_ble_eq_true rfl) (by rw [celr_4 (h0).o.2]; rfl) dX4_closeAt_47 rfl ?_
    refine g_topM (fun M47 hM47 => ?_)
    have H := H M47 hM47
    exact g_ret C hR dX4_closeAt_50 rfl H
  · have H := Hf hc
    refine g_aload_n (q := 8) C dX4_closeAt_7 rfl 0 rfl rfl ?_
    refine g_get (q := 11) C (h0).o.1 (celr_4 (h0).o.2) (ci := 4) (i := 1) rfl inlX4 (by decide) wm_2_20 rfl dX4_closeAt_8 rfl ?_
    refine g_iload_n (q := 12) C dX4_closeAt_11 rfl 2 rfl rfl ?_
    obtain ⟨hc, H⟩ := H
    have hq12 := isS.ri h0 hc
    refine g_aald (q := 13) (r := k0 + 3 + v2.toNat) C ((h0).p).1 ((h0).p).2.1 ((h0).p).2.2 hc (by decide) (isS.f h0 _) dX4_closeAt_12 rfl ?_
    refine g_iload_n (q := 14) C dX4_closeAt_13 rfl 1 rfl rfl ?_
    refine g_iconst (q := 15) C dX4_closeAt_14 rfl ?_
    refine g_iadd (q := 16) C dX4_closeAt_15 rfl ?_
    refine g_aload_n (q := 17) C dX4_closeAt_16 rfl 0 rfl rfl ?_
    refine g_get (q := 20) C (h0).o.1 (celr_4 (h0).o.2) (ci := 4) (i := 1) rfl inlX4 (by decide) wm_2_20 rfl dX4_closeAt_17 rfl ?_
    refine g_iload_n (q := 21) C dX4_closeAt_20 rfl 2 rfl rfl ?_
    obtain ⟨hc, H⟩ := H
    have hq21 := isS.ri h0 hc
    refine g_aald (q := 22) (r := k0 + 3 + v2.toNat) C ((h0).p).1 ((h0).p).2.1 ((h0).p).2.2 hc (by decide) (isS.f h0 _) dX4_closeAt_21 rfl ?_
    refine g_iload_n (q := 23) C dX4_closeAt_22 rfl 1 rfl rfl ?_
    refine g_aload_n (q := 24) C dX4_closeAt_23 rfl 0 rfl rfl ?_
    refine g_get (q := 27) C (h0).o.1 (celr_4 (h0).o.2) (ci := 4) (i := 2) rfl inlX4 (by decide) wm_2_21 rfl dX4_closeAt_24 rfl ?_
    refine g_iload_n (q := 28) C dX4_closeAt_27 rfl 1 rfl rfl ?_
    refine g_isub (q := 29) C dX4_closeAt_28 rfl ?_
    refine g_iconst (q := 30) C dX4_closeAt_29 rfl ?_
    refine g_isub (q := 31) C dX4_closeAt_30 rfl ?_
    obtain ⟨hc, H⟩ := H
    refine g_copy (q := 34) (m0 := 10) (m1 := 10) C (hq12).1 (hq12).2.1 (hq12).2.2 (hq21).1 (hq21).2.1 (hq21).2.2 hc (by decide) wm_6_2 wm_6_3 wm_6_4 wm_6_5 rfl (by decide) (Nat.le_of_ble_eq_true rfl) dX4_closeAt_31 rfl ?_
    refine g_topM (fun M31 hM31 => ?_)
    have H := H M31 hM31
    refine g_iinc (q := 37) (L2 := [(2, vi (v2 + 1)), (0, vr (xg x) k0), (1, vi v1)]) C dX4_closeAt_34 rfl 2 rfl (by decide) rfl ?_
    refine g_goto (t := 2) C dX4_closeAt_37 (by decide) ?_
    refine g_sub [1, 2, 0] rfl ?_
    exact H
set_option maxRecDepth 10000 in
set_option maxHeartbeats 2000000 in
theorem X4_drawLots_0 {x : Xx} {post : Int → Mm → Prop} (C : Cx x mX4_drawLots) (hR : Rt x mX4_drawLots post) {k0 : Nat} (h0 : isS k0) (v1 v2 : Int) (M : Mm) (H : (inR (M (k0 + 1) 3)) ∧ (∀ w12 : Int, w12 = (if M (k0 + 1) 3 < 1 then 1 else M (k0 + 1) 3) → ((inR (M (k0 + 1) 0)) ∧ (∀ w24 : Int, w24 = (if M (k0 + 1) 0 < 1 then 1 else M (k0 + 1) 0) → (∀ M28 : Mm, M28 = mu M k0 2 v1 → (Gx x 7 34 [(0, vr (xg x) k0), (1, vi v1), (3, vi v2), (4, vi w12), (5, vi w24), (6, vi 0)] [] M28)))))) : Gx x 7 0 [(0, vr (xg x) k0), (1, vi v1), (2, vi v2)] [] M := by
  refine g_iload_n (q := 1) C dX4_drawLots_0 rfl 2 rfl rfl ?_
  refine g_istore_n (q := 2) (L2 := [(3, vi v2), (0, vr (xg x) k0), (1, vi v1), (2, vi v2)]) C dX4_drawLots_1 rfl rfl (by decide) rfl ?_
  refine g_aload_n (q := 3) C dX4_drawLots_2 rfl 1 rfl rfl ?_
  refine g_get (q := 6) C (h0).o.1 (celr_4 (h0).o.2) (ci := 4) (i := 0) rfl inlX4 (by decide) wm_2_18 rfl dX4_drawLots_3 rfl ?_
  refine g_iconst (q := 7) C dX4_drawLots_6 rfl ?_
  refine g_iald (q := 8) (m := 6) C ((h0).b).1 ((h0).b).2.1 ((h0).b).2.2 (by decide) (by decide) dX4_drawLots_7 rfl ?_
  refine g_iconst (q := 9) C dX4_drawLots_8 rfl ?_
  obtain ⟨hc, H⟩ := H
  refine g_mmax (q := 12) C ⟨hc, by decide⟩ wm_10_0 wm_10_1 wm_10_2 wm_5_7 rfl (by decide) (Nat.le_of_ble_eq_true rfl) dX4_drawLots_9 rfl ?_
  refine g_topi (fun w12 hw12 => ?_)
  have H := H w12 hw12
  refine g_istore (q := 14) (L2 := [(4, vi w12), (3, vi v2), (0, vr (xg x) k0), (1, vi v1), (2, vi v2)]) C dX4_drawLots_12 rfl (by decide) rfl ?_
  refine g_aload_n (q := 15) C dX4_drawLots_14 rfl 2 rfl rfl ?_
  refine g_get (q := 18) C (h0).o.1 (celr_4 (h0).o.2) (ci := 4) (i := 0) rfl inlX4 (by decide) wm_2_18 rfl dX4_drawLots_15 rfl ?_
  refine g_iconst (q := 19) C dX4_drawLots_18 rfl ?_
  refine g_iald (q := 20) (m := 6) C ((h0).b).1 ((h0).b).2.1 ((h0).b).2.2 (by decide) (by decide) dX4_drawLots_19 rfl ?_
  refine g_iconst (q := 21) C dX4_drawLots_20 rfl ?_
  obtain ⟨hc, H⟩ := H
  refine g_mmax (q := 24) C ⟨hc, by decide⟩ wm_10_0 wm_10_1 wm_10_2 wm_5_7 rfl (by decide) (Nat.le_of_ble_eq_true rfl) dX4_drawLots_21 rfl ?_
  refine g_topi (fun w24 hw24 => ?_)
  have H := H w24 hw24
  refine g_istore (q := 26) (L2 := [(5, vi w24), (4, vi w12), (3, vi v2), (0, vr (xg x) k0), (1, vi v1), (2, vi v2)]) C dX4_drawLots_24 rfl (by decide) rfl ?_
  refine g_aload_n (q := 27) C dX4_drawLots_26 rfl 3 rfl rfl ?_
  refine g_iload_n (q := 28) C dX4_drawLots_27 rfl 4 rfl rfl ?_
  refine g_put (q := 31) (ty := .int) C (h0).o.1 (celr_4 (h0).o.2) (ci := 4) (i := 2) rfl inlX4 tyX4_ok nmX4 (by decide) wm_2_21 rfl rfl rfl rfl (Nat.le_of_ble_eq_true rfl) (by rw [celr_4 (h0).o.2]; rfl) dX4_drawLots_28 rfl ?_
  refine g_topM (fun M28 hM28 => ?_)
  have H := H M28 hM28
  refine g_iconst (q := 32) C dX4_drawLots_31 rfl ?_
  refine g_istore (q := 34) (L2 := [(6, vi 0), (5, vi w24), (4, vi w12), (3, vi v2), (0, vr (xg x) k0), (1, vi v1), (2, vi v2)]) C dX4_drawLots_32 rfl (by decide) rfl ?_
  refine g_sub [4, 5, 3, 2, 1, 0] rfl ?_
  exact H
set_option maxRecDepth 10000 in
set_option maxHeartbeats 2000000 in
theorem X4_drawLots_34 {x : Xx} {post : Int → Mm → Prop} (C : Cx x mX4_drawLots) (hR : Rt x mX4_drawLots post) {k0 : Nat} (h0 : isS k0) (v1 v3 v4 v5 v6 : Int) (M : Mm) (H : (inR v6 ∧ inR v1) ∧ (v1 ≤ v6 → (post 0 M)) ∧ (¬ (v1 ≤ v6) → (∃ p41 : Int → Mm → Prop, Ct (xl x) (xg x) mX4_nextLot [vi v3] M p41 ∧ ∀ (r41 : Int) (M41 : Mm), p41 r41 M41 → (((0 ≤ r41 ∧ r41 < 2147483648) ∧ (0 < v4 ∧ v4 < 2147483648)) ∧ ((0 ≤ v6 ∧ v6 < 10) ∧ (∀ M59 : Mm, M59 = mu M41 (k0 + 3) v6 ((r41 % v4) + 1) → (∃ p61 : Int → Mm → Prop, Ct (xl x) (xg x) mX4_nextLot [vi r41] M59 p61 ∧ ∀ (r61 : Int) (M61 : Mm), p61 r61 M61 → ((0 ≤ r61 ∧ r61 < 2147483648) ∧ ((0 ≤ v6 ∧ v6 < 10) ∧ (∀ M76 : Mm, M76 = mu M61 (k0 + 4) v6 (r61 % 2) → (∃ p78 : Int → Mm → Prop, Ct (xl x) (xg x) mX4_nextLot [vi r61] M76 p78 ∧ ∀ (r78 : Int) (M78 : Mm), p78 r78 M78 → (((0 ≤ r78 ∧ r78 < 2147483648) ∧ (0 < v5 ∧ v5 < 2147483648)) ∧ ((0 ≤ v6 ∧ v6 < 10) ∧ (∀ M94 : Mm, M94 = mu M78 (k0 + 5) v6 (r78 % v5) → (∃ p96 : Int → Mm → Prop, Ct (xl x) (xg x) mX4_nextLot [vi r78] M94 p96 ∧ ∀ (r96 : Int) (M96 : Mm), p96 r96 M96 → ((0 ≤ r96 ∧ r96 < 2147483648) ∧ ((0 ≤ v6 ∧ v6 < 10) ∧ (∀ M114 : Mm, M114 = mu M96 (k0 + 6) v6 ((r96 % 9) + 1) → (Gx x 7 34 [(0, vr (xg x) k0), (1, vi v1), (3, vi r96), (4, vi v4), (5, vi v5), (6, vi (v6 + 1))] [] M114))))))))))))))))))) : Gx x 7 34 [(0, vr (xg x) k0), (1, vi v1), (3, vi v3), (4, vi v4), (5, vi v5), (6, vi v6)] [] M := by
  refine g_iload (q := 36) C dX4_drawLots_34 rfl 5 rfl ?_
  refine g_iload_n (q := 37) C dX4_drawLots_36 rfl 1 rfl rfl ?_
  obtain ⟨hr, Ht, Hf⟩ := H
  refine g_icmp_ge (q := 40) (t := 121) C dX4_drawLots_37 rfl (by decide) hr (fun hc => ?_) (fun hc => ?_)
  · have H := Ht hc
    exact g_ret C hR dX4_drawLots_121 rfl H
  · have H := Hf hc
    refine g_iload_n (q := 41) C dX4_drawLots_40 rfl 2 rfl rfl ?_
    obtain ⟨p41, hM, H⟩ := H
    refine g_callS (q := 44) (As := [vi v3]) (st := []) (na := 1) C mX4_nextLot hM wm_10_3 wm_10_4 wm_1_14 wm_10_5 (by decide +kernel) rfl rfl (by decide) rfl (Nat.le_of_ble_eq_true rfl) dX4_drawLots_41 rfl (fun r41 M41 hp => ?_)
    have H := H r41 M41 hp
    show Gx x 7 44 [(0, vr (xg x) k0), (1, vi v1), (3, vi v3), (4, vi v4), (5, vi v5), (6, vi v6)] [vi r41] M41
    refine g_istore_n (q := 45) (L2 := [(3, vi r41), (0, vr (xg x) k0), (1, vi v1), (4, vi v4), (5, vi v5), (6, vi v6)]) C dX4_drawLots_44 rfl rfl (by decide) rfl ?_
    refine g_aload_n (q := 46) C dX4_drawLots_45 rfl 1 rfl rfl ?_
    refine g_get (q := 49) C (h0).o.1 (celr_4 (h0).o.2) (ci := 4) (i := 1) rfl inlX4 (by decide) wm_2_20 rfl dX4_drawLots_46 rfl ?_
    refine g_iconst (q := 50) C dX4_drawLots_49 rfl ?_
    refine g_aald (q := 51) (r := k0 + 3) C ((h0).p).1 ((h0).p).2.1 ((h0).p).2.2 (by decide) (by decide) (isS.f h0 0) dX4_drawLots_50 rfl ?_
    refine g_iload (q := 53) C dX4_drawLots_51 rfl 5 rfl ?_
    refine g_iload_n (q := 54) C dX4_drawLots_53 rfl 0 rfl rfl ?_
    refine g_iload (q := 56) C dX4_drawLots_54 rfl 3 rfl ?_
    obtain ⟨hc, H⟩ := H
    refine g_irem (q := 57) C dX4_drawLots_56 rfl hc ?_
    refine g_iconst (q := 58) C dX4_drawLots_57 rfl ?_
    refine g_iadd (q := 59) C dX4_drawLots_58 rfl ?_
    obtain ⟨hc, H⟩ := H
    refine g_iast (q := 60) (m := 10) C (isS.r h0 0 (by decide)).1 (isS.r h0 0 (by decide)).2.1 (isS.r h0 0 (by decide)).2.2 hc (by decide) dX4_drawLots_59 rfl ?_
    refine g_topM (fun M59 hM59 => ?_)
    have H := H M59 hM59
    refine g_iload_n (q := 61) C dX4_drawLots_60 rfl 0 rfl rfl ?_
    obtain ⟨p61, hM, H⟩ := H
    refine g_callS (q := 64) (As := [vi r41]) (st := []) (na := 1) C mX4_nextLot hM wm_10_3 wm_10_4 wm_1_14 wm_10_5 (by decide +kernel) rfl rfl (by decide) rfl (Nat.le_of_ble_eq_true rfl) dX4_drawLots_61 rfl (fun r61 M61 hp => ?_)
    have H := H r61 M61 hp
    show Gx x 7 64 [(3, vi r41), (0, vr (xg x) k0), (1, vi v1), (4, vi v4), (5, vi v5), (6, vi v6)] [vi r61] M61
    refine g_istore_n (q := 65) (L2 := [(3, vi r61), (0, vr (xg x) k0), (1, vi v1), (4, vi v4), (5, vi v5), (6, vi v6)]) C dX4_drawLots_64 rfl rfl (by decide) rfl ?_
    refine g_aload_n (q := 66) C dX4_drawLots_65 rfl 1 rfl rfl ?_
    refine g_get (q := 69) C (h0).o.1 (celr_4 (h0).o.2) (ci := 4) (i := 1) rfl inlX4 (by decide) wm_2_20 rfl dX4_drawLots_66 rfl ?_
    refine g_iconst (q := 70) C dX4_drawLots_69 rfl ?_
    refine g_aald (q := 71) (r := k0 + 4) C ((h0).p).1 ((h0).p).2.1 ((h0).p).2.2 (by decide) (by decide) (isS.f h0 1) dX4_drawLots_70 rfl ?_
    refine g_iload (q := 73) C dX4_drawLots_71 rfl 5 rfl ?_
    refine g_iload_n (q := 74) C dX4_drawLots_73 rfl 0 rfl rfl ?_
    refine g_iconst (q := 75) C dX4_drawLots_74 rfl ?_
    obtain ⟨hc, H⟩ := H
    refine g_irem (q := 76) C dX4_drawLots_75 rfl ⟨hc, by decide⟩ ?_
    obtain ⟨hc, H⟩ := H
    refine g_iast (q := 77) (m := 10) C (isS.r h0 1 (by decide)).1 (isS.r h0 1 (by decide)).2.1 (isS.r h0 1 (by decide)).2.2 hc (by decide) dX4_drawLots_76 rfl ?_
    refine g_topM (fun M76 hM76 => ?_)
    have H := H M76 hM76
    refine g_iload_n (q := 78) C dX4_drawLots_77 rfl 0 rfl rfl ?_
    obtain ⟨p78, hM, H⟩ := H
    refine g_callS (q := 81) (As := [vi r61]) (st := []) (na := 1) C mX4_nextLot hM wm_10_3 wm_10_4 wm_1_14 wm_10_5 (by decide +kernel) rfl rfl (by decide) rfl (Nat.le_of_ble_eq_true rfl) dX4_drawLots_78 rfl (fun r78 M78 hp => ?_)
    have H := H r78 M78 hp
    show Gx x 7 81 [(3, vi r61), (0, vr (xg x) k0), (1, vi v1), (4, vi v4), (5, vi v5), (6, vi v6)] [vi r78] M78
    refine g_istore_n (q := 82) (L2 := [(3, vi r78), (0, vr (xg x) k0), (1, vi v1), (4, vi v4), (5, vi v5), (6, vi v6)]) C dX4_drawLots_81 rfl rfl (by decide) rfl ?_
    refine g_aload_n (q := 83) C dX4_drawLots_82 rfl 1 rfl rfl ?_
    refine g_get (q := 86) C (h0).o.1 (celr_4 (h0).o.2) (ci := 4) (i := 1) rfl inlX4 (by decide) wm_2_20 rfl dX4_drawLots_83 rfl ?_
    refine g_iconst (q := 87) C dX4_drawLots_86 rfl ?_
    refine g_aald (q := 88) (r := k0 + 5) C ((h0).p).1 ((h0).p).2.1 ((h0).p).2.2 (by decide) (by decide) (isS.f h0 2) dX4_drawLots_87 rfl ?_
    refine g_iload (q := 90) C dX4_drawLots_88 rfl 5 rfl ?_
    refine g_iload_n (q := 91) C dX4_drawLots_90 rfl 0 rfl rfl ?_
    refine g_iload (q := 93) C dX4_drawLots_91 rfl 4 rfl ?_
    obtain ⟨hc, H⟩ := H
    refine g_irem (q := 94) C dX4_drawLots_93 rfl hc ?_
    obtain ⟨hc, H⟩ := H
    refine g_iast (q := 95) (m := 10) C (isS.r h0 2 (by decide)).1 (isS.r h0 2 (by decide)).2.1 (isS.r h0 2 (by decide)).2.2 hc (by decide) dX4_drawLots_94 rfl ?_
    refine g_topM (fun M94 hM94 => ?_)
    have H := H M94 hM94
    refine g_iload_n (q := 96) C dX4_drawLots_95 rfl 0 rfl rfl ?_
    obtain ⟨p96, hM, H⟩ := H
    refine g_callS (q := 99) (As := [vi r78]) (st := []) (na := 1) C mX4_nextLot hM wm_10_3 wm_10_4 wm_1_14 wm_10_5 (by decide +kernel) rfl rfl (by decide) rfl (Nat.le_of_ble_eq_true rfl) dX4_drawLots_96 rfl (fun r96 M96 hp => ?_)
    have H := H r96 M96 hp
    show Gx x 7 99 [(3, vi r78), (0, vr (xg x) k0), (1, vi v1), (4, vi v4), (5, vi v5), (6, vi v6)] [vi r96] M96
    refine g_istore_n (q := 100) (L2 := [(3, vi r96), (0, vr (xg x) k0), (1, vi v1), (4, vi v4), (5, vi v5), (6, vi v6)]) C dX4_drawLots_99 rfl rfl (by decide) rfl ?_
    refine g_aload_n (q := 101) C dX4_drawLots_100 rfl 1 rfl rfl ?_
    refine g_get (q := 104) C (h0).o.1 (celr_4 (h0).o.2) (ci := 4) (i := 1) rfl inlX4 (by decide) wm_2_20 rfl dX4_drawLots_101 rfl ?_
    refine g_iconst (q := 105) C dX4_drawLots_104 rfl ?_
    refine g_aald (q := 106) (r := k0 + 6) C ((h0).p).1 ((h0).p).2.1 ((h0).p).2.2 (by decide) (by decide) (isS.f h0 3) dX4_drawLots_105 rfl ?_
    refine g_iload (q := 108) C dX4_drawLots_106 rfl 5 rfl ?_
    refine g_iload_n (q := 109) C dX4_drawLots_108 rfl 0 rfl rfl ?_
    refine g_bipush (q := 111) C dX4_drawLots_109 rfl (by decide) ?_
    obtain ⟨hc, H⟩ := H
    refine g_irem (q := 112) C dX4_drawLots_111 rfl ⟨hc, by decide⟩ ?_
    refine g_iconst (q := 113) C dX4_drawLots_112 rfl ?_
    refine g_iadd (q := 114) C dX4_drawLots_113 rfl ?_
    obtain ⟨hc, H⟩ := H
    refine g_iast (q := 115) (m := 10) C (isS.r h0 3 (by decide)).1 (isS.r h0 3 (by decide)).2.1 (isS.r h0 3 (by decide)).2.2 hc (by decide) dX4_drawLots_114 rfl ?_
    refine g_topM (fun M114 hM114 => ?_)
    have H := H M114 hM114
    refine g_iinc (q := 118) (L2 := [(6, vi (v6 + 1)), (3, vi r96), (0, vr (xg x) k0), (1, vi v1), (4, vi v4), (5, vi v5)]) C dX4_drawLots_115 rfl 5 rfl (by decide) rfl ?_
    refine g_goto (t := 34) C dX4_drawLots_118 (by decide) ?_
    refine g_sub [2, 3, 1, 4, 5, 0] rfl ?_
    exact H
set_option maxRecDepth 10000 in
set_option maxHeartbeats 2000000 in
theorem X4_nextLot_0 {x : Xx} {post : Int → Mm → Prop} (C : Cx x mX4_nextLot) (hR : Rt x mX4_nextLot post)  (v0 : Int) (M : Mm) (H : (inR v0) ∧ ((0 ≤ v0 * 16807 ∧ v0 * 16807 < 9223372036854775808) ∧ (post ((v0 * 16807) % 2147483647) M))) : Gx x 1 0 [(0, vi v0)] [] M := by
  refine g_iload_n (q := 1) C dX4_nextLot_0 rfl 0 rfl rfl ?_
  obtain ⟨hc, H⟩ := H
  refine g_i2l (q := 2) C dX4_nextLot_1 rfl hc ?_
  refine g_ldc2 (q := 5) (z := 16807) C dX4_nextLot_2 rfl wc_10_6 ?_
  refine g_lmul (q := 6) C dX4_nextLot_5 rfl ?_
  refine g_ldc2 (q := 9) (z := 2147483647) C dX4_nextLot_6 rfl wc_10_7 ?_
  obtain ⟨hc, H⟩ := H
  refine g_lrem (q := 10) C dX4_nextLot_9 rfl ⟨hc, by decide⟩ ?_
  refine g_l2i (q := 11) C dX4_nextLot_10 rfl ?_
  exact g_iret C hR dX4_nextLot_11 rfl H
set_option maxRecDepth 10000 in
set_option maxHeartbeats 2000000 in
theorem X4_standTogether_0 {x : Xx} {post : Int → Mm → Prop} (C : Cx x mX4_standTogether) (hR : Rt x mX4_standTogether post) {k0 : Nat} (h0 : isS k0) (v1 v2 : Int) (M : Mm) (H : (inR v2 ∧ inR (M (k0 + 1) 4)) ∧ (v2 ≤ M (k0 + 1) 4 → (∀ w18 : Int, w18 = (M (k0 + 1) 3) → (Gx x 8 25 [(0, vr (xg x) k0), (1, vi v1), (2, vi v2), (3, vi w18), (4, vi 0), (5, vi v1)] [] M))) ∧ (¬ (v2 ≤ M (k0 + 1) 4) → (post 0 M))) : Gx x 8 0 [(0, vr (xg x) k0), (1, vi v1), (2, vi v2)] [] M := by
  refine g_iload_n (q := 1) C dX4_standTogether_0 rfl 2 rfl rfl ?_
  refine g_aload_n (q := 2) C dX4_standTogether_1 rfl 0 rfl rfl ?_
  refine g_get (q := 5) C (h0).o.1 (celr_4 (h0).o.2) (ci := 4) (i := 0) rfl inlX4 (by decide) wm_2_18 rfl dX4_standTogether_2 rfl ?_
  refine g_iconst (q := 6) C dX4_standTogether_5 rfl ?_
  refine g_iald (q := 7) (m := 6) C ((h0).b).1 ((h0).b).2.1 ((h0).b).2.2 (by decide) (by decide) dX4_standTogether_6 rfl ?_
  obtain ⟨hr, Ht, Hf⟩ := H
  refine g_icmp_le (q := 10) (t := 12) C dX4_standTogether_7 rfl (by decide) hr (fun hc => ?_) (fun hc => ?_)
  · have H := Ht hc
    refine g_aload_n (q := 13) C dX4_standTogether_12 rfl 0 rfl rfl ?_
    refine g_get (q := 16) C (h0).o.1 (celr_4 (h0).o.2) (ci := 4) (i := 0) rfl inlX4 (by decide) wm_2_18 rfl dX4_standTogether_13 rfl ?_
    refine g_iconst (q := 17) C dX4_standTogether_16 rfl ?_
    refine g_iald (q := 18) (m := 6) C ((h0).b).1 ((h0).b).2.1 ((h0).b).2.2 (by decide) (by decide) dX4_standTogether_17 rfl ?_
    refine g_topi (fun w18 hw18 => ?_)
    have H := H w18 hw18
    refine g_istore_n (q := 19) (L2 := [(3, vi w18), (0, vr (xg x) k0), (1, vi v1), (2, vi v2)]) C dX4_standTogether_18 rfl rfl (by decide) rfl ?_
    refine g_iconst (q := 20) C dX4_standTogether_19 rfl ?_
    refine g_istore (q := 22) (L2 := [(4, vi 0), (3, vi w18), (0, vr (xg x) k0), (1, vi v1), (2, vi v2)]) C dX4_standTogether_20 rfl (by decide) rfl ?_
    refine g_iload_n (q := 23) C dX4_standTogether_22 rfl 3 rfl rfl ?_
    refine g_istore (q := 25) (L2 := [(5, vi v1), (4, vi 0), (3, vi w18), (0, vr (xg x) k0), (1, vi v1), (2, vi v2)]) C dX4_standTogether_23 rfl (by decide) rfl ?_
    refine g_sub [3, 4, 5, 2, 1, 0] rfl ?_
    exact H
  · have H := Hf hc
    refine g_iconst (q := 11) C dX4_standTogether_10 rfl ?_
    exact g_zret C hR dX4_standTogether_11 rfl (by decide) H
set_option maxRecDepth 10000 in
set_option maxHeartbeats 2000000 in
theorem X4_standTogether_25 {x : Xx} {post : Int → Mm → Prop} (C : Cx x mX4_standTogether) (hR : Rt x mX4_standTogether post) {k0 : Nat} (h0 : isS k0) (v1 v2 v3 v4 v5 : Int) (M : Mm) (H : (inR v5 ∧ inR (v1 + v2)) ∧ (v1 + v2 ≤ v5 → ((inR (M (k0 + 1) 2)) ∧ (¬ (M (k0 + 1) 2 = 1) → ((0 ≤ v2 ∧ v2 < 31) ∧ (∀ w98 : Int, w98 = ((2 : Int) ^ v2.toNat) → (Gx x 8 103 [(0, vr (xg x) k0), (1, vi v1), (2, vi v2), (3, vi v3), (4, vi v4), (5, vi w98), (6, vi 0)] [] M)))) ∧ (M (k0 + 1) 2 = 1 → (Gx x 8 103 [(0, vr (xg x) k0), (1, vi v1), (2, vi v2), (3, vi v3), (4, vi v4), (5, vi 1), (6, vi 0)] [] M)))) ∧ (¬ (v1 + v2 ≤ v5) → ((0 ≤ v5 ∧ v5 < 10) ∧ ((inR (M (k0 + 4) v5)) ∧ (¬ (M (k0 + 4) v5 = 1) → ((0 ≤ v5 ∧ v5 < 10) ∧ (∀ w73 : Int, w73 = (v4 + (M (k0 + 3) v5)) → (Gx x 8 25 [(0, vr (xg x) k0), (1, vi v1), (2, vi v2), (3, vi v3), (4, vi w73), (5, vi (v5 + 1))] [] M)))) ∧ (M (k0 + 4) v5 = 1 → ((0 ≤ v5 ∧ v5 < 10) ∧ (∀ w57 : Int, w57 = (v3 - (M (k0 + 3) v5)) → (Gx x 8 25 [(0, vr (xg x) k0), (1, vi v1), (2, vi v2), (3, vi w57), (4, vi v4), (5, vi (v5 + 1))] [] M)))))))) : Gx x 8 25 [(0, vr (xg x) k0), (1, vi v1), (2, vi v2), (3, vi v3), (4, vi v4), (5, vi v5)] [] M := by
  refine g_iload (q := 27) C dX4_standTogether_25 rfl 5 rfl ?_
  refine g_iload_n (q := 28) C dX4_standTogether_27 rfl 1 rfl rfl ?_
  refine g_iload_n (q := 29) C dX4_standTogether_28 rfl 2 rfl rfl ?_
  refine g_iadd (q := 30) C dX4_standTogether_29 rfl ?_
  obtain ⟨hr, Ht, Hf⟩ := H
  refine g_icmp_ge (q := 33) (t := 81) C dX4_standTogether_30 rfl (by decide) hr (fun hc => ?_) (fun hc => ?_)
  · have H := Ht hc
    refine g_aload_n (q := 82) C dX4_standTogether_81 rfl 0 rfl rfl ?_
    refine g_get (q := 85) C (h0).o.1 (celr_4 (h0).o.2) (ci := 4) (i := 0) rfl inlX4 (by decide) wm_2_18 rfl dX4_standTogether_82 rfl ?_
    refine g_iconst (q := 86) C dX4_standTogether_85 rfl ?_
    refine g_iald (q := 87) (m := 6) C ((h0).b).1 ((h0).b).2.1 ((h0).b).2.2 (by decide) (by decide) dX4_standTogether_86 rfl ?_
    refine g_iconst (q := 88) C dX4_standTogether_87 rfl ?_
    obtain ⟨hr, Ht, Hf⟩ := H
    refine g_icmp_ne (q := 91) (t := 95) C dX4_standTogether_88 rfl (by decide) ⟨hr, by decide⟩ (fun hc => ?_) (fun hc => ?_)
    · have H := Ht hc
      refine g_iconst (q := 96) C dX4_standTogether_95 rfl ?_
      refine g_iload_n (q := 97) C dX4_standTogether_96 rfl 2 rfl rfl ?_
      obtain ⟨hc, H⟩ := H
      refine g_ishl (q := 98) C dX4_standTogether_97 rfl hc ?_
      refine g_topi (fun w98 hw98 => ?_)
      have H := H w98 hw98
      refine g_istore (q := 100) (L2 := [(5, vi w98), (0, vr (xg x) k0), (1, vi v1), (2, vi v2), (3, vi v3), (4, vi v4)]) C dX4_standTogether_98 rfl (by decide) rfl ?_
      refine g_iconst (q := 101) C dX4_standTogether_100 rfl ?_
      refine g_istore (q := 103) (L2 := [(6, vi 0), (5, vi w98), (0, vr (xg x) k0), (1, vi v1), (2, vi v2), (3, vi v3), (4, vi v4)]) C dX4_standTogether_101 rfl (by decide) rfl ?_
      refine g_sub [2, 3, 4, 5, 6, 1, 0] rfl ?_
      exact H
    · have H := Hf hc
      refine g_iconst (q := 92) C dX4_standTogether_91 rfl ?_
      refine g_goto (t := 98) C dX4_standTogether_92 (by decide) ?_
      refine g_istore (q := 100) (L2 := [(5, vi 1), (0, vr (xg x) k0), (1, vi v1), (2, vi v2), (3, vi v3), (4, vi v4)]) C dX4_standTogether_98 rfl (by decide) rfl ?_
      refine g_iconst (q := 101) C dX4_standTogether_100 rfl ?_
      refine g_istore (q := 103) (L2 := [(6, vi 0), (5, vi 1), (0, vr (xg x) k0), (1, vi v1), (2, vi v2), (3, vi v3), (4, vi v4)]) C dX4_standTogether_101 rfl (by decide) rfl ?_
      refine g_sub [2, 3, 4, 5, 6, 1, 0] rfl ?_
      exact H
  · have H := Hf hc
    refine g_aload_n (q := 34) C dX4_standTogether_33 rfl 0 rfl rfl ?_
    refine g_get (q := 37) C (h0).o.1 (celr_4 (h0).o.2) (ci := 4) (i := 1) rfl inlX4 (by decide) wm_2_20 rfl dX4_standTogether_34 rfl ?_
    refine g_iconst (q := 38) C dX4_standTogether_37 rfl ?_
    refine g_aald (q := 39) (r := k0 + 4) C ((h0).p).1 ((h0).p).2.1 ((h0).p).2.2 (by decide) (by decide) (isS.f h0 1) dX4_standTogether_38 rfl ?_
    refine g_iload (q := 41) C dX4_standTogether_39 rfl 5 rfl ?_
    obtain ⟨hc, H⟩ := H
    refine g_iald (q := 42) (m := 10) C (isS.r h0 1 (by decide)).1 (isS.r h0 1 (by decide)).2.1 (isS.r h0 1 (by decide)).2.2 hc (by decide) dX4_standTogether_41 rfl ?_
    refine g_iconst (q := 43) C dX4_standTogether_42 rfl ?_
    obtain ⟨hr, Ht, Hf⟩ := H
    refine g_icmp_ne (q := 46) (t := 61) C dX4_standTogether_43 rfl (by decide) ⟨hr, by decide⟩ (fun hc => ?_) (fun hc => ?_)
    · have H := Ht hc
      refine g_iload (q := 63) C dX4_standTogether_61 rfl 4 rfl ?_
      refine g_aload_n (q := 64) C dX4_standTogether_63 rfl 0 rfl rfl ?_
      refine g_get (q := 67) C (h0).o.1 (celr_4 (h0).o.2) (ci := 4) (i := 1) rfl inlX4 (by decide) wm_2_20 rfl dX4_standTogether_64 rfl ?_
      refine g_iconst (q := 68) C dX4_standTogether_67 rfl ?_
      refine g_aald (q := 69) (r := k0 + 3) C ((h0).p).1 ((h0).p).2.1 ((h0).p).2.2 (by decide) (by decide) (isS.f h0 0) dX4_standTogether_68 rfl ?_
      refine g_iload (q := 71) C dX4_standTogether_69 rfl 5 rfl ?_
      obtain ⟨hc, H⟩ := H
      refine g_iald (q := 72) (m := 10) C (isS.r h0 0 (by decide)).1 (isS.r h0 0 (by decide)).2.1 (isS.r h0 0 (by decide)).2.2 hc (by decide) dX4_standTogether_71 rfl ?_
      refine g_iadd (q := 73) C dX4_standTogether_72 rfl ?_
      refine g_topi (fun w73 hw73 => ?_)
      have H := H w73 hw73
      refine g_istore (q := 75) (L2 := [(4, vi w73), (0, vr (xg x) k0), (1, vi v1), (2, vi v2), (3, vi v3), (5, vi v5)]) C dX4_standTogether_73 rfl (by decide) rfl ?_
      refine g_iinc (q := 78) (L2 := [(5, vi (v5 + 1)), (4, vi w73), (0, vr (xg x) k0), (1, vi v1), (2, vi v2), (3, vi v3)]) C dX4_standTogether_75 rfl 5 rfl (by decide) rfl ?_
      refine g_goto (t := 25) C dX4_standTogether_78 (by decide) ?_
      refine g_sub [2, 3, 4, 5, 1, 0] rfl ?_
      exact H
    · have H := Hf hc
      refine g_iload_n (q := 47) C dX4_standTogether_46 rfl 3 rfl rfl ?_
      refine g_aload_n (q := 48) C dX4_standTogether_47 rfl 0 rfl rfl ?_
      refine g_get (q := 51) C (h0).o.1 (celr_4 (h0).o.2) (ci := 4) (i := 1) rfl inlX4 (by decide) wm_2_20 rfl dX4_standTogether_48 rfl ?_
      refine g_iconst (q := 52) C dX4_standTogether_51 rfl ?_
      refine g_aald (q := 53) (r := k0 + 3) C ((h0).p).1 ((h0).p).2.1 ((h0).p).2.2 (by decide) (by decide) (isS.f h0 0) dX4_standTogether_52 rfl ?_
      refine g_iload (q := 55) C dX4_standTogether_53 rfl 5 rfl ?_
      obtain ⟨hc, H⟩ := H
      refine g_iald (q := 56) (m := 10) C (isS.r h0 0 (by decide)).1 (isS.r h0 0 (by decide)).2.1 (isS.r h0 0 (by decide)).2.2 hc (by decide) dX4_standTogether_55 rfl ?_
      refine g_isub (q := 57) C dX4_standTogether_56 rfl ?_
      refine g_topi (fun w57 hw57 => ?_)
      have H := H w57 hw57
      refine g_istore_n (q := 58) (L2 := [(3, vi w57), (0, vr (xg x) k0), (1, vi v1), (2, vi v2), (4, vi v4), (5, vi v5)]) C dX4_standTogether_57 rfl rfl (by decide) rfl ?_
      refine g_goto (t := 75) C dX4_standTogether_58 (by decide) ?_
      refine g_iinc (q := 78) (L2 := [(5, vi (v5 + 1)), (3, vi w57), (0, vr (xg x) k0), (1, vi v1), (2, vi v2), (4, vi v4)]) C dX4_standTogether_75 rfl 5 rfl (by decide) rfl ?_
      refine g_goto (t := 25) C dX4_standTogether_78 (by decide) ?_
      refine g_sub [2, 3, 4, 1, 5, 0] rfl ?_
      exact H
set_option maxRecDepth 10000 in
set_option maxHeartbeats 2000000 in
theorem X4_standTogether_103 {x : Xx} {post : Int → Mm → Prop} (C : Cx x mX4_standTogether) (hR : Rt x mX4_standTogether post) {k0 : Nat} (h0 : isS k0) (v1 v2 v3 v4 v5 v6 : Int) (M : Mm) (H : (inR v6 ∧ inR v5) ∧ (v5 ≤ v6 → (post 0 M)) ∧ (¬ (v5 ≤ v6) → (∃ p115 : Int → Mm → Prop, Ct (xl x) (xg x) mX4_heightsChosen [vr (xg x) k0, vi v1, vi v2, vi v6] M p115 ∧ ∀ (r115 : Int) (M115 : Mm), p115 r115 M115 → ((inR r115 ∧ inR v3) ∧ (v3 < r115 → (Gx x 8 103 [(0, vr (xg x) k0), (1, vi v1), (2, vi v2), (3, vi v3), (4, vi v4), (5, vi v5), (6, vi (v6 + 1))] [] M115)) ∧ (¬ (v3 < r115) → ((inR (v4 - r115) ∧ inR v3) ∧ (v3 < v4 - r115 → (Gx x 8 103 [(0, vr (xg x) k0), (1, vi v1), (2, vi v2), (3, vi v3), (4, vi v4), (5, vi v5), (6, vi (v6 + 1))] [] M115)) ∧ (¬ (v3 < v4 - r115) → (post 1 M115)))))))) : Gx x 8 103 [(0, vr (xg x) k0), (1, vi v1), (2, vi v2), (3, vi v3), (4, vi v4), (5, vi v5), (6, vi v6)] [] M := by
  refine g_iload (q := 105) C dX4_standTogether_103 rfl 6 rfl ?_
  refine g_iload (q := 107) C dX4_standTogether_105 rfl 5 rfl ?_
  obtain ⟨hr, Ht, Hf⟩ := H
  refine g_icmp_ge (q := 110) (t := 143) C dX4_standTogether_107 rfl (by decide) hr (fun hc => ?_) (fun hc => ?_)
  · have H := Ht hc
    refine g_iconst (q := 144) C dX4_standTogether_143 rfl ?_
    exact g_zret C hR dX4_standTogether_144 rfl (by decide) H
  · have H := Hf hc
    refine g_aload_n (q := 111) C dX4_standTogether_110 rfl 0 rfl rfl ?_
    refine g_iload_n (q := 112) C dX4_standTogether_111 rfl 1 rfl rfl ?_
    refine g_iload_n (q := 113) C dX4_standTogether_112 rfl 2 rfl rfl ?_
    refine g_iload (q := 115) C dX4_standTogether_113 rfl 6 rfl ?_
    obtain ⟨p115, hM, H⟩ := H
    refine g_callV (q := 118) (As := [vi v1, vi v2, vi v6]) (st := []) (na := 3) C mX4_heightsChosen (h0).o.1 (celr_4 (h0).o.2) rfl hM wm_11_10 wm_11_11 wm_11_12 wm_1_14 wm_11_13 (by decide +kernel) rfl rfl (by decide) rfl (Nat.le_of_ble_eq_true rfl) dX4_standTogether_115 rfl (fun r115 M115 hp => ?_)
    have H := H r115 M115 hp
    show Gx x 8 118 [(0, vr (xg x) k0), (1, vi v1), (2, vi v2), (3, vi v3), (4, vi v4), (5, vi v5), (6, vi v6)] [vi r115] M115
    refine g_istore (q := 120) (L2 := [(7, vi r115), (0, vr (xg x) k0), (1, vi v1), (2, vi v2), (3, vi v3), (4, vi v4), (5, vi v5), (6, vi v6)]) C dX4_standTogether_118 rfl (by decide) rfl ?_
    refine g_iload (q := 122) C dX4_standTogether_120 rfl 0 rfl ?_
    refine g_iload_n (q := 123) C dX4_standTogether_122 rfl 4 rfl rfl ?_
    obtain ⟨hr, Ht, Hf⟩ := H
    refine g_icmp_gt (q := 126) (t := 137) C dX4_standTogether_123 rfl (by decide) hr (fun hc => ?_) (fun hc => ?_)
    · have H := Ht hc
      refine g_iinc (q := 140) (L2 := [(6, vi (v6 + 1)), (7, vi r115), (0, vr (xg x) k0), (1, vi v1), (2, vi v2), (3, vi v3), (4, vi v4), (5, vi v5)]) C dX4_standTogether_137 rfl 7 rfl (by decide) rfl ?_
      refine g_goto (t := 103) C dX4_standTogether_140 (by decide) ?_
      refine g_sub [2, 3, 4, 5, 6, 7, 0] rfl ?_
      exact H
    · have H := Hf hc
      refine g_iload (q := 128) C dX4_standTogether_126 rfl 5 rfl ?_
      refine g_iload (q := 130) C dX4_standTogether_128 rfl 0 rfl ?_
      refine g_isub (q := 131) C dX4_standTogether_130 rfl ?_
      refine g_iload_n (q := 132) C dX4_standTogether_131 rfl 4 rfl rfl ?_
      obtain ⟨hr, Ht, Hf⟩ := H
      refine g_icmp_gt (q := 135) (t := 137) C dX4_standTogether_132 rfl (by decide) hr (fun hc => ?_) (fun hc => ?_)
      · have H := Ht hc
        refine g_iinc (q := 140) (L2 := [(6, vi (v6 + 1)), (7, vi r115), (0, vr (xg x) k0), (1, vi v1), (2, vi v2), (3, vi v3), (4, vi v4), (5, vi v5)]) C dX4_standTogether_137 rfl 7 rfl (by decide) rfl ?_
        refine g_goto (t := 103) C dX4_standTogether_140 (by decide) ?_
        refine g_sub [2, 3, 4, 5, 6, 7, 0] rfl ?_
        exact H
      · have H := Hf hc
        refine g_iconst (q := 136) C dX4_standTogether_135 rfl ?_
        exact g_zret C hR dX4_standTogether_136 rfl (by decide) H
set_option maxRecDepth 10000 in
set_option maxHeartbeats 2000000 in
theorem X4_heightsChosen_0 {x : Xx} {post : Int → Mm → Prop} (C : Cx x mX4_heightsChosen) (hR : Rt x mX4_heightsChosen post) {k0 : Nat} (h0 : isS k0) (v1 v2 v3 : Int) (M : Mm) (H : Gx x 6 6 [(0, vr (xg x) k0), (1, vi v1), (2, vi v2), (3, vi v3), (4, vi 0), (5, vi 0)] [] M) : Gx x 6 0 [(0, vr (xg x) k0), (1, vi v1), (2, vi v2), (3, vi v3)] [] M := by
  refine g_iconst (q := 1) C dX4_heightsChosen_0 rfl ?_
  refine g_istore (q := 3) (L2 := [(4, vi 0), (0, vr (xg x) k0), (1, vi v1), (2, vi v2), (3, vi v3)]) C dX4_heightsChosen_1 rfl (by decide) rfl ?_
  refine g_iconst (q := 4) C dX4_heightsChosen_3 rfl ?_
  refine g_istore (q := 6) (L2 := [(5, vi 0), (4, vi 0), (0, vr (xg x) k0), (1, vi v1), (2, vi v2), (3, vi v3)]) C dX4_heightsChosen_4 rfl (by decide) rfl ?_
  refine g_sub [2, 3, 4, 5, 1, 0] rfl ?_
  exact H
set_option maxRecDepth 10000 in
set_option maxHeartbeats 2000000 in
theorem X4_heightsChosen_6 {x : Xx} {post : Int → Mm → Prop} (C : Cx x mX4_heightsChosen) (hR : Rt x mX4_heightsChosen post) {k0 : Nat} (h0 : isS k0) (v1 v2 v3 v4 v5 : Int) (M : Mm) (H : (inR v5 ∧ inR v2) ∧ (v2 ≤ v5 → (post v4 M)) ∧ (¬ (v2 ≤ v5) → (((0 ≤ v3 ∧ v3 < 2147483648) ∧ (0 ≤ v5 ∧ v5 < 31)) ∧ ((inR ((v3 / 2 ^ v5.toNat) % 2)) ∧ (¬ ((v3 / 2 ^ v5.toNat) % 2 = 1) → (Gx x 6 6 [(0, vr (xg x) k0), (1, vi v1), (2, vi v2), (3, vi v3), (4, vi v4), (5, vi (v5 + 1))] [] M)) ∧ ((v3 / 2 ^ v5.toNat) % 2 = 1 → ((0 ≤ v1 + v5 ∧ v1 + v5 < 10) ∧ ((inR (M (k0 + 4) (v1 + v5))) ∧ (¬ (M (k0 + 4) (v1 + v5) = 0) → (Gx x 6 6 [(0, vr (xg x) k0), (1, vi v1), (2, vi v2), (3, vi v3), (4, vi v4), (5, vi (v5 + 1))] [] M)) ∧ (M (k0 + 4) (v1 + v5) = 0 → ((0 ≤ v1 + v5 ∧ v1 + v5 < 10) ∧ (∀ w50 : Int, w50 = (v4 + (M (k0 + 3) (v1 + v5))) → (Gx x 6 6 [(0, vr (xg x) k0), (1, vi v1), (2, vi v2), (3, vi v3), (4, vi w50), (5, vi (v5 + 1))] [] M))))))))))) : Gx x 6 6 [(0, vr (xg x) k0), (1, vi v1), (2, vi v2), (3, vi v3), (4, vi v4), (5, vi v5)] [] M := by
  refine g_iload (q := 8) C dX4_heightsChosen_6 rfl 5 rfl ?_
  refine g_iload_n (q := 9) C dX4_heightsChosen_8 rfl 2 rfl rfl ?_
  obtain ⟨hr, Ht, Hf⟩ := H
  refine g_icmp_ge (q := 12) (t := 58) C dX4_heightsChosen_9 rfl (by decide) hr (fun hc => ?_) (fun hc => ?_)
  · have H := Ht hc
    refine g_iload (q := 60) C dX4_heightsChosen_58 rfl 4 rfl ?_
    exact g_iret C hR dX4_heightsChosen_60 rfl H
  · have H := Hf hc
    refine g_iload_n (q := 13) C dX4_heightsChosen_12 rfl 3 rfl rfl ?_
    refine g_iload (q := 15) C dX4_heightsChosen_13 rfl 5 rfl ?_
    obtain ⟨hc, H⟩ := H
    refine g_ishr (q := 16) C dX4_heightsChosen_15 rfl hc ?_
    refine g_iconst (q := 17) C dX4_heightsChosen_16 rfl ?_
    refine g_iand (q := 18) (p := 2) C dX4_heightsChosen_17 rfl 1 (by decide) (by decide) ?_
    refine g_iconst (q := 19) C dX4_heightsChosen_18 rfl ?_
    obtain ⟨hr, Ht, Hf⟩ := H
    refine g_icmp_ne (q := 22) (t := 52) C dX4_heightsChosen_19 rfl (by decide) ⟨hr, by decide⟩ (fun hc => ?_) (fun hc => ?_)
    · have H := Ht hc
      refine g_iinc (q := 55) (L2 := [(5, vi (v5 + 1)), (0, vr (xg x) k0), (1, vi v1), (2, vi v2), (3, vi v3), (4, vi v4)]) C dX4_heightsChosen_52 rfl 5 rfl (by decide) rfl ?_
      refine g_goto (t := 6) C dX4_heightsChosen_55 (by decide) ?_
      refine g_sub [1, 2, 3, 4, 5, 0] rfl ?_
      exact H
    · have H := Hf hc
      refine g_aload_n (q := 23) C dX4_heightsChosen_22 rfl 0 rfl rfl ?_
      refine g_get (q := 26) C (h0).o.1 (celr_4 (h0).o.2) (ci := 4) (i := 1) rfl inlX4 (by decide) wm_2_20 rfl dX4_heightsChosen_23 rfl ?_
      refine g_iconst (q := 27) C dX4_heightsChosen_26 rfl ?_
      refine g_aald (q := 28) (r := k0 + 4) C ((h0).p).1 ((h0).p).2.1 ((h0).p).2.2 (by decide) (by decide) (isS.f h0 1) dX4_heightsChosen_27 rfl ?_
      refine g_iload_n (q := 29) C dX4_heightsChosen_28 rfl 1 rfl rfl ?_
      refine g_iload (q := 31) C dX4_heightsChosen_29 rfl 5 rfl ?_
      refine g_iadd (q := 32) C dX4_heightsChosen_31 rfl ?_
      obtain ⟨hc, H⟩ := H
      refine g_iald (q := 33) (m := 10) C (isS.r h0 1 (by decide)).1 (isS.r h0 1 (by decide)).2.1 (isS.r h0 1 (by decide)).2.2 hc (by decide) dX4_heightsChosen_32 rfl ?_
      obtain ⟨hr, Ht, Hf⟩ := H
      refine g_if_ne (q := 36) (t := 52) C dX4_heightsChosen_33 rfl (by decide) hr (fun hc => ?_) (fun hc => ?_)
      · have H := Ht hc
        refine g_iinc (q := 55) (L2 := [(5, vi (v5 + 1)), (0, vr (xg x) k0), (1, vi v1), (2, vi v2), (3, vi v3), (4, vi v4)]) C dX4_heightsChosen_52 rfl 5 rfl (by decide) rfl ?_
        refine g_goto (t := 6) C dX4_heightsChosen_55 (by decide) ?_
        refine g_sub [1, 2, 3, 4, 5, 0] rfl ?_
        exact H
      · have H := Hf hc
        refine g_iload (q := 38) C dX4_heightsChosen_36 rfl 4 rfl ?_
        refine g_aload_n (q := 39) C dX4_heightsChosen_38 rfl 0 rfl rfl ?_
        refine g_get (q := 42) C (h0).o.1 (celr_4 (h0).o.2) (ci := 4) (i := 1) rfl inlX4 (by decide) wm_2_20 rfl dX4_heightsChosen_39 rfl ?_
        refine g_iconst (q := 43) C dX4_heightsChosen_42 rfl ?_
        refine g_aald (q := 44) (r := k0 + 3) C ((h0).p).1 ((h0).p).2.1 ((h0).p).2.2 (by decide) (by decide) (isS.f h0 0) dX4_heightsChosen_43 rfl ?_
        refine g_iload_n (q := 45) C dX4_heightsChosen_44 rfl 1 rfl rfl ?_
        refine g_iload (q := 47) C dX4_heightsChosen_45 rfl 5 rfl ?_
        refine g_iadd (q := 48) C dX4_heightsChosen_47 rfl ?_
        obtain ⟨hc, H⟩ := H
        refine g_iald (q := 49) (m := 10) C (isS.r h0 0 (by decide)).1 (isS.r h0 0 (by decide)).2.1 (isS.r h0 0 (by decide)).2.2 hc (by decide) dX4_heightsChosen_48 rfl ?_
        refine g_iadd (q := 50) C dX4_heightsChosen_49 rfl ?_
        refine g_topi (fun w50 hw50 => ?_)
        have H := H w50 hw50
        refine g_istore (q := 52) (L2 := [(4, vi w50), (0, vr (xg x) k0), (1, vi v1), (2, vi v2), (3, vi v3), (5, vi v5)]) C dX4_heightsChosen_50 rfl (by decide) rfl ?_
        refine g_iinc (q := 55) (L2 := [(5, vi (v5 + 1)), (4, vi w50), (0, vr (xg x) k0), (1, vi v1), (2, vi v2), (3, vi v3)]) C dX4_heightsChosen_52 rfl 5 rfl (by decide) rfl ?_
        refine g_goto (t := 6) C dX4_heightsChosen_55 (by decide) ?_
        refine g_sub [2, 3, 4, 5, 1, 0] rfl ?_
        exact H
set_option maxRecDepth 10000 in
set_option maxHeartbeats 2000000 in
theorem J7_fill_53178_0 {x : Xx} {post : Int → Mm → Prop} (C : Cx x mJ7_fill_53178) (hR : Rt x mJ7_fill_53178 post) {k0 m0 : Nat} (h0 : isA k0 m0) (v1 : Int) (M : Mm) (H : ∀ w4 : Int, w4 = (m0 : Int) → (Gx x 4 5 [(0, vr (xg x) k0), (1, vi v1), (2, vi 0), (3, vi w4)] [] M)) : Gx x 4 0 [(0, vr (xg x) k0), (1, vi v1)] [] M := by
  refine g_iconst (q := 1) C dJ7_fill_53178_0 rfl ?_
  refine g_istore_n (q := 2) (L2 := [(2, vi 0), (0, vr (xg x) k0), (1, vi v1)]) C dJ7_fill_53178_1 rfl rfl (by decide) rfl ?_
  refine g_aload_n (q := 3) C dJ7_fill_53178_2 rfl 1 rfl rfl ?_
  refine g_alen (q := 4) (m := m0) C (h0).1 (h0).2.1 (h0).2.2.1 dJ7_fill_53178_3 rfl ?_
  refine g_topi (fun w4 hw4 => ?_)
  have H := H w4 hw4
  refine g_istore_n (q := 5) (L2 := [(3, vi w4), (2, vi 0), (0, vr (xg x) k0), (1, vi v1)]) C dJ7_fill_53178_4 rfl rfl (by decide) rfl ?_
  refine g_sub [2, 3, 1, 0] rfl ?_
  exact H
set_option maxRecDepth 10000 in
set_option maxHeartbeats 2000000 in
theorem J7_fill_53178_5 {x : Xx} {post : Int → Mm → Prop} (C : Cx x mJ7_fill_53178) (hR : Rt x mJ7_fill_53178 post) {k0 m0 : Nat} (h0 : isA k0 m0) (v1 v2 v3 : Int) (M : Mm) (H : (inR v2 ∧ inR v3) ∧ (v3 ≤ v2 → (post 0 M)) ∧ (¬ (v3 ≤ v2) → ((0 ≤ v2 ∧ v2 < (m0 : Int)) ∧ (∀ M13 : Mm, M13 = mu M k0 v2 v1 → (Gx x 4 5 [(0, vr (xg x) k0), (1, vi v1), (2, vi (v2 + 1)), (3, vi v3)] [] M13))))) : Gx x 4 5 [(0, vr (xg x) k0), (1, vi v1), (2, vi v2), (3, vi v3)] [] M := by
  refine g_iload_n (q := 6) C dJ7_fill_53178_5 rfl 2 rfl rfl ?_
  refine g_iload_n (q := 7) C dJ7_fill_53178_6 rfl 3 rfl rfl ?_
  obtain ⟨hr, Ht, Hf⟩ := H
  refine g_icmp_ge (q := 10) (t := 20) C dJ7_fill_53178_7 rfl (by decide) hr (fun hc => ?_) (fun hc => ?_)
  · have H := Ht hc
    exact g_ret C hR dJ7_fill_53178_20 rfl H
  · have H := Hf hc
    refine g_aload_n (q := 11) C dJ7_fill_53178_10 rfl 0 rfl rfl ?_
    refine g_iload_n (q := 12) C dJ7_fill_53178_11 rfl 2 rfl rfl ?_
    refine g_iload_n (q := 13) C dJ7_fill_53178_12 rfl 1 rfl rfl ?_
    obtain ⟨hc, H⟩ := H
    refine g_iast (q := 14) (m := m0) C (h0).1 (h0).2.1 (h0).2.2.1 hc (h0).lt dJ7_fill_53178_13 rfl ?_
    refine g_topM (fun M13 hM13 => ?_)
    have H := H M13 hM13
    refine g_iinc (q := 17) (L2 := [(2, vi (v2 + 1)), (0, vr (xg x) k0), (1, vi v1), (3, vi v3)]) C dJ7_fill_53178_14 rfl 2 rfl (by decide) rfl ?_
    refine g_goto (t := 5) C dJ7_fill_53178_17 (by decide) ?_
    refine g_sub [1, 2, 0, 3] rfl ?_
    exact H
