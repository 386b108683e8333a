set_option maxRecDepth 10000 in
set_option maxHeartbeats 2000000 in
theorem X1_take_0 {x : Xx} {post : Int → Mm → Prop} (C : Cx x mX1_take) (hR : Rt x mX1_take post) {k0 : Nat} (h0 : isMe k0) {k1 : Nat} (h1 : isS k1) (M : Mm) (H : ∀ w6 : Int, w6 = (M (k1 + 1) 2) → (∀ M14 : Mm, M14 = mu M k0 0 (M (k1 + 1) 0) → (∀ M22 : Mm, M22 = mu M14 k0 1 (M14 k1 2) → (∀ M34 : Mm, M34 = mu M22 k0 2 (w6 * (M22 (k1 + 1) 1)) → ((inR (M34 (k1 + 1) 5)) ∧ (¬ (M34 (k1 + 1) 5 = 1) → (∀ M53 : Mm, M53 = mu M34 k0 3 0 → (∀ M58 : Mm, M58 = mu M53 k0 4 (-1) → (Gx x 4 63 [(0, vr (xg x) k0), (1, vr (xg x) k1), (2, vi w6), (3, vi 0)] [] M58)))) ∧ (M34 (k1 + 1) 5 = 1 → (∀ M53 : Mm, M53 = mu M34 k0 3 1 → (∀ M58 : Mm, M58 = mu M53 k0 4 (-1) → (Gx x 4 63 [(0, vr (xg x) k0), (1, vr (xg x) k1), (2, vi w6), (3, vi 0)] [] M58))))))))) : Gx x 4 0 [(0, vr (xg x) k0), (1, vr (xg x) k1)] [] M := by
  refine g_aload_n (q := 1) C dX1_take_0 rfl 1 rfl rfl ?_
  refine g_getN (q := 4) C (h1).o.1 (celr_4 (h1).o.2) (ci := 4) (i := 0) rfl inlX4 (by decide) (by decide +kernel) rfl dX1_take_1 rfl ?_
  refine g_iconst (q := 5) C dX1_take_4 rfl ?_
  refine g_iald (q := 6) (m := 6) C ((h1).b).1 ((h1).b).2.1 ((h1).b).2.2 (by decide) (by decide) dX1_take_5 rfl ?_
  refine g_topi (fun w6 hw6 => ?_)
  have H := H w6 hw6
  refine g_istore_n (q := 7) (L2 := [(2, vi w6), (0, vr (xg x) k0), (1, vr (xg x) k1)]) C dX1_take_6 rfl rfl (by decide) rfl ?_
  refine g_aload_n (q := 8) C dX1_take_7 rfl 1 rfl rfl ?_
  refine g_aload_n (q := 9) C dX1_take_8 rfl 2 rfl rfl ?_
  refine g_getN (q := 12) C (h1).o.1 (celr_4 (h1).o.2) (ci := 4) (i := 0) rfl inlX4 (by decide) (by decide +kernel) rfl dX1_take_9 rfl ?_
  refine g_iconst (q := 13) C dX1_take_12 rfl ?_
  refine g_iald (q := 14) (m := 6) C ((h1).b).1 ((h1).b).2.1 ((h1).b).2.2 (by decide) (by decide) dX1_take_13 rfl ?_
  refine g_put (q := 17) (ty := .int) C (h0).o.1 (celr_1 (h0).o.2) (ci := 1) (i := 0) rfl inlX1 tyX1_ok nmX1 (by decide) wm_10_21 rfl rfl rfl rfl (Nat.le_of_ble_eq_true rfl) (by rw [celr_1 (h0).o.2]; rfl) dX1_take_14 rfl ?_
  refine g_topM (fun M14 hM14 => ?_)
  have H := H M14 hM14
  refine g_aload_n (q := 18) C dX1_take_17 rfl 1 rfl rfl ?_
  refine g_aload_n (q := 19) C dX1_take_18 rfl 2 rfl rfl ?_
  refine g_getN (q := 22) C (h1).o.1 (celr_4 (h1).o.2) (ci := 4) (i := 2) rfl inlX4 (by decide) (by decide +kernel) rfl dX1_take_19 rfl ?_
  refine g_put (q := 25) (ty := .int) C (h0).o.1 (celr_1 (h0).o.2) (ci := 1) (i := 1) rfl inlX1 tyX1_ok nmX1 (by decide) wm_10_22 rfl rfl rfl rfl (Nat.le_of_ble_eq_true rfl) (by rw [celr_1 (h0).o.2]; rfl) dX1_take_22 rfl ?_
  refine g_topM (fun M22 hM22 => ?_)
  have H := H M22 hM22
  refine g_aload_n (q := 26) C dX1_take_25 rfl 1 rfl rfl ?_
  refine g_iload_n (q := 27) C dX1_take_26 rfl 0 rfl rfl ?_
  refine g_aload_n (q := 28) C dX1_take_27 rfl 2 rfl rfl ?_
  refine g_getN (q := 31) C (h1).o.1 (celr_4 (h1).o.2) (ci := 4) (i := 0) rfl inlX4 (by decide) (by decide +kernel) rfl dX1_take_28 rfl ?_
  refine g_iconst (q := 32) C dX1_take_31 rfl ?_
  refine g_iald (q := 33) (m := 6) C ((h1).b).1 ((h1).b).2.1 ((h1).b).2.2 (by decide) (by decide) dX1_take_32 rfl ?_
  refine g_imul (q := 34) C dX1_take_33 rfl ?_
  refine g_put (q := 37) (ty := .int) C (h0).o.1 (celr_1 (h0).o.2) (ci := 1) (i := 2) rfl inlX1 tyX1_ok nmX1 (by decide) wm_10_23 rfl rfl rfl rfl (Nat.le_of_ble_eq_true rfl) (by rw [celr_1 (h0).o.2]; rfl) dX1_take_34 rfl ?_
  refine g_topM (fun M34 hM34 => ?_)
  have H := H M34 hM34
  refine g_aload_n (q := 38) C dX1_take_37 rfl 1 rfl rfl ?_
  refine g_aload_n (q := 39) C dX1_take_38 rfl 2 rfl rfl ?_
  refine g_getN (q := 42) C (h1).o.1 (celr_4 (h1).o.2) (ci := 4) (i := 0) rfl inlX4 (by decide) (by decide +kernel) rfl dX1_take_39 rfl ?_
  refine g_iconst (q := 43) C dX1_take_42 rfl ?_
  refine g_iald (q := 44) (m := 6) C ((h1).b).1 ((h1).b).2.1 ((h1).b).2.2 (by decide) (by decide) dX1_take_43 rfl ?_
  refine g_iconst (q := 45) C dX1_take_44 rfl ?_
  obtain ⟨hr, Ht, Hf⟩ := H
  refine g_icmp_ne (q := 48) (t := 52) C dX1_take_45 rfl (by decide) ⟨hr, by decide⟩ (fun hc => ?_) (fun hc => ?_)
  · have H := Ht hc
    refine g_iconst (q := 53) C dX1_take_52 rfl ?_
    refine g_put (q := 56) (ty := .boolean) C (h0).o.1 (celr_1 (h0).o.2) (ci := 1) (i := 3) rfl inlX1 tyX1_ok nmX1 (by decide) wm_11_0 rfl rfl (by decide) rfl (Nat.le_of_ble_eq_true rfl) (by rw [celr_1 (h0).o.2]; rfl) dX1_take_53 rfl ?_
    refine g_topM (fun M53 hM53 => ?_)
    have H := H M53 hM53
    refine g_aload_n (q := 57) C dX1_take_56 rfl 1 rfl rfl ?_
    refine g_iconst (q := 58) C dX1_take_57 rfl ?_
    refine g_put (q := 61) (ty := .int) C (h0).o.1 (celr_1 (h0).o.2) (ci := 1) (i := 4) rfl inlX1 tyX1_ok nmX1 (by decide) wm_11_1 rfl rfl rfl rfl (Nat.le_of_ble_eq_true rfl) (by rw [celr_1 (h0).o.2]; rfl) dX1_take_58 rfl ?_
    refine g_topM (fun M58 hM58 => ?_)
    have H := H M58 hM58
    refine g_iconst (q := 62) C dX1_take_61 rfl ?_
    refine g_istore_n (q := 63) (L2 := [(3, vi 0), (2, vi w6), (0, vr (xg x) k0), (1, vr (xg x) k1)]) C dX1_take_62 rfl rfl (by decide) rfl ?_
    refine g_sub [2, 3, 1, 0] rfl ?_
    exact H
  · have H := Hf hc
    refine g_iconst (q := 49) C dX1_take_48 rfl ?_
    refine g_goto (t := 53) C dX1_take_49 (by decide) ?_
    refine g_put (q := 56) (ty := .boolean) C (h0).o.1 (celr_1 (h0).o.2) (ci := 1) (i := 3) rfl inlX1 tyX1_ok nmX1 (by decide) wm_11_0 rfl rfl (by decide) rfl (Nat.le_of_ble_eq_true rfl) (by rw [celr_1 (h0).o.2]; rfl) dX1_take_53 rfl ?_
    refine g_topM (fun M53 hM53 => ?_)
    have H := H M53 hM53
    refine g_aload_n (q := 57) C dX1_take_56 rfl 1 rfl rfl ?_
    refine g_iconst (q := 58) C dX1_take_57 rfl ?_
    refine g_put (q := 61) (ty := .int) C (h0).o.1 (celr_1 (h0).o.2) (ci := 1) (i := 4) rfl inlX1 tyX1_ok nmX1 (by decide) wm_11_1 rfl rfl rfl rfl (Nat.le_of_ble_eq_true rfl) (by rw [celr_1 (h0).o.2]; rfl) dX1_take_58 rfl ?_
    refine g_topM (fun M58 hM58 => ?_)
    have H := H M58 hM58
    refine g_iconst (q := 62) C dX1_take_61 rfl ?_
    refine g_istore_n (q := 63) (L2 := [(3, vi 0), (2, vi w6), (0, vr (xg x) k0), (1, vr (xg x) k1)]) C dX1_take_62 rfl rfl (by decide) rfl ?_
    refine g_sub [2, 3, 1, 0] rfl ?_
    exact H
set_option maxRecDepth 10000 in
set_option maxHeartbeats 2000000 in
theorem X1_take_63 {x : Xx} {post : Int → Mm → Prop} (C : Cx x mX1_take) (hR : Rt x mX1_take post) {k0 : Nat} (h0 : isMe k0) {k1 : Nat} (h1 : isS k1) (v2 v3 : Int) (M : Mm) (H : (inR v3 ∧ inR (M k0 1)) ∧ (M k0 1 ≤ v3 → ((0 ≤ M k0 1 ∧ M k0 1 < 11) ∧ (∀ M197 : Mm, M197 = mu M (k0 + 3) (M k0 1) 0 → (post 0 M197)))) ∧ (¬ (M k0 1 ≤ v3) → ((0 ≤ v3 ∧ v3 < 10) ∧ ((inR (M (k1 + 5) v3) ∧ inR ((M k0 0) - 1)) ∧ ((0 ≤ v3 ∧ v3 < 10) ∧ (∀ M93 : Mm, M93 = mu M (k0 + 1) v3 (if (M k0 0) - 1 < M (k1 + 5) v3 then (M k0 0) - 1 else M (k1 + 5) v3) → ((0 ≤ v3 ∧ v3 < 10) ∧ ((0 ≤ v3 ∧ v3 < 10) ∧ (∀ M107 : Mm, M107 = mu M93 (k0 + 2) v3 (M93 (k1 + 6) v3) → ((0 ≤ v3 ∧ v3 < 11) ∧ ((0 ≤ v3 ∧ v3 < 10) ∧ ((0 ≤ v3 ∧ v3 < 10) ∧ ((inR (M107 (k1 + 4) v3)) ∧ (¬ (M107 (k1 + 4) v3 = 1) → (Gx x 4 146 [(0, vr (xg x) k0), (1, vr (xg x) k1), (2, vi v2), (3, vi v3)] [vi 1, vi (M107 (k1 + 3) v3), vi (M107 (k0 + 4) v3), vi (v3 + 1), vr (xg x) (k0 + 4)] M107)) ∧ (M107 (k1 + 4) v3 = 1 → (Gx x 4 146 [(0, vr (xg x) k0), (1, vr (xg x) k1), (2, vi v2), (3, vi v3)] [vi v2, vi (M107 (k1 + 3) v3), vi (M107 (k0 + 4) v3), vi (v3 + 1), vr (xg x) (k0 + 4)] M107))))))))))))))) : Gx x 4 63 [(0, vr (xg x) k0), (1, vr (xg x) k1), (2, vi v2), (3, vi v3)] [] M := by
  refine g_iload_n (q := 64) C dX1_take_63 rfl 3 rfl rfl ?_
  refine g_aload_n (q := 65) C dX1_take_64 rfl 0 rfl rfl ?_
  refine g_get (q := 68) C (h0).o.1 (celr_1 (h0).o.2) (ci := 1) (i := 1) rfl inlX1 (by decide) wm_10_22 rfl dX1_take_65 rfl ?_
  obtain ⟨hr, Ht, Hf⟩ := H
  refine g_icmp_ge (q := 71) (t := 188) C dX1_take_68 rfl (by decide) hr (fun hc => ?_) (fun hc => ?_)
  · have H := Ht hc
    refine g_aload_n (q := 189) C dX1_take_188 rfl 0 rfl rfl ?_
    refine g_get (q := 192) C (h0).o.1 (celr_1 (h0).o.2) (ci := 1) (i := 7) rfl inlX1 (by decide) wm_3_23 rfl dX1_take_189 rfl ?_
    refine g_aload_n (q := 193) C dX1_take_192 rfl 0 rfl rfl ?_
    refine g_get (q := 196) C (h0).o.1 (celr_1 (h0).o.2) (ci := 1) (i := 1) rfl inlX1 (by decide) wm_10_22 rfl dX1_take_193 rfl ?_
    refine g_iconst (q := 197) C dX1_take_196 rfl ?_
    obtain ⟨hc, H⟩ := H
    refine g_iast (q := 198) (m := 11) C ((h0).a3).1 ((h0).a3).2.1 ((h0).a3).2.2 hc (by decide) dX1_take_197 rfl ?_
    refine g_topM (fun M197 hM197 => ?_)
    have H := H M197 hM197
    exact g_ret C hR dX1_take_198 rfl H
  · have H := Hf hc
    refine g_aload_n (q := 72) C dX1_take_71 rfl 0 rfl rfl ?_
    refine g_get (q := 75) C (h0).o.1 (celr_1 (h0).o.2) (ci := 1) (i := 5) rfl inlX1 (by decide) wm_3_21 rfl dX1_take_72 rfl ?_
    refine g_iload_n (q := 76) C dX1_take_75 rfl 3 rfl rfl ?_
    refine g_aload_n (q := 77) C dX1_take_76 rfl 1 rfl rfl ?_
    refine g_getN (q := 80) C (h1).o.1 (celr_4 (h1).o.2) (ci := 4) (i := 1) rfl inlX4 (by decide) (by decide +kernel) rfl dX1_take_77 rfl ?_
    refine g_iconst (q := 81) C dX1_take_80 rfl ?_
    refine g_aald (q := 82) (r := k1 + 5) C ((h1).p).1 ((h1).p).2.1 ((h1).p).2.2 (by decide) (by decide) (isS.f h1 2) dX1_take_81 rfl ?_
    refine g_iload_n (q := 83) C dX1_take_82 rfl 3 rfl rfl ?_
    obtain ⟨hc, H⟩ := H
    refine g_iald (q := 84) (m := 10) C (isS.r h1 2 (by decide)).1 (isS.r h1 2 (by decide)).2.1 (isS.r h1 2 (by decide)).2.2 hc (by decide) dX1_take_83 rfl ?_
    refine g_aload_n (q := 85) C dX1_take_84 rfl 0 rfl rfl ?_
    refine g_get (q := 88) C (h0).o.1 (celr_1 (h0).o.2) (ci := 1) (i := 0) rfl inlX1 (by decide) wm_10_21 rfl dX1_take_85 rfl ?_
    refine g_iconst (q := 89) C dX1_take_88 rfl ?_
    refine g_isub (q := 90) C dX1_take_89 rfl ?_
    obtain ⟨hc, H⟩ := H
    refine g_mmin (q := 93) C hc wm_11_2 wm_5_6 wm_5_8 wm_5_7 rfl (by decide) (Nat.le_of_ble_eq_true rfl) dX1_take_90 rfl ?_
    obtain ⟨hc, H⟩ := H
    refine g_iast (q := 94) (m := 10) C ((h0).a1).1 ((h0).a1).2.1 ((h0).a1).2.2 hc (by decide) dX1_take_93 rfl ?_
    refine g_topM (fun M93 hM93 => ?_)
    have H := H M93 hM93
    refine g_aload_n (q := 95) C dX1_take_94 rfl 0 rfl rfl ?_
    refine g_get (q := 98) C (h0).o.1 (celr_1 (h0).o.2) (ci := 1) (i := 6) rfl inlX1 (by decide) wm_3_22 rfl dX1_take_95 rfl ?_
    refine g_iload_n (q := 99) C dX1_take_98 rfl 3 rfl rfl ?_
    refine g_aload_n (q := 100) C dX1_take_99 rfl 1 rfl rfl ?_
    refine g_getN (q := 103) C (h1).o.1 (celr_4 (h1).o.2) (ci := 4) (i := 1) rfl inlX4 (by decide) (by decide +kernel) rfl dX1_take_100 rfl ?_
    refine g_iconst (q := 104) C dX1_take_103 rfl ?_
    refine g_aald (q := 105) (r := k1 + 6) C ((h1).p).1 ((h1).p).2.1 ((h1).p).2.2 (by decide) (by decide) (isS.f h1 3) dX1_take_104 rfl ?_
    refine g_iload_n (q := 106) C dX1_take_105 rfl 3 rfl rfl ?_
    obtain ⟨hc, H⟩ := H
    refine g_iald (q := 107) (m := 10) C (isS.r h1 3 (by decide)).1 (isS.r h1 3 (by decide)).2.1 (isS.r h1 3 (by decide)).2.2 hc (by decide) dX1_take_106 rfl ?_
    obtain ⟨hc, H⟩ := H
    refine g_iast (q := 108) (m := 10) C ((h0).a2).1 ((h0).a2).2.1 ((h0).a2).2.2 hc (by decide) dX1_take_107 rfl ?_
    refine g_topM (fun M107 hM107 => ?_)
    have H := H M107 hM107
    refine g_aload_n (q := 109) C dX1_take_108 rfl 0 rfl rfl ?_
    refine g_get (q := 112) C (h0).o.1 (celr_1 (h0).o.2) (ci := 1) (i := 8) rfl inlX1 (by decide) wm_4_0 rfl dX1_take_109 rfl ?_
    refine g_iload_n (q := 113) C dX1_take_112 rfl 3 rfl rfl ?_
    refine g_iconst (q := 114) C dX1_take_113 rfl ?_
    refine g_iadd (q := 115) C dX1_take_114 rfl ?_
    refine g_aload_n (q := 116) C dX1_take_115 rfl 0 rfl rfl ?_
    refine g_get (q := 119) C (h0).o.1 (celr_1 (h0).o.2) (ci := 1) (i := 8) rfl inlX1 (by decide) wm_4_0 rfl dX1_take_116 rfl ?_
    refine g_iload_n (q := 120) C dX1_take_119 rfl 3 rfl rfl ?_
    obtain ⟨hc, H⟩ := H
    refine g_iald (q := 121) (m := 11) C ((h0).a4).1 ((h0).a4).2.1 ((h0).a4).2.2 hc (by decide) dX1_take_120 rfl ?_
    refine g_aload_n (q := 122) C dX1_take_121 rfl 1 rfl rfl ?_
    refine g_getN (q := 125) C (h1).o.1 (celr_4 (h1).o.2) (ci := 4) (i := 1) rfl inlX4 (by decide) (by decide +kernel) rfl dX1_take_122 rfl ?_
    refine g_iconst (q := 126) C dX1_take_125 rfl ?_
    refine g_aald (q := 127) (r := k1 + 3) C ((h1).p).1 ((h1).p).2.1 ((h1).p).2.2 (by decide) (by decide) (isS.f h1 0) dX1_take_126 rfl ?_
    refine g_iload_n (q := 128) C dX1_take_127 rfl 3 rfl rfl ?_
    obtain ⟨hc, H⟩ := H
    refine g_iald (q := 129) (m := 10) C (isS.r h1 0 (by decide)).1 (isS.r h1 0 (by decide)).2.1 (isS.r h1 0 (by decide)).2.2 hc (by decide) dX1_take_128 rfl ?_
    refine g_aload_n (q := 130) C dX1_take_129 rfl 1 rfl rfl ?_
    refine g_getN (q := 133) C (h1).o.1 (celr_4 (h1).o.2) (ci := 4) (i := 1) rfl inlX4 (by decide) (by decide +kernel) rfl dX1_take_130 rfl ?_
    refine g_iconst (q := 134) C dX1_take_133 rfl ?_
    refine g_aald (q := 135) (r := k1 + 4) C ((h1).p).1 ((h1).p).2.1 ((h1).p).2.2 (by decide) (by decide) (isS.f h1 1) dX1_take_134 rfl ?_
    refine g_iload_n (q := 136) C dX1_take_135 rfl 3 rfl rfl ?_
    obtain ⟨hc, H⟩ := H
    refine g_iald (q := 137) (m := 10) C (isS.r h1 1 (by decide)).1 (isS.r h1 1 (by decide)).2.1 (isS.r h1 1 (by decide)).2.2 hc (by decide) dX1_take_136 rfl ?_
    refine g_iconst (q := 138) C dX1_take_137 rfl ?_
    obtain ⟨hr, Ht, Hf⟩ := H
    refine g_icmp_ne (q := 141) (t := 145) C dX1_take_138 rfl (by decide) ⟨hr, by decide⟩ (fun hc => ?_) (fun hc => ?_)
    · have H := Ht hc
      refine g_iconst (q := 146) C dX1_take_145 rfl ?_
      refine g_sub [0, 1, 2, 3] rfl ?_
      exact H
    · have H := Hf hc
      refine g_iload_n (q := 142) C dX1_take_141 rfl 2 rfl rfl ?_
      refine g_goto (t := 146) C dX1_take_142 (by decide) ?_
      refine g_sub [0, 1, 2, 3] rfl ?_
      exact H
set_option maxRecDepth 10000 in
set_option maxHeartbeats 2000000 in
theorem X1_take_146 {x : Xx} {post : Int → Mm → Prop} (C : Cx x mX1_take) (hR : Rt x mX1_take post) {k0 : Nat} (h0 : isMe k0) {k1 : Nat} (h1 : isS k1) (v2 v3 s0 s1 s2 s3 : Int) (M : Mm) (H : (0 ≤ s3 ∧ s3 < 11) ∧ (∀ M148 : Mm, M148 = mu M (k0 + 4) s3 (s2 + (s1 * s0)) → (∃ p156 : Int → Mm → Prop, Ct (xl x) (xg x) mX1_mostFrom [vr (xg x) k1, vi v3] M148 p156 ∧ ∀ (r156 : Int) (M156 : Mm), p156 r156 M156 → ((0 ≤ v3 ∧ v3 < 11) ∧ (∀ M159 : Mm, M159 = mu M156 (k0 + 3) v3 r156 → ((0 ≤ v3 ∧ v3 < 11) ∧ ((inR (M159 (k0 + 3) v3)) ∧ (¬ (M159 (k0 + 3) v3 = 0) → (Gx x 4 63 [(0, vr (xg x) k0), (1, vr (xg x) k1), (2, vi v2), (3, vi (v3 + 1))] [] M159)) ∧ (M159 (k0 + 3) v3 = 0 → ((inR (M159 k0 4)) ∧ (¬ (M159 k0 4 = (-1)) → (Gx x 4 63 [(0, vr (xg x) k0), (1, vr (xg x) k1), (2, vi v2), (3, vi (v3 + 1))] [] M159)) ∧ (M159 k0 4 = (-1) → (∀ M179 : Mm, M179 = mu M159 k0 4 v3 → (Gx x 4 63 [(0, vr (xg x) k0), (1, vr (xg x) k1), (2, vi v2), (3, vi (v3 + 1))] [] M179)))))))))))) : Gx x 4 146 [(0, vr (xg x) k0), (1, vr (xg x) k1), (2, vi v2), (3, vi v3)] [vi s0, vi s1, vi s2, vi s3, vr (xg x) (k0 + 4)] M := by
  refine g_imul (q := 147) C dX1_take_146 rfl ?_
  refine g_iadd (q := 148) C dX1_take_147 rfl ?_
  obtain ⟨hc, H⟩ := H
  refine g_iast (q := 149) (m := 11) C ((h0).a4).1 ((h0).a4).2.1 ((h0).a4).2.2 hc (by decide) dX1_take_148 rfl ?_
  refine g_topM (fun M148 hM148 => ?_)
  have H := H M148 hM148
  refine g_aload_n (q := 150) C dX1_take_149 rfl 0 rfl rfl ?_
  refine g_get (q := 153) C (h0).o.1 (celr_1 (h0).o.2) (ci := 1) (i := 7) rfl inlX1 (by decide) wm_3_23 rfl dX1_take_150 rfl ?_
  refine g_iload_n (q := 154) C dX1_take_153 rfl 3 rfl rfl ?_
  refine g_aload_n (q := 155) C dX1_take_154 rfl 1 rfl rfl ?_
  refine g_iload_n (q := 156) C dX1_take_155 rfl 3 rfl rfl ?_
  obtain ⟨p156, hM, H⟩ := H
  refine g_callS (q := 159) (As := [vr (xg x) k1, vi v3]) (st := [vi v3, vr (xg x) (k0 + 3)]) (na := 2) C mX1_mostFrom hM wm_11_3 wm_11_4 wm_3_11 wm_11_5 (by decide +kernel) rfl rfl (by decide) rfl (Nat.le_of_ble_eq_true rfl) dX1_take_156 rfl (fun r156 M156 hp => ?_)
  have H := H r156 M156 hp
  show Gx x 4 159 [(0, vr (xg x) k0), (1, vr (xg x) k1), (2, vi v2), (3, vi v3)] [vi r156, vi v3, vr (xg x) (k0 + 3)] M156
  obtain ⟨hc, H⟩ := H
  refine g_iast (q := 160) (m := 11) C ((h0).a3).1 ((h0).a3).2.1 ((h0).a3).2.2 hc (by decide) dX1_take_159 rfl ?_
  refine g_topM (fun M159 hM159 => ?_)
  have H := H M159 hM159
  refine g_aload_n (q := 161) C dX1_take_160 rfl 0 rfl rfl ?_
  refine g_get (q := 164) C (h0).o.1 (celr_1 (h0).o.2) (ci := 1) (i := 7) rfl inlX1 (by decide) wm_3_23 rfl dX1_take_161 rfl ?_
  refine g_iload_n (q := 165) C dX1_take_164 rfl 3 rfl rfl ?_
  obtain ⟨hc, H⟩ := H
  refine g_iald (q := 166) (m := 11) C ((h0).a3).1 ((h0).a3).2.1 ((h0).a3).2.2 hc (by decide) dX1_take_165 rfl ?_
  obtain ⟨hr, Ht, Hf⟩ := H
  refine g_if_ne (q := 169) (t := 182) C dX1_take_166 rfl (by decide) hr (fun hc => ?_) (fun hc => ?_)
  · have H := Ht hc
    refine g_iinc (q := 185) (L2 := [(3, vi (v3 + 1)), (0, vr (xg x) k0), (1, vr (xg x) k1), (2, vi v2)]) C dX1_take_182 rfl 3 rfl (by decide) rfl ?_
    refine g_goto (t := 63) C dX1_take_185 (by decide) ?_
    refine g_sub [1, 2, 3, 0] rfl ?_
    exact H
  · have H := Hf hc
    refine g_aload_n (q := 170) C dX1_take_169 rfl 0 rfl rfl ?_
    refine g_get (q := 173) C (h0).o.1 (celr_1 (h0).o.2) (ci := 1) (i := 4) rfl inlX1 (by decide) wm_11_1 rfl dX1_take_170 rfl ?_
    refine g_iconst (q := 174) C dX1_take_173 rfl ?_
    obtain ⟨hr, Ht, Hf⟩ := H
    refine g_icmp_ne (q := 177) (t := 182) C dX1_take_174 rfl (by decide) ⟨hr, by decide⟩ (fun hc => ?_) (fun hc => ?_)
    · have H := Ht hc
      refine g_iinc (q := 185) (L2 := [(3, vi (v3 + 1)), (0, vr (xg x) k0), (1, vr (xg x) k1), (2, vi v2)]) C dX1_take_182 rfl 3 rfl (by decide) rfl ?_
      refine g_goto (t := 63) C dX1_take_185 (by decide) ?_
      refine g_sub [1, 2, 3, 0] rfl ?_
      exact H
    · have H := Hf hc
      refine g_aload_n (q := 178) C dX1_take_177 rfl 0 rfl rfl ?_
      refine g_iload_n (q := 179) C dX1_take_178 rfl 3 rfl rfl ?_
      refine g_put (q := 182) (ty := .int) C (h0).o.1 (celr_1 (h0).o.2) (ci := 1) (i := 4) rfl inlX1 tyX1_ok nmX1 (by decide) wm_11_1 rfl rfl rfl rfl (Nat.le_of_ble_eq_true rfl) (by rw [celr_1 (h0).o.2]; rfl) dX1_take_179 rfl ?_
      refine g_topM (fun M179 hM179 => ?_)
      have H := H M179 hM179
      refine g_iinc (q := 185) (L2 := [(3, vi (v3 + 1)), (0, vr (xg x) k0), (1, vr (xg x) k1), (2, vi v2)]) C dX1_take_182 rfl 3 rfl (by decide) rfl ?_
      refine g_goto (t := 63) C dX1_take_185 (by decide) ?_
      refine g_sub [1, 2, 3, 0] rfl ?_
      exact H
set_option maxRecDepth 10000 in
set_option maxHeartbeats 2000000 in
theorem X1_mostFrom_0 {x : Xx} {post : Int → Mm → Prop} (C : Cx x mX1_mostFrom) (hR : Rt x mX1_mostFrom post) {k0 : Nat} (h0 : isS k0) (v1 : Int) (M : Mm) (H : (inR (M (k0 + 1) 4) ∧ inR ((M k0 2) - v1)) ∧ (∀ w17 : Int, w17 = (if (M k0 2) - v1 < M (k0 + 1) 4 then (M k0 2) - v1 else M (k0 + 1) 4) → (Gx x 4 18 [(0, vr (xg x) k0), (1, vi v1), (2, vi 0), (3, vi w17)] [] M))) : Gx x 4 0 [(0, vr (xg x) k0), (1, vi v1)] [] M := by
  refine g_iconst (q := 1) C dX1_mostFrom_0 rfl ?_
  refine g_istore_n (q := 2) (L2 := [(2, vi 0), (0, vr (xg x) k0), (1, vi v1)]) C dX1_mostFrom_1 rfl rfl (by decide) rfl ?_
  refine g_aload_n (q := 3) C dX1_mostFrom_2 rfl 1 rfl rfl ?_
  refine g_getN (q := 6) C (h0).o.1 (celr_4 (h0).o.2) (ci := 4) (i := 0) rfl inlX4 (by decide) (by decide +kernel) rfl dX1_mostFrom_3 rfl ?_
  refine g_iconst (q := 7) C dX1_mostFrom_6 rfl ?_
  refine g_iald (q := 8) (m := 6) C ((h0).b).1 ((h0).b).2.1 ((h0).b).2.2 (by decide) (by decide) dX1_mostFrom_7 rfl ?_
  refine g_aload_n (q := 9) C dX1_mostFrom_8 rfl 1 rfl rfl ?_
  refine g_getN (q := 12) C (h0).o.1 (celr_4 (h0).o.2) (ci := 4) (i := 2) rfl inlX4 (by decide) (by decide +kernel) rfl dX1_mostFrom_9 rfl ?_
  refine g_iload_n (q := 13) C dX1_mostFrom_12 rfl 2 rfl rfl ?_
  refine g_isub (q := 14) C dX1_mostFrom_13 rfl ?_
  obtain ⟨hc, H⟩ := H
  refine g_mmin (q := 17) C hc wm_11_2 wm_5_6 wm_5_8 wm_5_7 rfl (by decide) (Nat.le_of_ble_eq_true rfl) dX1_mostFrom_14 rfl ?_
  refine g_topi (fun w17 hw17 => ?_)
  have H := H w17 hw17
  refine g_istore_n (q := 18) (L2 := [(3, vi w17), (2, vi 0), (0, vr (xg x) k0), (1, vi v1)]) C dX1_mostFrom_17 rfl rfl (by decide) rfl ?_
  refine g_sub [2, 3, 1, 0] rfl ?_
  exact H
set_option maxRecDepth 10000 in
set_option maxHeartbeats 2000000 in
theorem X1_mostFrom_18 {x : Xx} {post : Int → Mm → Prop} (C : Cx x mX1_mostFrom) (hR : Rt x mX1_mostFrom post) {k0 : Nat} (h0 : isS k0) (v1 v2 v3 : Int) (M : Mm) (H : (inR v2 ∧ inR v3) ∧ (v3 ≤ v2 → (post v2 M)) ∧ (¬ (v3 ≤ v2) → (∃ p28 : Int → Mm → Prop, Ct (xl x) (xg x) mX4_standTogether [vr (xg x) k0, vi v1, vi (v2 + 1)] M p28 ∧ ∀ (r28 : Int) (M28 : Mm), p28 r28 M28 → ((inR r28) ∧ (r28 = 0 → (post v2 M28)) ∧ (¬ (r28 = 0) → (Gx x 4 18 [(0, vr (xg x) k0), (1, vi v1), (2, vi (v2 + 1)), (3, vi v3)] [] M28)))))) : Gx x 4 18 [(0, vr (xg x) k0), (1, vi v1), (2, vi v2), (3, vi v3)] [] M := by
  refine g_iload_n (q := 19) C dX1_mostFrom_18 rfl 2 rfl rfl ?_
  refine g_iload_n (q := 20) C dX1_mostFrom_19 rfl 3 rfl rfl ?_
  obtain ⟨hr, Ht, Hf⟩ := H
  refine g_icmp_ge (q := 23) (t := 40) C dX1_mostFrom_20 rfl (by decide) hr (fun hc => ?_) (fun hc => ?_)
  · have H := Ht hc
    refine g_iload_n (q := 41) C dX1_mostFrom_40 rfl 2 rfl rfl ?_
    exact g_iret C hR dX1_mostFrom_41 rfl H
  · have H := Hf hc
    refine g_aload_n (q := 24) C dX1_mostFrom_23 rfl 0 rfl rfl ?_
    refine g_iload_n (q := 25) C dX1_mostFrom_24 rfl 1 rfl rfl ?_
    refine g_iload_n (q := 26) C dX1_mostFrom_25 rfl 2 rfl rfl ?_
    refine g_iconst (q := 27) C dX1_mostFrom_26 rfl ?_
    refine g_iadd (q := 28) C dX1_mostFrom_27 rfl ?_
    obtain ⟨p28, hM, H⟩ := H
    refine g_callV (q := 31) (As := [vi v1, vi (v2 + 1)]) (st := []) (na := 2) C mX4_standTogether (h0).o.1 (celr_4 (h0).o.2) rfl hM wm_11_6 wm_11_7 wm_11_8 wm_1_14 wm_11_9 (by decide +kernel) rfl rfl (by decide) rfl (Nat.le_of_ble_eq_true rfl) dX1_mostFrom_28 rfl (fun r28 M28 hp => ?_)
    have H := H r28 M28 hp
    show Gx x 4 31 [(0, vr (xg x) k0), (1, vi v1), (2, vi v2), (3, vi v3)] [vi r28] M28
    obtain ⟨hr, Ht, Hf⟩ := H
    refine g_if_eq (q := 34) (t := 40) C dX1_mostFrom_31 rfl (by decide) hr (fun hc => ?_) (fun hc => ?_)
    · have H := Ht hc
      refine g_iload_n (q := 41) C dX1_mostFrom_40 rfl 2 rfl rfl ?_
      exact g_iret C hR dX1_mostFrom_41 rfl H
    · have H := Hf hc
      refine g_iinc (q := 37) (L2 := [(2, vi (v2 + 1)), (0, vr (xg x) k0), (1, vi v1), (3, vi v3)]) C dX1_mostFrom_34 rfl 2 rfl (by decide) rfl ?_
      refine g_goto (t := 18) C dX1_mostFrom_37 (by decide) ?_
      refine g_sub [1, 2, 0, 3] rfl ?_
      exact H
set_option maxRecDepth 10000 in
set_option maxHeartbeats 2000000 in
theorem X1_toll_0 {x : Xx} {post : Int → Mm → Prop} (C : Cx x mX1_toll) (hR : Rt x mX1_toll post) {k0 : Nat} (h0 : isMe k0) (v1 v2 : Int) (M : Mm) (H : Gx x 5 5 [(0, vr (xg x) k0), (1, vi v1), (2, vi v2), (3, vi 0), (4, vi 0)] [] M) : Gx x 5 0 [(0, vr (xg x) k0), (1, vi v1), (2, vi v2)] [] M := by
  refine g_iconst (q := 1) C dX1_toll_0 rfl ?_
  refine g_istore_n (q := 2) (L2 := [(3, vi 0), (0, vr (xg x) k0), (1, vi v1), (2, vi v2)]) C dX1_toll_1 rfl rfl (by decide) rfl ?_
  refine g_iconst (q := 3) C dX1_toll_2 rfl ?_
  refine g_istore (q := 5) (L2 := [(4, vi 0), (3, vi 0), (0, vr (xg x) k0), (1, vi v1), (2, vi v2)]) C dX1_toll_3 rfl (by decide) rfl ?_
  refine g_sub [2, 3, 4, 1, 0] rfl ?_
  exact H
set_option maxRecDepth 10000 in
set_option maxHeartbeats 2000000 in
theorem X1_toll_5 {x : Xx} {post : Int → Mm → Prop} (C : Cx x mX1_toll) (hR : Rt x mX1_toll post) {k0 : Nat} (h0 : isMe k0) (v1 v2 v3 v4 : Int) (M : Mm) (H : (inR v4 ∧ inR (M k0 1)) ∧ (M k0 1 ≤ v4 → (post v3 M)) ∧ (¬ (M k0 1 ≤ v4) → ((0 ≤ v4 ∧ v4 < 10) ∧ ((inR (M (k0 + 1) v4) ∧ inR v1) ∧ (v1 ≤ M (k0 + 1) v4 → ((inR v4 ∧ inR v2) ∧ (v2 ≤ v4 → (Gx x 5 41 [(0, vr (xg x) k0), (1, vi v1), (2, vi v2), (3, vi v3), (4, vi v4)] [vi 0, vi 0] M)) ∧ (¬ (v2 ≤ v4) → (Gx x 5 41 [(0, vr (xg x) k0), (1, vi v1), (2, vi v2), (3, vi v3), (4, vi v4)] [vi 1, vi 0] M)))) ∧ (¬ (v1 ≤ M (k0 + 1) v4) → ((inR v4 ∧ inR v2) ∧ (v2 ≤ v4 → (Gx x 5 41 [(0, vr (xg x) k0), (1, vi v1), (2, vi v2), (3, vi v3), (4, vi v4)] [vi 0, vi 1] M)) ∧ (¬ (v2 ≤ v4) → (Gx x 5 41 [(0, vr (xg x) k0), (1, vi v1), (2, vi v2), (3, vi v3), (4, vi v4)] [vi 1, vi 1] M)))))))) : Gx x 5 5 [(0, vr (xg x) k0), (1, vi v1), (2, vi v2), (3, vi v3), (4, vi v4)] [] M := by
  refine g_iload (q := 7) C dX1_toll_5 rfl 4 rfl ?_
  refine g_aload_n (q := 8) C dX1_toll_7 rfl 0 rfl rfl ?_
  refine g_get (q := 11) C (h0).o.1 (celr_1 (h0).o.2) (ci := 1) (i := 1) rfl inlX1 (by decide) wm_10_22 rfl dX1_toll_8 rfl ?_
  obtain ⟨hr, Ht, Hf⟩ := H
  refine g_icmp_ge (q := 14) (t := 60) C dX1_toll_11 rfl (by decide) hr (fun hc => ?_) (fun hc => ?_)
  · have H := Ht hc
    refine g_iload_n (q := 61) C dX1_toll_60 rfl 3 rfl rfl ?_
    exact g_iret C hR dX1_toll_61 rfl H
  · have H := Hf hc
    refine g_aload_n (q := 15) C dX1_toll_14 rfl 0 rfl rfl ?_
    refine g_get (q := 18) C (h0).o.1 (celr_1 (h0).o.2) (ci := 1) (i := 5) rfl inlX1 (by decide) wm_3_21 rfl dX1_toll_15 rfl ?_
    refine g_iload (q := 20) C dX1_toll_18 rfl 4 rfl ?_
    obtain ⟨hc, H⟩ := H
    refine g_iald (q := 21) (m := 10) C ((h0).a1).1 ((h0).a1).2.1 ((h0).a1).2.2 hc (by decide) dX1_toll_20 rfl ?_
    refine g_iload_n (q := 22) C dX1_toll_21 rfl 1 rfl rfl ?_
    obtain ⟨hr, Ht, Hf⟩ := H
    refine g_icmp_ge (q := 25) (t := 29) C dX1_toll_22 rfl (by decide) hr (fun hc => ?_) (fun hc => ?_)
    · have H := Ht hc
      refine g_iconst (q := 30) C dX1_toll_29 rfl ?_
      refine g_iload (q := 32) C dX1_toll_30 rfl 4 rfl ?_
      refine g_iload_n (q := 33) C dX1_toll_32 rfl 2 rfl rfl ?_
      obtain ⟨hr, Ht, Hf⟩ := H
      refine g_icmp_ge (q := 36) (t := 40) C dX1_toll_33 rfl (by decide) hr (fun hc => ?_) (fun hc => ?_)
      · have H := Ht hc
        refine g_iconst (q := 41) C dX1_toll_40 rfl ?_
        refine g_sub [0, 1, 2, 3, 4] rfl ?_
        exact H
      · have H := Hf hc
        refine g_iconst (q := 37) C dX1_toll_36 rfl ?_
        refine g_goto (t := 41) C dX1_toll_37 (by decide) ?_
        refine g_sub [0, 1, 2, 3, 4] rfl ?_
        exact H
    · have H := Hf hc
      refine g_iconst (q := 26) C dX1_toll_25 rfl ?_
      refine g_goto (t := 30) C dX1_toll_26 (by decide) ?_
      refine g_iload (q := 32) C dX1_toll_30 rfl 4 rfl ?_
      refine g_iload_n (q := 33) C dX1_toll_32 rfl 2 rfl rfl ?_
      obtain ⟨hr, Ht, Hf⟩ := H
      refine g_icmp_ge (q := 36) (t := 40) C dX1_toll_33 rfl (by decide) hr (fun hc => ?_) (fun hc => ?_)
      · have H := Ht hc
        refine g_iconst (q := 41) C dX1_toll_40 rfl ?_
        refine g_sub [0, 1, 2, 3, 4] rfl ?_
        exact H
      · have H := Hf hc
        refine g_iconst (q := 37) C dX1_toll_36 rfl ?_
        refine g_goto (t := 41) C dX1_toll_37 (by decide) ?_
        refine g_sub [0, 1, 2, 3, 4] rfl ?_
        exact H
set_option maxRecDepth 10000 in
set_option maxHeartbeats 2000000 in
theorem X1_toll_41 {x : Xx} {post : Int → Mm → Prop} (C : Cx x mX1_toll) (hR : Rt x mX1_toll post) {k0 : Nat} (h0 : isMe k0) (v1 v2 v3 v4 s0 s1 : Int) (M : Mm) (H : (inR s1 ∧ inR s0) ∧ (s1 = s0 → (Gx x 5 5 [(0, vr (xg x) k0), (1, vi v1), (2, vi v2), (3, vi v3), (4, vi (v4 + 1))] [] M)) ∧ (¬ (s1 = s0) → ((0 ≤ v4 ∧ v4 < 10) ∧ (∀ w53 : Int, w53 = (v3 + (M (k0 + 2) v4)) → (Gx x 5 5 [(0, vr (xg x) k0), (1, vi v1), (2, vi v2), (3, vi w53), (4, vi (v4 + 1))] [] M))))) : Gx x 5 41 [(0, vr (xg x) k0), (1, vi v1), (2, vi v2), (3, vi v3), (4, vi v4)] [vi s0, vi s1] M := by
  obtain ⟨hr, Ht, Hf⟩ := H
  refine g_icmp_eq (q := 44) (t := 54) C dX1_toll_41 rfl (by decide) hr (fun hc => ?_) (fun hc => ?_)
  · have H := Ht hc
    refine g_iinc (q := 57) (L2 := [(4, vi (v4 + 1)), (0, vr (xg x) k0), (1, vi v1), (2, vi v2), (3, vi v3)]) C dX1_toll_54 rfl 4 rfl (by decide) rfl ?_
    refine g_goto (t := 5) C dX1_toll_57 (by decide) ?_
    refine g_sub [1, 2, 3, 4, 0] rfl ?_
    exact H
  · have H := Hf hc
    refine g_iload_n (q := 45) C dX1_toll_44 rfl 3 rfl rfl ?_
    refine g_aload_n (q := 46) C dX1_toll_45 rfl 0 rfl rfl ?_
    refine g_get (q := 49) C (h0).o.1 (celr_1 (h0).o.2) (ci := 1) (i := 6) rfl inlX1 (by decide) wm_3_22 rfl dX1_toll_46 rfl ?_
    refine g_iload (q := 51) C dX1_toll_49 rfl 4 rfl ?_
    obtain ⟨hc, H⟩ := H
    refine g_iald (q := 52) (m := 10) C ((h0).a2).1 ((h0).a2).2.1 ((h0).a2).2.2 hc (by decide) dX1_toll_51 rfl ?_
    refine g_iadd (q := 53) C dX1_toll_52 rfl ?_
    refine g_topi (fun w53 hw53 => ?_)
    have H := H w53 hw53
    refine g_istore_n (q := 54) (L2 := [(3, vi w53), (0, vr (xg x) k0), (1, vi v1), (2, vi v2), (4, vi v4)]) C dX1_toll_53 rfl rfl (by decide) rfl ?_
    refine g_iinc (q := 57) (L2 := [(4, vi (v4 + 1)), (3, vi w53), (0, vr (xg x) k0), (1, vi v1), (2, vi v2)]) C dX1_toll_54 rfl 4 rfl (by decide) rfl ?_
    refine g_goto (t := 5) C dX1_toll_57 (by decide) ?_
    refine g_sub [2, 3, 4, 1, 0] rfl ?_
    exact H
set_option maxRecDepth 10000 in
set_option maxHeartbeats 2000000 in
theorem X1_mayTake_0 {x : Xx} {post : Int → Mm → Prop} (C : Cx x mX1_mayTake) (hR : Rt x mX1_mayTake post) {k0 : Nat} (h0 : isMe k0) (v1 v2 v3 : Int) (M : Mm) (H : (0 ≤ v2 ∧ v2 < 11) ∧ ((inR v3 ∧ inR (M (k0 + 3) v2)) ∧ (v3 ≤ M (k0 + 3) v2 → (∃ p16 : Int → Mm → Prop, Ct (xl x) (xg x) mX1_linesBehind [vr (xg x) k0, vi v1, vi v2, vi v3] M p16 ∧ ∀ (r16 : Int) (M16 : Mm), p16 r16 M16 → ((inR v3) ∧ (¬ (v3 = 0) → ((inR (M16 k0 3)) ∧ (¬ (M16 k0 3 = 0) → (post 1 M16)) ∧ (M16 k0 3 = 0 → (∃ p49 : Int → Mm → Prop, Ct (xl x) (xg x) mX1_areMentioned [vr (xg x) k0, vi v2, vi v3, vi r16] M16 p49 ∧ ∀ (r49 : Int) (M49 : Mm), p49 r49 M49 → ((inR r49) ∧ (r49 = 0 → (post 0 M49)) ∧ (¬ (r49 = 0) → (post 1 M49))))))) ∧ (v3 = 0 → ((inR r16 ∧ inR v1) ∧ (r16 ≤ v1 → (post 0 M16)) ∧ (¬ (r16 ≤ v1) → (post 1 M16))))))) ∧ (¬ (v3 ≤ M (k0 + 3) v2) → (post 0 M)))) : Gx x 5 0 [(0, vr (xg x) k0), (1, vi v1), (2, vi v2), (3, vi v3)] [] M := by
  refine g_iload_n (q := 1) C dX1_mayTake_0 rfl 3 rfl rfl ?_
  refine g_aload_n (q := 2) C dX1_mayTake_1 rfl 0 rfl rfl ?_
  refine g_get (q := 5) C (h0).o.1 (celr_1 (h0).o.2) (ci := 1) (i := 7) rfl inlX1 (by decide) wm_3_23 rfl dX1_mayTake_2 rfl ?_
  refine g_iload_n (q := 6) C dX1_mayTake_5 rfl 2 rfl rfl ?_
  obtain ⟨hc, H⟩ := H
  refine g_iald (q := 7) (m := 11) C ((h0).a3).1 ((h0).a3).2.1 ((h0).a3).2.2 hc (by decide) dX1_mayTake_6 rfl ?_
  obtain ⟨hr, Ht, Hf⟩ := H
  refine g_icmp_le (q := 10) (t := 12) C dX1_mayTake_7 rfl (by decide) hr (fun hc => ?_) (fun hc => ?_)
  · have H := Ht hc
    refine g_aload_n (q := 13) C dX1_mayTake_12 rfl 0 rfl rfl ?_
    refine g_iload_n (q := 14) C dX1_mayTake_13 rfl 1 rfl rfl ?_
    refine g_iload_n (q := 15) C dX1_mayTake_14 rfl 2 rfl rfl ?_
    refine g_iload_n (q := 16) C dX1_mayTake_15 rfl 3 rfl rfl ?_
    obtain ⟨p16, hM, H⟩ := H
    refine g_callV (q := 19) (As := [vi v1, vi v2, vi v3]) (st := []) (na := 3) C mX1_linesBehind (h0).o.1 (celr_1 (h0).o.2) rfl hM wm_12_10 wm_12_11 wm_12_12 wm_3_11 wm_12_13 (by decide +kernel) rfl rfl (by decide) rfl (Nat.le_of_ble_eq_true rfl) dX1_mayTake_16 rfl (fun r16 M16 hp => ?_)
    have H := H r16 M16 hp
    show Gx x 5 19 [(0, vr (xg x) k0), (1, vi v1), (2, vi v2), (3, vi v3)] [vi r16] M16
    refine g_istore (q := 21) (L2 := [(4, vi r16), (0, vr (xg x) k0), (1, vi v1), (2, vi v2), (3, vi v3)]) C dX1_mayTake_19 rfl (by decide) rfl ?_
    refine g_iload_n (q := 22) C dX1_mayTake_21 rfl 4 rfl rfl ?_
    obtain ⟨hr, Ht, Hf⟩ := H
    refine g_if_ne (q := 25) (t := 37) C dX1_mayTake_22 rfl (by decide) hr (fun hc => ?_) (fun hc => ?_)
    · have H := Ht hc
      refine g_aload_n (q := 38) C dX1_mayTake_37 rfl 1 rfl rfl ?_
      refine g_get (q := 41) C (h0).o.1 (celr_1 (h0).o.2) (ci := 1) (i := 3) rfl inlX1 (by decide) wm_11_0 rfl dX1_mayTake_38 rfl ?_
      obtain ⟨hr, Ht, Hf⟩ := H
      refine g_if_ne (q := 44) (t := 55) C dX1_mayTake_41 rfl (by decide) hr (fun hc => ?_) (fun hc => ?_)
      · have H := Ht hc
        refine g_iconst (q := 56) C dX1_mayTake_55 rfl ?_
        refine g_goto (t := 60) C dX1_mayTake_56 (by decide) ?_
        exact g_zret C hR dX1_mayTake_60 rfl (by decide) H
      · have H := Hf hc
        refine g_aload_n (q := 45) C dX1_mayTake_44 rfl 1 rfl rfl ?_
        refine g_iload_n (q := 46) C dX1_mayTake_45 rfl 3 rfl rfl ?_
        refine g_iload_n (q := 47) C dX1_mayTake_46 rfl 4 rfl rfl ?_
        refine g_iload (q := 49) C dX1_mayTake_47 rfl 0 rfl ?_
        obtain ⟨p49, hM, H⟩ := H
        refine g_callV (q := 52) (As := [vi v2, vi v3, vi r16]) (st := []) (na := 3) C mX1_areMentioned (h0).o.1 (celr_1 (h0).o.2) rfl hM wm_12_14 wm_12_15 wm_12_16 wm_3_11 wm_12_17 (by decide +kernel) rfl rfl (by decide) rfl (Nat.le_of_ble_eq_true rfl) dX1_mayTake_49 rfl (fun r49 M49 hp => ?_)
        have H := H r49 M49 hp
        show Gx x 5 52 [(4, vi r16), (0, vr (xg x) k0), (1, vi v1), (2, vi v2), (3, vi v3)] [vi r49] M49
        obtain ⟨hr, Ht, Hf⟩ := H
        refine g_if_eq (q := 55) (t := 59) C dX1_mayTake_52 rfl (by decide) hr (fun hc => ?_) (fun hc => ?_)
        · have H := Ht hc
          refine g_iconst (q := 60) C dX1_mayTake_59 rfl ?_
          exact g_zret C hR dX1_mayTake_60 rfl (by decide) H
        · have H := Hf hc
          refine g_iconst (q := 56) C dX1_mayTake_55 rfl ?_
          refine g_goto (t := 60) C dX1_mayTake_56 (by decide) ?_
          exact g_zret C hR dX1_mayTake_60 rfl (by decide) H
    · have H := Hf hc
      refine g_iload (q := 27) C dX1_mayTake_25 rfl 0 rfl ?_
      refine g_iload_n (q := 28) C dX1_mayTake_27 rfl 2 rfl rfl ?_
      obtain ⟨hr, Ht, Hf⟩ := H
      refine g_icmp_le (q := 31) (t := 35) C dX1_mayTake_28 rfl (by decide) hr (fun hc => ?_) (fun hc => ?_)
      · have H := Ht hc
        refine g_iconst (q := 36) C dX1_mayTake_35 rfl ?_
        exact g_zret C hR dX1_mayTake_36 rfl (by decide) H
      · have H := Hf hc
        refine g_iconst (q := 32) C dX1_mayTake_31 rfl ?_
        refine g_goto (t := 36) C dX1_mayTake_32 (by decide) ?_
        exact g_zret C hR dX1_mayTake_36 rfl (by decide) H
  · have H := Hf hc
    refine g_iconst (q := 11) C dX1_mayTake_10 rfl ?_
    exact g_zret C hR dX1_mayTake_11 rfl (by decide) H
set_option maxRecDepth 10000 in
set_option maxHeartbeats 2000000 in
theorem X1_linesBehind_0 {x : Xx} {post : Int → Mm → Prop} (C : Cx x mX1_linesBehind) (hR : Rt x mX1_linesBehind post) {k0 : Nat} (h0 : isMe k0) (v1 v2 v3 : Int) (M : Mm) (H : (0 ≤ v2 + v3 ∧ v2 + v3 < 11) ∧ ((0 ≤ v2 ∧ v2 < 11) ∧ (∀ w22 : Int, w22 = ((v1 + (M k0 2)) - ((M (k0 + 4) (v2 + v3)) - (M (k0 + 4) v2))) → ((inR w22 ∧ inR (M k0 0)) ∧ (M k0 0 ≤ w22 → (post (M k0 0) M)) ∧ (¬ (M k0 0 ≤ w22) → (post w22 M)))))) : Gx x 5 0 [(0, vr (xg x) k0), (1, vi v1), (2, vi v2), (3, vi v3)] [] M := by
  refine g_iload_n (q := 1) C dX1_linesBehind_0 rfl 1 rfl rfl ?_
  refine g_aload_n (q := 2) C dX1_linesBehind_1 rfl 0 rfl rfl ?_
  refine g_get (q := 5) C (h0).o.1 (celr_1 (h0).o.2) (ci := 1) (i := 2) rfl inlX1 (by decide) wm_10_23 rfl dX1_linesBehind_2 rfl ?_
  refine g_iadd (q := 6) C dX1_linesBehind_5 rfl ?_
  refine g_aload_n (q := 7) C dX1_linesBehind_6 rfl 0 rfl rfl ?_
  refine g_get (q := 10) C (h0).o.1 (celr_1 (h0).o.2) (ci := 1) (i := 8) rfl inlX1 (by decide) wm_4_0 rfl dX1_linesBehind_7 rfl ?_
  refine g_iload_n (q := 11) C dX1_linesBehind_10 rfl 2 rfl rfl ?_
  refine g_iload_n (q := 12) C dX1_linesBehind_11 rfl 3 rfl rfl ?_
  refine g_iadd (q := 13) C dX1_linesBehind_12 rfl ?_
  obtain ⟨hc, H⟩ := H
  refine g_iald (q := 14) (m := 11) C ((h0).a4).1 ((h0).a4).2.1 ((h0).a4).2.2 hc (by decide) dX1_linesBehind_13 rfl ?_
  refine g_aload_n (q := 15) C dX1_linesBehind_14 rfl 0 rfl rfl ?_
  refine g_get (q := 18) C (h0).o.1 (celr_1 (h0).o.2) (ci := 1) (i := 8) rfl inlX1 (by decide) wm_4_0 rfl dX1_linesBehind_15 rfl ?_
  refine g_iload_n (q := 19) C dX1_linesBehind_18 rfl 2 rfl rfl ?_
  obtain ⟨hc, H⟩ := H
  refine g_iald (q := 20) (m := 11) C ((h0).a4).1 ((h0).a4).2.1 ((h0).a4).2.2 hc (by decide) dX1_linesBehind_19 rfl ?_
  refine g_isub (q := 21) C dX1_linesBehind_20 rfl ?_
  refine g_isub (q := 22) C dX1_linesBehind_21 rfl ?_
  refine g_topi (fun w22 hw22 => ?_)
  have H := H w22 hw22
  refine g_istore (q := 24) (L2 := [(4, vi w22), (0, vr (xg x) k0), (1, vi v1), (2, vi v2), (3, vi v3)]) C dX1_linesBehind_22 rfl (by decide) rfl ?_
  refine g_iload (q := 26) C dX1_linesBehind_24 rfl 0 rfl ?_
  refine g_aload_n (q := 27) C dX1_linesBehind_26 rfl 1 rfl rfl ?_
  refine g_get (q := 30) C (h0).o.1 (celr_1 (h0).o.2) (ci := 1) (i := 0) rfl inlX1 (by decide) wm_10_21 rfl dX1_linesBehind_27 rfl ?_
  obtain ⟨hr, Ht, Hf⟩ := H
  refine g_icmp_ge (q := 33) (t := 38) C dX1_linesBehind_30 rfl (by decide) hr (fun hc => ?_) (fun hc => ?_)
  · have H := Ht hc
    refine g_aload_n (q := 39) C dX1_linesBehind_38 rfl 1 rfl rfl ?_
    refine g_get (q := 42) C (h0).o.1 (celr_1 (h0).o.2) (ci := 1) (i := 0) rfl inlX1 (by decide) wm_10_21 rfl dX1_linesBehind_39 rfl ?_
    exact g_iret C hR dX1_linesBehind_42 rfl H
  · have H := Hf hc
    refine g_iload (q := 35) C dX1_linesBehind_33 rfl 0 rfl ?_
    refine g_goto (t := 42) C dX1_linesBehind_35 (by decide) ?_
    exact g_iret C hR dX1_linesBehind_42 rfl H
set_option maxRecDepth 10000 in
set_option maxHeartbeats 2000000 in
theorem X1_areMentioned_0 {x : Xx} {post : Int → Mm → Prop} (C : Cx x mX1_areMentioned) (hR : Rt x mX1_areMentioned post) {k0 : Nat} (h0 : isMe k0) (v1 v2 v3 : Int) (M : Mm) (H : Gx x 5 3 [(0, vr (xg x) k0), (1, vi v1), (2, vi v2), (3, vi v3), (4, vi v1)] [] M) : Gx x 5 0 [(0, vr (xg x) k0), (1, vi v1), (2, vi v2), (3, vi v3)] [] M := by
  refine g_iload_n (q := 1) C dX1_areMentioned_0 rfl 1 rfl rfl ?_
  refine g_istore (q := 3) (L2 := [(4, vi v1), (0, vr (xg x) k0), (1, vi v1), (2, vi v2), (3, vi v3)]) C dX1_areMentioned_1 rfl (by decide) rfl ?_
  refine g_sub [1, 2, 3, 4, 0] rfl ?_
  exact H
set_option maxRecDepth 10000 in
set_option maxHeartbeats 2000000 in
theorem X1_areMentioned_3 {x : Xx} {post : Int → Mm → Prop} (C : Cx x mX1_areMentioned) (hR : Rt x mX1_areMentioned post) {k0 : Nat} (h0 : isMe k0) (v1 v2 v3 v4 : Int) (M : Mm) (H : (inR v4 ∧ inR (v1 + v2)) ∧ (v1 + v2 ≤ v4 → (post 1 M)) ∧ (¬ (v1 + v2 ≤ v4) → ((0 ≤ v4 ∧ v4 < 10) ∧ ((inR (M (k0 + 1) v4) ∧ inR v3) ∧ (M (k0 + 1) v4 < v3 → (Gx x 5 3 [(0, vr (xg x) k0), (1, vi v1), (2, vi v2), (3, vi v3), (4, vi (v4 + 1))] [] M)) ∧ (¬ (M (k0 + 1) v4 < v3) → (post 0 M)))))) : Gx x 5 3 [(0, vr (xg x) k0), (1, vi v1), (2, vi v2), (3, vi v3), (4, vi v4)] [] M := by
  refine g_iload (q := 5) C dX1_areMentioned_3 rfl 4 rfl ?_
  refine g_iload_n (q := 6) C dX1_areMentioned_5 rfl 1 rfl rfl ?_
  refine g_iload_n (q := 7) C dX1_areMentioned_6 rfl 2 rfl rfl ?_
  refine g_iadd (q := 8) C dX1_areMentioned_7 rfl ?_
  obtain ⟨hr, Ht, Hf⟩ := H
  refine g_icmp_ge (q := 11) (t := 30) C dX1_areMentioned_8 rfl (by decide) hr (fun hc => ?_) (fun hc => ?_)
  · have H := Ht hc
    refine g_iconst (q := 31) C dX1_areMentioned_30 rfl ?_
    exact g_zret C hR dX1_areMentioned_31 rfl (by decide) H
  · have H := Hf hc
    refine g_aload_n (q := 12) C dX1_areMentioned_11 rfl 0 rfl rfl ?_
    refine g_get (q := 15) C (h0).o.1 (celr_1 (h0).o.2) (ci := 1) (i := 5) rfl inlX1 (by decide) wm_3_21 rfl dX1_areMentioned_12 rfl ?_
    refine g_iload (q := 17) C dX1_areMentioned_15 rfl 4 rfl ?_
    obtain ⟨hc, H⟩ := H
    refine g_iald (q := 18) (m := 10) C ((h0).a1).1 ((h0).a1).2.1 ((h0).a1).2.2 hc (by decide) dX1_areMentioned_17 rfl ?_
    refine g_iload_n (q := 19) C dX1_areMentioned_18 rfl 3 rfl rfl ?_
    obtain ⟨hr, Ht, Hf⟩ := H
    refine g_icmp_lt (q := 22) (t := 24) C dX1_areMentioned_19 rfl (by decide) hr (fun hc => ?_) (fun hc => ?_)
    · have H := Ht hc
      refine g_iinc (q := 27) (L2 := [(4, vi (v4 + 1)), (0, vr (xg x) k0), (1, vi v1), (2, vi v2), (3, vi v3)]) C dX1_areMentioned_24 rfl 4 rfl (by decide) rfl ?_
      refine g_goto (t := 3) C dX1_areMentioned_27 (by decide) ?_
      refine g_sub [1, 2, 3, 4, 0] rfl ?_
      exact H
    · have H := Hf hc
      refine g_iconst (q := 23) C dX1_areMentioned_22 rfl ?_
      exact g_zret C hR dX1_areMentioned_23 rfl (by decide) H
set_option maxRecDepth 10000 in
set_option maxHeartbeats 2000000 in
theorem X1_isEnd_0 {x : Xx} {post : Int → Mm → Prop} (C : Cx x mX1_isEnd) (hR : Rt x mX1_isEnd post) {k0 : Nat} (h0 : isMe k0) (v1 v2 : Int) (M : Mm) (H : (inR v1 ∧ inR (M k0 0)) ∧ (¬ (v1 = M k0 0) → (post 0 M)) ∧ (v1 = M k0 0 → ((inR v2 ∧ inR (M k0 1)) ∧ (¬ (v2 = M k0 1) → (post 0 M)) ∧ (v2 = M k0 1 → (post 1 M))))) : Gx x 3 0 [(0, vr (xg x) k0), (1, vi v1), (2, vi v2)] [] M := by
  refine g_iload_n (q := 1) C dX1_isEnd_0 rfl 1 rfl rfl ?_
  refine g_aload_n (q := 2) C dX1_isEnd_1 rfl 0 rfl rfl ?_
  refine g_get (q := 5) C (h0).o.1 (celr_1 (h0).o.2) (ci := 1) (i := 0) rfl inlX1 (by decide) wm_10_21 rfl dX1_isEnd_2 rfl ?_
  obtain ⟨hr, Ht, Hf⟩ := H
  refine g_icmp_ne (q := 8) (t := 20) C dX1_isEnd_5 rfl (by decide) hr (fun hc => ?_) (fun hc => ?_)
  · have H := Ht hc
    refine g_iconst (q := 21) C dX1_isEnd_20 rfl ?_
    exact g_zret C hR dX1_isEnd_21 rfl (by decide) H
  · have H := Hf hc
    refine g_iload_n (q := 9) C dX1_isEnd_8 rfl 2 rfl rfl ?_
    refine g_aload_n (q := 10) C dX1_isEnd_9 rfl 0 rfl rfl ?_
    refine g_get (q := 13) C (h0).o.1 (celr_1 (h0).o.2) (ci := 1) (i := 1) rfl inlX1 (by decide) wm_10_22 rfl dX1_isEnd_10 rfl ?_
    obtain ⟨hr, Ht, Hf⟩ := H
    refine g_icmp_ne (q := 16) (t := 20) C dX1_isEnd_13 rfl (by decide) hr (fun hc => ?_) (fun hc => ?_)
    · have H := Ht hc
      refine g_iconst (q := 21) C dX1_isEnd_20 rfl ?_
      exact g_zret C hR dX1_isEnd_21 rfl (by decide) H
    · have H := Hf hc
      refine g_iconst (q := 17) C dX1_isEnd_16 rfl ?_
      refine g_goto (t := 21) C dX1_isEnd_17 (by decide) ?_
      exact g_zret C hR dX1_isEnd_21 rfl (by decide) H
set_option maxRecDepth 10000 in
set_option maxHeartbeats 2000000 in
theorem X1_waiting_0 {x : Xx} {post : Int → Mm → Prop} (C : Cx x mX1_waiting) (hR : Rt x mX1_waiting post) {k0 : Nat} (h0 : isMe k0) (v1 v2 : Int) (M : Mm) (H : Gx x 5 5 [(0, vr (xg x) k0), (1, vi v1), (3, vi 0), (4, vi v2)] [] M) : Gx x 5 0 [(0, vr (xg x) k0), (1, vi v1), (2, vi v2)] [] M := by
  refine g_iconst (q := 1) C dX1_waiting_0 rfl ?_
  refine g_istore_n (q := 2) (L2 := [(3, vi 0), (0, vr (xg x) k0), (1, vi v1), (2, vi v2)]) C dX1_waiting_1 rfl rfl (by decide) rfl ?_
  refine g_iload_n (q := 3) C dX1_waiting_2 rfl 3 rfl rfl ?_
  refine g_istore (q := 5) (L2 := [(4, vi v2), (3, vi 0), (0, vr (xg x) k0), (1, vi v1), (2, vi v2)]) C dX1_waiting_3 rfl (by decide) rfl ?_
  refine g_sub [2, 3, 1, 0] rfl ?_
  exact H
set_option maxRecDepth 10000 in
set_option maxHeartbeats 2000000 in
theorem X1_waiting_5 {x : Xx} {post : Int → Mm → Prop} (C : Cx x mX1_waiting) (hR : Rt x mX1_waiting post) {k0 : Nat} (h0 : isMe k0) (v1 v3 v4 : Int) (M : Mm) (H : (inR v4 ∧ inR (M k0 1)) ∧ (M k0 1 ≤ v4 → (post v3 M)) ∧ (¬ (M k0 1 ≤ v4) → ((0 ≤ v4 ∧ v4 < 10) ∧ ((inR (M (k0 + 1) v4) ∧ inR v1) ∧ (v1 ≤ M (k0 + 1) v4 → (Gx x 5 5 [(0, vr (xg x) k0), (1, vi v1), (3, vi v3), (4, vi (v4 + 1))] [] M)) ∧ (¬ (v1 ≤ M (k0 + 1) v4) → ((0 ≤ v4 ∧ v4 < 31) ∧ ((0 ≤ v3 ∧ (0 : Int) ≤ (2 : Int) ^ v4.toNat) ∧ (∀ w31 : Int, w31 = ((v3.toNat ||| ((2 : Int) ^ v4.toNat).toNat : Nat) : Int) → (Gx x 5 5 [(0, vr (xg x) k0), (1, vi v1), (3, vi w31), (4, vi (v4 + 1))] [] M))))))))) : Gx x 5 5 [(0, vr (xg x) k0), (1, vi v1), (3, vi v3), (4, vi v4)] [] M := by
  refine g_iload (q := 7) C dX1_waiting_5 rfl 3 rfl ?_
  refine g_aload_n (q := 8) C dX1_waiting_7 rfl 0 rfl rfl ?_
  refine g_get (q := 11) C (h0).o.1 (celr_1 (h0).o.2) (ci := 1) (i := 1) rfl inlX1 (by decide) wm_10_22 rfl dX1_waiting_8 rfl ?_
  obtain ⟨hr, Ht, Hf⟩ := H
  refine g_icmp_ge (q := 14) (t := 38) C dX1_waiting_11 rfl (by decide) hr (fun hc => ?_) (fun hc => ?_)
  · have H := Ht hc
    refine g_iload_n (q := 39) C dX1_waiting_38 rfl 2 rfl rfl ?_
    exact g_iret C hR dX1_waiting_39 rfl H
  · have H := Hf hc
    refine g_aload_n (q := 15) C dX1_waiting_14 rfl 0 rfl rfl ?_
    refine g_get (q := 18) C (h0).o.1 (celr_1 (h0).o.2) (ci := 1) (i := 5) rfl inlX1 (by decide) wm_3_21 rfl dX1_waiting_15 rfl ?_
    refine g_iload (q := 20) C dX1_waiting_18 rfl 3 rfl ?_
    obtain ⟨hc, H⟩ := H
    refine g_iald (q := 21) (m := 10) C ((h0).a1).1 ((h0).a1).2.1 ((h0).a1).2.2 hc (by decide) dX1_waiting_20 rfl ?_
    refine g_iload_n (q := 22) C dX1_waiting_21 rfl 1 rfl rfl ?_
    obtain ⟨hr, Ht, Hf⟩ := H
    refine g_icmp_ge (q := 25) (t := 32) C dX1_waiting_22 rfl (by decide) hr (fun hc => ?_) (fun hc => ?_)
    · have H := Ht hc
      refine g_iinc (q := 35) (L2 := [(4, vi (v4 + 1)), (0, vr (xg x) k0), (1, vi v1), (3, vi v3)]) C dX1_waiting_32 rfl 3 rfl (by decide) rfl ?_
      refine g_goto (t := 5) C dX1_waiting_35 (by decide) ?_
      refine g_sub [1, 2, 3, 0] rfl ?_
      exact H
    · have H := Hf hc
      refine g_iload_n (q := 26) C dX1_waiting_25 rfl 2 rfl rfl ?_
      refine g_iconst (q := 27) C dX1_waiting_26 rfl ?_
      refine g_iload (q := 29) C dX1_waiting_27 rfl 3 rfl ?_
      obtain ⟨hc, H⟩ := H
      refine g_ishl (q := 30) C dX1_waiting_29 rfl hc ?_
      obtain ⟨hc, H⟩ := H
      refine g_ior (q := 31) C dX1_waiting_30 rfl hc ?_
      refine g_topi (fun w31 hw31 => ?_)
      have H := H w31 hw31
      refine g_istore_n (q := 32) (L2 := [(3, vi w31), (0, vr (xg x) k0), (1, vi v1), (4, vi v4)]) C dX1_waiting_31 rfl rfl (by decide) rfl ?_
      refine g_iinc (q := 35) (L2 := [(4, vi (v4 + 1)), (3, vi w31), (0, vr (xg x) k0), (1, vi v1)]) C dX1_waiting_32 rfl 3 rfl (by decide) rfl ?_
      refine g_goto (t := 5) C dX1_waiting_35 (by decide) ?_
      refine g_sub [2, 3, 1, 0] rfl ?_
      exact H
set_option maxRecDepth 10000 in
set_option maxHeartbeats 2000000 in
theorem X1_unmentioned_0 {x : Xx} {post : Int → Mm → Prop} (C : Cx x mX1_unmentioned) (hR : Rt x mX1_unmentioned post) {k0 : Nat} (h0 : isMe k0) (v1 v2 : Int) (M : Mm) (H : Gx x 5 5 [(0, vr (xg x) k0), (1, vi v1), (2, vi v2), (3, vi 0), (4, vi 0)] [] M) : Gx x 5 0 [(0, vr (xg x) k0), (1, vi v1), (2, vi v2)] [] M := by
  refine g_iconst (q := 1) C dX1_unmentioned_0 rfl ?_
  refine g_istore_n (q := 2) (L2 := [(3, vi 0), (0, vr (xg x) k0), (1, vi v1), (2, vi v2)]) C dX1_unmentioned_1 rfl rfl (by decide) rfl ?_
  refine g_iconst (q := 3) C dX1_unmentioned_2 rfl ?_
  refine g_istore (q := 5) (L2 := [(4, vi 0), (3, vi 0), (0, vr (xg x) k0), (1, vi v1), (2, vi v2)]) C dX1_unmentioned_3 rfl (by decide) rfl ?_
  refine g_sub [2, 3, 4, 1, 0] rfl ?_
  exact H
set_option maxRecDepth 10000 in
set_option maxHeartbeats 2000000 in
theorem X1_unmentioned_5 {x : Xx} {post : Int → Mm → Prop} (C : Cx x mX1_unmentioned) (hR : Rt x mX1_unmentioned post) {k0 : Nat} (h0 : isMe k0) (v1 v2 v3 v4 : Int) (M : Mm) (H : (inR v4 ∧ inR v2) ∧ (v2 ≤ v4 → (post v3 M)) ∧ (¬ (v2 ≤ v4) → ((0 ≤ v4 ∧ v4 < 10) ∧ ((inR (M (k0 + 1) v4) ∧ inR v1) ∧ (M (k0 + 1) v4 < v1 → (Gx x 5 5 [(0, vr (xg x) k0), (1, vi v1), (2, vi v2), (3, vi v3), (4, vi (v4 + 1))] [] M)) ∧ (¬ (M (k0 + 1) v4 < v1) → ((0 ≤ v4 ∧ v4 < 31) ∧ ((0 ≤ v3 ∧ (0 : Int) ≤ (2 : Int) ^ v4.toNat) ∧ (∀ w28 : Int, w28 = ((v3.toNat ||| ((2 : Int) ^ v4.toNat).toNat : Nat) : Int) → (Gx x 5 5 [(0, vr (xg x) k0), (1, vi v1), (2, vi v2), (3, vi w28), (4, vi (v4 + 1))] [] M))))))))) : Gx x 5 5 [(0, vr (xg x) k0), (1, vi v1), (2, vi v2), (3, vi v3), (4, vi v4)] [] M := by
  refine g_iload (q := 7) C dX1_unmentioned_5 rfl 4 rfl ?_
  refine g_iload_n (q := 8) C dX1_unmentioned_7 rfl 2 rfl rfl ?_
  obtain ⟨hr, Ht, Hf⟩ := H
  refine g_icmp_ge (q := 11) (t := 35) C dX1_unmentioned_8 rfl (by decide) hr (fun hc => ?_) (fun hc => ?_)
  · have H := Ht hc
    refine g_iload_n (q := 36) C dX1_unmentioned_35 rfl 3 rfl rfl ?_
    exact g_iret C hR dX1_unmentioned_36 rfl H
  · have H := Hf hc
    refine g_aload_n (q := 12) C dX1_unmentioned_11 rfl 0 rfl rfl ?_
    refine g_get (q := 15) C (h0).o.1 (celr_1 (h0).o.2) (ci := 1) (i := 5) rfl inlX1 (by decide) wm_3_21 rfl dX1_unmentioned_12 rfl ?_
    refine g_iload (q := 17) C dX1_unmentioned_15 rfl 4 rfl ?_
    obtain ⟨hc, H⟩ := H
    refine g_iald (q := 18) (m := 10) C ((h0).a1).1 ((h0).a1).2.1 ((h0).a1).2.2 hc (by decide) dX1_unmentioned_17 rfl ?_
    refine g_iload_n (q := 19) C dX1_unmentioned_18 rfl 1 rfl rfl ?_
    obtain ⟨hr, Ht, Hf⟩ := H
    refine g_icmp_lt (q := 22) (t := 29) C dX1_unmentioned_19 rfl (by decide) hr (fun hc => ?_) (fun hc => ?_)
    · have H := Ht hc
      refine g_iinc (q := 32) (L2 := [(4, vi (v4 + 1)), (0, vr (xg x) k0), (1, vi v1), (2, vi v2), (3, vi v3)]) C dX1_unmentioned_29 rfl 4 rfl (by decide) rfl ?_
      refine g_goto (t := 5) C dX1_unmentioned_32 (by decide) ?_
      refine g_sub [1, 2, 3, 4, 0] rfl ?_
      exact H
    · have H := Hf hc
      refine g_iload_n (q := 23) C dX1_unmentioned_22 rfl 3 rfl rfl ?_
      refine g_iconst (q := 24) C dX1_unmentioned_23 rfl ?_
      refine g_iload (q := 26) C dX1_unmentioned_24 rfl 4 rfl ?_
      obtain ⟨hc, H⟩ := H
      refine g_ishl (q := 27) C dX1_unmentioned_26 rfl hc ?_
      obtain ⟨hc, H⟩ := H
      refine g_ior (q := 28) C dX1_unmentioned_27 rfl hc ?_
      refine g_topi (fun w28 hw28 => ?_)
      have H := H w28 hw28
      refine g_istore_n (q := 29) (L2 := [(3, vi w28), (0, vr (xg x) k0), (1, vi v1), (2, vi v2), (4, vi v4)]) C dX1_unmentioned_28 rfl rfl (by decide) rfl ?_
      refine g_iinc (q := 32) (L2 := [(4, vi (v4 + 1)), (3, vi w28), (0, vr (xg x) k0), (1, vi v1), (2, vi v2)]) C dX1_unmentioned_29 rfl 4 rfl (by decide) rfl ?_
      refine g_goto (t := 5) C dX1_unmentioned_32 (by decide) ?_
      refine g_sub [2, 3, 4, 1, 0] rfl ?_
      exact H
