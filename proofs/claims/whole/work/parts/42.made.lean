set_option maxRecDepth 20000 in
set_option maxHeartbeats 4000000 in
theorem kX6_init {l : Launch} {D : va_G} {t : T5} : Cc l D t mX6_init 13 6306 (.inr (6, [.null, .null, vi 0, .null, .null, .null, vi 0, .null, .null, .null, .null, .null, vi 0, .null, .null, .null])) (fun h0 w => ∃ (a0 a1 a2 a3 a4 a5 a6 a7 a8 a9 a10 a11 a12 a13 : Nat), a0 = h0 ∧ w = moL t a0 a1 a2 a3 a4 a5 a6 a7 a8 a9 a10 a11 a12 a13) := by
  refine cc_of (by decide) (by decide) rfl ?_
  intro x h0 hl hD C hR
  subst hl
  subst hD
  refine n_aload_n (q := 1) C dX6_init_0 rfl 0 rfl rfl ?_
  refine n_objInit (q := 4) (st := []) C wn_4_10 wn_1_10 wn_1_11 rfl (by decide) dX6_init_1 rfl ?_
  refine n_aload_n (q := 5) C dX6_init_4 rfl 0 rfl rfl ?_
  refine n_bipush (q := 7) (z := 47) C dX6_init_5 rfl (by decide) ?_
  refine n_newaH (q := 9) (atype := .int) (N := 47) (a0 := (47, .inl (fun _ => jI 0))) (cA := t.1) (c2 := 1) (s2 := 47) C wn_2_11 rfl 0 rfl (ha_i 47) (jN_n 47 rfl (Nat.le_of_ble_eq_true rfl)) (jN_t 47 rfl (Nat.le_of_ble_eq_true rfl)) (Nat.le_of_ble_eq_true rfl) ⟨Nat.le_of_ble_eq_true rfl, Nat.le_of_ble_eq_true rfl⟩ ⟨rfl, rfl⟩ dX6_init_7 rfl (fun a7 => ?_)
  refine n_putHF (q := 12) (i := 0) (v := .ref a7) (fs2 := [.ref a7, .null, vi 0, .null, .null, .null, vi 0, .null, .null, .null, .null, .null, vi 0, .null, .null, .null]) C hR.1 rfl inlX6 tyX6_ok nmX6 (by decide) wn_4_11 rfl rfl (tyX6_ok 0 (by decide)) rfl rfl (Nat.le_of_ble_eq_true rfl) rfl dX6_init_9 rfl ?_
  refine n_aload_n (q := 13) C dX6_init_12 rfl 0 rfl rfl ?_
  refine n_bipush (q := 15) (z := 47) C dX6_init_13 rfl (by decide) ?_
  refine n_newaH (q := 17) (atype := .int) (N := 47) (a0 := (47, .inl (fun _ => jI 0))) (cA := t.1) (c2 := 2) (s2 := 94) C wn_2_11 rfl 0 rfl (ha_i 47) (jN_n 47 rfl (Nat.le_of_ble_eq_true rfl)) (jN_t 47 rfl (Nat.le_of_ble_eq_true rfl)) (Nat.le_of_ble_eq_true rfl) ⟨Nat.le_of_ble_eq_true rfl, Nat.le_of_ble_eq_true rfl⟩ ⟨rfl, rfl⟩ dX6_init_15 rfl (fun a15 => ?_)
  refine n_putHF (q := 20) (i := 1) (v := .ref a15) (fs2 := [.ref a7, .ref a15, vi 0, .null, .null, .null, vi 0, .null, .null, .null, .null, .null, vi 0, .null, .null, .null]) C hR.1 rfl inlX6 tyX6_ok nmX6 (by decide) wn_4_12 rfl rfl (tyX6_ok 1 (by decide)) rfl rfl (Nat.le_of_ble_eq_true rfl) rfl dX6_init_17 rfl ?_
  refine n_aload_n (q := 21) C dX6_init_20 rfl 0 rfl rfl ?_
  refine n_sipush (q := 24) (z := 282) C dX6_init_21 rfl (by decide) ?_
  refine n_newaH (q := 26) (atype := .int) (N := 282) (a0 := (282, .inl (fun _ => jI 0))) (cA := t.1) (c2 := 3) (s2 := 376) C wn_2_11 rfl 0 rfl (ha_i 282) (jN_n 282 rfl (Nat.le_of_ble_eq_true rfl)) (jN_t 282 rfl (Nat.le_of_ble_eq_true rfl)) (Nat.le_of_ble_eq_true rfl) ⟨Nat.le_of_ble_eq_true rfl, Nat.le_of_ble_eq_true rfl⟩ ⟨rfl, rfl⟩ dX6_init_24 rfl (fun a24 => ?_)
  refine n_putHF (q := 29) (i := 3) (v := .ref a24) (fs2 := [.ref a7, .ref a15, vi 0, .ref a24, .null, .null, vi 0, .null, .null, .null, .null, .null, vi 0, .null, .null, .null]) C hR.1 rfl inlX6 tyX6_ok nmX6 (by decide) wn_4_13 rfl rfl (tyX6_ok 3 (by decide)) rfl rfl (Nat.le_of_ble_eq_true rfl) rfl dX6_init_26 rfl ?_
  refine n_aload_n (q := 30) C dX6_init_29 rfl 0 rfl rfl ?_
  refine n_bipush (q := 32) (z := 94) C dX6_init_30 rfl (by decide) ?_
  refine n_newaH (q := 34) (atype := .int) (N := 94) (a0 := (94, .inl (fun _ => jI 0))) (cA := t.1) (c2 := 4) (s2 := 470) C wn_2_11 rfl 0 rfl (ha_i 94) (jN_n 94 rfl (Nat.le_of_ble_eq_true rfl)) (jN_t 94 rfl (Nat.le_of_ble_eq_true rfl)) (Nat.le_of_ble_eq_true rfl) ⟨Nat.le_of_ble_eq_true rfl, Nat.le_of_ble_eq_true rfl⟩ ⟨rfl, rfl⟩ dX6_init_32 rfl (fun a32 => ?_)
  refine n_putHF (q := 37) (i := 4) (v := .ref a32) (fs2 := [.ref a7, .ref a15, vi 0, .ref a24, .ref a32, .null, vi 0, .null, .null, .null, .null, .null, vi 0, .null, .null, .null]) C hR.1 rfl inlX6 tyX6_ok nmX6 (by decide) wn_4_14 rfl rfl (tyX6_ok 4 (by decide)) rfl rfl (Nat.le_of_ble_eq_true rfl) rfl dX6_init_34 rfl ?_
  refine n_aload_n (q := 38) C dX6_init_37 rfl 0 rfl rfl ?_
  refine n_iconst (q := 39) (z := 2) C dX6_init_38 rfl ?_
  refine n_newaH (q := 41) (atype := .boolean) (N := 2) (a0 := (2, .inl (fun _ => jI 0))) (cA := t.2.2.1) (c2 := 5) (s2 := 472) C wn_1_18 rfl 2 rfl (ha_z 2) (jN_n 2 rfl (Nat.le_of_ble_eq_true rfl)) (jN_t 2 rfl (Nat.le_of_ble_eq_true rfl)) (Nat.le_of_ble_eq_true rfl) ⟨Nat.le_of_ble_eq_true rfl, Nat.le_of_ble_eq_true rfl⟩ ⟨rfl, rfl⟩ dX6_init_39 rfl (fun a39 => ?_)
  refine n_putHF (q := 44) (i := 5) (v := .ref a39) (fs2 := [.ref a7, .ref a15, vi 0, .ref a24, .ref a32, .ref a39, vi 0, .null, .null, .null, .null, .null, vi 0, .null, .null, .null]) C hR.1 rfl inlX6 tyX6_ok nmX6 (by decide) wn_4_15 rfl rfl (tyX6_ok 5 (by decide)) rfl rfl (Nat.le_of_ble_eq_true rfl) rfl dX6_init_41 rfl ?_
  refine n_aload_n (q := 45) C dX6_init_44 rfl 0 rfl rfl ?_
  refine n_bipush (q := 47) (z := 30) C dX6_init_45 rfl (by decide) ?_
  refine n_newaH (q := 49) (atype := .int) (N := 30) (a0 := (30, .inl (fun _ => jI 0))) (cA := t.1) (c2 := 6) (s2 := 502) C wn_2_11 rfl 0 rfl (ha_i 30) (jN_n 30 rfl (Nat.le_of_ble_eq_true rfl)) (jN_t 30 rfl (Nat.le_of_ble_eq_true rfl)) (Nat.le_of_ble_eq_true rfl) ⟨Nat.le_of_ble_eq_true rfl, Nat.le_of_ble_eq_true rfl⟩ ⟨rfl, rfl⟩ dX6_init_47 rfl (fun a47 => ?_)
  refine n_putHF (q := 52) (i := 7) (v := .ref a47) (fs2 := [.ref a7, .ref a15, vi 0, .ref a24, .ref a32, .ref a39, vi 0, .ref a47, .null, .null, .null, .null, vi 0, .null, .null, .null]) C hR.1 rfl inlX6 tyX6_ok nmX6 (by decide) wn_4_16 rfl rfl (tyX6_ok 7 (by decide)) rfl rfl (Nat.le_of_ble_eq_true rfl) rfl dX6_init_49 rfl ?_
  refine n_aload_n (q := 53) C dX6_init_52 rfl 0 rfl rfl ?_
  refine n_sipush (q := 56) (z := 1331) C dX6_init_53 rfl (by decide) ?_
  refine n_newaH (q := 58) (atype := .int) (N := 1331) (a0 := (1331, .inl (fun _ => jI 0))) (cA := t.1) (c2 := 7) (s2 := 1833) C wn_2_11 rfl 0 rfl (ha_i 1331) (jN_n 1331 rfl (Nat.le_of_ble_eq_true rfl)) (jN_t 1331 rfl (Nat.le_of_ble_eq_true rfl)) (Nat.le_of_ble_eq_true rfl) ⟨Nat.le_of_ble_eq_true rfl, Nat.le_of_ble_eq_true rfl⟩ ⟨rfl, rfl⟩ dX6_init_56 rfl (fun a56 => ?_)
  refine n_putHF (q := 61) (i := 8) (v := .ref a56) (fs2 := [.ref a7, .ref a15, vi 0, .ref a24, .ref a32, .ref a39, vi 0, .ref a47, .ref a56, .null, .null, .null, vi 0, .null, .null, .null]) C hR.1 rfl inlX6 tyX6_ok nmX6 (by decide) wn_4_17 rfl rfl (tyX6_ok 8 (by decide)) rfl rfl (Nat.le_of_ble_eq_true rfl) rfl dX6_init_58 rfl ?_
  refine n_aload_n (q := 62) C dX6_init_61 rfl 0 rfl rfl ?_
  refine n_sipush (q := 65) (z := 1331) C dX6_init_62 rfl (by decide) ?_
  refine n_newaH (q := 67) (atype := .int) (N := 1331) (a0 := (1331, .inl (fun _ => jI 0))) (cA := t.1) (c2 := 8) (s2 := 3164) C wn_2_11 rfl 0 rfl (ha_i 1331) (jN_n 1331 rfl (Nat.le_of_ble_eq_true rfl)) (jN_t 1331 rfl (Nat.le_of_ble_eq_true rfl)) (Nat.le_of_ble_eq_true rfl) ⟨Nat.le_of_ble_eq_true rfl, Nat.le_of_ble_eq_true rfl⟩ ⟨rfl, rfl⟩ dX6_init_65 rfl (fun a65 => ?_)
  refine n_putHF (q := 70) (i := 9) (v := .ref a65) (fs2 := [.ref a7, .ref a15, vi 0, .ref a24, .ref a32, .ref a39, vi 0, .ref a47, .ref a56, .ref a65, .null, .null, vi 0, .null, .null, .null]) C hR.1 rfl inlX6 tyX6_ok nmX6 (by decide) wn_4_18 rfl rfl (tyX6_ok 9 (by decide)) rfl rfl (Nat.le_of_ble_eq_true rfl) rfl dX6_init_67 rfl ?_
  refine n_aload_n (q := 71) C dX6_init_70 rfl 0 rfl rfl ?_
  refine n_sipush (q := 74) (z := 1331) C dX6_init_71 rfl (by decide) ?_
  refine n_newaH (q := 76) (atype := .long) (N := 1331) (a0 := (1331, .inr (.inl (fun _ => jL 0)))) (cA := t.2.1) (c2 := 9) (s2 := 4495) C wn_3_16 rfl 1 rfl (ha_l 1331) (jN_n 1331 rfl (Nat.le_of_ble_eq_true rfl)) (jN_t 1331 rfl (Nat.le_of_ble_eq_true rfl)) (Nat.le_of_ble_eq_true rfl) ⟨Nat.le_of_ble_eq_true rfl, Nat.le_of_ble_eq_true rfl⟩ ⟨rfl, rfl⟩ dX6_init_74 rfl (fun a74 => ?_)
  refine n_putHF (q := 79) (i := 10) (v := .ref a74) (fs2 := [.ref a7, .ref a15, vi 0, .ref a24, .ref a32, .ref a39, vi 0, .ref a47, .ref a56, .ref a65, .ref a74, .null, vi 0, .null, .null, .null]) C hR.1 rfl inlX6 tyX6_ok nmX6 (by decide) wn_4_19 rfl rfl (tyX6_ok 10 (by decide)) rfl rfl (Nat.le_of_ble_eq_true rfl) rfl dX6_init_76 rfl ?_
  refine n_aload_n (q := 80) C dX6_init_79 rfl 0 rfl rfl ?_
  refine n_sipush (q := 83) (z := 1331) C dX6_init_80 rfl (by decide) ?_
  refine n_newaH (q := 85) (atype := .boolean) (N := 1331) (a0 := (1331, .inl (fun _ => jI 0))) (cA := t.2.2.1) (c2 := 10) (s2 := 5826) C wn_1_18 rfl 2 rfl (ha_z 1331) (jN_n 1331 rfl (Nat.le_of_ble_eq_true rfl)) (jN_t 1331 rfl (Nat.le_of_ble_eq_true rfl)) (Nat.le_of_ble_eq_true rfl) ⟨Nat.le_of_ble_eq_true rfl, Nat.le_of_ble_eq_true rfl⟩ ⟨rfl, rfl⟩ dX6_init_83 rfl (fun a83 => ?_)
  refine n_putHF (q := 88) (i := 11) (v := .ref a83) (fs2 := [.ref a7, .ref a15, vi 0, .ref a24, .ref a32, .ref a39, vi 0, .ref a47, .ref a56, .ref a65, .ref a74, .ref a83, vi 0, .null, .null, .null]) C hR.1 rfl inlX6 tyX6_ok nmX6 (by decide) wn_4_20 rfl rfl (tyX6_ok 11 (by decide)) rfl rfl (Nat.le_of_ble_eq_true rfl) rfl dX6_init_85 rfl ?_
  refine n_aload_n (q := 89) C dX6_init_88 rfl 0 rfl rfl ?_
  refine n_sipush (q := 92) (z := 160) C dX6_init_89 rfl (by decide) ?_
  refine n_newaH (q := 94) (atype := .int) (N := 160) (a0 := (160, .inl (fun _ => jI 0))) (cA := t.1) (c2 := 11) (s2 := 5986) C wn_2_11 rfl 0 rfl (ha_i 160) (jN_n 160 rfl (Nat.le_of_ble_eq_true rfl)) (jN_t 160 rfl (Nat.le_of_ble_eq_true rfl)) (Nat.le_of_ble_eq_true rfl) ⟨Nat.le_of_ble_eq_true rfl, Nat.le_of_ble_eq_true rfl⟩ ⟨rfl, rfl⟩ dX6_init_92 rfl (fun a92 => ?_)
  refine n_putHF (q := 97) (i := 13) (v := .ref a92) (fs2 := [.ref a7, .ref a15, vi 0, .ref a24, .ref a32, .ref a39, vi 0, .ref a47, .ref a56, .ref a65, .ref a74, .ref a83, vi 0, .ref a92, .null, .null]) C hR.1 rfl inlX6 tyX6_ok nmX6 (by decide) wn_4_21 rfl rfl (tyX6_ok 13 (by decide)) rfl rfl (Nat.le_of_ble_eq_true rfl) rfl dX6_init_94 rfl ?_
  refine n_aload_n (q := 98) C dX6_init_97 rfl 0 rfl rfl ?_
  refine n_sipush (q := 101) (z := 160) C dX6_init_98 rfl (by decide) ?_
  refine n_newaH (q := 103) (atype := .int) (N := 160) (a0 := (160, .inl (fun _ => jI 0))) (cA := t.1) (c2 := 12) (s2 := 6146) C wn_2_11 rfl 0 rfl (ha_i 160) (jN_n 160 rfl (Nat.le_of_ble_eq_true rfl)) (jN_t 160 rfl (Nat.le_of_ble_eq_true rfl)) (Nat.le_of_ble_eq_true rfl) ⟨Nat.le_of_ble_eq_true rfl, Nat.le_of_ble_eq_true rfl⟩ ⟨rfl, rfl⟩ dX6_init_101 rfl (fun a101 => ?_)
  refine n_putHF (q := 106) (i := 14) (v := .ref a101) (fs2 := [.ref a7, .ref a15, vi 0, .ref a24, .ref a32, .ref a39, vi 0, .ref a47, .ref a56, .ref a65, .ref a74, .ref a83, vi 0, .ref a92, .ref a101, .null]) C hR.1 rfl inlX6 tyX6_ok nmX6 (by decide) wn_4_22 rfl rfl (tyX6_ok 14 (by decide)) rfl rfl (Nat.le_of_ble_eq_true rfl) rfl dX6_init_103 rfl ?_
  refine n_aload_n (q := 107) C dX6_init_106 rfl 0 rfl rfl ?_
  refine n_sipush (q := 110) (z := 160) C dX6_init_107 rfl (by decide) ?_
  refine n_newaH (q := 112) (atype := .int) (N := 160) (a0 := (160, .inl (fun _ => jI 0))) (cA := t.1) (c2 := 13) (s2 := 6306) C wn_2_11 rfl 0 rfl (ha_i 160) (jN_n 160 rfl (Nat.le_of_ble_eq_true rfl)) (jN_t 160 rfl (Nat.le_of_ble_eq_true rfl)) (Nat.le_of_ble_eq_true rfl) ⟨Nat.le_of_ble_eq_true rfl, Nat.le_of_ble_eq_true rfl⟩ ⟨rfl, rfl⟩ dX6_init_110 rfl (fun a110 => ?_)
  refine n_putHF (q := 115) (i := 15) (v := .ref a110) (fs2 := [.ref a7, .ref a15, vi 0, .ref a24, .ref a32, .ref a39, vi 0, .ref a47, .ref a56, .ref a65, .ref a74, .ref a83, vi 0, .ref a92, .ref a101, .ref a110]) C hR.1 rfl inlX6 tyX6_ok nmX6 (by decide) wn_4_23 rfl rfl (tyX6_ok 15 (by decide)) rfl rfl (Nat.le_of_ble_eq_true rfl) rfl dX6_init_112 rfl ?_
  refine n_aload_n (q := 116) C dX6_init_115 rfl 0 rfl rfl ?_
  refine n_getH (q := 119) (i := 0) C rfl inlX6 (by decide) wn_4_11 rfl dX6_init_116 rfl ?_
  refine n_iconst (q := 120) (z := 0) C dX6_init_119 rfl ?_
  refine n_bipush (q := 122) (z := 40) C dX6_init_120 rfl (by decide) ?_
  refine n_iastR (q := 123) C (Rep.tail (Rep.left (Rep.left (Rep.left (Rep.left (Rep.left (Rep.left (Rep.left (Rep.left (Rep.left (Rep.left (Rep.left (Rep.left (Rep.right Rep.here)))))))))))))) (by decide) (by decide) dX6_init_122 rfl ?_
  refine n_aload_n (q := 124) C dX6_init_123 rfl 0 rfl rfl ?_
  refine n_getH (q := 127) (i := 0) C rfl inlX6 (by decide) wn_4_11 rfl dX6_init_124 rfl ?_
  refine n_iconst (q := 128) (z := 1) C dX6_init_127 rfl ?_
  refine n_bipush (q := 130) (z := 10) C dX6_init_128 rfl (by decide) ?_
  refine n_iastR (q := 131) C (Rep.tail (Rep.left (Rep.left (Rep.left (Rep.left (Rep.left (Rep.left (Rep.left (Rep.left (Rep.left (Rep.left (Rep.left (Rep.left (Rep.right Rep.here)))))))))))))) (by decide) (by decide) dX6_init_130 rfl ?_
  refine n_aload_n (q := 132) C dX6_init_131 rfl 0 rfl rfl ?_
  refine n_getH (q := 135) (i := 0) C rfl inlX6 (by decide) wn_4_11 rfl dX6_init_132 rfl ?_
  refine n_iconst (q := 136) (z := 2) C dX6_init_135 rfl ?_
  refine n_iconst (q := 137) (z := 2) C dX6_init_136 rfl ?_
  refine n_iastR (q := 138) C (Rep.tail (Rep.left (Rep.left (Rep.left (Rep.left (Rep.left (Rep.left (Rep.left (Rep.left (Rep.left (Rep.left (Rep.left (Rep.left (Rep.right Rep.here)))))))))))))) (by decide) (by decide) dX6_init_137 rfl ?_
  refine n_aload_n (q := 139) C dX6_init_138 rfl 0 rfl rfl ?_
  refine n_getH (q := 142) (i := 0) C rfl inlX6 (by decide) wn_4_11 rfl dX6_init_139 rfl ?_
  refine n_iconst (q := 143) (z := 3) C dX6_init_142 rfl ?_
  refine n_bipush (q := 145) (z := 6) C dX6_init_143 rfl (by decide) ?_
  refine n_iastR (q := 146) C (Rep.tail (Rep.left (Rep.left (Rep.left (Rep.left (Rep.left (Rep.left (Rep.left (Rep.left (Rep.left (Rep.left (Rep.left (Rep.left (Rep.right Rep.here)))))))))))))) (by decide) (by decide) dX6_init_145 rfl ?_
  refine n_aload_n (q := 147) C dX6_init_146 rfl 0 rfl rfl ?_
  refine n_getH (q := 150) (i := 0) C rfl inlX6 (by decide) wn_4_11 rfl dX6_init_147 rfl ?_
  refine n_iconst (q := 151) (z := 4) C dX6_init_150 rfl ?_
  refine n_iconst (q := 152) (z := 3) C dX6_init_151 rfl ?_
  refine n_iastR (q := 153) C (Rep.tail (Rep.left (Rep.left (Rep.left (Rep.left (Rep.left (Rep.left (Rep.left (Rep.left (Rep.left (Rep.left (Rep.left (Rep.left (Rep.right Rep.here)))))))))))))) (by decide) (by decide) dX6_init_152 rfl ?_
  exact n_ret C hR ⟨rfl, rfl⟩ dX6_init_153 ⟨h0, a7, a15, a24, a32, a39, a47, a56, a65, a74, a83, a92, a101, a110, rfl, rfl⟩
