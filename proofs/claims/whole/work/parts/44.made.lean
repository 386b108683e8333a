set_option maxRecDepth 20000 in
set_option maxHeartbeats 4000000 in
theorem kX5_init {l : Launch} {D : va_G} {t : T5} : Cc l D t mX5_init 104 11530 (.inr (5, [.null, .null, .null, .null, .null, .null, .null, .null, .null, .null, .null, vi 0, vi 0])) (fun h0 w => ∃ (a0 a1 a2 a3 n0_0 n0_1 n0_2 n1_0 n1_1 n1_2 n2_0 n2_1 n2_2 n3_0 n3_1 n3_2 h_0 h_1 h_2 h_3 h_4 h_5 h_6 h_7 h_8 h_9 h_10 h_11 h_12 h_13 h_14 h_15 h_16 h_17 h_18 h_19 p0_0 p0_1 p0_2 p0_3 p0_4 p0_5 p0_6 p0_7 p0_8 p0_9 p1_0 p1_1 p1_2 p1_3 p1_4 p1_5 p1_6 p1_7 p1_8 p1_9 l0_0 l0_1 l0_2 l1_0 l1_1 l1_2 l2_0 l2_1 l2_2 : Nat), a0 = h0 ∧ w = nfL t a0 a1 a2 a3 n0_0 n0_1 n0_2 n1_0 n1_1 n1_2 n2_0 n2_1 n2_2 n3_0 n3_1 n3_2 h_0 h_1 h_2 h_3 h_4 h_5 h_6 h_7 h_8 h_9 h_10 h_11 h_12 h_13 h_14 h_15 h_16 h_17 h_18 h_19 p0_0 p0_1 p0_2 p0_3 p0_4 p0_5 p0_6 p0_7 p0_8 p0_9 p1_0 p1_1 p1_2 p1_3 p1_4 p1_5 p1_6 p1_7 p1_8 p1_9 l0_0 l0_1 l0_2 l1_0 l1_1 l1_2 l2_0 l2_1 l2_2) := by
  refine cc_of (by decide) (by decide) rfl ?_
  intro x h0 hl hD C hR
  subst hl
  subst hD
  refine n_aload_n (q := 1) C dX5_init_0 rfl 0 rfl rfl ?_
  refine n_objInit (q := 4) (st := []) C wn_1_9 wn_1_10 wn_1_11 rfl (by decide) dX5_init_1 rfl ?_
  refine n_aload_n (q := 5) C dX5_init_4 rfl 0 rfl rfl ?_
  refine n_newH (q := 8) (ci := 4) (fs := [.null, .null, vi 0]) (c2 := 1) (s2 := 3) C rfl inlX4 tyX4_ok wn_1_12 wn_1_13 wn_1_14 hfsX4 ⟨Nat.le_of_ble_eq_true rfl, Nat.le_of_ble_eq_true rfl⟩ ⟨rfl, rfl⟩ dX5_init_5 rfl (fun a5_4 => ?_)
  refine n_dup (q := 9) C dX5_init_8 rfl rfl ?_
  refine n_callINH (q := 12) (st := [.ref a5_4, .ref h0]) (c2 := 7) (s2 := 53) C mX4_init kX4_init (by decide) wn_2_15 wn_1_14 wn_2_16 rfl (by decide +kernel) rfl (by decide) (Nat.le_of_ble_eq_true rfl) ⟨Nat.le_of_ble_eq_true rfl, Nat.le_of_ble_eq_true rfl⟩ ⟨rfl, rfl⟩ dX5_init_9 rfl (fun w hw => ?_)
  obtain ⟨u0_0, u0_1, u0_2, eu0, rfl⟩ := hw
  subst eu0
  refine n_putHF (q := 15) (i := 0) (v := .ref u0_0) (fs2 := [.ref u0_0, .null, .null, .null, .null, .null, .null, .null, .null, .null, .null, vi 0, vi 0]) C hR.1 rfl inlX5 tyX5_ok nmX5 (by decide) wn_1_15 rfl rfl (tyX5_ok 0 (by decide)) rfl rfl (Nat.le_of_ble_eq_true rfl) rfl dX5_init_12 rfl ?_
  refine n_aload_n (q := 16) C dX5_init_15 rfl 0 rfl rfl ?_
  refine n_newH (q := 19) (ci := 4) (fs := [.null, .null, vi 0]) (c2 := 8) (s2 := 56) C rfl inlX4 tyX4_ok wn_1_12 wn_1_13 wn_1_14 hfsX4 ⟨Nat.le_of_ble_eq_true rfl, Nat.le_of_ble_eq_true rfl⟩ ⟨rfl, rfl⟩ dX5_init_16 rfl (fun a16_9 => ?_)
  refine n_dup (q := 20) C dX5_init_19 rfl rfl ?_
  refine n_callINH (q := 23) (st := [.ref a16_9, .ref h0]) (c2 := 14) (s2 := 106) C mX4_init kX4_init (by decide) wn_2_15 wn_1_14 wn_2_16 rfl (by decide +kernel) rfl (by decide) (Nat.le_of_ble_eq_true rfl) ⟨Nat.le_of_ble_eq_true rfl, Nat.le_of_ble_eq_true rfl⟩ ⟨rfl, rfl⟩ dX5_init_20 rfl (fun w hw => ?_)
  obtain ⟨u1_0, u1_1, u1_2, eu1, rfl⟩ := hw
  subst eu1
  refine n_putHF (q := 26) (i := 1) (v := .ref u1_0) (fs2 := [.ref u0_0, .ref u1_0, .null, .null, .null, .null, .null, .null, .null, .null, .null, vi 0, vi 0]) C hR.1 rfl inlX5 tyX5_ok nmX5 (by decide) wn_1_16 rfl rfl (tyX5_ok 1 (by decide)) rfl rfl (Nat.le_of_ble_eq_true rfl) rfl dX5_init_23 rfl ?_
  refine n_aload_n (q := 27) C dX5_init_26 rfl 0 rfl rfl ?_
  refine n_iconst (q := 28) (z := 2) C dX5_init_27 rfl ?_
  refine n_newqH (q := 31) (N := 2) (c2 := 15) (s2 := 108) C wn_1_12 (by decide) (by decide) (Nat.le_of_ble_eq_true rfl) ⟨Nat.le_of_ble_eq_true rfl, Nat.le_of_ble_eq_true rfl⟩ ⟨rfl, rfl⟩ dX5_init_28 rfl (fun a28 => ?_)
  refine n_putHF (q := 34) (i := 2) (v := .ref a28) (fs2 := [.ref u0_0, .ref u1_0, .ref a28, .null, .null, .null, .null, .null, .null, .null, .null, vi 0, vi 0]) C hR.1 rfl inlX5 tyX5_ok nmX5 (by decide) wn_1_17 rfl rfl (tyX5_ok 2 (by decide)) rfl rfl (Nat.le_of_ble_eq_true rfl) rfl dX5_init_31 rfl ?_
  refine n_iconst (q := 35) (z := 0) C dX5_init_34 rfl ?_
  refine n_istore_n (q := 36) (L2 := [(1, vi 0), (0, .ref h0)]) C dX5_init_35 rfl rfl (by decide) rfl ?_
  refine n_iload_n (q := 37) C dX5_init_36 rfl 0 rfl rfl ?_
  refine n_iconst (q := 38) (z := 2) C dX5_init_37 rfl ?_
  refine n_geF (q := 41) (u := 60) C dX5_init_38 rfl (by decide) (by decide) ?_
  refine n_aload_n (q := 42) C dX5_init_41 rfl 1 rfl rfl ?_
  refine n_getH (q := 45) (i := 2) C rfl inlX5 (by decide) wn_1_17 rfl dX5_init_42 rfl ?_
  refine n_iload_n (q := 46) C dX5_init_45 rfl 0 rfl rfl ?_
  refine n_newH (q := 49) (ci := 4) (fs := [.null, .null, vi 0]) (c2 := 16) (s2 := 111) C rfl inlX4 tyX4_ok wn_1_12 wn_1_13 wn_1_14 hfsX4 ⟨Nat.le_of_ble_eq_true rfl, Nat.le_of_ble_eq_true rfl⟩ ⟨rfl, rfl⟩ dX5_init_46 rfl (fun a46_25 => ?_)
  refine n_dup (q := 50) C dX5_init_49 rfl rfl ?_
  refine n_callINH (q := 53) (st := [.ref a46_25, vi 0, .ref a28]) (c2 := 22) (s2 := 161) C mX4_init kX4_init (by decide) wn_2_15 wn_1_14 wn_2_16 rfl (by decide +kernel) rfl (by decide) (Nat.le_of_ble_eq_true rfl) ⟨Nat.le_of_ble_eq_true rfl, Nat.le_of_ble_eq_true rfl⟩ ⟨rfl, rfl⟩ dX5_init_50 rfl (fun w hw => ?_)
  obtain ⟨u2_0, u2_1, u2_2, eu2, rfl⟩ := hw
  subst eu2
  refine n_aastR (q := 54) C (Rep.tail (Rep.left (Rep.right Rep.here))) (Att.tail (Att.right (Att.left (Att.left Att.here)))) (by decide) (by decide) dX5_init_53 rfl ?_
  refine n_iinc (q := 57) (z := 0) (z2 := 1) (L2 := [(1, vi 1), (0, .ref h0)]) C dX5_init_54 rfl 0 rfl (by decide) rfl rfl ?_
  refine n_goto (u := 36) C dX5_init_57 (by decide) ?_
  refine n_iload_n (q := 37) C dX5_init_36 rfl 0 rfl rfl ?_
  refine n_iconst (q := 38) (z := 2) C dX5_init_37 rfl ?_
  refine n_geF (q := 41) (u := 60) C dX5_init_38 rfl (by decide) (by decide) ?_
  refine n_aload_n (q := 42) C dX5_init_41 rfl 1 rfl rfl ?_
  refine n_getH (q := 45) (i := 2) C rfl inlX5 (by decide) wn_1_17 rfl dX5_init_42 rfl ?_
  refine n_iload_n (q := 46) C dX5_init_45 rfl 0 rfl rfl ?_
  refine n_newH (q := 49) (ci := 4) (fs := [.null, .null, vi 0]) (c2 := 23) (s2 := 164) C rfl inlX4 tyX4_ok wn_1_12 wn_1_13 wn_1_14 hfsX4 ⟨Nat.le_of_ble_eq_true rfl, Nat.le_of_ble_eq_true rfl⟩ ⟨rfl, rfl⟩ dX5_init_46 rfl (fun a46_37 => ?_)
  refine n_dup (q := 50) C dX5_init_49 rfl rfl ?_
  refine n_callINH (q := 53) (st := [.ref a46_37, vi 1, .ref a28]) (c2 := 29) (s2 := 214) C mX4_init kX4_init (by decide) wn_2_15 wn_1_14 wn_2_16 rfl (by decide +kernel) rfl (by decide) (Nat.le_of_ble_eq_true rfl) ⟨Nat.le_of_ble_eq_true rfl, Nat.le_of_ble_eq_true rfl⟩ ⟨rfl, rfl⟩ dX5_init_50 rfl (fun w hw => ?_)
  obtain ⟨u3_0, u3_1, u3_2, eu3, rfl⟩ := hw
  subst eu3
  refine n_aastR (q := 54) C (Rep.tail (Rep.left (Rep.left (Rep.right Rep.here)))) (Att.tail (Att.right (Att.left (Att.left Att.here)))) (by decide) (by decide) dX5_init_53 rfl ?_
  refine n_iinc (q := 57) (z := 1) (z2 := 2) (L2 := [(1, vi 2), (0, .ref h0)]) C dX5_init_54 rfl 0 rfl (by decide) rfl rfl ?_
  refine n_goto (u := 36) C dX5_init_57 (by decide) ?_
  refine n_iload_n (q := 37) C dX5_init_36 rfl 0 rfl rfl ?_
  refine n_iconst (q := 38) (z := 2) C dX5_init_37 rfl ?_
  refine n_geT (u := 60) C dX5_init_38 (by decide) (by decide) ?_
  refine n_aload_n (q := 61) C dX5_init_60 rfl 1 rfl rfl ?_
  refine n_iconst (q := 62) (z := 2) C dX5_init_61 rfl ?_
  refine n_newaH (q := 64) (atype := .boolean) (N := 2) (a0 := (2, .inl (fun _ => jI 0))) (cA := t.2.2.1) (c2 := 30) (s2 := 216) C wn_1_18 rfl 2 rfl (ha_z 2) (jN_n 2 rfl (Nat.le_of_ble_eq_true rfl)) (jN_t 2 rfl (Nat.le_of_ble_eq_true rfl)) (Nat.le_of_ble_eq_true rfl) ⟨Nat.le_of_ble_eq_true rfl, Nat.le_of_ble_eq_true rfl⟩ ⟨rfl, rfl⟩ dX5_init_62 rfl (fun a62 => ?_)
  refine n_putHF (q := 67) (i := 3) (v := .ref a62) (fs2 := [.ref u0_0, .ref u1_0, .ref a28, .ref a62, .null, .null, .null, .null, .null, .null, .null, vi 0, vi 0]) C hR.1 rfl inlX5 tyX5_ok nmX5 (by decide) wn_1_19 rfl rfl (tyX5_ok 3 (by decide)) rfl rfl (Nat.le_of_ble_eq_true rfl) rfl dX5_init_64 rfl ?_
  refine n_aload_n (q := 68) C dX5_init_67 rfl 1 rfl rfl ?_
  refine n_newH (q := 71) (ci := 0) (fs := [.null, vi 0, vi 0]) (c2 := 31) (s2 := 219) C rfl inlX0 tyX0_ok wn_1_20 wn_1_21 wn_1_22 hfsX0 ⟨Nat.le_of_ble_eq_true rfl, Nat.le_of_ble_eq_true rfl⟩ ⟨rfl, rfl⟩ dX5_init_68 rfl (fun a68_51 => ?_)
  refine n_dup (q := 72) C dX5_init_71 rfl rfl ?_
  refine n_callIH (q := 75) (st := [.ref a68_51, .ref h0]) (c2 := 74) (s2 := 543) C mX0_init kX0_init wn_2_22 wn_2_23 wn_1_22 wn_3_0 rfl (by decide +kernel) rfl (by decide) (Nat.le_of_ble_eq_true rfl) ⟨Nat.le_of_ble_eq_true rfl, Nat.le_of_ble_eq_true rfl⟩ ⟨rfl, rfl⟩ dX5_init_72 rfl (fun w hw => ?_)
  obtain ⟨u4_0, u4_1, u4_2, u4_3, u4_4, u4_5, u4_6, u4_7, u4_8, u4_9, u4_10, u4_11, u4_12, u4_13, u4_14, u4_15, u4_16, u4_17, u4_18, u4_19, eu4, rfl⟩ := hw
  subst eu4
  refine n_putHF (q := 78) (i := 4) (v := .ref u4_0) (fs2 := [.ref u0_0, .ref u1_0, .ref a28, .ref a62, .ref u4_0, .null, .null, .null, .null, .null, .null, vi 0, vi 0]) C hR.1 rfl inlX5 tyX5_ok nmX5 (by decide) wn_1_23 rfl rfl (tyX5_ok 4 (by decide)) rfl rfl (Nat.le_of_ble_eq_true rfl) rfl dX5_init_75 rfl ?_
  refine n_aload_n (q := 79) C dX5_init_78 rfl 1 rfl rfl ?_
  refine n_newH (q := 82) (ci := 3) (fs := [.null, .null, .null, .null, .null, vi 0]) (c2 := 75) (s2 := 549) C rfl inlX3 tyX3_ok wn_2_0 wn_2_1 wn_2_2 hfsX3 ⟨Nat.le_of_ble_eq_true rfl, Nat.le_of_ble_eq_true rfl⟩ ⟨rfl, rfl⟩ dX5_init_79 rfl (fun a79_56 => ?_)
  refine n_dup (q := 83) C dX5_init_82 rfl rfl ?_
  refine n_callINH (q := 86) (st := [.ref a79_56, .ref h0]) (c2 := 84) (s2 := 5924) C mX3_init kX3_init (by decide) wn_3_6 wn_2_2 wn_3_7 rfl (by decide +kernel) rfl (by decide) (Nat.le_of_ble_eq_true rfl) ⟨Nat.le_of_ble_eq_true rfl, Nat.le_of_ble_eq_true rfl⟩ ⟨rfl, rfl⟩ dX5_init_83 rfl (fun w hw => ?_)
  obtain ⟨u5_0, u5_1, u5_2, u5_3, u5_4, u5_5, u5_6, u5_7, u5_8, u5_9, eu5, rfl⟩ := hw
  subst eu5
  refine n_putHF (q := 89) (i := 5) (v := .ref u5_0) (fs2 := [.ref u0_0, .ref u1_0, .ref a28, .ref a62, .ref u4_0, .ref u5_0, .null, .null, .null, .null, .null, vi 0, vi 0]) C hR.1 rfl inlX5 tyX5_ok nmX5 (by decide) wn_2_3 rfl rfl (tyX5_ok 5 (by decide)) rfl rfl (Nat.le_of_ble_eq_true rfl) rfl dX5_init_86 rfl ?_
  refine n_aload_n (q := 90) C dX5_init_89 rfl 1 rfl rfl ?_
  refine n_newH (q := 93) (ci := 3) (fs := [.null, .null, .null, .null, .null, vi 0]) (c2 := 85) (s2 := 5930) C rfl inlX3 tyX3_ok wn_2_0 wn_2_1 wn_2_2 hfsX3 ⟨Nat.le_of_ble_eq_true rfl, Nat.le_of_ble_eq_true rfl⟩ ⟨rfl, rfl⟩ dX5_init_90 rfl (fun a90_61 => ?_)
  refine n_dup (q := 94) C dX5_init_93 rfl rfl ?_
  refine n_callINH (q := 97) (st := [.ref a90_61, .ref h0]) (c2 := 94) (s2 := 11305) C mX3_init kX3_init (by decide) wn_3_6 wn_2_2 wn_3_7 rfl (by decide +kernel) rfl (by decide) (Nat.le_of_ble_eq_true rfl) ⟨Nat.le_of_ble_eq_true rfl, Nat.le_of_ble_eq_true rfl⟩ ⟨rfl, rfl⟩ dX5_init_94 rfl (fun w hw => ?_)
  obtain ⟨u6_0, u6_1, u6_2, u6_3, u6_4, u6_5, u6_6, u6_7, u6_8, u6_9, eu6, rfl⟩ := hw
  subst eu6
  refine n_putHF (q := 100) (i := 6) (v := .ref u6_0) (fs2 := [.ref u0_0, .ref u1_0, .ref a28, .ref a62, .ref u4_0, .ref u5_0, .ref u6_0, .null, .null, .null, .null, vi 0, vi 0]) C hR.1 rfl inlX5 tyX5_ok nmX5 (by decide) wn_2_4 rfl rfl (tyX5_ok 6 (by decide)) rfl rfl (Nat.le_of_ble_eq_true rfl) rfl dX5_init_97 rfl ?_
  refine n_aload_n (q := 101) C dX5_init_100 rfl 1 rfl rfl ?_
  refine n_newH (q := 104) (ci := 2) (fs := [.null, .null, vi 0]) (c2 := 95) (s2 := 11308) C rfl inlX2 tyX2_ok wn_2_5 wn_2_6 wn_2_7 hfsX2 ⟨Nat.le_of_ble_eq_true rfl, Nat.le_of_ble_eq_true rfl⟩ ⟨rfl, rfl⟩ dX5_init_101 rfl (fun a101_66 => ?_)
  refine n_dup (q := 105) C dX5_init_104 rfl rfl ?_
  refine n_callINH (q := 108) (st := [.ref a101_66, .ref h0]) (c2 := 97) (s2 := 11370) C mX2_init kX2_init (by decide) wn_4_1 wn_2_7 wn_4_2 rfl (by decide +kernel) rfl (by decide) (Nat.le_of_ble_eq_true rfl) ⟨Nat.le_of_ble_eq_true rfl, Nat.le_of_ble_eq_true rfl⟩ ⟨rfl, rfl⟩ dX5_init_105 rfl (fun w hw => ?_)
  obtain ⟨u7_0, u7_1, u7_2, eu7, rfl⟩ := hw
  subst eu7
  refine n_putHF (q := 111) (i := 7) (v := .ref u7_0) (fs2 := [.ref u0_0, .ref u1_0, .ref a28, .ref a62, .ref u4_0, .ref u5_0, .ref u6_0, .ref u7_0, .null, .null, .null, vi 0, vi 0]) C hR.1 rfl inlX5 tyX5_ok nmX5 (by decide) wn_2_8 rfl rfl (tyX5_ok 7 (by decide)) rfl rfl (Nat.le_of_ble_eq_true rfl) rfl dX5_init_108 rfl ?_
  refine n_aload_n (q := 112) C dX5_init_111 rfl 1 rfl rfl ?_
  refine n_newH (q := 115) (ci := 2) (fs := [.null, .null, vi 0]) (c2 := 98) (s2 := 11373) C rfl inlX2 tyX2_ok wn_2_5 wn_2_6 wn_2_7 hfsX2 ⟨Nat.le_of_ble_eq_true rfl, Nat.le_of_ble_eq_true rfl⟩ ⟨rfl, rfl⟩ dX5_init_112 rfl (fun a112_71 => ?_)
  refine n_dup (q := 116) C dX5_init_115 rfl rfl ?_
  refine n_callINH (q := 119) (st := [.ref a112_71, .ref h0]) (c2 := 100) (s2 := 11435) C mX2_init kX2_init (by decide) wn_4_1 wn_2_7 wn_4_2 rfl (by decide +kernel) rfl (by decide) (Nat.le_of_ble_eq_true rfl) ⟨Nat.le_of_ble_eq_true rfl, Nat.le_of_ble_eq_true rfl⟩ ⟨rfl, rfl⟩ dX5_init_116 rfl (fun w hw => ?_)
  obtain ⟨u8_0, u8_1, u8_2, eu8, rfl⟩ := hw
  subst eu8
  refine n_putHF (q := 122) (i := 8) (v := .ref u8_0) (fs2 := [.ref u0_0, .ref u1_0, .ref a28, .ref a62, .ref u4_0, .ref u5_0, .ref u6_0, .ref u7_0, .ref u8_0, .null, .null, vi 0, vi 0]) C hR.1 rfl inlX5 tyX5_ok nmX5 (by decide) wn_2_9 rfl rfl (tyX5_ok 8 (by decide)) rfl rfl (Nat.le_of_ble_eq_true rfl) rfl dX5_init_119 rfl ?_
  refine n_aload_n (q := 123) C dX5_init_122 rfl 1 rfl rfl ?_
  refine n_newH (q := 126) (ci := 2) (fs := [.null, .null, vi 0]) (c2 := 101) (s2 := 11438) C rfl inlX2 tyX2_ok wn_2_5 wn_2_6 wn_2_7 hfsX2 ⟨Nat.le_of_ble_eq_true rfl, Nat.le_of_ble_eq_true rfl⟩ ⟨rfl, rfl⟩ dX5_init_123 rfl (fun a123_76 => ?_)
  refine n_dup (q := 127) C dX5_init_126 rfl rfl ?_
  refine n_callINH (q := 130) (st := [.ref a123_76, .ref h0]) (c2 := 103) (s2 := 11500) C mX2_init kX2_init (by decide) wn_4_1 wn_2_7 wn_4_2 rfl (by decide +kernel) rfl (by decide) (Nat.le_of_ble_eq_true rfl) ⟨Nat.le_of_ble_eq_true rfl, Nat.le_of_ble_eq_true rfl⟩ ⟨rfl, rfl⟩ dX5_init_127 rfl (fun w hw => ?_)
  obtain ⟨u9_0, u9_1, u9_2, eu9, rfl⟩ := hw
  subst eu9
  refine n_putHF (q := 133) (i := 9) (v := .ref u9_0) (fs2 := [.ref u0_0, .ref u1_0, .ref a28, .ref a62, .ref u4_0, .ref u5_0, .ref u6_0, .ref u7_0, .ref u8_0, .ref u9_0, .null, vi 0, vi 0]) C hR.1 rfl inlX5 tyX5_ok nmX5 (by decide) wn_2_10 rfl rfl (tyX5_ok 9 (by decide)) rfl rfl (Nat.le_of_ble_eq_true rfl) rfl dX5_init_130 rfl ?_
  refine n_aload_n (q := 134) C dX5_init_133 rfl 1 rfl rfl ?_
  refine n_bipush (q := 136) (z := 30) C dX5_init_134 rfl (by decide) ?_
  refine n_newaH (q := 138) (atype := .int) (N := 30) (a0 := (30, .inl (fun _ => jI 0))) (cA := t.1) (c2 := 104) (s2 := 11530) C wn_2_11 rfl 0 rfl (ha_i 30) (jN_n 30 rfl (Nat.le_of_ble_eq_true rfl)) (jN_t 30 rfl (Nat.le_of_ble_eq_true rfl)) (Nat.le_of_ble_eq_true rfl) ⟨Nat.le_of_ble_eq_true rfl, Nat.le_of_ble_eq_true rfl⟩ ⟨rfl, rfl⟩ dX5_init_136 rfl (fun a136 => ?_)
  refine n_putHF (q := 141) (i := 10) (v := .ref a136) (fs2 := [.ref u0_0, .ref u1_0, .ref a28, .ref a62, .ref u4_0, .ref u5_0, .ref u6_0, .ref u7_0, .ref u8_0, .ref u9_0, .ref a136, vi 0, vi 0]) C hR.1 rfl inlX5 tyX5_ok nmX5 (by decide) wn_2_12 rfl rfl (tyX5_ok 10 (by decide)) rfl rfl (Nat.le_of_ble_eq_true rfl) rfl dX5_init_138 rfl ?_
  refine n_aload_n (q := 142) C dX5_init_141 rfl 1 rfl rfl ?_
  refine n_iconst (q := 143) (z := 0) C dX5_init_142 rfl ?_
  refine n_putH (q := 146) (i := 11) (v := vi 0) (fs2 := [.ref u0_0, .ref u1_0, .ref a28, .ref a62, .ref u4_0, .ref u5_0, .ref u6_0, .ref u7_0, .ref u8_0, .ref u9_0, .ref a136, vi 0, vi 0]) C rfl inlX5 tyX5_ok nmX5 (by decide) wn_2_13 rfl (tyX5_ok 11 (by decide)) rfl rfl (Nat.le_of_ble_eq_true rfl) rfl dX5_init_143 rfl ?_
  refine n_aload_n (q := 147) C dX5_init_146 rfl 1 rfl rfl ?_
  refine n_iconst (q := 148) (z := 1) C dX5_init_147 rfl ?_
  refine n_putH (q := 151) (i := 12) (v := vi 1) (fs2 := [.ref u0_0, .ref u1_0, .ref a28, .ref a62, .ref u4_0, .ref u5_0, .ref u6_0, .ref u7_0, .ref u8_0, .ref u9_0, .ref a136, vi 0, vi 1]) C rfl inlX5 tyX5_ok nmX5 (by decide) wn_2_14 rfl (tyX5_ok 12 (by decide)) rfl rfl (Nat.le_of_ble_eq_true rfl) rfl dX5_init_148 rfl ?_
  exact n_ret C hR ⟨rfl, rfl⟩ dX5_init_151 ⟨h0, a28, a62, a136, u0_0, u0_1, u0_2, u1_0, u1_1, u1_2, u2_0, u2_1, u2_2, u3_0, u3_1, u3_2, u4_0, u4_1, u4_2, u4_3, u4_4, u4_5, u4_6, u4_7, u4_8, u4_9, u4_10, u4_11, u4_12, u4_13, u4_14, u4_15, u4_16, u4_17, u4_18, u4_19, u5_0, u5_1, u5_2, u5_3, u5_4, u5_5, u5_6, u5_7, u5_8, u5_9, u6_0, u6_1, u6_2, u6_3, u6_4, u6_5, u6_6, u6_7, u6_8, u6_9, u7_0, u7_1, u7_2, u8_0, u8_1, u8_2, u9_0, u9_1, u9_2, rfl, rfl⟩
