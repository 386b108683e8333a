set_option maxRecDepth 20000 in
set_option maxHeartbeats 4000000 in
theorem kX0_init {l : Launch} {D : va_G} {t : T5} : Cc l D t mX0_init 43 324 (.inr (0, [.null, vi 0, vi 0])) (fun h0 w => ∃ (a0 a1 s0_0 s0_1 s0_2 s1_0 s1_1 s1_2 s2_0 s2_1 s2_2 s3_0 s3_1 s3_2 s4_0 s4_1 s4_2 s5_0 s5_1 s5_2 : Nat), a0 = h0 ∧ w = hiL t a0 a1 s0_0 s0_1 s0_2 s1_0 s1_1 s1_2 s2_0 s2_1 s2_2 s3_0 s3_1 s3_2 s4_0 s4_1 s4_2 s5_0 s5_1 s5_2) := by
  refine cc_of (by decide) (by decide) rfl ?_
  intro x h0 hl hD C hR
  subst hl
  subst hD
  refine n_aload_n (q := 1) C dX0_init_0 rfl 0 rfl rfl ?_
  refine n_objInit (q := 4) (st := []) C wn_3_1 wn_1_10 wn_1_11 rfl (by decide) dX0_init_1 rfl ?_
  refine n_aload_n (q := 5) C dX0_init_4 rfl 0 rfl rfl ?_
  refine n_bipush (q := 7) (z := 6) C dX0_init_5 rfl (by decide) ?_
  refine n_newqH (q := 10) (N := 6) (c2 := 1) (s2 := 6) C wn_3_2 (by decide) (by decide) (Nat.le_of_ble_eq_true rfl) ⟨Nat.le_of_ble_eq_true rfl, Nat.le_of_ble_eq_true rfl⟩ ⟨rfl, rfl⟩ dX0_init_7 rfl (fun a7 => ?_)
  refine n_putHF (q := 13) (i := 0) (v := .ref a7) (fs2 := [.ref a7, vi 0, vi 0]) C hR.1 rfl inlX0 tyX0_ok nmX0 (by decide) wn_3_3 rfl rfl (tyX0_ok 0 (by decide)) rfl rfl (Nat.le_of_ble_eq_true rfl) rfl dX0_init_10 rfl ?_
  refine n_aload_n (q := 14) C dX0_init_13 rfl 0 rfl rfl ?_
  refine n_iconst (q := 15) (z := 0) C dX0_init_14 rfl ?_
  refine n_putH (q := 18) (i := 1) (v := vi 0) (fs2 := [.ref a7, vi 0, vi 0]) C rfl inlX0 tyX0_ok nmX0 (by decide) wn_3_4 rfl (tyX0_ok 1 (by decide)) rfl rfl (Nat.le_of_ble_eq_true rfl) rfl dX0_init_15 rfl ?_
  refine n_aload_n (q := 19) C dX0_init_18 rfl 0 rfl rfl ?_
  refine n_iconst (q := 20) (z := 0) C dX0_init_19 rfl ?_
  refine n_putH (q := 23) (i := 2) (v := vi 0) (fs2 := [.ref a7, vi 0, vi 0]) C rfl inlX0 tyX0_ok nmX0 (by decide) wn_3_5 rfl (tyX0_ok 2 (by decide)) rfl rfl (Nat.le_of_ble_eq_true rfl) rfl dX0_init_20 rfl ?_
  refine n_iconst (q := 24) (z := 0) C dX0_init_23 rfl ?_
  refine n_istore_n (q := 25) (L2 := [(1, vi 0), (0, .ref h0)]) C dX0_init_24 rfl rfl (by decide) rfl ?_
  refine n_iload_n (q := 26) C dX0_init_25 rfl 0 rfl rfl ?_
  refine n_bipush (q := 28) (z := 6) C dX0_init_26 rfl (by decide) ?_
  refine n_geF (q := 31) (u := 50) C dX0_init_28 rfl (by decide) (by decide) ?_
  refine n_aload_n (q := 32) C dX0_init_31 rfl 1 rfl rfl ?_
  refine n_getH (q := 35) (i := 0) C rfl inlX0 (by decide) wn_3_3 rfl dX0_init_32 rfl ?_
  refine n_iload_n (q := 36) C dX0_init_35 rfl 0 rfl rfl ?_
  refine n_newH (q := 39) (ci := 4) (fs := [.null, .null, vi 0]) (c2 := 2) (s2 := 9) C rfl inlX4 tyX4_ok wn_3_2 wn_1_13 wn_1_14 hfsX4 ⟨Nat.le_of_ble_eq_true rfl, Nat.le_of_ble_eq_true rfl⟩ ⟨rfl, rfl⟩ dX0_init_36 rfl (fun a36_21 => ?_)
  refine n_dup (q := 40) C dX0_init_39 rfl rfl ?_
  refine n_callINH (q := 43) (st := [.ref a36_21, vi 0, .ref a7]) (c2 := 8) (s2 := 59) C mX4_init kX4_init (by decide) wn_2_15 wn_1_14 wn_2_16 rfl (by decide +kernel) rfl (by decide) (Nat.le_of_ble_eq_true rfl) ⟨Nat.le_of_ble_eq_true rfl, Nat.le_of_ble_eq_true rfl⟩ ⟨rfl, rfl⟩ dX0_init_40 rfl (fun w hw => ?_)
  obtain ⟨u0_0, u0_1, u0_2, eu0, rfl⟩ := hw
  subst eu0
  refine n_aastR (q := 44) C (Rep.tail (Rep.left (Rep.right Rep.here))) (Att.tail (Att.right (Att.left (Att.left Att.here)))) (by decide) (by decide) dX0_init_43 rfl ?_
  refine n_iinc (q := 47) (z := 0) (z2 := 1) (L2 := [(1, vi 1), (0, .ref h0)]) C dX0_init_44 rfl 0 rfl (by decide) rfl rfl ?_
  refine n_goto (u := 25) C dX0_init_47 (by decide) ?_
  refine n_iload_n (q := 26) C dX0_init_25 rfl 0 rfl rfl ?_
  refine n_bipush (q := 28) (z := 6) C dX0_init_26 rfl (by decide) ?_
  refine n_geF (q := 31) (u := 50) C dX0_init_28 rfl (by decide) (by decide) ?_
  refine n_aload_n (q := 32) C dX0_init_31 rfl 1 rfl rfl ?_
  refine n_getH (q := 35) (i := 0) C rfl inlX0 (by decide) wn_3_3 rfl dX0_init_32 rfl ?_
  refine n_iload_n (q := 36) C dX0_init_35 rfl 0 rfl rfl ?_
  refine n_newH (q := 39) (ci := 4) (fs := [.null, .null, vi 0]) (c2 := 9) (s2 := 62) C rfl inlX4 tyX4_ok wn_3_2 wn_1_13 wn_1_14 hfsX4 ⟨Nat.le_of_ble_eq_true rfl, Nat.le_of_ble_eq_true rfl⟩ ⟨rfl, rfl⟩ dX0_init_36 rfl (fun a36_33 => ?_)
  refine n_dup (q := 40) C dX0_init_39 rfl rfl ?_
  refine n_callINH (q := 43) (st := [.ref a36_33, vi 1, .ref a7]) (c2 := 15) (s2 := 112) C mX4_init kX4_init (by decide) wn_2_15 wn_1_14 wn_2_16 rfl (by decide +kernel) rfl (by decide) (Nat.le_of_ble_eq_true rfl) ⟨Nat.le_of_ble_eq_true rfl, Nat.le_of_ble_eq_true rfl⟩ ⟨rfl, rfl⟩ dX0_init_40 rfl (fun w hw => ?_)
  obtain ⟨u1_0, u1_1, u1_2, eu1, rfl⟩ := hw
  subst eu1
  refine n_aastR (q := 44) C (Rep.tail (Rep.left (Rep.left (Rep.right Rep.here)))) (Att.tail (Att.right (Att.left (Att.left Att.here)))) (by decide) (by decide) dX0_init_43 rfl ?_
  refine n_iinc (q := 47) (z := 1) (z2 := 2) (L2 := [(1, vi 2), (0, .ref h0)]) C dX0_init_44 rfl 0 rfl (by decide) rfl rfl ?_
  refine n_goto (u := 25) C dX0_init_47 (by decide) ?_
  refine n_iload_n (q := 26) C dX0_init_25 rfl 0 rfl rfl ?_
  refine n_bipush (q := 28) (z := 6) C dX0_init_26 rfl (by decide) ?_
  refine n_geF (q := 31) (u := 50) C dX0_init_28 rfl (by decide) (by decide) ?_
  refine n_aload_n (q := 32) C dX0_init_31 rfl 1 rfl rfl ?_
  refine n_getH (q := 35) (i := 0) C rfl inlX0 (by decide) wn_3_3 rfl dX0_init_32 rfl ?_
  refine n_iload_n (q := 36) C dX0_init_35 rfl 0 rfl rfl ?_
  refine n_newH (q := 39) (ci := 4) (fs := [.null, .null, vi 0]) (c2 := 16) (s2 := 115) C rfl inlX4 tyX4_ok wn_3_2 wn_1_13 wn_1_14 hfsX4 ⟨Nat.le_of_ble_eq_true rfl, Nat.le_of_ble_eq_true rfl⟩ ⟨rfl, rfl⟩ dX0_init_36 rfl (fun a36_45 => ?_)
  refine n_dup (q := 40) C dX0_init_39 rfl rfl ?_
  refine n_callINH (q := 43) (st := [.ref a36_45, vi 2, .ref a7]) (c2 := 22) (s2 := 165) C mX4_init kX4_init (by decide) wn_2_15 wn_1_14 wn_2_16 rfl (by decide +kernel) rfl (by decide) (Nat.le_of_ble_eq_true rfl) ⟨Nat.le_of_ble_eq_true rfl, Nat.le_of_ble_eq_true rfl⟩ ⟨rfl, rfl⟩ dX0_init_40 rfl (fun w hw => ?_)
  obtain ⟨u2_0, u2_1, u2_2, eu2, rfl⟩ := hw
  subst eu2
  refine n_aastR (q := 44) C (Rep.tail (Rep.left (Rep.left (Rep.left (Rep.right Rep.here))))) (Att.tail (Att.right (Att.left (Att.left Att.here)))) (by decide) (by decide) dX0_init_43 rfl ?_
  refine n_iinc (q := 47) (z := 2) (z2 := 3) (L2 := [(1, vi 3), (0, .ref h0)]) C dX0_init_44 rfl 0 rfl (by decide) rfl rfl ?_
  refine n_goto (u := 25) C dX0_init_47 (by decide) ?_
  refine n_iload_n (q := 26) C dX0_init_25 rfl 0 rfl rfl ?_
  refine n_bipush (q := 28) (z := 6) C dX0_init_26 rfl (by decide) ?_
  refine n_geF (q := 31) (u := 50) C dX0_init_28 rfl (by decide) (by decide) ?_
  refine n_aload_n (q := 32) C dX0_init_31 rfl 1 rfl rfl ?_
  refine n_getH (q := 35) (i := 0) C rfl inlX0 (by decide) wn_3_3 rfl dX0_init_32 rfl ?_
  refine n_iload_n (q := 36) C dX0_init_35 rfl 0 rfl rfl ?_
  refine n_newH (q := 39) (ci := 4) (fs := [.null, .null, vi 0]) (c2 := 23) (s2 := 168) C rfl inlX4 tyX4_ok wn_3_2 wn_1_13 wn_1_14 hfsX4 ⟨Nat.le_of_ble_eq_true rfl, Nat.le_of_ble_eq_true rfl⟩ ⟨rfl, rfl⟩ dX0_init_36 rfl (fun a36_57 => ?_)
  refine n_dup (q := 40) C dX0_init_39 rfl rfl ?_
  refine n_callINH (q := 43) (st := [.ref a36_57, vi 3, .ref a7]) (c2 := 29) (s2 := 218) C mX4_init kX4_init (by decide) wn_2_15 wn_1_14 wn_2_16 rfl (by decide +kernel) rfl (by decide) (Nat.le_of_ble_eq_true rfl) ⟨Nat.le_of_ble_eq_true rfl, Nat.le_of_ble_eq_true rfl⟩ ⟨rfl, rfl⟩ dX0_init_40 rfl (fun w hw => ?_)
  obtain ⟨u3_0, u3_1, u3_2, eu3, rfl⟩ := hw
  subst eu3
  refine n_aastR (q := 44) C (Rep.tail (Rep.left (Rep.left (Rep.left (Rep.left (Rep.right Rep.here)))))) (Att.tail (Att.right (Att.left (Att.left Att.here)))) (by decide) (by decide) dX0_init_43 rfl ?_
  refine n_iinc (q := 47) (z := 3) (z2 := 4) (L2 := [(1, vi 4), (0, .ref h0)]) C dX0_init_44 rfl 0 rfl (by decide) rfl rfl ?_
  refine n_goto (u := 25) C dX0_init_47 (by decide) ?_
  refine n_iload_n (q := 26) C dX0_init_25 rfl 0 rfl rfl ?_
  refine n_bipush (q := 28) (z := 6) C dX0_init_26 rfl (by decide) ?_
  refine n_geF (q := 31) (u := 50) C dX0_init_28 rfl (by decide) (by decide) ?_
  refine n_aload_n (q := 32) C dX0_init_31 rfl 1 rfl rfl ?_
  refine n_getH (q := 35) (i := 0) C rfl inlX0 (by decide) wn_3_3 rfl dX0_init_32 rfl ?_
  refine n_iload_n (q := 36) C dX0_init_35 rfl 0 rfl rfl ?_
  refine n_newH (q := 39) (ci := 4) (fs := [.null, .null, vi 0]) (c2 := 30) (s2 := 221) C rfl inlX4 tyX4_ok wn_3_2 wn_1_13 wn_1_14 hfsX4 ⟨Nat.le_of_ble_eq_true rfl, Nat.le_of_ble_eq_true rfl⟩ ⟨rfl, rfl⟩ dX0_init_36 rfl (fun a36_69 => ?_)
  refine n_dup (q := 40) C dX0_init_39 rfl rfl ?_
  refine n_callINH (q := 43) (st := [.ref a36_69, vi 4, .ref a7]) (c2 := 36) (s2 := 271) C mX4_init kX4_init (by decide) wn_2_15 wn_1_14 wn_2_16 rfl (by decide +kernel) rfl (by decide) (Nat.le_of_ble_eq_true rfl) ⟨Nat.le_of_ble_eq_true rfl, Nat.le_of_ble_eq_true rfl⟩ ⟨rfl, rfl⟩ dX0_init_40 rfl (fun w hw => ?_)
  obtain ⟨u4_0, u4_1, u4_2, eu4, rfl⟩ := hw
  subst eu4
  refine n_aastR (q := 44) C (Rep.tail (Rep.left (Rep.left (Rep.left (Rep.left (Rep.left (Rep.right Rep.here))))))) (Att.tail (Att.right (Att.left (Att.left Att.here)))) (by decide) (by decide) dX0_init_43 rfl ?_
  refine n_iinc (q := 47) (z := 4) (z2 := 5) (L2 := [(1, vi 5), (0, .ref h0)]) C dX0_init_44 rfl 0 rfl (by decide) rfl rfl ?_
  refine n_goto (u := 25) C dX0_init_47 (by decide) ?_
  refine n_iload_n (q := 26) C dX0_init_25 rfl 0 rfl rfl ?_
  refine n_bipush (q := 28) (z := 6) C dX0_init_26 rfl (by decide) ?_
  refine n_geF (q := 31) (u := 50) C dX0_init_28 rfl (by decide) (by decide) ?_
  refine n_aload_n (q := 32) C dX0_init_31 rfl 1 rfl rfl ?_
  refine n_getH (q := 35) (i := 0) C rfl inlX0 (by decide) wn_3_3 rfl dX0_init_32 rfl ?_
  refine n_iload_n (q := 36) C dX0_init_35 rfl 0 rfl rfl ?_
  refine n_newH (q := 39) (ci := 4) (fs := [.null, .null, vi 0]) (c2 := 37) (s2 := 274) C rfl inlX4 tyX4_ok wn_3_2 wn_1_13 wn_1_14 hfsX4 ⟨Nat.le_of_ble_eq_true rfl, Nat.le_of_ble_eq_true rfl⟩ ⟨rfl, rfl⟩ dX0_init_36 rfl (fun a36_81 => ?_)
  refine n_dup (q := 40) C dX0_init_39 rfl rfl ?_
  refine n_callINH (q := 43) (st := [.ref a36_81, vi 5, .ref a7]) (c2 := 43) (s2 := 324) C mX4_init kX4_init (by decide) wn_2_15 wn_1_14 wn_2_16 rfl (by decide +kernel) rfl (by decide) (Nat.le_of_ble_eq_true rfl) ⟨Nat.le_of_ble_eq_true rfl, Nat.le_of_ble_eq_true rfl⟩ ⟨rfl, rfl⟩ dX0_init_40 rfl (fun w hw => ?_)
  obtain ⟨u5_0, u5_1, u5_2, eu5, rfl⟩ := hw
  subst eu5
  refine n_aastR (q := 44) C (Rep.tail (Rep.left (Rep.left (Rep.left (Rep.left (Rep.left (Rep.left (Rep.right Rep.here)))))))) (Att.tail (Att.right (Att.left (Att.left Att.here)))) (by decide) (by decide) dX0_init_43 rfl ?_
  refine n_iinc (q := 47) (z := 5) (z2 := 6) (L2 := [(1, vi 6), (0, .ref h0)]) C dX0_init_44 rfl 0 rfl (by decide) rfl rfl ?_
  refine n_goto (u := 25) C dX0_init_47 (by decide) ?_
  refine n_iload_n (q := 26) C dX0_init_25 rfl 0 rfl rfl ?_
  refine n_bipush (q := 28) (z := 6) C dX0_init_26 rfl (by decide) ?_
  refine n_geT (u := 50) C dX0_init_28 (by decide) (by decide) ?_
  exact n_ret C hR ⟨rfl, rfl⟩ dX0_init_50 ⟨h0, a7, u0_0, u0_1, u0_2, u1_0, u1_1, u1_2, u2_0, u2_1, u2_2, u3_0, u3_1, u3_2, u4_0, u4_1, u4_2, u5_0, u5_1, u5_2, rfl, rfl⟩
