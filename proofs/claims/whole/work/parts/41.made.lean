set_option maxRecDepth 20000 in
set_option maxHeartbeats 4000000 in
theorem kX3_init {l : Launch} {D : va_G} {t : T5} : Cc l D t mX3_init 9 5375 (.inr (3, [.null, .null, .null, .null, .null, vi 0])) (fun h0 w => ∃ (a0 a1 a2 a3 a4 a5 a6 a7 a8 a9 : Nat), a0 = h0 ∧ w = pnL t a0 a1 a2 a3 a4 a5 a6 a7 a8 a9) := by
  refine cc_of (by decide) (by decide) rfl ?_
  intro x h0 hl hD C hR
  subst hl
  subst hD
  refine n_aload_n (q := 1) C dX3_init_0 rfl 0 rfl rfl ?_
  refine n_objInit (q := 4) (st := []) C wn_3_8 wn_1_10 wn_1_11 rfl (by decide) dX3_init_1 rfl ?_
  refine n_aload_n (q := 5) C dX3_init_4 rfl 0 rfl rfl ?_
  refine n_newH (q := 8) (ci := 1) (fs := [vi 0, vi 0, vi 0, vi 0, vi 0, .null, .null, .null, .null]) (c2 := 1) (s2 := 9) C rfl inlX1 tyX1_ok wn_3_9 wn_3_10 wn_3_11 hfsX1 ⟨Nat.le_of_ble_eq_true rfl, Nat.le_of_ble_eq_true rfl⟩ ⟨rfl, rfl⟩ dX3_init_5 rfl (fun a5_4 => ?_)
  refine n_dup (q := 9) C dX3_init_8 rfl rfl ?_
  refine n_callINH (q := 12) (st := [.ref a5_4, .ref h0]) (c2 := 5) (s2 := 51) C mX1_init kX1_init (by decide) wn_3_18 wn_3_11 wn_3_19 rfl (by decide +kernel) rfl (by decide) (Nat.le_of_ble_eq_true rfl) ⟨Nat.le_of_ble_eq_true rfl, Nat.le_of_ble_eq_true rfl⟩ ⟨rfl, rfl⟩ dX3_init_9 rfl (fun w hw => ?_)
  obtain ⟨u0_0, u0_1, u0_2, u0_3, u0_4, eu0, rfl⟩ := hw
  subst eu0
  refine n_putHF (q := 15) (i := 0) (v := .ref u0_0) (fs2 := [.ref u0_0, .null, .null, .null, .null, vi 0]) C hR.1 rfl inlX3 tyX3_ok nmX3 (by decide) wn_3_12 rfl rfl (tyX3_ok 0 (by decide)) rfl rfl (Nat.le_of_ble_eq_true rfl) rfl dX3_init_12 rfl ?_
  refine n_aload_n (q := 16) C dX3_init_15 rfl 0 rfl rfl ?_
  refine n_sipush (q := 19) (z := 1331) C dX3_init_16 rfl (by decide) ?_
  refine n_newaH (q := 21) (atype := .int) (N := 1331) (a0 := (1331, .inl (fun _ => jI 0))) (cA := t.1) (c2 := 6) (s2 := 1382) C wn_2_11 rfl 0 rfl (ha_i 1331) (jN_n 1331 rfl (Nat.le_of_ble_eq_true rfl)) (jN_t 1331 rfl (Nat.le_of_ble_eq_true rfl)) (Nat.le_of_ble_eq_true rfl) ⟨Nat.le_of_ble_eq_true rfl, Nat.le_of_ble_eq_true rfl⟩ ⟨rfl, rfl⟩ dX3_init_19 rfl (fun a19 => ?_)
  refine n_putHF (q := 24) (i := 1) (v := .ref a19) (fs2 := [.ref u0_0, .ref a19, .null, .null, .null, vi 0]) C hR.1 rfl inlX3 tyX3_ok nmX3 (by decide) wn_3_13 rfl rfl (tyX3_ok 1 (by decide)) rfl rfl (Nat.le_of_ble_eq_true rfl) rfl dX3_init_21 rfl ?_
  refine n_aload_n (q := 25) C dX3_init_24 rfl 0 rfl rfl ?_
  refine n_sipush (q := 28) (z := 1331) C dX3_init_25 rfl (by decide) ?_
  refine n_newaH (q := 30) (atype := .int) (N := 1331) (a0 := (1331, .inl (fun _ => jI 0))) (cA := t.1) (c2 := 7) (s2 := 2713) C wn_2_11 rfl 0 rfl (ha_i 1331) (jN_n 1331 rfl (Nat.le_of_ble_eq_true rfl)) (jN_t 1331 rfl (Nat.le_of_ble_eq_true rfl)) (Nat.le_of_ble_eq_true rfl) ⟨Nat.le_of_ble_eq_true rfl, Nat.le_of_ble_eq_true rfl⟩ ⟨rfl, rfl⟩ dX3_init_28 rfl (fun a28 => ?_)
  refine n_putHF (q := 33) (i := 2) (v := .ref a28) (fs2 := [.ref u0_0, .ref a19, .ref a28, .null, .null, vi 0]) C hR.1 rfl inlX3 tyX3_ok nmX3 (by decide) wn_3_14 rfl rfl (tyX3_ok 2 (by decide)) rfl rfl (Nat.le_of_ble_eq_true rfl) rfl dX3_init_30 rfl ?_
  refine n_aload_n (q := 34) C dX3_init_33 rfl 0 rfl rfl ?_
  refine n_sipush (q := 37) (z := 1331) C dX3_init_34 rfl (by decide) ?_
  refine n_newaH (q := 39) (atype := .int) (N := 1331) (a0 := (1331, .inl (fun _ => jI 0))) (cA := t.1) (c2 := 8) (s2 := 4044) C wn_2_11 rfl 0 rfl (ha_i 1331) (jN_n 1331 rfl (Nat.le_of_ble_eq_true rfl)) (jN_t 1331 rfl (Nat.le_of_ble_eq_true rfl)) (Nat.le_of_ble_eq_true rfl) ⟨Nat.le_of_ble_eq_true rfl, Nat.le_of_ble_eq_true rfl⟩ ⟨rfl, rfl⟩ dX3_init_37 rfl (fun a37 => ?_)
  refine n_putHF (q := 42) (i := 3) (v := .ref a37) (fs2 := [.ref u0_0, .ref a19, .ref a28, .ref a37, .null, vi 0]) C hR.1 rfl inlX3 tyX3_ok nmX3 (by decide) wn_3_15 rfl rfl (tyX3_ok 3 (by decide)) rfl rfl (Nat.le_of_ble_eq_true rfl) rfl dX3_init_39 rfl ?_
  refine n_aload_n (q := 43) C dX3_init_42 rfl 0 rfl rfl ?_
  refine n_sipush (q := 46) (z := 1331) C dX3_init_43 rfl (by decide) ?_
  refine n_newaH (q := 48) (atype := .long) (N := 1331) (a0 := (1331, .inr (.inl (fun _ => jL 0)))) (cA := t.2.1) (c2 := 9) (s2 := 5375) C wn_3_16 rfl 1 rfl (ha_l 1331) (jN_n 1331 rfl (Nat.le_of_ble_eq_true rfl)) (jN_t 1331 rfl (Nat.le_of_ble_eq_true rfl)) (Nat.le_of_ble_eq_true rfl) ⟨Nat.le_of_ble_eq_true rfl, Nat.le_of_ble_eq_true rfl⟩ ⟨rfl, rfl⟩ dX3_init_46 rfl (fun a46 => ?_)
  refine n_putHF (q := 51) (i := 4) (v := .ref a46) (fs2 := [.ref u0_0, .ref a19, .ref a28, .ref a37, .ref a46, vi 0]) C hR.1 rfl inlX3 tyX3_ok nmX3 (by decide) wn_3_17 rfl rfl (tyX3_ok 4 (by decide)) rfl rfl (Nat.le_of_ble_eq_true rfl) rfl dX3_init_48 rfl ?_
  exact n_ret C hR ⟨rfl, rfl⟩ dX3_init_51 ⟨h0, u0_0, u0_1, u0_2, u0_3, u0_4, a19, a28, a37, a46, rfl, rfl⟩
