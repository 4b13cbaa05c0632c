set_option maxHeartbeats 4000000 in
theorem cn_X8 {l : Launch} {g : gT} {h0 : Nat} : MetK l g yX8_init cX8_init 1 1 28 4 40 (fun _ => True) h0 (.inr (7, [.null, .null, .null, .null, .int 0, .int 0, .long 0, .long 0])) [] (fun w1 => ∃ (q0 q1 q2 q3 : Nat), w1 = [(h0, .inr (7, [.ref q0, .ref q1, .ref q2, .ref q3, .int 0, .int 0, .long 0, .long 0])), (q0, .inl (g.2.1, 10, .inl (fun _ => 0))), (q1, .inl (g.2.1, 10, .inl (fun _ => 0))), (q2, .inl (g.2.2.1, 10, .inr (.inl (fun _ => 0)))), (q3, .inl (g.2.2.1, 10, .inr (.inl (fun _ => 0))))]) := by
  refine MetK.ofX (by decide +kernel) rfl (Nat.le_of_ble_eq_true rfl) (fun p e s m below meth c AV Q A X hin hE fin ls hw hl => ?_)
  have hl : lv_has ls 1 [(0, .ref h0)] := hl
  refine lv_aload_n X.1 X.2.1 dX8_init_0 rfl (lv_at hl 0 rfl) ?_
  refine n_obj X hl.1 wq_4_9 ⟨Nat.le_of_ble_eq_true rfl, Nat.le_of_ble_eq_true rfl⟩ dX8_init_1 ?_
  refine lv_aload_n X.1 X.2.1 dX8_init_4 rfl (lv_at hl 0 rfl) ?_
  refine lv_bipush (v := 10) X.1 X.2.1 dX8_init_5 (by decide) ?_
  refine n_newi (N' := 10) X hw (by decide) (by decide) (by decide) (Nat.le_of_ble_eq_true rfl) (Nat.le_of_ble_eq_true rfl) dX8_init_7 (fun q0 H hw => ?_)
  have hw : Wn g A [(h0, .inr (7, [.null, .null, .null, .null, .int 0, .int 0, .long 0, .long 0])), (q0, .inl (g.2.1, 10, .inl (fun _ => 0)))] s H _ := hw
  refine n_putF (T := TX8) (ci := 7) (C := RX8) (N := 8) (ty0 := tyX8) (ty := .array .int) X hin hw inlX8 tyX8_ok nmX8 0 rfl rfl 0 (by decide) wq_4_10 rfl rfl (by decide +kernel) rfl rfl (Nat.le_of_ble_eq_true rfl) dX8_init_9 (fun H locs hw => ?_)
  have hw : Wn g A [(h0, .inr (7, [.ref q0, .null, .null, .null, .int 0, .int 0, .long 0, .long 0])), (q0, .inl (g.2.1, 10, .inl (fun _ => 0)))] s H _ := hw
  refine lv_aload_n X.1 X.2.1 dX8_init_12 rfl (lv_at hl 0 rfl) ?_
  refine lv_bipush (v := 10) X.1 X.2.1 dX8_init_13 (by decide) ?_
  refine n_newi (N' := 10) X hw (by decide) (by decide) (by decide) (Nat.le_of_ble_eq_true rfl) (Nat.le_of_ble_eq_true rfl) dX8_init_15 (fun q1 H hw => ?_)
  have hw : Wn g A [(h0, .inr (7, [.ref q0, .null, .null, .null, .int 0, .int 0, .long 0, .long 0])), (q0, .inl (g.2.1, 10, .inl (fun _ => 0))), (q1, .inl (g.2.1, 10, .inl (fun _ => 0)))] s H _ := hw
  refine n_putF (T := TX8) (ci := 7) (C := RX8) (N := 8) (ty0 := tyX8) (ty := .array .int) X hin hw inlX8 tyX8_ok nmX8 0 rfl rfl 1 (by decide) wq_4_11 rfl rfl (by decide +kernel) rfl rfl (Nat.le_of_ble_eq_true rfl) dX8_init_17 (fun H locs hw => ?_)
  have hw : Wn g A [(h0, .inr (7, [.ref q0, .ref q1, .null, .null, .int 0, .int 0, .long 0, .long 0])), (q0, .inl (g.2.1, 10, .inl (fun _ => 0))), (q1, .inl (g.2.1, 10, .inl (fun _ => 0)))] s H _ := hw
  refine lv_aload_n X.1 X.2.1 dX8_init_20 rfl (lv_at hl 0 rfl) ?_
  refine lv_bipush (v := 10) X.1 X.2.1 dX8_init_21 (by decide) ?_
  refine n_newl (N' := 10) X hw (by decide) (by decide) (by decide) (Nat.le_of_ble_eq_true rfl) (Nat.le_of_ble_eq_true rfl) dX8_init_23 (fun q2 H hw => ?_)
  have hw : Wn g A [(h0, .inr (7, [.ref q0, .ref q1, .null, .null, .int 0, .int 0, .long 0, .long 0])), (q0, .inl (g.2.1, 10, .inl (fun _ => 0))), (q1, .inl (g.2.1, 10, .inl (fun _ => 0))), (q2, .inl (g.2.2.1, 10, .inr (.inl (fun _ => 0))))] s H _ := hw
  refine n_putF (T := TX8) (ci := 7) (C := RX8) (N := 8) (ty0 := tyX8) (ty := .array .long) X hin hw inlX8 tyX8_ok nmX8 0 rfl rfl 2 (by decide) wq_4_12 rfl rfl (by decide +kernel) rfl rfl (Nat.le_of_ble_eq_true rfl) dX8_init_25 (fun H locs hw => ?_)
  have hw : Wn g A [(h0, .inr (7, [.ref q0, .ref q1, .ref q2, .null, .int 0, .int 0, .long 0, .long 0])), (q0, .inl (g.2.1, 10, .inl (fun _ => 0))), (q1, .inl (g.2.1, 10, .inl (fun _ => 0))), (q2, .inl (g.2.2.1, 10, .inr (.inl (fun _ => 0))))] s H _ := hw
  refine lv_aload_n X.1 X.2.1 dX8_init_28 rfl (lv_at hl 0 rfl) ?_
  refine lv_bipush (v := 10) X.1 X.2.1 dX8_init_29 (by decide) ?_
  refine n_newl (N' := 10) X hw (by decide) (by decide) (by decide) (Nat.le_of_ble_eq_true rfl) (Nat.le_of_ble_eq_true rfl) dX8_init_31 (fun q3 H hw => ?_)
  have hw : Wn g A [(h0, .inr (7, [.ref q0, .ref q1, .ref q2, .null, .int 0, .int 0, .long 0, .long 0])), (q0, .inl (g.2.1, 10, .inl (fun _ => 0))), (q1, .inl (g.2.1, 10, .inl (fun _ => 0))), (q2, .inl (g.2.2.1, 10, .inr (.inl (fun _ => 0)))), (q3, .inl (g.2.2.1, 10, .inr (.inl (fun _ => 0))))] s H _ := hw
  refine n_putF (T := TX8) (ci := 7) (C := RX8) (N := 8) (ty0 := tyX8) (ty := .array .long) X hin hw inlX8 tyX8_ok nmX8 0 rfl rfl 3 (by decide) wq_4_13 rfl rfl (by decide +kernel) rfl rfl (Nat.le_of_ble_eq_true rfl) dX8_init_33 (fun H locs hw => ?_)
  have hw : Wn g A [(h0, .inr (7, [.ref q0, .ref q1, .ref q2, .ref q3, .int 0, .int 0, .long 0, .long 0])), (q0, .inl (g.2.1, 10, .inl (fun _ => 0))), (q1, .inl (g.2.1, 10, .inl (fun _ => 0))), (q2, .inl (g.2.2.1, 10, .inr (.inl (fun _ => 0)))), (q3, .inl (g.2.2.1, 10, .inr (.inl (fun _ => 0))))] s H _ := hw
  exact fin _ _ _ _ _ _ _ ⟨q0, q1, q2, q3, rfl⟩ hw (Nat.le_of_ble_eq_true rfl) (Nat.le_of_ble_eq_true rfl) dX8_init_36
set_option maxHeartbeats 4000000 in
theorem cn_X3 {l : Launch} {g : gT} {h0 : Nat} {hn : Nat} : MetK l g yX3_init cX3_init 2 1 28 1 1024 (fun _ => True) h0 (.inr (2, [.null, .null, .long 0])) [.ref hn] (fun w1 => ∃ (q0 : Nat), w1 = [(h0, .inr (2, [.ref hn, .ref q0, .long 1])), (q0, .inl (g.2.2.1, 1024, .inr (.inl (fun _ => 0))))]) := by
  refine MetK.ofX (by decide +kernel) rfl (Nat.le_of_ble_eq_true rfl) (fun p e s m below meth c AV Q A X hin hE fin ls hw hl => ?_)
  have hl : lv_has ls 2 [(0, .ref h0), (1, .ref hn)] := hl
  refine lv_aload_n X.1 X.2.1 dX3_init_0 rfl (lv_at hl 0 rfl) ?_
  refine n_obj X hl.1 wq_3_6 ⟨Nat.le_of_ble_eq_true rfl, Nat.le_of_ble_eq_true rfl⟩ dX3_init_1 ?_
  refine lv_aload_n X.1 X.2.1 dX3_init_4 rfl (lv_at hl 0 rfl) ?_
  refine lv_sipush (v := 1024) X.1 X.2.1 dX3_init_5 (by decide) ?_
  refine n_newl (N' := 1024) X hw (by decide) (by decide) (by decide) (Nat.le_of_ble_eq_true rfl) (Nat.le_of_ble_eq_true rfl) dX3_init_8 (fun q0 H hw => ?_)
  have hw : Wn g A [(h0, .inr (2, [.null, .null, .long 0])), (q0, .inl (g.2.2.1, 1024, .inr (.inl (fun _ => 0))))] s H _ := hw
  refine n_putF (T := TX3) (ci := 2) (C := RX3) (N := 3) (ty0 := tyX3) (ty := .array .long) X hin hw inlX3 tyX3_ok nmX3 0 rfl rfl 1 (by decide) wq_3_7 rfl rfl (by decide +kernel) rfl rfl (Nat.le_of_ble_eq_true rfl) dX3_init_10 (fun H locs hw => ?_)
  have hw : Wn g A [(h0, .inr (2, [.null, .ref q0, .long 0])), (q0, .inl (g.2.2.1, 1024, .inr (.inl (fun _ => 0))))] s H _ := hw
  refine lv_aload_n X.1 X.2.1 dX3_init_13 rfl (lv_at hl 0 rfl) ?_
  refine lv_aload_n X.1 X.2.1 dX3_init_14 rfl (lv_at hl 1 rfl) ?_
  refine n_putF (T := TX3) (ci := 2) (C := RX3) (N := 3) (ty0 := tyX3) (ty := .object "LinkChances$Net") X hin hw inlX3 tyX3_ok nmX3 0 rfl rfl 0 (by decide) wq_3_8 rfl rfl (by decide +kernel) rfl rfl (Nat.le_of_ble_eq_true rfl) dX3_init_15 (fun H locs hw => ?_)
  have hw : Wn g A [(h0, .inr (2, [.ref hn, .ref q0, .long 0])), (q0, .inl (g.2.2.1, 1024, .inr (.inl (fun _ => 0))))] s H _ := hw
  refine lv_aload_n X.1 X.2.1 dX3_init_18 rfl (lv_at hl 0 rfl) ?_
  refine lv_lconst (v := 1) X.1 X.2.1 dX3_init_19 (by decide) ?_
  refine n_put (T := TX3) (ci := 2) (C := RX3) (N := 3) (ty0 := tyX3) (ty := .long) X hw inlX3 tyX3_ok nmX3 0 rfl rfl 2 (by decide) wq_3_9 rfl (by decide +kernel) rfl rfl (Nat.le_of_ble_eq_true rfl) dX3_init_20 (fun H locs hw => ?_)
  have hw : Wn g A [(h0, .inr (2, [.ref hn, .ref q0, .long 1])), (q0, .inl (g.2.2.1, 1024, .inr (.inl (fun _ => 0))))] s H _ := hw
  exact fin _ _ _ _ _ _ _ ⟨q0, rfl⟩ hw (Nat.le_of_ble_eq_true rfl) (Nat.le_of_ble_eq_true rfl) dX3_init_23
set_option maxHeartbeats 4000000 in
theorem cn_X5 {l : Launch} {g : gT} {h0 : Nat} {hn : Nat} : MetK l g yX5_init cX5_init 2 1 28 1 11 (fun _ => True) h0 (.inr (4, [.null, .null])) [.ref hn] (fun w1 => ∃ (q0 : Nat), w1 = [(h0, .inr (4, [.ref hn, .ref q0])), (q0, .inl (g.2.1, 11, .inl (fun _ => 0)))]) := by
  refine MetK.ofX (by decide +kernel) rfl (Nat.le_of_ble_eq_true rfl) (fun p e s m below meth c AV Q A X hin hE fin ls hw hl => ?_)
  have hl : lv_has ls 2 [(0, .ref h0), (1, .ref hn)] := hl
  refine lv_aload_n X.1 X.2.1 dX5_init_0 rfl (lv_at hl 0 rfl) ?_
  refine n_obj X hl.1 wq_3_13 ⟨Nat.le_of_ble_eq_true rfl, Nat.le_of_ble_eq_true rfl⟩ dX5_init_1 ?_
  refine lv_aload_n X.1 X.2.1 dX5_init_4 rfl (lv_at hl 0 rfl) ?_
  refine lv_bipush (v := 11) X.1 X.2.1 dX5_init_5 (by decide) ?_
  refine n_newi (N' := 11) X hw (by decide) (by decide) (by decide) (Nat.le_of_ble_eq_true rfl) (Nat.le_of_ble_eq_true rfl) dX5_init_7 (fun q0 H hw => ?_)
  have hw : Wn g A [(h0, .inr (4, [.null, .null])), (q0, .inl (g.2.1, 11, .inl (fun _ => 0)))] s H _ := hw
  refine n_putF (T := TX5) (ci := 4) (C := RX5) (N := 2) (ty0 := tyX5) (ty := .array .int) X hin hw inlX5 tyX5_ok nmX5 0 rfl rfl 1 (by decide) wq_3_14 rfl rfl (by decide +kernel) rfl rfl (Nat.le_of_ble_eq_true rfl) dX5_init_9 (fun H locs hw => ?_)
  have hw : Wn g A [(h0, .inr (4, [.null, .ref q0])), (q0, .inl (g.2.1, 11, .inl (fun _ => 0)))] s H _ := hw
  refine lv_aload_n X.1 X.2.1 dX5_init_12 rfl (lv_at hl 0 rfl) ?_
  refine lv_aload_n X.1 X.2.1 dX5_init_13 rfl (lv_at hl 1 rfl) ?_
  refine n_putF (T := TX5) (ci := 4) (C := RX5) (N := 2) (ty0 := tyX5) (ty := .object "LinkChances$Net") X hin hw inlX5 tyX5_ok nmX5 0 rfl rfl 0 (by decide) wq_3_15 rfl rfl (by decide +kernel) rfl rfl (Nat.le_of_ble_eq_true rfl) dX5_init_14 (fun H locs hw => ?_)
  have hw : Wn g A [(h0, .inr (4, [.ref hn, .ref q0])), (q0, .inl (g.2.1, 11, .inl (fun _ => 0)))] s H _ := hw
  exact fin _ _ _ _ _ _ _ ⟨q0, rfl⟩ hw (Nat.le_of_ble_eq_true rfl) (Nat.le_of_ble_eq_true rfl) dX5_init_17
set_option maxHeartbeats 4000000 in
theorem cn_X6 {l : Launch} {g : gT} {h0 : Nat} {hn : Nat} : MetK l g yX6_init cX6_init 2 1 28 1 1024 (fun _ => True) h0 (.inr (5, [.null, .null])) [.ref hn] (fun w1 => ∃ (q0 : Nat), w1 = [(h0, .inr (5, [.ref hn, .ref q0])), (q0, .inl (g.2.2.1, 1024, .inr (.inl (fun _ => 0))))]) := by
  refine MetK.ofX (by decide +kernel) rfl (Nat.le_of_ble_eq_true rfl) (fun p e s m below meth c AV Q A X hin hE fin ls hw hl => ?_)
  have hl : lv_has ls 2 [(0, .ref h0), (1, .ref hn)] := hl
  refine lv_aload_n X.1 X.2.1 dX6_init_0 rfl (lv_at hl 0 rfl) ?_
  refine n_obj X hl.1 wq_3_19 ⟨Nat.le_of_ble_eq_true rfl, Nat.le_of_ble_eq_true rfl⟩ dX6_init_1 ?_
  refine lv_aload_n X.1 X.2.1 dX6_init_4 rfl (lv_at hl 0 rfl) ?_
  refine lv_sipush (v := 1024) X.1 X.2.1 dX6_init_5 (by decide) ?_
  refine n_newl (N' := 1024) X hw (by decide) (by decide) (by decide) (Nat.le_of_ble_eq_true rfl) (Nat.le_of_ble_eq_true rfl) dX6_init_8 (fun q0 H hw => ?_)
  have hw : Wn g A [(h0, .inr (5, [.null, .null])), (q0, .inl (g.2.2.1, 1024, .inr (.inl (fun _ => 0))))] s H _ := hw
  refine n_putF (T := TX6) (ci := 5) (C := RX6) (N := 2) (ty0 := tyX6) (ty := .array .long) X hin hw inlX6 tyX6_ok nmX6 0 rfl rfl 1 (by decide) wq_3_20 rfl rfl (by decide +kernel) rfl rfl (Nat.le_of_ble_eq_true rfl) dX6_init_10 (fun H locs hw => ?_)
  have hw : Wn g A [(h0, .inr (5, [.null, .ref q0])), (q0, .inl (g.2.2.1, 1024, .inr (.inl (fun _ => 0))))] s H _ := hw
  refine lv_aload_n X.1 X.2.1 dX6_init_13 rfl (lv_at hl 0 rfl) ?_
  refine lv_aload_n X.1 X.2.1 dX6_init_14 rfl (lv_at hl 1 rfl) ?_
  refine n_putF (T := TX6) (ci := 5) (C := RX6) (N := 2) (ty0 := tyX6) (ty := .object "LinkChances$Net") X hin hw inlX6 tyX6_ok nmX6 0 rfl rfl 0 (by decide) wq_3_21 rfl rfl (by decide +kernel) rfl rfl (Nat.le_of_ble_eq_true rfl) dX6_init_15 (fun H locs hw => ?_)
  have hw : Wn g A [(h0, .inr (5, [.ref hn, .ref q0])), (q0, .inl (g.2.2.1, 1024, .inr (.inl (fun _ => 0))))] s H _ := hw
  exact fin _ _ _ _ _ _ _ ⟨q0, rfl⟩ hw (Nat.le_of_ble_eq_true rfl) (Nat.le_of_ble_eq_true rfl) dX6_init_18
set_option maxHeartbeats 4000000 in
theorem cn_X4 {l : Launch} {g : gT} {h0 : Nat} {hn : Nat} : MetK l g yX4_init cX4_init 2 1 28 1 60 (fun _ => True) h0 (.inr (3, [.null, .null, .int 0, .int 0])) [.ref hn] (fun w1 => ∃ (q0 : Nat), w1 = [(h0, .inr (3, [.ref hn, .ref q0, .int 0, .int 0])), (q0, .inl (g.2.1, 60, .inl (fun _ => 0)))]) := by
  refine MetK.ofX (by decide +kernel) rfl (Nat.le_of_ble_eq_true rfl) (fun p e s m below meth c AV Q A X hin hE fin ls hw hl => ?_)
  have hl : lv_has ls 2 [(0, .ref h0), (1, .ref hn)] := hl
  refine lv_aload_n X.1 X.2.1 dX4_init_0 rfl (lv_at hl 0 rfl) ?_
  refine n_obj X hl.1 wq_4_17 ⟨Nat.le_of_ble_eq_true rfl, Nat.le_of_ble_eq_true rfl⟩ dX4_init_1 ?_
  refine lv_aload_n X.1 X.2.1 dX4_init_4 rfl (lv_at hl 0 rfl) ?_
  refine lv_bipush (v := 60) X.1 X.2.1 dX4_init_5 (by decide) ?_
  refine n_newi (N' := 60) X hw (by decide) (by decide) (by decide) (Nat.le_of_ble_eq_true rfl) (Nat.le_of_ble_eq_true rfl) dX4_init_7 (fun q0 H hw => ?_)
  have hw : Wn g A [(h0, .inr (3, [.null, .null, .int 0, .int 0])), (q0, .inl (g.2.1, 60, .inl (fun _ => 0)))] s H _ := hw
  refine n_putF (T := TX4) (ci := 3) (C := RX4) (N := 4) (ty0 := tyX4) (ty := .array .int) X hin hw inlX4 tyX4_ok nmX4 0 rfl rfl 1 (by decide) wq_4_18 rfl rfl (by decide +kernel) rfl rfl (Nat.le_of_ble_eq_true rfl) dX4_init_9 (fun H locs hw => ?_)
  have hw : Wn g A [(h0, .inr (3, [.null, .ref q0, .int 0, .int 0])), (q0, .inl (g.2.1, 60, .inl (fun _ => 0)))] s H _ := hw
  refine lv_aload_n X.1 X.2.1 dX4_init_12 rfl (lv_at hl 0 rfl) ?_
  refine lv_aload_n X.1 X.2.1 dX4_init_13 rfl (lv_at hl 1 rfl) ?_
  refine n_putF (T := TX4) (ci := 3) (C := RX4) (N := 4) (ty0 := tyX4) (ty := .object "LinkChances$Net") X hin hw inlX4 tyX4_ok nmX4 0 rfl rfl 0 (by decide) wq_4_19 rfl rfl (by decide +kernel) rfl rfl (Nat.le_of_ble_eq_true rfl) dX4_init_14 (fun H locs hw => ?_)
  have hw : Wn g A [(h0, .inr (3, [.ref hn, .ref q0, .int 0, .int 0])), (q0, .inl (g.2.1, 60, .inl (fun _ => 0)))] s H _ := hw
  exact fin _ _ _ _ _ _ _ ⟨q0, rfl⟩ hw (Nat.le_of_ble_eq_true rfl) (Nat.le_of_ble_eq_true rfl) dX4_init_17
set_option maxHeartbeats 4000000 in
theorem cn_X2 {l : Launch} {g : gT} {h0 : Nat} : MetK l g yX2_init cX2_init 2 1 28 6 1074 (fun _ => True) h0 (.inr (1, [.null, .null, .null, .null, .null, .null, .int 0, .int 0, .int 0, .int 0])) [] (fun w1 => ∃ (q0 q1 q2 q3 q4 q5 : Nat) (f : Nat → Int64), f 0 = lN 282578800148737 ∧ w1 = [(h0, .inr (1, [.ref q0, .ref q1, .ref q2, .ref q3, .ref q4, .ref q5, .int 4, .int 0, .int 0, .int 0])), (q0, .inl (g.2.1, 10, .inl (fun _ => 0))), (q1, .inl (g.2.1, 10, .inl (fun _ => 0))), (q2, .inl (g.2.1, 10, .inl (fun _ => 0))), (q3, .inl (g.2.1, 10, .inl (fun _ => 0))), (q4, .inl (g.2.1, 10, .inl (fun _ => 0))), (q5, .inl (g.2.2.1, 1024, .inr (.inl f)))]) := by
  refine MetK.ofX (by decide +kernel) rfl (Nat.le_of_ble_eq_true rfl) (fun p e s m below meth c AV Q A X hin hE fin ls hw hl => ?_)
  have hl : lv_has ls 2 [(0, .ref h0)] := hl
  refine lv_aload_n X.1 X.2.1 dX2_init_0 rfl (lv_at hl 0 rfl) ?_
  refine n_obj X hl.1 wq_2_18 ⟨Nat.le_of_ble_eq_true rfl, Nat.le_of_ble_eq_true rfl⟩ dX2_init_1 ?_
  refine lv_aload_n X.1 X.2.1 dX2_init_4 rfl (lv_at hl 0 rfl) ?_
  refine lv_bipush (v := 10) X.1 X.2.1 dX2_init_5 (by decide) ?_
  refine n_newi (N' := 10) X hw (by decide) (by decide) (by decide) (Nat.le_of_ble_eq_true rfl) (Nat.le_of_ble_eq_true rfl) dX2_init_7 (fun q0 H hw => ?_)
  have hw : Wn g A [(h0, .inr (1, [.null, .null, .null, .null, .null, .null, .int 0, .int 0, .int 0, .int 0])), (q0, .inl (g.2.1, 10, .inl (fun _ => 0)))] s H _ := hw
  refine n_putF (T := TX2) (ci := 1) (C := RX2) (N := 10) (ty0 := tyX2) (ty := .array .int) X hin hw inlX2 tyX2_ok nmX2 0 rfl rfl 0 (by decide) wq_2_19 rfl rfl (by decide +kernel) rfl rfl (Nat.le_of_ble_eq_true rfl) dX2_init_9 (fun H locs hw => ?_)
  have hw : Wn g A [(h0, .inr (1, [.ref q0, .null, .null, .null, .null, .null, .int 0, .int 0, .int 0, .int 0])), (q0, .inl (g.2.1, 10, .inl (fun _ => 0)))] s H _ := hw
  refine lv_aload_n X.1 X.2.1 dX2_init_12 rfl (lv_at hl 0 rfl) ?_
  refine lv_bipush (v := 10) X.1 X.2.1 dX2_init_13 (by decide) ?_
  refine n_newi (N' := 10) X hw (by decide) (by decide) (by decide) (Nat.le_of_ble_eq_true rfl) (Nat.le_of_ble_eq_true rfl) dX2_init_15 (fun q1 H hw => ?_)
  have hw : Wn g A [(h0, .inr (1, [.ref q0, .null, .null, .null, .null, .null, .int 0, .int 0, .int 0, .int 0])), (q0, .inl (g.2.1, 10, .inl (fun _ => 0))), (q1, .inl (g.2.1, 10, .inl (fun _ => 0)))] s H _ := hw
  refine n_putF (T := TX2) (ci := 1) (C := RX2) (N := 10) (ty0 := tyX2) (ty := .array .int) X hin hw inlX2 tyX2_ok nmX2 0 rfl rfl 1 (by decide) wq_2_20 rfl rfl (by decide +kernel) rfl rfl (Nat.le_of_ble_eq_true rfl) dX2_init_17 (fun H locs hw => ?_)
  have hw : Wn g A [(h0, .inr (1, [.ref q0, .ref q1, .null, .null, .null, .null, .int 0, .int 0, .int 0, .int 0])), (q0, .inl (g.2.1, 10, .inl (fun _ => 0))), (q1, .inl (g.2.1, 10, .inl (fun _ => 0)))] s H _ := hw
  refine lv_aload_n X.1 X.2.1 dX2_init_20 rfl (lv_at hl 0 rfl) ?_
  refine lv_bipush (v := 10) X.1 X.2.1 dX2_init_21 (by decide) ?_
  refine n_newi (N' := 10) X hw (by decide) (by decide) (by decide) (Nat.le_of_ble_eq_true rfl) (Nat.le_of_ble_eq_true rfl) dX2_init_23 (fun q2 H hw => ?_)
  have hw : Wn g A [(h0, .inr (1, [.ref q0, .ref q1, .null, .null, .null, .null, .int 0, .int 0, .int 0, .int 0])), (q0, .inl (g.2.1, 10, .inl (fun _ => 0))), (q1, .inl (g.2.1, 10, .inl (fun _ => 0))), (q2, .inl (g.2.1, 10, .inl (fun _ => 0)))] s H _ := hw
  refine n_putF (T := TX2) (ci := 1) (C := RX2) (N := 10) (ty0 := tyX2) (ty := .array .int) X hin hw inlX2 tyX2_ok nmX2 0 rfl rfl 2 (by decide) wq_2_21 rfl rfl (by decide +kernel) rfl rfl (Nat.le_of_ble_eq_true rfl) dX2_init_25 (fun H locs hw => ?_)
  have hw : Wn g A [(h0, .inr (1, [.ref q0, .ref q1, .ref q2, .null, .null, .null, .int 0, .int 0, .int 0, .int 0])), (q0, .inl (g.2.1, 10, .inl (fun _ => 0))), (q1, .inl (g.2.1, 10, .inl (fun _ => 0))), (q2, .inl (g.2.1, 10, .inl (fun _ => 0)))] s H _ := hw
  refine lv_aload_n X.1 X.2.1 dX2_init_28 rfl (lv_at hl 0 rfl) ?_
  refine lv_bipush (v := 10) X.1 X.2.1 dX2_init_29 (by decide) ?_
  refine n_newi (N' := 10) X hw (by decide) (by decide) (by decide) (Nat.le_of_ble_eq_true rfl) (Nat.le_of_ble_eq_true rfl) dX2_init_31 (fun q3 H hw => ?_)
  have hw : Wn g A [(h0, .inr (1, [.ref q0, .ref q1, .ref q2, .null, .null, .null, .int 0, .int 0, .int 0, .int 0])), (q0, .inl (g.2.1, 10, .inl (fun _ => 0))), (q1, .inl (g.2.1, 10, .inl (fun _ => 0))), (q2, .inl (g.2.1, 10, .inl (fun _ => 0))), (q3, .inl (g.2.1, 10, .inl (fun _ => 0)))] s H _ := hw
  refine n_putF (T := TX2) (ci := 1) (C := RX2) (N := 10) (ty0 := tyX2) (ty := .array .int) X hin hw inlX2 tyX2_ok nmX2 0 rfl rfl 3 (by decide) wq_2_22 rfl rfl (by decide +kernel) rfl rfl (Nat.le_of_ble_eq_true rfl) dX2_init_33 (fun H locs hw => ?_)
  have hw : Wn g A [(h0, .inr (1, [.ref q0, .ref q1, .ref q2, .ref q3, .null, .null, .int 0, .int 0, .int 0, .int 0])), (q0, .inl (g.2.1, 10, .inl (fun _ => 0))), (q1, .inl (g.2.1, 10, .inl (fun _ => 0))), (q2, .inl (g.2.1, 10, .inl (fun _ => 0))), (q3, .inl (g.2.1, 10, .inl (fun _ => 0)))] s H _ := hw
  refine lv_aload_n X.1 X.2.1 dX2_init_36 rfl (lv_at hl 0 rfl) ?_
  refine lv_bipush (v := 10) X.1 X.2.1 dX2_init_37 (by decide) ?_
  refine n_newi (N' := 10) X hw (by decide) (by decide) (by decide) (Nat.le_of_ble_eq_true rfl) (Nat.le_of_ble_eq_true rfl) dX2_init_39 (fun q4 H hw => ?_)
  have hw : Wn g A [(h0, .inr (1, [.ref q0, .ref q1, .ref q2, .ref q3, .null, .null, .int 0, .int 0, .int 0, .int 0])), (q0, .inl (g.2.1, 10, .inl (fun _ => 0))), (q1, .inl (g.2.1, 10, .inl (fun _ => 0))), (q2, .inl (g.2.1, 10, .inl (fun _ => 0))), (q3, .inl (g.2.1, 10, .inl (fun _ => 0))), (q4, .inl (g.2.1, 10, .inl (fun _ => 0)))] s H _ := hw
  refine n_putF (T := TX2) (ci := 1) (C := RX2) (N := 10) (ty0 := tyX2) (ty := .array .int) X hin hw inlX2 tyX2_ok nmX2 0 rfl rfl 4 (by decide) wq_2_23 rfl rfl (by decide +kernel) rfl rfl (Nat.le_of_ble_eq_true rfl) dX2_init_41 (fun H locs hw => ?_)
  have hw : Wn g A [(h0, .inr (1, [.ref q0, .ref q1, .ref q2, .ref q3, .ref q4, .null, .int 0, .int 0, .int 0, .int 0])), (q0, .inl (g.2.1, 10, .inl (fun _ => 0))), (q1, .inl (g.2.1, 10, .inl (fun _ => 0))), (q2, .inl (g.2.1, 10, .inl (fun _ => 0))), (q3, .inl (g.2.1, 10, .inl (fun _ => 0))), (q4, .inl (g.2.1, 10, .inl (fun _ => 0)))] s H _ := hw
  refine lv_aload_n X.1 X.2.1 dX2_init_44 rfl (lv_at hl 0 rfl) ?_
  refine lv_sipush (v := 1024) X.1 X.2.1 dX2_init_45 (by decide) ?_
  refine n_newl (N' := 1024) X hw (by decide) (by decide) (by decide) (Nat.le_of_ble_eq_true rfl) (Nat.le_of_ble_eq_true rfl) dX2_init_48 (fun q5 H hw => ?_)
  have hw : Wn g A [(h0, .inr (1, [.ref q0, .ref q1, .ref q2, .ref q3, .ref q4, .null, .int 0, .int 0, .int 0, .int 0])), (q0, .inl (g.2.1, 10, .inl (fun _ => 0))), (q1, .inl (g.2.1, 10, .inl (fun _ => 0))), (q2, .inl (g.2.1, 10, .inl (fun _ => 0))), (q3, .inl (g.2.1, 10, .inl (fun _ => 0))), (q4, .inl (g.2.1, 10, .inl (fun _ => 0))), (q5, .inl (g.2.2.1, 1024, .inr (.inl (fun _ => 0))))] s H _ := hw
  refine n_putF (T := TX2) (ci := 1) (C := RX2) (N := 10) (ty0 := tyX2) (ty := .array .long) X hin hw inlX2 tyX2_ok nmX2 0 rfl rfl 5 (by decide) wq_3_1 rfl rfl (by decide +kernel) rfl rfl (Nat.le_of_ble_eq_true rfl) dX2_init_50 (fun H locs hw => ?_)
  have hw : Wn g A [(h0, .inr (1, [.ref q0, .ref q1, .ref q2, .ref q3, .ref q4, .ref q5, .int 0, .int 0, .int 0, .int 0])), (q0, .inl (g.2.1, 10, .inl (fun _ => 0))), (q1, .inl (g.2.1, 10, .inl (fun _ => 0))), (q2, .inl (g.2.1, 10, .inl (fun _ => 0))), (q3, .inl (g.2.1, 10, .inl (fun _ => 0))), (q4, .inl (g.2.1, 10, .inl (fun _ => 0))), (q5, .inl (g.2.2.1, 1024, .inr (.inl (fun _ => 0))))] s H _ := hw
  refine lv_iconst (v := 0) X.1 X.2.1 dX2_init_53 (by decide) ?_
  refine lv_istore_n (lv' := [(1, .int 0), (0, .ref h0)]) X.1 X.2.1 dX2_init_54 rfl hl (by decide) rfl (fun ls hl => ?_)
  have hl : lv_has ls 2 [(0, .ref h0), (1, .int 0)] := lv_sub hl [1, 0] rfl
  refine lv_iload_n X.1 X.2.1 dX2_init_55 rfl (lv_at hl 1 rfl) ?_
  refine lv_bipush (v := 7) X.1 X.2.1 dX2_init_56 (by decide) ?_
  refine lv_icmp_ge (tgt := 84) X.1 X.2.1 dX2_init_58 (by decide) (fun c => absurd c (by decide)) (fun _ => ?_)
  refine lv_aload_n X.1 X.2.1 dX2_init_61 rfl (lv_at hl 0 rfl) ?_
  refine n_get (T := TX2) (ci := 1) (C := RX2) (N := 10) X hw inlX2 0 rfl rfl 5 (by decide) wq_3_1 rfl dX2_init_62 ?_
  refine lv_iconst (v := 0) X.1 X.2.1 dX2_init_65 (by decide) ?_
  refine lv_dup2_11 X.1 X.2.1 dX2_init_66 rfl rfl ?_
  refine n_lald X hw 6 rfl (by decide) dX2_init_67 ?_
  refine lv_lconst (v := 1) X.1 X.2.1 dX2_init_68 (by decide) ?_
  refine lv_bipush (v := 7) X.1 X.2.1 dX2_init_69 (by decide) ?_
  refine lv_iload_n X.1 X.2.1 dX2_init_71 rfl (lv_at hl 1 rfl) ?_
  refine lv_imul X.1 X.2.1 dX2_init_72 ?_
  refine lv_iload_n X.1 X.2.1 dX2_init_73 rfl (lv_at hl 1 rfl) ?_
  refine lv_iadd X.1 X.2.1 dX2_init_74 ?_
  refine lv_lshl X.1 X.2.1 dX2_init_75 rfl ?_
  refine lv_lor X.1 X.2.1 dX2_init_76 ?_
  refine n_last X hw 6 rfl (by decide) dX2_init_77 (fun H locs hw => ?_)
  obtain ⟨f1, hf1, hw⟩ : ∃ f1 : Nat → Int64, f1 0 = lN 1 ∧ Wn g A [(h0, .inr (1, [.ref q0, .ref q1, .ref q2, .ref q3, .ref q4, .ref q5, .int 0, .int 0, .int 0, .int 0])), (q0, .inl (g.2.1, 10, .inl (fun _ => 0))), (q1, .inl (g.2.1, 10, .inl (fun _ => 0))), (q2, .inl (g.2.1, 10, .inl (fun _ => 0))), (q3, .inl (g.2.1, 10, .inl (fun _ => 0))), (q4, .inl (g.2.1, 10, .inl (fun _ => 0))), (q5, .inl (g.2.2.1, 1024, .inr (.inl f1)))] s H _ := by
    refine ⟨_, ?_, hw⟩
    exact (if_pos rfl).trans (by decide +kernel)
  refine lv_iinc (v := 1) (lv' := [(1, .int 1), (0, .ref h0)]) X.1 X.2.1 dX2_init_78 hl (k := 1) rfl (by decide) (by decide) rfl (fun ls hl => ?_)
  have hl : lv_has ls 2 [(0, .ref h0), (1, .int 1)] := lv_sub hl [1, 0] rfl
  refine lv_goto (tgt := 55) X.1 X.2.1 dX2_init_81 (by decide) ?_
  refine lv_iload_n X.1 X.2.1 dX2_init_55 rfl (lv_at hl 1 rfl) ?_
  refine lv_bipush (v := 7) X.1 X.2.1 dX2_init_56 (by decide) ?_
  refine lv_icmp_ge (tgt := 84) X.1 X.2.1 dX2_init_58 (by decide) (fun c => absurd c (by decide)) (fun _ => ?_)
  refine lv_aload_n X.1 X.2.1 dX2_init_61 rfl (lv_at hl 0 rfl) ?_
  refine n_get (T := TX2) (ci := 1) (C := RX2) (N := 10) X hw inlX2 0 rfl rfl 5 (by decide) wq_3_1 rfl dX2_init_62 ?_
  refine lv_iconst (v := 0) X.1 X.2.1 dX2_init_65 (by decide) ?_
  refine lv_dup2_11 X.1 X.2.1 dX2_init_66 rfl rfl ?_
  refine n_lald X hw 6 rfl (by decide) dX2_init_67 ?_
  rw [show f1 (0 : Int32).toNatClampNeg = lN 1 from hf1]
  refine lv_lconst (v := 1) X.1 X.2.1 dX2_init_68 (by decide) ?_
  refine lv_bipush (v := 7) X.1 X.2.1 dX2_init_69 (by decide) ?_
  refine lv_iload_n X.1 X.2.1 dX2_init_71 rfl (lv_at hl 1 rfl) ?_
  refine lv_imul X.1 X.2.1 dX2_init_72 ?_
  refine lv_iload_n X.1 X.2.1 dX2_init_73 rfl (lv_at hl 1 rfl) ?_
  refine lv_iadd X.1 X.2.1 dX2_init_74 ?_
  refine lv_lshl X.1 X.2.1 dX2_init_75 rfl ?_
  refine lv_lor X.1 X.2.1 dX2_init_76 ?_
  refine n_last X hw 6 rfl (by decide) dX2_init_77 (fun H locs hw => ?_)
  obtain ⟨f2, hf2, hw⟩ : ∃ f2 : Nat → Int64, f2 0 = lN 257 ∧ Wn g A [(h0, .inr (1, [.ref q0, .ref q1, .ref q2, .ref q3, .ref q4, .ref q5, .int 0, .int 0, .int 0, .int 0])), (q0, .inl (g.2.1, 10, .inl (fun _ => 0))), (q1, .inl (g.2.1, 10, .inl (fun _ => 0))), (q2, .inl (g.2.1, 10, .inl (fun _ => 0))), (q3, .inl (g.2.1, 10, .inl (fun _ => 0))), (q4, .inl (g.2.1, 10, .inl (fun _ => 0))), (q5, .inl (g.2.2.1, 1024, .inr (.inl f2)))] s H _ := by
    refine ⟨_, ?_, hw⟩
    exact (if_pos rfl).trans (by decide +kernel)
  refine lv_iinc (v := 2) (lv' := [(1, .int 2), (0, .ref h0)]) X.1 X.2.1 dX2_init_78 hl (k := 1) rfl (by decide) (by decide) rfl (fun ls hl => ?_)
  have hl : lv_has ls 2 [(0, .ref h0), (1, .int 2)] := lv_sub hl [1, 0] rfl
  refine lv_goto (tgt := 55) X.1 X.2.1 dX2_init_81 (by decide) ?_
  refine lv_iload_n X.1 X.2.1 dX2_init_55 rfl (lv_at hl 1 rfl) ?_
  refine lv_bipush (v := 7) X.1 X.2.1 dX2_init_56 (by decide) ?_
  refine lv_icmp_ge (tgt := 84) X.1 X.2.1 dX2_init_58 (by decide) (fun c => absurd c (by decide)) (fun _ => ?_)
  refine lv_aload_n X.1 X.2.1 dX2_init_61 rfl (lv_at hl 0 rfl) ?_
  refine n_get (T := TX2) (ci := 1) (C := RX2) (N := 10) X hw inlX2 0 rfl rfl 5 (by decide) wq_3_1 rfl dX2_init_62 ?_
  refine lv_iconst (v := 0) X.1 X.2.1 dX2_init_65 (by decide) ?_
  refine lv_dup2_11 X.1 X.2.1 dX2_init_66 rfl rfl ?_
  refine n_lald X hw 6 rfl (by decide) dX2_init_67 ?_
  rw [show f2 (0 : Int32).toNatClampNeg = lN 257 from hf2]
  refine lv_lconst (v := 1) X.1 X.2.1 dX2_init_68 (by decide) ?_
  refine lv_bipush (v := 7) X.1 X.2.1 dX2_init_69 (by decide) ?_
  refine lv_iload_n X.1 X.2.1 dX2_init_71 rfl (lv_at hl 1 rfl) ?_
  refine lv_imul X.1 X.2.1 dX2_init_72 ?_
  refine lv_iload_n X.1 X.2.1 dX2_init_73 rfl (lv_at hl 1 rfl) ?_
  refine lv_iadd X.1 X.2.1 dX2_init_74 ?_
  refine lv_lshl X.1 X.2.1 dX2_init_75 rfl ?_
  refine lv_lor X.1 X.2.1 dX2_init_76 ?_
  refine n_last X hw 6 rfl (by decide) dX2_init_77 (fun H locs hw => ?_)
  obtain ⟨f3, hf3, hw⟩ : ∃ f3 : Nat → Int64, f3 0 = lN 65793 ∧ Wn g A [(h0, .inr (1, [.ref q0, .ref q1, .ref q2, .ref q3, .ref q4, .ref q5, .int 0, .int 0, .int 0, .int 0])), (q0, .inl (g.2.1, 10, .inl (fun _ => 0))), (q1, .inl (g.2.1, 10, .inl (fun _ => 0))), (q2, .inl (g.2.1, 10, .inl (fun _ => 0))), (q3, .inl (g.2.1, 10, .inl (fun _ => 0))), (q4, .inl (g.2.1, 10, .inl (fun _ => 0))), (q5, .inl (g.2.2.1, 1024, .inr (.inl f3)))] s H _ := by
    refine ⟨_, ?_, hw⟩
    exact (if_pos rfl).trans (by decide +kernel)
  refine lv_iinc (v := 3) (lv' := [(1, .int 3), (0, .ref h0)]) X.1 X.2.1 dX2_init_78 hl (k := 1) rfl (by decide) (by decide) rfl (fun ls hl => ?_)
  have hl : lv_has ls 2 [(0, .ref h0), (1, .int 3)] := lv_sub hl [1, 0] rfl
  refine lv_goto (tgt := 55) X.1 X.2.1 dX2_init_81 (by decide) ?_
  refine lv_iload_n X.1 X.2.1 dX2_init_55 rfl (lv_at hl 1 rfl) ?_
  refine lv_bipush (v := 7) X.1 X.2.1 dX2_init_56 (by decide) ?_
  refine lv_icmp_ge (tgt := 84) X.1 X.2.1 dX2_init_58 (by decide) (fun c => absurd c (by decide)) (fun _ => ?_)
  refine lv_aload_n X.1 X.2.1 dX2_init_61 rfl (lv_at hl 0 rfl) ?_
  refine n_get (T := TX2) (ci := 1) (C := RX2) (N := 10) X hw inlX2 0 rfl rfl 5 (by decide) wq_3_1 rfl dX2_init_62 ?_
  refine lv_iconst (v := 0) X.1 X.2.1 dX2_init_65 (by decide) ?_
  refine lv_dup2_11 X.1 X.2.1 dX2_init_66 rfl rfl ?_
  refine n_lald X hw 6 rfl (by decide) dX2_init_67 ?_
  rw [show f3 (0 : Int32).toNatClampNeg = lN 65793 from hf3]
  refine lv_lconst (v := 1) X.1 X.2.1 dX2_init_68 (by decide) ?_
  refine lv_bipush (v := 7) X.1 X.2.1 dX2_init_69 (by decide) ?_
  refine lv_iload_n X.1 X.2.1 dX2_init_71 rfl (lv_at hl 1 rfl) ?_
  refine lv_imul X.1 X.2.1 dX2_init_72 ?_
  refine lv_iload_n X.1 X.2.1 dX2_init_73 rfl (lv_at hl 1 rfl) ?_
  refine lv_iadd X.1 X.2.1 dX2_init_74 ?_
  refine lv_lshl X.1 X.2.1 dX2_init_75 rfl ?_
  refine lv_lor X.1 X.2.1 dX2_init_76 ?_
  refine n_last X hw 6 rfl (by decide) dX2_init_77 (fun H locs hw => ?_)
  obtain ⟨f4, hf4, hw⟩ : ∃ f4 : Nat → Int64, f4 0 = lN 16843009 ∧ Wn g A [(h0, .inr (1, [.ref q0, .ref q1, .ref q2, .ref q3, .ref q4, .ref q5, .int 0, .int 0, .int 0, .int 0])), (q0, .inl (g.2.1, 10, .inl (fun _ => 0))), (q1, .inl (g.2.1, 10, .inl (fun _ => 0))), (q2, .inl (g.2.1, 10, .inl (fun _ => 0))), (q3, .inl (g.2.1, 10, .inl (fun _ => 0))), (q4, .inl (g.2.1, 10, .inl (fun _ => 0))), (q5, .inl (g.2.2.1, 1024, .inr (.inl f4)))] s H _ := by
    refine ⟨_, ?_, hw⟩
    exact (if_pos rfl).trans (by decide +kernel)
  refine lv_iinc (v := 4) (lv' := [(1, .int 4), (0, .ref h0)]) X.1 X.2.1 dX2_init_78 hl (k := 1) rfl (by decide) (by decide) rfl (fun ls hl => ?_)
  have hl : lv_has ls 2 [(0, .ref h0), (1, .int 4)] := lv_sub hl [1, 0] rfl
  refine lv_goto (tgt := 55) X.1 X.2.1 dX2_init_81 (by decide) ?_
  refine lv_iload_n X.1 X.2.1 dX2_init_55 rfl (lv_at hl 1 rfl) ?_
  refine lv_bipush (v := 7) X.1 X.2.1 dX2_init_56 (by decide) ?_
  refine lv_icmp_ge (tgt := 84) X.1 X.2.1 dX2_init_58 (by decide) (fun c => absurd c (by decide)) (fun _ => ?_)
  refine lv_aload_n X.1 X.2.1 dX2_init_61 rfl (lv_at hl 0 rfl) ?_
  refine n_get (T := TX2) (ci := 1) (C := RX2) (N := 10) X hw inlX2 0 rfl rfl 5 (by decide) wq_3_1 rfl dX2_init_62 ?_
  refine lv_iconst (v := 0) X.1 X.2.1 dX2_init_65 (by decide) ?_
  refine lv_dup2_11 X.1 X.2.1 dX2_init_66 rfl rfl ?_
  refine n_lald X hw 6 rfl (by decide) dX2_init_67 ?_
  rw [show f4 (0 : Int32).toNatClampNeg = lN 16843009 from hf4]
  refine lv_lconst (v := 1) X.1 X.2.1 dX2_init_68 (by decide) ?_
  refine lv_bipush (v := 7) X.1 X.2.1 dX2_init_69 (by decide) ?_
  refine lv_iload_n X.1 X.2.1 dX2_init_71 rfl (lv_at hl 1 rfl) ?_
  refine lv_imul X.1 X.2.1 dX2_init_72 ?_
  refine lv_iload_n X.1 X.2.1 dX2_init_73 rfl (lv_at hl 1 rfl) ?_
  refine lv_iadd X.1 X.2.1 dX2_init_74 ?_
  refine lv_lshl X.1 X.2.1 dX2_init_75 rfl ?_
  refine lv_lor X.1 X.2.1 dX2_init_76 ?_
  refine n_last X hw 6 rfl (by decide) dX2_init_77 (fun H locs hw => ?_)
  obtain ⟨f5, hf5, hw⟩ : ∃ f5 : Nat → Int64, f5 0 = lN 4311810305 ∧ Wn g A [(h0, .inr (1, [.ref q0, .ref q1, .ref q2, .ref q3, .ref q4, .ref q5, .int 0, .int 0, .int 0, .int 0])), (q0, .inl (g.2.1, 10, .inl (fun _ => 0))), (q1, .inl (g.2.1, 10, .inl (fun _ => 0))), (q2, .inl (g.2.1, 10, .inl (fun _ => 0))), (q3, .inl (g.2.1, 10, .inl (fun _ => 0))), (q4, .inl (g.2.1, 10, .inl (fun _ => 0))), (q5, .inl (g.2.2.1, 1024, .inr (.inl f5)))] s H _ := by
    refine ⟨_, ?_, hw⟩
    exact (if_pos rfl).trans (by decide +kernel)
  refine lv_iinc (v := 5) (lv' := [(1, .int 5), (0, .ref h0)]) X.1 X.2.1 dX2_init_78 hl (k := 1) rfl (by decide) (by decide) rfl (fun ls hl => ?_)
  have hl : lv_has ls 2 [(0, .ref h0), (1, .int 5)] := lv_sub hl [1, 0] rfl
  refine lv_goto (tgt := 55) X.1 X.2.1 dX2_init_81 (by decide) ?_
  refine lv_iload_n X.1 X.2.1 dX2_init_55 rfl (lv_at hl 1 rfl) ?_
  refine lv_bipush (v := 7) X.1 X.2.1 dX2_init_56 (by decide) ?_
  refine lv_icmp_ge (tgt := 84) X.1 X.2.1 dX2_init_58 (by decide) (fun c => absurd c (by decide)) (fun _ => ?_)
  refine lv_aload_n X.1 X.2.1 dX2_init_61 rfl (lv_at hl 0 rfl) ?_
  refine n_get (T := TX2) (ci := 1) (C := RX2) (N := 10) X hw inlX2 0 rfl rfl 5 (by decide) wq_3_1 rfl dX2_init_62 ?_
  refine lv_iconst (v := 0) X.1 X.2.1 dX2_init_65 (by decide) ?_
  refine lv_dup2_11 X.1 X.2.1 dX2_init_66 rfl rfl ?_
  refine n_lald X hw 6 rfl (by decide) dX2_init_67 ?_
  rw [show f5 (0 : Int32).toNatClampNeg = lN 4311810305 from hf5]
  refine lv_lconst (v := 1) X.1 X.2.1 dX2_init_68 (by decide) ?_
  refine lv_bipush (v := 7) X.1 X.2.1 dX2_init_69 (by decide) ?_
  refine lv_iload_n X.1 X.2.1 dX2_init_71 rfl (lv_at hl 1 rfl) ?_
  refine lv_imul X.1 X.2.1 dX2_init_72 ?_
  refine lv_iload_n X.1 X.2.1 dX2_init_73 rfl (lv_at hl 1 rfl) ?_
  refine lv_iadd X.1 X.2.1 dX2_init_74 ?_
  refine lv_lshl X.1 X.2.1 dX2_init_75 rfl ?_
  refine lv_lor X.1 X.2.1 dX2_init_76 ?_
  refine n_last X hw 6 rfl (by decide) dX2_init_77 (fun H locs hw => ?_)
  obtain ⟨f6, hf6, hw⟩ : ∃ f6 : Nat → Int64, f6 0 = lN 1103823438081 ∧ Wn g A [(h0, .inr (1, [.ref q0, .ref q1, .ref q2, .ref q3, .ref q4, .ref q5, .int 0, .int 0, .int 0, .int 0])), (q0, .inl (g.2.1, 10, .inl (fun _ => 0))), (q1, .inl (g.2.1, 10, .inl (fun _ => 0))), (q2, .inl (g.2.1, 10, .inl (fun _ => 0))), (q3, .inl (g.2.1, 10, .inl (fun _ => 0))), (q4, .inl (g.2.1, 10, .inl (fun _ => 0))), (q5, .inl (g.2.2.1, 1024, .inr (.inl f6)))] s H _ := by
    refine ⟨_, ?_, hw⟩
    exact (if_pos rfl).trans (by decide +kernel)
  refine lv_iinc (v := 6) (lv' := [(1, .int 6), (0, .ref h0)]) X.1 X.2.1 dX2_init_78 hl (k := 1) rfl (by decide) (by decide) rfl (fun ls hl => ?_)
  have hl : lv_has ls 2 [(0, .ref h0), (1, .int 6)] := lv_sub hl [1, 0] rfl
  refine lv_goto (tgt := 55) X.1 X.2.1 dX2_init_81 (by decide) ?_
  refine lv_iload_n X.1 X.2.1 dX2_init_55 rfl (lv_at hl 1 rfl) ?_
  refine lv_bipush (v := 7) X.1 X.2.1 dX2_init_56 (by decide) ?_
  refine lv_icmp_ge (tgt := 84) X.1 X.2.1 dX2_init_58 (by decide) (fun c => absurd c (by decide)) (fun _ => ?_)
  refine lv_aload_n X.1 X.2.1 dX2_init_61 rfl (lv_at hl 0 rfl) ?_
  refine n_get (T := TX2) (ci := 1) (C := RX2) (N := 10) X hw inlX2 0 rfl rfl 5 (by decide) wq_3_1 rfl dX2_init_62 ?_
  refine lv_iconst (v := 0) X.1 X.2.1 dX2_init_65 (by decide) ?_
  refine lv_dup2_11 X.1 X.2.1 dX2_init_66 rfl rfl ?_
  refine n_lald X hw 6 rfl (by decide) dX2_init_67 ?_
  rw [show f6 (0 : Int32).toNatClampNeg = lN 1103823438081 from hf6]
  refine lv_lconst (v := 1) X.1 X.2.1 dX2_init_68 (by decide) ?_
  refine lv_bipush (v := 7) X.1 X.2.1 dX2_init_69 (by decide) ?_
  refine lv_iload_n X.1 X.2.1 dX2_init_71 rfl (lv_at hl 1 rfl) ?_
  refine lv_imul X.1 X.2.1 dX2_init_72 ?_
  refine lv_iload_n X.1 X.2.1 dX2_init_73 rfl (lv_at hl 1 rfl) ?_
  refine lv_iadd X.1 X.2.1 dX2_init_74 ?_
  refine lv_lshl X.1 X.2.1 dX2_init_75 rfl ?_
  refine lv_lor X.1 X.2.1 dX2_init_76 ?_
  refine n_last X hw 6 rfl (by decide) dX2_init_77 (fun H locs hw => ?_)
  obtain ⟨f7, hf7, hw⟩ : ∃ f7 : Nat → Int64, f7 0 = lN 282578800148737 ∧ Wn g A [(h0, .inr (1, [.ref q0, .ref q1, .ref q2, .ref q3, .ref q4, .ref q5, .int 0, .int 0, .int 0, .int 0])), (q0, .inl (g.2.1, 10, .inl (fun _ => 0))), (q1, .inl (g.2.1, 10, .inl (fun _ => 0))), (q2, .inl (g.2.1, 10, .inl (fun _ => 0))), (q3, .inl (g.2.1, 10, .inl (fun _ => 0))), (q4, .inl (g.2.1, 10, .inl (fun _ => 0))), (q5, .inl (g.2.2.1, 1024, .inr (.inl f7)))] s H _ := by
    refine ⟨_, ?_, hw⟩
    exact (if_pos rfl).trans (by decide +kernel)
  refine lv_iinc (v := 7) (lv' := [(1, .int 7), (0, .ref h0)]) X.1 X.2.1 dX2_init_78 hl (k := 1) rfl (by decide) (by decide) rfl (fun ls hl => ?_)
  have hl : lv_has ls 2 [(0, .ref h0), (1, .int 7)] := lv_sub hl [1, 0] rfl
  refine lv_goto (tgt := 55) X.1 X.2.1 dX2_init_81 (by decide) ?_
  refine lv_iload_n X.1 X.2.1 dX2_init_55 rfl (lv_at hl 1 rfl) ?_
  refine lv_bipush (v := 7) X.1 X.2.1 dX2_init_56 (by decide) ?_
  refine lv_icmp_ge (tgt := 84) X.1 X.2.1 dX2_init_58 (by decide) (fun _ => ?_) (fun c => absurd (by decide) c)
  refine lv_aload_n X.1 X.2.1 dX2_init_84 rfl (lv_at hl 0 rfl) ?_
  refine lv_iconst (v := 4) X.1 X.2.1 dX2_init_85 (by decide) ?_
  refine n_put (T := TX2) (ci := 1) (C := RX2) (N := 10) (ty0 := tyX2) (ty := .int) X hw inlX2 tyX2_ok nmX2 0 rfl rfl 6 (by decide) wq_3_2 rfl (by decide +kernel) rfl rfl (Nat.le_of_ble_eq_true rfl) dX2_init_86 (fun H locs hw => ?_)
  have hw : Wn g A [(h0, .inr (1, [.ref q0, .ref q1, .ref q2, .ref q3, .ref q4, .ref q5, .int 4, .int 0, .int 0, .int 0])), (q0, .inl (g.2.1, 10, .inl (fun _ => 0))), (q1, .inl (g.2.1, 10, .inl (fun _ => 0))), (q2, .inl (g.2.1, 10, .inl (fun _ => 0))), (q3, .inl (g.2.1, 10, .inl (fun _ => 0))), (q4, .inl (g.2.1, 10, .inl (fun _ => 0))), (q5, .inl (g.2.2.1, 1024, .inr (.inl f7)))] s H _ := hw
  exact fin _ _ _ _ _ _ _ ⟨q0, q1, q2, q3, q4, q5, f7, hf7, rfl⟩ hw (Nat.le_of_ble_eq_true rfl) (Nat.le_of_ble_eq_true rfl) dX2_init_89
