set_option maxHeartbeats 4000000 in
theorem cn_X7 {l : Launch} {g : gT} {h0 : Nat} : MetK l g yX7_init cX7_init 2 1 28 5 126 (LLk g) h0 (.inr (6, [.null, .null, .int 0])) [] (fun w1 => ∃ (q0 q1 q2 q3 q4 : Nat), w1 = [(h0, .inr (6, [.ref q0, .ref q4, .int 0])), (q0, .inl (g.2.2.2.2.1, 3, .inr (.inr (.inr (.inr (fun i => if i = 0 then some q1 else if i = 1 then some q2 else if i = 2 then some q3 else none)))))), (q1, .inl (g.2.2.1, 40, .inr (.inl (fun _ => 0)))), (q2, .inl (g.2.2.1, 40, .inr (.inl (fun _ => 0)))), (q3, .inl (g.2.2.1, 40, .inr (.inl (fun _ => 0)))), (q4, .inl (g.2.1, 3, .inl (upd (upd (upd (fun _ => 0) (0 : Int32).toNatClampNeg (-1)) (1 : Int32).toNatClampNeg (-1)) (2 : Int32).toNatClampNeg (-1))))]) := by
  refine MetK.ofX (by decide +kernel) rfl (Nat.le_of_ble_eq_true rfl) (fun p e s m below meth c AV Q A X hin hE fin ls hw hl => ?_)
  have hl : lv_has ls 2 [(0, .ref h0)] := hl
  refine lv_aload_n X.1 X.2.1 dX7_init_0 rfl (lv_at hl 0 rfl) ?_
  refine n_obj X hl.1 wq_4_23 ⟨Nat.le_of_ble_eq_true rfl, Nat.le_of_ble_eq_true rfl⟩ dX7_init_1 ?_
  refine lv_aload_n X.1 X.2.1 dX7_init_4 rfl (lv_at hl 0 rfl) ?_
  refine lv_iconst (v := 3) X.1 X.2.1 dX7_init_5 (by decide) ?_
  refine lv_bipush (v := 40) X.1 X.2.1 dX7_init_6 (by decide) ?_
  refine n_new2 X hw (wq_5_0) hE (Nat.le_of_ble_eq_true rfl) (Nat.le_of_ble_eq_true rfl) dX7_init_8 (fun q0 q1 q2 q3 H locs hw => ?_)
  have hw : Wn g A [(h0, .inr (6, [.null, .null, .int 0])), (q0, .inl (g.2.2.2.2.1, 3, .inr (.inr (.inr (.inr (fun i => if i = 0 then some q1 else if i = 1 then some q2 else if i = 2 then some q3 else none)))))), (q1, .inl (g.2.2.1, 40, .inr (.inl (fun _ => 0)))), (q2, .inl (g.2.2.1, 40, .inr (.inl (fun _ => 0)))), (q3, .inl (g.2.2.1, 40, .inr (.inl (fun _ => 0))))] s H _ := hw
  refine n_putF (T := TX7) (ci := 6) (C := RX7) (N := 3) (ty0 := tyX7) (ty := .array (.array .long)) X hin hw inlX7 tyX7_ok nmX7 0 rfl rfl 0 (by decide) wq_5_1 rfl rfl (by decide +kernel) rfl rfl (Nat.le_of_ble_eq_true rfl) dX7_init_12 (fun H locs hw => ?_)
  have hw : Wn g A [(h0, .inr (6, [.ref q0, .null, .int 0])), (q0, .inl (g.2.2.2.2.1, 3, .inr (.inr (.inr (.inr (fun i => if i = 0 then some q1 else if i = 1 then some q2 else if i = 2 then some q3 else none)))))), (q1, .inl (g.2.2.1, 40, .inr (.inl (fun _ => 0)))), (q2, .inl (g.2.2.1, 40, .inr (.inl (fun _ => 0)))), (q3, .inl (g.2.2.1, 40, .inr (.inl (fun _ => 0))))] s H _ := hw
  refine lv_aload_n X.1 X.2.1 dX7_init_15 rfl (lv_at hl 0 rfl) ?_
  refine lv_iconst (v := 3) X.1 X.2.1 dX7_init_16 (by decide) ?_
  refine n_newi (N' := 3) X hw (by decide) (by decide) (by decide) (Nat.le_of_ble_eq_true rfl) (Nat.le_of_ble_eq_true rfl) dX7_init_17 (fun q4 H hw => ?_)
  have hw : Wn g A [(h0, .inr (6, [.ref q0, .null, .int 0])), (q0, .inl (g.2.2.2.2.1, 3, .inr (.inr (.inr (.inr (fun i => if i = 0 then some q1 else if i = 1 then some q2 else if i = 2 then some q3 else none)))))), (q1, .inl (g.2.2.1, 40, .inr (.inl (fun _ => 0)))), (q2, .inl (g.2.2.1, 40, .inr (.inl (fun _ => 0)))), (q3, .inl (g.2.2.1, 40, .inr (.inl (fun _ => 0)))), (q4, .inl (g.2.1, 3, .inl (fun _ => 0)))] s H _ := hw
  refine n_putF (T := TX7) (ci := 6) (C := RX7) (N := 3) (ty0 := tyX7) (ty := .array .int) X hin hw inlX7 tyX7_ok nmX7 0 rfl rfl 1 (by decide) wq_5_2 rfl rfl (by decide +kernel) rfl rfl (Nat.le_of_ble_eq_true rfl) dX7_init_19 (fun H locs hw => ?_)
  have hw : Wn g A [(h0, .inr (6, [.ref q0, .ref q4, .int 0])), (q0, .inl (g.2.2.2.2.1, 3, .inr (.inr (.inr (.inr (fun i => if i = 0 then some q1 else if i = 1 then some q2 else if i = 2 then some q3 else none)))))), (q1, .inl (g.2.2.1, 40, .inr (.inl (fun _ => 0)))), (q2, .inl (g.2.2.1, 40, .inr (.inl (fun _ => 0)))), (q3, .inl (g.2.2.1, 40, .inr (.inl (fun _ => 0)))), (q4, .inl (g.2.1, 3, .inl (fun _ => 0)))] s H _ := hw
  refine lv_iconst (v := 0) X.1 X.2.1 dX7_init_22 (by decide) ?_
  refine lv_istore_n (lv' := [(1, .int 0), (0, .ref h0)]) X.1 X.2.1 dX7_init_23 rfl hl (by decide) rfl (fun ls hl => ?_)
  have hl : lv_has ls 2 [(0, .ref h0), (1, .int 0)] := lv_sub hl [1, 0] rfl
  refine lv_iload_n X.1 X.2.1 dX7_init_24 rfl (lv_at hl 1 rfl) ?_
  refine lv_iconst (v := 3) X.1 X.2.1 dX7_init_25 (by decide) ?_
  refine lv_icmp_ge (tgt := 42) X.1 X.2.1 dX7_init_26 (by decide) (fun c => absurd c (by decide)) (fun _ => ?_)
  refine lv_aload_n X.1 X.2.1 dX7_init_29 rfl (lv_at hl 0 rfl) ?_
  refine n_get (T := TX7) (ci := 6) (C := RX7) (N := 3) X hw inlX7 0 rfl rfl 1 (by decide) wq_5_2 rfl dX7_init_30 ?_
  refine lv_iload_n X.1 X.2.1 dX7_init_33 rfl (lv_at hl 1 rfl) ?_
  refine lv_iconst (v := (-1)) X.1 X.2.1 dX7_init_34 (by decide) ?_
  refine n_iast X hw 5 rfl (by decide) dX7_init_35 (fun H locs hw => ?_)
  have hw : Wn g A [(h0, .inr (6, [.ref q0, .ref q4, .int 0])), (q0, .inl (g.2.2.2.2.1, 3, .inr (.inr (.inr (.inr (fun i => if i = 0 then some q1 else if i = 1 then some q2 else if i = 2 then some q3 else none)))))), (q1, .inl (g.2.2.1, 40, .inr (.inl (fun _ => 0)))), (q2, .inl (g.2.2.1, 40, .inr (.inl (fun _ => 0)))), (q3, .inl (g.2.2.1, 40, .inr (.inl (fun _ => 0)))), (q4, .inl (g.2.1, 3, .inl (upd (fun _ => 0) (0 : Int32).toNatClampNeg (-1))))] s H _ := hw
  refine lv_iinc (v := 1) (lv' := [(1, .int 1), (0, .ref h0)]) X.1 X.2.1 dX7_init_36 hl (k := 1) rfl (by decide) (by decide) rfl (fun ls hl => ?_)
  have hl : lv_has ls 2 [(0, .ref h0), (1, .int 1)] := lv_sub hl [1, 0] rfl
  refine lv_goto (tgt := 24) X.1 X.2.1 dX7_init_39 (by decide) ?_
  refine lv_iload_n X.1 X.2.1 dX7_init_24 rfl (lv_at hl 1 rfl) ?_
  refine lv_iconst (v := 3) X.1 X.2.1 dX7_init_25 (by decide) ?_
  refine lv_icmp_ge (tgt := 42) X.1 X.2.1 dX7_init_26 (by decide) (fun c => absurd c (by decide)) (fun _ => ?_)
  refine lv_aload_n X.1 X.2.1 dX7_init_29 rfl (lv_at hl 0 rfl) ?_
  refine n_get (T := TX7) (ci := 6) (C := RX7) (N := 3) X hw inlX7 0 rfl rfl 1 (by decide) wq_5_2 rfl dX7_init_30 ?_
  refine lv_iload_n X.1 X.2.1 dX7_init_33 rfl (lv_at hl 1 rfl) ?_
  refine lv_iconst (v := (-1)) X.1 X.2.1 dX7_init_34 (by decide) ?_
  refine n_iast X hw 5 rfl (by decide) dX7_init_35 (fun H locs hw => ?_)
  have hw : Wn g A [(h0, .inr (6, [.ref q0, .ref q4, .int 0])), (q0, .inl (g.2.2.2.2.1, 3, .inr (.inr (.inr (.inr (fun i => if i = 0 then some q1 else if i = 1 then some q2 else if i = 2 then some q3 else none)))))), (q1, .inl (g.2.2.1, 40, .inr (.inl (fun _ => 0)))), (q2, .inl (g.2.2.1, 40, .inr (.inl (fun _ => 0)))), (q3, .inl (g.2.2.1, 40, .inr (.inl (fun _ => 0)))), (q4, .inl (g.2.1, 3, .inl (upd (upd (fun _ => 0) (0 : Int32).toNatClampNeg (-1)) (1 : Int32).toNatClampNeg (-1))))] s H _ := hw
  refine lv_iinc (v := 2) (lv' := [(1, .int 2), (0, .ref h0)]) X.1 X.2.1 dX7_init_36 hl (k := 1) rfl (by decide) (by decide) rfl (fun ls hl => ?_)
  have hl : lv_has ls 2 [(0, .ref h0), (1, .int 2)] := lv_sub hl [1, 0] rfl
  refine lv_goto (tgt := 24) X.1 X.2.1 dX7_init_39 (by decide) ?_
  refine lv_iload_n X.1 X.2.1 dX7_init_24 rfl (lv_at hl 1 rfl) ?_
  refine lv_iconst (v := 3) X.1 X.2.1 dX7_init_25 (by decide) ?_
  refine lv_icmp_ge (tgt := 42) X.1 X.2.1 dX7_init_26 (by decide) (fun c => absurd c (by decide)) (fun _ => ?_)
  refine lv_aload_n X.1 X.2.1 dX7_init_29 rfl (lv_at hl 0 rfl) ?_
  refine n_get (T := TX7) (ci := 6) (C := RX7) (N := 3) X hw inlX7 0 rfl rfl 1 (by decide) wq_5_2 rfl dX7_init_30 ?_
  refine lv_iload_n X.1 X.2.1 dX7_init_33 rfl (lv_at hl 1 rfl) ?_
  refine lv_iconst (v := (-1)) X.1 X.2.1 dX7_init_34 (by decide) ?_
  refine n_iast X hw 5 rfl (by decide) dX7_init_35 (fun H locs hw => ?_)
  have hw : Wn g A [(h0, .inr (6, [.ref q0, .ref q4, .int 0])), (q0, .inl (g.2.2.2.2.1, 3, .inr (.inr (.inr (.inr (fun i => if i = 0 then some q1 else if i = 1 then some q2 else if i = 2 then some q3 else none)))))), (q1, .inl (g.2.2.1, 40, .inr (.inl (fun _ => 0)))), (q2, .inl (g.2.2.1, 40, .inr (.inl (fun _ => 0)))), (q3, .inl (g.2.2.1, 40, .inr (.inl (fun _ => 0)))), (q4, .inl (g.2.1, 3, .inl (upd (upd (upd (fun _ => 0) (0 : Int32).toNatClampNeg (-1)) (1 : Int32).toNatClampNeg (-1)) (2 : Int32).toNatClampNeg (-1))))] s H _ := hw
  refine lv_iinc (v := 3) (lv' := [(1, .int 3), (0, .ref h0)]) X.1 X.2.1 dX7_init_36 hl (k := 1) rfl (by decide) (by decide) rfl (fun ls hl => ?_)
  have hl : lv_has ls 2 [(0, .ref h0), (1, .int 3)] := lv_sub hl [1, 0] rfl
  refine lv_goto (tgt := 24) X.1 X.2.1 dX7_init_39 (by decide) ?_
  refine lv_iload_n X.1 X.2.1 dX7_init_24 rfl (lv_at hl 1 rfl) ?_
  refine lv_iconst (v := 3) X.1 X.2.1 dX7_init_25 (by decide) ?_
  refine lv_icmp_ge (tgt := 42) X.1 X.2.1 dX7_init_26 (by decide) (fun _ => ?_) (fun c => absurd (by decide) c)
  exact fin _ _ _ _ _ _ _ ⟨q0, q1, q2, q3, q4, rfl⟩ hw (Nat.le_of_ble_eq_true rfl) (Nat.le_of_ble_eq_true rfl) dX7_init_42
