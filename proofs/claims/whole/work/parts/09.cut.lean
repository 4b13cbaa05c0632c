def m_X0_told (b : ST) (w : Nat → ST) (x1 : Int32) : Option (Int64) := if x1 = 0 then gd (¬ ((0 : Int32) < 0 ∨ 11 ≤ (0 : Int32).toNatClampNeg)) (Option.bind (m_X8_answerAbove (w (0 : Int32).toNatClampNeg)) (fun (r_4 : Int64) => some r_4)) else (if x1 = 1 then gd (¬ ((0 : Int32) < 0 ∨ 11 ≤ (0 : Int32).toNatClampNeg)) (Option.bind (m_X8_answerBelow (w (0 : Int32).toNatClampNeg)) (fun (r_8 : Int64) => some r_8)) else (if x1 = 2 then some (b.1 4).toInt64 else (if x1 = 3 then some (b.1 5).toInt64 else (some (b.1 6).toInt64))))
theorem yo_X0_told : yX0_told.cls = RX0 ∧ yX0_told.cls ≠ "java/lang/invoke/MethodHandle" ∧ yX0_told.cls ≠ "java/lang/invoke/VarHandle" ∧ (parseMethodDescriptor yX0_told.desc).map (fun d => d.parameters.length) = some 1 := by decide +kernel
set_option maxHeartbeats 4000000 in
set_option maxRecDepth 100000 in
theorem c_X0_told {l : Launch} {g : gT} {h : Nat → Nat} {b : ST} {w : Nat → ST} {x1 : Int32} {r : Int64} (hm : m_X0_told b w x1 = some r) : MetL l g yX0_told cX0_told 2 (some .long) 1 20 79 h (cC g h (b, w)) (cC g h (b, w)) [.ref (h 14), .int x1] r := by
  refine MetL.ofX (by decide +kernel) (Nat.le_of_ble_eq_true rfl) ?_
  intro p e s m below meth c AV Q X hret ls hw hl
  replace X : Cx g p s m AV c cX0_told RX0 2 := X
  replace hl : lv_has ls 2 [(0, .ref (h 14)), (1, .int x1)] := hl
  unfold m_X0_told at hm
  refine lv_iload_n X.1 X.2.1 dX0_told_0 rfl (lv_at hl 1 rfl) ?_
  by_cases c_1 : x1 = 0
  · replace hm := it_p hm c_1
    refine x_tab X c_1 dX0_told_1 (off := 31) (tgt := 32) (by decide) (by decide) rfl (by decide) ?_
    refine lv_aload_n X.1 X.2.1 dX0_told_32 rfl (lv_at hl 0 rfl) ?_
    refine gX0_levels X hw wq_4_5 dX0_told_33 ?_
    refine lv_iconst (v := 0) X.1 X.2.1 dX0_told_36 (by decide) ?_
    replace hm := gd_e hm
    obtain ⟨g_2, hm⟩ := hm
    refine l_lev X hw g_2 dX0_told_37 ?_
    replace hm := ob_e hm
    obtain ⟨r_4, h_3, hm⟩ := hm
    refine k_Vl (k := (24 + 5 * (0 : Int32).toNatClampNeg)) (As := []) X hl.1 hw (c_X8_answerAbove_c (Nat.not_le.mp (fun q => g_2 (Or.inr q))) h_3) (by have := (Nat.not_le.mp (fun q => g_2 (Or.inr q))); omega) (he_X8 g h _ _ _) rfl ⟨wq_25_0, wq_25_1, wq_25_2, wq_4_8, wq_25_3⟩ yo_X8_answerAbove rfl ⟨Nat.le_of_ble_eq_true rfl, Nat.le_of_ble_eq_true rfl⟩ (Nat.le_of_ble_eq_true rfl) dX0_told_38 (fun H locs hw => ?_)
    obtain rfl := Option.some.inj hm
    exact hret _ _ _ _ hw dX0_told_41
  · replace hm := it_n hm c_1
    by_cases c_5 : x1 = 1
    · replace hm := it_p hm c_5
      refine x_tab X c_5 dX0_told_1 (off := 41) (tgt := 42) (by decide) (by decide) rfl (by decide) ?_
      refine lv_aload_n X.1 X.2.1 dX0_told_42 rfl (lv_at hl 0 rfl) ?_
      refine gX0_levels X hw wq_4_5 dX0_told_43 ?_
      refine lv_iconst (v := 0) X.1 X.2.1 dX0_told_46 (by decide) ?_
      replace hm := gd_e hm
      obtain ⟨g_6, hm⟩ := hm
      refine l_lev X hw g_6 dX0_told_47 ?_
      replace hm := ob_e hm
      obtain ⟨r_8, h_7, hm⟩ := hm
      refine k_Vl (k := (24 + 5 * (0 : Int32).toNatClampNeg)) (As := []) X hl.1 hw (c_X8_answerBelow_c (Nat.not_le.mp (fun q => g_6 (Or.inr q))) h_7) (by have := (Nat.not_le.mp (fun q => g_6 (Or.inr q))); omega) (he_X8 g h _ _ _) rfl ⟨wq_25_4, wq_25_5, wq_25_6, wq_4_8, wq_25_7⟩ yo_X8_answerBelow rfl ⟨Nat.le_of_ble_eq_true rfl, Nat.le_of_ble_eq_true rfl⟩ (Nat.le_of_ble_eq_true rfl) dX0_told_48 (fun H locs hw => ?_)
      obtain rfl := Option.some.inj hm
      exact hret _ _ _ _ hw dX0_told_51
    · replace hm := it_n hm c_5
      by_cases c_9 : x1 = 2
      · replace hm := it_p hm c_9
        refine x_tab X c_9 dX0_told_1 (off := 51) (tgt := 52) (by decide) (by decide) rfl (by decide) ?_
        refine lv_aload_n X.1 X.2.1 dX0_told_52 rfl (lv_at hl 0 rfl) ?_
        refine gX0_steps X hw wq_19_22 dX0_told_53 ?_
        refine lv_i2l X.1 X.2.1 dX0_told_56 rfl ?_
        obtain rfl := Option.some.inj hm
        exact hret _ _ _ _ hw dX0_told_57
      · replace hm := it_n hm c_9
        by_cases c_10 : x1 = 3
        · replace hm := it_p hm c_10
          refine x_tab X c_10 dX0_told_1 (off := 57) (tgt := 58) (by decide) (by decide) rfl (by decide) ?_
          refine lv_aload_n X.1 X.2.1 dX0_told_58 rfl (lv_at hl 0 rfl) ?_
          refine gX0_deep X hw wq_19_23 dX0_told_59 ?_
          refine lv_i2l X.1 X.2.1 dX0_told_62 rfl ?_
          obtain rfl := Option.some.inj hm
          exact hret _ _ _ _ hw dX0_told_63
        · replace hm := it_n hm c_10
          have tc_1 : ¬ x1.toInt = 0 := lv_neT c_1 (k := 0) (by decide)
          have tc_5 : ¬ x1.toInt = 1 := lv_neT c_5 (k := 1) (by decide)
          have tc_9 : ¬ x1.toInt = 2 := lv_neT c_9 (k := 2) (by decide)
          have tc_10 : ¬ x1.toInt = 3 := lv_neT c_10 (k := 3) (by decide)
          refine lv_tableOut X.1 X.2.1 (tgt := 64) dX0_told_1 (by omega) (by decide) ?_
          refine lv_aload_n X.1 X.2.1 dX0_told_64 rfl (lv_at hl 0 rfl) ?_
          refine gX0_tidied X hw wq_20_0 dX0_told_65 ?_
          refine lv_i2l X.1 X.2.1 dX0_told_68 rfl ?_
          obtain rfl := Option.some.inj hm
          exact hret _ _ _ _ hw dX0_told_69
