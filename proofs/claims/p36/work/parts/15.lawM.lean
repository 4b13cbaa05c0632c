def m_L_splits (b : ST) (x1 : Int32) : Option (Int32 × ST) := Option.bind (m_X9_info b x1 (4 : Int32)) (fun (r_2 : Int32) => Option.bind (m_X9_info b x1 (2 : Int32)) (fun (r_4 : Int32) => lt (r_4.toInt64) (fun x_5 => Option.bind (m_X9_info b x1 (3 : Int32)) (fun (r_7 : Int32) => lt (r_7.toInt64) (fun x_8 => Option.bind (m_X9_worth b x1 (0 : Int32)) (fun (q_12 : Int64 × ST) => un q_12 (fun r_10 b_11 => Option.bind (m_X9_worth b_11 x1 (1 : Int32)) (fun (q_16 : Int64 × ST) => un q_16 (fun r_14 b_15 => Option.bind (m_X9_see b_15 x1 (0 : Int32)) (fun (q_20 : Int32 × ST) => un q_20 (fun r_18 b_19 => if r_18 = r_2 then Option.bind (m_X9_reach b_19 (0 : Int32)) (fun (q_25 : Int64 × ST) => un q_25 (fun r_23 b_24 => Option.bind (m_X9_reach b_24 (1 : Int32)) (fun (q_29 : Int64 × ST) => un q_29 (fun r_27 b_28 => Option.bind (m_X9_see b_28 x1 (1 : Int32)) (fun (q_33 : Int32 × ST) => un q_33 (fun r_31 b_32 => if r_31 = 0 then Option.bind (m_X9_reach b_32 (0 : Int32)) (fun (q_38 : Int64 × ST) => un q_38 (fun r_36 b_37 => Option.bind (m_X9_reach b_37 (1 : Int32)) (fun (q_42 : Int64 × ST) => un q_42 (fun r_40 b_41 => Option.bind (m_X9_see b_41 x1 (2 : Int32)) (fun (q_46 : Int32 × ST) => un q_46 (fun r_44 b_45 => if r_44 = (1 : Int32) then Option.bind (m_X9_reach b_45 (0 : Int32)) (fun (q_51 : Int64 × ST) => un q_51 (fun r_49 b_50 => Option.bind (m_X9_reach b_50 (1 : Int32)) (fun (q_55 : Int64 × ST) => un q_55 (fun r_53 b_54 => Option.bind (m_X9_see b_54 x1 r_2) (fun (q_59 : Int32 × ST) => un q_59 (fun r_57 b_58 => if r_57 = (2 : Int32) then Option.bind (m_L_less r_36 r_40 r_49 r_53) (fun (r_63 : Int32) => if r_63 = 0 then Option.bind (m_L_less r_36 r_40 r_23 r_27) (fun (r_67 : Int32) => if r_67 = 0 then Option.bind (m_L_less r_23 r_27 r_49 r_53) (fun (r_71 : Int32) => if r_71 = 0 then if (lg_cmp r_10 (0 : Int64)) < 0 then some ((0 : Int32), b_58) else if 0 ≤ (lg_cmp r_14 (1 : Int64)) then Option.bind (m_L_divisor r_40 r_53) (fun (r_78 : Int64) => gd (¬ r_78 = 0) (lt ((r_40 / r_78) * r_53) (fun x_80 => gd (¬ r_40 = 0) (lt ((x_80 / r_40) * r_36) (fun x_82 => gd (¬ r_53 = 0) (lt ((x_80 / r_53) * r_49) (fun x_84 => lt ((x_5 * x_82) + ((x_8 - x_5) * x_84)) (fun x_85 => lt (x_8 * x_80) (fun x_86 => Option.bind (m_L_divisor x_85 x_86) (fun (r_88 : Int64) => Option.bind (m_L_divisor (x_82 - x_84) x_80) (fun (r_90 : Int64) => gd (¬ r_88 = 0) (if (lg_cmp r_23 (x_85 / r_88)) = 0 then gd (¬ r_88 = 0) (if (lg_cmp r_27 (x_86 / r_88)) = 0 then gd (¬ r_90 = 0) (if (lg_cmp r_10 ((x_82 - x_84) / r_90)) = 0 then gd (¬ r_90 = 0) (if (lg_cmp r_14 (x_80 / r_90)) = 0 then some ((1 : Int32), b_58) else some ((0 : Int32), b_58)) else some ((0 : Int32), b_58)) else some ((0 : Int32), b_58)) else some ((0 : Int32), b_58))))))))))))) else some ((0 : Int32), b_58) else some ((0 : Int32), b_58)) else some ((0 : Int32), b_58)) else some ((0 : Int32), b_58)) else some ((0 : Int32), b_58))))))) else some ((0 : Int32), b_45))))))) else some ((0 : Int32), b_32))))))) else some ((0 : Int32), b_19))))))))))))
theorem yo_L_splits : yL_splits.cls ≠ "java/lang/invoke/MethodHandle" ∧ yL_splits.cls ≠ "java/lang/invoke/VarHandle" ∧ (parseMethodDescriptor yL_splits.desc).map (fun d => d.parameters.length) = some 2 := by decide +kernel
set_option maxHeartbeats 4000000 in
set_option maxRecDepth 100000 in
theorem c_L_splits {l : Launch} {g : gT} {h : Nat → Nat} {b : ST} {w : Nat → ST} {x1 : Int32} {r : Int32} {b' : ST} (hm : m_L_splits b x1 = some (r, b')) : MetI l g yL_splits cL_splits 37 (some .boolean) 6 130 79 h (cC g h (b, w)) (cC g h (b', w)) [.ref (h 0), .int x1] r := by
  refine MetZ.ofX (by decide +kernel) (Nat.le_of_ble_eq_true rfl) ?_
  intro p e s m below meth c AV Q X hret ls hw hl
  replace X : Cx g p s m AV c cL_splits RL 37 := X
  replace hl : lv_has ls 37 [(0, .ref (h 0)), (1, .int x1)] := hl
  unfold m_L_splits at hm
  refine lv_aload_n X.1 X.2.1 dL_splits_0 rfl (lv_at hl 0 rfl) ?_
  refine lv_iload_n X.1 X.2.1 dL_splits_1 rfl (lv_at hl 1 rfl) ?_
  refine lv_iconst (v := 4) X.1 X.2.1 dL_splits_2 (by decide) ?_
  replace hm := ob_e hm
  obtain ⟨r_2, h_1, hm⟩ := hm
  refine k_Vi (k := 0) (As := [.int x1, .int (4 : Int32)]) X hl.1 hw (c_X9_info h_1) (by decide) (he_X9 g h _ _) rfl ⟨wq_20_7, wq_20_8, wq_20_9, wq_1_2, wq_20_10⟩ yo_X9_info rfl ⟨Nat.le_of_ble_eq_true rfl, Nat.le_of_ble_eq_true rfl⟩ (Nat.le_of_ble_eq_true rfl) dL_splits_3 (fun H locs hw => ?_)
  refine lv_istore_n (lv' := [(2, .int r_2), (0, .ref (h 0)), (1, .int x1)]) X.1 X.2.1 dL_splits_6 rfl hl (by decide) rfl (fun ls hl => ?_)
  refine lv_aload_n X.1 X.2.1 dL_splits_7 rfl (lv_at hl 1 rfl) ?_
  refine lv_iload_n X.1 X.2.1 dL_splits_8 rfl (lv_at hl 2 rfl) ?_
  refine lv_iconst (v := 2) X.1 X.2.1 dL_splits_9 (by decide) ?_
  replace hm := ob_e hm
  obtain ⟨r_4, h_3, hm⟩ := hm
  refine k_Vi (k := 0) (As := [.int x1, .int (2 : Int32)]) X hl.1 hw (c_X9_info h_3) (by decide) (he_X9 g h _ _) rfl ⟨wq_20_7, wq_20_8, wq_20_9, wq_1_2, wq_20_10⟩ yo_X9_info rfl ⟨Nat.le_of_ble_eq_true rfl, Nat.le_of_ble_eq_true rfl⟩ (Nat.le_of_ble_eq_true rfl) dL_splits_10 (fun H locs hw => ?_)
  refine lv_i2l X.1 X.2.1 dL_splits_13 rfl ?_
  refine lv_topl (fun x_5 ex_5 => ?_)
  replace hm := lt_e hm ex_5
  refine lv_lstore_n (lv' := [(3, .long x_5), (2, .int r_2), (0, .ref (h 0)), (1, .int x1)]) X.1 X.2.1 dL_splits_14 rfl hl (by decide) rfl (fun ls hl => ?_)
  refine lv_aload_n X.1 X.2.1 dL_splits_15 rfl (lv_at hl 2 rfl) ?_
  refine lv_iload_n X.1 X.2.1 dL_splits_16 rfl (lv_at hl 3 rfl) ?_
  refine lv_iconst (v := 3) X.1 X.2.1 dL_splits_17 (by decide) ?_
  replace hm := ob_e hm
  obtain ⟨r_7, h_6, hm⟩ := hm
  refine k_Vi (k := 0) (As := [.int x1, .int (3 : Int32)]) X hl.1 hw (c_X9_info h_6) (by decide) (he_X9 g h _ _) rfl ⟨wq_20_7, wq_20_8, wq_20_9, wq_1_2, wq_20_10⟩ yo_X9_info rfl ⟨Nat.le_of_ble_eq_true rfl, Nat.le_of_ble_eq_true rfl⟩ (Nat.le_of_ble_eq_true rfl) dL_splits_18 (fun H locs hw => ?_)
  refine lv_i2l X.1 X.2.1 dL_splits_21 rfl ?_
  refine lv_topl (fun x_8 ex_8 => ?_)
  replace hm := lt_e hm ex_8
  refine lv_lstore (lv' := [(5, .long x_8), (3, .long x_5), (2, .int r_2), (0, .ref (h 0)), (1, .int x1)]) X.1 X.2.1 dL_splits_22 hl (by decide) rfl (fun ls hl => ?_)
  refine lv_aload_n X.1 X.2.1 dL_splits_24 rfl (lv_at hl 3 rfl) ?_
  refine lv_iload_n X.1 X.2.1 dL_splits_25 rfl (lv_at hl 4 rfl) ?_
  refine lv_iconst (v := 0) X.1 X.2.1 dL_splits_26 (by decide) ?_
  replace hm := ob_e hm
  obtain ⟨⟨r_10, b_11⟩, h_9, hm⟩ := hm
  replace hm := un_e hm
  refine k_Vl (k := 0) (As := [.int x1, .int (0 : Int32)]) X hl.1 hw (c_X9_worth h_9) (by decide) (he_X9 g h _ _) rfl ⟨wq_20_15, wq_20_16, wq_20_17, wq_1_2, wq_20_18⟩ yo_X9_worth rfl ⟨Nat.le_of_ble_eq_true rfl, Nat.le_of_ble_eq_true rfl⟩ (Nat.le_of_ble_eq_true rfl) dL_splits_27 (fun H locs hw => ?_)
  refine lv_lstore (lv' := [(7, .long r_10), (5, .long x_8), (3, .long x_5), (2, .int r_2), (0, .ref (h 0)), (1, .int x1)]) X.1 X.2.1 dL_splits_30 hl (by decide) rfl (fun ls hl => ?_)
  refine lv_aload_n X.1 X.2.1 dL_splits_32 rfl (lv_at hl 4 rfl) ?_
  refine lv_iload_n X.1 X.2.1 dL_splits_33 rfl (lv_at hl 5 rfl) ?_
  refine lv_iconst (v := 1) X.1 X.2.1 dL_splits_34 (by decide) ?_
  replace hm := ob_e hm
  obtain ⟨⟨r_14, b_15⟩, h_13, hm⟩ := hm
  replace hm := un_e hm
  refine k_Vl (k := 0) (As := [.int x1, .int (1 : Int32)]) X hl.1 hw (c_X9_worth h_13) (by decide) (he_X9 g h _ _) rfl ⟨wq_20_15, wq_20_16, wq_20_17, wq_1_2, wq_20_18⟩ yo_X9_worth rfl ⟨Nat.le_of_ble_eq_true rfl, Nat.le_of_ble_eq_true rfl⟩ (Nat.le_of_ble_eq_true rfl) dL_splits_35 (fun H locs hw => ?_)
  refine lv_lstore (lv' := [(9, .long r_14), (7, .long r_10), (5, .long x_8), (3, .long x_5), (2, .int r_2), (0, .ref (h 0)), (1, .int x1)]) X.1 X.2.1 dL_splits_38 hl (by decide) rfl (fun ls hl => ?_)
  refine lv_aload_n X.1 X.2.1 dL_splits_40 rfl (lv_at hl 5 rfl) ?_
  refine lv_iload_n X.1 X.2.1 dL_splits_41 rfl (lv_at hl 6 rfl) ?_
  refine lv_iconst (v := 0) X.1 X.2.1 dL_splits_42 (by decide) ?_
  replace hm := ob_e hm
  obtain ⟨⟨r_18, b_19⟩, h_17, hm⟩ := hm
  replace hm := un_e hm
  refine k_Vi (k := 0) (As := [.int x1, .int (0 : Int32)]) X hl.1 hw (c_X9_see h_17) (by decide) (he_X9 g h _ _) rfl ⟨wq_8_12, wq_8_13, wq_8_14, wq_1_2, wq_8_15⟩ yo_X9_see rfl ⟨Nat.le_of_ble_eq_true rfl, Nat.le_of_ble_eq_true rfl⟩ (Nat.le_of_ble_eq_true rfl) dL_splits_43 (fun H locs hw => ?_)
  refine lv_iload_n X.1 X.2.1 dL_splits_46 rfl (lv_at hl 4 rfl) ?_
  refine lv_icmp_eq (tgt := 52) X.1 X.2.1 dL_splits_47 (by decide) (fun c_21 => ?_) (fun c_21 => ?_)
  · replace hm := it_p hm c_21
    refine lv_aload_n X.1 X.2.1 dL_splits_52 rfl (lv_at hl 5 rfl) ?_
    refine lv_iconst (v := 0) X.1 X.2.1 dL_splits_53 (by decide) ?_
    replace hm := ob_e hm
    obtain ⟨⟨r_23, b_24⟩, h_22, hm⟩ := hm
    replace hm := un_e hm
    refine k_Vl (k := 0) (As := [.int (0 : Int32)]) X hl.1 hw (c_X9_reach h_22) (by decide) (he_X9 g h _ _) rfl ⟨wq_12_5, wq_12_6, wq_12_7, wq_1_2, wq_12_8⟩ yo_X9_reach rfl ⟨Nat.le_of_ble_eq_true rfl, Nat.le_of_ble_eq_true rfl⟩ (Nat.le_of_ble_eq_true rfl) dL_splits_54 (fun H locs hw => ?_)
    refine lv_lstore (lv' := [(11, .long r_23), (9, .long r_14), (7, .long r_10), (5, .long x_8), (3, .long x_5), (2, .int r_2), (0, .ref (h 0)), (1, .int x1)]) X.1 X.2.1 dL_splits_57 hl (by decide) rfl (fun ls hl => ?_)
    refine lv_aload_n X.1 X.2.1 dL_splits_59 rfl (lv_at hl 6 rfl) ?_
    refine lv_iconst (v := 1) X.1 X.2.1 dL_splits_60 (by decide) ?_
    replace hm := ob_e hm
    obtain ⟨⟨r_27, b_28⟩, h_26, hm⟩ := hm
    replace hm := un_e hm
    refine k_Vl (k := 0) (As := [.int (1 : Int32)]) X hl.1 hw (c_X9_reach h_26) (by decide) (he_X9 g h _ _) rfl ⟨wq_12_5, wq_12_6, wq_12_7, wq_1_2, wq_12_8⟩ yo_X9_reach rfl ⟨Nat.le_of_ble_eq_true rfl, Nat.le_of_ble_eq_true rfl⟩ (Nat.le_of_ble_eq_true rfl) dL_splits_61 (fun H locs hw => ?_)
    refine lv_lstore (lv' := [(13, .long r_27), (11, .long r_23), (9, .long r_14), (7, .long r_10), (5, .long x_8), (3, .long x_5), (2, .int r_2), (0, .ref (h 0)), (1, .int x1)]) X.1 X.2.1 dL_splits_64 hl (by decide) rfl (fun ls hl => ?_)
    refine lv_aload_n X.1 X.2.1 dL_splits_66 rfl (lv_at hl 7 rfl) ?_
    refine lv_iload_n X.1 X.2.1 dL_splits_67 rfl (lv_at hl 8 rfl) ?_
    refine lv_iconst (v := 1) X.1 X.2.1 dL_splits_68 (by decide) ?_
    replace hm := ob_e hm
    obtain ⟨⟨r_31, b_32⟩, h_30, hm⟩ := hm
    replace hm := un_e hm
    refine k_Vi (k := 0) (As := [.int x1, .int (1 : Int32)]) X hl.1 hw (c_X9_see h_30) (by decide) (he_X9 g h _ _) rfl ⟨wq_8_12, wq_8_13, wq_8_14, wq_1_2, wq_8_15⟩ yo_X9_see rfl ⟨Nat.le_of_ble_eq_true rfl, Nat.le_of_ble_eq_true rfl⟩ (Nat.le_of_ble_eq_true rfl) dL_splits_69 (fun H locs hw => ?_)
    refine lv_if_eq (tgt := 77) X.1 X.2.1 dL_splits_72 (by decide) (fun c_34 => ?_) (fun c_34 => ?_)
    · replace hm := it_p hm c_34
      refine lv_aload_n X.1 X.2.1 dL_splits_77 rfl (lv_at hl 7 rfl) ?_
      refine lv_iconst (v := 0) X.1 X.2.1 dL_splits_78 (by decide) ?_
      replace hm := ob_e hm
      obtain ⟨⟨r_36, b_37⟩, h_35, hm⟩ := hm
      replace hm := un_e hm
      refine k_Vl (k := 0) (As := [.int (0 : Int32)]) X hl.1 hw (c_X9_reach h_35) (by decide) (he_X9 g h _ _) rfl ⟨wq_12_5, wq_12_6, wq_12_7, wq_1_2, wq_12_8⟩ yo_X9_reach rfl ⟨Nat.le_of_ble_eq_true rfl, Nat.le_of_ble_eq_true rfl⟩ (Nat.le_of_ble_eq_true rfl) dL_splits_79 (fun H locs hw => ?_)
      refine lv_lstore (lv' := [(15, .long r_36), (13, .long r_27), (11, .long r_23), (9, .long r_14), (7, .long r_10), (5, .long x_8), (3, .long x_5), (2, .int r_2), (0, .ref (h 0)), (1, .int x1)]) X.1 X.2.1 dL_splits_82 hl (by decide) rfl (fun ls hl => ?_)
      refine lv_aload_n X.1 X.2.1 dL_splits_84 rfl (lv_at hl 8 rfl) ?_
      refine lv_iconst (v := 1) X.1 X.2.1 dL_splits_85 (by decide) ?_
      replace hm := ob_e hm
      obtain ⟨⟨r_40, b_41⟩, h_39, hm⟩ := hm
      replace hm := un_e hm
      refine k_Vl (k := 0) (As := [.int (1 : Int32)]) X hl.1 hw (c_X9_reach h_39) (by decide) (he_X9 g h _ _) rfl ⟨wq_12_5, wq_12_6, wq_12_7, wq_1_2, wq_12_8⟩ yo_X9_reach rfl ⟨Nat.le_of_ble_eq_true rfl, Nat.le_of_ble_eq_true rfl⟩ (Nat.le_of_ble_eq_true rfl) dL_splits_86 (fun H locs hw => ?_)
      refine lv_lstore (lv' := [(17, .long r_40), (15, .long r_36), (13, .long r_27), (11, .long r_23), (9, .long r_14), (7, .long r_10), (5, .long x_8), (3, .long x_5), (2, .int r_2), (0, .ref (h 0)), (1, .int x1)]) X.1 X.2.1 dL_splits_89 hl (by decide) rfl (fun ls hl => ?_)
      refine lv_aload_n X.1 X.2.1 dL_splits_91 rfl (lv_at hl 9 rfl) ?_
      refine lv_iload_n X.1 X.2.1 dL_splits_92 rfl (lv_at hl 10 rfl) ?_
      refine lv_iconst (v := 2) X.1 X.2.1 dL_splits_93 (by decide) ?_
      replace hm := ob_e hm
      obtain ⟨⟨r_44, b_45⟩, h_43, hm⟩ := hm
      replace hm := un_e hm
      refine k_Vi (k := 0) (As := [.int x1, .int (2 : Int32)]) X hl.1 hw (c_X9_see h_43) (by decide) (he_X9 g h _ _) rfl ⟨wq_8_12, wq_8_13, wq_8_14, wq_1_2, wq_8_15⟩ yo_X9_see rfl ⟨Nat.le_of_ble_eq_true rfl, Nat.le_of_ble_eq_true rfl⟩ (Nat.le_of_ble_eq_true rfl) dL_splits_94 (fun H locs hw => ?_)
      refine lv_iconst (v := 1) X.1 X.2.1 dL_splits_97 (by decide) ?_
      refine lv_icmp_eq (tgt := 103) X.1 X.2.1 dL_splits_98 (by decide) (fun c_47 => ?_) (fun c_47 => ?_)
      · replace hm := it_p hm c_47
        refine lv_aload_n X.1 X.2.1 dL_splits_103 rfl (lv_at hl 9 rfl) ?_
        refine lv_iconst (v := 0) X.1 X.2.1 dL_splits_104 (by decide) ?_
        replace hm := ob_e hm
        obtain ⟨⟨r_49, b_50⟩, h_48, hm⟩ := hm
        replace hm := un_e hm
        refine k_Vl (k := 0) (As := [.int (0 : Int32)]) X hl.1 hw (c_X9_reach h_48) (by decide) (he_X9 g h _ _) rfl ⟨wq_12_5, wq_12_6, wq_12_7, wq_1_2, wq_12_8⟩ yo_X9_reach rfl ⟨Nat.le_of_ble_eq_true rfl, Nat.le_of_ble_eq_true rfl⟩ (Nat.le_of_ble_eq_true rfl) dL_splits_105 (fun H locs hw => ?_)
        refine lv_lstore (lv' := [(19, .long r_49), (17, .long r_40), (15, .long r_36), (13, .long r_27), (11, .long r_23), (9, .long r_14), (7, .long r_10), (5, .long x_8), (3, .long x_5), (2, .int r_2), (0, .ref (h 0)), (1, .int x1)]) X.1 X.2.1 dL_splits_108 hl (by decide) rfl (fun ls hl => ?_)
        refine lv_aload_n X.1 X.2.1 dL_splits_110 rfl (lv_at hl 10 rfl) ?_
        refine lv_iconst (v := 1) X.1 X.2.1 dL_splits_111 (by decide) ?_
        replace hm := ob_e hm
        obtain ⟨⟨r_53, b_54⟩, h_52, hm⟩ := hm
        replace hm := un_e hm
        refine k_Vl (k := 0) (As := [.int (1 : Int32)]) X hl.1 hw (c_X9_reach h_52) (by decide) (he_X9 g h _ _) rfl ⟨wq_12_5, wq_12_6, wq_12_7, wq_1_2, wq_12_8⟩ yo_X9_reach rfl ⟨Nat.le_of_ble_eq_true rfl, Nat.le_of_ble_eq_true rfl⟩ (Nat.le_of_ble_eq_true rfl) dL_splits_112 (fun H locs hw => ?_)
        refine lv_lstore (lv' := [(21, .long r_53), (19, .long r_49), (17, .long r_40), (15, .long r_36), (13, .long r_27), (11, .long r_23), (9, .long r_14), (7, .long r_10), (5, .long x_8), (3, .long x_5), (2, .int r_2), (0, .ref (h 0)), (1, .int x1)]) X.1 X.2.1 dL_splits_115 hl (by decide) rfl (fun ls hl => ?_)
        refine lv_aload_n X.1 X.2.1 dL_splits_117 rfl (lv_at hl 11 rfl) ?_
        refine lv_iload_n X.1 X.2.1 dL_splits_118 rfl (lv_at hl 12 rfl) ?_
        refine lv_iload_n X.1 X.2.1 dL_splits_119 rfl (lv_at hl 10 rfl) ?_
        replace hm := ob_e hm
        obtain ⟨⟨r_57, b_58⟩, h_56, hm⟩ := hm
        replace hm := un_e hm
        refine k_Vi (k := 0) (As := [.int x1, .int r_2]) X hl.1 hw (c_X9_see h_56) (by decide) (he_X9 g h _ _) rfl ⟨wq_8_12, wq_8_13, wq_8_14, wq_1_2, wq_8_15⟩ yo_X9_see rfl ⟨Nat.le_of_ble_eq_true rfl, Nat.le_of_ble_eq_true rfl⟩ (Nat.le_of_ble_eq_true rfl) dL_splits_120 (fun H locs hw => ?_)
        refine lv_iconst (v := 2) X.1 X.2.1 dL_splits_123 (by decide) ?_
        refine lv_icmp_ne (tgt := 183) X.1 X.2.1 dL_splits_124 (by decide) (fun c_60 => ?_) (fun c_60 => ?_)
        · replace hm := it_n hm c_60
          refine lv_iconst (v := 0) X.1 X.2.1 dL_splits_183 (by decide) ?_
          obtain ⟨rfl, rfl⟩ := Prod.mk.inj (Option.some.inj hm)
          exact hret _ _ _ _ hw dL_splits_184 (Or.inl rfl)
        · replace hm := it_p hm c_60
          refine lv_lload X.1 X.2.1 dL_splits_127 (lv_at hl 3 rfl) ?_
          refine lv_lload X.1 X.2.1 dL_splits_129 (lv_at hl 2 rfl) ?_
          refine lv_lload X.1 X.2.1 dL_splits_131 (lv_at hl 1 rfl) ?_
          refine lv_lload X.1 X.2.1 dL_splits_133 (lv_at hl 0 rfl) ?_
          replace hm := ob_e hm
          obtain ⟨r_63, h_62, hm⟩ := hm
          refine k_Si (As := [.long r_36, .long r_40, .long r_49, .long r_53]) X hl.1 hw (c_L_less h_62) ⟨wq_21_0, wq_21_1, wq_5_5, wq_21_2⟩ yo_L_less rfl ⟨Nat.le_of_ble_eq_true rfl, Nat.le_of_ble_eq_true rfl⟩ (Nat.le_of_ble_eq_true rfl) dL_splits_135 (fun H locs hw => ?_)
          refine lv_if_ne (tgt := 183) X.1 X.2.1 dL_splits_138 (by decide) (fun c_64 => ?_) (fun c_64 => ?_)
          · replace hm := it_n hm c_64
            refine lv_iconst (v := 0) X.1 X.2.1 dL_splits_183 (by decide) ?_
            obtain ⟨rfl, rfl⟩ := Prod.mk.inj (Option.some.inj hm)
            exact hret _ _ _ _ hw dL_splits_184 (Or.inl rfl)
          · replace hm := it_p hm c_64
            refine lv_lload X.1 X.2.1 dL_splits_141 (lv_at hl 3 rfl) ?_
            refine lv_lload X.1 X.2.1 dL_splits_143 (lv_at hl 2 rfl) ?_
            refine lv_lload X.1 X.2.1 dL_splits_145 (lv_at hl 5 rfl) ?_
            refine lv_lload X.1 X.2.1 dL_splits_147 (lv_at hl 4 rfl) ?_
            replace hm := ob_e hm
            obtain ⟨r_67, h_66, hm⟩ := hm
            refine k_Si (As := [.long r_36, .long r_40, .long r_23, .long r_27]) X hl.1 hw (c_L_less h_66) ⟨wq_21_0, wq_21_1, wq_5_5, wq_21_2⟩ yo_L_less rfl ⟨Nat.le_of_ble_eq_true rfl, Nat.le_of_ble_eq_true rfl⟩ (Nat.le_of_ble_eq_true rfl) dL_splits_149 (fun H locs hw => ?_)
            refine lv_if_ne (tgt := 183) X.1 X.2.1 dL_splits_152 (by decide) (fun c_68 => ?_) (fun c_68 => ?_)
            · replace hm := it_n hm c_68
              refine lv_iconst (v := 0) X.1 X.2.1 dL_splits_183 (by decide) ?_
              obtain ⟨rfl, rfl⟩ := Prod.mk.inj (Option.some.inj hm)
              exact hret _ _ _ _ hw dL_splits_184 (Or.inl rfl)
            · replace hm := it_p hm c_68
              refine lv_lload X.1 X.2.1 dL_splits_155 (lv_at hl 5 rfl) ?_
              refine lv_lload X.1 X.2.1 dL_splits_157 (lv_at hl 4 rfl) ?_
              refine lv_lload X.1 X.2.1 dL_splits_159 (lv_at hl 1 rfl) ?_
              refine lv_lload X.1 X.2.1 dL_splits_161 (lv_at hl 0 rfl) ?_
              replace hm := ob_e hm
              obtain ⟨r_71, h_70, hm⟩ := hm
              refine k_Si (As := [.long r_23, .long r_27, .long r_49, .long r_53]) X hl.1 hw (c_L_less h_70) ⟨wq_21_0, wq_21_1, wq_5_5, wq_21_2⟩ yo_L_less rfl ⟨Nat.le_of_ble_eq_true rfl, Nat.le_of_ble_eq_true rfl⟩ (Nat.le_of_ble_eq_true rfl) dL_splits_163 (fun H locs hw => ?_)
              refine lv_if_ne (tgt := 183) X.1 X.2.1 dL_splits_166 (by decide) (fun c_72 => ?_) (fun c_72 => ?_)
              · replace hm := it_n hm c_72
                refine lv_iconst (v := 0) X.1 X.2.1 dL_splits_183 (by decide) ?_
                obtain ⟨rfl, rfl⟩ := Prod.mk.inj (Option.some.inj hm)
                exact hret _ _ _ _ hw dL_splits_184 (Or.inl rfl)
              · replace hm := it_p hm c_72
                refine lv_lload X.1 X.2.1 dL_splits_169 (lv_at hl 7 rfl) ?_
                refine lv_lconst (v := 0) X.1 X.2.1 dL_splits_171 (by decide) ?_
                refine W.lcmp X.1 X.2.1 dL_splits_172 ?_
                refine lv_if_lt (tgt := 183) X.1 X.2.1 dL_splits_173 (by decide) (fun c_74 => ?_) (fun c_74 => ?_)
                · replace hm := it_p hm c_74
                  refine lv_iconst (v := 0) X.1 X.2.1 dL_splits_183 (by decide) ?_
                  obtain ⟨rfl, rfl⟩ := Prod.mk.inj (Option.some.inj hm)
                  exact hret _ _ _ _ hw dL_splits_184 (Or.inl rfl)
                · replace hm := it_n hm c_74
                  refine lv_lload X.1 X.2.1 dL_splits_176 (lv_at hl 6 rfl) ?_
                  refine lv_lconst (v := 1) X.1 X.2.1 dL_splits_178 (by decide) ?_
                  refine W.lcmp X.1 X.2.1 dL_splits_179 ?_
                  refine lv_if_ge (tgt := 185) X.1 X.2.1 dL_splits_180 (by decide) (fun c_76 => ?_) (fun c_76 => ?_)
                  · replace hm := it_p hm c_76
                    refine lv_lload X.1 X.2.1 dL_splits_185 (lv_at hl 2 rfl) ?_
                    refine lv_lload X.1 X.2.1 dL_splits_187 (lv_at hl 2 rfl) ?_
                    refine lv_lload X.1 X.2.1 dL_splits_189 (lv_at hl 0 rfl) ?_
                    replace hm := ob_e hm
                    obtain ⟨r_78, h_77, hm⟩ := hm
                    refine k_Sl (As := [.long r_40, .long r_53]) X hl.1 hw (c_L_divisor h_77) ⟨wq_14_13, wq_14_14, wq_5_5, wq_14_15⟩ yo_L_divisor rfl ⟨Nat.le_of_ble_eq_true rfl, Nat.le_of_ble_eq_true rfl⟩ (Nat.le_of_ble_eq_true rfl) dL_splits_191 (fun H locs hw => ?_)
                    replace hm := gd_e hm
                    obtain ⟨g_79, hm⟩ := hm
                    refine lv_ldiv X.1 X.2.1 dL_splits_194 g_79 ?_
                    refine lv_lload X.1 X.2.1 dL_splits_195 (lv_at hl 0 rfl) ?_
                    refine lv_lmul X.1 X.2.1 dL_splits_197 ?_
                    refine lv_topl (fun x_80 ex_80 => ?_)
                    replace hm := lt_e hm ex_80
                    refine lv_lstore (lv' := [(23, .long x_80), (21, .long r_53), (19, .long r_49), (17, .long r_40), (15, .long r_36), (13, .long r_27), (11, .long r_23), (9, .long r_14), (7, .long r_10), (5, .long x_8), (3, .long x_5), (2, .int r_2), (0, .ref (h 0)), (1, .int x1)]) X.1 X.2.1 dL_splits_198 hl (by decide) rfl (fun ls hl => ?_)
                    refine lv_lload X.1 X.2.1 dL_splits_200 (lv_at hl 0 rfl) ?_
                    refine lv_lload X.1 X.2.1 dL_splits_202 (lv_at hl 3 rfl) ?_
                    replace hm := gd_e hm
                    obtain ⟨g_81, hm⟩ := hm
                    refine lv_ldiv X.1 X.2.1 dL_splits_204 g_81 ?_
                    refine lv_lload X.1 X.2.1 dL_splits_205 (lv_at hl 4 rfl) ?_
                    refine lv_lmul X.1 X.2.1 dL_splits_207 ?_
                    refine lv_topl (fun x_82 ex_82 => ?_)
                    replace hm := lt_e hm ex_82
                    refine lv_lstore (lv' := [(25, .long x_82), (23, .long x_80), (21, .long r_53), (19, .long r_49), (17, .long r_40), (15, .long r_36), (13, .long r_27), (11, .long r_23), (9, .long r_14), (7, .long r_10), (5, .long x_8), (3, .long x_5), (2, .int r_2), (0, .ref (h 0)), (1, .int x1)]) X.1 X.2.1 dL_splits_208 hl (by decide) rfl (fun ls hl => ?_)
                    refine lv_lload X.1 X.2.1 dL_splits_210 (lv_at hl 1 rfl) ?_
                    refine lv_lload X.1 X.2.1 dL_splits_212 (lv_at hl 2 rfl) ?_
                    replace hm := gd_e hm
                    obtain ⟨g_83, hm⟩ := hm
                    refine lv_ldiv X.1 X.2.1 dL_splits_214 g_83 ?_
                    refine lv_lload X.1 X.2.1 dL_splits_215 (lv_at hl 3 rfl) ?_
                    refine lv_lmul X.1 X.2.1 dL_splits_217 ?_
                    refine lv_topl (fun x_84 ex_84 => ?_)
                    replace hm := lt_e hm ex_84
                    refine lv_lstore (lv' := [(27, .long x_84), (25, .long x_82), (23, .long x_80), (21, .long r_53), (19, .long r_49), (17, .long r_40), (15, .long r_36), (13, .long r_27), (11, .long r_23), (9, .long r_14), (7, .long r_10), (5, .long x_8), (3, .long x_5), (2, .int r_2), (0, .ref (h 0)), (1, .int x1)]) X.1 X.2.1 dL_splits_218 hl (by decide) rfl (fun ls hl => ?_)
                    refine lv_lload_n X.1 X.2.1 dL_splits_220 rfl (lv_at hl 12 rfl) ?_
                    refine lv_lload X.1 X.2.1 dL_splits_221 (lv_at hl 1 rfl) ?_
                    refine lv_lmul X.1 X.2.1 dL_splits_223 ?_
                    refine lv_lload X.1 X.2.1 dL_splits_224 (lv_at hl 11 rfl) ?_
                    refine lv_lload_n X.1 X.2.1 dL_splits_226 rfl (lv_at hl 12 rfl) ?_
                    refine lv_lsub X.1 X.2.1 dL_splits_227 ?_
                    refine lv_lload X.1 X.2.1 dL_splits_228 (lv_at hl 0 rfl) ?_
                    refine lv_lmul X.1 X.2.1 dL_splits_230 ?_
                    refine lv_ladd X.1 X.2.1 dL_splits_231 ?_
                    refine lv_topl (fun x_85 ex_85 => ?_)
                    replace hm := lt_e hm ex_85
                    refine lv_lstore (lv' := [(29, .long x_85), (27, .long x_84), (25, .long x_82), (23, .long x_80), (21, .long r_53), (19, .long r_49), (17, .long r_40), (15, .long r_36), (13, .long r_27), (11, .long r_23), (9, .long r_14), (7, .long r_10), (5, .long x_8), (3, .long x_5), (2, .int r_2), (0, .ref (h 0)), (1, .int x1)]) X.1 X.2.1 dL_splits_232 hl (by decide) rfl (fun ls hl => ?_)
                    refine lv_lload X.1 X.2.1 dL_splits_234 (lv_at hl 12 rfl) ?_
                    refine lv_lload X.1 X.2.1 dL_splits_236 (lv_at hl 3 rfl) ?_
                    refine lv_lmul X.1 X.2.1 dL_splits_238 ?_
                    refine lv_topl (fun x_86 ex_86 => ?_)
                    replace hm := lt_e hm ex_86
                    refine lv_lstore (lv' := [(31, .long x_86), (29, .long x_85), (27, .long x_84), (25, .long x_82), (23, .long x_80), (21, .long r_53), (19, .long r_49), (17, .long r_40), (15, .long r_36), (13, .long r_27), (11, .long r_23), (9, .long r_14), (7, .long r_10), (5, .long x_8), (3, .long x_5), (2, .int r_2), (0, .ref (h 0)), (1, .int x1)]) X.1 X.2.1 dL_splits_239 hl (by decide) rfl (fun ls hl => ?_)
                    refine lv_lload X.1 X.2.1 dL_splits_241 (lv_at hl 1 rfl) ?_
                    refine lv_lload X.1 X.2.1 dL_splits_243 (lv_at hl 0 rfl) ?_
                    replace hm := ob_e hm
                    obtain ⟨r_88, h_87, hm⟩ := hm
                    refine k_Sl (As := [.long x_85, .long x_86]) X hl.1 hw (c_L_divisor h_87) ⟨wq_14_13, wq_14_14, wq_5_5, wq_14_15⟩ yo_L_divisor rfl ⟨Nat.le_of_ble_eq_true rfl, Nat.le_of_ble_eq_true rfl⟩ (Nat.le_of_ble_eq_true rfl) dL_splits_245 (fun H locs hw => ?_)
                    refine lv_lstore (lv' := [(33, .long r_88), (31, .long x_86), (29, .long x_85), (27, .long x_84), (25, .long x_82), (23, .long x_80), (21, .long r_53), (19, .long r_49), (17, .long r_40), (15, .long r_36), (13, .long r_27), (11, .long r_23), (9, .long r_14), (7, .long r_10), (5, .long x_8), (3, .long x_5), (2, .int r_2), (0, .ref (h 0)), (1, .int x1)]) X.1 X.2.1 dL_splits_248 hl (by decide) rfl (fun ls hl => ?_)
                    refine lv_lload X.1 X.2.1 dL_splits_250 (lv_at hl 4 rfl) ?_
                    refine lv_lload X.1 X.2.1 dL_splits_252 (lv_at hl 3 rfl) ?_
                    refine lv_lsub X.1 X.2.1 dL_splits_254 ?_
                    refine lv_lload X.1 X.2.1 dL_splits_255 (lv_at hl 5 rfl) ?_
                    replace hm := ob_e hm
                    obtain ⟨r_90, h_89, hm⟩ := hm
                    refine k_Sl (As := [.long (x_82 - x_84), .long x_80]) X hl.1 hw (c_L_divisor h_89) ⟨wq_14_13, wq_14_14, wq_5_5, wq_14_15⟩ yo_L_divisor rfl ⟨Nat.le_of_ble_eq_true rfl, Nat.le_of_ble_eq_true rfl⟩ (Nat.le_of_ble_eq_true rfl) dL_splits_257 (fun H locs hw => ?_)
                    refine lv_lstore (lv' := [(35, .long r_90), (33, .long r_88), (31, .long x_86), (29, .long x_85), (27, .long x_84), (25, .long x_82), (23, .long x_80), (21, .long r_53), (19, .long r_49), (17, .long r_40), (15, .long r_36), (13, .long r_27), (11, .long r_23), (9, .long r_14), (7, .long r_10), (5, .long x_8), (3, .long x_5), (2, .int r_2), (0, .ref (h 0)), (1, .int x1)]) X.1 X.2.1 dL_splits_260 hl (by decide) rfl (fun ls hl => ?_)
                    refine lv_lload X.1 X.2.1 dL_splits_262 (lv_at hl 12 rfl) ?_
                    refine lv_lload X.1 X.2.1 dL_splits_264 (lv_at hl 3 rfl) ?_
                    refine lv_lload X.1 X.2.1 dL_splits_266 (lv_at hl 1 rfl) ?_
                    replace hm := gd_e hm
                    obtain ⟨g_91, hm⟩ := hm
                    refine lv_ldiv X.1 X.2.1 dL_splits_268 g_91 ?_
                    refine W.lcmp X.1 X.2.1 dL_splits_269 ?_
                    refine lv_if_ne (tgt := 313) X.1 X.2.1 dL_splits_270 (by decide) (fun c_92 => ?_) (fun c_92 => ?_)
                    · replace hm := it_n hm c_92
                      refine lv_iconst (v := 0) X.1 X.2.1 dL_splits_313 (by decide) ?_
                      obtain ⟨rfl, rfl⟩ := Prod.mk.inj (Option.some.inj hm)
                      exact hret _ _ _ _ hw dL_splits_314 (Or.inl rfl)
                    · replace hm := it_p hm c_92
                      refine lv_lload X.1 X.2.1 dL_splits_273 (lv_at hl 11 rfl) ?_
                      refine lv_lload X.1 X.2.1 dL_splits_275 (lv_at hl 2 rfl) ?_
                      refine lv_lload X.1 X.2.1 dL_splits_277 (lv_at hl 1 rfl) ?_
                      replace hm := gd_e hm
                      obtain ⟨g_94, hm⟩ := hm
                      refine lv_ldiv X.1 X.2.1 dL_splits_279 g_94 ?_
                      refine W.lcmp X.1 X.2.1 dL_splits_280 ?_
                      refine lv_if_ne (tgt := 313) X.1 X.2.1 dL_splits_281 (by decide) (fun c_95 => ?_) (fun c_95 => ?_)
                      · replace hm := it_n hm c_95
                        refine lv_iconst (v := 0) X.1 X.2.1 dL_splits_313 (by decide) ?_
                        obtain ⟨rfl, rfl⟩ := Prod.mk.inj (Option.some.inj hm)
                        exact hret _ _ _ _ hw dL_splits_314 (Or.inl rfl)
                      · replace hm := it_p hm c_95
                        refine lv_lload X.1 X.2.1 dL_splits_284 (lv_at hl 14 rfl) ?_
                        refine lv_lload X.1 X.2.1 dL_splits_286 (lv_at hl 5 rfl) ?_
                        refine lv_lload X.1 X.2.1 dL_splits_288 (lv_at hl 4 rfl) ?_
                        refine lv_lsub X.1 X.2.1 dL_splits_290 ?_
                        refine lv_lload X.1 X.2.1 dL_splits_291 (lv_at hl 0 rfl) ?_
                        replace hm := gd_e hm
                        obtain ⟨g_97, hm⟩ := hm
                        refine lv_ldiv X.1 X.2.1 dL_splits_293 g_97 ?_
                        refine W.lcmp X.1 X.2.1 dL_splits_294 ?_
                        refine lv_if_ne (tgt := 313) X.1 X.2.1 dL_splits_295 (by decide) (fun c_98 => ?_) (fun c_98 => ?_)
                        · replace hm := it_n hm c_98
                          refine lv_iconst (v := 0) X.1 X.2.1 dL_splits_313 (by decide) ?_
                          obtain ⟨rfl, rfl⟩ := Prod.mk.inj (Option.some.inj hm)
                          exact hret _ _ _ _ hw dL_splits_314 (Or.inl rfl)
                        · replace hm := it_p hm c_98
                          refine lv_lload X.1 X.2.1 dL_splits_298 (lv_at hl 13 rfl) ?_
                          refine lv_lload X.1 X.2.1 dL_splits_300 (lv_at hl 6 rfl) ?_
                          refine lv_lload X.1 X.2.1 dL_splits_302 (lv_at hl 0 rfl) ?_
                          replace hm := gd_e hm
                          obtain ⟨g_100, hm⟩ := hm
                          refine lv_ldiv X.1 X.2.1 dL_splits_304 g_100 ?_
                          refine W.lcmp X.1 X.2.1 dL_splits_305 ?_
                          refine lv_if_ne (tgt := 313) X.1 X.2.1 dL_splits_306 (by decide) (fun c_101 => ?_) (fun c_101 => ?_)
                          · replace hm := it_n hm c_101
                            refine lv_iconst (v := 0) X.1 X.2.1 dL_splits_313 (by decide) ?_
                            obtain ⟨rfl, rfl⟩ := Prod.mk.inj (Option.some.inj hm)
                            exact hret _ _ _ _ hw dL_splits_314 (Or.inl rfl)
                          · replace hm := it_p hm c_101
                            refine lv_iconst (v := 1) X.1 X.2.1 dL_splits_309 (by decide) ?_
                            refine lv_goto (tgt := 314) X.1 X.2.1 dL_splits_310 (by decide) ?_
                            obtain ⟨rfl, rfl⟩ := Prod.mk.inj (Option.some.inj hm)
                            exact hret _ _ _ _ hw dL_splits_314 (Or.inr rfl)
                  · replace hm := it_n hm c_76
                    refine lv_iconst (v := 0) X.1 X.2.1 dL_splits_183 (by decide) ?_
                    obtain ⟨rfl, rfl⟩ := Prod.mk.inj (Option.some.inj hm)
                    exact hret _ _ _ _ hw dL_splits_184 (Or.inl rfl)
      · replace hm := it_n hm c_47
        refine lv_iconst (v := 0) X.1 X.2.1 dL_splits_101 (by decide) ?_
        obtain ⟨rfl, rfl⟩ := Prod.mk.inj (Option.some.inj hm)
        exact hret _ _ _ _ hw dL_splits_102 (Or.inl rfl)
    · replace hm := it_n hm c_34
      refine lv_iconst (v := 0) X.1 X.2.1 dL_splits_75 (by decide) ?_
      obtain ⟨rfl, rfl⟩ := Prod.mk.inj (Option.some.inj hm)
      exact hret _ _ _ _ hw dL_splits_76 (Or.inl rfl)
  · replace hm := it_n hm c_21
    refine lv_iconst (v := 0) X.1 X.2.1 dL_splits_50 (by decide) ?_
    obtain ⟨rfl, rfl⟩ := Prod.mk.inj (Option.some.inj hm)
    exact hret _ _ _ _ hw dL_splits_51 (Or.inl rfl)
def m_L_tells_L47 (x2 : Int32) (r_2 : Int32) (L : Nat) (xs : Nat → Int32) (σ : Int32 × ST × (Nat → ST) × (Nat → Int32)) : Option ((Int32 × ST × (Nat → ST) × (Nat → Int32)) ⊕ ((ST × (Nat → ST) × (Nat → Int32)) ⊕ (Int32 × ST × (Nat → ST) × (Nat → Int32)))) := (fun (q_129 : Int32 × ST × (Nat → ST) × (Nat → Int32)) => un q_129 (fun y_17 q_129 => un q_129 (fun b_18 q_129 => un q_129 (fun w_19 v_20 => gd (¬ ((1 : Int32) < 0 ∨ 54 ≤ (1 : Int32).toNatClampNeg)) (if (v_20 (1 : Int32).toNatClampNeg) ≤ y_17 then some (.inr (.inl (b_18, w_19, v_20))) else Option.bind (m_L_cell L xs (((x2 + (1 : Int32)) + y_17))) (fun (r_60 : Int32) => gd (¬ ((0 : Int32) < 0 ∨ 54 ≤ (0 : Int32).toNatClampNeg)) (Option.bind (m_L_up r_60 ((v_20 (0 : Int32).toNatClampNeg))) (fun (r_63 : Int32) => gd (¬ ((0 : Int32) < 0 ∨ 54 ≤ (0 : Int32).toNatClampNeg)) (Option.bind (m_L_up ((r_60 >>> ((4 : Int32) &&& 31))) (((v_20 (0 : Int32).toNatClampNeg) - (1 : Int32)))) (fun (r_66 : Int32) => gd (¬ ((0 : Int32) < 0 ∨ 54 ≤ (0 : Int32).toNatClampNeg)) (gd (¬ (v_20 (0 : Int32).toNatClampNeg) = 0) (lt (((r_63 + (1 : Int32)) + r_66) - ((r_63 + (1 : Int32)) + r_66) / (v_20 (0 : Int32).toNatClampNeg) * (v_20 (0 : Int32).toNatClampNeg)) (fun x_69 => Option.bind (if x_69 ≤ r_63 then some x_69 else some r_63) (fun (j_71 : Int32) => gd (¬ (((4 : Int32) + y_17) < 0 ∨ 54 ≤ ((4 : Int32) + y_17).toNatClampNeg)) (lt (upd v_20 ((4 : Int32) + y_17).toNatClampNeg j_71) (fun v_73 => Option.bind (if x_69 ≤ r_63 then some r_63 else some x_69) (fun (j_75 : Int32) => gd (¬ (((14 : Int32) + y_17) < 0 ∨ 54 ≤ ((14 : Int32) + y_17).toNatClampNeg)) (lt (upd v_73 ((14 : Int32) + y_17).toNatClampNeg j_75) (fun v_77 => Option.bind (if ((r_2 >>> ((8 : Int32) &&& 31)) &&& (1 : Int32)) = 0 then some (4 : Int32) else some (9 : Int32)) (fun (j_79 : Int32) => Option.bind (m_L_up ((r_60 >>> ((8 : Int32) &&& 31))) j_79) (fun (r_81 : Int32) => gd (¬ (((34 : Int32) + y_17) < 0 ∨ 54 ≤ ((34 : Int32) + y_17).toNatClampNeg)) (lt (upd v_77 ((34 : Int32) + y_17).toNatClampNeg (((1 : Int32) + r_81))) (fun v_83 => Option.bind (if ((r_60 >>> ((12 : Int32) &&& 31)) &&& (7 : Int32)) = 0 then some (0 : Int32) else if ((r_60 >>> ((12 : Int32) &&& 31)) &&& (7 : Int32)) = (1 : Int32) then lt ((34 : Int32) + y_17) (fun x_121 => gd (¬ (x_121 < 0 ∨ 54 ≤ x_121.toNatClampNeg)) (some (v_83 x_121.toNatClampNeg))) else lt ((34 : Int32) + y_17) (fun x_117 => gd (¬ (x_117 < 0 ∨ 54 ≤ x_117.toNatClampNeg)) (Option.bind (m_L_up ((r_60 >>> ((15 : Int32) &&& 31))) (((v_83 x_117.toNatClampNeg) + (1 : Int32)))) (fun (r_120 : Int32) => some r_120)))) (fun (j_85 : Int32) => gd (¬ (((24 : Int32) + y_17) < 0 ∨ 54 ≤ ((24 : Int32) + y_17).toNatClampNeg)) (lt (upd v_83 ((24 : Int32) + y_17).toNatClampNeg j_85) (fun v_87 => Option.bind (if ((r_60 >>> ((20 : Int32) &&& 31)) &&& (7 : Int32)) ≤ (1 : Int32) then lt ((1 : Int32) + ((r_60 >>> ((20 : Int32) &&& 31)) &&& (7 : Int32))) (fun x_113 => some x_113) else some (0 : Int32)) (fun (j_89 : Int32) => gd (¬ (((44 : Int32) + y_17) < 0 ∨ 54 ≤ ((44 : Int32) + y_17).toNatClampNeg)) (lt (upd v_87 ((44 : Int32) + y_17).toNatClampNeg j_89) (fun v_91 => lt ((24 : Int32) + y_17) (fun x_92 => gd (¬ (x_92 < 0 ∨ 54 ≤ x_92.toNatClampNeg)) (lt ((34 : Int32) + y_17) (fun x_94 => gd (¬ (x_94 < 0 ∨ 54 ≤ x_94.toNatClampNeg)) (Option.bind (m_X9_link b_18 r_63 x_69 (v_91 x_92.toNatClampNeg) (v_91 x_94.toNatClampNeg)) (fun (q_99 : Int32 × ST) => un q_99 (fun r_97 b_98 => if r_97 = y_17 then lt ((44 : Int32) + y_17) (fun x_102 => gd (¬ (x_102 < 0 ∨ 54 ≤ x_102.toNatClampNeg)) (Option.bind (m_X9_see b_98 y_17 (v_91 x_102.toNatClampNeg)) (fun (q_107 : Int32 × ST) => un q_107 (fun r_105 b_106 => if r_105 = 0 then lt (y_17 + 1) (fun x_109 => some (.inl (x_109, b_106, w_19, v_91))) else some (.inr (.inr ((0 : Int32), b_106, w_19, v_91))))))) else some (.inr (.inr ((0 : Int32), b_98, w_19, v_91)))))))))))))))))))))))))))))))))))))) σ
def m_L_tells (L : Nat) (xs : Nat → Int32) (b : ST) (w : Nat → ST) (v : Nat → Int32) (x2 : Int32) : Option (Int32 × ST × (Nat → ST) × (Nat → Int32)) := Option.bind (m_L_cell L xs x2) (fun (r_2 : Int32) => Option.bind (m_L_up r_2 (6 : Int32)) (fun (r_4 : Int32) => gd (¬ ((0 : Int32) < 0 ∨ 54 ≤ (0 : Int32).toNatClampNeg)) (lt (upd v (0 : Int32).toNatClampNeg (((2 : Int32) + r_4))) (fun v_6 => Option.bind (m_L_up ((r_2 >>> ((3 : Int32) &&& 31))) (11 : Int32)) (fun (r_8 : Int32) => gd (¬ ((1 : Int32) < 0 ∨ 54 ≤ (1 : Int32).toNatClampNeg)) (lt (upd v_6 (1 : Int32).toNatClampNeg r_8) (fun v_10 => gd (¬ ((0 : Int32) < 0 ∨ 54 ≤ (0 : Int32).toNatClampNeg)) (Option.bind (m_X9_stations b ((v_10 (0 : Int32).toNatClampNeg))) (fun (q_15 : Int32 × ST) => un q_15 (fun r_13 b_14 => if (2 : Int32) ≤ r_13 then Option.bind (vLoop (m_L_tells_L47 x2 r_2 L xs) FUEL ((0 : Int32), b_14, w, v_10)) (fun z => ex z (fun (q_131 : ST × (Nat → ST) × (Nat → Int32)) => un q_131 (fun b_21 q_131 => un q_131 (fun w_22 v_23 => gd (¬ ((0 : Int32) < 0 ∨ 54 ≤ (0 : Int32).toNatClampNeg)) (Option.bind (m_L_up ((r_2 >>> ((9 : Int32) &&& 31))) ((v_23 (0 : Int32).toNatClampNeg))) (fun (r_26 : Int32) => gd (¬ ((0 : Int32) < 0 ∨ 54 ≤ (0 : Int32).toNatClampNeg)) (Option.bind (m_L_up ((r_2 >>> ((12 : Int32) &&& 31))) (((1 : Int32) <<< ((v_23 (0 : Int32).toNatClampNeg) &&& 31)))) (fun (r_29 : Int32) => gd (¬ ((2 : Int32) < 0 ∨ 54 ≤ (2 : Int32).toNatClampNeg)) (lt (upd v_23 (2 : Int32).toNatClampNeg ((r_29 ||| ((1 : Int32) <<< (r_26 &&& 31))))) (fun v_31 => Option.bind (m_X9_source b_21 r_26) (fun (q_35 : Int32 × ST) => un q_35 (fun r_33 b_34 => if r_33 = 0 then Option.bind (m_X9_goals b_34 r_29) (fun (q_41 : Int32 × ST) => un q_41 (fun r_39 b_40 => if r_39 = 0 then Option.bind (m_X9_count b_40 (1 : Int32)) (fun (r_45 : Int32) => gd (¬ ((1 : Int32) < 0 ∨ 54 ≤ (1 : Int32).toNatClampNeg)) (if r_45 = (v_31 (1 : Int32).toNatClampNeg) then some ((1 : Int32), b_40, w_22, v_31) else some ((0 : Int32), b_40, w_22, v_31))) else some ((0 : Int32), b_40, w_22, v_31))) else some ((0 : Int32), b_34, w_22, v_31)))))))))))) (fun r_132 => some r_132)) else some ((0 : Int32), b_14, w, v_10)))))))))))
theorem yo_L_tells : yL_tells.cls ≠ "java/lang/invoke/MethodHandle" ∧ yL_tells.cls ≠ "java/lang/invoke/VarHandle" ∧ (parseMethodDescriptor yL_tells.desc).map (fun d => d.parameters.length) = some 4 := by decide +kernel
set_option maxHeartbeats 4000000 in
set_option maxRecDepth 100000 in
theorem c_L_tells {l : Launch} {g : gT} {h : Nat → Nat} {bb L : Nat} {xs : Nat → Int32} {b : ST} {w : Nat → ST} {v : Nat → Int32} {x2 : Int32} {r : Int32} {b' : ST} {w' : (Nat → ST)} {v' : (Nat → Int32)} (hm : m_L_tells L xs b w v x2 = some (r, b', w', v')) : MetXI l g yL_tells cL_tells 9 (some .boolean) 5 119 80 h (cW g h (b, w) v) (cW g h (b', w') v') [.ref (h 0), .ref (bb), .int x2, .ref (h 79)] r bb L xs := by
  refine MetXZ.ofX (by decide +kernel) (Nat.le_of_ble_eq_true rfl) ?_
  intro p e s m below meth c AV Q X hX hbl hbA hret ls hw hl
  replace X : Cx g p s m AV c cL_tells RL 9 := X
  replace hl : lv_has ls 9 [(0, .ref (h 0)), (1, .ref (bb)), (2, .int x2), (3, .ref (h 79))] := hl
  unfold m_L_tells at hm
  refine lv_aload_n X.1 X.2.1 dL_tells_0 rfl (lv_at hl 1 rfl) ?_
  refine lv_iload_n X.1 X.2.1 dL_tells_1 rfl (lv_at hl 2 rfl) ?_
  replace hm := ob_e hm
  obtain ⟨r_2, h_1, hm⟩ := hm
  refine kX_Si (As := [.ref (bb), .int x2]) (cel' := cW g h (b, w) v) X hX hbl hbA hl.1 hw (c_L_cell h_1) ⟨wq_5_7, wq_5_8, wq_5_5, wq_5_9⟩ yo_L_cell rfl ⟨Nat.le_of_ble_eq_true rfl, Nat.le_of_ble_eq_true rfl⟩ (Nat.le_of_ble_eq_true rfl) ⟨Nat.zero_le _, Nat.zero_le _⟩ dL_tells_2 (fun H locs hw => ?_)
  refine lv_istore (lv' := [(4, .int r_2), (0, .ref (h 0)), (1, .ref (bb)), (2, .int x2), (3, .ref (h 79))]) X.1 X.2.1 dL_tells_5 hl (by decide) rfl (fun ls hl => ?_)
  refine lv_aload_n X.1 X.2.1 dL_tells_7 rfl (lv_at hl 4 rfl) ?_
  refine lv_iconst (v := 0) X.1 X.2.1 dL_tells_8 (by decide) ?_
  refine lv_iconst (v := 2) X.1 X.2.1 dL_tells_9 (by decide) ?_
  refine lv_iload X.1 X.2.1 dL_tells_10 (lv_at hl 0 rfl) ?_
  refine lv_bipush (v := 6) X.1 X.2.1 dL_tells_12 (by decide) ?_
  replace hm := ob_e hm
  obtain ⟨r_4, h_3, hm⟩ := hm
  refine kE_Si (As := [.int r_2, .int (6 : Int32)]) (n := 80) (c0 := cW g h (b, w) v) (c1 := cW g h (b, w) v) (cel' := cW g h (b, w) v) X hl.1 hw (c_L_up h_3) (Nat.le_refl _) (fun _ _ => rfl) (fun _ _ => rfl) (fun _ _ _ => rfl) ⟨wq_5_11, wq_5_12, wq_5_5, wq_5_13⟩ yo_L_up rfl ⟨Nat.le_of_ble_eq_true rfl, Nat.le_of_ble_eq_true rfl⟩ (Nat.le_of_ble_eq_true rfl) ⟨Nat.zero_le _, Nat.zero_le _⟩ dL_tells_14 (fun H locs hw => ?_)
  refine lv_iadd X.1 X.2.1 dL_tells_17 ?_
  replace hm := gd_e hm
  obtain ⟨g_5, hm⟩ := hm
  refine sV X hw g_5 dL_tells_18 (fun H locs hw => ?_)
  obtain ⟨v_6, ev_6⟩ : ∃ y, y = upd v (0 : Int32).toNatClampNeg (((2 : Int32) + r_4)) := ⟨_, rfl⟩
  rw [← ev_6] at hw
  replace hm := lt_e hm ev_6
  refine lv_aload_n X.1 X.2.1 dL_tells_19 rfl (lv_at hl 4 rfl) ?_
  refine lv_iconst (v := 1) X.1 X.2.1 dL_tells_20 (by decide) ?_
  refine lv_iload X.1 X.2.1 dL_tells_21 (lv_at hl 0 rfl) ?_
  refine lv_iconst (v := 3) X.1 X.2.1 dL_tells_23 (by decide) ?_
  refine lv_ishr X.1 X.2.1 dL_tells_24 ?_
  refine lv_bipush (v := 11) X.1 X.2.1 dL_tells_25 (by decide) ?_
  replace hm := ob_e hm
  obtain ⟨r_8, h_7, hm⟩ := hm
  refine kE_Si (As := [.int (r_2 >>> ((3 : Int32) &&& 31)), .int (11 : Int32)]) (n := 80) (c0 := cW g h (b, w) v_6) (c1 := cW g h (b, w) v_6) (cel' := cW g h (b, w) v_6) X hl.1 hw (c_L_up h_7) (Nat.le_refl _) (fun _ _ => rfl) (fun _ _ => rfl) (fun _ _ _ => rfl) ⟨wq_5_11, wq_5_12, wq_5_5, wq_5_13⟩ yo_L_up rfl ⟨Nat.le_of_ble_eq_true rfl, Nat.le_of_ble_eq_true rfl⟩ (Nat.le_of_ble_eq_true rfl) ⟨Nat.zero_le _, Nat.zero_le _⟩ dL_tells_27 (fun H locs hw => ?_)
  replace hm := gd_e hm
  obtain ⟨g_9, hm⟩ := hm
  refine sV X hw g_9 dL_tells_30 (fun H locs hw => ?_)
  obtain ⟨v_10, ev_10⟩ : ∃ y, y = upd v_6 (1 : Int32).toNatClampNeg r_8 := ⟨_, rfl⟩
  rw [← ev_10] at hw
  replace hm := lt_e hm ev_10
  refine lv_aload_n X.1 X.2.1 dL_tells_31 rfl (lv_at hl 1 rfl) ?_
  refine lv_aload_n X.1 X.2.1 dL_tells_32 rfl (lv_at hl 4 rfl) ?_
  refine lv_iconst (v := 0) X.1 X.2.1 dL_tells_33 (by decide) ?_
  replace hm := gd_e hm
  obtain ⟨g_11, hm⟩ := hm
  refine lV X hw g_11 dL_tells_34 ?_
  replace hm := ob_e hm
  obtain ⟨⟨r_13, b_14⟩, h_12, hm⟩ := hm
  replace hm := un_e hm
  refine kE_Vi (k := 0) (As := [.int (v_10 (0 : Int32).toNatClampNeg)]) (n := 79) (cel' := cW g h (b_14, w) v_10) X hl.1 hw (c_X9_stations h_12) (by decide) (cW_0 g h _ _) (cW_0 g h _ _) (cW_2 g h _ _ _) (by decide) (he_X9 g h _ _) rfl ⟨wq_5_15, wq_5_16, wq_5_17, wq_1_2, wq_5_18⟩ yo_X9_stations rfl ⟨Nat.le_of_ble_eq_true rfl, Nat.le_of_ble_eq_true rfl⟩ (Nat.le_of_ble_eq_true rfl) ⟨Nat.zero_le _, Nat.zero_le _⟩ dL_tells_35 (fun H locs hw => ?_)
  refine lv_iconst (v := 2) X.1 X.2.1 dL_tells_38 (by decide) ?_
  refine lv_icmp_ge (tgt := 44) X.1 X.2.1 dL_tells_39 (by decide) (fun c_16 => ?_) (fun c_16 => ?_)
  · replace hm := it_p hm c_16
    refine lv_iconst (v := 0) X.1 X.2.1 dL_tells_44 (by decide) ?_
    refine lv_istore (lv' := [(5, .int (0 : Int32)), (4, .int r_2), (0, .ref (h 0)), (1, .ref (bb)), (2, .int x2), (3, .ref (h 79))]) X.1 X.2.1 dL_tells_45 hl (by decide) rfl (fun ls hl => ?_)
    replace hm := ob_e hm
    obtain ⟨z_130, hL_55, hm⟩ := hm
    have J_54 : ∀ (b_21 : ST) (w_22 : (Nat → ST)) (v_23 : (Nat → Int32)), z_130 = .inl (b_21, w_22, v_23) → ∀ (H : Heap) (locs : List Loc) (ls : Array Slot), Wd g 80 h (cW g h (b_21, w_22) v_23) s H locs → lv_has ls 9 [(0, .ref (h 0)), (3, .ref (h 79)), (4, .int r_2)] → W p l e (rW 5 119) s m AV below meth c H locs 0 0 Q (F0 m 319 ls []) := by
      intro b_21 w_22 v_23 hj
      subst hj
      replace hm := ex_l hm
      replace hm := un_e hm
      replace hm := un_e hm
      intro H locs ls hw hl
      refine lv_iload X.1 X.2.1 dL_tells_319 (lv_at hl 2 rfl) ?_
      refine lv_bipush (v := 9) X.1 X.2.1 dL_tells_321 (by decide) ?_
      refine lv_ishr X.1 X.2.1 dL_tells_323 ?_
      refine lv_aload_n X.1 X.2.1 dL_tells_324 rfl (lv_at hl 1 rfl) ?_
      refine lv_iconst (v := 0) X.1 X.2.1 dL_tells_325 (by decide) ?_
      replace hm := gd_e hm
      obtain ⟨g_24, hm⟩ := hm
      refine lV X hw g_24 dL_tells_326 ?_
      replace hm := ob_e hm
      obtain ⟨r_26, h_25, hm⟩ := hm
      refine kE_Si (As := [.int (r_2 >>> ((9 : Int32) &&& 31)), .int (v_23 (0 : Int32).toNatClampNeg)]) (n := 80) (c0 := cW g h (b_21, w_22) v_23) (c1 := cW g h (b_21, w_22) v_23) (cel' := cW g h (b_21, w_22) v_23) X hl.1 hw (c_L_up h_25) (Nat.le_refl _) (fun _ _ => rfl) (fun _ _ => rfl) (fun _ _ _ => rfl) ⟨wq_5_11, wq_5_12, wq_5_5, wq_5_13⟩ yo_L_up rfl ⟨Nat.le_of_ble_eq_true rfl, Nat.le_of_ble_eq_true rfl⟩ (Nat.le_of_ble_eq_true rfl) ⟨Nat.zero_le _, Nat.zero_le _⟩ dL_tells_327 (fun H locs hw => ?_)
      refine lv_istore (lv' := [(5, .int r_26), (0, .ref (h 0)), (3, .ref (h 79)), (4, .int r_2)]) X.1 X.2.1 dL_tells_330 hl (by decide) rfl (fun ls hl => ?_)
      refine lv_iload X.1 X.2.1 dL_tells_332 (lv_at hl 3 rfl) ?_
      refine lv_bipush (v := 12) X.1 X.2.1 dL_tells_334 (by decide) ?_
      refine lv_ishr X.1 X.2.1 dL_tells_336 ?_
      refine lv_iconst (v := 1) X.1 X.2.1 dL_tells_337 (by decide) ?_
      refine lv_aload_n X.1 X.2.1 dL_tells_338 rfl (lv_at hl 2 rfl) ?_
      refine lv_iconst (v := 0) X.1 X.2.1 dL_tells_339 (by decide) ?_
      replace hm := gd_e hm
      obtain ⟨g_27, hm⟩ := hm
      refine lV X hw g_27 dL_tells_340 ?_
      refine lv_ishl X.1 X.2.1 dL_tells_341 ?_
      replace hm := ob_e hm
      obtain ⟨r_29, h_28, hm⟩ := hm
      refine kE_Si (As := [.int (r_2 >>> ((12 : Int32) &&& 31)), .int ((1 : Int32) <<< ((v_23 (0 : Int32).toNatClampNeg) &&& 31))]) (n := 80) (c0 := cW g h (b_21, w_22) v_23) (c1 := cW g h (b_21, w_22) v_23) (cel' := cW g h (b_21, w_22) v_23) X hl.1 hw (c_L_up h_28) (Nat.le_refl _) (fun _ _ => rfl) (fun _ _ => rfl) (fun _ _ _ => rfl) ⟨wq_5_11, wq_5_12, wq_5_5, wq_5_13⟩ yo_L_up rfl ⟨Nat.le_of_ble_eq_true rfl, Nat.le_of_ble_eq_true rfl⟩ (Nat.le_of_ble_eq_true rfl) ⟨Nat.zero_le _, Nat.zero_le _⟩ dL_tells_342 (fun H locs hw => ?_)
      refine lv_istore (lv' := [(6, .int r_29), (5, .int r_26), (0, .ref (h 0)), (3, .ref (h 79)), (4, .int r_2)]) X.1 X.2.1 dL_tells_345 hl (by decide) rfl (fun ls hl => ?_)
      refine lv_aload_n X.1 X.2.1 dL_tells_347 rfl (lv_at hl 3 rfl) ?_
      refine lv_iconst (v := 2) X.1 X.2.1 dL_tells_348 (by decide) ?_
      refine lv_iload X.1 X.2.1 dL_tells_349 (lv_at hl 0 rfl) ?_
      refine lv_iconst (v := 1) X.1 X.2.1 dL_tells_351 (by decide) ?_
      refine lv_iload X.1 X.2.1 dL_tells_352 (lv_at hl 1 rfl) ?_
      refine lv_ishl X.1 X.2.1 dL_tells_354 ?_
      refine lv_ior X.1 X.2.1 dL_tells_355 ?_
      replace hm := gd_e hm
      obtain ⟨g_30, hm⟩ := hm
      refine sV X hw g_30 dL_tells_356 (fun H locs hw => ?_)
      obtain ⟨v_31, ev_31⟩ : ∃ y, y = upd v_23 (2 : Int32).toNatClampNeg ((r_29 ||| ((1 : Int32) <<< (r_26 &&& 31)))) := ⟨_, rfl⟩
      rw [← ev_31] at hw
      replace hm := lt_e hm ev_31
      refine lv_aload_n X.1 X.2.1 dL_tells_357 rfl (lv_at hl 2 rfl) ?_
      refine lv_iload X.1 X.2.1 dL_tells_358 (lv_at hl 1 rfl) ?_
      replace hm := ob_e hm
      obtain ⟨⟨r_33, b_34⟩, h_32, hm⟩ := hm
      replace hm := un_e hm
      refine kE_Vi (k := 0) (As := [.int r_26]) (n := 79) (cel' := cW g h (b_34, w_22) v_31) X hl.1 hw (c_X9_source h_32) (by decide) (cW_0 g h _ _) (cW_0 g h _ _) (cW_2 g h _ _ _) (by decide) (he_X9 g h _ _) rfl ⟨wq_9_1, wq_9_2, wq_9_3, wq_1_2, wq_9_4⟩ yo_X9_source rfl ⟨Nat.le_of_ble_eq_true rfl, Nat.le_of_ble_eq_true rfl⟩ (Nat.le_of_ble_eq_true rfl) ⟨Nat.zero_le _, Nat.zero_le _⟩ dL_tells_360 (fun H locs hw => ?_)
      refine lv_if_ne (tgt := 390) X.1 X.2.1 dL_tells_363 (by decide) (fun c_36 => ?_) (fun c_36 => ?_)
      · replace hm := it_n hm c_36
        refine lv_iconst (v := 0) X.1 X.2.1 dL_tells_390 (by decide) ?_
        obtain ⟨rfl, q_37⟩ := Prod.mk.inj (Option.some.inj hm)
        obtain ⟨rfl, q_37'⟩ := Prod.mk.inj q_37
        obtain ⟨rfl, rfl⟩ := Prod.mk.inj q_37'
        exact hret _ _ _ _ hw dL_tells_391 (Or.inl rfl)
      · replace hm := it_p hm c_36
        refine lv_aload_n X.1 X.2.1 dL_tells_366 rfl (lv_at hl 2 rfl) ?_
        refine lv_iload X.1 X.2.1 dL_tells_367 (lv_at hl 0 rfl) ?_
        replace hm := ob_e hm
        obtain ⟨⟨r_39, b_40⟩, h_38, hm⟩ := hm
        replace hm := un_e hm
        refine kE_Vi (k := 0) (As := [.int r_29]) (n := 79) (cel' := cW g h (b_40, w_22) v_31) X hl.1 hw (c_X9_goals h_38) (by decide) (cW_0 g h _ _) (cW_0 g h _ _) (cW_2 g h _ _ _) (by decide) (he_X9 g h _ _) rfl ⟨wq_9_14, wq_9_15, wq_9_16, wq_1_2, wq_9_17⟩ yo_X9_goals rfl ⟨Nat.le_of_ble_eq_true rfl, Nat.le_of_ble_eq_true rfl⟩ (Nat.le_of_ble_eq_true rfl) ⟨Nat.zero_le _, Nat.zero_le _⟩ dL_tells_369 (fun H locs hw => ?_)
        refine lv_if_ne (tgt := 390) X.1 X.2.1 dL_tells_372 (by decide) (fun c_42 => ?_) (fun c_42 => ?_)
        · replace hm := it_n hm c_42
          refine lv_iconst (v := 0) X.1 X.2.1 dL_tells_390 (by decide) ?_
          obtain ⟨rfl, q_43⟩ := Prod.mk.inj (Option.some.inj hm)
          obtain ⟨rfl, q_43'⟩ := Prod.mk.inj q_43
          obtain ⟨rfl, rfl⟩ := Prod.mk.inj q_43'
          exact hret _ _ _ _ hw dL_tells_391 (Or.inl rfl)
        · replace hm := it_p hm c_42
          refine lv_aload_n X.1 X.2.1 dL_tells_375 rfl (lv_at hl 2 rfl) ?_
          refine lv_iconst (v := 1) X.1 X.2.1 dL_tells_376 (by decide) ?_
          replace hm := ob_e hm
          obtain ⟨r_45, h_44, hm⟩ := hm
          refine kE_Vi (k := 0) (As := [.int (1 : Int32)]) (n := 79) (cel' := cW g h (b_40, w_22) v_31) X hl.1 hw (c_X9_count h_44) (by decide) (cW_0 g h _ _) (cW_0 g h _ _) (cW_2 g h _ _ _) (by decide) (he_X9 g h _ _) rfl ⟨wq_10_6, wq_10_7, wq_10_8, wq_1_2, wq_10_9⟩ yo_X9_count rfl ⟨Nat.le_of_ble_eq_true rfl, Nat.le_of_ble_eq_true rfl⟩ (Nat.le_of_ble_eq_true rfl) ⟨Nat.zero_le _, Nat.zero_le _⟩ dL_tells_377 (fun H locs hw => ?_)
          refine lv_aload_n X.1 X.2.1 dL_tells_380 rfl (lv_at hl 3 rfl) ?_
          refine lv_iconst (v := 1) X.1 X.2.1 dL_tells_381 (by decide) ?_
          replace hm := gd_e hm
          obtain ⟨g_46, hm⟩ := hm
          refine lV X hw g_46 dL_tells_382 ?_
          refine lv_icmp_ne (tgt := 390) X.1 X.2.1 dL_tells_383 (by decide) (fun c_47 => ?_) (fun c_47 => ?_)
          · replace hm := it_n hm c_47
            refine lv_iconst (v := 0) X.1 X.2.1 dL_tells_390 (by decide) ?_
            obtain ⟨rfl, q_48⟩ := Prod.mk.inj (Option.some.inj hm)
            obtain ⟨rfl, q_48'⟩ := Prod.mk.inj q_48
            obtain ⟨rfl, rfl⟩ := Prod.mk.inj q_48'
            exact hret _ _ _ _ hw dL_tells_391 (Or.inl rfl)
          · replace hm := it_p hm c_47
            refine lv_iconst (v := 1) X.1 X.2.1 dL_tells_386 (by decide) ?_
            refine lv_goto (tgt := 391) X.1 X.2.1 dL_tells_387 (by decide) ?_
            obtain ⟨rfl, q_49⟩ := Prod.mk.inj (Option.some.inj hm)
            obtain ⟨rfl, q_49'⟩ := Prod.mk.inj q_49
            obtain ⟨rfl, rfl⟩ := Prod.mk.inj q_49'
            exact hret _ _ _ _ hw dL_tells_391 (Or.inr rfl)
    refine vLoop_ind (B := (m_L_tells_L47 x2 r_2 L xs)) (fun σ => ∀ (H : Heap) (locs : List Loc) (ls : Array Slot), Wd g 80 h (cW g h (σ.2.1, σ.2.2.1) σ.2.2.2) s H locs → lv_has ls 9 [(0, .ref (h 0)), (1, .ref (bb)), (2, .int x2), (3, .ref (h 79)), (4, .int r_2), (5, .int σ.1)] → W p l e (rW 5 119) s m AV below meth c H locs 0 0 Q (F0 m 47 ls [])) (fun z' => z' = z_130) ?_ FUEL _ _ hL_55 rfl _ _ _ hw (lv_sub hl [2, 3, 4, 5, 1, 0] rfl)
    intro σ z_53 hz_50 hn_51 hx_52
    obtain ⟨y_17, b_18, w_19, v_20⟩ := σ
    intro H locs ls hw hl
    replace hw : Wd g 80 h (cW g h (b_18, w_19) v_20) s H locs := hw
    replace hl : lv_has ls 9 [(0, .ref (h 0)), (1, .ref (bb)), (2, .int x2), (3, .ref (h 79)), (4, .int r_2), (5, .int y_17)] := hl
    unfold m_L_tells_L47 at hz_50
    replace hz_50 := un_e hz_50
    replace hz_50 := un_e hz_50
    replace hz_50 := un_e hz_50
    refine lv_iload X.1 X.2.1 dL_tells_47 (lv_at hl 5 rfl) ?_
    refine lv_aload_n X.1 X.2.1 dL_tells_49 rfl (lv_at hl 3 rfl) ?_
    refine lv_iconst (v := 1) X.1 X.2.1 dL_tells_50 (by decide) ?_
    replace hz_50 := gd_e hz_50
    obtain ⟨g_57, hz_50⟩ := hz_50
    refine lV X hw g_57 dL_tells_51 ?_
    refine lv_icmp_ge (tgt := 319) X.1 X.2.1 dL_tells_52 (by decide) (fun c_58 => ?_) (fun c_58 => ?_)
    · replace hz_50 := it_p hz_50 c_58
      have he_56 := hx_52 _ (Option.some.inj hz_50).symm
      exact J_54 _ _ _ he_56.symm _ _ _ hw (lv_sub hl [0, 3, 4] rfl)
    · replace hz_50 := it_n hz_50 c_58
      refine lv_aload_n X.1 X.2.1 dL_tells_55 rfl (lv_at hl 1 rfl) ?_
      refine lv_iload_n X.1 X.2.1 dL_tells_56 rfl (lv_at hl 2 rfl) ?_
      refine lv_iconst (v := 1) X.1 X.2.1 dL_tells_57 (by decide) ?_
      refine lv_iadd X.1 X.2.1 dL_tells_58 ?_
      refine lv_iload X.1 X.2.1 dL_tells_59 (lv_at hl 5 rfl) ?_
      refine lv_iadd X.1 X.2.1 dL_tells_61 ?_
      replace hz_50 := ob_e hz_50
      obtain ⟨r_60, h_59, hz_50⟩ := hz_50
      refine kX_Si (As := [.ref (bb), .int ((x2 + (1 : Int32)) + y_17)]) (cel' := cW g h (b_18, w_19) v_20) X hX hbl hbA hl.1 hw (c_L_cell h_59) ⟨wq_5_7, wq_5_8, wq_5_5, wq_5_9⟩ yo_L_cell rfl ⟨Nat.le_of_ble_eq_true rfl, Nat.le_of_ble_eq_true rfl⟩ (Nat.le_of_ble_eq_true rfl) ⟨Nat.zero_le _, Nat.zero_le _⟩ dL_tells_62 (fun H locs hw => ?_)
      refine lv_istore (lv' := [(6, .int r_60), (0, .ref (h 0)), (1, .ref (bb)), (2, .int x2), (3, .ref (h 79)), (4, .int r_2), (5, .int y_17)]) X.1 X.2.1 dL_tells_65 hl (by decide) rfl (fun ls hl => ?_)
      refine lv_iload X.1 X.2.1 dL_tells_67 (lv_at hl 0 rfl) ?_
      refine lv_aload_n X.1 X.2.1 dL_tells_69 rfl (lv_at hl 4 rfl) ?_
      refine lv_iconst (v := 0) X.1 X.2.1 dL_tells_70 (by decide) ?_
      replace hz_50 := gd_e hz_50
      obtain ⟨g_61, hz_50⟩ := hz_50
      refine lV X hw g_61 dL_tells_71 ?_
      replace hz_50 := ob_e hz_50
      obtain ⟨r_63, h_62, hz_50⟩ := hz_50
      refine kE_Si (As := [.int r_60, .int (v_20 (0 : Int32).toNatClampNeg)]) (n := 80) (c0 := cW g h (b_18, w_19) v_20) (c1 := cW g h (b_18, w_19) v_20) (cel' := cW g h (b_18, w_19) v_20) X hl.1 hw (c_L_up h_62) (Nat.le_refl _) (fun _ _ => rfl) (fun _ _ => rfl) (fun _ _ _ => rfl) ⟨wq_5_11, wq_5_12, wq_5_5, wq_5_13⟩ yo_L_up rfl ⟨Nat.le_of_ble_eq_true rfl, Nat.le_of_ble_eq_true rfl⟩ (Nat.le_of_ble_eq_true rfl) ⟨Nat.zero_le _, Nat.zero_le _⟩ dL_tells_72 (fun H locs hw => ?_)
      refine lv_istore (lv' := [(7, .int r_63), (6, .int r_60), (0, .ref (h 0)), (1, .ref (bb)), (2, .int x2), (3, .ref (h 79)), (4, .int r_2), (5, .int y_17)]) X.1 X.2.1 dL_tells_75 hl (by decide) rfl (fun ls hl => ?_)
      refine lv_iload X.1 X.2.1 dL_tells_77 (lv_at hl 0 rfl) ?_
      refine lv_iconst (v := 1) X.1 X.2.1 dL_tells_79 (by decide) ?_
      refine lv_iadd X.1 X.2.1 dL_tells_80 ?_
      refine lv_iload X.1 X.2.1 dL_tells_81 (lv_at hl 1 rfl) ?_
      refine lv_iconst (v := 4) X.1 X.2.1 dL_tells_83 (by decide) ?_
      refine lv_ishr X.1 X.2.1 dL_tells_84 ?_
      refine lv_aload_n X.1 X.2.1 dL_tells_85 rfl (lv_at hl 5 rfl) ?_
      refine lv_iconst (v := 0) X.1 X.2.1 dL_tells_86 (by decide) ?_
      replace hz_50 := gd_e hz_50
      obtain ⟨g_64, hz_50⟩ := hz_50
      refine lV X hw g_64 dL_tells_87 ?_
      refine lv_iconst (v := 1) X.1 X.2.1 dL_tells_88 (by decide) ?_
      refine lv_isub X.1 X.2.1 dL_tells_89 ?_
      replace hz_50 := ob_e hz_50
      obtain ⟨r_66, h_65, hz_50⟩ := hz_50
      refine kE_Si (As := [.int (r_60 >>> ((4 : Int32) &&& 31)), .int ((v_20 (0 : Int32).toNatClampNeg) - (1 : Int32))]) (n := 80) (c0 := cW g h (b_18, w_19) v_20) (c1 := cW g h (b_18, w_19) v_20) (cel' := cW g h (b_18, w_19) v_20) X hl.1 hw (c_L_up h_65) (Nat.le_refl _) (fun _ _ => rfl) (fun _ _ => rfl) (fun _ _ _ => rfl) ⟨wq_5_11, wq_5_12, wq_5_5, wq_5_13⟩ yo_L_up rfl ⟨Nat.le_of_ble_eq_true rfl, Nat.le_of_ble_eq_true rfl⟩ (Nat.le_of_ble_eq_true rfl) ⟨Nat.zero_le _, Nat.zero_le _⟩ dL_tells_90 (fun H locs hw => ?_)
      refine lv_iadd X.1 X.2.1 dL_tells_93 ?_
      refine lv_aload_n X.1 X.2.1 dL_tells_94 rfl (lv_at hl 5 rfl) ?_
      refine lv_iconst (v := 0) X.1 X.2.1 dL_tells_95 (by decide) ?_
      replace hz_50 := gd_e hz_50
      obtain ⟨g_67, hz_50⟩ := hz_50
      refine lV X hw g_67 dL_tells_96 ?_
      replace hz_50 := gd_e hz_50
      obtain ⟨g_68, hz_50⟩ := hz_50
      refine lv_irem X.1 X.2.1 dL_tells_97 g_68 ?_
      refine lv_topi (fun x_69 ex_69 => ?_)
      replace hz_50 := lt_e hz_50 ex_69
      refine lv_istore (lv' := [(8, .int x_69), (7, .int r_63), (6, .int r_60), (0, .ref (h 0)), (1, .ref (bb)), (2, .int x2), (3, .ref (h 79)), (4, .int r_2), (5, .int y_17)]) X.1 X.2.1 dL_tells_98 hl (by decide) rfl (fun ls hl => ?_)
      refine lv_aload_n X.1 X.2.1 dL_tells_100 rfl (lv_at hl 6 rfl) ?_
      refine lv_iconst (v := 4) X.1 X.2.1 dL_tells_101 (by decide) ?_
      refine lv_iload X.1 X.2.1 dL_tells_102 (lv_at hl 8 rfl) ?_
      refine lv_iadd X.1 X.2.1 dL_tells_104 ?_
      refine lv_iload X.1 X.2.1 dL_tells_105 (lv_at hl 1 rfl) ?_
      refine lv_iload X.1 X.2.1 dL_tells_107 (lv_at hl 0 rfl) ?_
      replace hz_50 := ob_e hz_50
      obtain ⟨j_71, hg_127, hz_50⟩ := hz_50
      have J_128 : ∀ (H : Heap) (locs : List Loc) (ls : Array Slot), Wd g 80 h (cW g h (b_18, w_19) v_20) s H locs → lv_has ls 9 [(0, .ref (h 0)), (1, .ref (bb)), (2, .int x2), (3, .ref (h 79)), (4, .int r_2), (5, .int y_17), (6, .int r_60), (7, .int r_63), (8, .int x_69)] → W p l e (rW 5 119) s m AV below meth c H locs 0 0 Q (F0 m 119 ls [.int j_71, .int ((4 : Int32) + y_17), .ref (h 79)]) := by
        intro H locs ls hw hl
        replace hz_50 := gd_e hz_50
        obtain ⟨g_72, hz_50⟩ := hz_50
        refine sV X hw g_72 dL_tells_119 (fun H locs hw => ?_)
        obtain ⟨v_73, ev_73⟩ : ∃ y, y = upd v_20 ((4 : Int32) + y_17).toNatClampNeg j_71 := ⟨_, rfl⟩
        rw [← ev_73] at hw
        replace hz_50 := lt_e hz_50 ev_73
        refine lv_aload_n X.1 X.2.1 dL_tells_120 rfl (lv_at hl 3 rfl) ?_
        refine lv_bipush (v := 14) X.1 X.2.1 dL_tells_121 (by decide) ?_
        refine lv_iload X.1 X.2.1 dL_tells_123 (lv_at hl 5 rfl) ?_
        refine lv_iadd X.1 X.2.1 dL_tells_125 ?_
        refine lv_iload X.1 X.2.1 dL_tells_126 (lv_at hl 7 rfl) ?_
        refine lv_iload X.1 X.2.1 dL_tells_128 (lv_at hl 8 rfl) ?_
        replace hz_50 := ob_e hz_50
        obtain ⟨j_75, hg_125, hz_50⟩ := hz_50
        have J_126 : ∀ (H : Heap) (locs : List Loc) (ls : Array Slot), Wd g 80 h (cW g h (b_18, w_19) v_73) s H locs → lv_has ls 9 [(0, .ref (h 0)), (1, .ref (bb)), (2, .int x2), (3, .ref (h 79)), (4, .int r_2), (5, .int y_17), (6, .int r_60), (7, .int r_63), (8, .int x_69)] → W p l e (rW 5 119) s m AV below meth c H locs 0 0 Q (F0 m 140 ls [.int j_75, .int ((14 : Int32) + y_17), .ref (h 79)]) := by
          intro H locs ls hw hl
          replace hz_50 := gd_e hz_50
          obtain ⟨g_76, hz_50⟩ := hz_50
          refine sV X hw g_76 dL_tells_140 (fun H locs hw => ?_)
          obtain ⟨v_77, ev_77⟩ : ∃ y, y = upd v_73 ((14 : Int32) + y_17).toNatClampNeg j_75 := ⟨_, rfl⟩
          rw [← ev_77] at hw
          replace hz_50 := lt_e hz_50 ev_77
          refine lv_aload_n X.1 X.2.1 dL_tells_141 rfl (lv_at hl 3 rfl) ?_
          refine lv_bipush (v := 34) X.1 X.2.1 dL_tells_142 (by decide) ?_
          refine lv_iload X.1 X.2.1 dL_tells_144 (lv_at hl 5 rfl) ?_
          refine lv_iadd X.1 X.2.1 dL_tells_146 ?_
          refine lv_iconst (v := 1) X.1 X.2.1 dL_tells_147 (by decide) ?_
          refine lv_iload X.1 X.2.1 dL_tells_148 (lv_at hl 6 rfl) ?_
          refine lv_bipush (v := 8) X.1 X.2.1 dL_tells_150 (by decide) ?_
          refine lv_ishr X.1 X.2.1 dL_tells_152 ?_
          refine lv_iload X.1 X.2.1 dL_tells_153 (lv_at hl 4 rfl) ?_
          refine lv_bipush (v := 8) X.1 X.2.1 dL_tells_155 (by decide) ?_
          refine lv_ishr X.1 X.2.1 dL_tells_157 ?_
          refine lv_iconst (v := 1) X.1 X.2.1 dL_tells_158 (by decide) ?_
          refine lv_iand X.1 X.2.1 dL_tells_159 ?_
          replace hz_50 := ob_e hz_50
          obtain ⟨j_79, hg_123, hz_50⟩ := hz_50
          have J_124 : ∀ (H : Heap) (locs : List Loc) (ls : Array Slot), Wd g 80 h (cW g h (b_18, w_19) v_77) s H locs → lv_has ls 9 [(0, .ref (h 0)), (1, .ref (bb)), (2, .int x2), (3, .ref (h 79)), (4, .int r_2), (5, .int y_17), (6, .int r_60), (7, .int r_63), (8, .int x_69)] → W p l e (rW 5 119) s m AV below meth c H locs 0 0 Q (F0 m 169 ls [.int j_79, .int (r_60 >>> ((8 : Int32) &&& 31)), .int (1 : Int32), .int ((34 : Int32) + y_17), .ref (h 79)]) := by
            intro H locs ls hw hl
            replace hz_50 := ob_e hz_50
            obtain ⟨r_81, h_80, hz_50⟩ := hz_50
            refine kE_Si (As := [.int (r_60 >>> ((8 : Int32) &&& 31)), .int j_79]) (n := 80) (c0 := cW g h (b_18, w_19) v_77) (c1 := cW g h (b_18, w_19) v_77) (cel' := cW g h (b_18, w_19) v_77) X hl.1 hw (c_L_up h_80) (Nat.le_refl _) (fun _ _ => rfl) (fun _ _ => rfl) (fun _ _ _ => rfl) ⟨wq_5_11, wq_5_12, wq_5_5, wq_5_13⟩ yo_L_up rfl ⟨Nat.le_of_ble_eq_true rfl, Nat.le_of_ble_eq_true rfl⟩ (Nat.le_of_ble_eq_true rfl) ⟨Nat.zero_le _, Nat.zero_le _⟩ dL_tells_169 (fun H locs hw => ?_)
            refine lv_iadd X.1 X.2.1 dL_tells_172 ?_
            replace hz_50 := gd_e hz_50
            obtain ⟨g_82, hz_50⟩ := hz_50
            refine sV X hw g_82 dL_tells_173 (fun H locs hw => ?_)
            obtain ⟨v_83, ev_83⟩ : ∃ y, y = upd v_77 ((34 : Int32) + y_17).toNatClampNeg (((1 : Int32) + r_81)) := ⟨_, rfl⟩
            rw [← ev_83] at hw
            replace hz_50 := lt_e hz_50 ev_83
            refine lv_aload_n X.1 X.2.1 dL_tells_174 rfl (lv_at hl 3 rfl) ?_
            refine lv_bipush (v := 24) X.1 X.2.1 dL_tells_175 (by decide) ?_
            refine lv_iload X.1 X.2.1 dL_tells_177 (lv_at hl 5 rfl) ?_
            refine lv_iadd X.1 X.2.1 dL_tells_179 ?_
            refine lv_iload X.1 X.2.1 dL_tells_180 (lv_at hl 6 rfl) ?_
            refine lv_bipush (v := 12) X.1 X.2.1 dL_tells_182 (by decide) ?_
            refine lv_ishr X.1 X.2.1 dL_tells_184 ?_
            refine lv_bipush (v := 7) X.1 X.2.1 dL_tells_185 (by decide) ?_
            refine lv_iand X.1 X.2.1 dL_tells_187 ?_
            replace hz_50 := ob_e hz_50
            obtain ⟨j_85, hg_114, hz_50⟩ := hz_50
            have J_115 : ∀ (H : Heap) (locs : List Loc) (ls : Array Slot), Wd g 80 h (cW g h (b_18, w_19) v_83) s H locs → lv_has ls 9 [(0, .ref (h 0)), (1, .ref (bb)), (2, .int x2), (3, .ref (h 79)), (4, .int r_2), (5, .int y_17), (6, .int r_60), (7, .int r_63), (8, .int x_69)] → W p l e (rW 5 119) s m AV below meth c H locs 0 0 Q (F0 m 234 ls [.int j_85, .int ((24 : Int32) + y_17), .ref (h 79)]) := by
              intro H locs ls hw hl
              replace hz_50 := gd_e hz_50
              obtain ⟨g_86, hz_50⟩ := hz_50
              refine sV X hw g_86 dL_tells_234 (fun H locs hw => ?_)
              obtain ⟨v_87, ev_87⟩ : ∃ y, y = upd v_83 ((24 : Int32) + y_17).toNatClampNeg j_85 := ⟨_, rfl⟩
              rw [← ev_87] at hw
              replace hz_50 := lt_e hz_50 ev_87
              refine lv_aload_n X.1 X.2.1 dL_tells_235 rfl (lv_at hl 3 rfl) ?_
              refine lv_bipush (v := 44) X.1 X.2.1 dL_tells_236 (by decide) ?_
              refine lv_iload X.1 X.2.1 dL_tells_238 (lv_at hl 5 rfl) ?_
              refine lv_iadd X.1 X.2.1 dL_tells_240 ?_
              refine lv_iload X.1 X.2.1 dL_tells_241 (lv_at hl 6 rfl) ?_
              refine lv_bipush (v := 20) X.1 X.2.1 dL_tells_243 (by decide) ?_
              refine lv_ishr X.1 X.2.1 dL_tells_245 ?_
              refine lv_bipush (v := 7) X.1 X.2.1 dL_tells_246 (by decide) ?_
              refine lv_iand X.1 X.2.1 dL_tells_248 ?_
              refine lv_iconst (v := 1) X.1 X.2.1 dL_tells_249 (by decide) ?_
              replace hz_50 := ob_e hz_50
              obtain ⟨j_89, hg_111, hz_50⟩ := hz_50
              have J_112 : ∀ (H : Heap) (locs : List Loc) (ls : Array Slot), Wd g 80 h (cW g h (b_18, w_19) v_87) s H locs → lv_has ls 9 [(0, .ref (h 0)), (1, .ref (bb)), (2, .int x2), (3, .ref (h 79)), (4, .int r_2), (5, .int y_17), (7, .int r_63), (8, .int x_69)] → W p l e (rW 5 119) s m AV below meth c H locs 0 0 Q (F0 m 267 ls [.int j_89, .int ((44 : Int32) + y_17), .ref (h 79)]) := by
                intro H locs ls hw hl
                replace hz_50 := gd_e hz_50
                obtain ⟨g_90, hz_50⟩ := hz_50
                refine sV X hw g_90 dL_tells_267 (fun H locs hw => ?_)
                obtain ⟨v_91, ev_91⟩ : ∃ y, y = upd v_87 ((44 : Int32) + y_17).toNatClampNeg j_89 := ⟨_, rfl⟩
                rw [← ev_91] at hw
                replace hz_50 := lt_e hz_50 ev_91
                refine lv_aload_n X.1 X.2.1 dL_tells_268 rfl (lv_at hl 0 rfl) ?_
                refine lv_iload X.1 X.2.1 dL_tells_269 (lv_at hl 6 rfl) ?_
                refine lv_iload X.1 X.2.1 dL_tells_271 (lv_at hl 7 rfl) ?_
                refine lv_aload_n X.1 X.2.1 dL_tells_273 rfl (lv_at hl 3 rfl) ?_
                refine lv_bipush (v := 24) X.1 X.2.1 dL_tells_274 (by decide) ?_
                refine lv_iload X.1 X.2.1 dL_tells_276 (lv_at hl 5 rfl) ?_
                refine lv_iadd X.1 X.2.1 dL_tells_278 ?_
                refine lv_topi (fun x_92 ex_92 => ?_)
                replace hz_50 := lt_e hz_50 ex_92
                replace hz_50 := gd_e hz_50
                obtain ⟨g_93, hz_50⟩ := hz_50
                refine lV X hw g_93 dL_tells_279 ?_
                refine lv_aload_n X.1 X.2.1 dL_tells_280 rfl (lv_at hl 3 rfl) ?_
                refine lv_bipush (v := 34) X.1 X.2.1 dL_tells_281 (by decide) ?_
                refine lv_iload X.1 X.2.1 dL_tells_283 (lv_at hl 5 rfl) ?_
                refine lv_iadd X.1 X.2.1 dL_tells_285 ?_
                refine lv_topi (fun x_94 ex_94 => ?_)
                replace hz_50 := lt_e hz_50 ex_94
                replace hz_50 := gd_e hz_50
                obtain ⟨g_95, hz_50⟩ := hz_50
                refine lV X hw g_95 dL_tells_286 ?_
                replace hz_50 := ob_e hz_50
                obtain ⟨⟨r_97, b_98⟩, h_96, hz_50⟩ := hz_50
                replace hz_50 := un_e hz_50
                refine kE_Vi (k := 0) (As := [.int r_63, .int x_69, .int (v_91 x_92.toNatClampNeg), .int (v_91 x_94.toNatClampNeg)]) (n := 79) (cel' := cW g h (b_98, w_19) v_91) X hl.1 hw (c_X9_link h_96) (by decide) (cW_0 g h _ _) (cW_0 g h _ _) (cW_2 g h _ _ _) (by decide) (he_X9 g h _ _) rfl ⟨wq_6_6, wq_6_7, wq_6_8, wq_1_2, wq_6_9⟩ yo_X9_link rfl ⟨Nat.le_of_ble_eq_true rfl, Nat.le_of_ble_eq_true rfl⟩ (Nat.le_of_ble_eq_true rfl) ⟨Nat.zero_le _, Nat.zero_le _⟩ dL_tells_287 (fun H locs hw => ?_)
                refine lv_iload X.1 X.2.1 dL_tells_290 (lv_at hl 5 rfl) ?_
                refine lv_icmp_ne (tgt := 311) X.1 X.2.1 dL_tells_292 (by decide) (fun c_100 => ?_) (fun c_100 => ?_)
                · replace hz_50 := it_n hz_50 c_100
                  refine lv_iconst (v := 0) X.1 X.2.1 dL_tells_311 (by decide) ?_
                  have he_56 := hx_52 _ (Option.some.inj hz_50).symm
                  subst he_56
                  replace hm := ex_r hm
                  obtain ⟨rfl, q_101⟩ := Prod.mk.inj (Option.some.inj hm)
                  obtain ⟨rfl, q_101'⟩ := Prod.mk.inj q_101
                  obtain ⟨rfl, rfl⟩ := Prod.mk.inj q_101'
                  exact hret _ _ _ _ hw dL_tells_312 (Or.inl rfl)
                · replace hz_50 := it_p hz_50 c_100
                  refine lv_aload_n X.1 X.2.1 dL_tells_295 rfl (lv_at hl 0 rfl) ?_
                  refine lv_iload X.1 X.2.1 dL_tells_296 (lv_at hl 5 rfl) ?_
                  refine lv_aload_n X.1 X.2.1 dL_tells_298 rfl (lv_at hl 3 rfl) ?_
                  refine lv_bipush (v := 44) X.1 X.2.1 dL_tells_299 (by decide) ?_
                  refine lv_iload X.1 X.2.1 dL_tells_301 (lv_at hl 5 rfl) ?_
                  refine lv_iadd X.1 X.2.1 dL_tells_303 ?_
                  refine lv_topi (fun x_102 ex_102 => ?_)
                  replace hz_50 := lt_e hz_50 ex_102
                  replace hz_50 := gd_e hz_50
                  obtain ⟨g_103, hz_50⟩ := hz_50
                  refine lV X hw g_103 dL_tells_304 ?_
                  replace hz_50 := ob_e hz_50
                  obtain ⟨⟨r_105, b_106⟩, h_104, hz_50⟩ := hz_50
                  replace hz_50 := un_e hz_50
                  refine kE_Vi (k := 0) (As := [.int y_17, .int (v_91 x_102.toNatClampNeg)]) (n := 79) (cel' := cW g h (b_106, w_19) v_91) X hl.1 hw (c_X9_see h_104) (by decide) (cW_0 g h _ _) (cW_0 g h _ _) (cW_2 g h _ _ _) (by decide) (he_X9 g h _ _) rfl ⟨wq_8_12, wq_8_13, wq_8_14, wq_1_2, wq_8_15⟩ yo_X9_see rfl ⟨Nat.le_of_ble_eq_true rfl, Nat.le_of_ble_eq_true rfl⟩ (Nat.le_of_ble_eq_true rfl) ⟨Nat.zero_le _, Nat.zero_le _⟩ dL_tells_305 (fun H locs hw => ?_)
                  refine lv_if_eq (tgt := 313) X.1 X.2.1 dL_tells_308 (by decide) (fun c_108 => ?_) (fun c_108 => ?_)
                  · replace hz_50 := it_p hz_50 c_108
                    obtain ⟨x_109, ex_109⟩ : ∃ y : Int32, y = y_17 + 1 := ⟨_, rfl⟩
                    replace hz_50 := lt_e hz_50 ex_109
                    refine lv_iinc (v := x_109) (lv' := [(5, .int x_109), (0, .ref (h 0)), (1, .ref (bb)), (2, .int x2), (3, .ref (h 79)), (4, .int r_2), (7, .int r_63), (8, .int x_69)]) X.1 X.2.1 dL_tells_313 hl (k := 5) rfl (by rw [ex_109]; rfl) (by decide) rfl (fun ls hl => ?_)
                    refine lv_goto (tgt := 47) X.1 X.2.1 dL_tells_316 (by decide) ?_
                    exact hn_51 _ (Option.some.inj hz_50).symm _ _ _ hw (lv_sub hl [1, 2, 3, 4, 5, 0] rfl)
                  · replace hz_50 := it_n hz_50 c_108
                    refine lv_iconst (v := 0) X.1 X.2.1 dL_tells_311 (by decide) ?_
                    have he_56 := hx_52 _ (Option.some.inj hz_50).symm
                    subst he_56
                    replace hm := ex_r hm
                    obtain ⟨rfl, q_110⟩ := Prod.mk.inj (Option.some.inj hm)
                    obtain ⟨rfl, q_110'⟩ := Prod.mk.inj q_110
                    obtain ⟨rfl, rfl⟩ := Prod.mk.inj q_110'
                    exact hret _ _ _ _ hw dL_tells_312 (Or.inl rfl)
              refine lv_icmp_le (tgt := 257) X.1 X.2.1 dL_tells_250 (by decide) (fun c_88 => ?_) (fun c_88 => ?_)
              · replace hg_111 := it_p hg_111 c_88
                refine lv_iconst (v := 1) X.1 X.2.1 dL_tells_257 (by decide) ?_
                refine lv_iload X.1 X.2.1 dL_tells_258 (lv_at hl 6 rfl) ?_
                refine lv_bipush (v := 20) X.1 X.2.1 dL_tells_260 (by decide) ?_
                refine lv_ishr X.1 X.2.1 dL_tells_262 ?_
                refine lv_bipush (v := 7) X.1 X.2.1 dL_tells_263 (by decide) ?_
                refine lv_iand X.1 X.2.1 dL_tells_265 ?_
                refine lv_iadd X.1 X.2.1 dL_tells_266 ?_
                refine lv_topi (fun x_113 ex_113 => ?_)
                replace hg_111 := lt_e hg_111 ex_113
                obtain rfl := Option.some.inj hg_111
                exact J_112 _ _ _ hw (lv_sub hl [0, 1, 2, 3, 4, 5, 7, 8] rfl)
              · replace hg_111 := it_n hg_111 c_88
                refine lv_iconst (v := 0) X.1 X.2.1 dL_tells_253 (by decide) ?_
                refine lv_goto (tgt := 267) X.1 X.2.1 dL_tells_254 (by decide) ?_
                obtain rfl := Option.some.inj hg_111
                exact J_112 _ _ _ hw (lv_sub hl [0, 1, 2, 3, 4, 5, 7, 8] rfl)
            refine lv_if_ne (tgt := 195) X.1 X.2.1 dL_tells_188 (by decide) (fun c_84 => ?_) (fun c_84 => ?_)
            · replace hg_114 := it_n hg_114 c_84
              refine lv_iload X.1 X.2.1 dL_tells_195 (lv_at hl 6 rfl) ?_
              refine lv_bipush (v := 12) X.1 X.2.1 dL_tells_197 (by decide) ?_
              refine lv_ishr X.1 X.2.1 dL_tells_199 ?_
              refine lv_bipush (v := 7) X.1 X.2.1 dL_tells_200 (by decide) ?_
              refine lv_iand X.1 X.2.1 dL_tells_202 ?_
              refine lv_iconst (v := 1) X.1 X.2.1 dL_tells_203 (by decide) ?_
              refine lv_icmp_ne (tgt := 217) X.1 X.2.1 dL_tells_204 (by decide) (fun c_116 => ?_) (fun c_116 => ?_)
              · replace hg_114 := it_n hg_114 c_116
                refine lv_iload X.1 X.2.1 dL_tells_217 (lv_at hl 6 rfl) ?_
                refine lv_bipush (v := 15) X.1 X.2.1 dL_tells_219 (by decide) ?_
                refine lv_ishr X.1 X.2.1 dL_tells_221 ?_
                refine lv_aload_n X.1 X.2.1 dL_tells_222 rfl (lv_at hl 3 rfl) ?_
                refine lv_bipush (v := 34) X.1 X.2.1 dL_tells_223 (by decide) ?_
                refine lv_iload X.1 X.2.1 dL_tells_225 (lv_at hl 5 rfl) ?_
                refine lv_iadd X.1 X.2.1 dL_tells_227 ?_
                refine lv_topi (fun x_117 ex_117 => ?_)
                replace hg_114 := lt_e hg_114 ex_117
                replace hg_114 := gd_e hg_114
                obtain ⟨g_118, hg_114⟩ := hg_114
                refine lV X hw g_118 dL_tells_228 ?_
                refine lv_iconst (v := 1) X.1 X.2.1 dL_tells_229 (by decide) ?_
                refine lv_iadd X.1 X.2.1 dL_tells_230 ?_
                replace hg_114 := ob_e hg_114
                obtain ⟨r_120, h_119, hg_114⟩ := hg_114
                refine kE_Si (As := [.int (r_60 >>> ((15 : Int32) &&& 31)), .int ((v_83 x_117.toNatClampNeg) + (1 : Int32))]) (n := 80) (c0 := cW g h (b_18, w_19) v_83) (c1 := cW g h (b_18, w_19) v_83) (cel' := cW g h (b_18, w_19) v_83) X hl.1 hw (c_L_up h_119) (Nat.le_refl _) (fun _ _ => rfl) (fun _ _ => rfl) (fun _ _ _ => rfl) ⟨wq_5_11, wq_5_12, wq_5_5, wq_5_13⟩ yo_L_up rfl ⟨Nat.le_of_ble_eq_true rfl, Nat.le_of_ble_eq_true rfl⟩ (Nat.le_of_ble_eq_true rfl) ⟨Nat.zero_le _, Nat.zero_le _⟩ dL_tells_231 (fun H locs hw => ?_)
                obtain rfl := Option.some.inj hg_114
                exact J_115 _ _ _ hw (lv_sub hl [0, 1, 2, 3, 4, 5, 6, 7, 8] rfl)
              · replace hg_114 := it_p hg_114 c_116
                refine lv_aload_n X.1 X.2.1 dL_tells_207 rfl (lv_at hl 3 rfl) ?_
                refine lv_bipush (v := 34) X.1 X.2.1 dL_tells_208 (by decide) ?_
                refine lv_iload X.1 X.2.1 dL_tells_210 (lv_at hl 5 rfl) ?_
                refine lv_iadd X.1 X.2.1 dL_tells_212 ?_
                refine lv_topi (fun x_121 ex_121 => ?_)
                replace hg_114 := lt_e hg_114 ex_121
                replace hg_114 := gd_e hg_114
                obtain ⟨g_122, hg_114⟩ := hg_114
                refine lV X hw g_122 dL_tells_213 ?_
                refine lv_goto (tgt := 234) X.1 X.2.1 dL_tells_214 (by decide) ?_
                obtain rfl := Option.some.inj hg_114
                exact J_115 _ _ _ hw (lv_sub hl [0, 1, 2, 3, 4, 5, 6, 7, 8] rfl)
            · replace hg_114 := it_p hg_114 c_84
              refine lv_iconst (v := 0) X.1 X.2.1 dL_tells_191 (by decide) ?_
              refine lv_goto (tgt := 234) X.1 X.2.1 dL_tells_192 (by decide) ?_
              obtain rfl := Option.some.inj hg_114
              exact J_115 _ _ _ hw (lv_sub hl [0, 1, 2, 3, 4, 5, 6, 7, 8] rfl)
          refine lv_if_ne (tgt := 167) X.1 X.2.1 dL_tells_160 (by decide) (fun c_78 => ?_) (fun c_78 => ?_)
          · replace hg_123 := it_n hg_123 c_78
            refine lv_bipush (v := 9) X.1 X.2.1 dL_tells_167 (by decide) ?_
            obtain rfl := Option.some.inj hg_123
            exact J_124 _ _ _ hw (lv_sub hl [0, 1, 2, 3, 4, 5, 6, 7, 8] rfl)
          · replace hg_123 := it_p hg_123 c_78
            refine lv_iconst (v := 4) X.1 X.2.1 dL_tells_163 (by decide) ?_
            refine lv_goto (tgt := 169) X.1 X.2.1 dL_tells_164 (by decide) ?_
            obtain rfl := Option.some.inj hg_123
            exact J_124 _ _ _ hw (lv_sub hl [0, 1, 2, 3, 4, 5, 6, 7, 8] rfl)
        refine lv_icmp_ge (tgt := 138) X.1 X.2.1 dL_tells_130 (by decide) (fun c_74 => ?_) (fun c_74 => ?_)
        · replace hg_125 := it_p hg_125 c_74
          refine lv_iload X.1 X.2.1 dL_tells_138 (lv_at hl 7 rfl) ?_
          obtain rfl := Option.some.inj hg_125
          exact J_126 _ _ _ hw (lv_sub hl [0, 1, 2, 3, 4, 5, 6, 7, 8] rfl)
        · replace hg_125 := it_n hg_125 c_74
          refine lv_iload X.1 X.2.1 dL_tells_133 (lv_at hl 8 rfl) ?_
          refine lv_goto (tgt := 140) X.1 X.2.1 dL_tells_135 (by decide) ?_
          obtain rfl := Option.some.inj hg_125
          exact J_126 _ _ _ hw (lv_sub hl [0, 1, 2, 3, 4, 5, 6, 7, 8] rfl)
      refine lv_icmp_ge (tgt := 117) X.1 X.2.1 dL_tells_109 (by decide) (fun c_70 => ?_) (fun c_70 => ?_)
      · replace hg_127 := it_p hg_127 c_70
        refine lv_iload X.1 X.2.1 dL_tells_117 (lv_at hl 0 rfl) ?_
        obtain rfl := Option.some.inj hg_127
        exact J_128 _ _ _ hw (lv_sub hl [3, 4, 5, 6, 7, 8, 2, 1, 0] rfl)
      · replace hg_127 := it_n hg_127 c_70
        refine lv_iload X.1 X.2.1 dL_tells_112 (lv_at hl 1 rfl) ?_
        refine lv_goto (tgt := 119) X.1 X.2.1 dL_tells_114 (by decide) ?_
        obtain rfl := Option.some.inj hg_127
        exact J_128 _ _ _ hw (lv_sub hl [3, 4, 5, 6, 7, 8, 2, 1, 0] rfl)
  · replace hm := it_n hm c_16
    refine lv_iconst (v := 0) X.1 X.2.1 dL_tells_42 (by decide) ?_
    obtain ⟨rfl, q_134⟩ := Prod.mk.inj (Option.some.inj hm)
    obtain ⟨rfl, q_134'⟩ := Prod.mk.inj q_134
    obtain ⟨rfl, rfl⟩ := Prod.mk.inj q_134'
    exact hret _ _ _ _ hw dL_tells_43 (Or.inl rfl)
