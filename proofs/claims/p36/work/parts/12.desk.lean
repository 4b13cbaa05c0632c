def m_X9_stations (b : ST) (x1 : Int32) : Option (Int32 × ST) := if x1 < (2 : Int32) then some ((-2 : Int32), b) else if x1 ≤ (7 : Int32) then Option.bind (m_X2_stationCount b) (fun (r_5 : Int32) => Option.bind (m_X2_renew b x1) (fun (b_7 : ST) => some (r_5, b_7))) else some ((-2 : Int32), b)
theorem yo_X9_stations : yX9_stations.cls = RX9 ∧ yX9_stations.cls ≠ "java/lang/invoke/MethodHandle" ∧ yX9_stations.cls ≠ "java/lang/invoke/VarHandle" ∧ (parseMethodDescriptor yX9_stations.desc).map (fun d => d.parameters.length) = some 1 := by decide +kernel
set_option maxHeartbeats 4000000 in
set_option maxRecDepth 100000 in
theorem c_X9_stations {l : Launch} {g : gT} {h : Nat → Nat} {b : ST} {w : Nat → ST} {x1 : Int32} {r : Int32} {b' : ST} (hm : m_X9_stations b x1 = some (r, b')) : MetI l g yX9_stations cX9_stations 3 (some .int) 1 21 79 h (cC g h (b, w)) (cC g h (b', w)) [.ref (h 0), .int x1] r := by
  refine MetI.ofX (by decide +kernel) (Nat.le_of_ble_eq_true rfl) ?_
  intro p e s m below meth c AV Q X hret ls hw hl
  replace X : Cx g p s m AV c cX9_stations RX9 3 := X
  replace hl : lv_has ls 3 [(0, .ref (h 0)), (1, .int x1)] := hl
  unfold m_X9_stations at hm
  refine lv_iload_n X.1 X.2.1 dX9_stations_0 rfl (lv_at hl 1 rfl) ?_
  refine lv_iconst (v := 2) X.1 X.2.1 dX9_stations_1 (by decide) ?_
  refine lv_icmp_lt (tgt := 11) X.1 X.2.1 dX9_stations_2 (by decide) (fun c_1 => ?_) (fun c_1 => ?_)
  · replace hm := it_p hm c_1
    refine lv_bipush (v := -2) X.1 X.2.1 dX9_stations_11 (by decide) ?_
    obtain ⟨rfl, rfl⟩ := Prod.mk.inj (Option.some.inj hm)
    exact hret _ _ _ _ hw dX9_stations_13
  · replace hm := it_n hm c_1
    refine lv_iload_n X.1 X.2.1 dX9_stations_5 rfl (lv_at hl 1 rfl) ?_
    refine lv_bipush (v := 7) X.1 X.2.1 dX9_stations_6 (by decide) ?_
    refine lv_icmp_le (tgt := 14) X.1 X.2.1 dX9_stations_8 (by decide) (fun c_3 => ?_) (fun c_3 => ?_)
    · replace hm := it_p hm c_3
      refine lv_aload_n X.1 X.2.1 dX9_stations_14 rfl (lv_at hl 0 rfl) ?_
      refine gX9_net X hw wq_1_14 dX9_stations_15 ?_
      replace hm := ob_e hm
      obtain ⟨r_5, h_4, hm⟩ := hm
      refine k_Vi (k := 1) (As := []) X hl.1 hw (c_X2_stationCount h_4) (by decide) (he_X2 g h _ _) rfl ⟨wq_5_19, wq_5_20, wq_5_21, wq_1_13, wq_5_22⟩ yo_X2_stationCount rfl ⟨Nat.le_of_ble_eq_true rfl, Nat.le_of_ble_eq_true rfl⟩ (Nat.le_of_ble_eq_true rfl) dX9_stations_18 (fun H locs hw => ?_)
      refine lv_istore_n (lv' := [(2, .int r_5), (0, .ref (h 0)), (1, .int x1)]) X.1 X.2.1 dX9_stations_21 rfl hl (by decide) rfl (fun ls hl => ?_)
      refine lv_aload_n X.1 X.2.1 dX9_stations_22 rfl (lv_at hl 1 rfl) ?_
      refine gX9_net X hw wq_1_14 dX9_stations_23 ?_
      refine lv_iload_n X.1 X.2.1 dX9_stations_26 rfl (lv_at hl 2 rfl) ?_
      replace hm := ob_e hm
      obtain ⟨b_7, h_6, hm⟩ := hm
      refine k_Vv (k := 1) (As := [.int x1]) X hl.1 hw (c_X2_renew h_6) (by decide) (he_X2 g h _ _) rfl ⟨wq_5_23, wq_6_0, wq_6_1, wq_1_13, wq_6_2⟩ yo_X2_renew rfl ⟨Nat.le_of_ble_eq_true rfl, Nat.le_of_ble_eq_true rfl⟩ (Nat.le_of_ble_eq_true rfl) dX9_stations_27 (fun H locs hw => ?_)
      refine lv_iload_n X.1 X.2.1 dX9_stations_30 rfl (lv_at hl 0 rfl) ?_
      obtain ⟨rfl, rfl⟩ := Prod.mk.inj (Option.some.inj hm)
      exact hret _ _ _ _ hw dX9_stations_31
    · replace hm := it_n hm c_3
      refine lv_bipush (v := -2) X.1 X.2.1 dX9_stations_11 (by decide) ?_
      obtain ⟨rfl, rfl⟩ := Prod.mk.inj (Option.some.inj hm)
      exact hret _ _ _ _ hw dX9_stations_13
def m_X9_link (b : ST) (x1 : Int32) (x2 : Int32) (x3 : Int32) (x4 : Int32) : Option (Int32 × ST) := Option.bind (m_X2_mayLink b (x1.toInt64) (x2.toInt64) (x3.toInt64) (x4.toInt64)) (fun (r_2 : Int32) => if r_2 = 0 then some ((-2 : Int32), b) else Option.bind (m_X2_hasRoom b) (fun (r_5 : Int32) => if r_5 = 0 then some ((-4 : Int32), b) else Option.bind (m_X2_addLink b x1 x2 x3 x4) (fun (q_10 : Int32 × ST) => un q_10 (fun r_8 b_9 => some (r_8, b_9)))))
theorem yo_X9_link : yX9_link.cls = RX9 ∧ yX9_link.cls ≠ "java/lang/invoke/MethodHandle" ∧ yX9_link.cls ≠ "java/lang/invoke/VarHandle" ∧ (parseMethodDescriptor yX9_link.desc).map (fun d => d.parameters.length) = some 4 := by decide +kernel
set_option maxHeartbeats 4000000 in
set_option maxRecDepth 100000 in
theorem c_X9_link {l : Launch} {g : gT} {h : Nat → Nat} {b : ST} {w : Nat → ST} {x1 : Int32} {x2 : Int32} {x3 : Int32} {x4 : Int32} {r : Int32} {b' : ST} (hm : m_X9_link b x1 x2 x3 x4 = some (r, b')) : MetI l g yX9_link cX9_link 5 (some .int) 4 95 79 h (cC g h (b, w)) (cC g h (b', w)) [.ref (h 0), .int x1, .int x2, .int x3, .int x4] r := by
  refine MetI.ofX (by decide +kernel) (Nat.le_of_ble_eq_true rfl) ?_
  intro p e s m below meth c AV Q X hret ls hw hl
  replace X : Cx g p s m AV c cX9_link RX9 5 := X
  replace hl : lv_has ls 5 [(0, .ref (h 0)), (1, .int x1), (2, .int x2), (3, .int x3), (4, .int x4)] := hl
  unfold m_X9_link at hm
  refine lv_aload_n X.1 X.2.1 dX9_link_0 rfl (lv_at hl 0 rfl) ?_
  refine gX9_net X hw wq_1_14 dX9_link_1 ?_
  refine lv_iload_n X.1 X.2.1 dX9_link_4 rfl (lv_at hl 1 rfl) ?_
  refine lv_i2l X.1 X.2.1 dX9_link_5 rfl ?_
  refine lv_iload_n X.1 X.2.1 dX9_link_6 rfl (lv_at hl 2 rfl) ?_
  refine lv_i2l X.1 X.2.1 dX9_link_7 rfl ?_
  refine lv_iload_n X.1 X.2.1 dX9_link_8 rfl (lv_at hl 3 rfl) ?_
  refine lv_i2l X.1 X.2.1 dX9_link_9 rfl ?_
  refine lv_iload X.1 X.2.1 dX9_link_10 (lv_at hl 4 rfl) ?_
  refine lv_i2l X.1 X.2.1 dX9_link_12 rfl ?_
  replace hm := ob_e hm
  obtain ⟨r_2, h_1, hm⟩ := hm
  refine k_Vi (k := 1) (As := [.long x1.toInt64, .long x2.toInt64, .long x3.toInt64, .long x4.toInt64]) X hl.1 hw (c_X2_mayLink h_1) (by decide) (he_X2 g h _ _) rfl ⟨wq_6_10, wq_6_11, wq_6_12, wq_1_13, wq_6_13⟩ yo_X2_mayLink rfl ⟨Nat.le_of_ble_eq_true rfl, Nat.le_of_ble_eq_true rfl⟩ (Nat.le_of_ble_eq_true rfl) dX9_link_13 (fun H locs hw => ?_)
  refine lv_if_ne (tgt := 22) X.1 X.2.1 dX9_link_16 (by decide) (fun c_3 => ?_) (fun c_3 => ?_)
  · replace hm := it_n hm c_3
    refine lv_aload_n X.1 X.2.1 dX9_link_22 rfl (lv_at hl 0 rfl) ?_
    refine gX9_net X hw wq_1_14 dX9_link_23 ?_
    replace hm := ob_e hm
    obtain ⟨r_5, h_4, hm⟩ := hm
    refine k_Vi (k := 1) (As := []) X hl.1 hw (c_X2_hasRoom h_4) (by decide) (he_X2 g h _ _) rfl ⟨wq_6_23, wq_7_0, wq_7_1, wq_1_13, wq_7_2⟩ yo_X2_hasRoom rfl ⟨Nat.le_of_ble_eq_true rfl, Nat.le_of_ble_eq_true rfl⟩ (Nat.le_of_ble_eq_true rfl) dX9_link_26 (fun H locs hw => ?_)
    refine lv_if_ne (tgt := 35) X.1 X.2.1 dX9_link_29 (by decide) (fun c_6 => ?_) (fun c_6 => ?_)
    · replace hm := it_n hm c_6
      refine lv_aload_n X.1 X.2.1 dX9_link_35 rfl (lv_at hl 0 rfl) ?_
      refine gX9_net X hw wq_1_14 dX9_link_36 ?_
      refine lv_iload_n X.1 X.2.1 dX9_link_39 rfl (lv_at hl 1 rfl) ?_
      refine lv_iload_n X.1 X.2.1 dX9_link_40 rfl (lv_at hl 2 rfl) ?_
      refine lv_iload_n X.1 X.2.1 dX9_link_41 rfl (lv_at hl 3 rfl) ?_
      refine lv_iload X.1 X.2.1 dX9_link_42 (lv_at hl 4 rfl) ?_
      replace hm := ob_e hm
      obtain ⟨⟨r_8, b_9⟩, h_7, hm⟩ := hm
      replace hm := un_e hm
      refine k_Vi (k := 1) (As := [.int x1, .int x2, .int x3, .int x4]) X hl.1 hw (c_X2_addLink h_7) (by decide) (he_X2 g h _ _) rfl ⟨wq_7_3, wq_7_4, wq_7_5, wq_1_13, wq_7_6⟩ yo_X2_addLink rfl ⟨Nat.le_of_ble_eq_true rfl, Nat.le_of_ble_eq_true rfl⟩ (Nat.le_of_ble_eq_true rfl) dX9_link_44 (fun H locs hw => ?_)
      obtain ⟨rfl, rfl⟩ := Prod.mk.inj (Option.some.inj hm)
      exact hret _ _ _ _ hw dX9_link_47
    · replace hm := it_p hm c_6
      refine lv_bipush (v := -4) X.1 X.2.1 dX9_link_32 (by decide) ?_
      obtain ⟨rfl, rfl⟩ := Prod.mk.inj (Option.some.inj hm)
      exact hret _ _ _ _ hw dX9_link_34
  · replace hm := it_p hm c_3
    refine lv_bipush (v := -2) X.1 X.2.1 dX9_link_19 (by decide) ?_
    obtain ⟨rfl, rfl⟩ := Prod.mk.inj (Option.some.inj hm)
    exact hret _ _ _ _ hw dX9_link_21
def m_X9_back (b : ST) : Option (Int32 × ST) := Option.bind (m_X2_linkCount b) (fun (r_2 : Int32) => if r_2 = 0 then some ((-3 : Int32), b) else Option.bind (m_X2_dropLast b) (fun (q_7 : Int32 × ST) => un q_7 (fun r_5 b_6 => some (r_5, b_6))))
theorem yo_X9_back : yX9_back.cls = RX9 ∧ yX9_back.cls ≠ "java/lang/invoke/MethodHandle" ∧ yX9_back.cls ≠ "java/lang/invoke/VarHandle" ∧ (parseMethodDescriptor yX9_back.desc).map (fun d => d.parameters.length) = some 0 := by decide +kernel
set_option maxHeartbeats 4000000 in
set_option maxRecDepth 100000 in
theorem c_X9_back {l : Launch} {g : gT} {h : Nat → Nat} {b : ST} {w : Nat → ST} {r : Int32} {b' : ST} (hm : m_X9_back b = some (r, b')) : MetI l g yX9_back cX9_back 1 (some .int) 1 20 79 h (cC g h (b, w)) (cC g h (b', w)) [.ref (h 0)] r := by
  refine MetI.ofX (by decide +kernel) (Nat.le_of_ble_eq_true rfl) ?_
  intro p e s m below meth c AV Q X hret ls hw hl
  replace X : Cx g p s m AV c cX9_back RX9 1 := X
  replace hl : lv_has ls 1 [(0, .ref (h 0))] := hl
  unfold m_X9_back at hm
  refine lv_aload_n X.1 X.2.1 dX9_back_0 rfl (lv_at hl 0 rfl) ?_
  refine gX9_net X hw wq_1_14 dX9_back_1 ?_
  replace hm := ob_e hm
  obtain ⟨r_2, h_1, hm⟩ := hm
  refine k_Vi (k := 1) (As := []) X hl.1 hw (c_X2_linkCount h_1) (by decide) (he_X2 g h _ _) rfl ⟨wq_10_10, wq_10_11, wq_10_12, wq_1_13, wq_10_13⟩ yo_X2_linkCount rfl ⟨Nat.le_of_ble_eq_true rfl, Nat.le_of_ble_eq_true rfl⟩ (Nat.le_of_ble_eq_true rfl) dX9_back_4 (fun H locs hw => ?_)
  refine lv_if_ne (tgt := 13) X.1 X.2.1 dX9_back_7 (by decide) (fun c_3 => ?_) (fun c_3 => ?_)
  · replace hm := it_n hm c_3
    refine lv_aload_n X.1 X.2.1 dX9_back_13 rfl (lv_at hl 0 rfl) ?_
    refine gX9_net X hw wq_1_14 dX9_back_14 ?_
    replace hm := ob_e hm
    obtain ⟨⟨r_5, b_6⟩, h_4, hm⟩ := hm
    replace hm := un_e hm
    refine k_Vi (k := 1) (As := []) X hl.1 hw (c_X2_dropLast h_4) (by decide) (he_X2 g h _ _) rfl ⟨wq_27_13, wq_27_14, wq_27_15, wq_1_13, wq_27_16⟩ yo_X2_dropLast rfl ⟨Nat.le_of_ble_eq_true rfl, Nat.le_of_ble_eq_true rfl⟩ (Nat.le_of_ble_eq_true rfl) dX9_back_17 (fun H locs hw => ?_)
    obtain ⟨rfl, rfl⟩ := Prod.mk.inj (Option.some.inj hm)
    exact hret _ _ _ _ hw dX9_back_20
  · replace hm := it_p hm c_3
    refine lv_bipush (v := -3) X.1 X.2.1 dX9_back_10 (by decide) ?_
    obtain ⟨rfl, rfl⟩ := Prod.mk.inj (Option.some.inj hm)
    exact hret _ _ _ _ hw dX9_back_12
def m_X9_chance (b : ST) (x1 : Int32) (x2 : Int32) (x3 : Int32) : Option (Int32 × ST) := Option.bind (m_X2_hasLink b x1) (fun (r_2 : Int32) => if r_2 = 0 then some ((-2 : Int32), b) else Option.bind (m_X1_isChance (x2.toInt64) (x3.toInt64)) (fun (r_6 : Int32) => if r_6 = 0 then some ((-2 : Int32), b) else Option.bind (m_X2_aboveOf b x1) (fun (r_9 : Int32) => Option.bind (m_X2_belowOf b x1) (fun (r_11 : Int32) => lt (((10 : Int32) * r_9) + r_11) (fun x_12 => Option.bind (m_X2_setChance b x1 x2 x3) (fun (b_14 : ST) => some (x_12, b_14)))))))
theorem yo_X9_chance : yX9_chance.cls = RX9 ∧ yX9_chance.cls ≠ "java/lang/invoke/MethodHandle" ∧ yX9_chance.cls ≠ "java/lang/invoke/VarHandle" ∧ (parseMethodDescriptor yX9_chance.desc).map (fun d => d.parameters.length) = some 3 := by decide +kernel
set_option maxHeartbeats 4000000 in
set_option maxRecDepth 100000 in
theorem c_X9_chance {l : Launch} {g : gT} {h : Nat → Nat} {b : ST} {w : Nat → ST} {x1 : Int32} {x2 : Int32} {x3 : Int32} {r : Int32} {b' : ST} (hm : m_X9_chance b x1 x2 x3 = some (r, b')) : MetI l g yX9_chance cX9_chance 5 (some .int) 2 44 79 h (cC g h (b, w)) (cC g h (b', w)) [.ref (h 0), .int x1, .int x2, .int x3] r := by
  refine MetI.ofX (by decide +kernel) (Nat.le_of_ble_eq_true rfl) ?_
  intro p e s m below meth c AV Q X hret ls hw hl
  replace X : Cx g p s m AV c cX9_chance RX9 5 := X
  replace hl : lv_has ls 5 [(0, .ref (h 0)), (1, .int x1), (2, .int x2), (3, .int x3)] := hl
  unfold m_X9_chance at hm
  refine lv_aload_n X.1 X.2.1 dX9_chance_0 rfl (lv_at hl 0 rfl) ?_
  refine gX9_net X hw wq_1_14 dX9_chance_1 ?_
  refine lv_iload_n X.1 X.2.1 dX9_chance_4 rfl (lv_at hl 1 rfl) ?_
  replace hm := ob_e hm
  obtain ⟨r_2, h_1, hm⟩ := hm
  refine k_Vi (k := 1) (As := [.int x1]) X hl.1 hw (c_X2_hasLink h_1) (by decide) (he_X2 g h _ _) rfl ⟨wq_8_16, wq_7_23, wq_8_0, wq_1_13, wq_8_1⟩ yo_X2_hasLink rfl ⟨Nat.le_of_ble_eq_true rfl, Nat.le_of_ble_eq_true rfl⟩ (Nat.le_of_ble_eq_true rfl) dX9_chance_5 (fun H locs hw => ?_)
  refine lv_if_eq (tgt := 21) X.1 X.2.1 dX9_chance_8 (by decide) (fun c_3 => ?_) (fun c_3 => ?_)
  · replace hm := it_p hm c_3
    refine lv_bipush (v := -2) X.1 X.2.1 dX9_chance_21 (by decide) ?_
    obtain ⟨rfl, rfl⟩ := Prod.mk.inj (Option.some.inj hm)
    exact hret _ _ _ _ hw dX9_chance_23
  · replace hm := it_n hm c_3
    refine lv_iload_n X.1 X.2.1 dX9_chance_11 rfl (lv_at hl 2 rfl) ?_
    refine lv_i2l X.1 X.2.1 dX9_chance_12 rfl ?_
    refine lv_iload_n X.1 X.2.1 dX9_chance_13 rfl (lv_at hl 3 rfl) ?_
    refine lv_i2l X.1 X.2.1 dX9_chance_14 rfl ?_
    replace hm := ob_e hm
    obtain ⟨r_6, h_5, hm⟩ := hm
    refine k_Si (As := [.long x2.toInt64, .long x3.toInt64]) X hl.1 hw (c_X1_isChance h_5) ⟨wq_21_18, wq_6_19, wq_6_20, wq_6_21⟩ yo_X1_isChance rfl ⟨Nat.le_of_ble_eq_true rfl, Nat.le_of_ble_eq_true rfl⟩ (Nat.le_of_ble_eq_true rfl) dX9_chance_15 (fun H locs hw => ?_)
    refine lv_if_ne (tgt := 24) X.1 X.2.1 dX9_chance_18 (by decide) (fun c_7 => ?_) (fun c_7 => ?_)
    · replace hm := it_n hm c_7
      refine lv_bipush (v := 10) X.1 X.2.1 dX9_chance_24 (by decide) ?_
      refine lv_aload_n X.1 X.2.1 dX9_chance_26 rfl (lv_at hl 0 rfl) ?_
      refine gX9_net X hw wq_1_14 dX9_chance_27 ?_
      refine lv_iload_n X.1 X.2.1 dX9_chance_30 rfl (lv_at hl 1 rfl) ?_
      replace hm := ob_e hm
      obtain ⟨r_9, h_8, hm⟩ := hm
      refine k_Vi (k := 1) (As := [.int x1]) X hl.1 hw (c_X2_aboveOf h_8) (by decide) (he_X2 g h _ _) rfl ⟨wq_20_13, wq_13_10, wq_13_11, wq_1_13, wq_13_12⟩ yo_X2_aboveOf rfl ⟨Nat.le_of_ble_eq_true rfl, Nat.le_of_ble_eq_true rfl⟩ (Nat.le_of_ble_eq_true rfl) dX9_chance_31 (fun H locs hw => ?_)
      refine lv_imul X.1 X.2.1 dX9_chance_34 ?_
      refine lv_aload_n X.1 X.2.1 dX9_chance_35 rfl (lv_at hl 0 rfl) ?_
      refine gX9_net X hw wq_1_14 dX9_chance_36 ?_
      refine lv_iload_n X.1 X.2.1 dX9_chance_39 rfl (lv_at hl 1 rfl) ?_
      replace hm := ob_e hm
      obtain ⟨r_11, h_10, hm⟩ := hm
      refine k_Vi (k := 1) (As := [.int x1]) X hl.1 hw (c_X2_belowOf h_10) (by decide) (he_X2 g h _ _) rfl ⟨wq_20_14, wq_13_18, wq_13_19, wq_1_13, wq_13_20⟩ yo_X2_belowOf rfl ⟨Nat.le_of_ble_eq_true rfl, Nat.le_of_ble_eq_true rfl⟩ (Nat.le_of_ble_eq_true rfl) dX9_chance_40 (fun H locs hw => ?_)
      refine lv_iadd X.1 X.2.1 dX9_chance_43 ?_
      refine lv_topi (fun x_12 ex_12 => ?_)
      replace hm := lt_e hm ex_12
      refine lv_istore (lv' := [(4, .int x_12), (0, .ref (h 0)), (1, .int x1), (2, .int x2), (3, .int x3)]) X.1 X.2.1 dX9_chance_44 hl (by decide) rfl (fun ls hl => ?_)
      refine lv_aload_n X.1 X.2.1 dX9_chance_46 rfl (lv_at hl 1 rfl) ?_
      refine gX9_net X hw wq_1_14 dX9_chance_47 ?_
      refine lv_iload_n X.1 X.2.1 dX9_chance_50 rfl (lv_at hl 2 rfl) ?_
      refine lv_iload_n X.1 X.2.1 dX9_chance_51 rfl (lv_at hl 3 rfl) ?_
      refine lv_iload_n X.1 X.2.1 dX9_chance_52 rfl (lv_at hl 4 rfl) ?_
      replace hm := ob_e hm
      obtain ⟨b_14, h_13, hm⟩ := hm
      refine k_Vv (k := 1) (As := [.int x1, .int x2, .int x3]) X hl.1 hw (c_X2_setChance h_13) (by decide) (he_X2 g h _ _) rfl ⟨wq_26_4, wq_26_5, wq_26_6, wq_1_13, wq_26_7⟩ yo_X2_setChance rfl ⟨Nat.le_of_ble_eq_true rfl, Nat.le_of_ble_eq_true rfl⟩ (Nat.le_of_ble_eq_true rfl) dX9_chance_53 (fun H locs hw => ?_)
      refine lv_iload X.1 X.2.1 dX9_chance_56 (lv_at hl 0 rfl) ?_
      obtain ⟨rfl, rfl⟩ := Prod.mk.inj (Option.some.inj hm)
      exact hret _ _ _ _ hw dX9_chance_58
    · replace hm := it_p hm c_7
      refine lv_bipush (v := -2) X.1 X.2.1 dX9_chance_21 (by decide) ?_
      obtain ⟨rfl, rfl⟩ := Prod.mk.inj (Option.some.inj hm)
      exact hret _ _ _ _ hw dX9_chance_23
def m_X9_see (b : ST) (x1 : Int32) (x2 : Int32) : Option (Int32 × ST) := Option.bind (m_X2_hasLink b x1) (fun (r_2 : Int32) => if r_2 = 0 then some ((-2 : Int32), b) else if x2 < 0 then some ((-2 : Int32), b) else if x2 ≤ (2 : Int32) then Option.bind (m_X2_seenOf b x1) (fun (r_9 : Int32) => Option.bind (m_X2_setSeen b x1 x2) (fun (b_11 : ST) => some (r_9, b_11))) else some ((-2 : Int32), b))
theorem yo_X9_see : yX9_see.cls = RX9 ∧ yX9_see.cls ≠ "java/lang/invoke/MethodHandle" ∧ yX9_see.cls ≠ "java/lang/invoke/VarHandle" ∧ (parseMethodDescriptor yX9_see.desc).map (fun d => d.parameters.length) = some 2 := by decide +kernel
set_option maxHeartbeats 4000000 in
set_option maxRecDepth 100000 in
theorem c_X9_see {l : Launch} {g : gT} {h : Nat → Nat} {b : ST} {w : Nat → ST} {x1 : Int32} {x2 : Int32} {r : Int32} {b' : ST} (hm : m_X9_see b x1 x2 = some (r, b')) : MetI l g yX9_see cX9_see 4 (some .int) 2 43 79 h (cC g h (b, w)) (cC g h (b', w)) [.ref (h 0), .int x1, .int x2] r := by
  refine MetI.ofX (by decide +kernel) (Nat.le_of_ble_eq_true rfl) ?_
  intro p e s m below meth c AV Q X hret ls hw hl
  replace X : Cx g p s m AV c cX9_see RX9 4 := X
  replace hl : lv_has ls 4 [(0, .ref (h 0)), (1, .int x1), (2, .int x2)] := hl
  unfold m_X9_see at hm
  refine lv_aload_n X.1 X.2.1 dX9_see_0 rfl (lv_at hl 0 rfl) ?_
  refine gX9_net X hw wq_1_14 dX9_see_1 ?_
  refine lv_iload_n X.1 X.2.1 dX9_see_4 rfl (lv_at hl 1 rfl) ?_
  replace hm := ob_e hm
  obtain ⟨r_2, h_1, hm⟩ := hm
  refine k_Vi (k := 1) (As := [.int x1]) X hl.1 hw (c_X2_hasLink h_1) (by decide) (he_X2 g h _ _) rfl ⟨wq_8_16, wq_7_23, wq_8_0, wq_1_13, wq_8_1⟩ yo_X2_hasLink rfl ⟨Nat.le_of_ble_eq_true rfl, Nat.le_of_ble_eq_true rfl⟩ (Nat.le_of_ble_eq_true rfl) dX9_see_5 (fun H locs hw => ?_)
  refine lv_if_eq (tgt := 20) X.1 X.2.1 dX9_see_8 (by decide) (fun c_3 => ?_) (fun c_3 => ?_)
  · replace hm := it_p hm c_3
    refine lv_bipush (v := -2) X.1 X.2.1 dX9_see_20 (by decide) ?_
    obtain ⟨rfl, rfl⟩ := Prod.mk.inj (Option.some.inj hm)
    exact hret _ _ _ _ hw dX9_see_22
  · replace hm := it_n hm c_3
    refine lv_iload_n X.1 X.2.1 dX9_see_11 rfl (lv_at hl 2 rfl) ?_
    refine lv_if_lt (tgt := 20) X.1 X.2.1 dX9_see_12 (by decide) (fun c_5 => ?_) (fun c_5 => ?_)
    · replace hm := it_p hm c_5
      refine lv_bipush (v := -2) X.1 X.2.1 dX9_see_20 (by decide) ?_
      obtain ⟨rfl, rfl⟩ := Prod.mk.inj (Option.some.inj hm)
      exact hret _ _ _ _ hw dX9_see_22
    · replace hm := it_n hm c_5
      refine lv_iload_n X.1 X.2.1 dX9_see_15 rfl (lv_at hl 2 rfl) ?_
      refine lv_iconst (v := 2) X.1 X.2.1 dX9_see_16 (by decide) ?_
      refine lv_icmp_le (tgt := 23) X.1 X.2.1 dX9_see_17 (by decide) (fun c_7 => ?_) (fun c_7 => ?_)
      · replace hm := it_p hm c_7
        refine lv_aload_n X.1 X.2.1 dX9_see_23 rfl (lv_at hl 0 rfl) ?_
        refine gX9_net X hw wq_1_14 dX9_see_24 ?_
        refine lv_iload_n X.1 X.2.1 dX9_see_27 rfl (lv_at hl 1 rfl) ?_
        replace hm := ob_e hm
        obtain ⟨r_9, h_8, hm⟩ := hm
        refine k_Vi (k := 1) (As := [.int x1]) X hl.1 hw (c_X2_seenOf h_8) (by decide) (he_X2 g h _ _) rfl ⟨wq_8_17, wq_8_18, wq_8_19, wq_1_13, wq_8_20⟩ yo_X2_seenOf rfl ⟨Nat.le_of_ble_eq_true rfl, Nat.le_of_ble_eq_true rfl⟩ (Nat.le_of_ble_eq_true rfl) dX9_see_28 (fun H locs hw => ?_)
        refine lv_istore_n (lv' := [(3, .int r_9), (0, .ref (h 0)), (1, .int x1), (2, .int x2)]) X.1 X.2.1 dX9_see_31 rfl hl (by decide) rfl (fun ls hl => ?_)
        refine lv_aload_n X.1 X.2.1 dX9_see_32 rfl (lv_at hl 1 rfl) ?_
        refine gX9_net X hw wq_1_14 dX9_see_33 ?_
        refine lv_iload_n X.1 X.2.1 dX9_see_36 rfl (lv_at hl 2 rfl) ?_
        refine lv_iload_n X.1 X.2.1 dX9_see_37 rfl (lv_at hl 3 rfl) ?_
        replace hm := ob_e hm
        obtain ⟨b_11, h_10, hm⟩ := hm
        refine k_Vv (k := 1) (As := [.int x1, .int x2]) X hl.1 hw (c_X2_setSeen h_10) (by decide) (he_X2 g h _ _) rfl ⟨wq_8_21, wq_8_22, wq_8_23, wq_1_13, wq_9_0⟩ yo_X2_setSeen rfl ⟨Nat.le_of_ble_eq_true rfl, Nat.le_of_ble_eq_true rfl⟩ (Nat.le_of_ble_eq_true rfl) dX9_see_38 (fun H locs hw => ?_)
        refine lv_iload_n X.1 X.2.1 dX9_see_41 rfl (lv_at hl 0 rfl) ?_
        obtain ⟨rfl, rfl⟩ := Prod.mk.inj (Option.some.inj hm)
        exact hret _ _ _ _ hw dX9_see_42
      · replace hm := it_n hm c_7
        refine lv_bipush (v := -2) X.1 X.2.1 dX9_see_20 (by decide) ?_
        obtain ⟨rfl, rfl⟩ := Prod.mk.inj (Option.some.inj hm)
        exact hret _ _ _ _ hw dX9_see_22
def m_X9_source (b : ST) (x1 : Int32) : Option (Int32 × ST) := Option.bind (m_X2_hasStation b (x1.toInt64)) (fun (r_2 : Int32) => if r_2 = 0 then some ((-2 : Int32), b) else Option.bind (m_X2_sourceStation b) (fun (r_5 : Int32) => Option.bind (m_X2_setSource b x1) (fun (b_7 : ST) => some (r_5, b_7))))
theorem yo_X9_source : yX9_source.cls = RX9 ∧ yX9_source.cls ≠ "java/lang/invoke/MethodHandle" ∧ yX9_source.cls ≠ "java/lang/invoke/VarHandle" ∧ (parseMethodDescriptor yX9_source.desc).map (fun d => d.parameters.length) = some 1 := by decide +kernel
set_option maxHeartbeats 4000000 in
set_option maxRecDepth 100000 in
theorem c_X9_source {l : Launch} {g : gT} {h : Nat → Nat} {b : ST} {w : Nat → ST} {x1 : Int32} {r : Int32} {b' : ST} (hm : m_X9_source b x1 = some (r, b')) : MetI l g yX9_source cX9_source 3 (some .int) 1 22 79 h (cC g h (b, w)) (cC g h (b', w)) [.ref (h 0), .int x1] r := by
  refine MetI.ofX (by decide +kernel) (Nat.le_of_ble_eq_true rfl) ?_
  intro p e s m below meth c AV Q X hret ls hw hl
  replace X : Cx g p s m AV c cX9_source RX9 3 := X
  replace hl : lv_has ls 3 [(0, .ref (h 0)), (1, .int x1)] := hl
  unfold m_X9_source at hm
  refine lv_aload_n X.1 X.2.1 dX9_source_0 rfl (lv_at hl 0 rfl) ?_
  refine gX9_net X hw wq_1_14 dX9_source_1 ?_
  refine lv_iload_n X.1 X.2.1 dX9_source_4 rfl (lv_at hl 1 rfl) ?_
  refine lv_i2l X.1 X.2.1 dX9_source_5 rfl ?_
  replace hm := ob_e hm
  obtain ⟨r_2, h_1, hm⟩ := hm
  refine k_Vi (k := 1) (As := [.long x1.toInt64]) X hl.1 hw (c_X2_hasStation h_1) (by decide) (he_X2 g h _ _) rfl ⟨wq_9_5, wq_6_15, wq_6_16, wq_1_13, wq_6_17⟩ yo_X2_hasStation rfl ⟨Nat.le_of_ble_eq_true rfl, Nat.le_of_ble_eq_true rfl⟩ (Nat.le_of_ble_eq_true rfl) dX9_source_6 (fun H locs hw => ?_)
  refine lv_if_ne (tgt := 15) X.1 X.2.1 dX9_source_9 (by decide) (fun c_3 => ?_) (fun c_3 => ?_)
  · replace hm := it_n hm c_3
    refine lv_aload_n X.1 X.2.1 dX9_source_15 rfl (lv_at hl 0 rfl) ?_
    refine gX9_net X hw wq_1_14 dX9_source_16 ?_
    replace hm := ob_e hm
    obtain ⟨r_5, h_4, hm⟩ := hm
    refine k_Vi (k := 1) (As := []) X hl.1 hw (c_X2_sourceStation h_4) (by decide) (he_X2 g h _ _) rfl ⟨wq_9_6, wq_9_7, wq_9_8, wq_1_13, wq_9_9⟩ yo_X2_sourceStation rfl ⟨Nat.le_of_ble_eq_true rfl, Nat.le_of_ble_eq_true rfl⟩ (Nat.le_of_ble_eq_true rfl) dX9_source_19 (fun H locs hw => ?_)
    refine lv_istore_n (lv' := [(2, .int r_5), (0, .ref (h 0)), (1, .int x1)]) X.1 X.2.1 dX9_source_22 rfl hl (by decide) rfl (fun ls hl => ?_)
    refine lv_aload_n X.1 X.2.1 dX9_source_23 rfl (lv_at hl 1 rfl) ?_
    refine gX9_net X hw wq_1_14 dX9_source_24 ?_
    refine lv_iload_n X.1 X.2.1 dX9_source_27 rfl (lv_at hl 2 rfl) ?_
    replace hm := ob_e hm
    obtain ⟨b_7, h_6, hm⟩ := hm
    refine k_Vv (k := 1) (As := [.int x1]) X hl.1 hw (c_X2_setSource h_6) (by decide) (he_X2 g h _ _) rfl ⟨wq_9_10, wq_9_11, wq_9_12, wq_1_13, wq_9_13⟩ yo_X2_setSource rfl ⟨Nat.le_of_ble_eq_true rfl, Nat.le_of_ble_eq_true rfl⟩ (Nat.le_of_ble_eq_true rfl) dX9_source_28 (fun H locs hw => ?_)
    refine lv_iload_n X.1 X.2.1 dX9_source_31 rfl (lv_at hl 0 rfl) ?_
    obtain ⟨rfl, rfl⟩ := Prod.mk.inj (Option.some.inj hm)
    exact hret _ _ _ _ hw dX9_source_32
  · replace hm := it_p hm c_3
    refine lv_bipush (v := -2) X.1 X.2.1 dX9_source_12 (by decide) ?_
    obtain ⟨rfl, rfl⟩ := Prod.mk.inj (Option.some.inj hm)
    exact hret _ _ _ _ hw dX9_source_14
def m_X9_goals (b : ST) (x1 : Int32) : Option (Int32 × ST) := if x1 < 0 then some ((-2 : Int32), b) else Option.bind (m_X2_allStations b) (fun (r_4 : Int32) => if x1 ≤ r_4 then Option.bind (m_X2_goalBits b) (fun (r_7 : Int32) => Option.bind (m_X2_setGoals b x1) (fun (b_9 : ST) => some (r_7, b_9))) else some ((-2 : Int32), b))
theorem yo_X9_goals : yX9_goals.cls = RX9 ∧ yX9_goals.cls ≠ "java/lang/invoke/MethodHandle" ∧ yX9_goals.cls ≠ "java/lang/invoke/VarHandle" ∧ (parseMethodDescriptor yX9_goals.desc).map (fun d => d.parameters.length) = some 1 := by decide +kernel
set_option maxHeartbeats 4000000 in
set_option maxRecDepth 100000 in
theorem c_X9_goals {l : Launch} {g : gT} {h : Nat → Nat} {b : ST} {w : Nat → ST} {x1 : Int32} {r : Int32} {b' : ST} (hm : m_X9_goals b x1 = some (r, b')) : MetI l g yX9_goals cX9_goals 3 (some .int) 1 21 79 h (cC g h (b, w)) (cC g h (b', w)) [.ref (h 0), .int x1] r := by
  refine MetI.ofX (by decide +kernel) (Nat.le_of_ble_eq_true rfl) ?_
  intro p e s m below meth c AV Q X hret ls hw hl
  replace X : Cx g p s m AV c cX9_goals RX9 3 := X
  replace hl : lv_has ls 3 [(0, .ref (h 0)), (1, .int x1)] := hl
  unfold m_X9_goals at hm
  refine lv_iload_n X.1 X.2.1 dX9_goals_0 rfl (lv_at hl 1 rfl) ?_
  refine lv_if_lt (tgt := 15) X.1 X.2.1 dX9_goals_1 (by decide) (fun c_1 => ?_) (fun c_1 => ?_)
  · replace hm := it_p hm c_1
    refine lv_bipush (v := -2) X.1 X.2.1 dX9_goals_15 (by decide) ?_
    obtain ⟨rfl, rfl⟩ := Prod.mk.inj (Option.some.inj hm)
    exact hret _ _ _ _ hw dX9_goals_17
  · replace hm := it_n hm c_1
    refine lv_iload_n X.1 X.2.1 dX9_goals_4 rfl (lv_at hl 1 rfl) ?_
    refine lv_aload_n X.1 X.2.1 dX9_goals_5 rfl (lv_at hl 0 rfl) ?_
    refine gX9_net X hw wq_1_14 dX9_goals_6 ?_
    replace hm := ob_e hm
    obtain ⟨r_4, h_3, hm⟩ := hm
    refine k_Vi (k := 1) (As := []) X hl.1 hw (c_X2_allStations h_3) (by decide) (he_X2 g h _ _) rfl ⟨wq_9_18, wq_9_19, wq_9_20, wq_1_13, wq_9_21⟩ yo_X2_allStations rfl ⟨Nat.le_of_ble_eq_true rfl, Nat.le_of_ble_eq_true rfl⟩ (Nat.le_of_ble_eq_true rfl) dX9_goals_9 (fun H locs hw => ?_)
    refine lv_icmp_le (tgt := 18) X.1 X.2.1 dX9_goals_12 (by decide) (fun c_5 => ?_) (fun c_5 => ?_)
    · replace hm := it_p hm c_5
      refine lv_aload_n X.1 X.2.1 dX9_goals_18 rfl (lv_at hl 0 rfl) ?_
      refine gX9_net X hw wq_1_14 dX9_goals_19 ?_
      replace hm := ob_e hm
      obtain ⟨r_7, h_6, hm⟩ := hm
      refine k_Vi (k := 1) (As := []) X hl.1 hw (c_X2_goalBits h_6) (by decide) (he_X2 g h _ _) rfl ⟨wq_9_22, wq_9_23, wq_10_0, wq_1_13, wq_10_1⟩ yo_X2_goalBits rfl ⟨Nat.le_of_ble_eq_true rfl, Nat.le_of_ble_eq_true rfl⟩ (Nat.le_of_ble_eq_true rfl) dX9_goals_22 (fun H locs hw => ?_)
      refine lv_istore_n (lv' := [(2, .int r_7), (0, .ref (h 0)), (1, .int x1)]) X.1 X.2.1 dX9_goals_25 rfl hl (by decide) rfl (fun ls hl => ?_)
      refine lv_aload_n X.1 X.2.1 dX9_goals_26 rfl (lv_at hl 1 rfl) ?_
      refine gX9_net X hw wq_1_14 dX9_goals_27 ?_
      refine lv_iload_n X.1 X.2.1 dX9_goals_30 rfl (lv_at hl 2 rfl) ?_
      replace hm := ob_e hm
      obtain ⟨b_9, h_8, hm⟩ := hm
      refine k_Vv (k := 1) (As := [.int x1]) X hl.1 hw (c_X2_setGoals h_8) (by decide) (he_X2 g h _ _) rfl ⟨wq_10_2, wq_10_3, wq_10_4, wq_1_13, wq_10_5⟩ yo_X2_setGoals rfl ⟨Nat.le_of_ble_eq_true rfl, Nat.le_of_ble_eq_true rfl⟩ (Nat.le_of_ble_eq_true rfl) dX9_goals_31 (fun H locs hw => ?_)
      refine lv_iload_n X.1 X.2.1 dX9_goals_34 rfl (lv_at hl 0 rfl) ?_
      obtain ⟨rfl, rfl⟩ := Prod.mk.inj (Option.some.inj hm)
      exact hret _ _ _ _ hw dX9_goals_35
    · replace hm := it_n hm c_5
      refine lv_bipush (v := -2) X.1 X.2.1 dX9_goals_15 (by decide) ?_
      obtain ⟨rfl, rfl⟩ := Prod.mk.inj (Option.some.inj hm)
      exact hret _ _ _ _ hw dX9_goals_17
def m_X9_info (b : ST) (x1 : Int32) (x2 : Int32) : Option (Int32) := Option.bind (m_X2_hasLink b x1) (fun (r_2 : Int32) => if r_2 = 0 then some (-2 : Int32) else if x2 = 0 then Option.bind (m_X2_lesserOf b x1) (fun (r_6 : Int32) => some r_6) else (if x2 = 1 then Option.bind (m_X2_greaterOf b x1) (fun (r_9 : Int32) => some r_9) else (if x2 = 2 then Option.bind (m_X2_aboveOf b x1) (fun (r_12 : Int32) => some r_12) else (if x2 = 3 then Option.bind (m_X2_belowOf b x1) (fun (r_15 : Int32) => some r_15) else (if x2 = 4 then Option.bind (m_X2_seenOf b x1) (fun (r_18 : Int32) => some r_18) else (some (-2 : Int32)))))))
theorem yo_X9_info : yX9_info.cls = RX9 ∧ yX9_info.cls ≠ "java/lang/invoke/MethodHandle" ∧ yX9_info.cls ≠ "java/lang/invoke/VarHandle" ∧ (parseMethodDescriptor yX9_info.desc).map (fun d => d.parameters.length) = some 2 := by decide +kernel
set_option maxHeartbeats 4000000 in
set_option maxRecDepth 100000 in
theorem c_X9_info {l : Launch} {g : gT} {h : Nat → Nat} {b : ST} {w : Nat → ST} {x1 : Int32} {x2 : Int32} {r : Int32} (hm : m_X9_info b x1 x2 = some r) : MetI l g yX9_info cX9_info 3 (some .int) 2 42 79 h (cC g h (b, w)) (cC g h (b, w)) [.ref (h 0), .int x1, .int x2] r := by
  refine MetI.ofX (by decide +kernel) (Nat.le_of_ble_eq_true rfl) ?_
  intro p e s m below meth c AV Q X hret ls hw hl
  replace X : Cx g p s m AV c cX9_info RX9 3 := X
  replace hl : lv_has ls 3 [(0, .ref (h 0)), (1, .int x1), (2, .int x2)] := hl
  unfold m_X9_info at hm
  refine lv_aload_n X.1 X.2.1 dX9_info_0 rfl (lv_at hl 0 rfl) ?_
  refine gX9_net X hw wq_1_14 dX9_info_1 ?_
  refine lv_iload_n X.1 X.2.1 dX9_info_4 rfl (lv_at hl 1 rfl) ?_
  replace hm := ob_e hm
  obtain ⟨r_2, h_1, hm⟩ := hm
  refine k_Vi (k := 1) (As := [.int x1]) X hl.1 hw (c_X2_hasLink h_1) (by decide) (he_X2 g h _ _) rfl ⟨wq_8_16, wq_7_23, wq_8_0, wq_1_13, wq_8_1⟩ yo_X2_hasLink rfl ⟨Nat.le_of_ble_eq_true rfl, Nat.le_of_ble_eq_true rfl⟩ (Nat.le_of_ble_eq_true rfl) dX9_info_5 (fun H locs hw => ?_)
  refine lv_if_ne (tgt := 14) X.1 X.2.1 dX9_info_8 (by decide) (fun c_3 => ?_) (fun c_3 => ?_)
  · replace hm := it_n hm c_3
    refine lv_iload_n X.1 X.2.1 dX9_info_14 rfl (lv_at hl 2 rfl) ?_
    by_cases c_4 : x2 = 0
    · replace hm := it_p hm c_4
      refine x_tab X c_4 dX9_info_15 (off := 33) (tgt := 48) (by decide) (by decide) rfl (by decide) ?_
      refine lv_aload_n X.1 X.2.1 dX9_info_48 rfl (lv_at hl 0 rfl) ?_
      refine gX9_net X hw wq_1_14 dX9_info_49 ?_
      refine lv_iload_n X.1 X.2.1 dX9_info_52 rfl (lv_at hl 1 rfl) ?_
      replace hm := ob_e hm
      obtain ⟨r_6, h_5, hm⟩ := hm
      refine k_Vi (k := 1) (As := [.int x1]) X hl.1 hw (c_X2_lesserOf h_5) (by decide) (he_X2 g h _ _) rfl ⟨wq_20_11, wq_7_19, wq_7_20, wq_1_13, wq_7_21⟩ yo_X2_lesserOf rfl ⟨Nat.le_of_ble_eq_true rfl, Nat.le_of_ble_eq_true rfl⟩ (Nat.le_of_ble_eq_true rfl) dX9_info_53 (fun H locs hw => ?_)
      obtain rfl := Option.some.inj hm
      exact hret _ _ _ _ hw dX9_info_56
    · replace hm := it_n hm c_4
      by_cases c_7 : x2 = 1
      · replace hm := it_p hm c_7
        refine x_tab X c_7 dX9_info_15 (off := 42) (tgt := 57) (by decide) (by decide) rfl (by decide) ?_
        refine lv_aload_n X.1 X.2.1 dX9_info_57 rfl (lv_at hl 0 rfl) ?_
        refine gX9_net X hw wq_1_14 dX9_info_58 ?_
        refine lv_iload_n X.1 X.2.1 dX9_info_61 rfl (lv_at hl 1 rfl) ?_
        replace hm := ob_e hm
        obtain ⟨r_9, h_8, hm⟩ := hm
        refine k_Vi (k := 1) (As := [.int x1]) X hl.1 hw (c_X2_greaterOf h_8) (by decide) (he_X2 g h _ _) rfl ⟨wq_20_12, wq_8_3, wq_8_4, wq_1_13, wq_8_5⟩ yo_X2_greaterOf rfl ⟨Nat.le_of_ble_eq_true rfl, Nat.le_of_ble_eq_true rfl⟩ (Nat.le_of_ble_eq_true rfl) dX9_info_62 (fun H locs hw => ?_)
        obtain rfl := Option.some.inj hm
        exact hret _ _ _ _ hw dX9_info_65
      · replace hm := it_n hm c_7
        by_cases c_10 : x2 = 2
        · replace hm := it_p hm c_10
          refine x_tab X c_10 dX9_info_15 (off := 51) (tgt := 66) (by decide) (by decide) rfl (by decide) ?_
          refine lv_aload_n X.1 X.2.1 dX9_info_66 rfl (lv_at hl 0 rfl) ?_
          refine gX9_net X hw wq_1_14 dX9_info_67 ?_
          refine lv_iload_n X.1 X.2.1 dX9_info_70 rfl (lv_at hl 1 rfl) ?_
          replace hm := ob_e hm
          obtain ⟨r_12, h_11, hm⟩ := hm
          refine k_Vi (k := 1) (As := [.int x1]) X hl.1 hw (c_X2_aboveOf h_11) (by decide) (he_X2 g h _ _) rfl ⟨wq_20_13, wq_13_10, wq_13_11, wq_1_13, wq_13_12⟩ yo_X2_aboveOf rfl ⟨Nat.le_of_ble_eq_true rfl, Nat.le_of_ble_eq_true rfl⟩ (Nat.le_of_ble_eq_true rfl) dX9_info_71 (fun H locs hw => ?_)
          obtain rfl := Option.some.inj hm
          exact hret _ _ _ _ hw dX9_info_74
        · replace hm := it_n hm c_10
          by_cases c_13 : x2 = 3
          · replace hm := it_p hm c_13
            refine x_tab X c_13 dX9_info_15 (off := 60) (tgt := 75) (by decide) (by decide) rfl (by decide) ?_
            refine lv_aload_n X.1 X.2.1 dX9_info_75 rfl (lv_at hl 0 rfl) ?_
            refine gX9_net X hw wq_1_14 dX9_info_76 ?_
            refine lv_iload_n X.1 X.2.1 dX9_info_79 rfl (lv_at hl 1 rfl) ?_
            replace hm := ob_e hm
            obtain ⟨r_15, h_14, hm⟩ := hm
            refine k_Vi (k := 1) (As := [.int x1]) X hl.1 hw (c_X2_belowOf h_14) (by decide) (he_X2 g h _ _) rfl ⟨wq_20_14, wq_13_18, wq_13_19, wq_1_13, wq_13_20⟩ yo_X2_belowOf rfl ⟨Nat.le_of_ble_eq_true rfl, Nat.le_of_ble_eq_true rfl⟩ (Nat.le_of_ble_eq_true rfl) dX9_info_80 (fun H locs hw => ?_)
            obtain rfl := Option.some.inj hm
            exact hret _ _ _ _ hw dX9_info_83
          · replace hm := it_n hm c_13
            by_cases c_16 : x2 = 4
            · replace hm := it_p hm c_16
              refine x_tab X c_16 dX9_info_15 (off := 69) (tgt := 84) (by decide) (by decide) rfl (by decide) ?_
              refine lv_aload_n X.1 X.2.1 dX9_info_84 rfl (lv_at hl 0 rfl) ?_
              refine gX9_net X hw wq_1_14 dX9_info_85 ?_
              refine lv_iload_n X.1 X.2.1 dX9_info_88 rfl (lv_at hl 1 rfl) ?_
              replace hm := ob_e hm
              obtain ⟨r_18, h_17, hm⟩ := hm
              refine k_Vi (k := 1) (As := [.int x1]) X hl.1 hw (c_X2_seenOf h_17) (by decide) (he_X2 g h _ _) rfl ⟨wq_8_17, wq_8_18, wq_8_19, wq_1_13, wq_8_20⟩ yo_X2_seenOf rfl ⟨Nat.le_of_ble_eq_true rfl, Nat.le_of_ble_eq_true rfl⟩ (Nat.le_of_ble_eq_true rfl) dX9_info_89 (fun H locs hw => ?_)
              obtain rfl := Option.some.inj hm
              exact hret _ _ _ _ hw dX9_info_92
            · replace hm := it_n hm c_16
              have tc_4 : ¬ x2.toInt = 0 := lv_neT c_4 (k := 0) (by decide)
              have tc_7 : ¬ x2.toInt = 1 := lv_neT c_7 (k := 1) (by decide)
              have tc_10 : ¬ x2.toInt = 2 := lv_neT c_10 (k := 2) (by decide)
              have tc_13 : ¬ x2.toInt = 3 := lv_neT c_13 (k := 3) (by decide)
              have tc_16 : ¬ x2.toInt = 4 := lv_neT c_16 (k := 4) (by decide)
              refine lv_tableOut X.1 X.2.1 (tgt := 93) dX9_info_15 (by omega) (by decide) ?_
              refine lv_bipush (v := -2) X.1 X.2.1 dX9_info_93 (by decide) ?_
              obtain rfl := Option.some.inj hm
              exact hret _ _ _ _ hw dX9_info_95
  · replace hm := it_p hm c_3
    refine lv_bipush (v := -2) X.1 X.2.1 dX9_info_11 (by decide) ?_
    obtain rfl := Option.some.inj hm
    exact hret _ _ _ _ hw dX9_info_13
def m_X9_isSide (x0 : Int32) : Option (Int32) := if x0 = 0 then some (1 : Int32) else if x0 = (1 : Int32) then some (1 : Int32) else some (0 : Int32)
theorem yo_X9_isSide : yX9_isSide.cls ≠ "java/lang/invoke/MethodHandle" ∧ yX9_isSide.cls ≠ "java/lang/invoke/VarHandle" ∧ (parseMethodDescriptor yX9_isSide.desc).map (fun d => d.parameters.length) = some 1 := by decide +kernel
set_option maxHeartbeats 4000000 in
set_option maxRecDepth 100000 in
theorem c_X9_isSide {l : Launch} {g : gT} {n : Nat} {h : Nat → Nat} {cel : Nat → va_E} {x0 : Int32} {r : Int32} (hm : m_X9_isSide x0 = some r) : MetI l g yX9_isSide cX9_isSide 1 (some .boolean) 0 0 n h (cel) (cel) [.int x0] r := by
  refine MetZ.ofX (by decide +kernel) (Nat.le_of_ble_eq_true rfl) ?_
  intro p e s m below meth c AV Q X hret ls hw hl
  replace X : Cx g p s m AV c cX9_isSide RX9 1 := X
  replace hl : lv_has ls 1 [(0, .int x0)] := hl
  unfold m_X9_isSide at hm
  refine lv_iload_n X.1 X.2.1 dX9_isSide_0 rfl (lv_at hl 0 rfl) ?_
  refine lv_if_eq (tgt := 9) X.1 X.2.1 dX9_isSide_1 (by decide) (fun c_1 => ?_) (fun c_1 => ?_)
  · replace hm := it_p hm c_1
    refine lv_iconst (v := 1) X.1 X.2.1 dX9_isSide_9 (by decide) ?_
    refine lv_goto (tgt := 14) X.1 X.2.1 dX9_isSide_10 (by decide) ?_
    obtain rfl := Option.some.inj hm
    exact hret _ _ _ _ hw dX9_isSide_14 (Or.inr rfl)
  · replace hm := it_n hm c_1
    refine lv_iload_n X.1 X.2.1 dX9_isSide_4 rfl (lv_at hl 0 rfl) ?_
    refine lv_iconst (v := 1) X.1 X.2.1 dX9_isSide_5 (by decide) ?_
    refine lv_icmp_ne (tgt := 13) X.1 X.2.1 dX9_isSide_6 (by decide) (fun c_2 => ?_) (fun c_2 => ?_)
    · replace hm := it_n hm c_2
      refine lv_iconst (v := 0) X.1 X.2.1 dX9_isSide_13 (by decide) ?_
      obtain rfl := Option.some.inj hm
      exact hret _ _ _ _ hw dX9_isSide_14 (Or.inl rfl)
    · replace hm := it_p hm c_2
      refine lv_iconst (v := 1) X.1 X.2.1 dX9_isSide_9 (by decide) ?_
      refine lv_goto (tgt := 14) X.1 X.2.1 dX9_isSide_10 (by decide) ?_
      obtain rfl := Option.some.inj hm
      exact hret _ _ _ _ hw dX9_isSide_14 (Or.inr rfl)
def m_X9_refused (x0 : Int32) : Option (Int64) := some ((-9223372036854775808 : Int64) - x0.toInt64)
theorem yo_X9_refused : yX9_refused.cls ≠ "java/lang/invoke/MethodHandle" ∧ yX9_refused.cls ≠ "java/lang/invoke/VarHandle" ∧ (parseMethodDescriptor yX9_refused.desc).map (fun d => d.parameters.length) = some 1 := by decide +kernel
set_option maxHeartbeats 4000000 in
set_option maxRecDepth 100000 in
theorem c_X9_refused {l : Launch} {g : gT} {n : Nat} {h : Nat → Nat} {cel : Nat → va_E} {x0 : Int32} {r : Int64} (hm : m_X9_refused x0 = some r) : MetL l g yX9_refused cX9_refused 1 (some .long) 0 0 n h (cel) (cel) [.int x0] r := by
  refine MetL.ofX (by decide +kernel) (Nat.le_of_ble_eq_true rfl) ?_
  intro p e s m below meth c AV Q X hret ls hw hl
  replace X : Cx g p s m AV c cX9_refused RX9 1 := X
  replace hl : lv_has ls 1 [(0, .int x0)] := hl
  unfold m_X9_refused at hm
  refine lv_ldc2 (v := -9223372036854775808) X.1 X.2.1 X.2.2.2.1 (X.2.2.2.2.1 _ wq_12_15) dX9_refused_0 ?_
  refine lv_iload_n X.1 X.2.1 dX9_refused_3 rfl (lv_at hl 0 rfl) ?_
  refine lv_i2l X.1 X.2.1 dX9_refused_4 rfl ?_
  refine lv_lsub X.1 X.2.1 dX9_refused_5 ?_
  obtain rfl := Option.some.inj hm
  exact hret _ _ _ _ hw dX9_refused_6
def m_X9_reach (b : ST) (x1 : Int32) : Option (Int64 × ST) := Option.bind (m_X9_isSide x1) (fun (r_2 : Int32) => if r_2 = 0 then Option.bind (m_X9_refused (-2 : Int32)) (fun (r_12 : Int64) => some (r_12, b)) else Option.bind (m_X3_fill b) (fun (b_5 : ST) => Option.bind (m_X3_reachParts b_5) (fun (r_7 : Int64) => Option.bind (m_X3_told b_5 r_7 x1) (fun (r_9 : Int64) => some (r_9, b_5)))))
theorem yo_X9_reach : yX9_reach.cls = RX9 ∧ yX9_reach.cls ≠ "java/lang/invoke/MethodHandle" ∧ yX9_reach.cls ≠ "java/lang/invoke/VarHandle" ∧ (parseMethodDescriptor yX9_reach.desc).map (fun d => d.parameters.length) = some 1 := by decide +kernel
set_option maxHeartbeats 4000000 in
set_option maxRecDepth 100000 in
theorem c_X9_reach {l : Launch} {g : gT} {h : Nat → Nat} {b : ST} {w : Nat → ST} {x1 : Int32} {r : Int64} {b' : ST} (hm : m_X9_reach b x1 = some (r, b')) : MetL l g yX9_reach cX9_reach 2 (some .long) 5 108 79 h (cC g h (b, w)) (cC g h (b', w)) [.ref (h 0), .int x1] r := by
  refine MetL.ofX (by decide +kernel) (Nat.le_of_ble_eq_true rfl) ?_
  intro p e s m below meth c AV Q X hret ls hw hl
  replace X : Cx g p s m AV c cX9_reach RX9 2 := X
  replace hl : lv_has ls 2 [(0, .ref (h 0)), (1, .int x1)] := hl
  unfold m_X9_reach at hm
  refine lv_iload_n X.1 X.2.1 dX9_reach_0 rfl (lv_at hl 1 rfl) ?_
  replace hm := ob_e hm
  obtain ⟨r_2, h_1, hm⟩ := hm
  refine k_Si (As := [.int x1]) X hl.1 hw (c_X9_isSide h_1) ⟨wq_12_9, wq_12_10, wq_1_2, wq_12_11⟩ yo_X9_isSide rfl ⟨Nat.le_of_ble_eq_true rfl, Nat.le_of_ble_eq_true rfl⟩ (Nat.le_of_ble_eq_true rfl) dX9_reach_1 (fun H locs hw => ?_)
  refine lv_if_ne (tgt := 13) X.1 X.2.1 dX9_reach_4 (by decide) (fun c_3 => ?_) (fun c_3 => ?_)
  · replace hm := it_n hm c_3
    refine lv_aload_n X.1 X.2.1 dX9_reach_13 rfl (lv_at hl 0 rfl) ?_
    refine gX9_odds X hw wq_1_18 dX9_reach_14 ?_
    replace hm := ob_e hm
    obtain ⟨b_5, h_4, hm⟩ := hm
    refine k_Vv (k := 8) (As := []) X hl.1 hw (c_X3_fill h_4) (by decide) (he_X3 g h _ _) rfl ⟨wq_12_16, wq_12_17, wq_12_18, wq_1_17, wq_12_19⟩ yo_X3_fill rfl ⟨Nat.le_of_ble_eq_true rfl, Nat.le_of_ble_eq_true rfl⟩ (Nat.le_of_ble_eq_true rfl) dX9_reach_17 (fun H locs hw => ?_)
    refine lv_aload_n X.1 X.2.1 dX9_reach_20 rfl (lv_at hl 0 rfl) ?_
    refine gX9_odds X hw wq_1_18 dX9_reach_21 ?_
    refine lv_aload_n X.1 X.2.1 dX9_reach_24 rfl (lv_at hl 0 rfl) ?_
    refine gX9_odds X hw wq_1_18 dX9_reach_25 ?_
    replace hm := ob_e hm
    obtain ⟨r_7, h_6, hm⟩ := hm
    refine k_Vl (k := 8) (As := []) X hl.1 hw (c_X3_reachParts h_6) (by decide) (he_X3 g h _ _) rfl ⟨wq_13_21, wq_13_22, wq_13_23, wq_1_17, wq_14_0⟩ yo_X3_reachParts rfl ⟨Nat.le_of_ble_eq_true rfl, Nat.le_of_ble_eq_true rfl⟩ (Nat.le_of_ble_eq_true rfl) dX9_reach_28 (fun H locs hw => ?_)
    refine lv_iload_n X.1 X.2.1 dX9_reach_31 rfl (lv_at hl 1 rfl) ?_
    replace hm := ob_e hm
    obtain ⟨r_9, h_8, hm⟩ := hm
    refine k_Vl (k := 8) (As := [.long r_7, .int x1]) X hl.1 hw (c_X3_told h_8) (by decide) (he_X3 g h _ _) rfl ⟨wq_14_3, wq_14_4, wq_14_5, wq_1_17, wq_14_6⟩ yo_X3_told rfl ⟨Nat.le_of_ble_eq_true rfl, Nat.le_of_ble_eq_true rfl⟩ (Nat.le_of_ble_eq_true rfl) dX9_reach_32 (fun H locs hw => ?_)
    obtain ⟨rfl, rfl⟩ := Prod.mk.inj (Option.some.inj hm)
    exact hret _ _ _ _ hw dX9_reach_35
  · replace hm := it_p hm c_3
    refine lv_bipush (v := -2) X.1 X.2.1 dX9_reach_7 (by decide) ?_
    replace hm := ob_e hm
    obtain ⟨r_12, h_11, hm⟩ := hm
    refine k_Sl (As := [.int (-2 : Int32)]) X hl.1 hw (c_X9_refused h_11) ⟨wq_12_12, wq_12_13, wq_1_2, wq_12_14⟩ yo_X9_refused rfl ⟨Nat.le_of_ble_eq_true rfl, Nat.le_of_ble_eq_true rfl⟩ (Nat.le_of_ble_eq_true rfl) dX9_reach_9 (fun H locs hw => ?_)
    obtain ⟨rfl, rfl⟩ := Prod.mk.inj (Option.some.inj hm)
    exact hret _ _ _ _ hw dX9_reach_12
def m_X9_joined (b : ST) (w : Nat → ST) (x1 : Int32) : Option (Int64 × ST × (Nat → ST)) := Option.bind ((if x1 < 0 then some (.inl ()) else if x1 ≤ (4 : Int32) then Option.bind (m_X0_askAll b w) (fun (q_11 : ST × (Nat → ST)) => un q_11 (fun b_9 w_10 => Option.bind (m_X0_told b_9 w_10 x1) (fun (r_13 : Int64) => some (.inr (r_13, b_9, w_10))))) else some (.inl ())) : Option ((Unit) ⊕ (Int64 × ST × (Nat → ST)))) (fun z_15 => ex z_15 (fun (_ : Unit) => Option.bind (m_X9_refused (-2 : Int32)) (fun (r_3 : Int64) => some (r_3, b, w))) (fun r => some r))
theorem yo_X9_joined : yX9_joined.cls = RX9 ∧ yX9_joined.cls ≠ "java/lang/invoke/MethodHandle" ∧ yX9_joined.cls ≠ "java/lang/invoke/VarHandle" ∧ (parseMethodDescriptor yX9_joined.desc).map (fun d => d.parameters.length) = some 1 := by decide +kernel
set_option maxHeartbeats 4000000 in
set_option maxRecDepth 100000 in
theorem c_X9_joined {l : Launch} {g : gT} {h : Nat → Nat} {b : ST} {w : Nat → ST} {x1 : Int32} {r : Int64} {b' : ST} {w' : (Nat → ST)} (hm : m_X9_joined b w x1 = some (r, b', w')) : MetL l g yX9_joined cX9_joined 2 (some .long) 18 436 79 h (cC g h (b, w)) (cC g h (b', w')) [.ref (h 0), .int x1] r := by
  refine MetL.ofX (by decide +kernel) (Nat.le_of_ble_eq_true rfl) ?_
  intro p e s m below meth c AV Q X hret ls hw hl
  replace X : Cx g p s m AV c cX9_joined RX9 2 := X
  replace hl : lv_has ls 2 [(0, .ref (h 0)), (1, .int x1)] := hl
  unfold m_X9_joined at hm
  refine lv_iload_n X.1 X.2.1 dX9_joined_0 rfl (lv_at hl 1 rfl) ?_
  replace hm := ob_e hm
  obtain ⟨z_15, hg_5, hm⟩ := hm
  have J_6 : z_15 = .inl () → ∀ (H : Heap) (locs : List Loc) (ls : Array Slot), Wd g 79 h (cC g h (b, w)) s H locs → lv_has ls 2 [] → W p l e (rW 18 436) s m AV below meth c H locs 0 0 Q (F0 m 9 ls []) := by
    intro hj
    subst hj
    replace hm := ex_l hm
    intro H locs ls hw hl
    refine lv_bipush (v := -2) X.1 X.2.1 dX9_joined_9 (by decide) ?_
    replace hm := ob_e hm
    obtain ⟨r_3, h_2, hm⟩ := hm
    refine k_Sl (As := [.int (-2 : Int32)]) X hl.1 hw (c_X9_refused h_2) ⟨wq_12_12, wq_12_13, wq_1_2, wq_12_14⟩ yo_X9_refused rfl ⟨Nat.le_of_ble_eq_true rfl, Nat.le_of_ble_eq_true rfl⟩ (Nat.le_of_ble_eq_true rfl) dX9_joined_11 (fun H locs hw => ?_)
    obtain ⟨rfl, q_4⟩ := Prod.mk.inj (Option.some.inj hm)
    obtain ⟨rfl, rfl⟩ := Prod.mk.inj q_4
    exact hret _ _ _ _ hw dX9_joined_14
  refine lv_if_lt (tgt := 9) X.1 X.2.1 dX9_joined_1 (by decide) (fun c_1 => ?_) (fun c_1 => ?_)
  · replace hg_5 := it_p hg_5 c_1
    exact J_6 (Option.some.inj hg_5).symm _ _ _ hw (lv_sub hl [] rfl)
  · replace hg_5 := it_n hg_5 c_1
    refine lv_iload_n X.1 X.2.1 dX9_joined_4 rfl (lv_at hl 1 rfl) ?_
    refine lv_iconst (v := 4) X.1 X.2.1 dX9_joined_5 (by decide) ?_
    refine lv_icmp_le (tgt := 15) X.1 X.2.1 dX9_joined_6 (by decide) (fun c_7 => ?_) (fun c_7 => ?_)
    · replace hg_5 := it_p hg_5 c_7
      refine lv_aload_n X.1 X.2.1 dX9_joined_15 rfl (lv_at hl 0 rfl) ?_
      refine gX9_cutAndJoin X hw wq_2_6 dX9_joined_16 ?_
      replace hg_5 := ob_e hg_5
      obtain ⟨⟨b_9, w_10⟩, h_8, hg_5⟩ := hg_5
      replace hg_5 := un_e hg_5
      refine k_Vv (k := 14) (As := []) X hl.1 hw (c_X0_askAll h_8) (by decide) (he_X0 g h _ _) rfl ⟨wq_14_20, wq_14_21, wq_14_22, wq_2_5, wq_14_23⟩ yo_X0_askAll rfl ⟨Nat.le_of_ble_eq_true rfl, Nat.le_of_ble_eq_true rfl⟩ (Nat.le_of_ble_eq_true rfl) dX9_joined_19 (fun H locs hw => ?_)
      refine lv_aload_n X.1 X.2.1 dX9_joined_22 rfl (lv_at hl 0 rfl) ?_
      refine gX9_cutAndJoin X hw wq_2_6 dX9_joined_23 ?_
      refine lv_iload_n X.1 X.2.1 dX9_joined_26 rfl (lv_at hl 1 rfl) ?_
      replace hg_5 := ob_e hg_5
      obtain ⟨r_13, h_12, hg_5⟩ := hg_5
      refine k_Vl (k := 14) (As := [.int x1]) X hl.1 hw (c_X0_told h_12) (by decide) (he_X0 g h _ _) rfl ⟨wq_19_16, wq_19_17, wq_19_18, wq_2_5, wq_19_19⟩ yo_X0_told rfl ⟨Nat.le_of_ble_eq_true rfl, Nat.le_of_ble_eq_true rfl⟩ (Nat.le_of_ble_eq_true rfl) dX9_joined_27 (fun H locs hw => ?_)
      obtain rfl := Option.some.inj hg_5
      replace hm := ex_r hm
      obtain ⟨rfl, q_14⟩ := Prod.mk.inj (Option.some.inj hm)
      obtain ⟨rfl, rfl⟩ := Prod.mk.inj q_14
      exact hret _ _ _ _ hw dX9_joined_30
    · replace hg_5 := it_n hg_5 c_7
      exact J_6 (Option.some.inj hg_5).symm _ _ _ hw (lv_sub hl [] rfl)
def m_X9_wide (b : ST) (x1 : Int32) : Option (Int32 × ST) := Option.bind (m_X2_hasLink b x1) (fun (r_2 : Int32) => if r_2 = 0 then some ((-2 : Int32), b) else Option.bind (m_X6_widthBehind b x1) (fun (q_7 : Int32 × ST) => un q_7 (fun r_5 b_6 => some (r_5, b_6))))
theorem yo_X9_wide : yX9_wide.cls = RX9 ∧ yX9_wide.cls ≠ "java/lang/invoke/MethodHandle" ∧ yX9_wide.cls ≠ "java/lang/invoke/VarHandle" ∧ (parseMethodDescriptor yX9_wide.desc).map (fun d => d.parameters.length) = some 1 := by decide +kernel
set_option maxHeartbeats 4000000 in
set_option maxRecDepth 100000 in
theorem c_X9_wide {l : Launch} {g : gT} {h : Nat → Nat} {b : ST} {w : Nat → ST} {x1 : Int32} {r : Int32} {b' : ST} (hm : m_X9_wide b x1 = some (r, b')) : MetI l g yX9_wide cX9_wide 2 (some .int) 5 116 79 h (cC g h (b, w)) (cC g h (b', w)) [.ref (h 0), .int x1] r := by
  refine MetI.ofX (by decide +kernel) (Nat.le_of_ble_eq_true rfl) ?_
  intro p e s m below meth c AV Q X hret ls hw hl
  replace X : Cx g p s m AV c cX9_wide RX9 2 := X
  replace hl : lv_has ls 2 [(0, .ref (h 0)), (1, .int x1)] := hl
  unfold m_X9_wide at hm
  refine lv_aload_n X.1 X.2.1 dX9_wide_0 rfl (lv_at hl 0 rfl) ?_
  refine gX9_net X hw wq_1_14 dX9_wide_1 ?_
  refine lv_iload_n X.1 X.2.1 dX9_wide_4 rfl (lv_at hl 1 rfl) ?_
  replace hm := ob_e hm
  obtain ⟨r_2, h_1, hm⟩ := hm
  refine k_Vi (k := 1) (As := [.int x1]) X hl.1 hw (c_X2_hasLink h_1) (by decide) (he_X2 g h _ _) rfl ⟨wq_8_16, wq_7_23, wq_8_0, wq_1_13, wq_8_1⟩ yo_X2_hasLink rfl ⟨Nat.le_of_ble_eq_true rfl, Nat.le_of_ble_eq_true rfl⟩ (Nat.le_of_ble_eq_true rfl) dX9_wide_5 (fun H locs hw => ?_)
  refine lv_if_ne (tgt := 14) X.1 X.2.1 dX9_wide_8 (by decide) (fun c_3 => ?_) (fun c_3 => ?_)
  · replace hm := it_n hm c_3
    refine lv_aload_n X.1 X.2.1 dX9_wide_14 rfl (lv_at hl 0 rfl) ?_
    refine gX9_shared X hw wq_2_2 dX9_wide_15 ?_
    refine lv_iload_n X.1 X.2.1 dX9_wide_18 rfl (lv_at hl 1 rfl) ?_
    replace hm := ob_e hm
    obtain ⟨⟨r_5, b_6⟩, h_4, hm⟩ := hm
    replace hm := un_e hm
    refine k_Vi (k := 12) (As := [.int x1]) X hl.1 hw (c_X6_widthBehind h_4) (by decide) (he_X6 g h _ _) rfl ⟨wq_25_23, wq_23_2, wq_23_3, wq_2_1, wq_23_4⟩ yo_X6_widthBehind rfl ⟨Nat.le_of_ble_eq_true rfl, Nat.le_of_ble_eq_true rfl⟩ (Nat.le_of_ble_eq_true rfl) dX9_wide_19 (fun H locs hw => ?_)
    obtain ⟨rfl, rfl⟩ := Prod.mk.inj (Option.some.inj hm)
    exact hret _ _ _ _ hw dX9_wide_22
  · replace hm := it_p hm c_3
    refine lv_bipush (v := -2) X.1 X.2.1 dX9_wide_11 (by decide) ?_
    obtain ⟨rfl, rfl⟩ := Prod.mk.inj (Option.some.inj hm)
    exact hret _ _ _ _ hw dX9_wide_13
def m_X9_widest (b : ST) : Option (Int32 × ST) := Option.bind (m_X6_greatestWidth b) (fun (q_4 : Int32 × ST) => un q_4 (fun r_2 b_3 => some (r_2, b_3)))
theorem yo_X9_widest : yX9_widest.cls = RX9 ∧ yX9_widest.cls ≠ "java/lang/invoke/MethodHandle" ∧ yX9_widest.cls ≠ "java/lang/invoke/VarHandle" ∧ (parseMethodDescriptor yX9_widest.desc).map (fun d => d.parameters.length) = some 0 := by decide +kernel
set_option maxHeartbeats 4000000 in
set_option maxRecDepth 100000 in
theorem c_X9_widest {l : Launch} {g : gT} {h : Nat → Nat} {b : ST} {w : Nat → ST} {r : Int32} {b' : ST} (hm : m_X9_widest b = some (r, b')) : MetI l g yX9_widest cX9_widest 1 (some .int) 6 138 79 h (cC g h (b, w)) (cC g h (b', w)) [.ref (h 0)] r := by
  refine MetI.ofX (by decide +kernel) (Nat.le_of_ble_eq_true rfl) ?_
  intro p e s m below meth c AV Q X hret ls hw hl
  replace X : Cx g p s m AV c cX9_widest RX9 1 := X
  replace hl : lv_has ls 1 [(0, .ref (h 0))] := hl
  unfold m_X9_widest at hm
  refine lv_aload_n X.1 X.2.1 dX9_widest_0 rfl (lv_at hl 0 rfl) ?_
  refine gX9_shared X hw wq_2_2 dX9_widest_1 ?_
  replace hm := ob_e hm
  obtain ⟨⟨r_2, b_3⟩, h_1, hm⟩ := hm
  replace hm := un_e hm
  refine k_Vi (k := 12) (As := []) X hl.1 hw (c_X6_greatestWidth h_1) (by decide) (he_X6 g h _ _) rfl ⟨wq_22_19, wq_22_20, wq_22_21, wq_2_1, wq_22_22⟩ yo_X6_greatestWidth rfl ⟨Nat.le_of_ble_eq_true rfl, Nat.le_of_ble_eq_true rfl⟩ (Nat.le_of_ble_eq_true rfl) dX9_widest_4 (fun H locs hw => ?_)
  obtain ⟨rfl, rfl⟩ := Prod.mk.inj (Option.some.inj hm)
  exact hret _ _ _ _ hw dX9_widest_7
def m_X9_pair (b : ST) (x1 : Int32) (x2 : Int32) (x3 : Int32) : Option (Int64 × ST) := Option.bind (m_X2_hasStation b (x1.toInt64)) (fun (r_2 : Int32) => Option.bind ((if r_2 = 0 then some (.inl ()) else Option.bind (m_X2_hasStation b (x2.toInt64)) (fun (r_10 : Int32) => if r_10 = 0 then some (.inl ()) else Option.bind (m_X9_isSide x3) (fun (r_13 : Int32) => if r_13 = 0 then some (.inl ()) else Option.bind (m_X3_fill b) (fun (b_16 : ST) => Option.bind (m_X3_pairParts b_16 x1 x2) (fun (r_18 : Int64) => Option.bind (m_X3_told b_16 r_18 x3) (fun (r_20 : Int64) => some (.inr (r_20, b_16)))))))) : Option ((Unit) ⊕ (Int64 × ST))) (fun z_22 => ex z_22 (fun (_ : Unit) => Option.bind (m_X9_refused (-2 : Int32)) (fun (r_5 : Int64) => some (r_5, b))) (fun r => some r)))
theorem yo_X9_pair : yX9_pair.cls = RX9 ∧ yX9_pair.cls ≠ "java/lang/invoke/MethodHandle" ∧ yX9_pair.cls ≠ "java/lang/invoke/VarHandle" ∧ (parseMethodDescriptor yX9_pair.desc).map (fun d => d.parameters.length) = some 3 := by decide +kernel
set_option maxHeartbeats 4000000 in
set_option maxRecDepth 100000 in
theorem c_X9_pair {l : Launch} {g : gT} {h : Nat → Nat} {b : ST} {w : Nat → ST} {x1 : Int32} {x2 : Int32} {x3 : Int32} {r : Int64} {b' : ST} (hm : m_X9_pair b x1 x2 x3 = some (r, b')) : MetL l g yX9_pair cX9_pair 4 (some .long) 5 108 79 h (cC g h (b, w)) (cC g h (b', w)) [.ref (h 0), .int x1, .int x2, .int x3] r := by
  refine MetL.ofX (by decide +kernel) (Nat.le_of_ble_eq_true rfl) ?_
  intro p e s m below meth c AV Q X hret ls hw hl
  replace X : Cx g p s m AV c cX9_pair RX9 4 := X
  replace hl : lv_has ls 4 [(0, .ref (h 0)), (1, .int x1), (2, .int x2), (3, .int x3)] := hl
  unfold m_X9_pair at hm
  refine lv_aload_n X.1 X.2.1 dX9_pair_0 rfl (lv_at hl 0 rfl) ?_
  refine gX9_net X hw wq_1_14 dX9_pair_1 ?_
  refine lv_iload_n X.1 X.2.1 dX9_pair_4 rfl (lv_at hl 1 rfl) ?_
  refine lv_i2l X.1 X.2.1 dX9_pair_5 rfl ?_
  replace hm := ob_e hm
  obtain ⟨r_2, h_1, hm⟩ := hm
  refine k_Vi (k := 1) (As := [.long x1.toInt64]) X hl.1 hw (c_X2_hasStation h_1) (by decide) (he_X2 g h _ _) rfl ⟨wq_9_5, wq_6_15, wq_6_16, wq_1_13, wq_6_17⟩ yo_X2_hasStation rfl ⟨Nat.le_of_ble_eq_true rfl, Nat.le_of_ble_eq_true rfl⟩ (Nat.le_of_ble_eq_true rfl) dX9_pair_6 (fun H locs hw => ?_)
  replace hm := ob_e hm
  obtain ⟨z_22, hg_7, hm⟩ := hm
  have J_8 : z_22 = .inl () → ∀ (H : Heap) (locs : List Loc) (ls : Array Slot), Wd g 79 h (cC g h (b, w)) s H locs → lv_has ls 4 [] → W p l e (rW 5 108) s m AV below meth c H locs 0 0 Q (F0 m 31 ls []) := by
    intro hj
    subst hj
    replace hm := ex_l hm
    intro H locs ls hw hl
    refine lv_bipush (v := -2) X.1 X.2.1 dX9_pair_31 (by decide) ?_
    replace hm := ob_e hm
    obtain ⟨r_5, h_4, hm⟩ := hm
    refine k_Sl (As := [.int (-2 : Int32)]) X hl.1 hw (c_X9_refused h_4) ⟨wq_12_12, wq_12_13, wq_1_2, wq_12_14⟩ yo_X9_refused rfl ⟨Nat.le_of_ble_eq_true rfl, Nat.le_of_ble_eq_true rfl⟩ (Nat.le_of_ble_eq_true rfl) dX9_pair_33 (fun H locs hw => ?_)
    obtain ⟨rfl, rfl⟩ := Prod.mk.inj (Option.some.inj hm)
    exact hret _ _ _ _ hw dX9_pair_36
  refine lv_if_eq (tgt := 31) X.1 X.2.1 dX9_pair_9 (by decide) (fun c_3 => ?_) (fun c_3 => ?_)
  · replace hg_7 := it_p hg_7 c_3
    exact J_8 (Option.some.inj hg_7).symm _ _ _ hw (lv_sub hl [] rfl)
  · replace hg_7 := it_n hg_7 c_3
    refine lv_aload_n X.1 X.2.1 dX9_pair_12 rfl (lv_at hl 0 rfl) ?_
    refine gX9_net X hw wq_1_14 dX9_pair_13 ?_
    refine lv_iload_n X.1 X.2.1 dX9_pair_16 rfl (lv_at hl 2 rfl) ?_
    refine lv_i2l X.1 X.2.1 dX9_pair_17 rfl ?_
    replace hg_7 := ob_e hg_7
    obtain ⟨r_10, h_9, hg_7⟩ := hg_7
    refine k_Vi (k := 1) (As := [.long x2.toInt64]) X hl.1 hw (c_X2_hasStation h_9) (by decide) (he_X2 g h _ _) rfl ⟨wq_9_5, wq_6_15, wq_6_16, wq_1_13, wq_6_17⟩ yo_X2_hasStation rfl ⟨Nat.le_of_ble_eq_true rfl, Nat.le_of_ble_eq_true rfl⟩ (Nat.le_of_ble_eq_true rfl) dX9_pair_18 (fun H locs hw => ?_)
    refine lv_if_eq (tgt := 31) X.1 X.2.1 dX9_pair_21 (by decide) (fun c_11 => ?_) (fun c_11 => ?_)
    · replace hg_7 := it_p hg_7 c_11
      exact J_8 (Option.some.inj hg_7).symm _ _ _ hw (lv_sub hl [] rfl)
    · replace hg_7 := it_n hg_7 c_11
      refine lv_iload_n X.1 X.2.1 dX9_pair_24 rfl (lv_at hl 3 rfl) ?_
      replace hg_7 := ob_e hg_7
      obtain ⟨r_13, h_12, hg_7⟩ := hg_7
      refine k_Si (As := [.int x3]) X hl.1 hw (c_X9_isSide h_12) ⟨wq_12_9, wq_12_10, wq_1_2, wq_12_11⟩ yo_X9_isSide rfl ⟨Nat.le_of_ble_eq_true rfl, Nat.le_of_ble_eq_true rfl⟩ (Nat.le_of_ble_eq_true rfl) dX9_pair_25 (fun H locs hw => ?_)
      refine lv_if_ne (tgt := 37) X.1 X.2.1 dX9_pair_28 (by decide) (fun c_14 => ?_) (fun c_14 => ?_)
      · replace hg_7 := it_n hg_7 c_14
        refine lv_aload_n X.1 X.2.1 dX9_pair_37 rfl (lv_at hl 0 rfl) ?_
        refine gX9_odds X hw wq_1_18 dX9_pair_38 ?_
        replace hg_7 := ob_e hg_7
        obtain ⟨b_16, h_15, hg_7⟩ := hg_7
        refine k_Vv (k := 8) (As := []) X hl.1 hw (c_X3_fill h_15) (by decide) (he_X3 g h _ _) rfl ⟨wq_12_16, wq_12_17, wq_12_18, wq_1_17, wq_12_19⟩ yo_X3_fill rfl ⟨Nat.le_of_ble_eq_true rfl, Nat.le_of_ble_eq_true rfl⟩ (Nat.le_of_ble_eq_true rfl) dX9_pair_41 (fun H locs hw => ?_)
        refine lv_aload_n X.1 X.2.1 dX9_pair_44 rfl (lv_at hl 0 rfl) ?_
        refine gX9_odds X hw wq_1_18 dX9_pair_45 ?_
        refine lv_aload_n X.1 X.2.1 dX9_pair_48 rfl (lv_at hl 0 rfl) ?_
        refine gX9_odds X hw wq_1_18 dX9_pair_49 ?_
        refine lv_iload_n X.1 X.2.1 dX9_pair_52 rfl (lv_at hl 1 rfl) ?_
        refine lv_iload_n X.1 X.2.1 dX9_pair_53 rfl (lv_at hl 2 rfl) ?_
        replace hg_7 := ob_e hg_7
        obtain ⟨r_18, h_17, hg_7⟩ := hg_7
        refine k_Vl (k := 8) (As := [.int x1, .int x2]) X hl.1 hw (c_X3_pairParts h_17) (by decide) (he_X3 g h _ _) rfl ⟨wq_22_0, wq_22_1, wq_22_2, wq_1_17, wq_22_3⟩ yo_X3_pairParts rfl ⟨Nat.le_of_ble_eq_true rfl, Nat.le_of_ble_eq_true rfl⟩ (Nat.le_of_ble_eq_true rfl) dX9_pair_54 (fun H locs hw => ?_)
        refine lv_iload_n X.1 X.2.1 dX9_pair_57 rfl (lv_at hl 3 rfl) ?_
        replace hg_7 := ob_e hg_7
        obtain ⟨r_20, h_19, hg_7⟩ := hg_7
        refine k_Vl (k := 8) (As := [.long r_18, .int x3]) X hl.1 hw (c_X3_told h_19) (by decide) (he_X3 g h _ _) rfl ⟨wq_14_3, wq_14_4, wq_14_5, wq_1_17, wq_14_6⟩ yo_X3_told rfl ⟨Nat.le_of_ble_eq_true rfl, Nat.le_of_ble_eq_true rfl⟩ (Nat.le_of_ble_eq_true rfl) dX9_pair_58 (fun H locs hw => ?_)
        obtain rfl := Option.some.inj hg_7
        replace hm := ex_r hm
        obtain ⟨rfl, rfl⟩ := Prod.mk.inj (Option.some.inj hm)
        exact hret _ _ _ _ hw dX9_pair_61
      · replace hg_7 := it_p hg_7 c_14
        exact J_8 (Option.some.inj hg_7).symm _ _ _ hw (lv_sub hl [] rfl)
def m_X9_rule (b : ST) (x1 : Int32) : Option (Int64 × ST) := Option.bind (m_X9_isSide x1) (fun (r_2 : Int32) => if r_2 = 0 then Option.bind (m_X9_refused (-2 : Int32)) (fun (r_12 : Int64) => some (r_12, b)) else Option.bind (m_X3_fill b) (fun (b_5 : ST) => Option.bind (m_X3_ruleParts b_5) (fun (r_7 : Int64) => Option.bind (m_X3_told b_5 r_7 x1) (fun (r_9 : Int64) => some (r_9, b_5)))))
theorem yo_X9_rule : yX9_rule.cls = RX9 ∧ yX9_rule.cls ≠ "java/lang/invoke/MethodHandle" ∧ yX9_rule.cls ≠ "java/lang/invoke/VarHandle" ∧ (parseMethodDescriptor yX9_rule.desc).map (fun d => d.parameters.length) = some 1 := by decide +kernel
set_option maxHeartbeats 4000000 in
set_option maxRecDepth 100000 in
theorem c_X9_rule {l : Launch} {g : gT} {h : Nat → Nat} {b : ST} {w : Nat → ST} {x1 : Int32} {r : Int64} {b' : ST} (hm : m_X9_rule b x1 = some (r, b')) : MetL l g yX9_rule cX9_rule 2 (some .long) 5 108 79 h (cC g h (b, w)) (cC g h (b', w)) [.ref (h 0), .int x1] r := by
  refine MetL.ofX (by decide +kernel) (Nat.le_of_ble_eq_true rfl) ?_
  intro p e s m below meth c AV Q X hret ls hw hl
  replace X : Cx g p s m AV c cX9_rule RX9 2 := X
  replace hl : lv_has ls 2 [(0, .ref (h 0)), (1, .int x1)] := hl
  unfold m_X9_rule at hm
  refine lv_iload_n X.1 X.2.1 dX9_rule_0 rfl (lv_at hl 1 rfl) ?_
  replace hm := ob_e hm
  obtain ⟨r_2, h_1, hm⟩ := hm
  refine k_Si (As := [.int x1]) X hl.1 hw (c_X9_isSide h_1) ⟨wq_12_9, wq_12_10, wq_1_2, wq_12_11⟩ yo_X9_isSide rfl ⟨Nat.le_of_ble_eq_true rfl, Nat.le_of_ble_eq_true rfl⟩ (Nat.le_of_ble_eq_true rfl) dX9_rule_1 (fun H locs hw => ?_)
  refine lv_if_ne (tgt := 13) X.1 X.2.1 dX9_rule_4 (by decide) (fun c_3 => ?_) (fun c_3 => ?_)
  · replace hm := it_n hm c_3
    refine lv_aload_n X.1 X.2.1 dX9_rule_13 rfl (lv_at hl 0 rfl) ?_
    refine gX9_odds X hw wq_1_18 dX9_rule_14 ?_
    replace hm := ob_e hm
    obtain ⟨b_5, h_4, hm⟩ := hm
    refine k_Vv (k := 8) (As := []) X hl.1 hw (c_X3_fill h_4) (by decide) (he_X3 g h _ _) rfl ⟨wq_12_16, wq_12_17, wq_12_18, wq_1_17, wq_12_19⟩ yo_X3_fill rfl ⟨Nat.le_of_ble_eq_true rfl, Nat.le_of_ble_eq_true rfl⟩ (Nat.le_of_ble_eq_true rfl) dX9_rule_17 (fun H locs hw => ?_)
    refine lv_aload_n X.1 X.2.1 dX9_rule_20 rfl (lv_at hl 0 rfl) ?_
    refine gX9_odds X hw wq_1_18 dX9_rule_21 ?_
    refine lv_aload_n X.1 X.2.1 dX9_rule_24 rfl (lv_at hl 0 rfl) ?_
    refine gX9_odds X hw wq_1_18 dX9_rule_25 ?_
    replace hm := ob_e hm
    obtain ⟨r_7, h_6, hm⟩ := hm
    refine k_Vl (k := 8) (As := []) X hl.1 hw (c_X3_ruleParts h_6) (by decide) (he_X3 g h _ _) rfl ⟨wq_22_9, wq_22_10, wq_22_11, wq_1_17, wq_22_12⟩ yo_X3_ruleParts rfl ⟨Nat.le_of_ble_eq_true rfl, Nat.le_of_ble_eq_true rfl⟩ (Nat.le_of_ble_eq_true rfl) dX9_rule_28 (fun H locs hw => ?_)
    refine lv_iload_n X.1 X.2.1 dX9_rule_31 rfl (lv_at hl 1 rfl) ?_
    replace hm := ob_e hm
    obtain ⟨r_9, h_8, hm⟩ := hm
    refine k_Vl (k := 8) (As := [.long r_7, .int x1]) X hl.1 hw (c_X3_told h_8) (by decide) (he_X3 g h _ _) rfl ⟨wq_14_3, wq_14_4, wq_14_5, wq_1_17, wq_14_6⟩ yo_X3_told rfl ⟨Nat.le_of_ble_eq_true rfl, Nat.le_of_ble_eq_true rfl⟩ (Nat.le_of_ble_eq_true rfl) dX9_rule_32 (fun H locs hw => ?_)
    obtain ⟨rfl, rfl⟩ := Prod.mk.inj (Option.some.inj hm)
    exact hret _ _ _ _ hw dX9_rule_35
  · replace hm := it_p hm c_3
    refine lv_bipush (v := -2) X.1 X.2.1 dX9_rule_7 (by decide) ?_
    replace hm := ob_e hm
    obtain ⟨r_12, h_11, hm⟩ := hm
    refine k_Sl (As := [.int (-2 : Int32)]) X hl.1 hw (c_X9_refused h_11) ⟨wq_12_12, wq_12_13, wq_1_2, wq_12_14⟩ yo_X9_refused rfl ⟨Nat.le_of_ble_eq_true rfl, Nat.le_of_ble_eq_true rfl⟩ (Nat.le_of_ble_eq_true rfl) dX9_rule_9 (fun H locs hw => ?_)
    obtain ⟨rfl, rfl⟩ := Prod.mk.inj (Option.some.inj hm)
    exact hret _ _ _ _ hw dX9_rule_12
def m_X9_sets (b : ST) (x1 : Int32) : Option (Int32 × ST) := if x1 < 0 then some ((-2 : Int32), b) else Option.bind (m_X2_linkCount b) (fun (r_4 : Int32) => if x1 ≤ r_4 then Option.bind (m_X5_fill b) (fun (b_7 : ST) => Option.bind (m_X5_ofSize b_7 x1) (fun (r_9 : Int32) => some (r_9, b_7))) else some ((-2 : Int32), b))
theorem yo_X9_sets : yX9_sets.cls = RX9 ∧ yX9_sets.cls ≠ "java/lang/invoke/MethodHandle" ∧ yX9_sets.cls ≠ "java/lang/invoke/VarHandle" ∧ (parseMethodDescriptor yX9_sets.desc).map (fun d => d.parameters.length) = some 1 := by decide +kernel
set_option maxHeartbeats 4000000 in
set_option maxRecDepth 100000 in
theorem c_X9_sets {l : Launch} {g : gT} {h : Nat → Nat} {b : ST} {w : Nat → ST} {x1 : Int32} {r : Int32} {b' : ST} (hm : m_X9_sets b x1 = some (r, b')) : MetI l g yX9_sets cX9_sets 2 (some .int) 4 87 79 h (cC g h (b, w)) (cC g h (b', w)) [.ref (h 0), .int x1] r := by
  refine MetI.ofX (by decide +kernel) (Nat.le_of_ble_eq_true rfl) ?_
  intro p e s m below meth c AV Q X hret ls hw hl
  replace X : Cx g p s m AV c cX9_sets RX9 2 := X
  replace hl : lv_has ls 2 [(0, .ref (h 0)), (1, .int x1)] := hl
  unfold m_X9_sets at hm
  refine lv_iload_n X.1 X.2.1 dX9_sets_0 rfl (lv_at hl 1 rfl) ?_
  refine lv_if_lt (tgt := 15) X.1 X.2.1 dX9_sets_1 (by decide) (fun c_1 => ?_) (fun c_1 => ?_)
  · replace hm := it_p hm c_1
    refine lv_bipush (v := -2) X.1 X.2.1 dX9_sets_15 (by decide) ?_
    obtain ⟨rfl, rfl⟩ := Prod.mk.inj (Option.some.inj hm)
    exact hret _ _ _ _ hw dX9_sets_17
  · replace hm := it_n hm c_1
    refine lv_iload_n X.1 X.2.1 dX9_sets_4 rfl (lv_at hl 1 rfl) ?_
    refine lv_aload_n X.1 X.2.1 dX9_sets_5 rfl (lv_at hl 0 rfl) ?_
    refine gX9_net X hw wq_1_14 dX9_sets_6 ?_
    replace hm := ob_e hm
    obtain ⟨r_4, h_3, hm⟩ := hm
    refine k_Vi (k := 1) (As := []) X hl.1 hw (c_X2_linkCount h_3) (by decide) (he_X2 g h _ _) rfl ⟨wq_10_10, wq_10_11, wq_10_12, wq_1_13, wq_10_13⟩ yo_X2_linkCount rfl ⟨Nat.le_of_ble_eq_true rfl, Nat.le_of_ble_eq_true rfl⟩ (Nat.le_of_ble_eq_true rfl) dX9_sets_9 (fun H locs hw => ?_)
    refine lv_icmp_le (tgt := 18) X.1 X.2.1 dX9_sets_12 (by decide) (fun c_5 => ?_) (fun c_5 => ?_)
    · replace hm := it_p hm c_5
      refine lv_aload_n X.1 X.2.1 dX9_sets_18 rfl (lv_at hl 0 rfl) ?_
      refine gX9_counts X hw wq_1_22 dX9_sets_19 ?_
      replace hm := ob_e hm
      obtain ⟨b_7, h_6, hm⟩ := hm
      refine k_Vv (k := 10) (As := []) X hl.1 hw (c_X5_fill h_6) (by decide) (he_X5 g h _ _) rfl ⟨wq_25_11, wq_25_12, wq_25_13, wq_1_21, wq_25_14⟩ yo_X5_fill rfl ⟨Nat.le_of_ble_eq_true rfl, Nat.le_of_ble_eq_true rfl⟩ (Nat.le_of_ble_eq_true rfl) dX9_sets_22 (fun H locs hw => ?_)
      refine lv_aload_n X.1 X.2.1 dX9_sets_25 rfl (lv_at hl 0 rfl) ?_
      refine gX9_counts X hw wq_1_22 dX9_sets_26 ?_
      refine lv_iload_n X.1 X.2.1 dX9_sets_29 rfl (lv_at hl 1 rfl) ?_
      replace hm := ob_e hm
      obtain ⟨r_9, h_8, hm⟩ := hm
      refine k_Vi (k := 10) (As := [.int x1]) X hl.1 hw (c_X5_ofSize h_8) (by decide) (he_X5 g h _ _) rfl ⟨wq_25_15, wq_25_16, wq_25_17, wq_1_21, wq_25_18⟩ yo_X5_ofSize rfl ⟨Nat.le_of_ble_eq_true rfl, Nat.le_of_ble_eq_true rfl⟩ (Nat.le_of_ble_eq_true rfl) dX9_sets_30 (fun H locs hw => ?_)
      obtain ⟨rfl, rfl⟩ := Prod.mk.inj (Option.some.inj hm)
      exact hret _ _ _ _ hw dX9_sets_33
    · replace hm := it_n hm c_5
      refine lv_bipush (v := -2) X.1 X.2.1 dX9_sets_15 (by decide) ?_
      obtain ⟨rfl, rfl⟩ := Prod.mk.inj (Option.some.inj hm)
      exact hret _ _ _ _ hw dX9_sets_17
def m_X9_alike (b : ST) (x1 : Int32) (x2 : Int32) (x3 : Int32) : Option (Int64) := Option.bind (m_X5_likeParts b x1 x2 x3) (fun (r_2 : Int64) => if 0 ≤ (lg_cmp r_2 (0 : Int64)) then some r_2 else Option.bind (m_X9_refused (-5 : Int32)) (fun (r_5 : Int64) => some r_5))
theorem yo_X9_alike : yX9_alike.cls = RX9 ∧ yX9_alike.cls ≠ "java/lang/invoke/MethodHandle" ∧ yX9_alike.cls ≠ "java/lang/invoke/VarHandle" ∧ (parseMethodDescriptor yX9_alike.desc).map (fun d => d.parameters.length) = some 3 := by decide +kernel
set_option maxHeartbeats 4000000 in
set_option maxRecDepth 100000 in
theorem c_X9_alike {l : Launch} {g : gT} {h : Nat → Nat} {b : ST} {w : Nat → ST} {x1 : Int32} {x2 : Int32} {x3 : Int32} {r : Int64} (hm : m_X9_alike b x1 x2 x3 = some r) : MetL l g yX9_alike cX9_alike 6 (some .long) 3 77 79 h (cC g h (b, w)) (cC g h (b, w)) [.ref (h 0), .int x1, .int x2, .int x3] r := by
  refine MetL.ofX (by decide +kernel) (Nat.le_of_ble_eq_true rfl) ?_
  intro p e s m below meth c AV Q X hret ls hw hl
  replace X : Cx g p s m AV c cX9_alike RX9 6 := X
  replace hl : lv_has ls 6 [(0, .ref (h 0)), (1, .int x1), (2, .int x2), (3, .int x3)] := hl
  unfold m_X9_alike at hm
  refine lv_aload_n X.1 X.2.1 dX9_alike_0 rfl (lv_at hl 0 rfl) ?_
  refine gX9_counts X hw wq_1_22 dX9_alike_1 ?_
  refine lv_iload_n X.1 X.2.1 dX9_alike_4 rfl (lv_at hl 1 rfl) ?_
  refine lv_iload_n X.1 X.2.1 dX9_alike_5 rfl (lv_at hl 2 rfl) ?_
  refine lv_iload_n X.1 X.2.1 dX9_alike_6 rfl (lv_at hl 3 rfl) ?_
  replace hm := ob_e hm
  obtain ⟨r_2, h_1, hm⟩ := hm
  refine k_Vl (k := 10) (As := [.int x1, .int x2, .int x3]) X hl.1 hw (c_X5_likeParts h_1) (by decide) (he_X5 g h _ _) rfl ⟨wq_26_16, wq_26_17, wq_26_18, wq_1_21, wq_26_19⟩ yo_X5_likeParts rfl ⟨Nat.le_of_ble_eq_true rfl, Nat.le_of_ble_eq_true rfl⟩ (Nat.le_of_ble_eq_true rfl) dX9_alike_7 (fun H locs hw => ?_)
  refine lv_lstore (lv' := [(4, .long r_2), (0, .ref (h 0)), (1, .int x1), (2, .int x2), (3, .int x3)]) X.1 X.2.1 dX9_alike_10 hl (by decide) rfl (fun ls hl => ?_)
  refine lv_lload X.1 X.2.1 dX9_alike_12 (lv_at hl 0 rfl) ?_
  refine lv_lconst (v := 0) X.1 X.2.1 dX9_alike_14 (by decide) ?_
  refine W.lcmp X.1 X.2.1 dX9_alike_15 ?_
  refine lv_if_ge (tgt := 27) X.1 X.2.1 dX9_alike_16 (by decide) (fun c_3 => ?_) (fun c_3 => ?_)
  · replace hm := it_p hm c_3
    refine lv_lload X.1 X.2.1 dX9_alike_27 (lv_at hl 0 rfl) ?_
    obtain rfl := Option.some.inj hm
    exact hret _ _ _ _ hw dX9_alike_29
  · replace hm := it_n hm c_3
    refine lv_bipush (v := -5) X.1 X.2.1 dX9_alike_19 (by decide) ?_
    replace hm := ob_e hm
    obtain ⟨r_5, h_4, hm⟩ := hm
    refine k_Sl (As := [.int (-5 : Int32)]) X hl.1 hw (c_X9_refused h_4) ⟨wq_12_12, wq_12_13, wq_1_2, wq_12_14⟩ yo_X9_refused rfl ⟨Nat.le_of_ble_eq_true rfl, Nat.le_of_ble_eq_true rfl⟩ (Nat.le_of_ble_eq_true rfl) dX9_alike_21 (fun H locs hw => ?_)
    refine lv_goto (tgt := 29) X.1 X.2.1 dX9_alike_24 (by decide) ?_
    obtain rfl := Option.some.inj hm
    exact hret _ _ _ _ hw dX9_alike_29
def m_X9_like (b : ST) (x1 : Int32) (x2 : Int32) (x3 : Int32) : Option (Int64 × ST) := Option.bind ((if x2 < (1 : Int32) then some (.inl ()) else if (99 : Int32) < x2 then some (.inl ()) else if x1 < 0 then some (.inl ()) else if x2 < x1 then some (.inl ()) else Option.bind (m_X9_isSide x3) (fun (r_11 : Int32) => if r_11 = 0 then some (.inl ()) else Option.bind (m_X5_fill b) (fun (b_14 : ST) => Option.bind (m_X9_alike b_14 x1 x2 x3) (fun (r_16 : Int64) => some (.inr (r_16, b_14)))))) : Option ((Unit) ⊕ (Int64 × ST))) (fun z_18 => ex z_18 (fun (_ : Unit) => Option.bind (m_X9_refused (-2 : Int32)) (fun (r_3 : Int64) => some (r_3, b))) (fun r => some r))
theorem yo_X9_like : yX9_like.cls = RX9 ∧ yX9_like.cls ≠ "java/lang/invoke/MethodHandle" ∧ yX9_like.cls ≠ "java/lang/invoke/VarHandle" ∧ (parseMethodDescriptor yX9_like.desc).map (fun d => d.parameters.length) = some 3 := by decide +kernel
set_option maxHeartbeats 4000000 in
set_option maxRecDepth 100000 in
theorem c_X9_like {l : Launch} {g : gT} {h : Nat → Nat} {b : ST} {w : Nat → ST} {x1 : Int32} {x2 : Int32} {x3 : Int32} {r : Int64} {b' : ST} (hm : m_X9_like b x1 x2 x3 = some (r, b')) : MetL l g yX9_like cX9_like 4 (some .long) 4 102 79 h (cC g h (b, w)) (cC g h (b', w)) [.ref (h 0), .int x1, .int x2, .int x3] r := by
  refine MetL.ofX (by decide +kernel) (Nat.le_of_ble_eq_true rfl) ?_
  intro p e s m below meth c AV Q X hret ls hw hl
  replace X : Cx g p s m AV c cX9_like RX9 4 := X
  replace hl : lv_has ls 4 [(0, .ref (h 0)), (1, .int x1), (2, .int x2), (3, .int x3)] := hl
  unfold m_X9_like at hm
  refine lv_iload_n X.1 X.2.1 dX9_like_0 rfl (lv_at hl 2 rfl) ?_
  refine lv_iconst (v := 1) X.1 X.2.1 dX9_like_1 (by decide) ?_
  replace hm := ob_e hm
  obtain ⟨z_18, hg_5, hm⟩ := hm
  have J_6 : z_18 = .inl () → ∀ (H : Heap) (locs : List Loc) (ls : Array Slot), Wd g 79 h (cC g h (b, w)) s H locs → lv_has ls 4 [] → W p l e (rW 4 102) s m AV below meth c H locs 0 0 Q (F0 m 27 ls []) := by
    intro hj
    subst hj
    replace hm := ex_l hm
    intro H locs ls hw hl
    refine lv_bipush (v := -2) X.1 X.2.1 dX9_like_27 (by decide) ?_
    replace hm := ob_e hm
    obtain ⟨r_3, h_2, hm⟩ := hm
    refine k_Sl (As := [.int (-2 : Int32)]) X hl.1 hw (c_X9_refused h_2) ⟨wq_12_12, wq_12_13, wq_1_2, wq_12_14⟩ yo_X9_refused rfl ⟨Nat.le_of_ble_eq_true rfl, Nat.le_of_ble_eq_true rfl⟩ (Nat.le_of_ble_eq_true rfl) dX9_like_29 (fun H locs hw => ?_)
    obtain ⟨rfl, rfl⟩ := Prod.mk.inj (Option.some.inj hm)
    exact hret _ _ _ _ hw dX9_like_32
  refine lv_icmp_lt (tgt := 27) X.1 X.2.1 dX9_like_2 (by decide) (fun c_1 => ?_) (fun c_1 => ?_)
  · replace hg_5 := it_p hg_5 c_1
    exact J_6 (Option.some.inj hg_5).symm _ _ _ hw (lv_sub hl [] rfl)
  · replace hg_5 := it_n hg_5 c_1
    refine lv_iload_n X.1 X.2.1 dX9_like_5 rfl (lv_at hl 2 rfl) ?_
    refine lv_bipush (v := 99) X.1 X.2.1 dX9_like_6 (by decide) ?_
    refine lv_icmp_gt (tgt := 27) X.1 X.2.1 dX9_like_8 (by decide) (fun c_7 => ?_) (fun c_7 => ?_)
    · replace hg_5 := it_p hg_5 c_7
      exact J_6 (Option.some.inj hg_5).symm _ _ _ hw (lv_sub hl [] rfl)
    · replace hg_5 := it_n hg_5 c_7
      refine lv_iload_n X.1 X.2.1 dX9_like_11 rfl (lv_at hl 1 rfl) ?_
      refine lv_if_lt (tgt := 27) X.1 X.2.1 dX9_like_12 (by decide) (fun c_8 => ?_) (fun c_8 => ?_)
      · replace hg_5 := it_p hg_5 c_8
        exact J_6 (Option.some.inj hg_5).symm _ _ _ hw (lv_sub hl [] rfl)
      · replace hg_5 := it_n hg_5 c_8
        refine lv_iload_n X.1 X.2.1 dX9_like_15 rfl (lv_at hl 1 rfl) ?_
        refine lv_iload_n X.1 X.2.1 dX9_like_16 rfl (lv_at hl 2 rfl) ?_
        refine lv_icmp_gt (tgt := 27) X.1 X.2.1 dX9_like_17 (by decide) (fun c_9 => ?_) (fun c_9 => ?_)
        · replace hg_5 := it_p hg_5 c_9
          exact J_6 (Option.some.inj hg_5).symm _ _ _ hw (lv_sub hl [] rfl)
        · replace hg_5 := it_n hg_5 c_9
          refine lv_iload_n X.1 X.2.1 dX9_like_20 rfl (lv_at hl 3 rfl) ?_
          replace hg_5 := ob_e hg_5
          obtain ⟨r_11, h_10, hg_5⟩ := hg_5
          refine k_Si (As := [.int x3]) X hl.1 hw (c_X9_isSide h_10) ⟨wq_12_9, wq_12_10, wq_1_2, wq_12_11⟩ yo_X9_isSide rfl ⟨Nat.le_of_ble_eq_true rfl, Nat.le_of_ble_eq_true rfl⟩ (Nat.le_of_ble_eq_true rfl) dX9_like_21 (fun H locs hw => ?_)
          refine lv_if_ne (tgt := 33) X.1 X.2.1 dX9_like_24 (by decide) (fun c_12 => ?_) (fun c_12 => ?_)
          · replace hg_5 := it_n hg_5 c_12
            refine lv_aload_n X.1 X.2.1 dX9_like_33 rfl (lv_at hl 0 rfl) ?_
            refine gX9_counts X hw wq_1_22 dX9_like_34 ?_
            replace hg_5 := ob_e hg_5
            obtain ⟨b_14, h_13, hg_5⟩ := hg_5
            refine k_Vv (k := 10) (As := []) X hl.1 hw (c_X5_fill h_13) (by decide) (he_X5 g h _ _) rfl ⟨wq_25_11, wq_25_12, wq_25_13, wq_1_21, wq_25_14⟩ yo_X5_fill rfl ⟨Nat.le_of_ble_eq_true rfl, Nat.le_of_ble_eq_true rfl⟩ (Nat.le_of_ble_eq_true rfl) dX9_like_37 (fun H locs hw => ?_)
            refine lv_aload_n X.1 X.2.1 dX9_like_40 rfl (lv_at hl 0 rfl) ?_
            refine lv_iload_n X.1 X.2.1 dX9_like_41 rfl (lv_at hl 1 rfl) ?_
            refine lv_iload_n X.1 X.2.1 dX9_like_42 rfl (lv_at hl 2 rfl) ?_
            refine lv_iload_n X.1 X.2.1 dX9_like_43 rfl (lv_at hl 3 rfl) ?_
            replace hg_5 := ob_e hg_5
            obtain ⟨r_16, h_15, hg_5⟩ := hg_5
            refine k_Vl (k := 0) (As := [.int x1, .int x2, .int x3]) X hl.1 hw (c_X9_alike h_15) (by decide) (he_X9 g h _ _) rfl ⟨wq_26_12, wq_26_13, wq_26_14, wq_1_2, wq_26_15⟩ yo_X9_alike rfl ⟨Nat.le_of_ble_eq_true rfl, Nat.le_of_ble_eq_true rfl⟩ (Nat.le_of_ble_eq_true rfl) dX9_like_44 (fun H locs hw => ?_)
            obtain rfl := Option.some.inj hg_5
            replace hm := ex_r hm
            obtain ⟨rfl, rfl⟩ := Prod.mk.inj (Option.some.inj hm)
            exact hret _ _ _ _ hw dX9_like_47
          · replace hg_5 := it_p hg_5 c_12
            exact J_6 (Option.some.inj hg_5).symm _ _ _ hw (lv_sub hl [] rfl)
def m_X9_least (b : ST) (x1 : Int32) : Option (Int32) := Option.bind (m_X9_isSide x1) (fun (r_2 : Int32) => if r_2 = 0 then some (-2 : Int32) else if x1 = 0 then Option.bind (m_X5_leastCut b) (fun (r_8 : Int32) => some r_8) else Option.bind (m_X5_leastWay b) (fun (r_6 : Int32) => some r_6))
theorem yo_X9_least : yX9_least.cls = RX9 ∧ yX9_least.cls ≠ "java/lang/invoke/MethodHandle" ∧ yX9_least.cls ≠ "java/lang/invoke/VarHandle" ∧ (parseMethodDescriptor yX9_least.desc).map (fun d => d.parameters.length) = some 1 := by decide +kernel
set_option maxHeartbeats 4000000 in
set_option maxRecDepth 100000 in
theorem c_X9_least {l : Launch} {g : gT} {h : Nat → Nat} {b : ST} {w : Nat → ST} {x1 : Int32} {r : Int32} (hm : m_X9_least b x1 = some r) : MetI l g yX9_least cX9_least 2 (some .int) 4 87 79 h (cC g h (b, w)) (cC g h (b, w)) [.ref (h 0), .int x1] r := by
  refine MetI.ofX (by decide +kernel) (Nat.le_of_ble_eq_true rfl) ?_
  intro p e s m below meth c AV Q X hret ls hw hl
  replace X : Cx g p s m AV c cX9_least RX9 2 := X
  replace hl : lv_has ls 2 [(0, .ref (h 0)), (1, .int x1)] := hl
  unfold m_X9_least at hm
  refine lv_iload_n X.1 X.2.1 dX9_least_0 rfl (lv_at hl 1 rfl) ?_
  replace hm := ob_e hm
  obtain ⟨r_2, h_1, hm⟩ := hm
  refine k_Si (As := [.int x1]) X hl.1 hw (c_X9_isSide h_1) ⟨wq_12_9, wq_12_10, wq_1_2, wq_12_11⟩ yo_X9_isSide rfl ⟨Nat.le_of_ble_eq_true rfl, Nat.le_of_ble_eq_true rfl⟩ (Nat.le_of_ble_eq_true rfl) dX9_least_1 (fun H locs hw => ?_)
  refine lv_if_ne (tgt := 10) X.1 X.2.1 dX9_least_4 (by decide) (fun c_3 => ?_) (fun c_3 => ?_)
  · replace hm := it_n hm c_3
    refine lv_iload_n X.1 X.2.1 dX9_least_10 rfl (lv_at hl 1 rfl) ?_
    refine lv_if_ne (tgt := 24) X.1 X.2.1 dX9_least_11 (by decide) (fun c_4 => ?_) (fun c_4 => ?_)
    · replace hm := it_n hm c_4
      refine lv_aload_n X.1 X.2.1 dX9_least_24 rfl (lv_at hl 0 rfl) ?_
      refine gX9_counts X hw wq_1_22 dX9_least_25 ?_
      replace hm := ob_e hm
      obtain ⟨r_6, h_5, hm⟩ := hm
      refine k_Vi (k := 10) (As := []) X hl.1 hw (c_X5_leastWay h_5) (by decide) (he_X5 g h _ _) rfl ⟨wq_25_3, wq_25_4, wq_25_5, wq_1_21, wq_25_6⟩ yo_X5_leastWay rfl ⟨Nat.le_of_ble_eq_true rfl, Nat.le_of_ble_eq_true rfl⟩ (Nat.le_of_ble_eq_true rfl) dX9_least_28 (fun H locs hw => ?_)
      obtain rfl := Option.some.inj hm
      exact hret _ _ _ _ hw dX9_least_31
    · replace hm := it_p hm c_4
      refine lv_aload_n X.1 X.2.1 dX9_least_14 rfl (lv_at hl 0 rfl) ?_
      refine gX9_counts X hw wq_1_22 dX9_least_15 ?_
      replace hm := ob_e hm
      obtain ⟨r_8, h_7, hm⟩ := hm
      refine k_Vi (k := 10) (As := []) X hl.1 hw (c_X5_leastCut h_7) (by decide) (he_X5 g h _ _) rfl ⟨wq_24_16, wq_24_17, wq_24_18, wq_1_21, wq_24_19⟩ yo_X5_leastCut rfl ⟨Nat.le_of_ble_eq_true rfl, Nat.le_of_ble_eq_true rfl⟩ (Nat.le_of_ble_eq_true rfl) dX9_least_18 (fun H locs hw => ?_)
      refine lv_goto (tgt := 31) X.1 X.2.1 dX9_least_21 (by decide) ?_
      obtain rfl := Option.some.inj hm
      exact hret _ _ _ _ hw dX9_least_31
  · replace hm := it_p hm c_3
    refine lv_bipush (v := -2) X.1 X.2.1 dX9_least_7 (by decide) ?_
    obtain rfl := Option.some.inj hm
    exact hret _ _ _ _ hw dX9_least_9
def m_X9_worth (b : ST) (x1 : Int32) (x2 : Int32) : Option (Int64 × ST) := Option.bind (m_X2_hasLink b x1) (fun (r_2 : Int32) => Option.bind ((if r_2 = 0 then some (.inl ()) else Option.bind (m_X9_isSide x2) (fun (r_10 : Int32) => if r_10 = 0 then some (.inl ()) else Option.bind (m_X3_fill b) (fun (b_13 : ST) => Option.bind (m_X3_worthParts b_13 x1) (fun (r_15 : Int64) => Option.bind (m_X3_told b_13 r_15 x2) (fun (r_17 : Int64) => some (.inr (r_17, b_13))))))) : Option ((Unit) ⊕ (Int64 × ST))) (fun z_19 => ex z_19 (fun (_ : Unit) => Option.bind (m_X9_refused (-2 : Int32)) (fun (r_5 : Int64) => some (r_5, b))) (fun r => some r)))
theorem yo_X9_worth : yX9_worth.cls = RX9 ∧ yX9_worth.cls ≠ "java/lang/invoke/MethodHandle" ∧ yX9_worth.cls ≠ "java/lang/invoke/VarHandle" ∧ (parseMethodDescriptor yX9_worth.desc).map (fun d => d.parameters.length) = some 2 := by decide +kernel
set_option maxHeartbeats 4000000 in
set_option maxRecDepth 100000 in
theorem c_X9_worth {l : Launch} {g : gT} {h : Nat → Nat} {b : ST} {w : Nat → ST} {x1 : Int32} {x2 : Int32} {r : Int64} {b' : ST} (hm : m_X9_worth b x1 x2 = some (r, b')) : MetL l g yX9_worth cX9_worth 3 (some .long) 5 108 79 h (cC g h (b, w)) (cC g h (b', w)) [.ref (h 0), .int x1, .int x2] r := by
  refine MetL.ofX (by decide +kernel) (Nat.le_of_ble_eq_true rfl) ?_
  intro p e s m below meth c AV Q X hret ls hw hl
  replace X : Cx g p s m AV c cX9_worth RX9 3 := X
  replace hl : lv_has ls 3 [(0, .ref (h 0)), (1, .int x1), (2, .int x2)] := hl
  unfold m_X9_worth at hm
  refine lv_aload_n X.1 X.2.1 dX9_worth_0 rfl (lv_at hl 0 rfl) ?_
  refine gX9_net X hw wq_1_14 dX9_worth_1 ?_
  refine lv_iload_n X.1 X.2.1 dX9_worth_4 rfl (lv_at hl 1 rfl) ?_
  replace hm := ob_e hm
  obtain ⟨r_2, h_1, hm⟩ := hm
  refine k_Vi (k := 1) (As := [.int x1]) X hl.1 hw (c_X2_hasLink h_1) (by decide) (he_X2 g h _ _) rfl ⟨wq_8_16, wq_7_23, wq_8_0, wq_1_13, wq_8_1⟩ yo_X2_hasLink rfl ⟨Nat.le_of_ble_eq_true rfl, Nat.le_of_ble_eq_true rfl⟩ (Nat.le_of_ble_eq_true rfl) dX9_worth_5 (fun H locs hw => ?_)
  replace hm := ob_e hm
  obtain ⟨z_19, hg_7, hm⟩ := hm
  have J_8 : z_19 = .inl () → ∀ (H : Heap) (locs : List Loc) (ls : Array Slot), Wd g 79 h (cC g h (b, w)) s H locs → lv_has ls 3 [] → W p l e (rW 5 108) s m AV below meth c H locs 0 0 Q (F0 m 18 ls []) := by
    intro hj
    subst hj
    replace hm := ex_l hm
    intro H locs ls hw hl
    refine lv_bipush (v := -2) X.1 X.2.1 dX9_worth_18 (by decide) ?_
    replace hm := ob_e hm
    obtain ⟨r_5, h_4, hm⟩ := hm
    refine k_Sl (As := [.int (-2 : Int32)]) X hl.1 hw (c_X9_refused h_4) ⟨wq_12_12, wq_12_13, wq_1_2, wq_12_14⟩ yo_X9_refused rfl ⟨Nat.le_of_ble_eq_true rfl, Nat.le_of_ble_eq_true rfl⟩ (Nat.le_of_ble_eq_true rfl) dX9_worth_20 (fun H locs hw => ?_)
    obtain ⟨rfl, rfl⟩ := Prod.mk.inj (Option.some.inj hm)
    exact hret _ _ _ _ hw dX9_worth_23
  refine lv_if_eq (tgt := 18) X.1 X.2.1 dX9_worth_8 (by decide) (fun c_3 => ?_) (fun c_3 => ?_)
  · replace hg_7 := it_p hg_7 c_3
    exact J_8 (Option.some.inj hg_7).symm _ _ _ hw (lv_sub hl [] rfl)
  · replace hg_7 := it_n hg_7 c_3
    refine lv_iload_n X.1 X.2.1 dX9_worth_11 rfl (lv_at hl 2 rfl) ?_
    replace hg_7 := ob_e hg_7
    obtain ⟨r_10, h_9, hg_7⟩ := hg_7
    refine k_Si (As := [.int x2]) X hl.1 hw (c_X9_isSide h_9) ⟨wq_12_9, wq_12_10, wq_1_2, wq_12_11⟩ yo_X9_isSide rfl ⟨Nat.le_of_ble_eq_true rfl, Nat.le_of_ble_eq_true rfl⟩ (Nat.le_of_ble_eq_true rfl) dX9_worth_12 (fun H locs hw => ?_)
    refine lv_if_ne (tgt := 24) X.1 X.2.1 dX9_worth_15 (by decide) (fun c_11 => ?_) (fun c_11 => ?_)
    · replace hg_7 := it_n hg_7 c_11
      refine lv_aload_n X.1 X.2.1 dX9_worth_24 rfl (lv_at hl 0 rfl) ?_
      refine gX9_odds X hw wq_1_18 dX9_worth_25 ?_
      replace hg_7 := ob_e hg_7
      obtain ⟨b_13, h_12, hg_7⟩ := hg_7
      refine k_Vv (k := 8) (As := []) X hl.1 hw (c_X3_fill h_12) (by decide) (he_X3 g h _ _) rfl ⟨wq_12_16, wq_12_17, wq_12_18, wq_1_17, wq_12_19⟩ yo_X3_fill rfl ⟨Nat.le_of_ble_eq_true rfl, Nat.le_of_ble_eq_true rfl⟩ (Nat.le_of_ble_eq_true rfl) dX9_worth_28 (fun H locs hw => ?_)
      refine lv_aload_n X.1 X.2.1 dX9_worth_31 rfl (lv_at hl 0 rfl) ?_
      refine gX9_odds X hw wq_1_18 dX9_worth_32 ?_
      refine lv_aload_n X.1 X.2.1 dX9_worth_35 rfl (lv_at hl 0 rfl) ?_
      refine gX9_odds X hw wq_1_18 dX9_worth_36 ?_
      refine lv_iload_n X.1 X.2.1 dX9_worth_39 rfl (lv_at hl 1 rfl) ?_
      replace hg_7 := ob_e hg_7
      obtain ⟨r_15, h_14, hg_7⟩ := hg_7
      refine k_Vl (k := 8) (As := [.int x1]) X hl.1 hw (c_X3_worthParts h_14) (by decide) (he_X3 g h _ _) rfl ⟨wq_20_19, wq_20_20, wq_20_21, wq_1_17, wq_20_22⟩ yo_X3_worthParts rfl ⟨Nat.le_of_ble_eq_true rfl, Nat.le_of_ble_eq_true rfl⟩ (Nat.le_of_ble_eq_true rfl) dX9_worth_40 (fun H locs hw => ?_)
      refine lv_iload_n X.1 X.2.1 dX9_worth_43 rfl (lv_at hl 2 rfl) ?_
      replace hg_7 := ob_e hg_7
      obtain ⟨r_17, h_16, hg_7⟩ := hg_7
      refine k_Vl (k := 8) (As := [.long r_15, .int x2]) X hl.1 hw (c_X3_told h_16) (by decide) (he_X3 g h _ _) rfl ⟨wq_14_3, wq_14_4, wq_14_5, wq_1_17, wq_14_6⟩ yo_X3_told rfl ⟨Nat.le_of_ble_eq_true rfl, Nat.le_of_ble_eq_true rfl⟩ (Nat.le_of_ble_eq_true rfl) dX9_worth_44 (fun H locs hw => ?_)
      obtain rfl := Option.some.inj hg_7
      replace hm := ex_r hm
      obtain ⟨rfl, rfl⟩ := Prod.mk.inj (Option.some.inj hm)
      exact hret _ _ _ _ hw dX9_worth_47
    · replace hg_7 := it_p hg_7 c_11
      exact J_8 (Option.some.inj hg_7).symm _ _ _ hw (lv_sub hl [] rfl)
def m_X9_worthiest (b : ST) : Option (Int32 × ST) := Option.bind (m_X3_fill b) (fun (b_2 : ST) => Option.bind (m_X3_worthiestLink b_2) (fun (r_4 : Int32) => some (r_4, b_2)))
theorem yo_X9_worthiest : yX9_worthiest.cls = RX9 ∧ yX9_worthiest.cls ≠ "java/lang/invoke/MethodHandle" ∧ yX9_worthiest.cls ≠ "java/lang/invoke/VarHandle" ∧ (parseMethodDescriptor yX9_worthiest.desc).map (fun d => d.parameters.length) = some 0 := by decide +kernel
set_option maxHeartbeats 4000000 in
set_option maxRecDepth 100000 in
theorem c_X9_worthiest {l : Launch} {g : gT} {h : Nat → Nat} {b : ST} {w : Nat → ST} {r : Int32} {b' : ST} (hm : m_X9_worthiest b = some (r, b')) : MetI l g yX9_worthiest cX9_worthiest 1 (some .int) 5 116 79 h (cC g h (b, w)) (cC g h (b', w)) [.ref (h 0)] r := by
  refine MetI.ofX (by decide +kernel) (Nat.le_of_ble_eq_true rfl) ?_
  intro p e s m below meth c AV Q X hret ls hw hl
  replace X : Cx g p s m AV c cX9_worthiest RX9 1 := X
  replace hl : lv_has ls 1 [(0, .ref (h 0))] := hl
  unfold m_X9_worthiest at hm
  refine lv_aload_n X.1 X.2.1 dX9_worthiest_0 rfl (lv_at hl 0 rfl) ?_
  refine gX9_odds X hw wq_1_18 dX9_worthiest_1 ?_
  replace hm := ob_e hm
  obtain ⟨b_2, h_1, hm⟩ := hm
  refine k_Vv (k := 8) (As := []) X hl.1 hw (c_X3_fill h_1) (by decide) (he_X3 g h _ _) rfl ⟨wq_12_16, wq_12_17, wq_12_18, wq_1_17, wq_12_19⟩ yo_X3_fill rfl ⟨Nat.le_of_ble_eq_true rfl, Nat.le_of_ble_eq_true rfl⟩ (Nat.le_of_ble_eq_true rfl) dX9_worthiest_4 (fun H locs hw => ?_)
  refine lv_aload_n X.1 X.2.1 dX9_worthiest_7 rfl (lv_at hl 0 rfl) ?_
  refine gX9_odds X hw wq_1_18 dX9_worthiest_8 ?_
  replace hm := ob_e hm
  obtain ⟨r_4, h_3, hm⟩ := hm
  refine k_Vi (k := 8) (As := []) X hl.1 hw (c_X3_worthiestLink h_3) (by decide) (he_X3 g h _ _) rfl ⟨wq_21_7, wq_21_8, wq_21_9, wq_1_17, wq_21_10⟩ yo_X3_worthiestLink rfl ⟨Nat.le_of_ble_eq_true rfl, Nat.le_of_ble_eq_true rfl⟩ (Nat.le_of_ble_eq_true rfl) dX9_worthiest_11 (fun H locs hw => ?_)
  obtain ⟨rfl, rfl⟩ := Prod.mk.inj (Option.some.inj hm)
  exact hret _ _ _ _ hw dX9_worthiest_14
def m_X9_better (b : ST) (x1 : Int32) (x2 : Int32) (x3 : Int32) (x4 : Int32) : Option (Int64 × ST) := Option.bind (m_X2_hasLink b x1) (fun (r_2 : Int32) => Option.bind ((if r_2 = 0 then some (.inl ()) else Option.bind (m_X1_isChance (x2.toInt64) (x3.toInt64)) (fun (r_10 : Int32) => if r_10 = 0 then some (.inl ()) else Option.bind (m_X9_isSide x4) (fun (r_13 : Int32) => if r_13 = 0 then some (.inl ()) else Option.bind (m_X3_fillWith b x1 x2 x3) (fun (b_16 : ST) => Option.bind (m_X3_reachParts b_16) (fun (r_18 : Int64) => Option.bind (m_X3_told b_16 r_18 x4) (fun (r_20 : Int64) => some (.inr (r_20, b_16)))))))) : Option ((Unit) ⊕ (Int64 × ST))) (fun z_22 => ex z_22 (fun (_ : Unit) => Option.bind (m_X9_refused (-2 : Int32)) (fun (r_5 : Int64) => some (r_5, b))) (fun r => some r)))
theorem yo_X9_better : yX9_better.cls = RX9 ∧ yX9_better.cls ≠ "java/lang/invoke/MethodHandle" ∧ yX9_better.cls ≠ "java/lang/invoke/VarHandle" ∧ (parseMethodDescriptor yX9_better.desc).map (fun d => d.parameters.length) = some 4 := by decide +kernel
set_option maxHeartbeats 4000000 in
set_option maxRecDepth 100000 in
theorem c_X9_better {l : Launch} {g : gT} {h : Nat → Nat} {b : ST} {w : Nat → ST} {x1 : Int32} {x2 : Int32} {x3 : Int32} {x4 : Int32} {r : Int64} {b' : ST} (hm : m_X9_better b x1 x2 x3 x4 = some (r, b')) : MetL l g yX9_better cX9_better 5 (some .long) 4 88 79 h (cC g h (b, w)) (cC g h (b', w)) [.ref (h 0), .int x1, .int x2, .int x3, .int x4] r := by
  refine MetL.ofX (by decide +kernel) (Nat.le_of_ble_eq_true rfl) ?_
  intro p e s m below meth c AV Q X hret ls hw hl
  replace X : Cx g p s m AV c cX9_better RX9 5 := X
  replace hl : lv_has ls 5 [(0, .ref (h 0)), (1, .int x1), (2, .int x2), (3, .int x3), (4, .int x4)] := hl
  unfold m_X9_better at hm
  refine lv_aload_n X.1 X.2.1 dX9_better_0 rfl (lv_at hl 0 rfl) ?_
  refine gX9_net X hw wq_1_14 dX9_better_1 ?_
  refine lv_iload_n X.1 X.2.1 dX9_better_4 rfl (lv_at hl 1 rfl) ?_
  replace hm := ob_e hm
  obtain ⟨r_2, h_1, hm⟩ := hm
  refine k_Vi (k := 1) (As := [.int x1]) X hl.1 hw (c_X2_hasLink h_1) (by decide) (he_X2 g h _ _) rfl ⟨wq_8_16, wq_7_23, wq_8_0, wq_1_13, wq_8_1⟩ yo_X2_hasLink rfl ⟨Nat.le_of_ble_eq_true rfl, Nat.le_of_ble_eq_true rfl⟩ (Nat.le_of_ble_eq_true rfl) dX9_better_5 (fun H locs hw => ?_)
  replace hm := ob_e hm
  obtain ⟨z_22, hg_7, hm⟩ := hm
  have J_8 : z_22 = .inl () → ∀ (H : Heap) (locs : List Loc) (ls : Array Slot), Wd g 79 h (cC g h (b, w)) s H locs → lv_has ls 5 [] → W p l e (rW 4 88) s m AV below meth c H locs 0 0 Q (F0 m 29 ls []) := by
    intro hj
    subst hj
    replace hm := ex_l hm
    intro H locs ls hw hl
    refine lv_bipush (v := -2) X.1 X.2.1 dX9_better_29 (by decide) ?_
    replace hm := ob_e hm
    obtain ⟨r_5, h_4, hm⟩ := hm
    refine k_Sl (As := [.int (-2 : Int32)]) X hl.1 hw (c_X9_refused h_4) ⟨wq_12_12, wq_12_13, wq_1_2, wq_12_14⟩ yo_X9_refused rfl ⟨Nat.le_of_ble_eq_true rfl, Nat.le_of_ble_eq_true rfl⟩ (Nat.le_of_ble_eq_true rfl) dX9_better_31 (fun H locs hw => ?_)
    obtain ⟨rfl, rfl⟩ := Prod.mk.inj (Option.some.inj hm)
    exact hret _ _ _ _ hw dX9_better_34
  refine lv_if_eq (tgt := 29) X.1 X.2.1 dX9_better_8 (by decide) (fun c_3 => ?_) (fun c_3 => ?_)
  · replace hg_7 := it_p hg_7 c_3
    exact J_8 (Option.some.inj hg_7).symm _ _ _ hw (lv_sub hl [] rfl)
  · replace hg_7 := it_n hg_7 c_3
    refine lv_iload_n X.1 X.2.1 dX9_better_11 rfl (lv_at hl 2 rfl) ?_
    refine lv_i2l X.1 X.2.1 dX9_better_12 rfl ?_
    refine lv_iload_n X.1 X.2.1 dX9_better_13 rfl (lv_at hl 3 rfl) ?_
    refine lv_i2l X.1 X.2.1 dX9_better_14 rfl ?_
    replace hg_7 := ob_e hg_7
    obtain ⟨r_10, h_9, hg_7⟩ := hg_7
    refine k_Si (As := [.long x2.toInt64, .long x3.toInt64]) X hl.1 hw (c_X1_isChance h_9) ⟨wq_21_18, wq_6_19, wq_6_20, wq_6_21⟩ yo_X1_isChance rfl ⟨Nat.le_of_ble_eq_true rfl, Nat.le_of_ble_eq_true rfl⟩ (Nat.le_of_ble_eq_true rfl) dX9_better_15 (fun H locs hw => ?_)
    refine lv_if_eq (tgt := 29) X.1 X.2.1 dX9_better_18 (by decide) (fun c_11 => ?_) (fun c_11 => ?_)
    · replace hg_7 := it_p hg_7 c_11
      exact J_8 (Option.some.inj hg_7).symm _ _ _ hw (lv_sub hl [] rfl)
    · replace hg_7 := it_n hg_7 c_11
      refine lv_iload X.1 X.2.1 dX9_better_21 (lv_at hl 4 rfl) ?_
      replace hg_7 := ob_e hg_7
      obtain ⟨r_13, h_12, hg_7⟩ := hg_7
      refine k_Si (As := [.int x4]) X hl.1 hw (c_X9_isSide h_12) ⟨wq_12_9, wq_12_10, wq_1_2, wq_12_11⟩ yo_X9_isSide rfl ⟨Nat.le_of_ble_eq_true rfl, Nat.le_of_ble_eq_true rfl⟩ (Nat.le_of_ble_eq_true rfl) dX9_better_23 (fun H locs hw => ?_)
      refine lv_if_ne (tgt := 35) X.1 X.2.1 dX9_better_26 (by decide) (fun c_14 => ?_) (fun c_14 => ?_)
      · replace hg_7 := it_n hg_7 c_14
        refine lv_aload_n X.1 X.2.1 dX9_better_35 rfl (lv_at hl 0 rfl) ?_
        refine gX9_odds X hw wq_1_18 dX9_better_36 ?_
        refine lv_iload_n X.1 X.2.1 dX9_better_39 rfl (lv_at hl 1 rfl) ?_
        refine lv_iload_n X.1 X.2.1 dX9_better_40 rfl (lv_at hl 2 rfl) ?_
        refine lv_iload_n X.1 X.2.1 dX9_better_41 rfl (lv_at hl 3 rfl) ?_
        replace hg_7 := ob_e hg_7
        obtain ⟨b_16, h_15, hg_7⟩ := hg_7
        refine k_Vv (k := 8) (As := [.int x1, .int x2, .int x3]) X hl.1 hw (c_X3_fillWith h_15) (by decide) (he_X3 g h _ _) rfl ⟨wq_21_19, wq_12_21, wq_12_22, wq_1_17, wq_12_23⟩ yo_X3_fillWith rfl ⟨Nat.le_of_ble_eq_true rfl, Nat.le_of_ble_eq_true rfl⟩ (Nat.le_of_ble_eq_true rfl) dX9_better_42 (fun H locs hw => ?_)
        refine lv_aload_n X.1 X.2.1 dX9_better_45 rfl (lv_at hl 0 rfl) ?_
        refine gX9_odds X hw wq_1_18 dX9_better_46 ?_
        refine lv_aload_n X.1 X.2.1 dX9_better_49 rfl (lv_at hl 0 rfl) ?_
        refine gX9_odds X hw wq_1_18 dX9_better_50 ?_
        replace hg_7 := ob_e hg_7
        obtain ⟨r_18, h_17, hg_7⟩ := hg_7
        refine k_Vl (k := 8) (As := []) X hl.1 hw (c_X3_reachParts h_17) (by decide) (he_X3 g h _ _) rfl ⟨wq_13_21, wq_13_22, wq_13_23, wq_1_17, wq_14_0⟩ yo_X3_reachParts rfl ⟨Nat.le_of_ble_eq_true rfl, Nat.le_of_ble_eq_true rfl⟩ (Nat.le_of_ble_eq_true rfl) dX9_better_53 (fun H locs hw => ?_)
        refine lv_iload X.1 X.2.1 dX9_better_56 (lv_at hl 4 rfl) ?_
        replace hg_7 := ob_e hg_7
        obtain ⟨r_20, h_19, hg_7⟩ := hg_7
        refine k_Vl (k := 8) (As := [.long r_18, .int x4]) X hl.1 hw (c_X3_told h_19) (by decide) (he_X3 g h _ _) rfl ⟨wq_14_3, wq_14_4, wq_14_5, wq_1_17, wq_14_6⟩ yo_X3_told rfl ⟨Nat.le_of_ble_eq_true rfl, Nat.le_of_ble_eq_true rfl⟩ (Nat.le_of_ble_eq_true rfl) dX9_better_58 (fun H locs hw => ?_)
        obtain rfl := Option.some.inj hg_7
        replace hm := ex_r hm
        obtain ⟨rfl, rfl⟩ := Prod.mk.inj (Option.some.inj hm)
        exact hret _ _ _ _ hw dX9_better_61
      · replace hg_7 := it_p hg_7 c_14
        exact J_8 (Option.some.inj hg_7).symm _ _ _ hw (lv_sub hl [] rfl)
def m_X9_count (b : ST) (x1 : Int32) : Option (Int32) := if x1 = 0 then Option.bind (m_X2_stationCount b) (fun (r_3 : Int32) => some r_3) else (if x1 = 1 then Option.bind (m_X2_linkCount b) (fun (r_6 : Int32) => some r_6) else (if x1 = 2 then Option.bind (m_X2_sourceStation b) (fun (r_9 : Int32) => some r_9) else (if x1 = 3 then Option.bind (m_X2_goalBits b) (fun (r_12 : Int32) => some r_12) else (if x1 = 4 then Option.bind (m_X2_wantedStations b) (fun (r_15 : Int32) => Option.bind (m_J6_bitCount_0f7a4 r_15) (fun (r_17 : Int32) => some r_17)) else (if x1 = 5 then Option.bind (m_X2_linksSeen b (0 : Int32)) (fun (r_20 : Int32) => Option.bind (m_J6_bitCount_0f7a4 r_20) (fun (r_22 : Int32) => some r_22)) else (if x1 = 6 then Option.bind (m_X2_allLinks b) (fun (r_25 : Int32) => Option.bind (m_X2_linksSeen b (2 : Int32)) (fun (r_27 : Int32) => Option.bind (m_X2_reaches b ((r_25 &&& (r_27 ^^^ (-1 : Int32))))) (fun (r_29 : Int32) => if r_29 = 0 then some (0 : Int32) else some (1 : Int32)))) else (if x1 = 7 then Option.bind (m_X4_length b) (fun (r_33 : Int32) => some r_33) else (if x1 = 8 then Option.bind (m_X7_latestFinding b) (fun (r_36 : Int32) => some r_36) else (some (-2 : Int32))))))))))
theorem yo_X9_count : yX9_count.cls = RX9 ∧ yX9_count.cls ≠ "java/lang/invoke/MethodHandle" ∧ yX9_count.cls ≠ "java/lang/invoke/VarHandle" ∧ (parseMethodDescriptor yX9_count.desc).map (fun d => d.parameters.length) = some 1 := by decide +kernel
set_option maxHeartbeats 4000000 in
set_option maxRecDepth 100000 in
theorem c_X9_count {l : Launch} {g : gT} {h : Nat → Nat} {b : ST} {w : Nat → ST} {x1 : Int32} {r : Int32} (hm : m_X9_count b x1 = some r) : MetI l g yX9_count cX9_count 2 (some .int) 3 65 79 h (cC g h (b, w)) (cC g h (b, w)) [.ref (h 0), .int x1] r := by
  refine MetI.ofX (by decide +kernel) (Nat.le_of_ble_eq_true rfl) ?_
  intro p e s m below meth c AV Q X hret ls hw hl
  replace X : Cx g p s m AV c cX9_count RX9 2 := X
  replace hl : lv_has ls 2 [(0, .ref (h 0)), (1, .int x1)] := hl
  unfold m_X9_count at hm
  refine lv_iload_n X.1 X.2.1 dX9_count_0 rfl (lv_at hl 1 rfl) ?_
  by_cases c_1 : x1 = 0
  · replace hm := it_p hm c_1
    refine x_tab X c_1 dX9_count_1 (off := 51) (tgt := 52) (by decide) (by decide) rfl (by decide) ?_
    refine lv_aload_n X.1 X.2.1 dX9_count_52 rfl (lv_at hl 0 rfl) ?_
    refine gX9_net X hw wq_1_14 dX9_count_53 ?_
    replace hm := ob_e hm
    obtain ⟨r_3, h_2, hm⟩ := hm
    refine k_Vi (k := 1) (As := []) X hl.1 hw (c_X2_stationCount h_2) (by decide) (he_X2 g h _ _) rfl ⟨wq_5_19, wq_5_20, wq_5_21, wq_1_13, wq_5_22⟩ yo_X2_stationCount rfl ⟨Nat.le_of_ble_eq_true rfl, Nat.le_of_ble_eq_true rfl⟩ (Nat.le_of_ble_eq_true rfl) dX9_count_56 (fun H locs hw => ?_)
    obtain rfl := Option.some.inj hm
    exact hret _ _ _ _ hw dX9_count_59
  · replace hm := it_n hm c_1
    by_cases c_4 : x1 = 1
    · replace hm := it_p hm c_4
      refine x_tab X c_4 dX9_count_1 (off := 59) (tgt := 60) (by decide) (by decide) rfl (by decide) ?_
      refine lv_aload_n X.1 X.2.1 dX9_count_60 rfl (lv_at hl 0 rfl) ?_
      refine gX9_net X hw wq_1_14 dX9_count_61 ?_
      replace hm := ob_e hm
      obtain ⟨r_6, h_5, hm⟩ := hm
      refine k_Vi (k := 1) (As := []) X hl.1 hw (c_X2_linkCount h_5) (by decide) (he_X2 g h _ _) rfl ⟨wq_10_10, wq_10_11, wq_10_12, wq_1_13, wq_10_13⟩ yo_X2_linkCount rfl ⟨Nat.le_of_ble_eq_true rfl, Nat.le_of_ble_eq_true rfl⟩ (Nat.le_of_ble_eq_true rfl) dX9_count_64 (fun H locs hw => ?_)
      obtain rfl := Option.some.inj hm
      exact hret _ _ _ _ hw dX9_count_67
    · replace hm := it_n hm c_4
      by_cases c_7 : x1 = 2
      · replace hm := it_p hm c_7
        refine x_tab X c_7 dX9_count_1 (off := 67) (tgt := 68) (by decide) (by decide) rfl (by decide) ?_
        refine lv_aload_n X.1 X.2.1 dX9_count_68 rfl (lv_at hl 0 rfl) ?_
        refine gX9_net X hw wq_1_14 dX9_count_69 ?_
        replace hm := ob_e hm
        obtain ⟨r_9, h_8, hm⟩ := hm
        refine k_Vi (k := 1) (As := []) X hl.1 hw (c_X2_sourceStation h_8) (by decide) (he_X2 g h _ _) rfl ⟨wq_9_6, wq_9_7, wq_9_8, wq_1_13, wq_9_9⟩ yo_X2_sourceStation rfl ⟨Nat.le_of_ble_eq_true rfl, Nat.le_of_ble_eq_true rfl⟩ (Nat.le_of_ble_eq_true rfl) dX9_count_72 (fun H locs hw => ?_)
        obtain rfl := Option.some.inj hm
        exact hret _ _ _ _ hw dX9_count_75
      · replace hm := it_n hm c_7
        by_cases c_10 : x1 = 3
        · replace hm := it_p hm c_10
          refine x_tab X c_10 dX9_count_1 (off := 75) (tgt := 76) (by decide) (by decide) rfl (by decide) ?_
          refine lv_aload_n X.1 X.2.1 dX9_count_76 rfl (lv_at hl 0 rfl) ?_
          refine gX9_net X hw wq_1_14 dX9_count_77 ?_
          replace hm := ob_e hm
          obtain ⟨r_12, h_11, hm⟩ := hm
          refine k_Vi (k := 1) (As := []) X hl.1 hw (c_X2_goalBits h_11) (by decide) (he_X2 g h _ _) rfl ⟨wq_9_22, wq_9_23, wq_10_0, wq_1_13, wq_10_1⟩ yo_X2_goalBits rfl ⟨Nat.le_of_ble_eq_true rfl, Nat.le_of_ble_eq_true rfl⟩ (Nat.le_of_ble_eq_true rfl) dX9_count_80 (fun H locs hw => ?_)
          obtain rfl := Option.some.inj hm
          exact hret _ _ _ _ hw dX9_count_83
        · replace hm := it_n hm c_10
          by_cases c_13 : x1 = 4
          · replace hm := it_p hm c_13
            refine x_tab X c_13 dX9_count_1 (off := 83) (tgt := 84) (by decide) (by decide) rfl (by decide) ?_
            refine lv_aload_n X.1 X.2.1 dX9_count_84 rfl (lv_at hl 0 rfl) ?_
            refine gX9_net X hw wq_1_14 dX9_count_85 ?_
            replace hm := ob_e hm
            obtain ⟨r_15, h_14, hm⟩ := hm
            refine k_Vi (k := 1) (As := []) X hl.1 hw (c_X2_wantedStations h_14) (by decide) (he_X2 g h _ _) rfl ⟨wq_10_14, wq_10_15, wq_10_16, wq_1_13, wq_10_17⟩ yo_X2_wantedStations rfl ⟨Nat.le_of_ble_eq_true rfl, Nat.le_of_ble_eq_true rfl⟩ (Nat.le_of_ble_eq_true rfl) dX9_count_88 (fun H locs hw => ?_)
            replace hm := ob_e hm
            obtain ⟨r_17, h_16, hm⟩ := hm
            refine k_Si (As := [.int r_15]) X hl.1 hw (c_J6_bitCount_0f7a4 h_16) ⟨wq_10_18, wq_10_19, wq_10_20, wq_10_21⟩ yo_J6_bitCount_0f7a4 rfl ⟨Nat.le_of_ble_eq_true rfl, Nat.le_of_ble_eq_true rfl⟩ (Nat.le_of_ble_eq_true rfl) dX9_count_91 (fun H locs hw => ?_)
            obtain rfl := Option.some.inj hm
            exact hret _ _ _ _ hw dX9_count_94
          · replace hm := it_n hm c_13
            by_cases c_18 : x1 = 5
            · replace hm := it_p hm c_18
              refine x_tab X c_18 dX9_count_1 (off := 94) (tgt := 95) (by decide) (by decide) rfl (by decide) ?_
              refine lv_aload_n X.1 X.2.1 dX9_count_95 rfl (lv_at hl 0 rfl) ?_
              refine gX9_net X hw wq_1_14 dX9_count_96 ?_
              refine lv_iconst (v := 0) X.1 X.2.1 dX9_count_99 (by decide) ?_
              replace hm := ob_e hm
              obtain ⟨r_20, h_19, hm⟩ := hm
              refine k_Vi (k := 1) (As := [.int (0 : Int32)]) X hl.1 hw (c_X2_linksSeen h_19) (by decide) (he_X2 g h _ _) rfl ⟨wq_11_1, wq_11_2, wq_11_3, wq_1_13, wq_11_4⟩ yo_X2_linksSeen rfl ⟨Nat.le_of_ble_eq_true rfl, Nat.le_of_ble_eq_true rfl⟩ (Nat.le_of_ble_eq_true rfl) dX9_count_100 (fun H locs hw => ?_)
              replace hm := ob_e hm
              obtain ⟨r_22, h_21, hm⟩ := hm
              refine k_Si (As := [.int r_20]) X hl.1 hw (c_J6_bitCount_0f7a4 h_21) ⟨wq_10_18, wq_10_19, wq_10_20, wq_10_21⟩ yo_J6_bitCount_0f7a4 rfl ⟨Nat.le_of_ble_eq_true rfl, Nat.le_of_ble_eq_true rfl⟩ (Nat.le_of_ble_eq_true rfl) dX9_count_103 (fun H locs hw => ?_)
              obtain rfl := Option.some.inj hm
              exact hret _ _ _ _ hw dX9_count_106
            · replace hm := it_n hm c_18
              by_cases c_23 : x1 = 6
              · replace hm := it_p hm c_23
                refine x_tab X c_23 dX9_count_1 (off := 106) (tgt := 107) (by decide) (by decide) rfl (by decide) ?_
                refine lv_aload_n X.1 X.2.1 dX9_count_107 rfl (lv_at hl 0 rfl) ?_
                refine gX9_net X hw wq_1_14 dX9_count_108 ?_
                refine lv_aload_n X.1 X.2.1 dX9_count_111 rfl (lv_at hl 0 rfl) ?_
                refine gX9_net X hw wq_1_14 dX9_count_112 ?_
                replace hm := ob_e hm
                obtain ⟨r_25, h_24, hm⟩ := hm
                refine k_Vi (k := 1) (As := []) X hl.1 hw (c_X2_allLinks h_24) (by decide) (he_X2 g h _ _) rfl ⟨wq_11_6, wq_11_7, wq_11_8, wq_1_13, wq_11_9⟩ yo_X2_allLinks rfl ⟨Nat.le_of_ble_eq_true rfl, Nat.le_of_ble_eq_true rfl⟩ (Nat.le_of_ble_eq_true rfl) dX9_count_115 (fun H locs hw => ?_)
                refine lv_aload_n X.1 X.2.1 dX9_count_118 rfl (lv_at hl 0 rfl) ?_
                refine gX9_net X hw wq_1_14 dX9_count_119 ?_
                refine lv_iconst (v := 2) X.1 X.2.1 dX9_count_122 (by decide) ?_
                replace hm := ob_e hm
                obtain ⟨r_27, h_26, hm⟩ := hm
                refine k_Vi (k := 1) (As := [.int (2 : Int32)]) X hl.1 hw (c_X2_linksSeen h_26) (by decide) (he_X2 g h _ _) rfl ⟨wq_11_1, wq_11_2, wq_11_3, wq_1_13, wq_11_4⟩ yo_X2_linksSeen rfl ⟨Nat.le_of_ble_eq_true rfl, Nat.le_of_ble_eq_true rfl⟩ (Nat.le_of_ble_eq_true rfl) dX9_count_123 (fun H locs hw => ?_)
                refine lv_iconst (v := -1) X.1 X.2.1 dX9_count_126 (by decide) ?_
                refine lv_ixor X.1 X.2.1 dX9_count_127 ?_
                refine lv_iand X.1 X.2.1 dX9_count_128 ?_
                replace hm := ob_e hm
                obtain ⟨r_29, h_28, hm⟩ := hm
                refine k_Vi (k := 1) (As := [.int (r_25 &&& (r_27 ^^^ (-1 : Int32)))]) X hl.1 hw (c_X2_reaches h_28) (by decide) (he_X2 g h _ _) rfl ⟨wq_11_10, wq_11_11, wq_11_12, wq_1_13, wq_11_13⟩ yo_X2_reaches rfl ⟨Nat.le_of_ble_eq_true rfl, Nat.le_of_ble_eq_true rfl⟩ (Nat.le_of_ble_eq_true rfl) dX9_count_129 (fun H locs hw => ?_)
                refine lv_if_eq (tgt := 139) X.1 X.2.1 dX9_count_132 (by decide) (fun c_30 => ?_) (fun c_30 => ?_)
                · replace hm := it_p hm c_30
                  refine lv_iconst (v := 0) X.1 X.2.1 dX9_count_139 (by decide) ?_
                  obtain rfl := Option.some.inj hm
                  exact hret _ _ _ _ hw dX9_count_140
                · replace hm := it_n hm c_30
                  refine lv_iconst (v := 1) X.1 X.2.1 dX9_count_135 (by decide) ?_
                  refine lv_goto (tgt := 140) X.1 X.2.1 dX9_count_136 (by decide) ?_
                  obtain rfl := Option.some.inj hm
                  exact hret _ _ _ _ hw dX9_count_140
              · replace hm := it_n hm c_23
                by_cases c_31 : x1 = 7
                · replace hm := it_p hm c_31
                  refine x_tab X c_31 dX9_count_1 (off := 140) (tgt := 141) (by decide) (by decide) rfl (by decide) ?_
                  refine lv_aload_n X.1 X.2.1 dX9_count_141 rfl (lv_at hl 0 rfl) ?_
                  refine gX9_orders X hw wq_2_10 dX9_count_142 ?_
                  replace hm := ob_e hm
                  obtain ⟨r_33, h_32, hm⟩ := hm
                  refine k_Vi (k := 16) (As := []) X hl.1 hw (c_X4_length h_32) (by decide) (he_X4 g h _ _) rfl ⟨wq_11_19, wq_11_20, wq_11_21, wq_2_9, wq_11_22⟩ yo_X4_length rfl ⟨Nat.le_of_ble_eq_true rfl, Nat.le_of_ble_eq_true rfl⟩ (Nat.le_of_ble_eq_true rfl) dX9_count_145 (fun H locs hw => ?_)
                  obtain rfl := Option.some.inj hm
                  exact hret _ _ _ _ hw dX9_count_148
                · replace hm := it_n hm c_31
                  by_cases c_34 : x1 = 8
                  · replace hm := it_p hm c_34
                    refine x_tab X c_34 dX9_count_1 (off := 148) (tgt := 149) (by decide) (by decide) rfl (by decide) ?_
                    refine lv_aload_n X.1 X.2.1 dX9_count_149 rfl (lv_at hl 0 rfl) ?_
                    refine gX9_sheets X hw wq_2_14 dX9_count_150 ?_
                    replace hm := ob_e hm
                    obtain ⟨r_36, h_35, hm⟩ := hm
                    refine k_Vi (k := 18) (As := []) X hl.1 hw (c_X7_latestFinding h_35) (by decide) (he_X7 g h _ _) rfl ⟨wq_12_0, wq_12_1, wq_12_2, wq_2_13, wq_12_3⟩ yo_X7_latestFinding rfl ⟨Nat.le_of_ble_eq_true rfl, Nat.le_of_ble_eq_true rfl⟩ (Nat.le_of_ble_eq_true rfl) dX9_count_153 (fun H locs hw => ?_)
                    obtain rfl := Option.some.inj hm
                    exact hret _ _ _ _ hw dX9_count_156
                  · replace hm := it_n hm c_34
                    have tc_1 : ¬ x1.toInt = 0 := lv_neT c_1 (k := 0) (by decide)
                    have tc_4 : ¬ x1.toInt = 1 := lv_neT c_4 (k := 1) (by decide)
                    have tc_7 : ¬ x1.toInt = 2 := lv_neT c_7 (k := 2) (by decide)
                    have tc_10 : ¬ x1.toInt = 3 := lv_neT c_10 (k := 3) (by decide)
                    have tc_13 : ¬ x1.toInt = 4 := lv_neT c_13 (k := 4) (by decide)
                    have tc_18 : ¬ x1.toInt = 5 := lv_neT c_18 (k := 5) (by decide)
                    have tc_23 : ¬ x1.toInt = 6 := lv_neT c_23 (k := 6) (by decide)
                    have tc_31 : ¬ x1.toInt = 7 := lv_neT c_31 (k := 7) (by decide)
                    have tc_34 : ¬ x1.toInt = 8 := lv_neT c_34 (k := 8) (by decide)
                    refine lv_tableOut X.1 X.2.1 (tgt := 157) dX9_count_1 (by omega) (by decide) ?_
                    refine lv_bipush (v := -2) X.1 X.2.1 dX9_count_157 (by decide) ?_
                    obtain rfl := Option.some.inj hm
                    exact hret _ _ _ _ hw dX9_count_159
