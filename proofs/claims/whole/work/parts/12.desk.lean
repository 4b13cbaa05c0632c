def m_X9_stations (b : ST) (x1 : Int32) : Option (Int32 × ST) := if x1 < (2 : Int32) then some ((-2 : Int32), b) else if x1 ≤ (7 : Int32) then Option.bind (m_X2_stationCount b) (fun (r_5 : Int32) => Option.bind (m_X2_renew b x1) (fun (b_7 : ST) => some (r_5, b_7))) else some ((-2 : Int32), b)
theorem yo_X9_stations : yX9_stations.cls = RX9 ∧ yX9_stations.cls ≠ "java/lang/invoke/MethodHandle" ∧ yX9_stations.cls ≠ "java/lang/invoke/VarHandle" ∧ (parseMethodDescriptor yX9_stations.desc).map (fun d => d.parameters.length) = some 1 := by decide +kernel
set_option maxHeartbeats 4000000 in
set_option maxRecDepth 100000 in
theorem c_X9_stations {l : Launch} {g : gT} {h : Nat → Nat} {b : ST} {w : Nat → ST} {x1 : Int32} {r : Int32} {b' : ST} (hm : m_X9_stations b x1 = some (r, b')) : MetI l g yX9_stations cX9_stations 3 (some .int) 1 21 79 h (cC g h (b, w)) (cC g h (b', w)) [.ref (h 0), .int x1] r := by
  refine MetI.ofX (by decide +kernel) (Nat.le_of_ble_eq_true rfl) ?_
  intro p e s m below meth c AV Q X hret ls hw hl
  replace X : Cx g p s m AV c cX9_stations RX9 3 := X
  replace hl : lv_has ls 3 [(0, .ref (h 0)), (1, .int x1)] := hl
  unfold m_X9_stations at hm
  refine lv_iload_n X.1 X.2.1 dX9_stations_0 rfl (lv_at hl 1 rfl) ?_
  refine lv_iconst (v := 2) X.1 X.2.1 dX9_stations_1 (by decide) ?_
  refine lv_icmp_lt (tgt := 11) X.1 X.2.1 dX9_stations_2 (by decide) (fun c_1 => ?_) (fun c_1 => ?_)
  · replace hm := it_p hm c_1
    refine lv_bipush (v := -2) X.1 X.2.1 dX9_stations_11 (by decide) ?_
    obtain ⟨rfl, rfl⟩ := Prod.mk.inj (Option.some.inj hm)
    exact hret _ _ _ _ hw dX9_stations_13
  · replace hm := it_n hm c_1
    refine lv_iload_n X.1 X.2.1 dX9_stations_5 rfl (lv_at hl 1 rfl) ?_
    refine lv_bipush (v := 7) X.1 X.2.1 dX9_stations_6 (by decide) ?_
    refine lv_icmp_le (tgt := 14) X.1 X.2.1 dX9_stations_8 (by decide) (fun c_3 => ?_) (fun c_3 => ?_)
    · replace hm := it_p hm c_3
      refine lv_aload_n X.1 X.2.1 dX9_stations_14 rfl (lv_at hl 0 rfl) ?_
      refine gX9_net X hw wq_1_15 dX9_stations_15 ?_
      replace hm := ob_e hm
      obtain ⟨r_5, h_4, hm⟩ := hm
      refine k_Vi (k := 1) (As := []) X hl.1 hw (c_X2_stationCount h_4) (by decide) (he_X2 g h _ _) rfl ⟨wq_6_9, wq_6_10, wq_6_11, wq_1_14, wq_6_12⟩ yo_X2_stationCount rfl ⟨Nat.le_of_ble_eq_true rfl, Nat.le_of_ble_eq_true rfl⟩ (Nat.le_of_ble_eq_true rfl) dX9_stations_18 (fun H locs hw => ?_)
      refine lv_istore_n (lv' := [(2, .int r_5), (0, .ref (h 0)), (1, .int x1)]) X.1 X.2.1 dX9_stations_21 rfl hl (by decide) rfl (fun ls hl => ?_)
      refine lv_aload_n X.1 X.2.1 dX9_stations_22 rfl (lv_at hl 1 rfl) ?_
      refine gX9_net X hw wq_1_15 dX9_stations_23 ?_
      refine lv_iload_n X.1 X.2.1 dX9_stations_26 rfl (lv_at hl 2 rfl) ?_
      replace hm := ob_e hm
      obtain ⟨b_7, h_6, hm⟩ := hm
      refine k_Vv (k := 1) (As := [.int x1]) X hl.1 hw (c_X2_renew h_6) (by decide) (he_X2 g h _ _) rfl ⟨wq_6_13, wq_6_14, wq_6_15, wq_1_14, wq_6_16⟩ yo_X2_renew rfl ⟨Nat.le_of_ble_eq_true rfl, Nat.le_of_ble_eq_true rfl⟩ (Nat.le_of_ble_eq_true rfl) dX9_stations_27 (fun H locs hw => ?_)
      refine lv_iload_n X.1 X.2.1 dX9_stations_30 rfl (lv_at hl 0 rfl) ?_
      obtain ⟨rfl, rfl⟩ := Prod.mk.inj (Option.some.inj hm)
      exact hret _ _ _ _ hw dX9_stations_31
    · replace hm := it_n hm c_3
      refine lv_bipush (v := -2) X.1 X.2.1 dX9_stations_11 (by decide) ?_
      obtain ⟨rfl, rfl⟩ := Prod.mk.inj (Option.some.inj hm)
      exact hret _ _ _ _ hw dX9_stations_13
def m_X9_link (b : ST) (x1 : Int32) (x2 : Int32) (x3 : Int32) (x4 : Int32) : Option (Int32 × ST) := Option.bind (m_X2_mayLink b (x1.toInt64) (x2.toInt64) (x3.toInt64) (x4.toInt64)) (fun (r_2 : Int32) => if r_2 = 0 then some ((-2 : Int32), b) else Option.bind (m_X2_hasRoom b) (fun (r_5 : Int32) => if r_5 = 0 then some ((-4 : Int32), b) else Option.bind (m_X2_addLink b x1 x2 x3 x4) (fun (q_10 : Int32 × ST) => un q_10 (fun r_8 b_9 => some (r_8, b_9)))))
theorem yo_X9_link : yX9_link.cls = RX9 ∧ yX9_link.cls ≠ "java/lang/invoke/MethodHandle" ∧ yX9_link.cls ≠ "java/lang/invoke/VarHandle" ∧ (parseMethodDescriptor yX9_link.desc).map (fun d => d.parameters.length) = some 4 := by decide +kernel
set_option maxHeartbeats 4000000 in
set_option maxRecDepth 100000 in
theorem c_X9_link {l : Launch} {g : gT} {h : Nat → Nat} {b : ST} {w : Nat → ST} {x1 : Int32} {x2 : Int32} {x3 : Int32} {x4 : Int32} {r : Int32} {b' : ST} (hm : m_X9_link b x1 x2 x3 x4 = some (r, b')) : MetI l g yX9_link cX9_link 5 (some .int) 4 95 79 h (cC g h (b, w)) (cC g h (b', w)) [.ref (h 0), .int x1, .int x2, .int x3, .int x4] r := by
  refine MetI.ofX (by decide +kernel) (Nat.le_of_ble_eq_true rfl) ?_
  intro p e s m below meth c AV Q X hret ls hw hl
  replace X : Cx g p s m AV c cX9_link RX9 5 := X
  replace hl : lv_has ls 5 [(0, .ref (h 0)), (1, .int x1), (2, .int x2), (3, .int x3), (4, .int x4)] := hl
  unfold m_X9_link at hm
  refine lv_aload_n X.1 X.2.1 dX9_link_0 rfl (lv_at hl 0 rfl) ?_
  refine gX9_net X hw wq_1_15 dX9_link_1 ?_
  refine lv_iload_n X.1 X.2.1 dX9_link_4 rfl (lv_at hl 1 rfl) ?_
  refine lv_i2l X.1 X.2.1 dX9_link_5 rfl ?_
  refine lv_iload_n X.1 X.2.1 dX9_link_6 rfl (lv_at hl 2 rfl) ?_
  refine lv_i2l X.1 X.2.1 dX9_link_7 rfl ?_
  refine lv_iload_n X.1 X.2.1 dX9_link_8 rfl (lv_at hl 3 rfl) ?_
  refine lv_i2l X.1 X.2.1 dX9_link_9 rfl ?_
  refine lv_iload X.1 X.2.1 dX9_link_10 (lv_at hl 4 rfl) ?_
  refine lv_i2l X.1 X.2.1 dX9_link_12 rfl ?_
  replace hm := ob_e hm
  obtain ⟨r_2, h_1, hm⟩ := hm
  refine k_Vi (k := 1) (As := [.long x1.toInt64, .long x2.toInt64, .long x3.toInt64, .long x4.toInt64]) X hl.1 hw (c_X2_mayLink h_1) (by decide) (he_X2 g h _ _) rfl ⟨wq_7_12, wq_7_13, wq_7_14, wq_1_14, wq_7_15⟩ yo_X2_mayLink rfl ⟨Nat.le_of_ble_eq_true rfl, Nat.le_of_ble_eq_true rfl⟩ (Nat.le_of_ble_eq_true rfl) dX9_link_13 (fun H locs hw => ?_)
  refine lv_if_ne (tgt := 22) X.1 X.2.1 dX9_link_16 (by decide) (fun c_3 => ?_) (fun c_3 => ?_)
  · replace hm := it_n hm c_3
    refine lv_aload_n X.1 X.2.1 dX9_link_22 rfl (lv_at hl 0 rfl) ?_
    refine gX9_net X hw wq_1_15 dX9_link_23 ?_
    replace hm := ob_e hm
    obtain ⟨r_5, h_4, hm⟩ := hm
    refine k_Vi (k := 1) (As := []) X hl.1 hw (c_X2_hasRoom h_4) (by decide) (he_X2 g h _ _) rfl ⟨wq_8_1, wq_8_2, wq_8_3, wq_1_14, wq_8_4⟩ yo_X2_hasRoom rfl ⟨Nat.le_of_ble_eq_true rfl, Nat.le_of_ble_eq_true rfl⟩ (Nat.le_of_ble_eq_true rfl) dX9_link_26 (fun H locs hw => ?_)
    refine lv_if_ne (tgt := 35) X.1 X.2.1 dX9_link_29 (by decide) (fun c_6 => ?_) (fun c_6 => ?_)
    · replace hm := it_n hm c_6
      refine lv_aload_n X.1 X.2.1 dX9_link_35 rfl (lv_at hl 0 rfl) ?_
      refine gX9_net X hw wq_1_15 dX9_link_36 ?_
      refine lv_iload_n X.1 X.2.1 dX9_link_39 rfl (lv_at hl 1 rfl) ?_
      refine lv_iload_n X.1 X.2.1 dX9_link_40 rfl (lv_at hl 2 rfl) ?_
      refine lv_iload_n X.1 X.2.1 dX9_link_41 rfl (lv_at hl 3 rfl) ?_
      refine lv_iload X.1 X.2.1 dX9_link_42 (lv_at hl 4 rfl) ?_
      replace hm := ob_e hm
      obtain ⟨⟨r_8, b_9⟩, h_7, hm⟩ := hm
      replace hm := un_e hm
      refine k_Vi (k := 1) (As := [.int x1, .int x2, .int x3, .int x4]) X hl.1 hw (c_X2_addLink h_7) (by decide) (he_X2 g h _ _) rfl ⟨wq_8_5, wq_8_6, wq_8_7, wq_1_14, wq_8_8⟩ yo_X2_addLink rfl ⟨Nat.le_of_ble_eq_true rfl, Nat.le_of_ble_eq_true rfl⟩ (Nat.le_of_ble_eq_true rfl) dX9_link_44 (fun H locs hw => ?_)
      obtain ⟨rfl, rfl⟩ := Prod.mk.inj (Option.some.inj hm)
      exact hret _ _ _ _ hw dX9_link_47
    · replace hm := it_p hm c_6
      refine lv_bipush (v := -4) X.1 X.2.1 dX9_link_32 (by decide) ?_
      obtain ⟨rfl, rfl⟩ := Prod.mk.inj (Option.some.inj hm)
      exact hret _ _ _ _ hw dX9_link_34
  · replace hm := it_p hm c_3
    refine lv_bipush (v := -2) X.1 X.2.1 dX9_link_19 (by decide) ?_
    obtain ⟨rfl, rfl⟩ := Prod.mk.inj (Option.some.inj hm)
    exact hret _ _ _ _ hw dX9_link_21
def m_X9_back (b : ST) : Option (Int32 × ST) := Option.bind (m_X2_linkCount b) (fun (r_2 : Int32) => if r_2 = 0 then some ((-3 : Int32), b) else Option.bind (m_X2_dropLast b) (fun (q_7 : Int32 × ST) => un q_7 (fun r_5 b_6 => some (r_5, b_6))))
theorem yo_X9_back : yX9_back.cls = RX9 ∧ yX9_back.cls ≠ "java/lang/invoke/MethodHandle" ∧ yX9_back.cls ≠ "java/lang/invoke/VarHandle" ∧ (parseMethodDescriptor yX9_back.desc).map (fun d => d.parameters.length) = some 0 := by decide +kernel
set_option maxHeartbeats 4000000 in
set_option maxRecDepth 100000 in
theorem c_X9_back {l : Launch} {g : gT} {h : Nat → Nat} {b : ST} {w : Nat → ST} {r : Int32} {b' : ST} (hm : m_X9_back b = some (r, b')) : MetI l g yX9_back cX9_back 1 (some .int) 1 20 79 h (cC g h (b, w)) (cC g h (b', w)) [.ref (h 0)] r := by
  refine MetI.ofX (by decide +kernel) (Nat.le_of_ble_eq_true rfl) ?_
  intro p e s m below meth c AV Q X hret ls hw hl
  replace X : Cx g p s m AV c cX9_back RX9 1 := X
  replace hl : lv_has ls 1 [(0, .ref (h 0))] := hl
  unfold m_X9_back at hm
  refine lv_aload_n X.1 X.2.1 dX9_back_0 rfl (lv_at hl 0 rfl) ?_
  refine gX9_net X hw wq_1_15 dX9_back_1 ?_
  replace hm := ob_e hm
  obtain ⟨r_2, h_1, hm⟩ := hm
  refine k_Vi (k := 1) (As := []) X hl.1 hw (c_X2_linkCount h_1) (by decide) (he_X2 g h _ _) rfl ⟨wq_10_14, wq_10_15, wq_10_16, wq_1_14, wq_10_17⟩ yo_X2_linkCount rfl ⟨Nat.le_of_ble_eq_true rfl, Nat.le_of_ble_eq_true rfl⟩ (Nat.le_of_ble_eq_true rfl) dX9_back_4 (fun H locs hw => ?_)
  refine lv_if_ne (tgt := 13) X.1 X.2.1 dX9_back_7 (by decide) (fun c_3 => ?_) (fun c_3 => ?_)
  · replace hm := it_n hm c_3
    refine lv_aload_n X.1 X.2.1 dX9_back_13 rfl (lv_at hl 0 rfl) ?_
    refine gX9_net X hw wq_1_15 dX9_back_14 ?_
    replace hm := ob_e hm
    obtain ⟨⟨r_5, b_6⟩, h_4, hm⟩ := hm
    replace hm := un_e hm
    refine k_Vi (k := 1) (As := []) X hl.1 hw (c_X2_dropLast h_4) (by decide) (he_X2 g h _ _) rfl ⟨wq_10_18, wq_10_19, wq_10_20, wq_1_14, wq_10_21⟩ yo_X2_dropLast rfl ⟨Nat.le_of_ble_eq_true rfl, Nat.le_of_ble_eq_true rfl⟩ (Nat.le_of_ble_eq_true rfl) dX9_back_17 (fun H locs hw => ?_)
    obtain ⟨rfl, rfl⟩ := Prod.mk.inj (Option.some.inj hm)
    exact hret _ _ _ _ hw dX9_back_20
  · replace hm := it_p hm c_3
    refine lv_bipush (v := -3) X.1 X.2.1 dX9_back_10 (by decide) ?_
    obtain ⟨rfl, rfl⟩ := Prod.mk.inj (Option.some.inj hm)
    exact hret _ _ _ _ hw dX9_back_12
def m_X9_chance (b : ST) (x1 : Int32) (x2 : Int32) (x3 : Int32) : Option (Int32 × ST) := Option.bind (m_X2_hasLink b x1) (fun (r_2 : Int32) => if r_2 = 0 then some ((-2 : Int32), b) else Option.bind (m_X1_isChance (x2.toInt64) (x3.toInt64)) (fun (r_6 : Int32) => if r_6 = 0 then some ((-2 : Int32), b) else Option.bind (m_X2_aboveOf b x1) (fun (r_9 : Int32) => Option.bind (m_X2_belowOf b x1) (fun (r_11 : Int32) => lt (((10 : Int32) * r_9) + r_11) (fun x_12 => Option.bind (m_X2_setChance b x1 x2 x3) (fun (b_14 : ST) => some (x_12, b_14)))))))
theorem yo_X9_chance : yX9_chance.cls = RX9 ∧ yX9_chance.cls ≠ "java/lang/invoke/MethodHandle" ∧ yX9_chance.cls ≠ "java/lang/invoke/VarHandle" ∧ (parseMethodDescriptor yX9_chance.desc).map (fun d => d.parameters.length) = some 3 := by decide +kernel
set_option maxHeartbeats 4000000 in
set_option maxRecDepth 100000 in
theorem c_X9_chance {l : Launch} {g : gT} {h : Nat → Nat} {b : ST} {w : Nat → ST} {x1 : Int32} {x2 : Int32} {x3 : Int32} {r : Int32} {b' : ST} (hm : m_X9_chance b x1 x2 x3 = some (r, b')) : MetI l g yX9_chance cX9_chance 5 (some .int) 2 44 79 h (cC g h (b, w)) (cC g h (b', w)) [.ref (h 0), .int x1, .int x2, .int x3] r := by
  refine MetI.ofX (by decide +kernel) (Nat.le_of_ble_eq_true rfl) ?_
  intro p e s m below meth c AV Q X hret ls hw hl
  replace X : Cx g p s m AV c cX9_chance RX9 5 := X
  replace hl : lv_has ls 5 [(0, .ref (h 0)), (1, .int x1), (2, .int x2), (3, .int x3)] := hl
  unfold m_X9_chance at hm
  refine lv_aload_n X.1 X.2.1 dX9_chance_0 rfl (lv_at hl 0 rfl) ?_
  refine gX9_net X hw wq_1_15 dX9_chance_1 ?_
  refine lv_iload_n X.1 X.2.1 dX9_chance_4 rfl (lv_at hl 1 rfl) ?_
  replace hm := ob_e hm
  obtain ⟨r_2, h_1, hm⟩ := hm
  refine k_Vi (k := 1) (As := [.int x1]) X hl.1 hw (c_X2_hasLink h_1) (by decide) (he_X2 g h _ _) rfl ⟨wq_11_6, wq_9_1, wq_9_2, wq_1_14, wq_9_3⟩ yo_X2_hasLink rfl ⟨Nat.le_of_ble_eq_true rfl, Nat.le_of_ble_eq_true rfl⟩ (Nat.le_of_ble_eq_true rfl) dX9_chance_5 (fun H locs hw => ?_)
  refine lv_if_eq (tgt := 21) X.1 X.2.1 dX9_chance_8 (by decide) (fun c_3 => ?_) (fun c_3 => ?_)
  · replace hm := it_p hm c_3
    refine lv_bipush (v := -2) X.1 X.2.1 dX9_chance_21 (by decide) ?_
    obtain ⟨rfl, rfl⟩ := Prod.mk.inj (Option.some.inj hm)
    exact hret _ _ _ _ hw dX9_chance_23
  · replace hm := it_n hm c_3
    refine lv_iload_n X.1 X.2.1 dX9_chance_11 rfl (lv_at hl 2 rfl) ?_
    refine lv_i2l X.1 X.2.1 dX9_chance_12 rfl ?_
    refine lv_iload_n X.1 X.2.1 dX9_chance_13 rfl (lv_at hl 3 rfl) ?_
    refine lv_i2l X.1 X.2.1 dX9_chance_14 rfl ?_
    replace hm := ob_e hm
    obtain ⟨r_6, h_5, hm⟩ := hm
    refine k_Si (As := [.long x2.toInt64, .long x3.toInt64]) X hl.1 hw (c_X1_isChance h_5) ⟨wq_11_7, wq_7_21, wq_7_22, wq_7_23⟩ yo_X1_isChance rfl ⟨Nat.le_of_ble_eq_true rfl, Nat.le_of_ble_eq_true rfl⟩ (Nat.le_of_ble_eq_true rfl) dX9_chance_15 (fun H locs hw => ?_)
    refine lv_if_ne (tgt := 24) X.1 X.2.1 dX9_chance_18 (by decide) (fun c_7 => ?_) (fun c_7 => ?_)
    · replace hm := it_n hm c_7
      refine lv_bipush (v := 10) X.1 X.2.1 dX9_chance_24 (by decide) ?_
      refine lv_aload_n X.1 X.2.1 dX9_chance_26 rfl (lv_at hl 0 rfl) ?_
      refine gX9_net X hw wq_1_15 dX9_chance_27 ?_
      refine lv_iload_n X.1 X.2.1 dX9_chance_30 rfl (lv_at hl 1 rfl) ?_
      replace hm := ob_e hm
      obtain ⟨r_9, h_8, hm⟩ := hm
      refine k_Vi (k := 1) (As := [.int x1]) X hl.1 hw (c_X2_aboveOf h_8) (by decide) (he_X2 g h _ _) rfl ⟨wq_11_8, wq_11_9, wq_11_10, wq_1_14, wq_11_11⟩ yo_X2_aboveOf rfl ⟨Nat.le_of_ble_eq_true rfl, Nat.le_of_ble_eq_true rfl⟩ (Nat.le_of_ble_eq_true rfl) dX9_chance_31 (fun H locs hw => ?_)
      refine lv_imul X.1 X.2.1 dX9_chance_34 ?_
      refine lv_aload_n X.1 X.2.1 dX9_chance_35 rfl (lv_at hl 0 rfl) ?_
      refine gX9_net X hw wq_1_15 dX9_chance_36 ?_
      refine lv_iload_n X.1 X.2.1 dX9_chance_39 rfl (lv_at hl 1 rfl) ?_
      replace hm := ob_e hm
      obtain ⟨r_11, h_10, hm⟩ := hm
      refine k_Vi (k := 1) (As := [.int x1]) X hl.1 hw (c_X2_belowOf h_10) (by decide) (he_X2 g h _ _) rfl ⟨wq_11_12, wq_11_13, wq_11_14, wq_1_14, wq_11_15⟩ yo_X2_belowOf rfl ⟨Nat.le_of_ble_eq_true rfl, Nat.le_of_ble_eq_true rfl⟩ (Nat.le_of_ble_eq_true rfl) dX9_chance_40 (fun H locs hw => ?_)
      refine lv_iadd X.1 X.2.1 dX9_chance_43 ?_
      refine lv_topi (fun x_12 ex_12 => ?_)
      replace hm := lt_e hm ex_12
      refine lv_istore (lv' := [(4, .int x_12), (0, .ref (h 0)), (1, .int x1), (2, .int x2), (3, .int x3)]) X.1 X.2.1 dX9_chance_44 hl (by decide) rfl (fun ls hl => ?_)
      refine lv_aload_n X.1 X.2.1 dX9_chance_46 rfl (lv_at hl 1 rfl) ?_
      refine gX9_net X hw wq_1_15 dX9_chance_47 ?_
      refine lv_iload_n X.1 X.2.1 dX9_chance_50 rfl (lv_at hl 2 rfl) ?_
      refine lv_iload_n X.1 X.2.1 dX9_chance_51 rfl (lv_at hl 3 rfl) ?_
      refine lv_iload_n X.1 X.2.1 dX9_chance_52 rfl (lv_at hl 4 rfl) ?_
      replace hm := ob_e hm
      obtain ⟨b_14, h_13, hm⟩ := hm
      refine k_Vv (k := 1) (As := [.int x1, .int x2, .int x3]) X hl.1 hw (c_X2_setChance h_13) (by decide) (he_X2 g h _ _) rfl ⟨wq_11_16, wq_11_17, wq_11_18, wq_1_14, wq_11_19⟩ yo_X2_setChance rfl ⟨Nat.le_of_ble_eq_true rfl, Nat.le_of_ble_eq_true rfl⟩ (Nat.le_of_ble_eq_true rfl) dX9_chance_53 (fun H locs hw => ?_)
      refine lv_iload X.1 X.2.1 dX9_chance_56 (lv_at hl 0 rfl) ?_
      obtain ⟨rfl, rfl⟩ := Prod.mk.inj (Option.some.inj hm)
      exact hret _ _ _ _ hw dX9_chance_58
    · replace hm := it_p hm c_7
      refine lv_bipush (v := -2) X.1 X.2.1 dX9_chance_21 (by decide) ?_
      obtain ⟨rfl, rfl⟩ := Prod.mk.inj (Option.some.inj hm)
      exact hret _ _ _ _ hw dX9_chance_23
def m_X9_see (b : ST) (x1 : Int32) (x2 : Int32) : Option (Int32 × ST) := Option.bind (m_X2_hasLink b x1) (fun (r_2 : Int32) => if r_2 = 0 then some ((-2 : Int32), b) else if x2 < 0 then some ((-2 : Int32), b) else if x2 ≤ (2 : Int32) then Option.bind (m_X2_seenOf b x1) (fun (r_9 : Int32) => Option.bind (m_X2_setSeen b x1 x2) (fun (b_11 : ST) => some (r_9, b_11))) else some ((-2 : Int32), b))
theorem yo_X9_see : yX9_see.cls = RX9 ∧ yX9_see.cls ≠ "java/lang/invoke/MethodHandle" ∧ yX9_see.cls ≠ "java/lang/invoke/VarHandle" ∧ (parseMethodDescriptor yX9_see.desc).map (fun d => d.parameters.length) = some 2 := by decide +kernel
set_option maxHeartbeats 4000000 in
set_option maxRecDepth 100000 in
theorem c_X9_see {l : Launch} {g : gT} {h : Nat → Nat} {b : ST} {w : Nat → ST} {x1 : Int32} {x2 : Int32} {r : Int32} {b' : ST} (hm : m_X9_see b x1 x2 = some (r, b')) : MetI l g yX9_see cX9_see 4 (some .int) 2 43 79 h (cC g h (b, w)) (cC g h (b', w)) [.ref (h 0), .int x1, .int x2] r := by
  refine MetI.ofX (by decide +kernel) (Nat.le_of_ble_eq_true rfl) ?_
  intro p e s m below meth c AV Q X hret ls hw hl
  replace X : Cx g p s m AV c cX9_see RX9 4 := X
  replace hl : lv_has ls 4 [(0, .ref (h 0)), (1, .int x1), (2, .int x2)] := hl
  unfold m_X9_see at hm
  refine lv_aload_n X.1 X.2.1 dX9_see_0 rfl (lv_at hl 0 rfl) ?_
  refine gX9_net X hw wq_1_15 dX9_see_1 ?_
  refine lv_iload_n X.1 X.2.1 dX9_see_4 rfl (lv_at hl 1 rfl) ?_
  replace hm := ob_e hm
  obtain ⟨r_2, h_1, hm⟩ := hm
  refine k_Vi (k := 1) (As := [.int x1]) X hl.1 hw (c_X2_hasLink h_1) (by decide) (he_X2 g h _ _) rfl ⟨wq_11_6, wq_9_1, wq_9_2, wq_1_14, wq_9_3⟩ yo_X2_hasLink rfl ⟨Nat.le_of_ble_eq_true rfl, Nat.le_of_ble_eq_true rfl⟩ (Nat.le_of_ble_eq_true rfl) dX9_see_5 (fun H locs hw => ?_)
  refine lv_if_eq (tgt := 20) X.1 X.2.1 dX9_see_8 (by decide) (fun c_3 => ?_) (fun c_3 => ?_)
  · replace hm := it_p hm c_3
    refine lv_bipush (v := -2) X.1 X.2.1 dX9_see_20 (by decide) ?_
    obtain ⟨rfl, rfl⟩ := Prod.mk.inj (Option.some.inj hm)
    exact hret _ _ _ _ hw dX9_see_22
  · replace hm := it_n hm c_3
    refine lv_iload_n X.1 X.2.1 dX9_see_11 rfl (lv_at hl 2 rfl) ?_
    refine lv_if_lt (tgt := 20) X.1 X.2.1 dX9_see_12 (by decide) (fun c_5 => ?_) (fun c_5 => ?_)
    · replace hm := it_p hm c_5
      refine lv_bipush (v := -2) X.1 X.2.1 dX9_see_20 (by decide) ?_
      obtain ⟨rfl, rfl⟩ := Prod.mk.inj (Option.some.inj hm)
      exact hret _ _ _ _ hw dX9_see_22
    · replace hm := it_n hm c_5
      refine lv_iload_n X.1 X.2.1 dX9_see_15 rfl (lv_at hl 2 rfl) ?_
      refine lv_iconst (v := 2) X.1 X.2.1 dX9_see_16 (by decide) ?_
      refine lv_icmp_le (tgt := 23) X.1 X.2.1 dX9_see_17 (by decide) (fun c_7 => ?_) (fun c_7 => ?_)
      · replace hm := it_p hm c_7
        refine lv_aload_n X.1 X.2.1 dX9_see_23 rfl (lv_at hl 0 rfl) ?_
        refine gX9_net X hw wq_1_15 dX9_see_24 ?_
        refine lv_iload_n X.1 X.2.1 dX9_see_27 rfl (lv_at hl 1 rfl) ?_
        replace hm := ob_e hm
        obtain ⟨r_9, h_8, hm⟩ := hm
        refine k_Vi (k := 1) (As := [.int x1]) X hl.1 hw (c_X2_seenOf h_8) (by decide) (he_X2 g h _ _) rfl ⟨wq_12_8, wq_12_9, wq_12_10, wq_1_14, wq_12_11⟩ yo_X2_seenOf rfl ⟨Nat.le_of_ble_eq_true rfl, Nat.le_of_ble_eq_true rfl⟩ (Nat.le_of_ble_eq_true rfl) dX9_see_28 (fun H locs hw => ?_)
        refine lv_istore_n (lv' := [(3, .int r_9), (0, .ref (h 0)), (1, .int x1), (2, .int x2)]) X.1 X.2.1 dX9_see_31 rfl hl (by decide) rfl (fun ls hl => ?_)
        refine lv_aload_n X.1 X.2.1 dX9_see_32 rfl (lv_at hl 1 rfl) ?_
        refine gX9_net X hw wq_1_15 dX9_see_33 ?_
        refine lv_iload_n X.1 X.2.1 dX9_see_36 rfl (lv_at hl 2 rfl) ?_
        refine lv_iload_n X.1 X.2.1 dX9_see_37 rfl (lv_at hl 3 rfl) ?_
        replace hm := ob_e hm
        obtain ⟨b_11, h_10, hm⟩ := hm
        refine k_Vv (k := 1) (As := [.int x1, .int x2]) X hl.1 hw (c_X2_setSeen h_10) (by decide) (he_X2 g h _ _) rfl ⟨wq_12_12, wq_12_13, wq_12_14, wq_1_14, wq_12_15⟩ yo_X2_setSeen rfl ⟨Nat.le_of_ble_eq_true rfl, Nat.le_of_ble_eq_true rfl⟩ (Nat.le_of_ble_eq_true rfl) dX9_see_38 (fun H locs hw => ?_)
        refine lv_iload_n X.1 X.2.1 dX9_see_41 rfl (lv_at hl 0 rfl) ?_
        obtain ⟨rfl, rfl⟩ := Prod.mk.inj (Option.some.inj hm)
        exact hret _ _ _ _ hw dX9_see_42
      · replace hm := it_n hm c_7
        refine lv_bipush (v := -2) X.1 X.2.1 dX9_see_20 (by decide) ?_
        obtain ⟨rfl, rfl⟩ := Prod.mk.inj (Option.some.inj hm)
        exact hret _ _ _ _ hw dX9_see_22
def m_X9_source (b : ST) (x1 : Int32) : Option (Int32 × ST) := Option.bind (m_X2_hasStation b (x1.toInt64)) (fun (r_2 : Int32) => if r_2 = 0 then some ((-2 : Int32), b) else Option.bind (m_X2_sourceStation b) (fun (r_5 : Int32) => Option.bind (m_X2_setSource b x1) (fun (b_7 : ST) => some (r_5, b_7))))
theorem yo_X9_source : yX9_source.cls = RX9 ∧ yX9_source.cls ≠ "java/lang/invoke/MethodHandle" ∧ yX9_source.cls ≠ "java/lang/invoke/VarHandle" ∧ (parseMethodDescriptor yX9_source.desc).map (fun d => d.parameters.length) = some 1 := by decide +kernel
set_option maxHeartbeats 4000000 in
set_option maxRecDepth 100000 in
theorem c_X9_source {l : Launch} {g : gT} {h : Nat → Nat} {b : ST} {w : Nat → ST} {x1 : Int32} {r : Int32} {b' : ST} (hm : m_X9_source b x1 = some (r, b')) : MetI l g yX9_source cX9_source 3 (some .int) 1 22 79 h (cC g h (b, w)) (cC g h (b', w)) [.ref (h 0), .int x1] r := by
  refine MetI.ofX (by decide +kernel) (Nat.le_of_ble_eq_true rfl) ?_
  intro p e s m below meth c AV Q X hret ls hw hl
  replace X : Cx g p s m AV c cX9_source RX9 3 := X
  replace hl : lv_has ls 3 [(0, .ref (h 0)), (1, .int x1)] := hl
  unfold m_X9_source at hm
  refine lv_aload_n X.1 X.2.1 dX9_source_0 rfl (lv_at hl 0 rfl) ?_
  refine gX9_net X hw wq_1_15 dX9_source_1 ?_
  refine lv_iload_n X.1 X.2.1 dX9_source_4 rfl (lv_at hl 1 rfl) ?_
  refine lv_i2l X.1 X.2.1 dX9_source_5 rfl ?_
  replace hm := ob_e hm
  obtain ⟨r_2, h_1, hm⟩ := hm
  refine k_Vi (k := 1) (As := [.long x1.toInt64]) X hl.1 hw (c_X2_hasStation h_1) (by decide) (he_X2 g h _ _) rfl ⟨wq_13_0, wq_7_17, wq_7_18, wq_1_14, wq_7_19⟩ yo_X2_hasStation rfl ⟨Nat.le_of_ble_eq_true rfl, Nat.le_of_ble_eq_true rfl⟩ (Nat.le_of_ble_eq_true rfl) dX9_source_6 (fun H locs hw => ?_)
  refine lv_if_ne (tgt := 15) X.1 X.2.1 dX9_source_9 (by decide) (fun c_3 => ?_) (fun c_3 => ?_)
  · replace hm := it_n hm c_3
    refine lv_aload_n X.1 X.2.1 dX9_source_15 rfl (lv_at hl 0 rfl) ?_
    refine gX9_net X hw wq_1_15 dX9_source_16 ?_
    replace hm := ob_e hm
    obtain ⟨r_5, h_4, hm⟩ := hm
    refine k_Vi (k := 1) (As := []) X hl.1 hw (c_X2_sourceStation h_4) (by decide) (he_X2 g h _ _) rfl ⟨wq_13_1, wq_13_2, wq_13_3, wq_1_14, wq_13_4⟩ yo_X2_sourceStation rfl ⟨Nat.le_of_ble_eq_true rfl, Nat.le_of_ble_eq_true rfl⟩ (Nat.le_of_ble_eq_true rfl) dX9_source_19 (fun H locs hw => ?_)
    refine lv_istore_n (lv' := [(2, .int r_5), (0, .ref (h 0)), (1, .int x1)]) X.1 X.2.1 dX9_source_22 rfl hl (by decide) rfl (fun ls hl => ?_)
    refine lv_aload_n X.1 X.2.1 dX9_source_23 rfl (lv_at hl 1 rfl) ?_
    refine gX9_net X hw wq_1_15 dX9_source_24 ?_
    refine lv_iload_n X.1 X.2.1 dX9_source_27 rfl (lv_at hl 2 rfl) ?_
    replace hm := ob_e hm
    obtain ⟨b_7, h_6, hm⟩ := hm
    refine k_Vv (k := 1) (As := [.int x1]) X hl.1 hw (c_X2_setSource h_6) (by decide) (he_X2 g h _ _) rfl ⟨wq_13_5, wq_13_6, wq_13_7, wq_1_14, wq_13_8⟩ yo_X2_setSource rfl ⟨Nat.le_of_ble_eq_true rfl, Nat.le_of_ble_eq_true rfl⟩ (Nat.le_of_ble_eq_true rfl) dX9_source_28 (fun H locs hw => ?_)
    refine lv_iload_n X.1 X.2.1 dX9_source_31 rfl (lv_at hl 0 rfl) ?_
    obtain ⟨rfl, rfl⟩ := Prod.mk.inj (Option.some.inj hm)
    exact hret _ _ _ _ hw dX9_source_32
  · replace hm := it_p hm c_3
    refine lv_bipush (v := -2) X.1 X.2.1 dX9_source_12 (by decide) ?_
    obtain ⟨rfl, rfl⟩ := Prod.mk.inj (Option.some.inj hm)
    exact hret _ _ _ _ hw dX9_source_14
def m_X9_goals (b : ST) (x1 : Int32) : Option (Int32 × ST) := if x1 < 0 then some ((-2 : Int32), b) else Option.bind (m_X2_allStations b) (fun (r_4 : Int32) => if x1 ≤ r_4 then Option.bind (m_X2_goalBits b) (fun (r_7 : Int32) => Option.bind (m_X2_setGoals b x1) (fun (b_9 : ST) => some (r_7, b_9))) else some ((-2 : Int32), b))
theorem yo_X9_goals : yX9_goals.cls = RX9 ∧ yX9_goals.cls ≠ "java/lang/invoke/MethodHandle" ∧ yX9_goals.cls ≠ "java/lang/invoke/VarHandle" ∧ (parseMethodDescriptor yX9_goals.desc).map (fun d => d.parameters.length) = some 1 := by decide +kernel
set_option maxHeartbeats 4000000 in
set_option maxRecDepth 100000 in
theorem c_X9_goals {l : Launch} {g : gT} {h : Nat → Nat} {b : ST} {w : Nat → ST} {x1 : Int32} {r : Int32} {b' : ST} (hm : m_X9_goals b x1 = some (r, b')) : MetI l g yX9_goals cX9_goals 3 (some .int) 1 21 79 h (cC g h (b, w)) (cC g h (b', w)) [.ref (h 0), .int x1] r := by
  refine MetI.ofX (by decide +kernel) (Nat.le_of_ble_eq_true rfl) ?_
  intro p e s m below meth c AV Q X hret ls hw hl
  replace X : Cx g p s m AV c cX9_goals RX9 3 := X
  replace hl : lv_has ls 3 [(0, .ref (h 0)), (1, .int x1)] := hl
  unfold m_X9_goals at hm
  refine lv_iload_n X.1 X.2.1 dX9_goals_0 rfl (lv_at hl 1 rfl) ?_
  refine lv_if_lt (tgt := 15) X.1 X.2.1 dX9_goals_1 (by decide) (fun c_1 => ?_) (fun c_1 => ?_)
  · replace hm := it_p hm c_1
    refine lv_bipush (v := -2) X.1 X.2.1 dX9_goals_15 (by decide) ?_
    obtain ⟨rfl, rfl⟩ := Prod.mk.inj (Option.some.inj hm)
    exact hret _ _ _ _ hw dX9_goals_17
  · replace hm := it_n hm c_1
    refine lv_iload_n X.1 X.2.1 dX9_goals_4 rfl (lv_at hl 1 rfl) ?_
    refine lv_aload_n X.1 X.2.1 dX9_goals_5 rfl (lv_at hl 0 rfl) ?_
    refine gX9_net X hw wq_1_15 dX9_goals_6 ?_
    replace hm := ob_e hm
    obtain ⟨r_4, h_3, hm⟩ := hm
    refine k_Vi (k := 1) (As := []) X hl.1 hw (c_X2_allStations h_3) (by decide) (he_X2 g h _ _) rfl ⟨wq_13_17, wq_13_18, wq_13_19, wq_1_14, wq_13_20⟩ yo_X2_allStations rfl ⟨Nat.le_of_ble_eq_true rfl, Nat.le_of_ble_eq_true rfl⟩ (Nat.le_of_ble_eq_true rfl) dX9_goals_9 (fun H locs hw => ?_)
    refine lv_icmp_le (tgt := 18) X.1 X.2.1 dX9_goals_12 (by decide) (fun c_5 => ?_) (fun c_5 => ?_)
    · replace hm := it_p hm c_5
      refine lv_aload_n X.1 X.2.1 dX9_goals_18 rfl (lv_at hl 0 rfl) ?_
      refine gX9_net X hw wq_1_15 dX9_goals_19 ?_
      replace hm := ob_e hm
      obtain ⟨r_7, h_6, hm⟩ := hm
      refine k_Vi (k := 1) (As := []) X hl.1 hw (c_X2_goalBits h_6) (by decide) (he_X2 g h _ _) rfl ⟨wq_13_21, wq_13_22, wq_13_23, wq_1_14, wq_14_0⟩ yo_X2_goalBits rfl ⟨Nat.le_of_ble_eq_true rfl, Nat.le_of_ble_eq_true rfl⟩ (Nat.le_of_ble_eq_true rfl) dX9_goals_22 (fun H locs hw => ?_)
      refine lv_istore_n (lv' := [(2, .int r_7), (0, .ref (h 0)), (1, .int x1)]) X.1 X.2.1 dX9_goals_25 rfl hl (by decide) rfl (fun ls hl => ?_)
      refine lv_aload_n X.1 X.2.1 dX9_goals_26 rfl (lv_at hl 1 rfl) ?_
      refine gX9_net X hw wq_1_15 dX9_goals_27 ?_
      refine lv_iload_n X.1 X.2.1 dX9_goals_30 rfl (lv_at hl 2 rfl) ?_
      replace hm := ob_e hm
      obtain ⟨b_9, h_8, hm⟩ := hm
      refine k_Vv (k := 1) (As := [.int x1]) X hl.1 hw (c_X2_setGoals h_8) (by decide) (he_X2 g h _ _) rfl ⟨wq_14_1, wq_14_2, wq_14_3, wq_1_14, wq_14_4⟩ yo_X2_setGoals rfl ⟨Nat.le_of_ble_eq_true rfl, Nat.le_of_ble_eq_true rfl⟩ (Nat.le_of_ble_eq_true rfl) dX9_goals_31 (fun H locs hw => ?_)
      refine lv_iload_n X.1 X.2.1 dX9_goals_34 rfl (lv_at hl 0 rfl) ?_
      obtain ⟨rfl, rfl⟩ := Prod.mk.inj (Option.some.inj hm)
      exact hret _ _ _ _ hw dX9_goals_35
    · replace hm := it_n hm c_5
      refine lv_bipush (v := -2) X.1 X.2.1 dX9_goals_15 (by decide) ?_
      obtain ⟨rfl, rfl⟩ := Prod.mk.inj (Option.some.inj hm)
      exact hret _ _ _ _ hw dX9_goals_17
def m_X9_info (b : ST) (x1 : Int32) (x2 : Int32) : Option (Int32) := Option.bind (m_X2_hasLink b x1) (fun (r_2 : Int32) => if r_2 = 0 then some (-2 : Int32) else if x2 = 0 then Option.bind (m_X2_lesserOf b x1) (fun (r_6 : Int32) => some r_6) else (if x2 = 1 then Option.bind (m_X2_greaterOf b x1) (fun (r_9 : Int32) => some r_9) else (if x2 = 2 then Option.bind (m_X2_aboveOf b x1) (fun (r_12 : Int32) => some r_12) else (if x2 = 3 then Option.bind (m_X2_belowOf b x1) (fun (r_15 : Int32) => some r_15) else (if x2 = 4 then Option.bind (m_X2_seenOf b x1) (fun (r_18 : Int32) => some r_18) else (some (-2 : Int32)))))))
theorem yo_X9_info : yX9_info.cls = RX9 ∧ yX9_info.cls ≠ "java/lang/invoke/MethodHandle" ∧ yX9_info.cls ≠ "java/lang/invoke/VarHandle" ∧ (parseMethodDescriptor yX9_info.desc).map (fun d => d.parameters.length) = some 2 := by decide +kernel
set_option maxHeartbeats 4000000 in
set_option maxRecDepth 100000 in
theorem c_X9_info {l : Launch} {g : gT} {h : Nat → Nat} {b : ST} {w : Nat → ST} {x1 : Int32} {x2 : Int32} {r : Int32} (hm : m_X9_info b x1 x2 = some r) : MetI l g yX9_info cX9_info 3 (some .int) 2 42 79 h (cC g h (b, w)) (cC g h (b, w)) [.ref (h 0), .int x1, .int x2] r := by
  refine MetI.ofX (by decide +kernel) (Nat.le_of_ble_eq_true rfl) ?_
  intro p e s m below meth c AV Q X hret ls hw hl
  replace X : Cx g p s m AV c cX9_info RX9 3 := X
  replace hl : lv_has ls 3 [(0, .ref (h 0)), (1, .int x1), (2, .int x2)] := hl
  unfold m_X9_info at hm
  refine lv_aload_n X.1 X.2.1 dX9_info_0 rfl (lv_at hl 0 rfl) ?_
  refine gX9_net X hw wq_1_15 dX9_info_1 ?_
  refine lv_iload_n X.1 X.2.1 dX9_info_4 rfl (lv_at hl 1 rfl) ?_
  replace hm := ob_e hm
  obtain ⟨r_2, h_1, hm⟩ := hm
  refine k_Vi (k := 1) (As := [.int x1]) X hl.1 hw (c_X2_hasLink h_1) (by decide) (he_X2 g h _ _) rfl ⟨wq_11_6, wq_9_1, wq_9_2, wq_1_14, wq_9_3⟩ yo_X2_hasLink rfl ⟨Nat.le_of_ble_eq_true rfl, Nat.le_of_ble_eq_true rfl⟩ (Nat.le_of_ble_eq_true rfl) dX9_info_5 (fun H locs hw => ?_)
  refine lv_if_ne (tgt := 14) X.1 X.2.1 dX9_info_8 (by decide) (fun c_3 => ?_) (fun c_3 => ?_)
  · replace hm := it_n hm c_3
    refine lv_iload_n X.1 X.2.1 dX9_info_14 rfl (lv_at hl 2 rfl) ?_
    by_cases c_4 : x2 = 0
    · replace hm := it_p hm c_4
      refine x_tab X c_4 dX9_info_15 (off := 33) (tgt := 48) (by decide) (by decide) rfl (by decide) ?_
      refine lv_aload_n X.1 X.2.1 dX9_info_48 rfl (lv_at hl 0 rfl) ?_
      refine gX9_net X hw wq_1_15 dX9_info_49 ?_
      refine lv_iload_n X.1 X.2.1 dX9_info_52 rfl (lv_at hl 1 rfl) ?_
      replace hm := ob_e hm
      obtain ⟨r_6, h_5, hm⟩ := hm
      refine k_Vi (k := 1) (As := [.int x1]) X hl.1 hw (c_X2_lesserOf h_5) (by decide) (he_X2 g h _ _) rfl ⟨wq_14_13, wq_8_21, wq_8_22, wq_1_14, wq_8_23⟩ yo_X2_lesserOf rfl ⟨Nat.le_of_ble_eq_true rfl, Nat.le_of_ble_eq_true rfl⟩ (Nat.le_of_ble_eq_true rfl) dX9_info_53 (fun H locs hw => ?_)
      obtain rfl := Option.some.inj hm
      exact hret _ _ _ _ hw dX9_info_56
    · replace hm := it_n hm c_4
      by_cases c_7 : x2 = 1
      · replace hm := it_p hm c_7
        refine x_tab X c_7 dX9_info_15 (off := 42) (tgt := 57) (by decide) (by decide) rfl (by decide) ?_
        refine lv_aload_n X.1 X.2.1 dX9_info_57 rfl (lv_at hl 0 rfl) ?_
        refine gX9_net X hw wq_1_15 dX9_info_58 ?_
        refine lv_iload_n X.1 X.2.1 dX9_info_61 rfl (lv_at hl 1 rfl) ?_
        replace hm := ob_e hm
        obtain ⟨r_9, h_8, hm⟩ := hm
        refine k_Vi (k := 1) (As := [.int x1]) X hl.1 hw (c_X2_greaterOf h_8) (by decide) (he_X2 g h _ _) rfl ⟨wq_14_14, wq_9_5, wq_9_6, wq_1_14, wq_9_7⟩ yo_X2_greaterOf rfl ⟨Nat.le_of_ble_eq_true rfl, Nat.le_of_ble_eq_true rfl⟩ (Nat.le_of_ble_eq_true rfl) dX9_info_62 (fun H locs hw => ?_)
        obtain rfl := Option.some.inj hm
        exact hret _ _ _ _ hw dX9_info_65
      · replace hm := it_n hm c_7
        by_cases c_10 : x2 = 2
        · replace hm := it_p hm c_10
          refine x_tab X c_10 dX9_info_15 (off := 51) (tgt := 66) (by decide) (by decide) rfl (by decide) ?_
          refine lv_aload_n X.1 X.2.1 dX9_info_66 rfl (lv_at hl 0 rfl) ?_
          refine gX9_net X hw wq_1_15 dX9_info_67 ?_
          refine lv_iload_n X.1 X.2.1 dX9_info_70 rfl (lv_at hl 1 rfl) ?_
          replace hm := ob_e hm
          obtain ⟨r_12, h_11, hm⟩ := hm
          refine k_Vi (k := 1) (As := [.int x1]) X hl.1 hw (c_X2_aboveOf h_11) (by decide) (he_X2 g h _ _) rfl ⟨wq_11_8, wq_11_9, wq_11_10, wq_1_14, wq_11_11⟩ yo_X2_aboveOf rfl ⟨Nat.le_of_ble_eq_true rfl, Nat.le_of_ble_eq_true rfl⟩ (Nat.le_of_ble_eq_true rfl) dX9_info_71 (fun H locs hw => ?_)
          obtain rfl := Option.some.inj hm
          exact hret _ _ _ _ hw dX9_info_74
        · replace hm := it_n hm c_10
          by_cases c_13 : x2 = 3
          · replace hm := it_p hm c_13
            refine x_tab X c_13 dX9_info_15 (off := 60) (tgt := 75) (by decide) (by decide) rfl (by decide) ?_
            refine lv_aload_n X.1 X.2.1 dX9_info_75 rfl (lv_at hl 0 rfl) ?_
            refine gX9_net X hw wq_1_15 dX9_info_76 ?_
            refine lv_iload_n X.1 X.2.1 dX9_info_79 rfl (lv_at hl 1 rfl) ?_
            replace hm := ob_e hm
            obtain ⟨r_15, h_14, hm⟩ := hm
            refine k_Vi (k := 1) (As := [.int x1]) X hl.1 hw (c_X2_belowOf h_14) (by decide) (he_X2 g h _ _) rfl ⟨wq_11_12, wq_11_13, wq_11_14, wq_1_14, wq_11_15⟩ yo_X2_belowOf rfl ⟨Nat.le_of_ble_eq_true rfl, Nat.le_of_ble_eq_true rfl⟩ (Nat.le_of_ble_eq_true rfl) dX9_info_80 (fun H locs hw => ?_)
            obtain rfl := Option.some.inj hm
            exact hret _ _ _ _ hw dX9_info_83
          · replace hm := it_n hm c_13
            by_cases c_16 : x2 = 4
            · replace hm := it_p hm c_16
              refine x_tab X c_16 dX9_info_15 (off := 69) (tgt := 84) (by decide) (by decide) rfl (by decide) ?_
              refine lv_aload_n X.1 X.2.1 dX9_info_84 rfl (lv_at hl 0 rfl) ?_
              refine gX9_net X hw wq_1_15 dX9_info_85 ?_
              refine lv_iload_n X.1 X.2.1 dX9_info_88 rfl (lv_at hl 1 rfl) ?_
              replace hm := ob_e hm
              obtain ⟨r_18, h_17, hm⟩ := hm
              refine k_Vi (k := 1) (As := [.int x1]) X hl.1 hw (c_X2_seenOf h_17) (by decide) (he_X2 g h _ _) rfl ⟨wq_12_8, wq_12_9, wq_12_10, wq_1_14, wq_12_11⟩ yo_X2_seenOf rfl ⟨Nat.le_of_ble_eq_true rfl, Nat.le_of_ble_eq_true rfl⟩ (Nat.le_of_ble_eq_true rfl) dX9_info_89 (fun H locs hw => ?_)
              obtain rfl := Option.some.inj hm
              exact hret _ _ _ _ hw dX9_info_92
            · replace hm := it_n hm c_16
              have tc_4 : ¬ x2.toInt = 0 := lv_neT c_4 (k := 0) (by decide)
              have tc_7 : ¬ x2.toInt = 1 := lv_neT c_7 (k := 1) (by decide)
              have tc_10 : ¬ x2.toInt = 2 := lv_neT c_10 (k := 2) (by decide)
              have tc_13 : ¬ x2.toInt = 3 := lv_neT c_13 (k := 3) (by decide)
              have tc_16 : ¬ x2.toInt = 4 := lv_neT c_16 (k := 4) (by decide)
              refine lv_tableOut X.1 X.2.1 (tgt := 93) dX9_info_15 (by omega) (by decide) ?_
              refine lv_bipush (v := -2) X.1 X.2.1 dX9_info_93 (by decide) ?_
              obtain rfl := Option.some.inj hm
              exact hret _ _ _ _ hw dX9_info_95
  · replace hm := it_p hm c_3
    refine lv_bipush (v := -2) X.1 X.2.1 dX9_info_11 (by decide) ?_
    obtain rfl := Option.some.inj hm
    exact hret _ _ _ _ hw dX9_info_13
def m_X9_isSide (x0 : Int32) : Option (Int32) := if x0 = 0 then some (1 : Int32) else if x0 = (1 : Int32) then some (1 : Int32) else some (0 : Int32)
theorem yo_X9_isSide : yX9_isSide.cls ≠ "java/lang/invoke/MethodHandle" ∧ yX9_isSide.cls ≠ "java/lang/invoke/VarHandle" ∧ (parseMethodDescriptor yX9_isSide.desc).map (fun d => d.parameters.length) = some 1 := by decide +kernel
set_option maxHeartbeats 4000000 in
set_option maxRecDepth 100000 in
theorem c_X9_isSide {l : Launch} {g : gT} {n : Nat} {h : Nat → Nat} {cel : Nat → va_E} {x0 : Int32} {r : Int32} (hm : m_X9_isSide x0 = some r) : MetI l g yX9_isSide cX9_isSide 1 (some .boolean) 0 0 n h (cel) (cel) [.int x0] r := by
  refine MetZ.ofX (by decide +kernel) (Nat.le_of_ble_eq_true rfl) ?_
  intro p e s m below meth c AV Q X hret ls hw hl
  replace X : Cx g p s m AV c cX9_isSide RX9 1 := X
  replace hl : lv_has ls 1 [(0, .int x0)] := hl
  unfold m_X9_isSide at hm
  refine lv_iload_n X.1 X.2.1 dX9_isSide_0 rfl (lv_at hl 0 rfl) ?_
  refine lv_if_eq (tgt := 9) X.1 X.2.1 dX9_isSide_1 (by decide) (fun c_1 => ?_) (fun c_1 => ?_)
  · replace hm := it_p hm c_1
    refine lv_iconst (v := 1) X.1 X.2.1 dX9_isSide_9 (by decide) ?_
    refine lv_goto (tgt := 14) X.1 X.2.1 dX9_isSide_10 (by decide) ?_
    obtain rfl := Option.some.inj hm
    exact hret _ _ _ _ hw dX9_isSide_14 (Or.inr rfl)
  · replace hm := it_n hm c_1
    refine lv_iload_n X.1 X.2.1 dX9_isSide_4 rfl (lv_at hl 0 rfl) ?_
    refine lv_iconst (v := 1) X.1 X.2.1 dX9_isSide_5 (by decide) ?_
    refine lv_icmp_ne (tgt := 13) X.1 X.2.1 dX9_isSide_6 (by decide) (fun c_2 => ?_) (fun c_2 => ?_)
    · replace hm := it_n hm c_2
      refine lv_iconst (v := 0) X.1 X.2.1 dX9_isSide_13 (by decide) ?_
      obtain rfl := Option.some.inj hm
      exact hret _ _ _ _ hw dX9_isSide_14 (Or.inl rfl)
    · replace hm := it_p hm c_2
      refine lv_iconst (v := 1) X.1 X.2.1 dX9_isSide_9 (by decide) ?_
      refine lv_goto (tgt := 14) X.1 X.2.1 dX9_isSide_10 (by decide) ?_
      obtain rfl := Option.some.inj hm
      exact hret _ _ _ _ hw dX9_isSide_14 (Or.inr rfl)
def m_X9_refused (x0 : Int32) : Option (Int64) := some ((-9223372036854775808 : Int64) - x0.toInt64)
theorem yo_X9_refused : yX9_refused.cls ≠ "java/lang/invoke/MethodHandle" ∧ yX9_refused.cls ≠ "java/lang/invoke/VarHandle" ∧ (parseMethodDescriptor yX9_refused.desc).map (fun d => d.parameters.length) = some 1 := by decide +kernel
set_option maxHeartbeats 4000000 in
set_option maxRecDepth 100000 in
theorem c_X9_refused {l : Launch} {g : gT} {n : Nat} {h : Nat → Nat} {cel : Nat → va_E} {x0 : Int32} {r : Int64} (hm : m_X9_refused x0 = some r) : MetL l g yX9_refused cX9_refused 1 (some .long) 0 0 n h (cel) (cel) [.int x0] r := by
  refine MetL.ofX (by decide +kernel) (Nat.le_of_ble_eq_true rfl) ?_
  intro p e s m below meth c AV Q X hret ls hw hl
  replace X : Cx g p s m AV c cX9_refused RX9 1 := X
  replace hl : lv_has ls 1 [(0, .int x0)] := hl
  unfold m_X9_refused at hm
  refine lv_ldc2 (v := -9223372036854775808) X.1 X.2.1 X.2.2.2.1 (X.2.2.2.2.1 _ wq_15_10) dX9_refused_0 ?_
  refine lv_iload_n X.1 X.2.1 dX9_refused_3 rfl (lv_at hl 0 rfl) ?_
  refine lv_i2l X.1 X.2.1 dX9_refused_4 rfl ?_
  refine lv_lsub X.1 X.2.1 dX9_refused_5 ?_
  obtain rfl := Option.some.inj hm
  exact hret _ _ _ _ hw dX9_refused_6
def m_X9_reach (b : ST) (x1 : Int32) : Option (Int64 × ST) := Option.bind (m_X9_isSide x1) (fun (r_2 : Int32) => if r_2 = 0 then Option.bind (m_X9_refused (-2 : Int32)) (fun (r_12 : Int64) => some (r_12, b)) else Option.bind (m_X3_fill b) (fun (b_5 : ST) => Option.bind (m_X3_reachParts b_5) (fun (r_7 : Int64) => Option.bind (m_X3_told b_5 r_7 x1) (fun (r_9 : Int64) => some (r_9, b_5)))))
theorem yo_X9_reach : yX9_reach.cls = RX9 ∧ yX9_reach.cls ≠ "java/lang/invoke/MethodHandle" ∧ yX9_reach.cls ≠ "java/lang/invoke/VarHandle" ∧ (parseMethodDescriptor yX9_reach.desc).map (fun d => d.parameters.length) = some 1 := by decide +kernel
set_option maxHeartbeats 4000000 in
set_option maxRecDepth 100000 in
theorem c_X9_reach {l : Launch} {g : gT} {h : Nat → Nat} {b : ST} {w : Nat → ST} {x1 : Int32} {r : Int64} {b' : ST} (hm : m_X9_reach b x1 = some (r, b')) : MetL l g yX9_reach cX9_reach 2 (some .long) 5 108 79 h (cC g h (b, w)) (cC g h (b', w)) [.ref (h 0), .int x1] r := by
  refine MetL.ofX (by decide +kernel) (Nat.le_of_ble_eq_true rfl) ?_
  intro p e s m below meth c AV Q X hret ls hw hl
  replace X : Cx g p s m AV c cX9_reach RX9 2 := X
  replace hl : lv_has ls 2 [(0, .ref (h 0)), (1, .int x1)] := hl
  unfold m_X9_reach at hm
  refine lv_iload_n X.1 X.2.1 dX9_reach_0 rfl (lv_at hl 1 rfl) ?_
  replace hm := ob_e hm
  obtain ⟨r_2, h_1, hm⟩ := hm
  refine k_Si (As := [.int x1]) X hl.1 hw (c_X9_isSide h_1) ⟨wq_15_4, wq_15_5, wq_1_2, wq_15_6⟩ yo_X9_isSide rfl ⟨Nat.le_of_ble_eq_true rfl, Nat.le_of_ble_eq_true rfl⟩ (Nat.le_of_ble_eq_true rfl) dX9_reach_1 (fun H locs hw => ?_)
  refine lv_if_ne (tgt := 13) X.1 X.2.1 dX9_reach_4 (by decide) (fun c_3 => ?_) (fun c_3 => ?_)
  · replace hm := it_n hm c_3
    refine lv_aload_n X.1 X.2.1 dX9_reach_13 rfl (lv_at hl 0 rfl) ?_
    refine gX9_odds X hw wq_1_19 dX9_reach_14 ?_
    replace hm := ob_e hm
    obtain ⟨b_5, h_4, hm⟩ := hm
    refine k_Vv (k := 8) (As := []) X hl.1 hw (c_X3_fill h_4) (by decide) (he_X3 g h _ _) rfl ⟨wq_15_11, wq_15_12, wq_15_13, wq_1_18, wq_15_14⟩ yo_X3_fill rfl ⟨Nat.le_of_ble_eq_true rfl, Nat.le_of_ble_eq_true rfl⟩ (Nat.le_of_ble_eq_true rfl) dX9_reach_17 (fun H locs hw => ?_)
    refine lv_aload_n X.1 X.2.1 dX9_reach_20 rfl (lv_at hl 0 rfl) ?_
    refine gX9_odds X hw wq_1_19 dX9_reach_21 ?_
    refine lv_aload_n X.1 X.2.1 dX9_reach_24 rfl (lv_at hl 0 rfl) ?_
    refine gX9_odds X hw wq_1_19 dX9_reach_25 ?_
    replace hm := ob_e hm
    obtain ⟨r_7, h_6, hm⟩ := hm
    refine k_Vl (k := 8) (As := []) X hl.1 hw (c_X3_reachParts h_6) (by decide) (he_X3 g h _ _) rfl ⟨wq_16_11, wq_16_12, wq_16_13, wq_1_18, wq_16_14⟩ yo_X3_reachParts rfl ⟨Nat.le_of_ble_eq_true rfl, Nat.le_of_ble_eq_true rfl⟩ (Nat.le_of_ble_eq_true rfl) dX9_reach_28 (fun H locs hw => ?_)
    refine lv_iload_n X.1 X.2.1 dX9_reach_31 rfl (lv_at hl 1 rfl) ?_
    replace hm := ob_e hm
    obtain ⟨r_9, h_8, hm⟩ := hm
    refine k_Vl (k := 8) (As := [.long r_7, .int x1]) X hl.1 hw (c_X3_told h_8) (by decide) (he_X3 g h _ _) rfl ⟨wq_17_7, wq_17_8, wq_17_9, wq_1_18, wq_17_10⟩ yo_X3_told rfl ⟨Nat.le_of_ble_eq_true rfl, Nat.le_of_ble_eq_true rfl⟩ (Nat.le_of_ble_eq_true rfl) dX9_reach_32 (fun H locs hw => ?_)
    obtain ⟨rfl, rfl⟩ := Prod.mk.inj (Option.some.inj hm)
    exact hret _ _ _ _ hw dX9_reach_35
  · replace hm := it_p hm c_3
    refine lv_bipush (v := -2) X.1 X.2.1 dX9_reach_7 (by decide) ?_
    replace hm := ob_e hm
    obtain ⟨r_12, h_11, hm⟩ := hm
    refine k_Sl (As := [.int (-2 : Int32)]) X hl.1 hw (c_X9_refused h_11) ⟨wq_15_7, wq_15_8, wq_1_2, wq_15_9⟩ yo_X9_refused rfl ⟨Nat.le_of_ble_eq_true rfl, Nat.le_of_ble_eq_true rfl⟩ (Nat.le_of_ble_eq_true rfl) dX9_reach_9 (fun H locs hw => ?_)
    obtain ⟨rfl, rfl⟩ := Prod.mk.inj (Option.some.inj hm)
    exact hret _ _ _ _ hw dX9_reach_12
def m_X9_joined (b : ST) (w : Nat → ST) (x1 : Int32) : Option (Int64 × ST × (Nat → ST)) := Option.bind ((if x1 < 0 then some (.inl ()) else if x1 ≤ (4 : Int32) then Option.bind (m_X0_askAll b w) (fun (q_11 : ST × (Nat → ST)) => un q_11 (fun b_9 w_10 => Option.bind (m_X0_told b_9 w_10 x1) (fun (r_13 : Int64) => some (.inr (r_13, b_9, w_10))))) else some (.inl ())) : Option ((Unit) ⊕ (Int64 × ST × (Nat → ST)))) (fun z_15 => ex z_15 (fun (_ : Unit) => Option.bind (m_X9_refused (-2 : Int32)) (fun (r_3 : Int64) => some (r_3, b, w))) (fun r => some r))
theorem yo_X9_joined : yX9_joined.cls = RX9 ∧ yX9_joined.cls ≠ "java/lang/invoke/MethodHandle" ∧ yX9_joined.cls ≠ "java/lang/invoke/VarHandle" ∧ (parseMethodDescriptor yX9_joined.desc).map (fun d => d.parameters.length) = some 1 := by decide +kernel
set_option maxHeartbeats 4000000 in
set_option maxRecDepth 100000 in
theorem c_X9_joined {l : Launch} {g : gT} {h : Nat → Nat} {b : ST} {w : Nat → ST} {x1 : Int32} {r : Int64} {b' : ST} {w' : (Nat → ST)} (hm : m_X9_joined b w x1 = some (r, b', w')) : MetL l g yX9_joined cX9_joined 2 (some .long) 18 436 79 h (cC g h (b, w)) (cC g h (b', w')) [.ref (h 0), .int x1] r := by
  refine MetL.ofX (by decide +kernel) (Nat.le_of_ble_eq_true rfl) ?_
  intro p e s m below meth c AV Q X hret ls hw hl
  replace X : Cx g p s m AV c cX9_joined RX9 2 := X
  replace hl : lv_has ls 2 [(0, .ref (h 0)), (1, .int x1)] := hl
  unfold m_X9_joined at hm
  refine lv_iload_n X.1 X.2.1 dX9_joined_0 rfl (lv_at hl 1 rfl) ?_
  replace hm := ob_e hm
  obtain ⟨z_15, hg_5, hm⟩ := hm
  have J_6 : z_15 = .inl () → ∀ (H : Heap) (locs : List Loc) (ls : Array Slot), Wd g 79 h (cC g h (b, w)) s H locs → lv_has ls 2 [] → W p l e (rW 18 436) s m AV below meth c H locs 0 0 Q (F0 m 9 ls []) := by
    intro hj
    subst hj
    replace hm := ex_l hm
    intro H locs ls hw hl
    refine lv_bipush (v := -2) X.1 X.2.1 dX9_joined_9 (by decide) ?_
    replace hm := ob_e hm
    obtain ⟨r_3, h_2, hm⟩ := hm
    refine k_Sl (As := [.int (-2 : Int32)]) X hl.1 hw (c_X9_refused h_2) ⟨wq_15_7, wq_15_8, wq_1_2, wq_15_9⟩ yo_X9_refused rfl ⟨Nat.le_of_ble_eq_true rfl, Nat.le_of_ble_eq_true rfl⟩ (Nat.le_of_ble_eq_true rfl) dX9_joined_11 (fun H locs hw => ?_)
    obtain ⟨rfl, q_4⟩ := Prod.mk.inj (Option.some.inj hm)
    obtain ⟨rfl, rfl⟩ := Prod.mk.inj q_4
    exact hret _ _ _ _ hw dX9_joined_14
  refine lv_if_lt (tgt := 9) X.1 X.2.1 dX9_joined_1 (by decide) (fun c_1 => ?_) (fun c_1 => ?_)
  · replace hg_5 := it_p hg_5 c_1
    exact J_6 (Option.some.inj hg_5).symm _ _ _ hw (lv_sub hl [] rfl)
  · replace hg_5 := it_n hg_5 c_1
    refine lv_iload_n X.1 X.2.1 dX9_joined_4 rfl (lv_at hl 1 rfl) ?_
    refine lv_iconst (v := 4) X.1 X.2.1 dX9_joined_5 (by decide) ?_
    refine lv_icmp_le (tgt := 15) X.1 X.2.1 dX9_joined_6 (by decide) (fun c_7 => ?_) (fun c_7 => ?_)
    · replace hg_5 := it_p hg_5 c_7
      refine lv_aload_n X.1 X.2.1 dX9_joined_15 rfl (lv_at hl 0 rfl) ?_
      refine gX9_cutAndJoin X hw wq_2_7 dX9_joined_16 ?_
      replace hg_5 := ob_e hg_5
      obtain ⟨⟨b_9, w_10⟩, h_8, hg_5⟩ := hg_5
      replace hg_5 := un_e hg_5
      refine k_Vv (k := 14) (As := []) X hl.1 hw (c_X0_askAll h_8) (by decide) (he_X0 g h _ _) rfl ⟨wq_19_18, wq_19_19, wq_19_20, wq_2_6, wq_19_21⟩ yo_X0_askAll rfl ⟨Nat.le_of_ble_eq_true rfl, Nat.le_of_ble_eq_true rfl⟩ (Nat.le_of_ble_eq_true rfl) dX9_joined_19 (fun H locs hw => ?_)
      refine lv_aload_n X.1 X.2.1 dX9_joined_22 rfl (lv_at hl 0 rfl) ?_
      refine gX9_cutAndJoin X hw wq_2_7 dX9_joined_23 ?_
      refine lv_iload_n X.1 X.2.1 dX9_joined_26 rfl (lv_at hl 1 rfl) ?_
      replace hg_5 := ob_e hg_5
      obtain ⟨r_13, h_12, hg_5⟩ := hg_5
      refine k_Vl (k := 14) (As := [.int x1]) X hl.1 hw (c_X0_told h_12) (by decide) (he_X0 g h _ _) rfl ⟨wq_24_20, wq_24_21, wq_24_22, wq_2_6, wq_24_23⟩ yo_X0_told rfl ⟨Nat.le_of_ble_eq_true rfl, Nat.le_of_ble_eq_true rfl⟩ (Nat.le_of_ble_eq_true rfl) dX9_joined_27 (fun H locs hw => ?_)
      obtain rfl := Option.some.inj hg_5
      replace hm := ex_r hm
      obtain ⟨rfl, q_14⟩ := Prod.mk.inj (Option.some.inj hm)
      obtain ⟨rfl, rfl⟩ := Prod.mk.inj q_14
      exact hret _ _ _ _ hw dX9_joined_30
    · replace hg_5 := it_n hg_5 c_7
      exact J_6 (Option.some.inj hg_5).symm _ _ _ hw (lv_sub hl [] rfl)
def m_X9_wide (b : ST) (x1 : Int32) : Option (Int32 × ST) := Option.bind (m_X2_hasLink b x1) (fun (r_2 : Int32) => if r_2 = 0 then some ((-2 : Int32), b) else Option.bind (m_X6_widthBehind b x1) (fun (q_7 : Int32 × ST) => un q_7 (fun r_5 b_6 => some (r_5, b_6))))
theorem yo_X9_wide : yX9_wide.cls = RX9 ∧ yX9_wide.cls ≠ "java/lang/invoke/MethodHandle" ∧ yX9_wide.cls ≠ "java/lang/invoke/VarHandle" ∧ (parseMethodDescriptor yX9_wide.desc).map (fun d => d.parameters.length) = some 1 := by decide +kernel
set_option maxHeartbeats 4000000 in
set_option maxRecDepth 100000 in
theorem c_X9_wide {l : Launch} {g : gT} {h : Nat → Nat} {b : ST} {w : Nat → ST} {x1 : Int32} {r : Int32} {b' : ST} (hm : m_X9_wide b x1 = some (r, b')) : MetI l g yX9_wide cX9_wide 2 (some .int) 5 116 79 h (cC g h (b, w)) (cC g h (b', w)) [.ref (h 0), .int x1] r := by
  refine MetI.ofX (by decide +kernel) (Nat.le_of_ble_eq_true rfl) ?_
  intro p e s m below meth c AV Q X hret ls hw hl
  replace X : Cx g p s m AV c cX9_wide RX9 2 := X
  replace hl : lv_has ls 2 [(0, .ref (h 0)), (1, .int x1)] := hl
  unfold m_X9_wide at hm
  refine lv_aload_n X.1 X.2.1 dX9_wide_0 rfl (lv_at hl 0 rfl) ?_
  refine gX9_net X hw wq_1_15 dX9_wide_1 ?_
  refine lv_iload_n X.1 X.2.1 dX9_wide_4 rfl (lv_at hl 1 rfl) ?_
  replace hm := ob_e hm
  obtain ⟨r_2, h_1, hm⟩ := hm
  refine k_Vi (k := 1) (As := [.int x1]) X hl.1 hw (c_X2_hasLink h_1) (by decide) (he_X2 g h _ _) rfl ⟨wq_11_6, wq_9_1, wq_9_2, wq_1_14, wq_9_3⟩ yo_X2_hasLink rfl ⟨Nat.le_of_ble_eq_true rfl, Nat.le_of_ble_eq_true rfl⟩ (Nat.le_of_ble_eq_true rfl) dX9_wide_5 (fun H locs hw => ?_)
  refine lv_if_ne (tgt := 14) X.1 X.2.1 dX9_wide_8 (by decide) (fun c_3 => ?_) (fun c_3 => ?_)
  · replace hm := it_n hm c_3
    refine lv_aload_n X.1 X.2.1 dX9_wide_14 rfl (lv_at hl 0 rfl) ?_
    refine gX9_shared X hw wq_2_3 dX9_wide_15 ?_
    refine lv_iload_n X.1 X.2.1 dX9_wide_18 rfl (lv_at hl 1 rfl) ?_
    replace hm := ob_e hm
    obtain ⟨⟨r_5, b_6⟩, h_4, hm⟩ := hm
    replace hm := un_e hm
    refine k_Vi (k := 12) (As := [.int x1]) X hl.1 hw (c_X6_widthBehind h_4) (by decide) (he_X6 g h _ _) rfl ⟨wq_28_18, wq_28_19, wq_28_20, wq_2_2, wq_28_21⟩ yo_X6_widthBehind rfl ⟨Nat.le_of_ble_eq_true rfl, Nat.le_of_ble_eq_true rfl⟩ (Nat.le_of_ble_eq_true rfl) dX9_wide_19 (fun H locs hw => ?_)
    obtain ⟨rfl, rfl⟩ := Prod.mk.inj (Option.some.inj hm)
    exact hret _ _ _ _ hw dX9_wide_22
  · replace hm := it_p hm c_3
    refine lv_bipush (v := -2) X.1 X.2.1 dX9_wide_11 (by decide) ?_
    obtain ⟨rfl, rfl⟩ := Prod.mk.inj (Option.some.inj hm)
    exact hret _ _ _ _ hw dX9_wide_13
def m_X9_widest (b : ST) : Option (Int32 × ST) := Option.bind (m_X6_greatestWidth b) (fun (q_4 : Int32 × ST) => un q_4 (fun r_2 b_3 => some (r_2, b_3)))
theorem yo_X9_widest : yX9_widest.cls = RX9 ∧ yX9_widest.cls ≠ "java/lang/invoke/MethodHandle" ∧ yX9_widest.cls ≠ "java/lang/invoke/VarHandle" ∧ (parseMethodDescriptor yX9_widest.desc).map (fun d => d.parameters.length) = some 0 := by decide +kernel
set_option maxHeartbeats 4000000 in
set_option maxRecDepth 100000 in
theorem c_X9_widest {l : Launch} {g : gT} {h : Nat → Nat} {b : ST} {w : Nat → ST} {r : Int32} {b' : ST} (hm : m_X9_widest b = some (r, b')) : MetI l g yX9_widest cX9_widest 1 (some .int) 6 138 79 h (cC g h (b, w)) (cC g h (b', w)) [.ref (h 0)] r := by
  refine MetI.ofX (by decide +kernel) (Nat.le_of_ble_eq_true rfl) ?_
  intro p e s m below meth c AV Q X hret ls hw hl
  replace X : Cx g p s m AV c cX9_widest RX9 1 := X
  replace hl : lv_has ls 1 [(0, .ref (h 0))] := hl
  unfold m_X9_widest at hm
  refine lv_aload_n X.1 X.2.1 dX9_widest_0 rfl (lv_at hl 0 rfl) ?_
  refine gX9_shared X hw wq_2_3 dX9_widest_1 ?_
  replace hm := ob_e hm
  obtain ⟨⟨r_2, b_3⟩, h_1, hm⟩ := hm
  replace hm := un_e hm
  refine k_Vi (k := 12) (As := []) X hl.1 hw (c_X6_greatestWidth h_1) (by decide) (he_X6 g h _ _) rfl ⟨wq_31_10, wq_31_11, wq_31_12, wq_2_2, wq_31_13⟩ yo_X6_greatestWidth rfl ⟨Nat.le_of_ble_eq_true rfl, Nat.le_of_ble_eq_true rfl⟩ (Nat.le_of_ble_eq_true rfl) dX9_widest_4 (fun H locs hw => ?_)
  obtain ⟨rfl, rfl⟩ := Prod.mk.inj (Option.some.inj hm)
  exact hret _ _ _ _ hw dX9_widest_7
def m_X9_pair (b : ST) (x1 : Int32) (x2 : Int32) (x3 : Int32) : Option (Int64 × ST) := Option.bind (m_X2_hasStation b (x1.toInt64)) (fun (r_2 : Int32) => Option.bind ((if r_2 = 0 then some (.inl ()) else Option.bind (m_X2_hasStation b (x2.toInt64)) (fun (r_10 : Int32) => if r_10 = 0 then some (.inl ()) else Option.bind (m_X9_isSide x3) (fun (r_13 : Int32) => if r_13 = 0 then some (.inl ()) else Option.bind (m_X3_fill b) (fun (b_16 : ST) => Option.bind (m_X3_pairParts b_16 x1 x2) (fun (r_18 : Int64) => Option.bind (m_X3_told b_16 r_18 x3) (fun (r_20 : Int64) => some (.inr (r_20, b_16)))))))) : Option ((Unit) ⊕ (Int64 × ST))) (fun z_22 => ex z_22 (fun (_ : Unit) => Option.bind (m_X9_refused (-2 : Int32)) (fun (r_5 : Int64) => some (r_5, b))) (fun r => some r)))
theorem yo_X9_pair : yX9_pair.cls = RX9 ∧ yX9_pair.cls ≠ "java/lang/invoke/MethodHandle" ∧ yX9_pair.cls ≠ "java/lang/invoke/VarHandle" ∧ (parseMethodDescriptor yX9_pair.desc).map (fun d => d.parameters.length) = some 3 := by decide +kernel
set_option maxHeartbeats 4000000 in
set_option maxRecDepth 100000 in
theorem c_X9_pair {l : Launch} {g : gT} {h : Nat → Nat} {b : ST} {w : Nat → ST} {x1 : Int32} {x2 : Int32} {x3 : Int32} {r : Int64} {b' : ST} (hm : m_X9_pair b x1 x2 x3 = some (r, b')) : MetL l g yX9_pair cX9_pair 4 (some .long) 5 108 79 h (cC g h (b, w)) (cC g h (b', w)) [.ref (h 0), .int x1, .int x2, .int x3] r := by
  refine MetL.ofX (by decide +kernel) (Nat.le_of_ble_eq_true rfl) ?_
  intro p e s m below meth c AV Q X hret ls hw hl
  replace X : Cx g p s m AV c cX9_pair RX9 4 := X
  replace hl : lv_has ls 4 [(0, .ref (h 0)), (1, .int x1), (2, .int x2), (3, .int x3)] := hl
  unfold m_X9_pair at hm
  refine lv_aload_n X.1 X.2.1 dX9_pair_0 rfl (lv_at hl 0 rfl) ?_
  refine gX9_net X hw wq_1_15 dX9_pair_1 ?_
  refine lv_iload_n X.1 X.2.1 dX9_pair_4 rfl (lv_at hl 1 rfl) ?_
  refine lv_i2l X.1 X.2.1 dX9_pair_5 rfl ?_
  replace hm := ob_e hm
  obtain ⟨r_2, h_1, hm⟩ := hm
  refine k_Vi (k := 1) (As := [.long x1.toInt64]) X hl.1 hw (c_X2_hasStation h_1) (by decide) (he_X2 g h _ _) rfl ⟨wq_13_0, wq_7_17, wq_7_18, wq_1_14, wq_7_19⟩ yo_X2_hasStation rfl ⟨Nat.le_of_ble_eq_true rfl, Nat.le_of_ble_eq_true rfl⟩ (Nat.le_of_ble_eq_true rfl) dX9_pair_6 (fun H locs hw => ?_)
  replace hm := ob_e hm
  obtain ⟨z_22, hg_7, hm⟩ := hm
  have J_8 : z_22 = .inl () → ∀ (H : Heap) (locs : List Loc) (ls : Array Slot), Wd g 79 h (cC g h (b, w)) s H locs → lv_has ls 4 [] → W p l e (rW 5 108) s m AV below meth c H locs 0 0 Q (F0 m 31 ls []) := by
    intro hj
    subst hj
    replace hm := ex_l hm
    intro H locs ls hw hl
    refine lv_bipush (v := -2) X.1 X.2.1 dX9_pair_31 (by decide) ?_
    replace hm := ob_e hm
    obtain ⟨r_5, h_4, hm⟩ := hm
    refine k_Sl (As := [.int (-2 : Int32)]) X hl.1 hw (c_X9_refused h_4) ⟨wq_15_7, wq_15_8, wq_1_2, wq_15_9⟩ yo_X9_refused rfl ⟨Nat.le_of_ble_eq_true rfl, Nat.le_of_ble_eq_true rfl⟩ (Nat.le_of_ble_eq_true rfl) dX9_pair_33 (fun H locs hw => ?_)
    obtain ⟨rfl, rfl⟩ := Prod.mk.inj (Option.some.inj hm)
    exact hret _ _ _ _ hw dX9_pair_36
  refine lv_if_eq (tgt := 31) X.1 X.2.1 dX9_pair_9 (by decide) (fun c_3 => ?_) (fun c_3 => ?_)
  · replace hg_7 := it_p hg_7 c_3
    exact J_8 (Option.some.inj hg_7).symm _ _ _ hw (lv_sub hl [] rfl)
  · replace hg_7 := it_n hg_7 c_3
    refine lv_aload_n X.1 X.2.1 dX9_pair_12 rfl (lv_at hl 0 rfl) ?_
    refine gX9_net X hw wq_1_15 dX9_pair_13 ?_
    refine lv_iload_n X.1 X.2.1 dX9_pair_16 rfl (lv_at hl 2 rfl) ?_
    refine lv_i2l X.1 X.2.1 dX9_pair_17 rfl ?_
    replace hg_7 := ob_e hg_7
    obtain ⟨r_10, h_9, hg_7⟩ := hg_7
    refine k_Vi (k := 1) (As := [.long x2.toInt64]) X hl.1 hw (c_X2_hasStation h_9) (by decide) (he_X2 g h _ _) rfl ⟨wq_13_0, wq_7_17, wq_7_18, wq_1_14, wq_7_19⟩ yo_X2_hasStation rfl ⟨Nat.le_of_ble_eq_true rfl, Nat.le_of_ble_eq_true rfl⟩ (Nat.le_of_ble_eq_true rfl) dX9_pair_18 (fun H locs hw => ?_)
    refine lv_if_eq (tgt := 31) X.1 X.2.1 dX9_pair_21 (by decide) (fun c_11 => ?_) (fun c_11 => ?_)
    · replace hg_7 := it_p hg_7 c_11
      exact J_8 (Option.some.inj hg_7).symm _ _ _ hw (lv_sub hl [] rfl)
    · replace hg_7 := it_n hg_7 c_11
      refine lv_iload_n X.1 X.2.1 dX9_pair_24 rfl (lv_at hl 3 rfl) ?_
      replace hg_7 := ob_e hg_7
      obtain ⟨r_13, h_12, hg_7⟩ := hg_7
      refine k_Si (As := [.int x3]) X hl.1 hw (c_X9_isSide h_12) ⟨wq_15_4, wq_15_5, wq_1_2, wq_15_6⟩ yo_X9_isSide rfl ⟨Nat.le_of_ble_eq_true rfl, Nat.le_of_ble_eq_true rfl⟩ (Nat.le_of_ble_eq_true rfl) dX9_pair_25 (fun H locs hw => ?_)
      refine lv_if_ne (tgt := 37) X.1 X.2.1 dX9_pair_28 (by decide) (fun c_14 => ?_) (fun c_14 => ?_)
      · replace hg_7 := it_n hg_7 c_14
        refine lv_aload_n X.1 X.2.1 dX9_pair_37 rfl (lv_at hl 0 rfl) ?_
        refine gX9_odds X hw wq_1_19 dX9_pair_38 ?_
        replace hg_7 := ob_e hg_7
        obtain ⟨b_16, h_15, hg_7⟩ := hg_7
        refine k_Vv (k := 8) (As := []) X hl.1 hw (c_X3_fill h_15) (by decide) (he_X3 g h _ _) rfl ⟨wq_15_11, wq_15_12, wq_15_13, wq_1_18, wq_15_14⟩ yo_X3_fill rfl ⟨Nat.le_of_ble_eq_true rfl, Nat.le_of_ble_eq_true rfl⟩ (Nat.le_of_ble_eq_true rfl) dX9_pair_41 (fun H locs hw => ?_)
        refine lv_aload_n X.1 X.2.1 dX9_pair_44 rfl (lv_at hl 0 rfl) ?_
        refine gX9_odds X hw wq_1_19 dX9_pair_45 ?_
        refine lv_aload_n X.1 X.2.1 dX9_pair_48 rfl (lv_at hl 0 rfl) ?_
        refine gX9_odds X hw wq_1_19 dX9_pair_49 ?_
        refine lv_iload_n X.1 X.2.1 dX9_pair_52 rfl (lv_at hl 1 rfl) ?_
        refine lv_iload_n X.1 X.2.1 dX9_pair_53 rfl (lv_at hl 2 rfl) ?_
        replace hg_7 := ob_e hg_7
        obtain ⟨r_18, h_17, hg_7⟩ := hg_7
        refine k_Vl (k := 8) (As := [.int x1, .int x2]) X hl.1 hw (c_X3_pairParts h_17) (by decide) (he_X3 g h _ _) rfl ⟨wq_32_4, wq_32_5, wq_32_6, wq_1_18, wq_32_7⟩ yo_X3_pairParts rfl ⟨Nat.le_of_ble_eq_true rfl, Nat.le_of_ble_eq_true rfl⟩ (Nat.le_of_ble_eq_true rfl) dX9_pair_54 (fun H locs hw => ?_)
        refine lv_iload_n X.1 X.2.1 dX9_pair_57 rfl (lv_at hl 3 rfl) ?_
        replace hg_7 := ob_e hg_7
        obtain ⟨r_20, h_19, hg_7⟩ := hg_7
        refine k_Vl (k := 8) (As := [.long r_18, .int x3]) X hl.1 hw (c_X3_told h_19) (by decide) (he_X3 g h _ _) rfl ⟨wq_17_7, wq_17_8, wq_17_9, wq_1_18, wq_17_10⟩ yo_X3_told rfl ⟨Nat.le_of_ble_eq_true rfl, Nat.le_of_ble_eq_true rfl⟩ (Nat.le_of_ble_eq_true rfl) dX9_pair_58 (fun H locs hw => ?_)
        obtain rfl := Option.some.inj hg_7
        replace hm := ex_r hm
        obtain ⟨rfl, rfl⟩ := Prod.mk.inj (Option.some.inj hm)
        exact hret _ _ _ _ hw dX9_pair_61
      · replace hg_7 := it_p hg_7 c_14
        exact J_8 (Option.some.inj hg_7).symm _ _ _ hw (lv_sub hl [] rfl)
def m_X9_rule (b : ST) (x1 : Int32) : Option (Int64 × ST) := Option.bind (m_X9_isSide x1) (fun (r_2 : Int32) => if r_2 = 0 then Option.bind (m_X9_refused (-2 : Int32)) (fun (r_12 : Int64) => some (r_12, b)) else Option.bind (m_X3_fill b) (fun (b_5 : ST) => Option.bind (m_X3_ruleParts b_5) (fun (r_7 : Int64) => Option.bind (m_X3_told b_5 r_7 x1) (fun (r_9 : Int64) => some (r_9, b_5)))))
theorem yo_X9_rule : yX9_rule.cls = RX9 ∧ yX9_rule.cls ≠ "java/lang/invoke/MethodHandle" ∧ yX9_rule.cls ≠ "java/lang/invoke/VarHandle" ∧ (parseMethodDescriptor yX9_rule.desc).map (fun d => d.parameters.length) = some 1 := by decide +kernel
set_option maxHeartbeats 4000000 in
set_option maxRecDepth 100000 in
theorem c_X9_rule {l : Launch} {g : gT} {h : Nat → Nat} {b : ST} {w : Nat → ST} {x1 : Int32} {r : Int64} {b' : ST} (hm : m_X9_rule b x1 = some (r, b')) : MetL l g yX9_rule cX9_rule 2 (some .long) 5 108 79 h (cC g h (b, w)) (cC g h (b', w)) [.ref (h 0), .int x1] r := by
  refine MetL.ofX (by decide +kernel) (Nat.le_of_ble_eq_true rfl) ?_
  intro p e s m below meth c AV Q X hret ls hw hl
  replace X : Cx g p s m AV c cX9_rule RX9 2 := X
  replace hl : lv_has ls 2 [(0, .ref (h 0)), (1, .int x1)] := hl
  unfold m_X9_rule at hm
  refine lv_iload_n X.1 X.2.1 dX9_rule_0 rfl (lv_at hl 1 rfl) ?_
  replace hm := ob_e hm
  obtain ⟨r_2, h_1, hm⟩ := hm
  refine k_Si (As := [.int x1]) X hl.1 hw (c_X9_isSide h_1) ⟨wq_15_4, wq_15_5, wq_1_2, wq_15_6⟩ yo_X9_isSide rfl ⟨Nat.le_of_ble_eq_true rfl, Nat.le_of_ble_eq_true rfl⟩ (Nat.le_of_ble_eq_true rfl) dX9_rule_1 (fun H locs hw => ?_)
  refine lv_if_ne (tgt := 13) X.1 X.2.1 dX9_rule_4 (by decide) (fun c_3 => ?_) (fun c_3 => ?_)
  · replace hm := it_n hm c_3
    refine lv_aload_n X.1 X.2.1 dX9_rule_13 rfl (lv_at hl 0 rfl) ?_
    refine gX9_odds X hw wq_1_19 dX9_rule_14 ?_
    replace hm := ob_e hm
    obtain ⟨b_5, h_4, hm⟩ := hm
    refine k_Vv (k := 8) (As := []) X hl.1 hw (c_X3_fill h_4) (by decide) (he_X3 g h _ _) rfl ⟨wq_15_11, wq_15_12, wq_15_13, wq_1_18, wq_15_14⟩ yo_X3_fill rfl ⟨Nat.le_of_ble_eq_true rfl, Nat.le_of_ble_eq_true rfl⟩ (Nat.le_of_ble_eq_true rfl) dX9_rule_17 (fun H locs hw => ?_)
    refine lv_aload_n X.1 X.2.1 dX9_rule_20 rfl (lv_at hl 0 rfl) ?_
    refine gX9_odds X hw wq_1_19 dX9_rule_21 ?_
    refine lv_aload_n X.1 X.2.1 dX9_rule_24 rfl (lv_at hl 0 rfl) ?_
    refine gX9_odds X hw wq_1_19 dX9_rule_25 ?_
    replace hm := ob_e hm
    obtain ⟨r_7, h_6, hm⟩ := hm
    refine k_Vl (k := 8) (As := []) X hl.1 hw (c_X3_ruleParts h_6) (by decide) (he_X3 g h _ _) rfl ⟨wq_32_21, wq_32_22, wq_32_23, wq_1_18, wq_33_0⟩ yo_X3_ruleParts rfl ⟨Nat.le_of_ble_eq_true rfl, Nat.le_of_ble_eq_true rfl⟩ (Nat.le_of_ble_eq_true rfl) dX9_rule_28 (fun H locs hw => ?_)
    refine lv_iload_n X.1 X.2.1 dX9_rule_31 rfl (lv_at hl 1 rfl) ?_
    replace hm := ob_e hm
    obtain ⟨r_9, h_8, hm⟩ := hm
    refine k_Vl (k := 8) (As := [.long r_7, .int x1]) X hl.1 hw (c_X3_told h_8) (by decide) (he_X3 g h _ _) rfl ⟨wq_17_7, wq_17_8, wq_17_9, wq_1_18, wq_17_10⟩ yo_X3_told rfl ⟨Nat.le_of_ble_eq_true rfl, Nat.le_of_ble_eq_true rfl⟩ (Nat.le_of_ble_eq_true rfl) dX9_rule_32 (fun H locs hw => ?_)
    obtain ⟨rfl, rfl⟩ := Prod.mk.inj (Option.some.inj hm)
    exact hret _ _ _ _ hw dX9_rule_35
  · replace hm := it_p hm c_3
    refine lv_bipush (v := -2) X.1 X.2.1 dX9_rule_7 (by decide) ?_
    replace hm := ob_e hm
    obtain ⟨r_12, h_11, hm⟩ := hm
    refine k_Sl (As := [.int (-2 : Int32)]) X hl.1 hw (c_X9_refused h_11) ⟨wq_15_7, wq_15_8, wq_1_2, wq_15_9⟩ yo_X9_refused rfl ⟨Nat.le_of_ble_eq_true rfl, Nat.le_of_ble_eq_true rfl⟩ (Nat.le_of_ble_eq_true rfl) dX9_rule_9 (fun H locs hw => ?_)
    obtain ⟨rfl, rfl⟩ := Prod.mk.inj (Option.some.inj hm)
    exact hret _ _ _ _ hw dX9_rule_12
def m_X9_sets (b : ST) (x1 : Int32) : Option (Int32 × ST) := if x1 < 0 then some ((-2 : Int32), b) else Option.bind (m_X2_linkCount b) (fun (r_4 : Int32) => if x1 ≤ r_4 then Option.bind (m_X5_fill b) (fun (b_7 : ST) => Option.bind (m_X5_ofSize b_7 x1) (fun (r_9 : Int32) => some (r_9, b_7))) else some ((-2 : Int32), b))
theorem yo_X9_sets : yX9_sets.cls = RX9 ∧ yX9_sets.cls ≠ "java/lang/invoke/MethodHandle" ∧ yX9_sets.cls ≠ "java/lang/invoke/VarHandle" ∧ (parseMethodDescriptor yX9_sets.desc).map (fun d => d.parameters.length) = some 1 := by decide +kernel
set_option maxHeartbeats 4000000 in
set_option maxRecDepth 100000 in
theorem c_X9_sets {l : Launch} {g : gT} {h : Nat → Nat} {b : ST} {w : Nat → ST} {x1 : Int32} {r : Int32} {b' : ST} (hm : m_X9_sets b x1 = some (r, b')) : MetI l g yX9_sets cX9_sets 2 (some .int) 4 87 79 h (cC g h (b, w)) (cC g h (b', w)) [.ref (h 0), .int x1] r := by
  refine MetI.ofX (by decide +kernel) (Nat.le_of_ble_eq_true rfl) ?_
  intro p e s m below meth c AV Q X hret ls hw hl
  replace X : Cx g p s m AV c cX9_sets RX9 2 := X
  replace hl : lv_has ls 2 [(0, .ref (h 0)), (1, .int x1)] := hl
  unfold m_X9_sets at hm
  refine lv_iload_n X.1 X.2.1 dX9_sets_0 rfl (lv_at hl 1 rfl) ?_
  refine lv_if_lt (tgt := 15) X.1 X.2.1 dX9_sets_1 (by decide) (fun c_1 => ?_) (fun c_1 => ?_)
  · replace hm := it_p hm c_1
    refine lv_bipush (v := -2) X.1 X.2.1 dX9_sets_15 (by decide) ?_
    obtain ⟨rfl, rfl⟩ := Prod.mk.inj (Option.some.inj hm)
    exact hret _ _ _ _ hw dX9_sets_17
  · replace hm := it_n hm c_1
    refine lv_iload_n X.1 X.2.1 dX9_sets_4 rfl (lv_at hl 1 rfl) ?_
    refine lv_aload_n X.1 X.2.1 dX9_sets_5 rfl (lv_at hl 0 rfl) ?_
    refine gX9_net X hw wq_1_15 dX9_sets_6 ?_
    replace hm := ob_e hm
    obtain ⟨r_4, h_3, hm⟩ := hm
    refine k_Vi (k := 1) (As := []) X hl.1 hw (c_X2_linkCount h_3) (by decide) (he_X2 g h _ _) rfl ⟨wq_10_14, wq_10_15, wq_10_16, wq_1_14, wq_10_17⟩ yo_X2_linkCount rfl ⟨Nat.le_of_ble_eq_true rfl, Nat.le_of_ble_eq_true rfl⟩ (Nat.le_of_ble_eq_true rfl) dX9_sets_9 (fun H locs hw => ?_)
    refine lv_icmp_le (tgt := 18) X.1 X.2.1 dX9_sets_12 (by decide) (fun c_5 => ?_) (fun c_5 => ?_)
    · replace hm := it_p hm c_5
      refine lv_aload_n X.1 X.2.1 dX9_sets_18 rfl (lv_at hl 0 rfl) ?_
      refine gX9_counts X hw wq_1_23 dX9_sets_19 ?_
      replace hm := ob_e hm
      obtain ⟨b_7, h_6, hm⟩ := hm
      refine k_Vv (k := 10) (As := []) X hl.1 hw (c_X5_fill h_6) (by decide) (he_X5 g h _ _) rfl ⟨wq_33_15, wq_33_16, wq_33_17, wq_1_22, wq_33_18⟩ yo_X5_fill rfl ⟨Nat.le_of_ble_eq_true rfl, Nat.le_of_ble_eq_true rfl⟩ (Nat.le_of_ble_eq_true rfl) dX9_sets_22 (fun H locs hw => ?_)
      refine lv_aload_n X.1 X.2.1 dX9_sets_25 rfl (lv_at hl 0 rfl) ?_
      refine gX9_counts X hw wq_1_23 dX9_sets_26 ?_
      refine lv_iload_n X.1 X.2.1 dX9_sets_29 rfl (lv_at hl 1 rfl) ?_
      replace hm := ob_e hm
      obtain ⟨r_9, h_8, hm⟩ := hm
      refine k_Vi (k := 10) (As := [.int x1]) X hl.1 hw (c_X5_ofSize h_8) (by decide) (he_X5 g h _ _) rfl ⟨wq_33_22, wq_33_23, wq_34_0, wq_1_22, wq_34_1⟩ yo_X5_ofSize rfl ⟨Nat.le_of_ble_eq_true rfl, Nat.le_of_ble_eq_true rfl⟩ (Nat.le_of_ble_eq_true rfl) dX9_sets_30 (fun H locs hw => ?_)
      obtain ⟨rfl, rfl⟩ := Prod.mk.inj (Option.some.inj hm)
      exact hret _ _ _ _ hw dX9_sets_33
    · replace hm := it_n hm c_5
      refine lv_bipush (v := -2) X.1 X.2.1 dX9_sets_15 (by decide) ?_
      obtain ⟨rfl, rfl⟩ := Prod.mk.inj (Option.some.inj hm)
      exact hret _ _ _ _ hw dX9_sets_17
def m_X9_alike (b : ST) (x1 : Int32) (x2 : Int32) (x3 : Int32) : Option (Int64) := Option.bind (m_X5_likeParts b x1 x2 x3) (fun (r_2 : Int64) => if 0 ≤ (lg_cmp r_2 (0 : Int64)) then some r_2 else Option.bind (m_X9_refused (-5 : Int32)) (fun (r_5 : Int64) => some r_5))
theorem yo_X9_alike : yX9_alike.cls = RX9 ∧ yX9_alike.cls ≠ "java/lang/invoke/MethodHandle" ∧ yX9_alike.cls ≠ "java/lang/invoke/VarHandle" ∧ (parseMethodDescriptor yX9_alike.desc).map (fun d => d.parameters.length) = some 3 := by decide +kernel
set_option maxHeartbeats 4000000 in
set_option maxRecDepth 100000 in
theorem c_X9_alike {l : Launch} {g : gT} {h : Nat → Nat} {b : ST} {w : Nat → ST} {x1 : Int32} {x2 : Int32} {x3 : Int32} {r : Int64} (hm : m_X9_alike b x1 x2 x3 = some r) : MetL l g yX9_alike cX9_alike 6 (some .long) 3 77 79 h (cC g h (b, w)) (cC g h (b, w)) [.ref (h 0), .int x1, .int x2, .int x3] r := by
  refine MetL.ofX (by decide +kernel) (Nat.le_of_ble_eq_true rfl) ?_
  intro p e s m below meth c AV Q X hret ls hw hl
  replace X : Cx g p s m AV c cX9_alike RX9 6 := X
  replace hl : lv_has ls 6 [(0, .ref (h 0)), (1, .int x1), (2, .int x2), (3, .int x3)] := hl
  unfold m_X9_alike at hm
  refine lv_aload_n X.1 X.2.1 dX9_alike_0 rfl (lv_at hl 0 rfl) ?_
  refine gX9_counts X hw wq_1_23 dX9_alike_1 ?_
  refine lv_iload_n X.1 X.2.1 dX9_alike_4 rfl (lv_at hl 1 rfl) ?_
  refine lv_iload_n X.1 X.2.1 dX9_alike_5 rfl (lv_at hl 2 rfl) ?_
  refine lv_iload_n X.1 X.2.1 dX9_alike_6 rfl (lv_at hl 3 rfl) ?_
  replace hm := ob_e hm
  obtain ⟨r_2, h_1, hm⟩ := hm
  refine k_Vl (k := 10) (As := [.int x1, .int x2, .int x3]) X hl.1 hw (c_X5_likeParts h_1) (by decide) (he_X5 g h _ _) rfl ⟨wq_34_18, wq_34_19, wq_34_20, wq_1_22, wq_34_21⟩ yo_X5_likeParts rfl ⟨Nat.le_of_ble_eq_true rfl, Nat.le_of_ble_eq_true rfl⟩ (Nat.le_of_ble_eq_true rfl) dX9_alike_7 (fun H locs hw => ?_)
  refine lv_lstore (lv' := [(4, .long r_2), (0, .ref (h 0)), (1, .int x1), (2, .int x2), (3, .int x3)]) X.1 X.2.1 dX9_alike_10 hl (by decide) rfl (fun ls hl => ?_)
  refine lv_lload X.1 X.2.1 dX9_alike_12 (lv_at hl 0 rfl) ?_
  refine lv_lconst (v := 0) X.1 X.2.1 dX9_alike_14 (by decide) ?_
  refine W.lcmp X.1 X.2.1 dX9_alike_15 ?_
  refine lv_if_ge (tgt := 27) X.1 X.2.1 dX9_alike_16 (by decide) (fun c_3 => ?_) (fun c_3 => ?_)
  · replace hm := it_p hm c_3
    refine lv_lload X.1 X.2.1 dX9_alike_27 (lv_at hl 0 rfl) ?_
    obtain rfl := Option.some.inj hm
    exact hret _ _ _ _ hw dX9_alike_29
  · replace hm := it_n hm c_3
    refine lv_bipush (v := -5) X.1 X.2.1 dX9_alike_19 (by decide) ?_
    replace hm := ob_e hm
    obtain ⟨r_5, h_4, hm⟩ := hm
    refine k_Sl (As := [.int (-5 : Int32)]) X hl.1 hw (c_X9_refused h_4) ⟨wq_15_7, wq_15_8, wq_1_2, wq_15_9⟩ yo_X9_refused rfl ⟨Nat.le_of_ble_eq_true rfl, Nat.le_of_ble_eq_true rfl⟩ (Nat.le_of_ble_eq_true rfl) dX9_alike_21 (fun H locs hw => ?_)
    refine lv_goto (tgt := 29) X.1 X.2.1 dX9_alike_24 (by decide) ?_
    obtain rfl := Option.some.inj hm
    exact hret _ _ _ _ hw dX9_alike_29
def m_X9_like (b : ST) (x1 : Int32) (x2 : Int32) (x3 : Int32) : Option (Int64 × ST) := Option.bind ((if x2 < (1 : Int32) then some (.inl ()) else if (99 : Int32) < x2 then some (.inl ()) else if x1 < 0 then some (.inl ()) else if x2 < x1 then some (.inl ()) else Option.bind (m_X9_isSide x3) (fun (r_11 : Int32) => if r_11 = 0 then some (.inl ()) else Option.bind (m_X5_fill b) (fun (b_14 : ST) => Option.bind (m_X9_alike b_14 x1 x2 x3) (fun (r_16 : Int64) => some (.inr (r_16, b_14)))))) : Option ((Unit) ⊕ (Int64 × ST))) (fun z_18 => ex z_18 (fun (_ : Unit) => Option.bind (m_X9_refused (-2 : Int32)) (fun (r_3 : Int64) => some (r_3, b))) (fun r => some r))
theorem yo_X9_like : yX9_like.cls = RX9 ∧ yX9_like.cls ≠ "java/lang/invoke/MethodHandle" ∧ yX9_like.cls ≠ "java/lang/invoke/VarHandle" ∧ (parseMethodDescriptor yX9_like.desc).map (fun d => d.parameters.length) = some 3 := by decide +kernel
set_option maxHeartbeats 4000000 in
set_option maxRecDepth 100000 in
theorem c_X9_like {l : Launch} {g : gT} {h : Nat → Nat} {b : ST} {w : Nat → ST} {x1 : Int32} {x2 : Int32} {x3 : Int32} {r : Int64} {b' : ST} (hm : m_X9_like b x1 x2 x3 = some (r, b')) : MetL l g yX9_like cX9_like 4 (some .long) 4 102 79 h (cC g h (b, w)) (cC g h (b', w)) [.ref (h 0), .int x1, .int x2, .int x3] r := by
  refine MetL.ofX (by decide +kernel) (Nat.le_of_ble_eq_true rfl) ?_
  intro p e s m below meth c AV Q X hret ls hw hl
  replace X : Cx g p s m AV c cX9_like RX9 4 := X
  replace hl : lv_has ls 4 [(0, .ref (h 0)), (1, .int x1), (2, .int x2), (3, .int x3)] := hl
  unfold m_X9_like at hm
  refine lv_iload_n X.1 X.2.1 dX9_like_0 rfl (lv_at hl 2 rfl) ?_
  refine lv_iconst (v := 1) X.1 X.2.1 dX9_like_1 (by decide) ?_
  replace hm := ob_e hm
  obtain ⟨z_18, hg_5, hm⟩ := hm
  have J_6 : z_18 = .inl () → ∀ (H : Heap) (locs : List Loc) (ls : Array Slot), Wd g 79 h (cC g h (b, w)) s H locs → lv_has ls 4 [] → W p l e (rW 4 102) s m AV below meth c H locs 0 0 Q (F0 m 27 ls []) := by
    intro hj
    subst hj
    replace hm := ex_l hm
    intro H locs ls hw hl
    refine lv_bipush (v := -2) X.1 X.2.1 dX9_like_27 (by decide) ?_
    replace hm := ob_e hm
    obtain ⟨r_3, h_2, hm⟩ := hm
    refine k_Sl (As := [.int (-2 : Int32)]) X hl.1 hw (c_X9_refused h_2) ⟨wq_15_7, wq_15_8, wq_1_2, wq_15_9⟩ yo_X9_refused rfl ⟨Nat.le_of_ble_eq_true rfl, Nat.le_of_ble_eq_true rfl⟩ (Nat.le_of_ble_eq_true rfl) dX9_like_29 (fun H locs hw => ?_)
    obtain ⟨rfl, rfl⟩ := Prod.mk.inj (Option.some.inj hm)
    exact hret _ _ _ _ hw dX9_like_32
  refine lv_icmp_lt (tgt := 27) X.1 X.2.1 dX9_like_2 (by decide) (fun c_1 => ?_) (fun c_1 => ?_)
  · replace hg_5 := it_p hg_5 c_1
    exact J_6 (Option.some.inj hg_5).symm _ _ _ hw (lv_sub hl [] rfl)
  · replace hg_5 := it_n hg_5 c_1
    refine lv_iload_n X.1 X.2.1 dX9_like_5 rfl (lv_at hl 2 rfl) ?_
    refine lv_bipush (v := 99) X.1 X.2.1 dX9_like_6 (by decide) ?_
    refine lv_icmp_gt (tgt := 27) X.1 X.2.1 dX9_like_8 (by decide) (fun c_7 => ?_) (fun c_7 => ?_)
    · replace hg_5 := it_p hg_5 c_7
      exact J_6 (Option.some.inj hg_5).symm _ _ _ hw (lv_sub hl [] rfl)
    · replace hg_5 := it_n hg_5 c_7
      refine lv_iload_n X.1 X.2.1 dX9_like_11 rfl (lv_at hl 1 rfl) ?_
      refine lv_if_lt (tgt := 27) X.1 X.2.1 dX9_like_12 (by decide) (fun c_8 => ?_) (fun c_8 => ?_)
      · replace hg_5 := it_p hg_5 c_8
        exact J_6 (Option.some.inj hg_5).symm _ _ _ hw (lv_sub hl [] rfl)
      · replace hg_5 := it_n hg_5 c_8
        refine lv_iload_n X.1 X.2.1 dX9_like_15 rfl (lv_at hl 1 rfl) ?_
        refine lv_iload_n X.1 X.2.1 dX9_like_16 rfl (lv_at hl 2 rfl) ?_
        refine lv_icmp_gt (tgt := 27) X.1 X.2.1 dX9_like_17 (by decide) (fun c_9 => ?_) (fun c_9 => ?_)
        · replace hg_5 := it_p hg_5 c_9
          exact J_6 (Option.some.inj hg_5).symm _ _ _ hw (lv_sub hl [] rfl)
        · replace hg_5 := it_n hg_5 c_9
          refine lv_iload_n X.1 X.2.1 dX9_like_20 rfl (lv_at hl 3 rfl) ?_
          replace hg_5 := ob_e hg_5
          obtain ⟨r_11, h_10, hg_5⟩ := hg_5
          refine k_Si (As := [.int x3]) X hl.1 hw (c_X9_isSide h_10) ⟨wq_15_4, wq_15_5, wq_1_2, wq_15_6⟩ yo_X9_isSide rfl ⟨Nat.le_of_ble_eq_true rfl, Nat.le_of_ble_eq_true rfl⟩ (Nat.le_of_ble_eq_true rfl) dX9_like_21 (fun H locs hw => ?_)
          refine lv_if_ne (tgt := 33) X.1 X.2.1 dX9_like_24 (by decide) (fun c_12 => ?_) (fun c_12 => ?_)
          · replace hg_5 := it_n hg_5 c_12
            refine lv_aload_n X.1 X.2.1 dX9_like_33 rfl (lv_at hl 0 rfl) ?_
            refine gX9_counts X hw wq_1_23 dX9_like_34 ?_
            replace hg_5 := ob_e hg_5
            obtain ⟨b_14, h_13, hg_5⟩ := hg_5
            refine k_Vv (k := 10) (As := []) X hl.1 hw (c_X5_fill h_13) (by decide) (he_X5 g h _ _) rfl ⟨wq_33_15, wq_33_16, wq_33_17, wq_1_22, wq_33_18⟩ yo_X5_fill rfl ⟨Nat.le_of_ble_eq_true rfl, Nat.le_of_ble_eq_true rfl⟩ (Nat.le_of_ble_eq_true rfl) dX9_like_37 (fun H locs hw => ?_)
            refine lv_aload_n X.1 X.2.1 dX9_like_40 rfl (lv_at hl 0 rfl) ?_
            refine lv_iload_n X.1 X.2.1 dX9_like_41 rfl (lv_at hl 1 rfl) ?_
            refine lv_iload_n X.1 X.2.1 dX9_like_42 rfl (lv_at hl 2 rfl) ?_
            refine lv_iload_n X.1 X.2.1 dX9_like_43 rfl (lv_at hl 3 rfl) ?_
            replace hg_5 := ob_e hg_5
            obtain ⟨r_16, h_15, hg_5⟩ := hg_5
            refine k_Vl (k := 0) (As := [.int x1, .int x2, .int x3]) X hl.1 hw (c_X9_alike h_15) (by decide) (he_X9 g h _ _) rfl ⟨wq_34_14, wq_34_15, wq_34_16, wq_1_2, wq_34_17⟩ yo_X9_alike rfl ⟨Nat.le_of_ble_eq_true rfl, Nat.le_of_ble_eq_true rfl⟩ (Nat.le_of_ble_eq_true rfl) dX9_like_44 (fun H locs hw => ?_)
            obtain rfl := Option.some.inj hg_5
            replace hm := ex_r hm
            obtain ⟨rfl, rfl⟩ := Prod.mk.inj (Option.some.inj hm)
            exact hret _ _ _ _ hw dX9_like_47
          · replace hg_5 := it_p hg_5 c_12
            exact J_6 (Option.some.inj hg_5).symm _ _ _ hw (lv_sub hl [] rfl)
def m_X9_least (b : ST) (x1 : Int32) : Option (Int32) := Option.bind (m_X9_isSide x1) (fun (r_2 : Int32) => if r_2 = 0 then some (-2 : Int32) else if x1 = 0 then Option.bind (m_X5_leastCut b) (fun (r_8 : Int32) => some r_8) else Option.bind (m_X5_leastWay b) (fun (r_6 : Int32) => some r_6))
theorem yo_X9_least : yX9_least.cls = RX9 ∧ yX9_least.cls ≠ "java/lang/invoke/MethodHandle" ∧ yX9_least.cls ≠ "java/lang/invoke/VarHandle" ∧ (parseMethodDescriptor yX9_least.desc).map (fun d => d.parameters.length) = some 1 := by decide +kernel
set_option maxHeartbeats 4000000 in
set_option maxRecDepth 100000 in
theorem c_X9_least {l : Launch} {g : gT} {h : Nat → Nat} {b : ST} {w : Nat → ST} {x1 : Int32} {r : Int32} (hm : m_X9_least b x1 = some r) : MetI l g yX9_least cX9_least 2 (some .int) 4 87 79 h (cC g h (b, w)) (cC g h (b, w)) [.ref (h 0), .int x1] r := by
  refine MetI.ofX (by decide +kernel) (Nat.le_of_ble_eq_true rfl) ?_
  intro p e s m below meth c AV Q X hret ls hw hl
  replace X : Cx g p s m AV c cX9_least RX9 2 := X
  replace hl : lv_has ls 2 [(0, .ref (h 0)), (1, .int x1)] := hl
  unfold m_X9_least at hm
  refine lv_iload_n X.1 X.2.1 dX9_least_0 rfl (lv_at hl 1 rfl) ?_
  replace hm := ob_e hm
  obtain ⟨r_2, h_1, hm⟩ := hm
  refine k_Si (As := [.int x1]) X hl.1 hw (c_X9_isSide h_1) ⟨wq_15_4, wq_15_5, wq_1_2, wq_15_6⟩ yo_X9_isSide rfl ⟨Nat.le_of_ble_eq_true rfl, Nat.le_of_ble_eq_true rfl⟩ (Nat.le_of_ble_eq_true rfl) dX9_least_1 (fun H locs hw => ?_)
  refine lv_if_ne (tgt := 10) X.1 X.2.1 dX9_least_4 (by decide) (fun c_3 => ?_) (fun c_3 => ?_)
  · replace hm := it_n hm c_3
    refine lv_iload_n X.1 X.2.1 dX9_least_10 rfl (lv_at hl 1 rfl) ?_
    refine lv_if_ne (tgt := 24) X.1 X.2.1 dX9_least_11 (by decide) (fun c_4 => ?_) (fun c_4 => ?_)
    · replace hm := it_n hm c_4
      refine lv_aload_n X.1 X.2.1 dX9_least_24 rfl (lv_at hl 0 rfl) ?_
      refine gX9_counts X hw wq_1_23 dX9_least_25 ?_
      replace hm := ob_e hm
      obtain ⟨r_6, h_5, hm⟩ := hm
      refine k_Vi (k := 10) (As := []) X hl.1 hw (c_X5_leastWay h_5) (by decide) (he_X5 g h _ _) rfl ⟨wq_36_18, wq_36_19, wq_36_20, wq_1_22, wq_36_21⟩ yo_X5_leastWay rfl ⟨Nat.le_of_ble_eq_true rfl, Nat.le_of_ble_eq_true rfl⟩ (Nat.le_of_ble_eq_true rfl) dX9_least_28 (fun H locs hw => ?_)
      obtain rfl := Option.some.inj hm
      exact hret _ _ _ _ hw dX9_least_31
    · replace hm := it_p hm c_4
      refine lv_aload_n X.1 X.2.1 dX9_least_14 rfl (lv_at hl 0 rfl) ?_
      refine gX9_counts X hw wq_1_23 dX9_least_15 ?_
      replace hm := ob_e hm
      obtain ⟨r_8, h_7, hm⟩ := hm
      refine k_Vi (k := 10) (As := []) X hl.1 hw (c_X5_leastCut h_7) (by decide) (he_X5 g h _ _) rfl ⟨wq_36_10, wq_36_11, wq_36_12, wq_1_22, wq_36_13⟩ yo_X5_leastCut rfl ⟨Nat.le_of_ble_eq_true rfl, Nat.le_of_ble_eq_true rfl⟩ (Nat.le_of_ble_eq_true rfl) dX9_least_18 (fun H locs hw => ?_)
      refine lv_goto (tgt := 31) X.1 X.2.1 dX9_least_21 (by decide) ?_
      obtain rfl := Option.some.inj hm
      exact hret _ _ _ _ hw dX9_least_31
  · replace hm := it_p hm c_3
    refine lv_bipush (v := -2) X.1 X.2.1 dX9_least_7 (by decide) ?_
    obtain rfl := Option.some.inj hm
    exact hret _ _ _ _ hw dX9_least_9
def m_X9_worth (b : ST) (x1 : Int32) (x2 : Int32) : Option (Int64 × ST) := Option.bind (m_X2_hasLink b x1) (fun (r_2 : Int32) => Option.bind ((if r_2 = 0 then some (.inl ()) else Option.bind (m_X9_isSide x2) (fun (r_10 : Int32) => if r_10 = 0 then some (.inl ()) else Option.bind (m_X3_fill b) (fun (b_13 : ST) => Option.bind (m_X3_worthParts b_13 x1) (fun (r_15 : Int64) => Option.bind (m_X3_told b_13 r_15 x2) (fun (r_17 : Int64) => some (.inr (r_17, b_13))))))) : Option ((Unit) ⊕ (Int64 × ST))) (fun z_19 => ex z_19 (fun (_ : Unit) => Option.bind (m_X9_refused (-2 : Int32)) (fun (r_5 : Int64) => some (r_5, b))) (fun r => some r)))
theorem yo_X9_worth : yX9_worth.cls = RX9 ∧ yX9_worth.cls ≠ "java/lang/invoke/MethodHandle" ∧ yX9_worth.cls ≠ "java/lang/invoke/VarHandle" ∧ (parseMethodDescriptor yX9_worth.desc).map (fun d => d.parameters.length) = some 2 := by decide +kernel
set_option maxHeartbeats 4000000 in
set_option maxRecDepth 100000 in
theorem c_X9_worth {l : Launch} {g : gT} {h : Nat → Nat} {b : ST} {w : Nat → ST} {x1 : Int32} {x2 : Int32} {r : Int64} {b' : ST} (hm : m_X9_worth b x1 x2 = some (r, b')) : MetL l g yX9_worth cX9_worth 3 (some .long) 5 108 79 h (cC g h (b, w)) (cC g h (b', w)) [.ref (h 0), .int x1, .int x2] r := by
  refine MetL.ofX (by decide +kernel) (Nat.le_of_ble_eq_true rfl) ?_
  intro p e s m below meth c AV Q X hret ls hw hl
  replace X : Cx g p s m AV c cX9_worth RX9 3 := X
  replace hl : lv_has ls 3 [(0, .ref (h 0)), (1, .int x1), (2, .int x2)] := hl
  unfold m_X9_worth at hm
  refine lv_aload_n X.1 X.2.1 dX9_worth_0 rfl (lv_at hl 0 rfl) ?_
  refine gX9_net X hw wq_1_15 dX9_worth_1 ?_
  refine lv_iload_n X.1 X.2.1 dX9_worth_4 rfl (lv_at hl 1 rfl) ?_
  replace hm := ob_e hm
  obtain ⟨r_2, h_1, hm⟩ := hm
  refine k_Vi (k := 1) (As := [.int x1]) X hl.1 hw (c_X2_hasLink h_1) (by decide) (he_X2 g h _ _) rfl ⟨wq_11_6, wq_9_1, wq_9_2, wq_1_14, wq_9_3⟩ yo_X2_hasLink rfl ⟨Nat.le_of_ble_eq_true rfl, Nat.le_of_ble_eq_true rfl⟩ (Nat.le_of_ble_eq_true rfl) dX9_worth_5 (fun H locs hw => ?_)
  replace hm := ob_e hm
  obtain ⟨z_19, hg_7, hm⟩ := hm
  have J_8 : z_19 = .inl () → ∀ (H : Heap) (locs : List Loc) (ls : Array Slot), Wd g 79 h (cC g h (b, w)) s H locs → lv_has ls 3 [] → W p l e (rW 5 108) s m AV below meth c H locs 0 0 Q (F0 m 18 ls []) := by
    intro hj
    subst hj
    replace hm := ex_l hm
    intro H locs ls hw hl
    refine lv_bipush (v := -2) X.1 X.2.1 dX9_worth_18 (by decide) ?_
    replace hm := ob_e hm
    obtain ⟨r_5, h_4, hm⟩ := hm
    refine k_Sl (As := [.int (-2 : Int32)]) X hl.1 hw (c_X9_refused h_4) ⟨wq_15_7, wq_15_8, wq_1_2, wq_15_9⟩ yo_X9_refused rfl ⟨Nat.le_of_ble_eq_true rfl, Nat.le_of_ble_eq_true rfl⟩ (Nat.le_of_ble_eq_true rfl) dX9_worth_20 (fun H locs hw => ?_)
    obtain ⟨rfl, rfl⟩ := Prod.mk.inj (Option.some.inj hm)
    exact hret _ _ _ _ hw dX9_worth_23
  refine lv_if_eq (tgt := 18) X.1 X.2.1 dX9_worth_8 (by decide) (fun c_3 => ?_) (fun c_3 => ?_)
  · replace hg_7 := it_p hg_7 c_3
    exact J_8 (Option.some.inj hg_7).symm _ _ _ hw (lv_sub hl [] rfl)
  · replace hg_7 := it_n hg_7 c_3
    refine lv_iload_n X.1 X.2.1 dX9_worth_11 rfl (lv_at hl 2 rfl) ?_
    replace hg_7 := ob_e hg_7
    obtain ⟨r_10, h_9, hg_7⟩ := hg_7
    refine k_Si (As := [.int x2]) X hl.1 hw (c_X9_isSide h_9) ⟨wq_15_4, wq_15_5, wq_1_2, wq_15_6⟩ yo_X9_isSide rfl ⟨Nat.le_of_ble_eq_true rfl, Nat.le_of_ble_eq_true rfl⟩ (Nat.le_of_ble_eq_true rfl) dX9_worth_12 (fun H locs hw => ?_)
    refine lv_if_ne (tgt := 24) X.1 X.2.1 dX9_worth_15 (by decide) (fun c_11 => ?_) (fun c_11 => ?_)
    · replace hg_7 := it_n hg_7 c_11
      refine lv_aload_n X.1 X.2.1 dX9_worth_24 rfl (lv_at hl 0 rfl) ?_
      refine gX9_odds X hw wq_1_19 dX9_worth_25 ?_
      replace hg_7 := ob_e hg_7
      obtain ⟨b_13, h_12, hg_7⟩ := hg_7
      refine k_Vv (k := 8) (As := []) X hl.1 hw (c_X3_fill h_12) (by decide) (he_X3 g h _ _) rfl ⟨wq_15_11, wq_15_12, wq_15_13, wq_1_18, wq_15_14⟩ yo_X3_fill rfl ⟨Nat.le_of_ble_eq_true rfl, Nat.le_of_ble_eq_true rfl⟩ (Nat.le_of_ble_eq_true rfl) dX9_worth_28 (fun H locs hw => ?_)
      refine lv_aload_n X.1 X.2.1 dX9_worth_31 rfl (lv_at hl 0 rfl) ?_
      refine gX9_odds X hw wq_1_19 dX9_worth_32 ?_
      refine lv_aload_n X.1 X.2.1 dX9_worth_35 rfl (lv_at hl 0 rfl) ?_
      refine gX9_odds X hw wq_1_19 dX9_worth_36 ?_
      refine lv_iload_n X.1 X.2.1 dX9_worth_39 rfl (lv_at hl 1 rfl) ?_
      replace hg_7 := ob_e hg_7
      obtain ⟨r_15, h_14, hg_7⟩ := hg_7
      refine k_Vl (k := 8) (As := [.int x1]) X hl.1 hw (c_X3_worthParts h_14) (by decide) (he_X3 g h _ _) rfl ⟨wq_37_14, wq_37_15, wq_37_16, wq_1_18, wq_37_17⟩ yo_X3_worthParts rfl ⟨Nat.le_of_ble_eq_true rfl, Nat.le_of_ble_eq_true rfl⟩ (Nat.le_of_ble_eq_true rfl) dX9_worth_40 (fun H locs hw => ?_)
      refine lv_iload_n X.1 X.2.1 dX9_worth_43 rfl (lv_at hl 2 rfl) ?_
      replace hg_7 := ob_e hg_7
      obtain ⟨r_17, h_16, hg_7⟩ := hg_7
      refine k_Vl (k := 8) (As := [.long r_15, .int x2]) X hl.1 hw (c_X3_told h_16) (by decide) (he_X3 g h _ _) rfl ⟨wq_17_7, wq_17_8, wq_17_9, wq_1_18, wq_17_10⟩ yo_X3_told rfl ⟨Nat.le_of_ble_eq_true rfl, Nat.le_of_ble_eq_true rfl⟩ (Nat.le_of_ble_eq_true rfl) dX9_worth_44 (fun H locs hw => ?_)
      obtain rfl := Option.some.inj hg_7
      replace hm := ex_r hm
      obtain ⟨rfl, rfl⟩ := Prod.mk.inj (Option.some.inj hm)
      exact hret _ _ _ _ hw dX9_worth_47
    · replace hg_7 := it_p hg_7 c_11
      exact J_8 (Option.some.inj hg_7).symm _ _ _ hw (lv_sub hl [] rfl)
def m_X9_worthiest (b : ST) : Option (Int32 × ST) := Option.bind (m_X3_fill b) (fun (b_2 : ST) => Option.bind (m_X3_worthiestLink b_2) (fun (r_4 : Int32) => some (r_4, b_2)))
theorem yo_X9_worthiest : yX9_worthiest.cls = RX9 ∧ yX9_worthiest.cls ≠ "java/lang/invoke/MethodHandle" ∧ yX9_worthiest.cls ≠ "java/lang/invoke/VarHandle" ∧ (parseMethodDescriptor yX9_worthiest.desc).map (fun d => d.parameters.length) = some 0 := by decide +kernel
set_option maxHeartbeats 4000000 in
set_option maxRecDepth 100000 in
theorem c_X9_worthiest {l : Launch} {g : gT} {h : Nat → Nat} {b : ST} {w : Nat → ST} {r : Int32} {b' : ST} (hm : m_X9_worthiest b = some (r, b')) : MetI l g yX9_worthiest cX9_worthiest 1 (some .int) 5 116 79 h (cC g h (b, w)) (cC g h (b', w)) [.ref (h 0)] r := by
  refine MetI.ofX (by decide +kernel) (Nat.le_of_ble_eq_true rfl) ?_
  intro p e s m below meth c AV Q X hret ls hw hl
  replace X : Cx g p s m AV c cX9_worthiest RX9 1 := X
  replace hl : lv_has ls 1 [(0, .ref (h 0))] := hl
  unfold m_X9_worthiest at hm
  refine lv_aload_n X.1 X.2.1 dX9_worthiest_0 rfl (lv_at hl 0 rfl) ?_
  refine gX9_odds X hw wq_1_19 dX9_worthiest_1 ?_
  replace hm := ob_e hm
  obtain ⟨b_2, h_1, hm⟩ := hm
  refine k_Vv (k := 8) (As := []) X hl.1 hw (c_X3_fill h_1) (by decide) (he_X3 g h _ _) rfl ⟨wq_15_11, wq_15_12, wq_15_13, wq_1_18, wq_15_14⟩ yo_X3_fill rfl ⟨Nat.le_of_ble_eq_true rfl, Nat.le_of_ble_eq_true rfl⟩ (Nat.le_of_ble_eq_true rfl) dX9_worthiest_4 (fun H locs hw => ?_)
  refine lv_aload_n X.1 X.2.1 dX9_worthiest_7 rfl (lv_at hl 0 rfl) ?_
  refine gX9_odds X hw wq_1_19 dX9_worthiest_8 ?_
  replace hm := ob_e hm
  obtain ⟨r_4, h_3, hm⟩ := hm
  refine k_Vi (k := 8) (As := []) X hl.1 hw (c_X3_worthiestLink h_3) (by decide) (he_X3 g h _ _) rfl ⟨wq_38_11, wq_38_12, wq_38_13, wq_1_18, wq_38_14⟩ yo_X3_worthiestLink rfl ⟨Nat.le_of_ble_eq_true rfl, Nat.le_of_ble_eq_true rfl⟩ (Nat.le_of_ble_eq_true rfl) dX9_worthiest_11 (fun H locs hw => ?_)
  obtain ⟨rfl, rfl⟩ := Prod.mk.inj (Option.some.inj hm)
  exact hret _ _ _ _ hw dX9_worthiest_14
def m_X9_better (b : ST) (x1 : Int32) (x2 : Int32) (x3 : Int32) (x4 : Int32) : Option (Int64 × ST) := Option.bind (m_X2_hasLink b x1) (fun (r_2 : Int32) => Option.bind ((if r_2 = 0 then some (.inl ()) else Option.bind (m_X1_isChance (x2.toInt64) (x3.toInt64)) (fun (r_10 : Int32) => if r_10 = 0 then some (.inl ()) else Option.bind (m_X9_isSide x4) (fun (r_13 : Int32) => if r_13 = 0 then some (.inl ()) else Option.bind (m_X3_fillWith b x1 x2 x3) (fun (b_16 : ST) => Option.bind (m_X3_reachParts b_16) (fun (r_18 : Int64) => Option.bind (m_X3_told b_16 r_18 x4) (fun (r_20 : Int64) => some (.inr (r_20, b_16)))))))) : Option ((Unit) ⊕ (Int64 × ST))) (fun z_22 => ex z_22 (fun (_ : Unit) => Option.bind (m_X9_refused (-2 : Int32)) (fun (r_5 : Int64) => some (r_5, b))) (fun r => some r)))
theorem yo_X9_better : yX9_better.cls = RX9 ∧ yX9_better.cls ≠ "java/lang/invoke/MethodHandle" ∧ yX9_better.cls ≠ "java/lang/invoke/VarHandle" ∧ (parseMethodDescriptor yX9_better.desc).map (fun d => d.parameters.length) = some 4 := by decide +kernel
set_option maxHeartbeats 4000000 in
set_option maxRecDepth 100000 in
theorem c_X9_better {l : Launch} {g : gT} {h : Nat → Nat} {b : ST} {w : Nat → ST} {x1 : Int32} {x2 : Int32} {x3 : Int32} {x4 : Int32} {r : Int64} {b' : ST} (hm : m_X9_better b x1 x2 x3 x4 = some (r, b')) : MetL l g yX9_better cX9_better 5 (some .long) 4 88 79 h (cC g h (b, w)) (cC g h (b', w)) [.ref (h 0), .int x1, .int x2, .int x3, .int x4] r := by
  refine MetL.ofX (by decide +kernel) (Nat.le_of_ble_eq_true rfl) ?_
  intro p e s m below meth c AV Q X hret ls hw hl
  replace X : Cx g p s m AV c cX9_better RX9 5 := X
  replace hl : lv_has ls 5 [(0, .ref (h 0)), (1, .int x1), (2, .int x2), (3, .int x3), (4, .int x4)] := hl
  unfold m_X9_better at hm
  refine lv_aload_n X.1 X.2.1 dX9_better_0 rfl (lv_at hl 0 rfl) ?_
  refine gX9_net X hw wq_1_15 dX9_better_1 ?_
  refine lv_iload_n X.1 X.2.1 dX9_better_4 rfl (lv_at hl 1 rfl) ?_
  replace hm := ob_e hm
  obtain ⟨r_2, h_1, hm⟩ := hm
  refine k_Vi (k := 1) (As := [.int x1]) X hl.1 hw (c_X2_hasLink h_1) (by decide) (he_X2 g h _ _) rfl ⟨wq_11_6, wq_9_1, wq_9_2, wq_1_14, wq_9_3⟩ yo_X2_hasLink rfl ⟨Nat.le_of_ble_eq_true rfl, Nat.le_of_ble_eq_true rfl⟩ (Nat.le_of_ble_eq_true rfl) dX9_better_5 (fun H locs hw => ?_)
  replace hm := ob_e hm
  obtain ⟨z_22, hg_7, hm⟩ := hm
  have J_8 : z_22 = .inl () → ∀ (H : Heap) (locs : List Loc) (ls : Array Slot), Wd g 79 h (cC g h (b, w)) s H locs → lv_has ls 5 [] → W p l e (rW 4 88) s m AV below meth c H locs 0 0 Q (F0 m 29 ls []) := by
    intro hj
    subst hj
    replace hm := ex_l hm
    intro H locs ls hw hl
    refine lv_bipush (v := -2) X.1 X.2.1 dX9_better_29 (by decide) ?_
    replace hm := ob_e hm
    obtain ⟨r_5, h_4, hm⟩ := hm
    refine k_Sl (As := [.int (-2 : Int32)]) X hl.1 hw (c_X9_refused h_4) ⟨wq_15_7, wq_15_8, wq_1_2, wq_15_9⟩ yo_X9_refused rfl ⟨Nat.le_of_ble_eq_true rfl, Nat.le_of_ble_eq_true rfl⟩ (Nat.le_of_ble_eq_true rfl) dX9_better_31 (fun H locs hw => ?_)
    obtain ⟨rfl, rfl⟩ := Prod.mk.inj (Option.some.inj hm)
    exact hret _ _ _ _ hw dX9_better_34
  refine lv_if_eq (tgt := 29) X.1 X.2.1 dX9_better_8 (by decide) (fun c_3 => ?_) (fun c_3 => ?_)
  · replace hg_7 := it_p hg_7 c_3
    exact J_8 (Option.some.inj hg_7).symm _ _ _ hw (lv_sub hl [] rfl)
  · replace hg_7 := it_n hg_7 c_3
    refine lv_iload_n X.1 X.2.1 dX9_better_11 rfl (lv_at hl 2 rfl) ?_
    refine lv_i2l X.1 X.2.1 dX9_better_12 rfl ?_
    refine lv_iload_n X.1 X.2.1 dX9_better_13 rfl (lv_at hl 3 rfl) ?_
    refine lv_i2l X.1 X.2.1 dX9_better_14 rfl ?_
    replace hg_7 := ob_e hg_7
    obtain ⟨r_10, h_9, hg_7⟩ := hg_7
    refine k_Si (As := [.long x2.toInt64, .long x3.toInt64]) X hl.1 hw (c_X1_isChance h_9) ⟨wq_11_7, wq_7_21, wq_7_22, wq_7_23⟩ yo_X1_isChance rfl ⟨Nat.le_of_ble_eq_true rfl, Nat.le_of_ble_eq_true rfl⟩ (Nat.le_of_ble_eq_true rfl) dX9_better_15 (fun H locs hw => ?_)
    refine lv_if_eq (tgt := 29) X.1 X.2.1 dX9_better_18 (by decide) (fun c_11 => ?_) (fun c_11 => ?_)
    · replace hg_7 := it_p hg_7 c_11
      exact J_8 (Option.some.inj hg_7).symm _ _ _ hw (lv_sub hl [] rfl)
    · replace hg_7 := it_n hg_7 c_11
      refine lv_iload X.1 X.2.1 dX9_better_21 (lv_at hl 4 rfl) ?_
      replace hg_7 := ob_e hg_7
      obtain ⟨r_13, h_12, hg_7⟩ := hg_7
      refine k_Si (As := [.int x4]) X hl.1 hw (c_X9_isSide h_12) ⟨wq_15_4, wq_15_5, wq_1_2, wq_15_6⟩ yo_X9_isSide rfl ⟨Nat.le_of_ble_eq_true rfl, Nat.le_of_ble_eq_true rfl⟩ (Nat.le_of_ble_eq_true rfl) dX9_better_23 (fun H locs hw => ?_)
      refine lv_if_ne (tgt := 35) X.1 X.2.1 dX9_better_26 (by decide) (fun c_14 => ?_) (fun c_14 => ?_)
      · replace hg_7 := it_n hg_7 c_14
        refine lv_aload_n X.1 X.2.1 dX9_better_35 rfl (lv_at hl 0 rfl) ?_
        refine gX9_odds X hw wq_1_19 dX9_better_36 ?_
        refine lv_iload_n X.1 X.2.1 dX9_better_39 rfl (lv_at hl 1 rfl) ?_
        refine lv_iload_n X.1 X.2.1 dX9_better_40 rfl (lv_at hl 2 rfl) ?_
        refine lv_iload_n X.1 X.2.1 dX9_better_41 rfl (lv_at hl 3 rfl) ?_
        replace hg_7 := ob_e hg_7
        obtain ⟨b_16, h_15, hg_7⟩ := hg_7
        refine k_Vv (k := 8) (As := [.int x1, .int x2, .int x3]) X hl.1 hw (c_X3_fillWith h_15) (by decide) (he_X3 g h _ _) rfl ⟨wq_39_6, wq_15_16, wq_15_17, wq_1_18, wq_15_18⟩ yo_X3_fillWith rfl ⟨Nat.le_of_ble_eq_true rfl, Nat.le_of_ble_eq_true rfl⟩ (Nat.le_of_ble_eq_true rfl) dX9_better_42 (fun H locs hw => ?_)
        refine lv_aload_n X.1 X.2.1 dX9_better_45 rfl (lv_at hl 0 rfl) ?_
        refine gX9_odds X hw wq_1_19 dX9_better_46 ?_
        refine lv_aload_n X.1 X.2.1 dX9_better_49 rfl (lv_at hl 0 rfl) ?_
        refine gX9_odds X hw wq_1_19 dX9_better_50 ?_
        replace hg_7 := ob_e hg_7
        obtain ⟨r_18, h_17, hg_7⟩ := hg_7
        refine k_Vl (k := 8) (As := []) X hl.1 hw (c_X3_reachParts h_17) (by decide) (he_X3 g h _ _) rfl ⟨wq_16_11, wq_16_12, wq_16_13, wq_1_18, wq_16_14⟩ yo_X3_reachParts rfl ⟨Nat.le_of_ble_eq_true rfl, Nat.le_of_ble_eq_true rfl⟩ (Nat.le_of_ble_eq_true rfl) dX9_better_53 (fun H locs hw => ?_)
        refine lv_iload X.1 X.2.1 dX9_better_56 (lv_at hl 4 rfl) ?_
        replace hg_7 := ob_e hg_7
        obtain ⟨r_20, h_19, hg_7⟩ := hg_7
        refine k_Vl (k := 8) (As := [.long r_18, .int x4]) X hl.1 hw (c_X3_told h_19) (by decide) (he_X3 g h _ _) rfl ⟨wq_17_7, wq_17_8, wq_17_9, wq_1_18, wq_17_10⟩ yo_X3_told rfl ⟨Nat.le_of_ble_eq_true rfl, Nat.le_of_ble_eq_true rfl⟩ (Nat.le_of_ble_eq_true rfl) dX9_better_58 (fun H locs hw => ?_)
        obtain rfl := Option.some.inj hg_7
        replace hm := ex_r hm
        obtain ⟨rfl, rfl⟩ := Prod.mk.inj (Option.some.inj hm)
        exact hret _ _ _ _ hw dX9_better_61
      · replace hg_7 := it_p hg_7 c_14
        exact J_8 (Option.some.inj hg_7).symm _ _ _ hw (lv_sub hl [] rfl)
def m_X9_type (b : ST) (x1 : Int32) : Option (Int32 × ST) := if x1 < 0 then some ((-2 : Int32), b) else if x1 ≤ (255 : Int32) then Option.bind (m_X4_isFull b) (fun (r_5 : Int32) => if r_5 = 0 then Option.bind (m_X4_append b x1) (fun (q_10 : Int32 × ST) => un q_10 (fun r_8 b_9 => some (r_8, b_9))) else some ((-4 : Int32), b)) else some ((-2 : Int32), b)
theorem yo_X9_type : yX9_type.cls = RX9 ∧ yX9_type.cls ≠ "java/lang/invoke/MethodHandle" ∧ yX9_type.cls ≠ "java/lang/invoke/VarHandle" ∧ (parseMethodDescriptor yX9_type.desc).map (fun d => d.parameters.length) = some 1 := by decide +kernel
set_option maxHeartbeats 4000000 in
set_option maxRecDepth 100000 in
theorem c_X9_type {l : Launch} {g : gT} {h : Nat → Nat} {b : ST} {w : Nat → ST} {x1 : Int32} {r : Int32} {b' : ST} (hm : m_X9_type b x1 = some (r, b')) : MetI l g yX9_type cX9_type 2 (some .int) 1 21 79 h (cC g h (b, w)) (cC g h (b', w)) [.ref (h 0), .int x1] r := by
  refine MetI.ofX (by decide +kernel) (Nat.le_of_ble_eq_true rfl) ?_
  intro p e s m below meth c AV Q X hret ls hw hl
  replace X : Cx g p s m AV c cX9_type RX9 2 := X
  replace hl : lv_has ls 2 [(0, .ref (h 0)), (1, .int x1)] := hl
  unfold m_X9_type at hm
  refine lv_iload_n X.1 X.2.1 dX9_type_0 rfl (lv_at hl 1 rfl) ?_
  refine lv_if_lt (tgt := 11) X.1 X.2.1 dX9_type_1 (by decide) (fun c_1 => ?_) (fun c_1 => ?_)
  · replace hm := it_p hm c_1
    refine lv_bipush (v := -2) X.1 X.2.1 dX9_type_11 (by decide) ?_
    obtain ⟨rfl, rfl⟩ := Prod.mk.inj (Option.some.inj hm)
    exact hret _ _ _ _ hw dX9_type_13
  · replace hm := it_n hm c_1
    refine lv_iload_n X.1 X.2.1 dX9_type_4 rfl (lv_at hl 1 rfl) ?_
    refine lv_sipush (v := 255) X.1 X.2.1 dX9_type_5 (by decide) ?_
    refine lv_icmp_le (tgt := 14) X.1 X.2.1 dX9_type_8 (by decide) (fun c_3 => ?_) (fun c_3 => ?_)
    · replace hm := it_p hm c_3
      refine lv_aload_n X.1 X.2.1 dX9_type_14 rfl (lv_at hl 0 rfl) ?_
      refine gX9_orders X hw wq_2_11 dX9_type_15 ?_
      replace hm := ob_e hm
      obtain ⟨r_5, h_4, hm⟩ := hm
      refine k_Vi (k := 16) (As := []) X hl.1 hw (c_X4_isFull h_4) (by decide) (he_X4 g h _ _) rfl ⟨wq_39_19, wq_39_20, wq_39_21, wq_2_10, wq_39_22⟩ yo_X4_isFull rfl ⟨Nat.le_of_ble_eq_true rfl, Nat.le_of_ble_eq_true rfl⟩ (Nat.le_of_ble_eq_true rfl) dX9_type_18 (fun H locs hw => ?_)
      refine lv_if_eq (tgt := 27) X.1 X.2.1 dX9_type_21 (by decide) (fun c_6 => ?_) (fun c_6 => ?_)
      · replace hm := it_p hm c_6
        refine lv_aload_n X.1 X.2.1 dX9_type_27 rfl (lv_at hl 0 rfl) ?_
        refine gX9_orders X hw wq_2_11 dX9_type_28 ?_
        refine lv_iload_n X.1 X.2.1 dX9_type_31 rfl (lv_at hl 1 rfl) ?_
        replace hm := ob_e hm
        obtain ⟨⟨r_8, b_9⟩, h_7, hm⟩ := hm
        replace hm := un_e hm
        refine k_Vi (k := 16) (As := [.int x1]) X hl.1 hw (c_X4_append h_7) (by decide) (he_X4 g h _ _) rfl ⟨wq_40_0, wq_40_1, wq_40_2, wq_2_10, wq_40_3⟩ yo_X4_append rfl ⟨Nat.le_of_ble_eq_true rfl, Nat.le_of_ble_eq_true rfl⟩ (Nat.le_of_ble_eq_true rfl) dX9_type_32 (fun H locs hw => ?_)
        obtain ⟨rfl, rfl⟩ := Prod.mk.inj (Option.some.inj hm)
        exact hret _ _ _ _ hw dX9_type_35
      · replace hm := it_n hm c_6
        refine lv_bipush (v := -4) X.1 X.2.1 dX9_type_24 (by decide) ?_
        obtain ⟨rfl, rfl⟩ := Prod.mk.inj (Option.some.inj hm)
        exact hret _ _ _ _ hw dX9_type_26
    · replace hm := it_n hm c_3
      refine lv_bipush (v := -2) X.1 X.2.1 dX9_type_11 (by decide) ?_
      obtain ⟨rfl, rfl⟩ := Prod.mk.inj (Option.some.inj hm)
      exact hret _ _ _ _ hw dX9_type_13
def m_X9_wipe (b : ST) : Option (Int32 × ST) := Option.bind (m_X4_clear b) (fun (q_4 : Int32 × ST) => un q_4 (fun r_2 b_3 => some (r_2, b_3)))
theorem yo_X9_wipe : yX9_wipe.cls = RX9 ∧ yX9_wipe.cls ≠ "java/lang/invoke/MethodHandle" ∧ yX9_wipe.cls ≠ "java/lang/invoke/VarHandle" ∧ (parseMethodDescriptor yX9_wipe.desc).map (fun d => d.parameters.length) = some 0 := by decide +kernel
set_option maxHeartbeats 4000000 in
set_option maxRecDepth 100000 in
theorem c_X9_wipe {l : Launch} {g : gT} {h : Nat → Nat} {b : ST} {w : Nat → ST} {r : Int32} {b' : ST} (hm : m_X9_wipe b = some (r, b')) : MetI l g yX9_wipe cX9_wipe 1 (some .int) 1 21 79 h (cC g h (b, w)) (cC g h (b', w)) [.ref (h 0)] r := by
  refine MetI.ofX (by decide +kernel) (Nat.le_of_ble_eq_true rfl) ?_
  intro p e s m below meth c AV Q X hret ls hw hl
  replace X : Cx g p s m AV c cX9_wipe RX9 1 := X
  replace hl : lv_has ls 1 [(0, .ref (h 0))] := hl
  unfold m_X9_wipe at hm
  refine lv_aload_n X.1 X.2.1 dX9_wipe_0 rfl (lv_at hl 0 rfl) ?_
  refine gX9_orders X hw wq_2_11 dX9_wipe_1 ?_
  replace hm := ob_e hm
  obtain ⟨⟨r_2, b_3⟩, h_1, hm⟩ := hm
  replace hm := un_e hm
  refine k_Vi (k := 16) (As := []) X hl.1 hw (c_X4_clear h_1) (by decide) (he_X4 g h _ _) rfl ⟨wq_40_14, wq_40_15, wq_40_16, wq_2_10, wq_40_17⟩ yo_X4_clear rfl ⟨Nat.le_of_ble_eq_true rfl, Nat.le_of_ble_eq_true rfl⟩ (Nat.le_of_ble_eq_true rfl) dX9_wipe_4 (fun H locs hw => ?_)
  obtain ⟨rfl, rfl⟩ := Prod.mk.inj (Option.some.inj hm)
  exact hret _ _ _ _ hw dX9_wipe_7
def m_X9_obey (b : ST) : Option (Int32 × ST) := Option.bind (m_X4_run b) (fun (q_4 : Int32 × ST) => un q_4 (fun r_2 b_3 => some (r_2, b_3)))
theorem yo_X9_obey : yX9_obey.cls = RX9 ∧ yX9_obey.cls ≠ "java/lang/invoke/MethodHandle" ∧ yX9_obey.cls ≠ "java/lang/invoke/VarHandle" ∧ (parseMethodDescriptor yX9_obey.desc).map (fun d => d.parameters.length) = some 0 := by decide +kernel
set_option maxHeartbeats 4000000 in
set_option maxRecDepth 100000 in
theorem c_X9_obey {l : Launch} {g : gT} {h : Nat → Nat} {b : ST} {w : Nat → ST} {r : Int32} {b' : ST} (hm : m_X9_obey b = some (r, b')) : MetI l g yX9_obey cX9_obey 1 (some .int) 9 204 79 h (cC g h (b, w)) (cC g h (b', w)) [.ref (h 0)] r := by
  refine MetI.ofX (by decide +kernel) (Nat.le_of_ble_eq_true rfl) ?_
  intro p e s m below meth c AV Q X hret ls hw hl
  replace X : Cx g p s m AV c cX9_obey RX9 1 := X
  replace hl : lv_has ls 1 [(0, .ref (h 0))] := hl
  unfold m_X9_obey at hm
  refine lv_aload_n X.1 X.2.1 dX9_obey_0 rfl (lv_at hl 0 rfl) ?_
  refine gX9_orders X hw wq_2_11 dX9_obey_1 ?_
  replace hm := ob_e hm
  obtain ⟨⟨r_2, b_3⟩, h_1, hm⟩ := hm
  replace hm := un_e hm
  refine k_Vi (k := 16) (As := []) X hl.1 hw (c_X4_run h_1) (by decide) (he_X4 g h _ _) rfl ⟨wq_41_2, wq_41_3, wq_41_4, wq_2_10, wq_41_5⟩ yo_X4_run rfl ⟨Nat.le_of_ble_eq_true rfl, Nat.le_of_ble_eq_true rfl⟩ (Nat.le_of_ble_eq_true rfl) dX9_obey_4 (fun H locs hw => ?_)
  obtain ⟨rfl, rfl⟩ := Prod.mk.inj (Option.some.inj hm)
  exact hret _ _ _ _ hw dX9_obey_7
def m_X9_wrong (b : ST) : Option (Int32) := Option.bind (m_X4_latestFault b) (fun (r_2 : Int32) => some r_2)
theorem yo_X9_wrong : yX9_wrong.cls = RX9 ∧ yX9_wrong.cls ≠ "java/lang/invoke/MethodHandle" ∧ yX9_wrong.cls ≠ "java/lang/invoke/VarHandle" ∧ (parseMethodDescriptor yX9_wrong.desc).map (fun d => d.parameters.length) = some 0 := by decide +kernel
set_option maxHeartbeats 4000000 in
set_option maxRecDepth 100000 in
theorem c_X9_wrong {l : Launch} {g : gT} {h : Nat → Nat} {b : ST} {w : Nat → ST} {r : Int32} (hm : m_X9_wrong b = some r) : MetI l g yX9_wrong cX9_wrong 1 (some .int) 1 20 79 h (cC g h (b, w)) (cC g h (b, w)) [.ref (h 0)] r := by
  refine MetI.ofX (by decide +kernel) (Nat.le_of_ble_eq_true rfl) ?_
  intro p e s m below meth c AV Q X hret ls hw hl
  replace X : Cx g p s m AV c cX9_wrong RX9 1 := X
  replace hl : lv_has ls 1 [(0, .ref (h 0))] := hl
  unfold m_X9_wrong at hm
  refine lv_aload_n X.1 X.2.1 dX9_wrong_0 rfl (lv_at hl 0 rfl) ?_
  refine gX9_orders X hw wq_2_11 dX9_wrong_1 ?_
  replace hm := ob_e hm
  obtain ⟨r_2, h_1, hm⟩ := hm
  refine k_Vi (k := 16) (As := []) X hl.1 hw (c_X4_latestFault h_1) (by decide) (he_X4 g h _ _) rfl ⟨wq_46_7, wq_46_8, wq_46_9, wq_2_10, wq_46_10⟩ yo_X4_latestFault rfl ⟨Nat.le_of_ble_eq_true rfl, Nat.le_of_ble_eq_true rfl⟩ (Nat.le_of_ble_eq_true rfl) dX9_wrong_4 (fun H locs hw => ?_)
  obtain rfl := Option.some.inj hm
  exact hret _ _ _ _ hw dX9_wrong_7
def m_X9_sheet (b : ST) (x1 : Int32) (x2 : Int32) : Option (Int32 × ST) := Option.bind (m_X7_isSheet b x1) (fun (r_2 : Int32) => if r_2 = 0 then some ((-2 : Int32), b) else if x2 ≤ (40 : Int32) then if 0 ≤ x2 then Option.bind (m_X7_renew b x1 x2) (fun (q_10 : Int32 × ST) => un q_10 (fun r_8 b_9 => some (r_8, b_9))) else Option.bind (m_X7_finding b (3 : Int32)) (fun (q_15 : Int32 × ST) => un q_15 (fun r_13 b_14 => some (r_13, b_14))) else some ((-2 : Int32), b))
theorem yo_X9_sheet : yX9_sheet.cls = RX9 ∧ yX9_sheet.cls ≠ "java/lang/invoke/MethodHandle" ∧ yX9_sheet.cls ≠ "java/lang/invoke/VarHandle" ∧ (parseMethodDescriptor yX9_sheet.desc).map (fun d => d.parameters.length) = some 2 := by decide +kernel
set_option maxHeartbeats 4000000 in
set_option maxRecDepth 100000 in
theorem c_X9_sheet {l : Launch} {g : gT} {h : Nat → Nat} {b : ST} {w : Nat → ST} {x1 : Int32} {x2 : Int32} {r : Int32} {b' : ST} (hm : m_X9_sheet b x1 x2 = some (r, b')) : MetI l g yX9_sheet cX9_sheet 3 (some .int) 2 44 79 h (cC g h (b, w)) (cC g h (b', w)) [.ref (h 0), .int x1, .int x2] r := by
  refine MetI.ofX (by decide +kernel) (Nat.le_of_ble_eq_true rfl) ?_
  intro p e s m below meth c AV Q X hret ls hw hl
  replace X : Cx g p s m AV c cX9_sheet RX9 3 := X
  replace hl : lv_has ls 3 [(0, .ref (h 0)), (1, .int x1), (2, .int x2)] := hl
  unfold m_X9_sheet at hm
  refine lv_aload_n X.1 X.2.1 dX9_sheet_0 rfl (lv_at hl 0 rfl) ?_
  refine gX9_sheets X hw wq_2_15 dX9_sheet_1 ?_
  refine lv_iload_n X.1 X.2.1 dX9_sheet_4 rfl (lv_at hl 1 rfl) ?_
  replace hm := ob_e hm
  obtain ⟨r_2, h_1, hm⟩ := hm
  refine k_Vi (k := 18) (As := [.int x1]) X hl.1 hw (c_X7_isSheet h_1) (by decide) (he_X7 g h _ _) rfl ⟨wq_46_19, wq_46_20, wq_46_21, wq_2_14, wq_46_22⟩ yo_X7_isSheet rfl ⟨Nat.le_of_ble_eq_true rfl, Nat.le_of_ble_eq_true rfl⟩ (Nat.le_of_ble_eq_true rfl) dX9_sheet_5 (fun H locs hw => ?_)
  refine lv_if_eq (tgt := 17) X.1 X.2.1 dX9_sheet_8 (by decide) (fun c_3 => ?_) (fun c_3 => ?_)
  · replace hm := it_p hm c_3
    refine lv_bipush (v := -2) X.1 X.2.1 dX9_sheet_17 (by decide) ?_
    obtain ⟨rfl, rfl⟩ := Prod.mk.inj (Option.some.inj hm)
    exact hret _ _ _ _ hw dX9_sheet_19
  · replace hm := it_n hm c_3
    refine lv_iload_n X.1 X.2.1 dX9_sheet_11 rfl (lv_at hl 2 rfl) ?_
    refine lv_bipush (v := 40) X.1 X.2.1 dX9_sheet_12 (by decide) ?_
    refine lv_icmp_le (tgt := 20) X.1 X.2.1 dX9_sheet_14 (by decide) (fun c_5 => ?_) (fun c_5 => ?_)
    · replace hm := it_p hm c_5
      refine lv_iload_n X.1 X.2.1 dX9_sheet_20 rfl (lv_at hl 2 rfl) ?_
      refine lv_if_ge (tgt := 33) X.1 X.2.1 dX9_sheet_21 (by decide) (fun c_6 => ?_) (fun c_6 => ?_)
      · replace hm := it_p hm c_6
        refine lv_aload_n X.1 X.2.1 dX9_sheet_33 rfl (lv_at hl 0 rfl) ?_
        refine gX9_sheets X hw wq_2_15 dX9_sheet_34 ?_
        refine lv_iload_n X.1 X.2.1 dX9_sheet_37 rfl (lv_at hl 1 rfl) ?_
        refine lv_iload_n X.1 X.2.1 dX9_sheet_38 rfl (lv_at hl 2 rfl) ?_
        replace hm := ob_e hm
        obtain ⟨⟨r_8, b_9⟩, h_7, hm⟩ := hm
        replace hm := un_e hm
        refine k_Vi (k := 18) (As := [.int x1, .int x2]) X hl.1 hw (c_X7_renew h_7) (by decide) (he_X7 g h _ _) rfl ⟨wq_47_4, wq_47_5, wq_47_6, wq_2_14, wq_47_7⟩ yo_X7_renew rfl ⟨Nat.le_of_ble_eq_true rfl, Nat.le_of_ble_eq_true rfl⟩ (Nat.le_of_ble_eq_true rfl) dX9_sheet_39 (fun H locs hw => ?_)
        obtain ⟨rfl, rfl⟩ := Prod.mk.inj (Option.some.inj hm)
        exact hret _ _ _ _ hw dX9_sheet_42
      · replace hm := it_n hm c_6
        refine lv_aload_n X.1 X.2.1 dX9_sheet_24 rfl (lv_at hl 0 rfl) ?_
        refine gX9_sheets X hw wq_2_15 dX9_sheet_25 ?_
        refine lv_iconst (v := 3) X.1 X.2.1 dX9_sheet_28 (by decide) ?_
        replace hm := ob_e hm
        obtain ⟨⟨r_13, b_14⟩, h_12, hm⟩ := hm
        replace hm := un_e hm
        refine k_Vi (k := 18) (As := [.int (3 : Int32)]) X hl.1 hw (c_X7_finding h_12) (by decide) (he_X7 g h _ _) rfl ⟨wq_46_23, wq_47_0, wq_47_1, wq_2_14, wq_47_2⟩ yo_X7_finding rfl ⟨Nat.le_of_ble_eq_true rfl, Nat.le_of_ble_eq_true rfl⟩ (Nat.le_of_ble_eq_true rfl) dX9_sheet_29 (fun H locs hw => ?_)
        obtain ⟨rfl, rfl⟩ := Prod.mk.inj (Option.some.inj hm)
        exact hret _ _ _ _ hw dX9_sheet_32
    · replace hm := it_n hm c_5
      refine lv_bipush (v := -2) X.1 X.2.1 dX9_sheet_17 (by decide) ?_
      obtain ⟨rfl, rfl⟩ := Prod.mk.inj (Option.some.inj hm)
      exact hret _ _ _ _ hw dX9_sheet_19
def m_X9_lose (b : ST) (x1 : Int32) : Option (Int32 × ST) := Option.bind (m_X7_refusalOf b x1) (fun (q_4 : Int32 × ST) => un q_4 (fun r_2 b_3 => if r_2 = 0 then Option.bind (m_X7_drop b_3 x1) (fun (q_9 : Int32 × ST) => un q_9 (fun r_7 b_8 => some (r_7, b_8))) else some (r_2, b_3)))
theorem yo_X9_lose : yX9_lose.cls = RX9 ∧ yX9_lose.cls ≠ "java/lang/invoke/MethodHandle" ∧ yX9_lose.cls ≠ "java/lang/invoke/VarHandle" ∧ (parseMethodDescriptor yX9_lose.desc).map (fun d => d.parameters.length) = some 1 := by decide +kernel
set_option maxHeartbeats 4000000 in
set_option maxRecDepth 100000 in
theorem c_X9_lose {l : Launch} {g : gT} {h : Nat → Nat} {b : ST} {w : Nat → ST} {x1 : Int32} {r : Int32} {b' : ST} (hm : m_X9_lose b x1 = some (r, b')) : MetI l g yX9_lose cX9_lose 3 (some .int) 4 85 79 h (cC g h (b, w)) (cC g h (b', w)) [.ref (h 0), .int x1] r := by
  refine MetI.ofX (by decide +kernel) (Nat.le_of_ble_eq_true rfl) ?_
  intro p e s m below meth c AV Q X hret ls hw hl
  replace X : Cx g p s m AV c cX9_lose RX9 3 := X
  replace hl : lv_has ls 3 [(0, .ref (h 0)), (1, .int x1)] := hl
  unfold m_X9_lose at hm
  refine lv_aload_n X.1 X.2.1 dX9_lose_0 rfl (lv_at hl 0 rfl) ?_
  refine gX9_sheets X hw wq_2_15 dX9_lose_1 ?_
  refine lv_iload_n X.1 X.2.1 dX9_lose_4 rfl (lv_at hl 1 rfl) ?_
  replace hm := ob_e hm
  obtain ⟨⟨r_2, b_3⟩, h_1, hm⟩ := hm
  replace hm := un_e hm
  refine k_Vi (k := 18) (As := [.int x1]) X hl.1 hw (c_X7_refusalOf h_1) (by decide) (he_X7 g h _ _) rfl ⟨wq_48_1, wq_48_2, wq_48_3, wq_2_14, wq_48_4⟩ yo_X7_refusalOf rfl ⟨Nat.le_of_ble_eq_true rfl, Nat.le_of_ble_eq_true rfl⟩ (Nat.le_of_ble_eq_true rfl) dX9_lose_5 (fun H locs hw => ?_)
  refine lv_istore_n (lv' := [(2, .int r_2), (0, .ref (h 0)), (1, .int x1)]) X.1 X.2.1 dX9_lose_8 rfl hl (by decide) rfl (fun ls hl => ?_)
  refine lv_iload_n X.1 X.2.1 dX9_lose_9 rfl (lv_at hl 0 rfl) ?_
  refine lv_if_eq (tgt := 15) X.1 X.2.1 dX9_lose_10 (by decide) (fun c_5 => ?_) (fun c_5 => ?_)
  · replace hm := it_p hm c_5
    refine lv_aload_n X.1 X.2.1 dX9_lose_15 rfl (lv_at hl 1 rfl) ?_
    refine gX9_sheets X hw wq_2_15 dX9_lose_16 ?_
    refine lv_iload_n X.1 X.2.1 dX9_lose_19 rfl (lv_at hl 2 rfl) ?_
    replace hm := ob_e hm
    obtain ⟨⟨r_7, b_8⟩, h_6, hm⟩ := hm
    replace hm := un_e hm
    refine k_Vi (k := 18) (As := [.int x1]) X hl.1 hw (c_X7_drop h_6) (by decide) (he_X7 g h _ _) rfl ⟨wq_48_10, wq_48_11, wq_48_12, wq_2_14, wq_48_13⟩ yo_X7_drop rfl ⟨Nat.le_of_ble_eq_true rfl, Nat.le_of_ble_eq_true rfl⟩ (Nat.le_of_ble_eq_true rfl) dX9_lose_20 (fun H locs hw => ?_)
    obtain ⟨rfl, rfl⟩ := Prod.mk.inj (Option.some.inj hm)
    exact hret _ _ _ _ hw dX9_lose_23
  · replace hm := it_n hm c_5
    refine lv_iload_n X.1 X.2.1 dX9_lose_13 rfl (lv_at hl 0 rfl) ?_
    obtain ⟨rfl, rfl⟩ := Prod.mk.inj (Option.some.inj hm)
    exact hret _ _ _ _ hw dX9_lose_14
def m_X9_lay (b : ST) (x1 : Int32) (x2 : Int32) (x3 : Int32) : Option (Int32 × ST) := Option.bind (m_X7_refusalAt b x1 x2) (fun (q_4 : Int32 × ST) => un q_4 (fun r_2 b_3 => if r_2 = 0 then Option.bind (m_X7_put b_3 x1 x2 (x3.toInt64)) (fun (b_7 : ST) => some ((1 : Int32), b_7)) else some (r_2, b_3)))
theorem yo_X9_lay : yX9_lay.cls = RX9 ∧ yX9_lay.cls ≠ "java/lang/invoke/MethodHandle" ∧ yX9_lay.cls ≠ "java/lang/invoke/VarHandle" ∧ (parseMethodDescriptor yX9_lay.desc).map (fun d => d.parameters.length) = some 3 := by decide +kernel
set_option maxHeartbeats 4000000 in
set_option maxRecDepth 100000 in
theorem c_X9_lay {l : Launch} {g : gT} {h : Nat → Nat} {b : ST} {w : Nat → ST} {x1 : Int32} {x2 : Int32} {x3 : Int32} {r : Int32} {b' : ST} (hm : m_X9_lay b x1 x2 x3 = some (r, b')) : MetI l g yX9_lay cX9_lay 5 (some .int) 5 109 79 h (cC g h (b, w)) (cC g h (b', w)) [.ref (h 0), .int x1, .int x2, .int x3] r := by
  refine MetI.ofX (by decide +kernel) (Nat.le_of_ble_eq_true rfl) ?_
  intro p e s m below meth c AV Q X hret ls hw hl
  replace X : Cx g p s m AV c cX9_lay RX9 5 := X
  replace hl : lv_has ls 5 [(0, .ref (h 0)), (1, .int x1), (2, .int x2), (3, .int x3)] := hl
  unfold m_X9_lay at hm
  refine lv_aload_n X.1 X.2.1 dX9_lay_0 rfl (lv_at hl 0 rfl) ?_
  refine gX9_sheets X hw wq_2_15 dX9_lay_1 ?_
  refine lv_iload_n X.1 X.2.1 dX9_lay_4 rfl (lv_at hl 1 rfl) ?_
  refine lv_iload_n X.1 X.2.1 dX9_lay_5 rfl (lv_at hl 2 rfl) ?_
  replace hm := ob_e hm
  obtain ⟨⟨r_2, b_3⟩, h_1, hm⟩ := hm
  replace hm := un_e hm
  refine k_Vi (k := 18) (As := [.int x1, .int x2]) X hl.1 hw (c_X7_refusalAt h_1) (by decide) (he_X7 g h _ _) rfl ⟨wq_49_2, wq_49_3, wq_49_4, wq_2_14, wq_49_5⟩ yo_X7_refusalAt rfl ⟨Nat.le_of_ble_eq_true rfl, Nat.le_of_ble_eq_true rfl⟩ (Nat.le_of_ble_eq_true rfl) dX9_lay_6 (fun H locs hw => ?_)
  refine lv_istore (lv' := [(4, .int r_2), (0, .ref (h 0)), (1, .int x1), (2, .int x2), (3, .int x3)]) X.1 X.2.1 dX9_lay_9 hl (by decide) rfl (fun ls hl => ?_)
  refine lv_iload X.1 X.2.1 dX9_lay_11 (lv_at hl 0 rfl) ?_
  refine lv_if_eq (tgt := 19) X.1 X.2.1 dX9_lay_13 (by decide) (fun c_5 => ?_) (fun c_5 => ?_)
  · replace hm := it_p hm c_5
    refine lv_aload_n X.1 X.2.1 dX9_lay_19 rfl (lv_at hl 1 rfl) ?_
    refine gX9_sheets X hw wq_2_15 dX9_lay_20 ?_
    refine lv_iload_n X.1 X.2.1 dX9_lay_23 rfl (lv_at hl 2 rfl) ?_
    refine lv_iload_n X.1 X.2.1 dX9_lay_24 rfl (lv_at hl 3 rfl) ?_
    refine lv_iload_n X.1 X.2.1 dX9_lay_25 rfl (lv_at hl 4 rfl) ?_
    refine lv_i2l X.1 X.2.1 dX9_lay_26 rfl ?_
    replace hm := ob_e hm
    obtain ⟨b_7, h_6, hm⟩ := hm
    refine k_Vv (k := 18) (As := [.int x1, .int x2, .long x3.toInt64]) X hl.1 hw (c_X7_put h_6) (by decide) (he_X7 g h _ _) rfl ⟨wq_49_11, wq_49_12, wq_49_13, wq_2_14, wq_49_14⟩ yo_X7_put rfl ⟨Nat.le_of_ble_eq_true rfl, Nat.le_of_ble_eq_true rfl⟩ (Nat.le_of_ble_eq_true rfl) dX9_lay_27 (fun H locs hw => ?_)
    refine lv_iconst (v := 1) X.1 X.2.1 dX9_lay_30 (by decide) ?_
    obtain ⟨rfl, rfl⟩ := Prod.mk.inj (Option.some.inj hm)
    exact hret _ _ _ _ hw dX9_lay_31
  · replace hm := it_n hm c_5
    refine lv_iload X.1 X.2.1 dX9_lay_16 (lv_at hl 0 rfl) ?_
    obtain ⟨rfl, rfl⟩ := Prod.mk.inj (Option.some.inj hm)
    exact hret _ _ _ _ hw dX9_lay_18
def m_X9_get (b : ST) (x1 : Int32) (x2 : Int32) : Option (Int64 × ST) := Option.bind (m_X7_refusalAt b x1 x2) (fun (q_4 : Int32 × ST) => un q_4 (fun r_2 b_3 => if r_2 = 0 then Option.bind (m_X7_item b_3 x1 x2) (fun (r_7 : Int64) => some (r_7, b_3)) else Option.bind (m_X9_refused r_2) (fun (r_10 : Int64) => some (r_10, b_3))))
theorem yo_X9_get : yX9_get.cls = RX9 ∧ yX9_get.cls ≠ "java/lang/invoke/MethodHandle" ∧ yX9_get.cls ≠ "java/lang/invoke/VarHandle" ∧ (parseMethodDescriptor yX9_get.desc).map (fun d => d.parameters.length) = some 2 := by decide +kernel
set_option maxHeartbeats 4000000 in
set_option maxRecDepth 100000 in
theorem c_X9_get {l : Launch} {g : gT} {h : Nat → Nat} {b : ST} {w : Nat → ST} {x1 : Int32} {x2 : Int32} {r : Int64} {b' : ST} (hm : m_X9_get b x1 x2 = some (r, b')) : MetL l g yX9_get cX9_get 4 (some .long) 5 108 79 h (cC g h (b, w)) (cC g h (b', w)) [.ref (h 0), .int x1, .int x2] r := by
  refine MetL.ofX (by decide +kernel) (Nat.le_of_ble_eq_true rfl) ?_
  intro p e s m below meth c AV Q X hret ls hw hl
  replace X : Cx g p s m AV c cX9_get RX9 4 := X
  replace hl : lv_has ls 4 [(0, .ref (h 0)), (1, .int x1), (2, .int x2)] := hl
  unfold m_X9_get at hm
  refine lv_aload_n X.1 X.2.1 dX9_get_0 rfl (lv_at hl 0 rfl) ?_
  refine gX9_sheets X hw wq_2_15 dX9_get_1 ?_
  refine lv_iload_n X.1 X.2.1 dX9_get_4 rfl (lv_at hl 1 rfl) ?_
  refine lv_iload_n X.1 X.2.1 dX9_get_5 rfl (lv_at hl 2 rfl) ?_
  replace hm := ob_e hm
  obtain ⟨⟨r_2, b_3⟩, h_1, hm⟩ := hm
  replace hm := un_e hm
  refine k_Vi (k := 18) (As := [.int x1, .int x2]) X hl.1 hw (c_X7_refusalAt h_1) (by decide) (he_X7 g h _ _) rfl ⟨wq_49_2, wq_49_3, wq_49_4, wq_2_14, wq_49_5⟩ yo_X7_refusalAt rfl ⟨Nat.le_of_ble_eq_true rfl, Nat.le_of_ble_eq_true rfl⟩ (Nat.le_of_ble_eq_true rfl) dX9_get_6 (fun H locs hw => ?_)
  refine lv_istore_n (lv' := [(3, .int r_2), (0, .ref (h 0)), (1, .int x1), (2, .int x2)]) X.1 X.2.1 dX9_get_9 rfl hl (by decide) rfl (fun ls hl => ?_)
  refine lv_iload_n X.1 X.2.1 dX9_get_10 rfl (lv_at hl 0 rfl) ?_
  refine lv_if_eq (tgt := 19) X.1 X.2.1 dX9_get_11 (by decide) (fun c_5 => ?_) (fun c_5 => ?_)
  · replace hm := it_p hm c_5
    refine lv_aload_n X.1 X.2.1 dX9_get_19 rfl (lv_at hl 1 rfl) ?_
    refine gX9_sheets X hw wq_2_15 dX9_get_20 ?_
    refine lv_iload_n X.1 X.2.1 dX9_get_23 rfl (lv_at hl 2 rfl) ?_
    refine lv_iload_n X.1 X.2.1 dX9_get_24 rfl (lv_at hl 3 rfl) ?_
    replace hm := ob_e hm
    obtain ⟨r_7, h_6, hm⟩ := hm
    refine k_Vl (k := 18) (As := [.int x1, .int x2]) X hl.1 hw (c_X7_item h_6) (by decide) (he_X7 g h _ _) rfl ⟨wq_50_3, wq_50_4, wq_50_5, wq_2_14, wq_50_6⟩ yo_X7_item rfl ⟨Nat.le_of_ble_eq_true rfl, Nat.le_of_ble_eq_true rfl⟩ (Nat.le_of_ble_eq_true rfl) dX9_get_25 (fun H locs hw => ?_)
    obtain ⟨rfl, rfl⟩ := Prod.mk.inj (Option.some.inj hm)
    exact hret _ _ _ _ hw dX9_get_28
  · replace hm := it_n hm c_5
    refine lv_iload_n X.1 X.2.1 dX9_get_14 rfl (lv_at hl 0 rfl) ?_
    replace hm := ob_e hm
    obtain ⟨r_10, h_9, hm⟩ := hm
    refine k_Sl (As := [.int r_2]) X hl.1 hw (c_X9_refused h_9) ⟨wq_15_7, wq_15_8, wq_1_2, wq_15_9⟩ yo_X9_refused rfl ⟨Nat.le_of_ble_eq_true rfl, Nat.le_of_ble_eq_true rfl⟩ (Nat.le_of_ble_eq_true rfl) dX9_get_15 (fun H locs hw => ?_)
    obtain ⟨rfl, rfl⟩ := Prod.mk.inj (Option.some.inj hm)
    exact hret _ _ _ _ hw dX9_get_18
def m_X9_copy (b : ST) (x1 : Int32) (x2 : Int32) (x3 : Int32) (x4 : Int32) (x5 : Int32) : Option (Int32 × ST) := Option.bind (m_X7_isSheet b x1) (fun (r_2 : Int32) => if r_2 = 0 then some ((-2 : Int32), b) else Option.bind (m_X7_isSheet b x3) (fun (r_6 : Int32) => if r_6 = 0 then some ((-2 : Int32), b) else Option.bind (m_X7_isLost b x1) (fun (r_9 : Int32) => Option.bind ((if r_9 = 0 then Option.bind (m_X7_isLost b x3) (fun (r_19 : Int32) => if r_19 = 0 then Option.bind (m_X7_holds b x1 x2 x5) (fun (r_22 : Int32) => Option.bind ((if r_22 = 0 then some (.inl ()) else Option.bind (m_X7_holds b x3 x4 x5) (fun (r_32 : Int32) => if r_32 = 0 then some (.inl ()) else Option.bind (m_X7_move b x1 x2 x3 x4 x5) (fun (b_35 : ST) => some (.inr (.inr ((1 : Int32), b_35)))))) : Option ((Unit) ⊕ ((Unit) ⊕ (Int32 × ST)))) (fun z_37 => ex z_37 (fun (_ : Unit) => Option.bind (m_X7_finding b (2 : Int32)) (fun (q_27 : Int32 × ST) => un q_27 (fun r_25 b_26 => some (.inr (r_25, b_26))))) (fun r => some r))) else some (.inl ())) else some (.inl ())) : Option ((Unit) ⊕ (Int32 × ST))) (fun z_38 => ex z_38 (fun (_ : Unit) => Option.bind (m_X7_finding b (1 : Int32)) (fun (q_14 : Int32 × ST) => un q_14 (fun r_12 b_13 => some (r_12, b_13)))) (fun r => some r)))))
theorem yo_X9_copy : yX9_copy.cls = RX9 ∧ yX9_copy.cls ≠ "java/lang/invoke/MethodHandle" ∧ yX9_copy.cls ≠ "java/lang/invoke/VarHandle" ∧ (parseMethodDescriptor yX9_copy.desc).map (fun d => d.parameters.length) = some 5 := by decide +kernel
set_option maxHeartbeats 4000000 in
set_option maxRecDepth 100000 in
theorem c_X9_copy {l : Launch} {g : gT} {h : Nat → Nat} {b : ST} {w : Nat → ST} {x1 : Int32} {x2 : Int32} {x3 : Int32} {x4 : Int32} {x5 : Int32} {r : Int32} {b' : ST} (hm : m_X9_copy b x1 x2 x3 x4 x5 = some (r, b')) : MetI l g yX9_copy cX9_copy 6 (some .int) 5 112 79 h (cC g h (b, w)) (cC g h (b', w)) [.ref (h 0), .int x1, .int x2, .int x3, .int x4, .int x5] r := by
  refine MetI.ofX (by decide +kernel) (Nat.le_of_ble_eq_true rfl) ?_
  intro p e s m below meth c AV Q X hret ls hw hl
  replace X : Cx g p s m AV c cX9_copy RX9 6 := X
  replace hl : lv_has ls 6 [(0, .ref (h 0)), (1, .int x1), (2, .int x2), (3, .int x3), (4, .int x4), (5, .int x5)] := hl
  unfold m_X9_copy at hm
  refine lv_aload_n X.1 X.2.1 dX9_copy_0 rfl (lv_at hl 0 rfl) ?_
  refine gX9_sheets X hw wq_2_15 dX9_copy_1 ?_
  refine lv_iload_n X.1 X.2.1 dX9_copy_4 rfl (lv_at hl 1 rfl) ?_
  replace hm := ob_e hm
  obtain ⟨r_2, h_1, hm⟩ := hm
  refine k_Vi (k := 18) (As := [.int x1]) X hl.1 hw (c_X7_isSheet h_1) (by decide) (he_X7 g h _ _) rfl ⟨wq_46_19, wq_46_20, wq_46_21, wq_2_14, wq_46_22⟩ yo_X7_isSheet rfl ⟨Nat.le_of_ble_eq_true rfl, Nat.le_of_ble_eq_true rfl⟩ (Nat.le_of_ble_eq_true rfl) dX9_copy_5 (fun H locs hw => ?_)
  refine lv_if_eq (tgt := 22) X.1 X.2.1 dX9_copy_8 (by decide) (fun c_3 => ?_) (fun c_3 => ?_)
  · replace hm := it_p hm c_3
    refine lv_bipush (v := -2) X.1 X.2.1 dX9_copy_22 (by decide) ?_
    obtain ⟨rfl, rfl⟩ := Prod.mk.inj (Option.some.inj hm)
    exact hret _ _ _ _ hw dX9_copy_24
  · replace hm := it_n hm c_3
    refine lv_aload_n X.1 X.2.1 dX9_copy_11 rfl (lv_at hl 0 rfl) ?_
    refine gX9_sheets X hw wq_2_15 dX9_copy_12 ?_
    refine lv_iload_n X.1 X.2.1 dX9_copy_15 rfl (lv_at hl 3 rfl) ?_
    replace hm := ob_e hm
    obtain ⟨r_6, h_5, hm⟩ := hm
    refine k_Vi (k := 18) (As := [.int x3]) X hl.1 hw (c_X7_isSheet h_5) (by decide) (he_X7 g h _ _) rfl ⟨wq_46_19, wq_46_20, wq_46_21, wq_2_14, wq_46_22⟩ yo_X7_isSheet rfl ⟨Nat.le_of_ble_eq_true rfl, Nat.le_of_ble_eq_true rfl⟩ (Nat.le_of_ble_eq_true rfl) dX9_copy_16 (fun H locs hw => ?_)
    refine lv_if_ne (tgt := 25) X.1 X.2.1 dX9_copy_19 (by decide) (fun c_7 => ?_) (fun c_7 => ?_)
    · replace hm := it_n hm c_7
      refine lv_aload_n X.1 X.2.1 dX9_copy_25 rfl (lv_at hl 0 rfl) ?_
      refine gX9_sheets X hw wq_2_15 dX9_copy_26 ?_
      refine lv_iload_n X.1 X.2.1 dX9_copy_29 rfl (lv_at hl 1 rfl) ?_
      replace hm := ob_e hm
      obtain ⟨r_9, h_8, hm⟩ := hm
      refine k_Vi (k := 18) (As := [.int x1]) X hl.1 hw (c_X7_isLost h_8) (by decide) (he_X7 g h _ _) rfl ⟨wq_50_15, wq_48_6, wq_48_7, wq_2_14, wq_48_8⟩ yo_X7_isLost rfl ⟨Nat.le_of_ble_eq_true rfl, Nat.le_of_ble_eq_true rfl⟩ (Nat.le_of_ble_eq_true rfl) dX9_copy_30 (fun H locs hw => ?_)
      replace hm := ob_e hm
      obtain ⟨z_38, hg_16, hm⟩ := hm
      have J_17 : z_38 = .inl () → ∀ (H : Heap) (locs : List Loc) (ls : Array Slot), Wd g 79 h (cC g h (b, w)) s H locs → lv_has ls 6 [(0, .ref (h 0))] → W p l e (rW 5 112) s m AV below meth c H locs 0 0 Q (F0 m 47 ls []) := by
        intro hj
        subst hj
        replace hm := ex_l hm
        intro H locs ls hw hl
        refine lv_aload_n X.1 X.2.1 dX9_copy_47 rfl (lv_at hl 0 rfl) ?_
        refine gX9_sheets X hw wq_2_15 dX9_copy_48 ?_
        refine lv_iconst (v := 1) X.1 X.2.1 dX9_copy_51 (by decide) ?_
        replace hm := ob_e hm
        obtain ⟨⟨r_12, b_13⟩, h_11, hm⟩ := hm
        replace hm := un_e hm
        refine k_Vi (k := 18) (As := [.int (1 : Int32)]) X hl.1 hw (c_X7_finding h_11) (by decide) (he_X7 g h _ _) rfl ⟨wq_46_23, wq_47_0, wq_47_1, wq_2_14, wq_47_2⟩ yo_X7_finding rfl ⟨Nat.le_of_ble_eq_true rfl, Nat.le_of_ble_eq_true rfl⟩ (Nat.le_of_ble_eq_true rfl) dX9_copy_52 (fun H locs hw => ?_)
        obtain ⟨rfl, rfl⟩ := Prod.mk.inj (Option.some.inj hm)
        exact hret _ _ _ _ hw dX9_copy_55
      refine lv_if_ne (tgt := 47) X.1 X.2.1 dX9_copy_33 (by decide) (fun c_10 => ?_) (fun c_10 => ?_)
      · replace hg_16 := it_n hg_16 c_10
        exact J_17 (Option.some.inj hg_16).symm _ _ _ hw (lv_sub hl [0] rfl)
      · replace hg_16 := it_p hg_16 c_10
        refine lv_aload_n X.1 X.2.1 dX9_copy_36 rfl (lv_at hl 0 rfl) ?_
        refine gX9_sheets X hw wq_2_15 dX9_copy_37 ?_
        refine lv_iload_n X.1 X.2.1 dX9_copy_40 rfl (lv_at hl 3 rfl) ?_
        replace hg_16 := ob_e hg_16
        obtain ⟨r_19, h_18, hg_16⟩ := hg_16
        refine k_Vi (k := 18) (As := [.int x3]) X hl.1 hw (c_X7_isLost h_18) (by decide) (he_X7 g h _ _) rfl ⟨wq_50_15, wq_48_6, wq_48_7, wq_2_14, wq_48_8⟩ yo_X7_isLost rfl ⟨Nat.le_of_ble_eq_true rfl, Nat.le_of_ble_eq_true rfl⟩ (Nat.le_of_ble_eq_true rfl) dX9_copy_41 (fun H locs hw => ?_)
        refine lv_if_eq (tgt := 56) X.1 X.2.1 dX9_copy_44 (by decide) (fun c_20 => ?_) (fun c_20 => ?_)
        · replace hg_16 := it_p hg_16 c_20
          refine lv_aload_n X.1 X.2.1 dX9_copy_56 rfl (lv_at hl 0 rfl) ?_
          refine gX9_sheets X hw wq_2_15 dX9_copy_57 ?_
          refine lv_iload_n X.1 X.2.1 dX9_copy_60 rfl (lv_at hl 1 rfl) ?_
          refine lv_iload_n X.1 X.2.1 dX9_copy_61 rfl (lv_at hl 2 rfl) ?_
          refine lv_iload X.1 X.2.1 dX9_copy_62 (lv_at hl 5 rfl) ?_
          replace hg_16 := ob_e hg_16
          obtain ⟨r_22, h_21, hg_16⟩ := hg_16
          refine k_Vi (k := 18) (As := [.int x1, .int x2, .int x5]) X hl.1 hw (c_X7_holds h_21) (by decide) (he_X7 g h _ _) rfl ⟨wq_50_16, wq_50_17, wq_50_18, wq_2_14, wq_50_19⟩ yo_X7_holds rfl ⟨Nat.le_of_ble_eq_true rfl, Nat.le_of_ble_eq_true rfl⟩ (Nat.le_of_ble_eq_true rfl) dX9_copy_64 (fun H locs hw => ?_)
          replace hg_16 := ob_e hg_16
          obtain ⟨z_37, hg_29, hg_16⟩ := hg_16
          have J_30 : z_37 = .inl () → ∀ (H : Heap) (locs : List Loc) (ls : Array Slot), Wd g 79 h (cC g h (b, w)) s H locs → lv_has ls 6 [(0, .ref (h 0))] → W p l e (rW 5 112) s m AV below meth c H locs 0 0 Q (F0 m 85 ls []) := by
            intro hj
            subst hj
            replace hg_16 := ex_l hg_16
            intro H locs ls hw hl
            refine lv_aload_n X.1 X.2.1 dX9_copy_85 rfl (lv_at hl 0 rfl) ?_
            refine gX9_sheets X hw wq_2_15 dX9_copy_86 ?_
            refine lv_iconst (v := 2) X.1 X.2.1 dX9_copy_89 (by decide) ?_
            replace hg_16 := ob_e hg_16
            obtain ⟨⟨r_25, b_26⟩, h_24, hg_16⟩ := hg_16
            replace hg_16 := un_e hg_16
            refine k_Vi (k := 18) (As := [.int (2 : Int32)]) X hl.1 hw (c_X7_finding h_24) (by decide) (he_X7 g h _ _) rfl ⟨wq_46_23, wq_47_0, wq_47_1, wq_2_14, wq_47_2⟩ yo_X7_finding rfl ⟨Nat.le_of_ble_eq_true rfl, Nat.le_of_ble_eq_true rfl⟩ (Nat.le_of_ble_eq_true rfl) dX9_copy_90 (fun H locs hw => ?_)
            obtain rfl := Option.some.inj hg_16
            replace hm := ex_r hm
            obtain ⟨rfl, rfl⟩ := Prod.mk.inj (Option.some.inj hm)
            exact hret _ _ _ _ hw dX9_copy_93
          refine lv_if_eq (tgt := 85) X.1 X.2.1 dX9_copy_67 (by decide) (fun c_23 => ?_) (fun c_23 => ?_)
          · replace hg_29 := it_p hg_29 c_23
            exact J_30 (Option.some.inj hg_29).symm _ _ _ hw (lv_sub hl [0] rfl)
          · replace hg_29 := it_n hg_29 c_23
            refine lv_aload_n X.1 X.2.1 dX9_copy_70 rfl (lv_at hl 0 rfl) ?_
            refine gX9_sheets X hw wq_2_15 dX9_copy_71 ?_
            refine lv_iload_n X.1 X.2.1 dX9_copy_74 rfl (lv_at hl 3 rfl) ?_
            refine lv_iload X.1 X.2.1 dX9_copy_75 (lv_at hl 4 rfl) ?_
            refine lv_iload X.1 X.2.1 dX9_copy_77 (lv_at hl 5 rfl) ?_
            replace hg_29 := ob_e hg_29
            obtain ⟨r_32, h_31, hg_29⟩ := hg_29
            refine k_Vi (k := 18) (As := [.int x3, .int x4, .int x5]) X hl.1 hw (c_X7_holds h_31) (by decide) (he_X7 g h _ _) rfl ⟨wq_50_16, wq_50_17, wq_50_18, wq_2_14, wq_50_19⟩ yo_X7_holds rfl ⟨Nat.le_of_ble_eq_true rfl, Nat.le_of_ble_eq_true rfl⟩ (Nat.le_of_ble_eq_true rfl) dX9_copy_79 (fun H locs hw => ?_)
            refine lv_if_ne (tgt := 94) X.1 X.2.1 dX9_copy_82 (by decide) (fun c_33 => ?_) (fun c_33 => ?_)
            · replace hg_29 := it_n hg_29 c_33
              refine lv_aload_n X.1 X.2.1 dX9_copy_94 rfl (lv_at hl 0 rfl) ?_
              refine gX9_sheets X hw wq_2_15 dX9_copy_95 ?_
              refine lv_iload_n X.1 X.2.1 dX9_copy_98 rfl (lv_at hl 1 rfl) ?_
              refine lv_iload_n X.1 X.2.1 dX9_copy_99 rfl (lv_at hl 2 rfl) ?_
              refine lv_iload_n X.1 X.2.1 dX9_copy_100 rfl (lv_at hl 3 rfl) ?_
              refine lv_iload X.1 X.2.1 dX9_copy_101 (lv_at hl 4 rfl) ?_
              refine lv_iload X.1 X.2.1 dX9_copy_103 (lv_at hl 5 rfl) ?_
              replace hg_29 := ob_e hg_29
              obtain ⟨b_35, h_34, hg_29⟩ := hg_29
              refine k_Vv (k := 18) (As := [.int x1, .int x2, .int x3, .int x4, .int x5]) X hl.1 hw (c_X7_move h_34) (by decide) (he_X7 g h _ _) rfl ⟨wq_50_20, wq_50_21, wq_50_22, wq_2_14, wq_50_23⟩ yo_X7_move rfl ⟨Nat.le_of_ble_eq_true rfl, Nat.le_of_ble_eq_true rfl⟩ (Nat.le_of_ble_eq_true rfl) dX9_copy_105 (fun H locs hw => ?_)
              refine lv_iconst (v := 1) X.1 X.2.1 dX9_copy_108 (by decide) ?_
              obtain rfl := Option.some.inj hg_29
              replace hg_16 := ex_r hg_16
              obtain rfl := Option.some.inj hg_16
              replace hm := ex_r hm
              obtain ⟨rfl, rfl⟩ := Prod.mk.inj (Option.some.inj hm)
              exact hret _ _ _ _ hw dX9_copy_109
            · replace hg_29 := it_p hg_29 c_33
              exact J_30 (Option.some.inj hg_29).symm _ _ _ hw (lv_sub hl [0] rfl)
        · replace hg_16 := it_n hg_16 c_20
          exact J_17 (Option.some.inj hg_16).symm _ _ _ hw (lv_sub hl [0] rfl)
    · replace hm := it_p hm c_7
      refine lv_bipush (v := -2) X.1 X.2.1 dX9_copy_22 (by decide) ?_
      obtain ⟨rfl, rfl⟩ := Prod.mk.inj (Option.some.inj hm)
      exact hret _ _ _ _ hw dX9_copy_24
def m_X9_addFrom (b : ST) (x1 : Int32) (x2 : Int32) : Option (Int32 × ST) := Option.bind (m_X7_item b x1 x2) (fun (r_2 : Int64) => Option.bind (m_X7_item b x1 ((x2 + (1 : Int32)))) (fun (r_4 : Int64) => Option.bind (m_X7_item b x1 ((x2 + (2 : Int32)))) (fun (r_6 : Int64) => Option.bind (m_X7_item b x1 ((x2 + (3 : Int32)))) (fun (r_8 : Int64) => Option.bind (m_X2_mayLink b r_2 r_4 r_6 r_8) (fun (r_10 : Int32) => if r_10 = 0 then some ((0 : Int32), b) else Option.bind (m_X2_addLink b (r_2.toInt32) (r_4.toInt32) (r_6.toInt32) (r_8.toInt32)) (fun (q_15 : Int32 × ST) => un q_15 (fun r_13 b_14 => some ((1 : Int32), b_14))))))))
theorem yo_X9_addFrom : yX9_addFrom.cls = RX9 ∧ yX9_addFrom.cls ≠ "java/lang/invoke/MethodHandle" ∧ yX9_addFrom.cls ≠ "java/lang/invoke/VarHandle" ∧ (parseMethodDescriptor yX9_addFrom.desc).map (fun d => d.parameters.length) = some 2 := by decide +kernel
set_option maxHeartbeats 4000000 in
set_option maxRecDepth 100000 in
theorem c_X9_addFrom {l : Launch} {g : gT} {h : Nat → Nat} {b : ST} {w : Nat → ST} {x1 : Int32} {x2 : Int32} {r : Int32} {b' : ST} (hm : m_X9_addFrom b x1 x2 = some (r, b')) : MetI l g yX9_addFrom cX9_addFrom 11 (some .boolean) 5 107 79 h (cC g h (b, w)) (cC g h (b', w)) [.ref (h 0), .int x1, .int x2] r := by
  refine MetZ.ofX (by decide +kernel) (Nat.le_of_ble_eq_true rfl) ?_
  intro p e s m below meth c AV Q X hret ls hw hl
  replace X : Cx g p s m AV c cX9_addFrom RX9 11 := X
  replace hl : lv_has ls 11 [(0, .ref (h 0)), (1, .int x1), (2, .int x2)] := hl
  unfold m_X9_addFrom at hm
  refine lv_aload_n X.1 X.2.1 dX9_addFrom_0 rfl (lv_at hl 0 rfl) ?_
  refine gX9_sheets X hw wq_2_15 dX9_addFrom_1 ?_
  refine lv_iload_n X.1 X.2.1 dX9_addFrom_4 rfl (lv_at hl 1 rfl) ?_
  refine lv_iload_n X.1 X.2.1 dX9_addFrom_5 rfl (lv_at hl 2 rfl) ?_
  replace hm := ob_e hm
  obtain ⟨r_2, h_1, hm⟩ := hm
  refine k_Vl (k := 18) (As := [.int x1, .int x2]) X hl.1 hw (c_X7_item h_1) (by decide) (he_X7 g h _ _) rfl ⟨wq_50_3, wq_50_4, wq_50_5, wq_2_14, wq_50_6⟩ yo_X7_item rfl ⟨Nat.le_of_ble_eq_true rfl, Nat.le_of_ble_eq_true rfl⟩ (Nat.le_of_ble_eq_true rfl) dX9_addFrom_6 (fun H locs hw => ?_)
  refine lv_lstore_n (lv' := [(3, .long r_2), (0, .ref (h 0)), (1, .int x1), (2, .int x2)]) X.1 X.2.1 dX9_addFrom_9 rfl hl (by decide) rfl (fun ls hl => ?_)
  refine lv_aload_n X.1 X.2.1 dX9_addFrom_10 rfl (lv_at hl 1 rfl) ?_
  refine gX9_sheets X hw wq_2_15 dX9_addFrom_11 ?_
  refine lv_iload_n X.1 X.2.1 dX9_addFrom_14 rfl (lv_at hl 2 rfl) ?_
  refine lv_iload_n X.1 X.2.1 dX9_addFrom_15 rfl (lv_at hl 3 rfl) ?_
  refine lv_iconst (v := 1) X.1 X.2.1 dX9_addFrom_16 (by decide) ?_
  refine lv_iadd X.1 X.2.1 dX9_addFrom_17 ?_
  replace hm := ob_e hm
  obtain ⟨r_4, h_3, hm⟩ := hm
  refine k_Vl (k := 18) (As := [.int x1, .int (x2 + (1 : Int32))]) X hl.1 hw (c_X7_item h_3) (by decide) (he_X7 g h _ _) rfl ⟨wq_50_3, wq_50_4, wq_50_5, wq_2_14, wq_50_6⟩ yo_X7_item rfl ⟨Nat.le_of_ble_eq_true rfl, Nat.le_of_ble_eq_true rfl⟩ (Nat.le_of_ble_eq_true rfl) dX9_addFrom_18 (fun H locs hw => ?_)
  refine lv_lstore (lv' := [(5, .long r_4), (3, .long r_2), (0, .ref (h 0)), (1, .int x1), (2, .int x2)]) X.1 X.2.1 dX9_addFrom_21 hl (by decide) rfl (fun ls hl => ?_)
  refine lv_aload_n X.1 X.2.1 dX9_addFrom_23 rfl (lv_at hl 2 rfl) ?_
  refine gX9_sheets X hw wq_2_15 dX9_addFrom_24 ?_
  refine lv_iload_n X.1 X.2.1 dX9_addFrom_27 rfl (lv_at hl 3 rfl) ?_
  refine lv_iload_n X.1 X.2.1 dX9_addFrom_28 rfl (lv_at hl 4 rfl) ?_
  refine lv_iconst (v := 2) X.1 X.2.1 dX9_addFrom_29 (by decide) ?_
  refine lv_iadd X.1 X.2.1 dX9_addFrom_30 ?_
  replace hm := ob_e hm
  obtain ⟨r_6, h_5, hm⟩ := hm
  refine k_Vl (k := 18) (As := [.int x1, .int (x2 + (2 : Int32))]) X hl.1 hw (c_X7_item h_5) (by decide) (he_X7 g h _ _) rfl ⟨wq_50_3, wq_50_4, wq_50_5, wq_2_14, wq_50_6⟩ yo_X7_item rfl ⟨Nat.le_of_ble_eq_true rfl, Nat.le_of_ble_eq_true rfl⟩ (Nat.le_of_ble_eq_true rfl) dX9_addFrom_31 (fun H locs hw => ?_)
  refine lv_lstore (lv' := [(7, .long r_6), (5, .long r_4), (3, .long r_2), (0, .ref (h 0)), (1, .int x1), (2, .int x2)]) X.1 X.2.1 dX9_addFrom_34 hl (by decide) rfl (fun ls hl => ?_)
  refine lv_aload_n X.1 X.2.1 dX9_addFrom_36 rfl (lv_at hl 3 rfl) ?_
  refine gX9_sheets X hw wq_2_15 dX9_addFrom_37 ?_
  refine lv_iload_n X.1 X.2.1 dX9_addFrom_40 rfl (lv_at hl 4 rfl) ?_
  refine lv_iload_n X.1 X.2.1 dX9_addFrom_41 rfl (lv_at hl 5 rfl) ?_
  refine lv_iconst (v := 3) X.1 X.2.1 dX9_addFrom_42 (by decide) ?_
  refine lv_iadd X.1 X.2.1 dX9_addFrom_43 ?_
  replace hm := ob_e hm
  obtain ⟨r_8, h_7, hm⟩ := hm
  refine k_Vl (k := 18) (As := [.int x1, .int (x2 + (3 : Int32))]) X hl.1 hw (c_X7_item h_7) (by decide) (he_X7 g h _ _) rfl ⟨wq_50_3, wq_50_4, wq_50_5, wq_2_14, wq_50_6⟩ yo_X7_item rfl ⟨Nat.le_of_ble_eq_true rfl, Nat.le_of_ble_eq_true rfl⟩ (Nat.le_of_ble_eq_true rfl) dX9_addFrom_44 (fun H locs hw => ?_)
  refine lv_lstore (lv' := [(9, .long r_8), (7, .long r_6), (5, .long r_4), (3, .long r_2), (0, .ref (h 0)), (1, .int x1), (2, .int x2)]) X.1 X.2.1 dX9_addFrom_47 hl (by decide) rfl (fun ls hl => ?_)
  refine lv_aload_n X.1 X.2.1 dX9_addFrom_49 rfl (lv_at hl 4 rfl) ?_
  refine gX9_net X hw wq_1_15 dX9_addFrom_50 ?_
  refine lv_lload_n X.1 X.2.1 dX9_addFrom_53 rfl (lv_at hl 3 rfl) ?_
  refine lv_lload X.1 X.2.1 dX9_addFrom_54 (lv_at hl 2 rfl) ?_
  refine lv_lload X.1 X.2.1 dX9_addFrom_56 (lv_at hl 1 rfl) ?_
  refine lv_lload X.1 X.2.1 dX9_addFrom_58 (lv_at hl 0 rfl) ?_
  replace hm := ob_e hm
  obtain ⟨r_10, h_9, hm⟩ := hm
  refine k_Vi (k := 1) (As := [.long r_2, .long r_4, .long r_6, .long r_8]) X hl.1 hw (c_X2_mayLink h_9) (by decide) (he_X2 g h _ _) rfl ⟨wq_7_12, wq_7_13, wq_7_14, wq_1_14, wq_7_15⟩ yo_X2_mayLink rfl ⟨Nat.le_of_ble_eq_true rfl, Nat.le_of_ble_eq_true rfl⟩ (Nat.le_of_ble_eq_true rfl) dX9_addFrom_60 (fun H locs hw => ?_)
  refine lv_if_ne (tgt := 68) X.1 X.2.1 dX9_addFrom_63 (by decide) (fun c_11 => ?_) (fun c_11 => ?_)
  · replace hm := it_n hm c_11
    refine lv_aload_n X.1 X.2.1 dX9_addFrom_68 rfl (lv_at hl 4 rfl) ?_
    refine gX9_net X hw wq_1_15 dX9_addFrom_69 ?_
    refine lv_lload_n X.1 X.2.1 dX9_addFrom_72 rfl (lv_at hl 3 rfl) ?_
    refine lv_l2i X.1 X.2.1 dX9_addFrom_73 rfl ?_
    refine lv_lload X.1 X.2.1 dX9_addFrom_74 (lv_at hl 2 rfl) ?_
    refine lv_l2i X.1 X.2.1 dX9_addFrom_76 rfl ?_
    refine lv_lload X.1 X.2.1 dX9_addFrom_77 (lv_at hl 1 rfl) ?_
    refine lv_l2i X.1 X.2.1 dX9_addFrom_79 rfl ?_
    refine lv_lload X.1 X.2.1 dX9_addFrom_80 (lv_at hl 0 rfl) ?_
    refine lv_l2i X.1 X.2.1 dX9_addFrom_82 rfl ?_
    replace hm := ob_e hm
    obtain ⟨⟨r_13, b_14⟩, h_12, hm⟩ := hm
    replace hm := un_e hm
    refine k_Vi (k := 1) (As := [.int r_2.toInt32, .int r_4.toInt32, .int r_6.toInt32, .int r_8.toInt32]) X hl.1 hw (c_X2_addLink h_12) (by decide) (he_X2 g h _ _) rfl ⟨wq_8_5, wq_8_6, wq_8_7, wq_1_14, wq_8_8⟩ yo_X2_addLink rfl ⟨Nat.le_of_ble_eq_true rfl, Nat.le_of_ble_eq_true rfl⟩ (Nat.le_of_ble_eq_true rfl) dX9_addFrom_83 (fun H locs hw => ?_)
    refine lv_pop X.1 X.2.1 dX9_addFrom_86 rfl ?_
    refine lv_iconst (v := 1) X.1 X.2.1 dX9_addFrom_87 (by decide) ?_
    obtain ⟨rfl, rfl⟩ := Prod.mk.inj (Option.some.inj hm)
    exact hret _ _ _ _ hw dX9_addFrom_88 (Or.inr rfl)
  · replace hm := it_p hm c_11
    refine lv_iconst (v := 0) X.1 X.2.1 dX9_addFrom_66 (by decide) ?_
    obtain ⟨rfl, rfl⟩ := Prod.mk.inj (Option.some.inj hm)
    exact hret _ _ _ _ hw dX9_addFrom_67 (Or.inl rfl)
def m_X9_read_L29 (x1 : Int32) (x_9 : Int32) (σ : Int32 × ST) : Option ((Int32 × ST) ⊕ (Int32 × ST)) := (fun (q_35 : Int32 × ST) => un q_35 (fun y_10 b_11 => if x_9 ≤ y_10 then some (.inr (y_10, b_11)) else Option.bind (m_X2_hasRoom b_11) (fun (r_25 : Int32) => if r_25 = 0 then some (.inr (y_10, b_11)) else Option.bind (m_X9_addFrom b_11 x1 (((4 : Int32) * y_10))) (fun (q_31 : Int32 × ST) => un q_31 (fun r_29 b_30 => if r_29 = 0 then some (.inr (y_10, b_30)) else lt (y_10 + 1) (fun x_34 => some (.inl (x_34, b_30)))))))) σ
def m_X9_read (b : ST) (x1 : Int32) : Option (Int32 × ST) := Option.bind (m_X7_refusalOf b x1) (fun (q_4 : Int32 × ST) => un q_4 (fun r_2 b_3 => if r_2 = 0 then Option.bind (m_X7_sizeOf b_3 x1) (fun (r_7 : Int32) => gd (¬ (4 : Int32) = 0) (lt (r_7 / (4 : Int32)) (fun x_9 => Option.bind (vLoop (m_X9_read_L29 x1 x_9) FUEL ((0 : Int32), b_3)) (fun (q_36 : Int32 × ST) => un q_36 (fun j_12 b_13 => some (j_12, b_13)))))) else some (r_2, b_3)))
theorem yo_X9_read : yX9_read.cls = RX9 ∧ yX9_read.cls ≠ "java/lang/invoke/MethodHandle" ∧ yX9_read.cls ≠ "java/lang/invoke/VarHandle" ∧ (parseMethodDescriptor yX9_read.desc).map (fun d => d.parameters.length) = some 1 := by decide +kernel
set_option maxHeartbeats 4000000 in
set_option maxRecDepth 100000 in
theorem c_X9_read {l : Launch} {g : gT} {h : Nat → Nat} {b : ST} {w : Nat → ST} {x1 : Int32} {r : Int32} {b' : ST} (hm : m_X9_read b x1 = some (r, b')) : MetI l g yX9_read cX9_read 5 (some .int) 6 137 79 h (cC g h (b, w)) (cC g h (b', w)) [.ref (h 0), .int x1] r := by
  refine MetI.ofX (by decide +kernel) (Nat.le_of_ble_eq_true rfl) ?_
  intro p e s m below meth c AV Q X hret ls hw hl
  replace X : Cx g p s m AV c cX9_read RX9 5 := X
  replace hl : lv_has ls 5 [(0, .ref (h 0)), (1, .int x1)] := hl
  unfold m_X9_read at hm
  refine lv_aload_n X.1 X.2.1 dX9_read_0 rfl (lv_at hl 0 rfl) ?_
  refine gX9_sheets X hw wq_2_15 dX9_read_1 ?_
  refine lv_iload_n X.1 X.2.1 dX9_read_4 rfl (lv_at hl 1 rfl) ?_
  replace hm := ob_e hm
  obtain ⟨⟨r_2, b_3⟩, h_1, hm⟩ := hm
  replace hm := un_e hm
  refine k_Vi (k := 18) (As := [.int x1]) X hl.1 hw (c_X7_refusalOf h_1) (by decide) (he_X7 g h _ _) rfl ⟨wq_48_1, wq_48_2, wq_48_3, wq_2_14, wq_48_4⟩ yo_X7_refusalOf rfl ⟨Nat.le_of_ble_eq_true rfl, Nat.le_of_ble_eq_true rfl⟩ (Nat.le_of_ble_eq_true rfl) dX9_read_5 (fun H locs hw => ?_)
  refine lv_istore_n (lv' := [(2, .int r_2), (0, .ref (h 0)), (1, .int x1)]) X.1 X.2.1 dX9_read_8 rfl hl (by decide) rfl (fun ls hl => ?_)
  refine lv_iload_n X.1 X.2.1 dX9_read_9 rfl (lv_at hl 0 rfl) ?_
  refine lv_if_eq (tgt := 15) X.1 X.2.1 dX9_read_10 (by decide) (fun c_5 => ?_) (fun c_5 => ?_)
  · replace hm := it_p hm c_5
    refine lv_aload_n X.1 X.2.1 dX9_read_15 rfl (lv_at hl 1 rfl) ?_
    refine gX9_sheets X hw wq_2_15 dX9_read_16 ?_
    refine lv_iload_n X.1 X.2.1 dX9_read_19 rfl (lv_at hl 2 rfl) ?_
    replace hm := ob_e hm
    obtain ⟨r_7, h_6, hm⟩ := hm
    refine k_Vi (k := 18) (As := [.int x1]) X hl.1 hw (c_X7_sizeOf h_6) (by decide) (he_X7 g h _ _) rfl ⟨wq_51_13, wq_48_15, wq_48_16, wq_2_14, wq_48_17⟩ yo_X7_sizeOf rfl ⟨Nat.le_of_ble_eq_true rfl, Nat.le_of_ble_eq_true rfl⟩ (Nat.le_of_ble_eq_true rfl) dX9_read_20 (fun H locs hw => ?_)
    refine lv_iconst (v := 4) X.1 X.2.1 dX9_read_23 (by decide) ?_
    replace hm := gd_e hm
    obtain ⟨g_8, hm⟩ := hm
    refine lv_idiv X.1 X.2.1 dX9_read_24 g_8 ?_
    refine lv_topi (fun x_9 ex_9 => ?_)
    replace hm := lt_e hm ex_9
    refine lv_istore_n (lv' := [(3, .int x_9), (2, .int r_2), (0, .ref (h 0)), (1, .int x1)]) X.1 X.2.1 dX9_read_25 rfl hl (by decide) rfl (fun ls hl => ?_)
    refine lv_iconst (v := 0) X.1 X.2.1 dX9_read_26 (by decide) ?_
    refine lv_istore (lv' := [(4, .int (0 : Int32)), (3, .int x_9), (2, .int r_2), (0, .ref (h 0)), (1, .int x1)]) X.1 X.2.1 dX9_read_27 hl (by decide) rfl (fun ls hl => ?_)
    replace hm := ob_e hm
    obtain ⟨⟨j_12, b_13⟩, hL_20, hm⟩ := hm
    replace hm := un_e hm
    have J_19 : ∀ (H : Heap) (locs : List Loc) (ls : Array Slot), Wd g 79 h (cC g h (b_13, w)) s H locs → lv_has ls 5 [(4, .int j_12)] → W p l e (rW 6 137) s m AV below meth c H locs 0 0 Q (F0 m 63 ls []) := by
      intro H locs ls hw hl
      refine lv_iload X.1 X.2.1 dX9_read_63 (lv_at hl 0 rfl) ?_
      obtain ⟨rfl, rfl⟩ := Prod.mk.inj (Option.some.inj hm)
      exact hret _ _ _ _ hw dX9_read_65
    refine vLoop_ind (B := (m_X9_read_L29 x1 x_9)) (fun σ => ∀ (H : Heap) (locs : List Loc) (ls : Array Slot), Wd g 79 h (cC g h (σ.2, w)) s H locs → lv_has ls 5 [(0, .ref (h 0)), (1, .int x1), (3, .int x_9), (4, .int σ.1)] → W p l e (rW 6 137) s m AV below meth c H locs 0 0 Q (F0 m 29 ls [])) (fun z' => z' = (j_12, b_13)) ?_ FUEL _ _ hL_20 rfl _ _ _ hw (lv_sub hl [3, 4, 1, 0] rfl)
    intro σ z_18 hz_15 hn_16 hx_17
    obtain ⟨y_10, b_11⟩ := σ
    intro H locs ls hw hl
    replace hw : Wd g 79 h (cC g h (b_11, w)) s H locs := hw
    replace hl : lv_has ls 5 [(0, .ref (h 0)), (1, .int x1), (3, .int x_9), (4, .int y_10)] := hl
    unfold m_X9_read_L29 at hz_15
    replace hz_15 := un_e hz_15
    refine lv_iload X.1 X.2.1 dX9_read_29 (lv_at hl 3 rfl) ?_
    refine lv_iload_n X.1 X.2.1 dX9_read_31 rfl (lv_at hl 2 rfl) ?_
    refine lv_icmp_ge (tgt := 63) X.1 X.2.1 dX9_read_32 (by decide) (fun c_22 => ?_) (fun c_22 => ?_)
    · replace hz_15 := it_p hz_15 c_22
      obtain ⟨rfl, rfl⟩ := Prod.mk.inj (hx_17 _ (Option.some.inj hz_15).symm)
      exact J_19 _ _ _ hw (lv_sub hl [3] rfl)
    · replace hz_15 := it_n hz_15 c_22
      refine lv_aload_n X.1 X.2.1 dX9_read_35 rfl (lv_at hl 0 rfl) ?_
      refine gX9_net X hw wq_1_15 dX9_read_36 ?_
      replace hz_15 := ob_e hz_15
      obtain ⟨r_25, h_24, hz_15⟩ := hz_15
      refine k_Vi (k := 1) (As := []) X hl.1 hw (c_X2_hasRoom h_24) (by decide) (he_X2 g h _ _) rfl ⟨wq_8_1, wq_8_2, wq_8_3, wq_1_14, wq_8_4⟩ yo_X2_hasRoom rfl ⟨Nat.le_of_ble_eq_true rfl, Nat.le_of_ble_eq_true rfl⟩ (Nat.le_of_ble_eq_true rfl) dX9_read_39 (fun H locs hw => ?_)
      refine lv_if_eq (tgt := 63) X.1 X.2.1 dX9_read_42 (by decide) (fun c_26 => ?_) (fun c_26 => ?_)
      · replace hz_15 := it_p hz_15 c_26
        obtain ⟨rfl, rfl⟩ := Prod.mk.inj (hx_17 _ (Option.some.inj hz_15).symm)
        exact J_19 _ _ _ hw (lv_sub hl [3] rfl)
      · replace hz_15 := it_n hz_15 c_26
        refine lv_aload_n X.1 X.2.1 dX9_read_45 rfl (lv_at hl 0 rfl) ?_
        refine lv_iload_n X.1 X.2.1 dX9_read_46 rfl (lv_at hl 1 rfl) ?_
        refine lv_iconst (v := 4) X.1 X.2.1 dX9_read_47 (by decide) ?_
        refine lv_iload X.1 X.2.1 dX9_read_48 (lv_at hl 3 rfl) ?_
        refine lv_imul X.1 X.2.1 dX9_read_50 ?_
        replace hz_15 := ob_e hz_15
        obtain ⟨⟨r_29, b_30⟩, h_28, hz_15⟩ := hz_15
        replace hz_15 := un_e hz_15
        refine k_Vi (k := 0) (As := [.int x1, .int ((4 : Int32) * y_10)]) X hl.1 hw (c_X9_addFrom h_28) (by decide) (he_X9 g h _ _) rfl ⟨wq_51_14, wq_51_15, wq_51_16, wq_1_2, wq_51_17⟩ yo_X9_addFrom rfl ⟨Nat.le_of_ble_eq_true rfl, Nat.le_of_ble_eq_true rfl⟩ (Nat.le_of_ble_eq_true rfl) dX9_read_51 (fun H locs hw => ?_)
        refine lv_if_eq (tgt := 63) X.1 X.2.1 dX9_read_54 (by decide) (fun c_32 => ?_) (fun c_32 => ?_)
        · replace hz_15 := it_p hz_15 c_32
          obtain ⟨rfl, rfl⟩ := Prod.mk.inj (hx_17 _ (Option.some.inj hz_15).symm)
          exact J_19 _ _ _ hw (lv_sub hl [3] rfl)
        · replace hz_15 := it_n hz_15 c_32
          obtain ⟨x_34, ex_34⟩ : ∃ y : Int32, y = y_10 + 1 := ⟨_, rfl⟩
          replace hz_15 := lt_e hz_15 ex_34
          refine lv_iinc (v := x_34) (lv' := [(4, .int x_34), (0, .ref (h 0)), (1, .int x1), (3, .int x_9)]) X.1 X.2.1 dX9_read_57 hl (k := 3) rfl (by rw [ex_34]; rfl) (by decide) rfl (fun ls hl => ?_)
          refine lv_goto (tgt := 29) X.1 X.2.1 dX9_read_60 (by decide) ?_
          exact hn_16 _ (Option.some.inj hz_15).symm _ _ _ hw (lv_sub hl [1, 2, 3, 0] rfl)
  · replace hm := it_n hm c_5
    refine lv_iload_n X.1 X.2.1 dX9_read_13 rfl (lv_at hl 0 rfl) ?_
    obtain ⟨rfl, rfl⟩ := Prod.mk.inj (Option.some.inj hm)
    exact hret _ _ _ _ hw dX9_read_14
def m_X9_write_L46 (x1 : Int32) (x_10 : Int32) (σ : Int32 × ST) : Option ((Int32 × ST) ⊕ (ST)) := (fun (q_34 : Int32 × ST) => un q_34 (fun y_13 b_14 => if x_10 ≤ y_13 then some (.inr b_14) else gd (¬ (2 : Int32) = 0) (Option.bind (m_X3_worthParts b_14 ((y_13 / (2 : Int32)))) (fun (r_27 : Int64) => gd (¬ (2 : Int32) = 0) (Option.bind (m_X3_told b_14 r_27 ((y_13 - y_13 / (2 : Int32) * (2 : Int32)))) (fun (r_30 : Int64) => Option.bind (m_X7_put b_14 x1 y_13 r_30) (fun (b_32 : ST) => lt (y_13 + 1) (fun x_33 => some (.inl (x_33, b_32)))))))))) σ
def m_X9_write (b : ST) (x1 : Int32) : Option (Int32 × ST) := Option.bind (m_X7_refusalOf b x1) (fun (q_4 : Int32 × ST) => un q_4 (fun r_2 b_3 => if r_2 = 0 then Option.bind (m_X7_sizeOf b_3 x1) (fun (r_7 : Int32) => Option.bind (m_X2_linkCount b_3) (fun (r_9 : Int32) => lt (if ((2 : Int32) * r_9) < r_7 then ((2 : Int32) * r_9) else r_7) (fun x_10 => Option.bind (m_X3_fill b_3) (fun (b_12 : ST) => Option.bind (vLoop (m_X9_write_L46 x1 x_10) FUEL ((0 : Int32), b_12)) (fun (b_15 : ST) => some (x_10, b_15)))))) else some (r_2, b_3)))
theorem yo_X9_write : yX9_write.cls = RX9 ∧ yX9_write.cls ≠ "java/lang/invoke/MethodHandle" ∧ yX9_write.cls ≠ "java/lang/invoke/VarHandle" ∧ (parseMethodDescriptor yX9_write.desc).map (fun d => d.parameters.length) = some 1 := by decide +kernel
set_option maxHeartbeats 4000000 in
set_option maxRecDepth 100000 in
theorem c_X9_write {l : Launch} {g : gT} {h : Nat → Nat} {b : ST} {w : Nat → ST} {x1 : Int32} {r : Int32} {b' : ST} (hm : m_X9_write b x1 = some (r, b')) : MetI l g yX9_write cX9_write 5 (some .int) 5 109 79 h (cC g h (b, w)) (cC g h (b', w)) [.ref (h 0), .int x1] r := by
  refine MetI.ofX (by decide +kernel) (Nat.le_of_ble_eq_true rfl) ?_
  intro p e s m below meth c AV Q X hret ls hw hl
  replace X : Cx g p s m AV c cX9_write RX9 5 := X
  replace hl : lv_has ls 5 [(0, .ref (h 0)), (1, .int x1)] := hl
  unfold m_X9_write at hm
  refine lv_aload_n X.1 X.2.1 dX9_write_0 rfl (lv_at hl 0 rfl) ?_
  refine gX9_sheets X hw wq_2_15 dX9_write_1 ?_
  refine lv_iload_n X.1 X.2.1 dX9_write_4 rfl (lv_at hl 1 rfl) ?_
  replace hm := ob_e hm
  obtain ⟨⟨r_2, b_3⟩, h_1, hm⟩ := hm
  replace hm := un_e hm
  refine k_Vi (k := 18) (As := [.int x1]) X hl.1 hw (c_X7_refusalOf h_1) (by decide) (he_X7 g h _ _) rfl ⟨wq_48_1, wq_48_2, wq_48_3, wq_2_14, wq_48_4⟩ yo_X7_refusalOf rfl ⟨Nat.le_of_ble_eq_true rfl, Nat.le_of_ble_eq_true rfl⟩ (Nat.le_of_ble_eq_true rfl) dX9_write_5 (fun H locs hw => ?_)
  refine lv_istore_n (lv' := [(2, .int r_2), (0, .ref (h 0)), (1, .int x1)]) X.1 X.2.1 dX9_write_8 rfl hl (by decide) rfl (fun ls hl => ?_)
  refine lv_iload_n X.1 X.2.1 dX9_write_9 rfl (lv_at hl 0 rfl) ?_
  refine lv_if_eq (tgt := 15) X.1 X.2.1 dX9_write_10 (by decide) (fun c_5 => ?_) (fun c_5 => ?_)
  · replace hm := it_p hm c_5
    refine lv_aload_n X.1 X.2.1 dX9_write_15 rfl (lv_at hl 1 rfl) ?_
    refine gX9_sheets X hw wq_2_15 dX9_write_16 ?_
    refine lv_iload_n X.1 X.2.1 dX9_write_19 rfl (lv_at hl 2 rfl) ?_
    replace hm := ob_e hm
    obtain ⟨r_7, h_6, hm⟩ := hm
    refine k_Vi (k := 18) (As := [.int x1]) X hl.1 hw (c_X7_sizeOf h_6) (by decide) (he_X7 g h _ _) rfl ⟨wq_51_13, wq_48_15, wq_48_16, wq_2_14, wq_48_17⟩ yo_X7_sizeOf rfl ⟨Nat.le_of_ble_eq_true rfl, Nat.le_of_ble_eq_true rfl⟩ (Nat.le_of_ble_eq_true rfl) dX9_write_20 (fun H locs hw => ?_)
    refine lv_iconst (v := 2) X.1 X.2.1 dX9_write_23 (by decide) ?_
    refine lv_aload_n X.1 X.2.1 dX9_write_24 rfl (lv_at hl 1 rfl) ?_
    refine gX9_net X hw wq_1_15 dX9_write_25 ?_
    replace hm := ob_e hm
    obtain ⟨r_9, h_8, hm⟩ := hm
    refine k_Vi (k := 1) (As := []) X hl.1 hw (c_X2_linkCount h_8) (by decide) (he_X2 g h _ _) rfl ⟨wq_10_14, wq_10_15, wq_10_16, wq_1_14, wq_10_17⟩ yo_X2_linkCount rfl ⟨Nat.le_of_ble_eq_true rfl, Nat.le_of_ble_eq_true rfl⟩ (Nat.le_of_ble_eq_true rfl) dX9_write_28 (fun H locs hw => ?_)
    refine lv_imul X.1 X.2.1 dX9_write_31 ?_
    refine x_min (ws' := []) X hl.1 wq_52_2 (Nat.le_of_ble_eq_true rfl) (Nat.le_of_ble_eq_true rfl) dX9_write_32 wq_8_10 wq_8_11 wq_8_12 ?_
    refine lv_topi (fun x_10 ex_10 => ?_)
    replace hm := lt_e hm ex_10
    refine lv_istore_n (lv' := [(3, .int x_10), (2, .int r_2), (0, .ref (h 0)), (1, .int x1)]) X.1 X.2.1 dX9_write_35 rfl hl (by decide) rfl (fun ls hl => ?_)
    refine lv_aload_n X.1 X.2.1 dX9_write_36 rfl (lv_at hl 2 rfl) ?_
    refine gX9_odds X hw wq_1_19 dX9_write_37 ?_
    replace hm := ob_e hm
    obtain ⟨b_12, h_11, hm⟩ := hm
    refine k_Vv (k := 8) (As := []) X hl.1 hw (c_X3_fill h_11) (by decide) (he_X3 g h _ _) rfl ⟨wq_15_11, wq_15_12, wq_15_13, wq_1_18, wq_15_14⟩ yo_X3_fill rfl ⟨Nat.le_of_ble_eq_true rfl, Nat.le_of_ble_eq_true rfl⟩ (Nat.le_of_ble_eq_true rfl) dX9_write_40 (fun H locs hw => ?_)
    refine lv_iconst (v := 0) X.1 X.2.1 dX9_write_43 (by decide) ?_
    refine lv_istore (lv' := [(4, .int (0 : Int32)), (3, .int x_10), (2, .int r_2), (0, .ref (h 0)), (1, .int x1)]) X.1 X.2.1 dX9_write_44 hl (by decide) rfl (fun ls hl => ?_)
    replace hm := ob_e hm
    obtain ⟨b_15, hL_22, hm⟩ := hm
    have J_21 : ∀ (H : Heap) (locs : List Loc) (ls : Array Slot), Wd g 79 h (cC g h (b_15, w)) s H locs → lv_has ls 5 [(3, .int x_10)] → W p l e (rW 5 109) s m AV below meth c H locs 0 0 Q (F0 m 90 ls []) := by
      intro H locs ls hw hl
      refine lv_iload_n X.1 X.2.1 dX9_write_90 rfl (lv_at hl 0 rfl) ?_
      obtain ⟨rfl, rfl⟩ := Prod.mk.inj (Option.some.inj hm)
      exact hret _ _ _ _ hw dX9_write_91
    refine vLoop_ind (B := (m_X9_write_L46 x1 x_10)) (fun σ => ∀ (H : Heap) (locs : List Loc) (ls : Array Slot), Wd g 79 h (cC g h (σ.2, w)) s H locs → lv_has ls 5 [(0, .ref (h 0)), (1, .int x1), (3, .int x_10), (4, .int σ.1)] → W p l e (rW 5 109) s m AV below meth c H locs 0 0 Q (F0 m 46 ls [])) (fun z' => z' = b_15) ?_ FUEL _ _ hL_22 rfl _ _ _ hw (lv_sub hl [3, 4, 1, 0] rfl)
    intro σ z_20 hz_17 hn_18 hx_19
    obtain ⟨y_13, b_14⟩ := σ
    intro H locs ls hw hl
    replace hw : Wd g 79 h (cC g h (b_14, w)) s H locs := hw
    replace hl : lv_has ls 5 [(0, .ref (h 0)), (1, .int x1), (3, .int x_10), (4, .int y_13)] := hl
    unfold m_X9_write_L46 at hz_17
    replace hz_17 := un_e hz_17
    refine lv_iload X.1 X.2.1 dX9_write_46 (lv_at hl 3 rfl) ?_
    refine lv_iload_n X.1 X.2.1 dX9_write_48 rfl (lv_at hl 2 rfl) ?_
    refine lv_icmp_ge (tgt := 90) X.1 X.2.1 dX9_write_49 (by decide) (fun c_24 => ?_) (fun c_24 => ?_)
    · replace hz_17 := it_p hz_17 c_24
      obtain rfl := hx_19 _ (Option.some.inj hz_17).symm
      exact J_21 _ _ _ hw (lv_sub hl [2] rfl)
    · replace hz_17 := it_n hz_17 c_24
      refine lv_aload_n X.1 X.2.1 dX9_write_52 rfl (lv_at hl 0 rfl) ?_
      refine gX9_sheets X hw wq_2_15 dX9_write_53 ?_
      refine lv_iload_n X.1 X.2.1 dX9_write_56 rfl (lv_at hl 1 rfl) ?_
      refine lv_iload X.1 X.2.1 dX9_write_57 (lv_at hl 3 rfl) ?_
      refine lv_aload_n X.1 X.2.1 dX9_write_59 rfl (lv_at hl 0 rfl) ?_
      refine gX9_odds X hw wq_1_19 dX9_write_60 ?_
      refine lv_aload_n X.1 X.2.1 dX9_write_63 rfl (lv_at hl 0 rfl) ?_
      refine gX9_odds X hw wq_1_19 dX9_write_64 ?_
      refine lv_iload X.1 X.2.1 dX9_write_67 (lv_at hl 3 rfl) ?_
      refine lv_iconst (v := 2) X.1 X.2.1 dX9_write_69 (by decide) ?_
      replace hz_17 := gd_e hz_17
      obtain ⟨g_25, hz_17⟩ := hz_17
      refine lv_idiv X.1 X.2.1 dX9_write_70 g_25 ?_
      replace hz_17 := ob_e hz_17
      obtain ⟨r_27, h_26, hz_17⟩ := hz_17
      refine k_Vl (k := 8) (As := [.int (y_13 / (2 : Int32))]) X hl.1 hw (c_X3_worthParts h_26) (by decide) (he_X3 g h _ _) rfl ⟨wq_37_14, wq_37_15, wq_37_16, wq_1_18, wq_37_17⟩ yo_X3_worthParts rfl ⟨Nat.le_of_ble_eq_true rfl, Nat.le_of_ble_eq_true rfl⟩ (Nat.le_of_ble_eq_true rfl) dX9_write_71 (fun H locs hw => ?_)
      refine lv_iload X.1 X.2.1 dX9_write_74 (lv_at hl 3 rfl) ?_
      refine lv_iconst (v := 2) X.1 X.2.1 dX9_write_76 (by decide) ?_
      replace hz_17 := gd_e hz_17
      obtain ⟨g_28, hz_17⟩ := hz_17
      refine lv_irem X.1 X.2.1 dX9_write_77 g_28 ?_
      replace hz_17 := ob_e hz_17
      obtain ⟨r_30, h_29, hz_17⟩ := hz_17
      refine k_Vl (k := 8) (As := [.long r_27, .int (y_13 - y_13 / (2 : Int32) * (2 : Int32))]) X hl.1 hw (c_X3_told h_29) (by decide) (he_X3 g h _ _) rfl ⟨wq_17_7, wq_17_8, wq_17_9, wq_1_18, wq_17_10⟩ yo_X3_told rfl ⟨Nat.le_of_ble_eq_true rfl, Nat.le_of_ble_eq_true rfl⟩ (Nat.le_of_ble_eq_true rfl) dX9_write_78 (fun H locs hw => ?_)
      replace hz_17 := ob_e hz_17
      obtain ⟨b_32, h_31, hz_17⟩ := hz_17
      refine k_Vv (k := 18) (As := [.int x1, .int y_13, .long r_30]) X hl.1 hw (c_X7_put h_31) (by decide) (he_X7 g h _ _) rfl ⟨wq_49_11, wq_49_12, wq_49_13, wq_2_14, wq_49_14⟩ yo_X7_put rfl ⟨Nat.le_of_ble_eq_true rfl, Nat.le_of_ble_eq_true rfl⟩ (Nat.le_of_ble_eq_true rfl) dX9_write_81 (fun H locs hw => ?_)
      obtain ⟨x_33, ex_33⟩ : ∃ y : Int32, y = y_13 + 1 := ⟨_, rfl⟩
      replace hz_17 := lt_e hz_17 ex_33
      refine lv_iinc (v := x_33) (lv' := [(4, .int x_33), (0, .ref (h 0)), (1, .int x1), (3, .int x_10)]) X.1 X.2.1 dX9_write_84 hl (k := 3) rfl (by rw [ex_33]; rfl) (by decide) rfl (fun ls hl => ?_)
      refine lv_goto (tgt := 46) X.1 X.2.1 dX9_write_87 (by decide) ?_
      exact hn_18 _ (Option.some.inj hz_17).symm _ _ _ hw (lv_sub hl [1, 2, 3, 0] rfl)
  · replace hm := it_n hm c_5
    refine lv_iload_n X.1 X.2.1 dX9_write_13 rfl (lv_at hl 0 rfl) ?_
    obtain ⟨rfl, rfl⟩ := Prod.mk.inj (Option.some.inj hm)
    exact hret _ _ _ _ hw dX9_write_14
def m_X9_count (b : ST) (x1 : Int32) : Option (Int32) := if x1 = 0 then Option.bind (m_X2_stationCount b) (fun (r_3 : Int32) => some r_3) else (if x1 = 1 then Option.bind (m_X2_linkCount b) (fun (r_6 : Int32) => some r_6) else (if x1 = 2 then Option.bind (m_X2_sourceStation b) (fun (r_9 : Int32) => some r_9) else (if x1 = 3 then Option.bind (m_X2_goalBits b) (fun (r_12 : Int32) => some r_12) else (if x1 = 4 then Option.bind (m_X2_wantedStations b) (fun (r_15 : Int32) => Option.bind (m_J6_bitCount_0f7a4 r_15) (fun (r_17 : Int32) => some r_17)) else (if x1 = 5 then Option.bind (m_X2_linksSeen b (0 : Int32)) (fun (r_20 : Int32) => Option.bind (m_J6_bitCount_0f7a4 r_20) (fun (r_22 : Int32) => some r_22)) else (if x1 = 6 then Option.bind (m_X2_allLinks b) (fun (r_25 : Int32) => Option.bind (m_X2_linksSeen b (2 : Int32)) (fun (r_27 : Int32) => Option.bind (m_X2_reaches b ((r_25 &&& (r_27 ^^^ (-1 : Int32))))) (fun (r_29 : Int32) => if r_29 = 0 then some (0 : Int32) else some (1 : Int32)))) else (if x1 = 7 then Option.bind (m_X4_length b) (fun (r_33 : Int32) => some r_33) else (if x1 = 8 then Option.bind (m_X7_latestFinding b) (fun (r_36 : Int32) => some r_36) else (some (-2 : Int32))))))))))
theorem yo_X9_count : yX9_count.cls = RX9 ∧ yX9_count.cls ≠ "java/lang/invoke/MethodHandle" ∧ yX9_count.cls ≠ "java/lang/invoke/VarHandle" ∧ (parseMethodDescriptor yX9_count.desc).map (fun d => d.parameters.length) = some 1 := by decide +kernel
set_option maxHeartbeats 4000000 in
set_option maxRecDepth 100000 in
theorem c_X9_count {l : Launch} {g : gT} {h : Nat → Nat} {b : ST} {w : Nat → ST} {x1 : Int32} {r : Int32} (hm : m_X9_count b x1 = some r) : MetI l g yX9_count cX9_count 2 (some .int) 3 65 79 h (cC g h (b, w)) (cC g h (b, w)) [.ref (h 0), .int x1] r := by
  refine MetI.ofX (by decide +kernel) (Nat.le_of_ble_eq_true rfl) ?_
  intro p e s m below meth c AV Q X hret ls hw hl
  replace X : Cx g p s m AV c cX9_count RX9 2 := X
  replace hl : lv_has ls 2 [(0, .ref (h 0)), (1, .int x1)] := hl
  unfold m_X9_count at hm
  refine lv_iload_n X.1 X.2.1 dX9_count_0 rfl (lv_at hl 1 rfl) ?_
  by_cases c_1 : x1 = 0
  · replace hm := it_p hm c_1
    refine x_tab X c_1 dX9_count_1 (off := 51) (tgt := 52) (by decide) (by decide) rfl (by decide) ?_
    refine lv_aload_n X.1 X.2.1 dX9_count_52 rfl (lv_at hl 0 rfl) ?_
    refine gX9_net X hw wq_1_15 dX9_count_53 ?_
    replace hm := ob_e hm
    obtain ⟨r_3, h_2, hm⟩ := hm
    refine k_Vi (k := 1) (As := []) X hl.1 hw (c_X2_stationCount h_2) (by decide) (he_X2 g h _ _) rfl ⟨wq_6_9, wq_6_10, wq_6_11, wq_1_14, wq_6_12⟩ yo_X2_stationCount rfl ⟨Nat.le_of_ble_eq_true rfl, Nat.le_of_ble_eq_true rfl⟩ (Nat.le_of_ble_eq_true rfl) dX9_count_56 (fun H locs hw => ?_)
    obtain rfl := Option.some.inj hm
    exact hret _ _ _ _ hw dX9_count_59
  · replace hm := it_n hm c_1
    by_cases c_4 : x1 = 1
    · replace hm := it_p hm c_4
      refine x_tab X c_4 dX9_count_1 (off := 59) (tgt := 60) (by decide) (by decide) rfl (by decide) ?_
      refine lv_aload_n X.1 X.2.1 dX9_count_60 rfl (lv_at hl 0 rfl) ?_
      refine gX9_net X hw wq_1_15 dX9_count_61 ?_
      replace hm := ob_e hm
      obtain ⟨r_6, h_5, hm⟩ := hm
      refine k_Vi (k := 1) (As := []) X hl.1 hw (c_X2_linkCount h_5) (by decide) (he_X2 g h _ _) rfl ⟨wq_10_14, wq_10_15, wq_10_16, wq_1_14, wq_10_17⟩ yo_X2_linkCount rfl ⟨Nat.le_of_ble_eq_true rfl, Nat.le_of_ble_eq_true rfl⟩ (Nat.le_of_ble_eq_true rfl) dX9_count_64 (fun H locs hw => ?_)
      obtain rfl := Option.some.inj hm
      exact hret _ _ _ _ hw dX9_count_67
    · replace hm := it_n hm c_4
      by_cases c_7 : x1 = 2
      · replace hm := it_p hm c_7
        refine x_tab X c_7 dX9_count_1 (off := 67) (tgt := 68) (by decide) (by decide) rfl (by decide) ?_
        refine lv_aload_n X.1 X.2.1 dX9_count_68 rfl (lv_at hl 0 rfl) ?_
        refine gX9_net X hw wq_1_15 dX9_count_69 ?_
        replace hm := ob_e hm
        obtain ⟨r_9, h_8, hm⟩ := hm
        refine k_Vi (k := 1) (As := []) X hl.1 hw (c_X2_sourceStation h_8) (by decide) (he_X2 g h _ _) rfl ⟨wq_13_1, wq_13_2, wq_13_3, wq_1_14, wq_13_4⟩ yo_X2_sourceStation rfl ⟨Nat.le_of_ble_eq_true rfl, Nat.le_of_ble_eq_true rfl⟩ (Nat.le_of_ble_eq_true rfl) dX9_count_72 (fun H locs hw => ?_)
        obtain rfl := Option.some.inj hm
        exact hret _ _ _ _ hw dX9_count_75
      · replace hm := it_n hm c_7
        by_cases c_10 : x1 = 3
        · replace hm := it_p hm c_10
          refine x_tab X c_10 dX9_count_1 (off := 75) (tgt := 76) (by decide) (by decide) rfl (by decide) ?_
          refine lv_aload_n X.1 X.2.1 dX9_count_76 rfl (lv_at hl 0 rfl) ?_
          refine gX9_net X hw wq_1_15 dX9_count_77 ?_
          replace hm := ob_e hm
          obtain ⟨r_12, h_11, hm⟩ := hm
          refine k_Vi (k := 1) (As := []) X hl.1 hw (c_X2_goalBits h_11) (by decide) (he_X2 g h _ _) rfl ⟨wq_13_21, wq_13_22, wq_13_23, wq_1_14, wq_14_0⟩ yo_X2_goalBits rfl ⟨Nat.le_of_ble_eq_true rfl, Nat.le_of_ble_eq_true rfl⟩ (Nat.le_of_ble_eq_true rfl) dX9_count_80 (fun H locs hw => ?_)
          obtain rfl := Option.some.inj hm
          exact hret _ _ _ _ hw dX9_count_83
        · replace hm := it_n hm c_10
          by_cases c_13 : x1 = 4
          · replace hm := it_p hm c_13
            refine x_tab X c_13 dX9_count_1 (off := 83) (tgt := 84) (by decide) (by decide) rfl (by decide) ?_
            refine lv_aload_n X.1 X.2.1 dX9_count_84 rfl (lv_at hl 0 rfl) ?_
            refine gX9_net X hw wq_1_15 dX9_count_85 ?_
            replace hm := ob_e hm
            obtain ⟨r_15, h_14, hm⟩ := hm
            refine k_Vi (k := 1) (As := []) X hl.1 hw (c_X2_wantedStations h_14) (by decide) (he_X2 g h _ _) rfl ⟨wq_52_11, wq_17_0, wq_17_1, wq_1_14, wq_17_2⟩ yo_X2_wantedStations rfl ⟨Nat.le_of_ble_eq_true rfl, Nat.le_of_ble_eq_true rfl⟩ (Nat.le_of_ble_eq_true rfl) dX9_count_88 (fun H locs hw => ?_)
            replace hm := ob_e hm
            obtain ⟨r_17, h_16, hm⟩ := hm
            refine k_Si (As := [.int r_15]) X hl.1 hw (c_J6_bitCount_0f7a4 h_16) ⟨wq_52_12, wq_22_10, wq_22_11, wq_22_12⟩ yo_J6_bitCount_0f7a4 rfl ⟨Nat.le_of_ble_eq_true rfl, Nat.le_of_ble_eq_true rfl⟩ (Nat.le_of_ble_eq_true rfl) dX9_count_91 (fun H locs hw => ?_)
            obtain rfl := Option.some.inj hm
            exact hret _ _ _ _ hw dX9_count_94
          · replace hm := it_n hm c_13
            by_cases c_18 : x1 = 5
            · replace hm := it_p hm c_18
              refine x_tab X c_18 dX9_count_1 (off := 94) (tgt := 95) (by decide) (by decide) rfl (by decide) ?_
              refine lv_aload_n X.1 X.2.1 dX9_count_95 rfl (lv_at hl 0 rfl) ?_
              refine gX9_net X hw wq_1_15 dX9_count_96 ?_
              refine lv_iconst (v := 0) X.1 X.2.1 dX9_count_99 (by decide) ?_
              replace hm := ob_e hm
              obtain ⟨r_20, h_19, hm⟩ := hm
              refine k_Vi (k := 1) (As := [.int (0 : Int32)]) X hl.1 hw (c_X2_linksSeen h_19) (by decide) (he_X2 g h _ _) rfl ⟨wq_52_13, wq_52_14, wq_52_15, wq_1_14, wq_52_16⟩ yo_X2_linksSeen rfl ⟨Nat.le_of_ble_eq_true rfl, Nat.le_of_ble_eq_true rfl⟩ (Nat.le_of_ble_eq_true rfl) dX9_count_100 (fun H locs hw => ?_)
              replace hm := ob_e hm
              obtain ⟨r_22, h_21, hm⟩ := hm
              refine k_Si (As := [.int r_20]) X hl.1 hw (c_J6_bitCount_0f7a4 h_21) ⟨wq_52_12, wq_22_10, wq_22_11, wq_22_12⟩ yo_J6_bitCount_0f7a4 rfl ⟨Nat.le_of_ble_eq_true rfl, Nat.le_of_ble_eq_true rfl⟩ (Nat.le_of_ble_eq_true rfl) dX9_count_103 (fun H locs hw => ?_)
              obtain rfl := Option.some.inj hm
              exact hret _ _ _ _ hw dX9_count_106
            · replace hm := it_n hm c_18
              by_cases c_23 : x1 = 6
              · replace hm := it_p hm c_23
                refine x_tab X c_23 dX9_count_1 (off := 106) (tgt := 107) (by decide) (by decide) rfl (by decide) ?_
                refine lv_aload_n X.1 X.2.1 dX9_count_107 rfl (lv_at hl 0 rfl) ?_
                refine gX9_net X hw wq_1_15 dX9_count_108 ?_
                refine lv_aload_n X.1 X.2.1 dX9_count_111 rfl (lv_at hl 0 rfl) ?_
                refine gX9_net X hw wq_1_15 dX9_count_112 ?_
                replace hm := ob_e hm
                obtain ⟨r_25, h_24, hm⟩ := hm
                refine k_Vi (k := 1) (As := []) X hl.1 hw (c_X2_allLinks h_24) (by decide) (he_X2 g h _ _) rfl ⟨wq_52_17, wq_16_16, wq_16_17, wq_1_14, wq_16_18⟩ yo_X2_allLinks rfl ⟨Nat.le_of_ble_eq_true rfl, Nat.le_of_ble_eq_true rfl⟩ (Nat.le_of_ble_eq_true rfl) dX9_count_115 (fun H locs hw => ?_)
                refine lv_aload_n X.1 X.2.1 dX9_count_118 rfl (lv_at hl 0 rfl) ?_
                refine gX9_net X hw wq_1_15 dX9_count_119 ?_
                refine lv_iconst (v := 2) X.1 X.2.1 dX9_count_122 (by decide) ?_
                replace hm := ob_e hm
                obtain ⟨r_27, h_26, hm⟩ := hm
                refine k_Vi (k := 1) (As := [.int (2 : Int32)]) X hl.1 hw (c_X2_linksSeen h_26) (by decide) (he_X2 g h _ _) rfl ⟨wq_52_13, wq_52_14, wq_52_15, wq_1_14, wq_52_16⟩ yo_X2_linksSeen rfl ⟨Nat.le_of_ble_eq_true rfl, Nat.le_of_ble_eq_true rfl⟩ (Nat.le_of_ble_eq_true rfl) dX9_count_123 (fun H locs hw => ?_)
                refine lv_iconst (v := -1) X.1 X.2.1 dX9_count_126 (by decide) ?_
                refine lv_ixor X.1 X.2.1 dX9_count_127 ?_
                refine lv_iand X.1 X.2.1 dX9_count_128 ?_
                replace hm := ob_e hm
                obtain ⟨r_29, h_28, hm⟩ := hm
                refine k_Vi (k := 1) (As := [.int (r_25 &&& (r_27 ^^^ (-1 : Int32)))]) X hl.1 hw (c_X2_reaches h_28) (by decide) (he_X2 g h _ _) rfl ⟨wq_52_18, wq_16_20, wq_16_21, wq_1_14, wq_16_22⟩ yo_X2_reaches rfl ⟨Nat.le_of_ble_eq_true rfl, Nat.le_of_ble_eq_true rfl⟩ (Nat.le_of_ble_eq_true rfl) dX9_count_129 (fun H locs hw => ?_)
                refine lv_if_eq (tgt := 139) X.1 X.2.1 dX9_count_132 (by decide) (fun c_30 => ?_) (fun c_30 => ?_)
                · replace hm := it_p hm c_30
                  refine lv_iconst (v := 0) X.1 X.2.1 dX9_count_139 (by decide) ?_
                  obtain rfl := Option.some.inj hm
                  exact hret _ _ _ _ hw dX9_count_140
                · replace hm := it_n hm c_30
                  refine lv_iconst (v := 1) X.1 X.2.1 dX9_count_135 (by decide) ?_
                  refine lv_goto (tgt := 140) X.1 X.2.1 dX9_count_136 (by decide) ?_
                  obtain rfl := Option.some.inj hm
                  exact hret _ _ _ _ hw dX9_count_140
              · replace hm := it_n hm c_23
                by_cases c_31 : x1 = 7
                · replace hm := it_p hm c_31
                  refine x_tab X c_31 dX9_count_1 (off := 140) (tgt := 141) (by decide) (by decide) rfl (by decide) ?_
                  refine lv_aload_n X.1 X.2.1 dX9_count_141 rfl (lv_at hl 0 rfl) ?_
                  refine gX9_orders X hw wq_2_11 dX9_count_142 ?_
                  replace hm := ob_e hm
                  obtain ⟨r_33, h_32, hm⟩ := hm
                  refine k_Vi (k := 16) (As := []) X hl.1 hw (c_X4_length h_32) (by decide) (he_X4 g h _ _) rfl ⟨wq_52_19, wq_52_20, wq_52_21, wq_2_10, wq_52_22⟩ yo_X4_length rfl ⟨Nat.le_of_ble_eq_true rfl, Nat.le_of_ble_eq_true rfl⟩ (Nat.le_of_ble_eq_true rfl) dX9_count_145 (fun H locs hw => ?_)
                  obtain rfl := Option.some.inj hm
                  exact hret _ _ _ _ hw dX9_count_148
                · replace hm := it_n hm c_31
                  by_cases c_34 : x1 = 8
                  · replace hm := it_p hm c_34
                    refine x_tab X c_34 dX9_count_1 (off := 148) (tgt := 149) (by decide) (by decide) rfl (by decide) ?_
                    refine lv_aload_n X.1 X.2.1 dX9_count_149 rfl (lv_at hl 0 rfl) ?_
                    refine gX9_sheets X hw wq_2_15 dX9_count_150 ?_
                    replace hm := ob_e hm
                    obtain ⟨r_36, h_35, hm⟩ := hm
                    refine k_Vi (k := 18) (As := []) X hl.1 hw (c_X7_latestFinding h_35) (by decide) (he_X7 g h _ _) rfl ⟨wq_52_23, wq_53_0, wq_53_1, wq_2_14, wq_53_2⟩ yo_X7_latestFinding rfl ⟨Nat.le_of_ble_eq_true rfl, Nat.le_of_ble_eq_true rfl⟩ (Nat.le_of_ble_eq_true rfl) dX9_count_153 (fun H locs hw => ?_)
                    obtain rfl := Option.some.inj hm
                    exact hret _ _ _ _ hw dX9_count_156
                  · replace hm := it_n hm c_34
                    have tc_1 : ¬ x1.toInt = 0 := lv_neT c_1 (k := 0) (by decide)
                    have tc_4 : ¬ x1.toInt = 1 := lv_neT c_4 (k := 1) (by decide)
                    have tc_7 : ¬ x1.toInt = 2 := lv_neT c_7 (k := 2) (by decide)
                    have tc_10 : ¬ x1.toInt = 3 := lv_neT c_10 (k := 3) (by decide)
                    have tc_13 : ¬ x1.toInt = 4 := lv_neT c_13 (k := 4) (by decide)
                    have tc_18 : ¬ x1.toInt = 5 := lv_neT c_18 (k := 5) (by decide)
                    have tc_23 : ¬ x1.toInt = 6 := lv_neT c_23 (k := 6) (by decide)
                    have tc_31 : ¬ x1.toInt = 7 := lv_neT c_31 (k := 7) (by decide)
                    have tc_34 : ¬ x1.toInt = 8 := lv_neT c_34 (k := 8) (by decide)
                    refine lv_tableOut X.1 X.2.1 (tgt := 157) dX9_count_1 (by omega) (by decide) ?_
                    refine lv_bipush (v := -2) X.1 X.2.1 dX9_count_157 (by decide) ?_
                    obtain rfl := Option.some.inj hm
                    exact hret _ _ _ _ hw dX9_count_159
def m_X9_mixed (x0 : Int64) (x2 : Int64) : Option (Int64) := some (((31 : Int64) * x0) + x2)
theorem yo_X9_mixed : yX9_mixed.cls ≠ "java/lang/invoke/MethodHandle" ∧ yX9_mixed.cls ≠ "java/lang/invoke/VarHandle" ∧ (parseMethodDescriptor yX9_mixed.desc).map (fun d => d.parameters.length) = some 2 := by decide +kernel
set_option maxHeartbeats 4000000 in
set_option maxRecDepth 100000 in
theorem c_X9_mixed {l : Launch} {g : gT} {n : Nat} {h : Nat → Nat} {cel : Nat → va_E} {x0 : Int64} {x2 : Int64} {r : Int64} (hm : m_X9_mixed x0 x2 = some r) : MetL l g yX9_mixed cX9_mixed 4 (some .long) 0 0 n h (cel) (cel) [.long x0, .long x2] r := by
  refine MetL.ofX (by decide +kernel) (Nat.le_of_ble_eq_true rfl) ?_
  intro p e s m below meth c AV Q X hret ls hw hl
  replace X : Cx g p s m AV c cX9_mixed RX9 4 := X
  replace hl : lv_has ls 4 [(0, .long x0), (2, .long x2)] := hl
  unfold m_X9_mixed at hm
  refine lv_ldc2 (v := 31) X.1 X.2.1 X.2.2.2.1 (X.2.2.2.2.1 _ wq_54_0) dX9_mixed_0 ?_
  refine lv_lload_n X.1 X.2.1 dX9_mixed_3 rfl (lv_at hl 0 rfl) ?_
  refine lv_lmul X.1 X.2.1 dX9_mixed_4 ?_
  refine lv_lload_n X.1 X.2.1 dX9_mixed_5 rfl (lv_at hl 1 rfl) ?_
  refine lv_ladd X.1 X.2.1 dX9_mixed_6 ?_
  obtain rfl := Option.some.inj hm
  exact hret _ _ _ _ hw dX9_mixed_7
def m_X9_withFraction (b : ST) (x1 : Int64) (x3 : Int64) : Option (Int64) := Option.bind (m_X3_told b x3 (0 : Int32)) (fun (r_2 : Int64) => Option.bind (m_X9_mixed x1 r_2) (fun (r_4 : Int64) => Option.bind (m_X3_told b x3 (1 : Int32)) (fun (r_6 : Int64) => Option.bind (m_X9_mixed r_4 r_6) (fun (r_8 : Int64) => some r_8))))
theorem yo_X9_withFraction : yX9_withFraction.cls = RX9 ∧ yX9_withFraction.cls ≠ "java/lang/invoke/MethodHandle" ∧ yX9_withFraction.cls ≠ "java/lang/invoke/VarHandle" ∧ (parseMethodDescriptor yX9_withFraction.desc).map (fun d => d.parameters.length) = some 2 := by decide +kernel
set_option maxHeartbeats 4000000 in
set_option maxRecDepth 100000 in
theorem c_X9_withFraction {l : Launch} {g : gT} {h : Nat → Nat} {b : ST} {w : Nat → ST} {x1 : Int64} {x3 : Int64} {r : Int64} (hm : m_X9_withFraction b x1 x3 = some r) : MetL l g yX9_withFraction cX9_withFraction 5 (some .long) 3 75 79 h (cC g h (b, w)) (cC g h (b, w)) [.ref (h 0), .long x1, .long x3] r := by
  refine MetL.ofX (by decide +kernel) (Nat.le_of_ble_eq_true rfl) ?_
  intro p e s m below meth c AV Q X hret ls hw hl
  replace X : Cx g p s m AV c cX9_withFraction RX9 5 := X
  replace hl : lv_has ls 5 [(0, .ref (h 0)), (1, .long x1), (3, .long x3)] := hl
  unfold m_X9_withFraction at hm
  refine lv_lload_n X.1 X.2.1 dX9_withFraction_0 rfl (lv_at hl 1 rfl) ?_
  refine lv_aload_n X.1 X.2.1 dX9_withFraction_1 rfl (lv_at hl 0 rfl) ?_
  refine gX9_odds X hw wq_1_19 dX9_withFraction_2 ?_
  refine lv_lload_n X.1 X.2.1 dX9_withFraction_5 rfl (lv_at hl 2 rfl) ?_
  refine lv_iconst (v := 0) X.1 X.2.1 dX9_withFraction_6 (by decide) ?_
  replace hm := ob_e hm
  obtain ⟨r_2, h_1, hm⟩ := hm
  refine k_Vl (k := 8) (As := [.long x3, .int (0 : Int32)]) X hl.1 hw (c_X3_told h_1) (by decide) (he_X3 g h _ _) rfl ⟨wq_17_7, wq_17_8, wq_17_9, wq_1_18, wq_17_10⟩ yo_X3_told rfl ⟨Nat.le_of_ble_eq_true rfl, Nat.le_of_ble_eq_true rfl⟩ (Nat.le_of_ble_eq_true rfl) dX9_withFraction_7 (fun H locs hw => ?_)
  replace hm := ob_e hm
  obtain ⟨r_4, h_3, hm⟩ := hm
  refine k_Sl (As := [.long x1, .long r_2]) X hl.1 hw (c_X9_mixed h_3) ⟨wq_53_21, wq_53_22, wq_1_2, wq_53_23⟩ yo_X9_mixed rfl ⟨Nat.le_of_ble_eq_true rfl, Nat.le_of_ble_eq_true rfl⟩ (Nat.le_of_ble_eq_true rfl) dX9_withFraction_10 (fun H locs hw => ?_)
  refine lv_aload_n X.1 X.2.1 dX9_withFraction_13 rfl (lv_at hl 0 rfl) ?_
  refine gX9_odds X hw wq_1_19 dX9_withFraction_14 ?_
  refine lv_lload_n X.1 X.2.1 dX9_withFraction_17 rfl (lv_at hl 2 rfl) ?_
  refine lv_iconst (v := 1) X.1 X.2.1 dX9_withFraction_18 (by decide) ?_
  replace hm := ob_e hm
  obtain ⟨r_6, h_5, hm⟩ := hm
  refine k_Vl (k := 8) (As := [.long x3, .int (1 : Int32)]) X hl.1 hw (c_X3_told h_5) (by decide) (he_X3 g h _ _) rfl ⟨wq_17_7, wq_17_8, wq_17_9, wq_1_18, wq_17_10⟩ yo_X3_told rfl ⟨Nat.le_of_ble_eq_true rfl, Nat.le_of_ble_eq_true rfl⟩ (Nat.le_of_ble_eq_true rfl) dX9_withFraction_19 (fun H locs hw => ?_)
  replace hm := ob_e hm
  obtain ⟨r_8, h_7, hm⟩ := hm
  refine k_Sl (As := [.long r_4, .long r_6]) X hl.1 hw (c_X9_mixed h_7) ⟨wq_53_21, wq_53_22, wq_1_2, wq_53_23⟩ yo_X9_mixed rfl ⟨Nat.le_of_ble_eq_true rfl, Nat.le_of_ble_eq_true rfl⟩ (Nat.le_of_ble_eq_true rfl) dX9_withFraction_22 (fun H locs hw => ?_)
  obtain rfl := Option.some.inj hm
  exact hret _ _ _ _ hw dX9_withFraction_25
def m_X9_withLinks_L16 (y_2 : Int32) (b_3 : ST) (σ : Int64 × Int32) : Option ((Int64 × Int32) ⊕ (Int64)) := (fun (q_45 : Int64 × Int32) => un q_45 (fun y_18 y_19 => if (4 : Int32) < y_19 then some (.inr y_18) else Option.bind (m_X9_info b_3 y_2 y_19) (fun (r_41 : Int32) => Option.bind (m_X9_mixed y_18 (r_41.toInt64)) (fun (r_43 : Int64) => lt (y_19 + 1) (fun x_44 => some (.inl (r_43, x_44))))))) σ
def m_X9_withLinks_L2 (σ : Int64 × Int32 × ST) : Option ((Int64 × Int32 × ST) ⊕ (Int64 × ST)) := (fun (q_46 : Int64 × Int32 × ST) => un q_46 (fun y_1 q_46 => un q_46 (fun y_2 b_3 => Option.bind (m_X2_linkCount b_3) (fun (r_15 : Int32) => if r_15 ≤ y_2 then some (.inr (y_1, b_3)) else Option.bind (vLoop (m_X9_withLinks_L16 y_2 b_3) FUEL (y_1, (0 : Int32))) (fun (j_20 : Int64) => Option.bind (m_X6_widthBehind b_3 y_2) (fun (q_24 : Int32 × ST) => un q_24 (fun r_22 b_23 => Option.bind (m_X9_mixed j_20 (r_22.toInt64)) (fun (r_26 : Int64) => Option.bind (m_X3_worthParts b_23 y_2) (fun (r_28 : Int64) => Option.bind (m_X9_withFraction b_23 r_26 r_28) (fun (r_30 : Int64) => lt (y_2 + 1) (fun x_31 => some (.inl (r_30, x_31, b_23))))))))))))) σ
def m_X9_withLinks (b : ST) (x1 : Int64) : Option (Int64 × ST) := Option.bind (vLoop (m_X9_withLinks_L2) FUEL (x1, (0 : Int32), b)) (fun (q_47 : Int64 × ST) => un q_47 (fun j_4 b_5 => some (j_4, b_5)))
theorem yo_X9_withLinks : yX9_withLinks.cls = RX9 ∧ yX9_withLinks.cls ≠ "java/lang/invoke/MethodHandle" ∧ yX9_withLinks.cls ≠ "java/lang/invoke/VarHandle" ∧ (parseMethodDescriptor yX9_withLinks.desc).map (fun d => d.parameters.length) = some 1 := by decide +kernel
set_option maxHeartbeats 4000000 in
set_option maxRecDepth 100000 in
theorem c_X9_withLinks {l : Launch} {g : gT} {h : Nat → Nat} {b : ST} {w : Nat → ST} {x1 : Int64} {r : Int64} {b' : ST} (hm : m_X9_withLinks b x1 = some (r, b')) : MetL l g yX9_withLinks cX9_withLinks 5 (some .long) 5 116 79 h (cC g h (b, w)) (cC g h (b', w)) [.ref (h 0), .long x1] r := by
  refine MetL.ofX (by decide +kernel) (Nat.le_of_ble_eq_true rfl) ?_
  intro p e s m below meth c AV Q X hret ls hw hl
  replace X : Cx g p s m AV c cX9_withLinks RX9 5 := X
  replace hl : lv_has ls 5 [(0, .ref (h 0)), (1, .long x1)] := hl
  unfold m_X9_withLinks at hm
  refine lv_iconst (v := 0) X.1 X.2.1 dX9_withLinks_0 (by decide) ?_
  refine lv_istore_n (lv' := [(3, .int (0 : Int32)), (0, .ref (h 0)), (1, .long x1)]) X.1 X.2.1 dX9_withLinks_1 rfl hl (by decide) rfl (fun ls hl => ?_)
  replace hm := ob_e hm
  obtain ⟨⟨j_4, b_5⟩, hL_12, hm⟩ := hm
  replace hm := un_e hm
  have J_11 : ∀ (H : Heap) (locs : List Loc) (ls : Array Slot), Wd g 79 h (cC g h (b_5, w)) s H locs → lv_has ls 5 [(1, .long j_4)] → W p l e (rW 5 116) s m AV below meth c H locs 0 0 Q (F0 m 75 ls []) := by
    intro H locs ls hw hl
    refine lv_lload_n X.1 X.2.1 dX9_withLinks_75 rfl (lv_at hl 0 rfl) ?_
    obtain ⟨rfl, rfl⟩ := Prod.mk.inj (Option.some.inj hm)
    exact hret _ _ _ _ hw dX9_withLinks_76
  refine vLoop_ind (B := (m_X9_withLinks_L2)) (fun σ => ∀ (H : Heap) (locs : List Loc) (ls : Array Slot), Wd g 79 h (cC g h (σ.2.2, w)) s H locs → lv_has ls 5 [(0, .ref (h 0)), (1, .long σ.1), (3, .int σ.2.1)] → W p l e (rW 5 116) s m AV below meth c H locs 0 0 Q (F0 m 2 ls [])) (fun z' => z' = (j_4, b_5)) ?_ FUEL _ _ hL_12 rfl _ _ _ hw (lv_sub hl [1, 2, 0] rfl)
  intro σ z_10 hz_7 hn_8 hx_9
  obtain ⟨y_1, y_2, b_3⟩ := σ
  intro H locs ls hw hl
  replace hw : Wd g 79 h (cC g h (b_3, w)) s H locs := hw
  replace hl : lv_has ls 5 [(0, .ref (h 0)), (1, .long y_1), (3, .int y_2)] := hl
  unfold m_X9_withLinks_L2 at hz_7
  replace hz_7 := un_e hz_7
  replace hz_7 := un_e hz_7
  refine lv_iload_n X.1 X.2.1 dX9_withLinks_2 rfl (lv_at hl 2 rfl) ?_
  refine lv_aload_n X.1 X.2.1 dX9_withLinks_3 rfl (lv_at hl 0 rfl) ?_
  refine gX9_net X hw wq_1_15 dX9_withLinks_4 ?_
  replace hz_7 := ob_e hz_7
  obtain ⟨r_15, h_14, hz_7⟩ := hz_7
  refine k_Vi (k := 1) (As := []) X hl.1 hw (c_X2_linkCount h_14) (by decide) (he_X2 g h _ _) rfl ⟨wq_10_14, wq_10_15, wq_10_16, wq_1_14, wq_10_17⟩ yo_X2_linkCount rfl ⟨Nat.le_of_ble_eq_true rfl, Nat.le_of_ble_eq_true rfl⟩ (Nat.le_of_ble_eq_true rfl) dX9_withLinks_7 (fun H locs hw => ?_)
  refine lv_icmp_ge (tgt := 75) X.1 X.2.1 dX9_withLinks_10 (by decide) (fun c_16 => ?_) (fun c_16 => ?_)
  · replace hz_7 := it_p hz_7 c_16
    obtain ⟨rfl, rfl⟩ := Prod.mk.inj (hx_9 _ (Option.some.inj hz_7).symm)
    exact J_11 _ _ _ hw (lv_sub hl [1] rfl)
  · replace hz_7 := it_n hz_7 c_16
    refine lv_iconst (v := 0) X.1 X.2.1 dX9_withLinks_13 (by decide) ?_
    refine lv_istore (lv' := [(4, .int (0 : Int32)), (0, .ref (h 0)), (1, .long y_1), (3, .int y_2)]) X.1 X.2.1 dX9_withLinks_14 hl (by decide) rfl (fun ls hl => ?_)
    replace hz_7 := ob_e hz_7
    obtain ⟨j_20, hL_37, hz_7⟩ := hz_7
    have J_36 : ∀ (H : Heap) (locs : List Loc) (ls : Array Slot), Wd g 79 h (cC g h (b_3, w)) s H locs → lv_has ls 5 [(0, .ref (h 0)), (1, .long j_20), (3, .int y_2)] → W p l e (rW 5 116) s m AV below meth c H locs 0 0 Q (F0 m 41 ls []) := by
      intro H locs ls hw hl
      refine lv_lload_n X.1 X.2.1 dX9_withLinks_41 rfl (lv_at hl 1 rfl) ?_
      refine lv_aload_n X.1 X.2.1 dX9_withLinks_42 rfl (lv_at hl 0 rfl) ?_
      refine gX9_shared X hw wq_2_3 dX9_withLinks_43 ?_
      refine lv_iload_n X.1 X.2.1 dX9_withLinks_46 rfl (lv_at hl 2 rfl) ?_
      replace hz_7 := ob_e hz_7
      obtain ⟨⟨r_22, b_23⟩, h_21, hz_7⟩ := hz_7
      replace hz_7 := un_e hz_7
      refine k_Vi (k := 12) (As := [.int y_2]) X hl.1 hw (c_X6_widthBehind h_21) (by decide) (he_X6 g h _ _) rfl ⟨wq_28_18, wq_28_19, wq_28_20, wq_2_2, wq_28_21⟩ yo_X6_widthBehind rfl ⟨Nat.le_of_ble_eq_true rfl, Nat.le_of_ble_eq_true rfl⟩ (Nat.le_of_ble_eq_true rfl) dX9_withLinks_47 (fun H locs hw => ?_)
      refine lv_i2l X.1 X.2.1 dX9_withLinks_50 rfl ?_
      replace hz_7 := ob_e hz_7
      obtain ⟨r_26, h_25, hz_7⟩ := hz_7
      refine k_Sl (As := [.long j_20, .long r_22.toInt64]) X hl.1 hw (c_X9_mixed h_25) ⟨wq_53_21, wq_53_22, wq_1_2, wq_53_23⟩ yo_X9_mixed rfl ⟨Nat.le_of_ble_eq_true rfl, Nat.le_of_ble_eq_true rfl⟩ (Nat.le_of_ble_eq_true rfl) dX9_withLinks_51 (fun H locs hw => ?_)
      refine lv_lstore_n (lv' := [(1, .long r_26), (0, .ref (h 0)), (3, .int y_2)]) X.1 X.2.1 dX9_withLinks_54 rfl hl (by decide) rfl (fun ls hl => ?_)
      refine lv_aload_n X.1 X.2.1 dX9_withLinks_55 rfl (lv_at hl 1 rfl) ?_
      refine lv_lload_n X.1 X.2.1 dX9_withLinks_56 rfl (lv_at hl 0 rfl) ?_
      refine lv_aload_n X.1 X.2.1 dX9_withLinks_57 rfl (lv_at hl 1 rfl) ?_
      refine gX9_odds X hw wq_1_19 dX9_withLinks_58 ?_
      refine lv_iload_n X.1 X.2.1 dX9_withLinks_61 rfl (lv_at hl 2 rfl) ?_
      replace hz_7 := ob_e hz_7
      obtain ⟨r_28, h_27, hz_7⟩ := hz_7
      refine k_Vl (k := 8) (As := [.int y_2]) X hl.1 hw (c_X3_worthParts h_27) (by decide) (he_X3 g h _ _) rfl ⟨wq_37_14, wq_37_15, wq_37_16, wq_1_18, wq_37_17⟩ yo_X3_worthParts rfl ⟨Nat.le_of_ble_eq_true rfl, Nat.le_of_ble_eq_true rfl⟩ (Nat.le_of_ble_eq_true rfl) dX9_withLinks_62 (fun H locs hw => ?_)
      replace hz_7 := ob_e hz_7
      obtain ⟨r_30, h_29, hz_7⟩ := hz_7
      refine k_Vl (k := 0) (As := [.long r_26, .long r_28]) X hl.1 hw (c_X9_withFraction h_29) (by decide) (he_X9 g h _ _) rfl ⟨wq_54_6, wq_54_7, wq_54_8, wq_1_2, wq_54_9⟩ yo_X9_withFraction rfl ⟨Nat.le_of_ble_eq_true rfl, Nat.le_of_ble_eq_true rfl⟩ (Nat.le_of_ble_eq_true rfl) dX9_withLinks_65 (fun H locs hw => ?_)
      refine lv_lstore_n (lv' := [(1, .long r_30), (0, .ref (h 0)), (3, .int y_2)]) X.1 X.2.1 dX9_withLinks_68 rfl hl (by decide) rfl (fun ls hl => ?_)
      obtain ⟨x_31, ex_31⟩ : ∃ y : Int32, y = y_2 + 1 := ⟨_, rfl⟩
      replace hz_7 := lt_e hz_7 ex_31
      refine lv_iinc (v := x_31) (lv' := [(3, .int x_31), (1, .long r_30), (0, .ref (h 0))]) X.1 X.2.1 dX9_withLinks_69 hl (k := 2) rfl (by rw [ex_31]; rfl) (by decide) rfl (fun ls hl => ?_)
      refine lv_goto (tgt := 2) X.1 X.2.1 dX9_withLinks_72 (by decide) ?_
      exact hn_8 _ (Option.some.inj hz_7).symm _ _ _ hw (lv_sub hl [2, 1, 0] rfl)
    refine vLoop_ind (B := (m_X9_withLinks_L16 y_2 b_3)) (fun σ => ∀ (H : Heap) (locs : List Loc) (ls : Array Slot), Wd g 79 h (cC g h (b_3, w)) s H locs → lv_has ls 5 [(0, .ref (h 0)), (1, .long σ.1), (3, .int y_2), (4, .int σ.2)] → W p l e (rW 5 116) s m AV below meth c H locs 0 0 Q (F0 m 16 ls [])) (fun z' => z' = j_20) ?_ FUEL _ _ hL_37 rfl _ _ _ hw (lv_sub hl [1, 2, 3, 0] rfl)
    intro σ z_35 hz_32 hn_33 hx_34
    obtain ⟨y_18, y_19⟩ := σ
    intro H locs ls hw hl
    replace hw : Wd g 79 h (cC g h (b_3, w)) s H locs := hw
    replace hl : lv_has ls 5 [(0, .ref (h 0)), (1, .long y_18), (3, .int y_2), (4, .int y_19)] := hl
    unfold m_X9_withLinks_L16 at hz_32
    replace hz_32 := un_e hz_32
    refine lv_iload X.1 X.2.1 dX9_withLinks_16 (lv_at hl 3 rfl) ?_
    refine lv_iconst (v := 4) X.1 X.2.1 dX9_withLinks_18 (by decide) ?_
    refine lv_icmp_gt (tgt := 41) X.1 X.2.1 dX9_withLinks_19 (by decide) (fun c_39 => ?_) (fun c_39 => ?_)
    · replace hz_32 := it_p hz_32 c_39
      obtain rfl := hx_34 _ (Option.some.inj hz_32).symm
      exact J_36 _ _ _ hw (lv_sub hl [0, 1, 2] rfl)
    · replace hz_32 := it_n hz_32 c_39
      refine lv_lload_n X.1 X.2.1 dX9_withLinks_22 rfl (lv_at hl 1 rfl) ?_
      refine lv_aload_n X.1 X.2.1 dX9_withLinks_23 rfl (lv_at hl 0 rfl) ?_
      refine lv_iload_n X.1 X.2.1 dX9_withLinks_24 rfl (lv_at hl 2 rfl) ?_
      refine lv_iload X.1 X.2.1 dX9_withLinks_25 (lv_at hl 3 rfl) ?_
      replace hz_32 := ob_e hz_32
      obtain ⟨r_41, h_40, hz_32⟩ := hz_32
      refine k_Vi (k := 0) (As := [.int y_2, .int y_19]) X hl.1 hw (c_X9_info h_40) (by decide) (he_X9 g h _ _) rfl ⟨wq_54_5, wq_14_10, wq_14_11, wq_1_2, wq_14_12⟩ yo_X9_info rfl ⟨Nat.le_of_ble_eq_true rfl, Nat.le_of_ble_eq_true rfl⟩ (Nat.le_of_ble_eq_true rfl) dX9_withLinks_27 (fun H locs hw => ?_)
      refine lv_i2l X.1 X.2.1 dX9_withLinks_30 rfl ?_
      replace hz_32 := ob_e hz_32
      obtain ⟨r_43, h_42, hz_32⟩ := hz_32
      refine k_Sl (As := [.long y_18, .long r_41.toInt64]) X hl.1 hw (c_X9_mixed h_42) ⟨wq_53_21, wq_53_22, wq_1_2, wq_53_23⟩ yo_X9_mixed rfl ⟨Nat.le_of_ble_eq_true rfl, Nat.le_of_ble_eq_true rfl⟩ (Nat.le_of_ble_eq_true rfl) dX9_withLinks_31 (fun H locs hw => ?_)
      refine lv_lstore_n (lv' := [(1, .long r_43), (0, .ref (h 0)), (3, .int y_2), (4, .int y_19)]) X.1 X.2.1 dX9_withLinks_34 rfl hl (by decide) rfl (fun ls hl => ?_)
      obtain ⟨x_44, ex_44⟩ : ∃ y : Int32, y = y_19 + 1 := ⟨_, rfl⟩
      replace hz_32 := lt_e hz_32 ex_44
      refine lv_iinc (v := x_44) (lv' := [(4, .int x_44), (1, .long r_43), (0, .ref (h 0)), (3, .int y_2)]) X.1 X.2.1 dX9_withLinks_35 hl (k := 3) rfl (by rw [ex_44]; rfl) (by decide) rfl (fun ls hl => ?_)
      refine lv_goto (tgt := 16) X.1 X.2.1 dX9_withLinks_38 (by decide) ?_
      exact hn_33 _ (Option.some.inj hz_32).symm _ _ _ hw (lv_sub hl [2, 1, 3, 0] rfl)
def m_X9_withChances_L15 (b : ST) (w : (Nat → ST)) (σ : Int64 × Int32) : Option ((Int64 × Int32) ⊕ (Int64)) := (fun (q_32 : Int64 × Int32) => un q_32 (fun y_5 y_6 => if (4 : Int32) < y_6 then some (.inr y_5) else Option.bind (m_X0_told b w y_6) (fun (r_28 : Int64) => Option.bind (m_X9_mixed y_5 r_28) (fun (r_30 : Int64) => lt (y_6 + 1) (fun x_31 => some (.inl (r_30, x_31))))))) σ
def m_X9_withChances (b : ST) (w : Nat → ST) (x1 : Int64) : Option (Int64 × ST × (Nat → ST)) := Option.bind (m_X3_reachParts b) (fun (r_2 : Int64) => Option.bind (m_X9_withFraction b x1 r_2) (fun (r_4 : Int64) => Option.bind (vLoop (m_X9_withChances_L15 b w) FUEL (r_4, (0 : Int32))) (fun (j_7 : Int64) => Option.bind (m_X6_greatestWidth b) (fun (q_11 : Int32 × ST) => un q_11 (fun r_9 b_10 => Option.bind (m_X9_mixed j_7 (r_9.toInt64)) (fun (r_13 : Int64) => Option.bind (m_X3_ruleParts b_10) (fun (r_15 : Int64) => Option.bind (m_X9_withFraction b_10 r_13 r_15) (fun (r_17 : Int64) => some (r_17, b_10, w)))))))))
theorem yo_X9_withChances : yX9_withChances.cls = RX9 ∧ yX9_withChances.cls ≠ "java/lang/invoke/MethodHandle" ∧ yX9_withChances.cls ≠ "java/lang/invoke/VarHandle" ∧ (parseMethodDescriptor yX9_withChances.desc).map (fun d => d.parameters.length) = some 1 := by decide +kernel
set_option maxHeartbeats 4000000 in
set_option maxRecDepth 100000 in
theorem c_X9_withChances {l : Launch} {g : gT} {h : Nat → Nat} {b : ST} {w : Nat → ST} {x1 : Int64} {r : Int64} {b' : ST} {w' : (Nat → ST)} (hm : m_X9_withChances b w x1 = some (r, b', w')) : MetL l g yX9_withChances cX9_withChances 4 (some .long) 6 138 79 h (cC g h (b, w)) (cC g h (b', w')) [.ref (h 0), .long x1] r := by
  refine MetL.ofX (by decide +kernel) (Nat.le_of_ble_eq_true rfl) ?_
  intro p e s m below meth c AV Q X hret ls hw hl
  replace X : Cx g p s m AV c cX9_withChances RX9 4 := X
  replace hl : lv_has ls 4 [(0, .ref (h 0)), (1, .long x1)] := hl
  unfold m_X9_withChances at hm
  refine lv_aload_n X.1 X.2.1 dX9_withChances_0 rfl (lv_at hl 0 rfl) ?_
  refine lv_lload_n X.1 X.2.1 dX9_withChances_1 rfl (lv_at hl 1 rfl) ?_
  refine lv_aload_n X.1 X.2.1 dX9_withChances_2 rfl (lv_at hl 0 rfl) ?_
  refine gX9_odds X hw wq_1_19 dX9_withChances_3 ?_
  replace hm := ob_e hm
  obtain ⟨r_2, h_1, hm⟩ := hm
  refine k_Vl (k := 8) (As := []) X hl.1 hw (c_X3_reachParts h_1) (by decide) (he_X3 g h _ _) rfl ⟨wq_16_11, wq_16_12, wq_16_13, wq_1_18, wq_16_14⟩ yo_X3_reachParts rfl ⟨Nat.le_of_ble_eq_true rfl, Nat.le_of_ble_eq_true rfl⟩ (Nat.le_of_ble_eq_true rfl) dX9_withChances_6 (fun H locs hw => ?_)
  replace hm := ob_e hm
  obtain ⟨r_4, h_3, hm⟩ := hm
  refine k_Vl (k := 0) (As := [.long x1, .long r_2]) X hl.1 hw (c_X9_withFraction h_3) (by decide) (he_X9 g h _ _) rfl ⟨wq_54_6, wq_54_7, wq_54_8, wq_1_2, wq_54_9⟩ yo_X9_withFraction rfl ⟨Nat.le_of_ble_eq_true rfl, Nat.le_of_ble_eq_true rfl⟩ (Nat.le_of_ble_eq_true rfl) dX9_withChances_9 (fun H locs hw => ?_)
  refine lv_lstore_n (lv' := [(1, .long r_4), (0, .ref (h 0))]) X.1 X.2.1 dX9_withChances_12 rfl hl (by decide) rfl (fun ls hl => ?_)
  refine lv_iconst (v := 0) X.1 X.2.1 dX9_withChances_13 (by decide) ?_
  refine lv_istore_n (lv' := [(3, .int (0 : Int32)), (1, .long r_4), (0, .ref (h 0))]) X.1 X.2.1 dX9_withChances_14 rfl hl (by decide) rfl (fun ls hl => ?_)
  replace hm := ob_e hm
  obtain ⟨j_7, hL_24, hm⟩ := hm
  have J_23 : ∀ (H : Heap) (locs : List Loc) (ls : Array Slot), Wd g 79 h (cC g h (b, w)) s H locs → lv_has ls 4 [(0, .ref (h 0)), (1, .long j_7)] → W p l e (rW 6 138) s m AV below meth c H locs 0 0 Q (F0 m 39 ls []) := by
    intro H locs ls hw hl
    refine lv_lload_n X.1 X.2.1 dX9_withChances_39 rfl (lv_at hl 1 rfl) ?_
    refine lv_aload_n X.1 X.2.1 dX9_withChances_40 rfl (lv_at hl 0 rfl) ?_
    refine gX9_shared X hw wq_2_3 dX9_withChances_41 ?_
    replace hm := ob_e hm
    obtain ⟨⟨r_9, b_10⟩, h_8, hm⟩ := hm
    replace hm := un_e hm
    refine k_Vi (k := 12) (As := []) X hl.1 hw (c_X6_greatestWidth h_8) (by decide) (he_X6 g h _ _) rfl ⟨wq_31_10, wq_31_11, wq_31_12, wq_2_2, wq_31_13⟩ yo_X6_greatestWidth rfl ⟨Nat.le_of_ble_eq_true rfl, Nat.le_of_ble_eq_true rfl⟩ (Nat.le_of_ble_eq_true rfl) dX9_withChances_44 (fun H locs hw => ?_)
    refine lv_i2l X.1 X.2.1 dX9_withChances_47 rfl ?_
    replace hm := ob_e hm
    obtain ⟨r_13, h_12, hm⟩ := hm
    refine k_Sl (As := [.long j_7, .long r_9.toInt64]) X hl.1 hw (c_X9_mixed h_12) ⟨wq_53_21, wq_53_22, wq_1_2, wq_53_23⟩ yo_X9_mixed rfl ⟨Nat.le_of_ble_eq_true rfl, Nat.le_of_ble_eq_true rfl⟩ (Nat.le_of_ble_eq_true rfl) dX9_withChances_48 (fun H locs hw => ?_)
    refine lv_lstore_n (lv' := [(1, .long r_13), (0, .ref (h 0))]) X.1 X.2.1 dX9_withChances_51 rfl hl (by decide) rfl (fun ls hl => ?_)
    refine lv_aload_n X.1 X.2.1 dX9_withChances_52 rfl (lv_at hl 1 rfl) ?_
    refine lv_lload_n X.1 X.2.1 dX9_withChances_53 rfl (lv_at hl 0 rfl) ?_
    refine lv_aload_n X.1 X.2.1 dX9_withChances_54 rfl (lv_at hl 1 rfl) ?_
    refine gX9_odds X hw wq_1_19 dX9_withChances_55 ?_
    replace hm := ob_e hm
    obtain ⟨r_15, h_14, hm⟩ := hm
    refine k_Vl (k := 8) (As := []) X hl.1 hw (c_X3_ruleParts h_14) (by decide) (he_X3 g h _ _) rfl ⟨wq_32_21, wq_32_22, wq_32_23, wq_1_18, wq_33_0⟩ yo_X3_ruleParts rfl ⟨Nat.le_of_ble_eq_true rfl, Nat.le_of_ble_eq_true rfl⟩ (Nat.le_of_ble_eq_true rfl) dX9_withChances_58 (fun H locs hw => ?_)
    replace hm := ob_e hm
    obtain ⟨r_17, h_16, hm⟩ := hm
    refine k_Vl (k := 0) (As := [.long r_13, .long r_15]) X hl.1 hw (c_X9_withFraction h_16) (by decide) (he_X9 g h _ _) rfl ⟨wq_54_6, wq_54_7, wq_54_8, wq_1_2, wq_54_9⟩ yo_X9_withFraction rfl ⟨Nat.le_of_ble_eq_true rfl, Nat.le_of_ble_eq_true rfl⟩ (Nat.le_of_ble_eq_true rfl) dX9_withChances_61 (fun H locs hw => ?_)
    obtain ⟨rfl, q_18⟩ := Prod.mk.inj (Option.some.inj hm)
    obtain ⟨rfl, rfl⟩ := Prod.mk.inj q_18
    exact hret _ _ _ _ hw dX9_withChances_64
  refine vLoop_ind (B := (m_X9_withChances_L15 b w)) (fun σ => ∀ (H : Heap) (locs : List Loc) (ls : Array Slot), Wd g 79 h (cC g h (b, w)) s H locs → lv_has ls 4 [(0, .ref (h 0)), (1, .long σ.1), (3, .int σ.2)] → W p l e (rW 6 138) s m AV below meth c H locs 0 0 Q (F0 m 15 ls [])) (fun z' => z' = j_7) ?_ FUEL _ _ hL_24 rfl _ _ _ hw (lv_sub hl [2, 1, 0] rfl)
  intro σ z_22 hz_19 hn_20 hx_21
  obtain ⟨y_5, y_6⟩ := σ
  intro H locs ls hw hl
  replace hw : Wd g 79 h (cC g h (b, w)) s H locs := hw
  replace hl : lv_has ls 4 [(0, .ref (h 0)), (1, .long y_5), (3, .int y_6)] := hl
  unfold m_X9_withChances_L15 at hz_19
  replace hz_19 := un_e hz_19
  refine lv_iload_n X.1 X.2.1 dX9_withChances_15 rfl (lv_at hl 2 rfl) ?_
  refine lv_iconst (v := 4) X.1 X.2.1 dX9_withChances_16 (by decide) ?_
  refine lv_icmp_gt (tgt := 39) X.1 X.2.1 dX9_withChances_17 (by decide) (fun c_26 => ?_) (fun c_26 => ?_)
  · replace hz_19 := it_p hz_19 c_26
    obtain rfl := hx_21 _ (Option.some.inj hz_19).symm
    exact J_23 _ _ _ hw (lv_sub hl [0, 1] rfl)
  · replace hz_19 := it_n hz_19 c_26
    refine lv_lload_n X.1 X.2.1 dX9_withChances_20 rfl (lv_at hl 1 rfl) ?_
    refine lv_aload_n X.1 X.2.1 dX9_withChances_21 rfl (lv_at hl 0 rfl) ?_
    refine gX9_cutAndJoin X hw wq_2_7 dX9_withChances_22 ?_
    refine lv_iload_n X.1 X.2.1 dX9_withChances_25 rfl (lv_at hl 2 rfl) ?_
    replace hz_19 := ob_e hz_19
    obtain ⟨r_28, h_27, hz_19⟩ := hz_19
    refine k_Vl (k := 14) (As := [.int y_6]) X hl.1 hw (c_X0_told h_27) (by decide) (he_X0 g h _ _) rfl ⟨wq_24_20, wq_24_21, wq_24_22, wq_2_6, wq_24_23⟩ yo_X0_told rfl ⟨Nat.le_of_ble_eq_true rfl, Nat.le_of_ble_eq_true rfl⟩ (Nat.le_of_ble_eq_true rfl) dX9_withChances_26 (fun H locs hw => ?_)
    replace hz_19 := ob_e hz_19
    obtain ⟨r_30, h_29, hz_19⟩ := hz_19
    refine k_Sl (As := [.long y_5, .long r_28]) X hl.1 hw (c_X9_mixed h_29) ⟨wq_53_21, wq_53_22, wq_1_2, wq_53_23⟩ yo_X9_mixed rfl ⟨Nat.le_of_ble_eq_true rfl, Nat.le_of_ble_eq_true rfl⟩ (Nat.le_of_ble_eq_true rfl) dX9_withChances_29 (fun H locs hw => ?_)
    refine lv_lstore_n (lv' := [(1, .long r_30), (0, .ref (h 0)), (3, .int y_6)]) X.1 X.2.1 dX9_withChances_32 rfl hl (by decide) rfl (fun ls hl => ?_)
    obtain ⟨x_31, ex_31⟩ : ∃ y : Int32, y = y_6 + 1 := ⟨_, rfl⟩
    replace hz_19 := lt_e hz_19 ex_31
    refine lv_iinc (v := x_31) (lv' := [(3, .int x_31), (1, .long r_30), (0, .ref (h 0))]) X.1 X.2.1 dX9_withChances_33 hl (k := 2) rfl (by rw [ex_31]; rfl) (by decide) rfl (fun ls hl => ?_)
    refine lv_goto (tgt := 15) X.1 X.2.1 dX9_withChances_36 (by decide) ?_
    exact hn_20 _ (Option.some.inj hz_19).symm _ _ _ hw (lv_sub hl [2, 1, 0] rfl)
def m_X9_withSets_L2 (b : ST) (σ : Int64 × Int32) : Option ((Int64 × Int32) ⊕ (Int64)) := (fun (q_39 : Int64 × Int32) => un q_39 (fun y_1 y_2 => Option.bind (m_X2_linkCount b) (fun (r_32 : Int32) => if r_32 < y_2 then some (.inr y_1) else Option.bind (m_X5_ofSize b y_2) (fun (r_35 : Int32) => Option.bind (m_X9_mixed y_1 (r_35.toInt64)) (fun (r_37 : Int64) => lt (y_2 + 1) (fun x_38 => some (.inl (r_37, x_38)))))))) σ
def m_X9_withSets (b : ST) (x1 : Int64) : Option (Int64) := Option.bind (vLoop (m_X9_withSets_L2 b) FUEL (x1, (0 : Int32))) (fun (j_3 : Int64) => Option.bind (m_X9_alike b (1 : Int32) (2 : Int32) (0 : Int32)) (fun (r_5 : Int64) => Option.bind (m_X9_mixed j_3 r_5) (fun (r_7 : Int64) => Option.bind (m_X9_alike b (1 : Int32) (2 : Int32) (1 : Int32)) (fun (r_9 : Int64) => Option.bind (m_X9_mixed r_7 r_9) (fun (r_11 : Int64) => Option.bind (m_X9_alike b (9 : Int32) (10 : Int32) (0 : Int32)) (fun (r_13 : Int64) => Option.bind (m_X9_mixed r_11 r_13) (fun (r_15 : Int64) => Option.bind (m_X5_leastCut b) (fun (r_17 : Int32) => Option.bind (m_X9_mixed r_15 (r_17.toInt64)) (fun (r_19 : Int64) => Option.bind (m_X5_leastWay b) (fun (r_21 : Int32) => Option.bind (m_X9_mixed r_19 (r_21.toInt64)) (fun (r_23 : Int64) => some r_23)))))))))))
theorem yo_X9_withSets : yX9_withSets.cls = RX9 ∧ yX9_withSets.cls ≠ "java/lang/invoke/MethodHandle" ∧ yX9_withSets.cls ≠ "java/lang/invoke/VarHandle" ∧ (parseMethodDescriptor yX9_withSets.desc).map (fun d => d.parameters.length) = some 1 := by decide +kernel
set_option maxHeartbeats 4000000 in
set_option maxRecDepth 100000 in
theorem c_X9_withSets {l : Launch} {g : gT} {h : Nat → Nat} {b : ST} {w : Nat → ST} {x1 : Int64} {r : Int64} (hm : m_X9_withSets b x1 = some r) : MetL l g yX9_withSets cX9_withSets 4 (some .long) 4 102 79 h (cC g h (b, w)) (cC g h (b, w)) [.ref (h 0), .long x1] r := by
  refine MetL.ofX (by decide +kernel) (Nat.le_of_ble_eq_true rfl) ?_
  intro p e s m below meth c AV Q X hret ls hw hl
  replace X : Cx g p s m AV c cX9_withSets RX9 4 := X
  replace hl : lv_has ls 4 [(0, .ref (h 0)), (1, .long x1)] := hl
  unfold m_X9_withSets at hm
  refine lv_iconst (v := 0) X.1 X.2.1 dX9_withSets_0 (by decide) ?_
  refine lv_istore_n (lv' := [(3, .int (0 : Int32)), (0, .ref (h 0)), (1, .long x1)]) X.1 X.2.1 dX9_withSets_1 rfl hl (by decide) rfl (fun ls hl => ?_)
  replace hm := ob_e hm
  obtain ⟨j_3, hL_29, hm⟩ := hm
  have J_28 : ∀ (H : Heap) (locs : List Loc) (ls : Array Slot), Wd g 79 h (cC g h (b, w)) s H locs → lv_has ls 4 [(0, .ref (h 0)), (1, .long j_3)] → W p l e (rW 4 102) s m AV below meth c H locs 0 0 Q (F0 m 33 ls []) := by
    intro H locs ls hw hl
    refine lv_lload_n X.1 X.2.1 dX9_withSets_33 rfl (lv_at hl 1 rfl) ?_
    refine lv_aload_n X.1 X.2.1 dX9_withSets_34 rfl (lv_at hl 0 rfl) ?_
    refine lv_iconst (v := 1) X.1 X.2.1 dX9_withSets_35 (by decide) ?_
    refine lv_iconst (v := 2) X.1 X.2.1 dX9_withSets_36 (by decide) ?_
    refine lv_iconst (v := 0) X.1 X.2.1 dX9_withSets_37 (by decide) ?_
    replace hm := ob_e hm
    obtain ⟨r_5, h_4, hm⟩ := hm
    refine k_Vl (k := 0) (As := [.int (1 : Int32), .int (2 : Int32), .int (0 : Int32)]) X hl.1 hw (c_X9_alike h_4) (by decide) (he_X9 g h _ _) rfl ⟨wq_34_14, wq_34_15, wq_34_16, wq_1_2, wq_34_17⟩ yo_X9_alike rfl ⟨Nat.le_of_ble_eq_true rfl, Nat.le_of_ble_eq_true rfl⟩ (Nat.le_of_ble_eq_true rfl) dX9_withSets_38 (fun H locs hw => ?_)
    replace hm := ob_e hm
    obtain ⟨r_7, h_6, hm⟩ := hm
    refine k_Sl (As := [.long j_3, .long r_5]) X hl.1 hw (c_X9_mixed h_6) ⟨wq_53_21, wq_53_22, wq_1_2, wq_53_23⟩ yo_X9_mixed rfl ⟨Nat.le_of_ble_eq_true rfl, Nat.le_of_ble_eq_true rfl⟩ (Nat.le_of_ble_eq_true rfl) dX9_withSets_41 (fun H locs hw => ?_)
    refine lv_lstore_n (lv' := [(1, .long r_7), (0, .ref (h 0))]) X.1 X.2.1 dX9_withSets_44 rfl hl (by decide) rfl (fun ls hl => ?_)
    refine lv_lload_n X.1 X.2.1 dX9_withSets_45 rfl (lv_at hl 0 rfl) ?_
    refine lv_aload_n X.1 X.2.1 dX9_withSets_46 rfl (lv_at hl 1 rfl) ?_
    refine lv_iconst (v := 1) X.1 X.2.1 dX9_withSets_47 (by decide) ?_
    refine lv_iconst (v := 2) X.1 X.2.1 dX9_withSets_48 (by decide) ?_
    refine lv_iconst (v := 1) X.1 X.2.1 dX9_withSets_49 (by decide) ?_
    replace hm := ob_e hm
    obtain ⟨r_9, h_8, hm⟩ := hm
    refine k_Vl (k := 0) (As := [.int (1 : Int32), .int (2 : Int32), .int (1 : Int32)]) X hl.1 hw (c_X9_alike h_8) (by decide) (he_X9 g h _ _) rfl ⟨wq_34_14, wq_34_15, wq_34_16, wq_1_2, wq_34_17⟩ yo_X9_alike rfl ⟨Nat.le_of_ble_eq_true rfl, Nat.le_of_ble_eq_true rfl⟩ (Nat.le_of_ble_eq_true rfl) dX9_withSets_50 (fun H locs hw => ?_)
    replace hm := ob_e hm
    obtain ⟨r_11, h_10, hm⟩ := hm
    refine k_Sl (As := [.long r_7, .long r_9]) X hl.1 hw (c_X9_mixed h_10) ⟨wq_53_21, wq_53_22, wq_1_2, wq_53_23⟩ yo_X9_mixed rfl ⟨Nat.le_of_ble_eq_true rfl, Nat.le_of_ble_eq_true rfl⟩ (Nat.le_of_ble_eq_true rfl) dX9_withSets_53 (fun H locs hw => ?_)
    refine lv_lstore_n (lv' := [(1, .long r_11), (0, .ref (h 0))]) X.1 X.2.1 dX9_withSets_56 rfl hl (by decide) rfl (fun ls hl => ?_)
    refine lv_lload_n X.1 X.2.1 dX9_withSets_57 rfl (lv_at hl 0 rfl) ?_
    refine lv_aload_n X.1 X.2.1 dX9_withSets_58 rfl (lv_at hl 1 rfl) ?_
    refine lv_bipush (v := 9) X.1 X.2.1 dX9_withSets_59 (by decide) ?_
    refine lv_bipush (v := 10) X.1 X.2.1 dX9_withSets_61 (by decide) ?_
    refine lv_iconst (v := 0) X.1 X.2.1 dX9_withSets_63 (by decide) ?_
    replace hm := ob_e hm
    obtain ⟨r_13, h_12, hm⟩ := hm
    refine k_Vl (k := 0) (As := [.int (9 : Int32), .int (10 : Int32), .int (0 : Int32)]) X hl.1 hw (c_X9_alike h_12) (by decide) (he_X9 g h _ _) rfl ⟨wq_34_14, wq_34_15, wq_34_16, wq_1_2, wq_34_17⟩ yo_X9_alike rfl ⟨Nat.le_of_ble_eq_true rfl, Nat.le_of_ble_eq_true rfl⟩ (Nat.le_of_ble_eq_true rfl) dX9_withSets_64 (fun H locs hw => ?_)
    replace hm := ob_e hm
    obtain ⟨r_15, h_14, hm⟩ := hm
    refine k_Sl (As := [.long r_11, .long r_13]) X hl.1 hw (c_X9_mixed h_14) ⟨wq_53_21, wq_53_22, wq_1_2, wq_53_23⟩ yo_X9_mixed rfl ⟨Nat.le_of_ble_eq_true rfl, Nat.le_of_ble_eq_true rfl⟩ (Nat.le_of_ble_eq_true rfl) dX9_withSets_67 (fun H locs hw => ?_)
    refine lv_lstore_n (lv' := [(1, .long r_15), (0, .ref (h 0))]) X.1 X.2.1 dX9_withSets_70 rfl hl (by decide) rfl (fun ls hl => ?_)
    refine lv_lload_n X.1 X.2.1 dX9_withSets_71 rfl (lv_at hl 0 rfl) ?_
    refine lv_aload_n X.1 X.2.1 dX9_withSets_72 rfl (lv_at hl 1 rfl) ?_
    refine gX9_counts X hw wq_1_23 dX9_withSets_73 ?_
    replace hm := ob_e hm
    obtain ⟨r_17, h_16, hm⟩ := hm
    refine k_Vi (k := 10) (As := []) X hl.1 hw (c_X5_leastCut h_16) (by decide) (he_X5 g h _ _) rfl ⟨wq_36_10, wq_36_11, wq_36_12, wq_1_22, wq_36_13⟩ yo_X5_leastCut rfl ⟨Nat.le_of_ble_eq_true rfl, Nat.le_of_ble_eq_true rfl⟩ (Nat.le_of_ble_eq_true rfl) dX9_withSets_76 (fun H locs hw => ?_)
    refine lv_i2l X.1 X.2.1 dX9_withSets_79 rfl ?_
    replace hm := ob_e hm
    obtain ⟨r_19, h_18, hm⟩ := hm
    refine k_Sl (As := [.long r_15, .long r_17.toInt64]) X hl.1 hw (c_X9_mixed h_18) ⟨wq_53_21, wq_53_22, wq_1_2, wq_53_23⟩ yo_X9_mixed rfl ⟨Nat.le_of_ble_eq_true rfl, Nat.le_of_ble_eq_true rfl⟩ (Nat.le_of_ble_eq_true rfl) dX9_withSets_80 (fun H locs hw => ?_)
    refine lv_lstore_n (lv' := [(1, .long r_19), (0, .ref (h 0))]) X.1 X.2.1 dX9_withSets_83 rfl hl (by decide) rfl (fun ls hl => ?_)
    refine lv_lload_n X.1 X.2.1 dX9_withSets_84 rfl (lv_at hl 0 rfl) ?_
    refine lv_aload_n X.1 X.2.1 dX9_withSets_85 rfl (lv_at hl 1 rfl) ?_
    refine gX9_counts X hw wq_1_23 dX9_withSets_86 ?_
    replace hm := ob_e hm
    obtain ⟨r_21, h_20, hm⟩ := hm
    refine k_Vi (k := 10) (As := []) X hl.1 hw (c_X5_leastWay h_20) (by decide) (he_X5 g h _ _) rfl ⟨wq_36_18, wq_36_19, wq_36_20, wq_1_22, wq_36_21⟩ yo_X5_leastWay rfl ⟨Nat.le_of_ble_eq_true rfl, Nat.le_of_ble_eq_true rfl⟩ (Nat.le_of_ble_eq_true rfl) dX9_withSets_89 (fun H locs hw => ?_)
    refine lv_i2l X.1 X.2.1 dX9_withSets_92 rfl ?_
    replace hm := ob_e hm
    obtain ⟨r_23, h_22, hm⟩ := hm
    refine k_Sl (As := [.long r_19, .long r_21.toInt64]) X hl.1 hw (c_X9_mixed h_22) ⟨wq_53_21, wq_53_22, wq_1_2, wq_53_23⟩ yo_X9_mixed rfl ⟨Nat.le_of_ble_eq_true rfl, Nat.le_of_ble_eq_true rfl⟩ (Nat.le_of_ble_eq_true rfl) dX9_withSets_93 (fun H locs hw => ?_)
    obtain rfl := Option.some.inj hm
    exact hret _ _ _ _ hw dX9_withSets_96
  refine vLoop_ind (B := (m_X9_withSets_L2 b)) (fun σ => ∀ (H : Heap) (locs : List Loc) (ls : Array Slot), Wd g 79 h (cC g h (b, w)) s H locs → lv_has ls 4 [(0, .ref (h 0)), (1, .long σ.1), (3, .int σ.2)] → W p l e (rW 4 102) s m AV below meth c H locs 0 0 Q (F0 m 2 ls [])) (fun z' => z' = j_3) ?_ FUEL _ _ hL_29 rfl _ _ _ hw (lv_sub hl [1, 2, 0] rfl)
  intro σ z_27 hz_24 hn_25 hx_26
  obtain ⟨y_1, y_2⟩ := σ
  intro H locs ls hw hl
  replace hw : Wd g 79 h (cC g h (b, w)) s H locs := hw
  replace hl : lv_has ls 4 [(0, .ref (h 0)), (1, .long y_1), (3, .int y_2)] := hl
  unfold m_X9_withSets_L2 at hz_24
  replace hz_24 := un_e hz_24
  refine lv_iload_n X.1 X.2.1 dX9_withSets_2 rfl (lv_at hl 2 rfl) ?_
  refine lv_aload_n X.1 X.2.1 dX9_withSets_3 rfl (lv_at hl 0 rfl) ?_
  refine gX9_net X hw wq_1_15 dX9_withSets_4 ?_
  replace hz_24 := ob_e hz_24
  obtain ⟨r_32, h_31, hz_24⟩ := hz_24
  refine k_Vi (k := 1) (As := []) X hl.1 hw (c_X2_linkCount h_31) (by decide) (he_X2 g h _ _) rfl ⟨wq_10_14, wq_10_15, wq_10_16, wq_1_14, wq_10_17⟩ yo_X2_linkCount rfl ⟨Nat.le_of_ble_eq_true rfl, Nat.le_of_ble_eq_true rfl⟩ (Nat.le_of_ble_eq_true rfl) dX9_withSets_7 (fun H locs hw => ?_)
  refine lv_icmp_gt (tgt := 33) X.1 X.2.1 dX9_withSets_10 (by decide) (fun c_33 => ?_) (fun c_33 => ?_)
  · replace hz_24 := it_p hz_24 c_33
    obtain rfl := hx_26 _ (Option.some.inj hz_24).symm
    exact J_28 _ _ _ hw (lv_sub hl [0, 1] rfl)
  · replace hz_24 := it_n hz_24 c_33
    refine lv_lload_n X.1 X.2.1 dX9_withSets_13 rfl (lv_at hl 1 rfl) ?_
    refine lv_aload_n X.1 X.2.1 dX9_withSets_14 rfl (lv_at hl 0 rfl) ?_
    refine gX9_counts X hw wq_1_23 dX9_withSets_15 ?_
    refine lv_iload_n X.1 X.2.1 dX9_withSets_18 rfl (lv_at hl 2 rfl) ?_
    replace hz_24 := ob_e hz_24
    obtain ⟨r_35, h_34, hz_24⟩ := hz_24
    refine k_Vi (k := 10) (As := [.int y_2]) X hl.1 hw (c_X5_ofSize h_34) (by decide) (he_X5 g h _ _) rfl ⟨wq_33_22, wq_33_23, wq_34_0, wq_1_22, wq_34_1⟩ yo_X5_ofSize rfl ⟨Nat.le_of_ble_eq_true rfl, Nat.le_of_ble_eq_true rfl⟩ (Nat.le_of_ble_eq_true rfl) dX9_withSets_19 (fun H locs hw => ?_)
    refine lv_i2l X.1 X.2.1 dX9_withSets_22 rfl ?_
    replace hz_24 := ob_e hz_24
    obtain ⟨r_37, h_36, hz_24⟩ := hz_24
    refine k_Sl (As := [.long y_1, .long r_35.toInt64]) X hl.1 hw (c_X9_mixed h_36) ⟨wq_53_21, wq_53_22, wq_1_2, wq_53_23⟩ yo_X9_mixed rfl ⟨Nat.le_of_ble_eq_true rfl, Nat.le_of_ble_eq_true rfl⟩ (Nat.le_of_ble_eq_true rfl) dX9_withSets_23 (fun H locs hw => ?_)
    refine lv_lstore_n (lv' := [(1, .long r_37), (0, .ref (h 0)), (3, .int y_2)]) X.1 X.2.1 dX9_withSets_26 rfl hl (by decide) rfl (fun ls hl => ?_)
    obtain ⟨x_38, ex_38⟩ : ∃ y : Int32, y = y_2 + 1 := ⟨_, rfl⟩
    replace hz_24 := lt_e hz_24 ex_38
    refine lv_iinc (v := x_38) (lv' := [(3, .int x_38), (1, .long r_37), (0, .ref (h 0))]) X.1 X.2.1 dX9_withSets_27 hl (k := 2) rfl (by rw [ex_38]; rfl) (by decide) rfl (fun ls hl => ?_)
    refine lv_goto (tgt := 2) X.1 X.2.1 dX9_withSets_30 (by decide) ?_
    exact hn_25 _ (Option.some.inj hz_24).symm _ _ _ hw (lv_sub hl [2, 1, 0] rfl)
def m_X9_withPairs_L18 (y_2 : Int32) (b : ST) (σ : Int64 × Int32) : Option ((Int64 × Int32) ⊕ (Int64)) := (fun (q_34 : Int64 × Int32) => un q_34 (fun y_15 y_16 => Option.bind (m_X2_stationCount b) (fun (r_27 : Int32) => if r_27 ≤ y_16 then some (.inr y_15) else Option.bind (m_X3_pairParts b y_2 y_16) (fun (r_30 : Int64) => Option.bind (m_X9_withFraction b y_15 r_30) (fun (r_32 : Int64) => lt (y_16 + 1) (fun x_33 => some (.inl (r_32, x_33)))))))) σ
def m_X9_withPairs_L2 (b : ST) (σ : Int64 × Int32) : Option ((Int64 × Int32) ⊕ (Int64)) := (fun (q_35 : Int64 × Int32) => un q_35 (fun y_1 y_2 => Option.bind (m_X2_stationCount b) (fun (r_12 : Int32) => if r_12 ≤ y_2 then some (.inr y_1) else lt (y_2 + (1 : Int32)) (fun x_14 => Option.bind (vLoop (m_X9_withPairs_L18 y_2 b) FUEL (y_1, x_14)) (fun (j_17 : Int64) => lt (y_2 + 1) (fun x_18 => some (.inl (j_17, x_18)))))))) σ
def m_X9_withPairs (b : ST) (x1 : Int64) : Option (Int64) := Option.bind (vLoop (m_X9_withPairs_L2 b) FUEL (x1, (0 : Int32))) (fun (j_3 : Int64) => some j_3)
theorem yo_X9_withPairs : yX9_withPairs.cls = RX9 ∧ yX9_withPairs.cls ≠ "java/lang/invoke/MethodHandle" ∧ yX9_withPairs.cls ≠ "java/lang/invoke/VarHandle" ∧ (parseMethodDescriptor yX9_withPairs.desc).map (fun d => d.parameters.length) = some 1 := by decide +kernel
set_option maxHeartbeats 4000000 in
set_option maxRecDepth 100000 in
theorem c_X9_withPairs {l : Launch} {g : gT} {h : Nat → Nat} {b : ST} {w : Nat → ST} {x1 : Int64} {r : Int64} (hm : m_X9_withPairs b x1 = some r) : MetL l g yX9_withPairs cX9_withPairs 5 (some .long) 4 99 79 h (cC g h (b, w)) (cC g h (b, w)) [.ref (h 0), .long x1] r := by
  refine MetL.ofX (by decide +kernel) (Nat.le_of_ble_eq_true rfl) ?_
  intro p e s m below meth c AV Q X hret ls hw hl
  replace X : Cx g p s m AV c cX9_withPairs RX9 5 := X
  replace hl : lv_has ls 5 [(0, .ref (h 0)), (1, .long x1)] := hl
  unfold m_X9_withPairs at hm
  refine lv_iconst (v := 0) X.1 X.2.1 dX9_withPairs_0 (by decide) ?_
  refine lv_istore_n (lv' := [(3, .int (0 : Int32)), (0, .ref (h 0)), (1, .long x1)]) X.1 X.2.1 dX9_withPairs_1 rfl hl (by decide) rfl (fun ls hl => ?_)
  replace hm := ob_e hm
  obtain ⟨j_3, hL_9, hm⟩ := hm
  have J_8 : ∀ (H : Heap) (locs : List Loc) (ls : Array Slot), Wd g 79 h (cC g h (b, w)) s H locs → lv_has ls 5 [(1, .long j_3)] → W p l e (rW 4 99) s m AV below meth c H locs 0 0 Q (F0 m 58 ls []) := by
    intro H locs ls hw hl
    refine lv_lload_n X.1 X.2.1 dX9_withPairs_58 rfl (lv_at hl 0 rfl) ?_
    obtain rfl := Option.some.inj hm
    exact hret _ _ _ _ hw dX9_withPairs_59
  refine vLoop_ind (B := (m_X9_withPairs_L2 b)) (fun σ => ∀ (H : Heap) (locs : List Loc) (ls : Array Slot), Wd g 79 h (cC g h (b, w)) s H locs → lv_has ls 5 [(0, .ref (h 0)), (1, .long σ.1), (3, .int σ.2)] → W p l e (rW 4 99) s m AV below meth c H locs 0 0 Q (F0 m 2 ls [])) (fun z' => z' = j_3) ?_ FUEL _ _ hL_9 rfl _ _ _ hw (lv_sub hl [1, 2, 0] rfl)
  intro σ z_7 hz_4 hn_5 hx_6
  obtain ⟨y_1, y_2⟩ := σ
  intro H locs ls hw hl
  replace hw : Wd g 79 h (cC g h (b, w)) s H locs := hw
  replace hl : lv_has ls 5 [(0, .ref (h 0)), (1, .long y_1), (3, .int y_2)] := hl
  unfold m_X9_withPairs_L2 at hz_4
  replace hz_4 := un_e hz_4
  refine lv_iload_n X.1 X.2.1 dX9_withPairs_2 rfl (lv_at hl 2 rfl) ?_
  refine lv_aload_n X.1 X.2.1 dX9_withPairs_3 rfl (lv_at hl 0 rfl) ?_
  refine gX9_net X hw wq_1_15 dX9_withPairs_4 ?_
  replace hz_4 := ob_e hz_4
  obtain ⟨r_12, h_11, hz_4⟩ := hz_4
  refine k_Vi (k := 1) (As := []) X hl.1 hw (c_X2_stationCount h_11) (by decide) (he_X2 g h _ _) rfl ⟨wq_6_9, wq_6_10, wq_6_11, wq_1_14, wq_6_12⟩ yo_X2_stationCount rfl ⟨Nat.le_of_ble_eq_true rfl, Nat.le_of_ble_eq_true rfl⟩ (Nat.le_of_ble_eq_true rfl) dX9_withPairs_7 (fun H locs hw => ?_)
  refine lv_icmp_ge (tgt := 58) X.1 X.2.1 dX9_withPairs_10 (by decide) (fun c_13 => ?_) (fun c_13 => ?_)
  · replace hz_4 := it_p hz_4 c_13
    obtain rfl := hx_6 _ (Option.some.inj hz_4).symm
    exact J_8 _ _ _ hw (lv_sub hl [1] rfl)
  · replace hz_4 := it_n hz_4 c_13
    refine lv_iload_n X.1 X.2.1 dX9_withPairs_13 rfl (lv_at hl 2 rfl) ?_
    refine lv_iconst (v := 1) X.1 X.2.1 dX9_withPairs_14 (by decide) ?_
    refine lv_iadd X.1 X.2.1 dX9_withPairs_15 ?_
    refine lv_topi (fun x_14 ex_14 => ?_)
    replace hz_4 := lt_e hz_4 ex_14
    refine lv_istore (lv' := [(4, .int x_14), (0, .ref (h 0)), (1, .long y_1), (3, .int y_2)]) X.1 X.2.1 dX9_withPairs_16 hl (by decide) rfl (fun ls hl => ?_)
    replace hz_4 := ob_e hz_4
    obtain ⟨j_17, hL_24, hz_4⟩ := hz_4
    have J_23 : ∀ (H : Heap) (locs : List Loc) (ls : Array Slot), Wd g 79 h (cC g h (b, w)) s H locs → lv_has ls 5 [(0, .ref (h 0)), (1, .long j_17), (3, .int y_2)] → W p l e (rW 4 99) s m AV below meth c H locs 0 0 Q (F0 m 52 ls []) := by
      intro H locs ls hw hl
      obtain ⟨x_18, ex_18⟩ : ∃ y : Int32, y = y_2 + 1 := ⟨_, rfl⟩
      replace hz_4 := lt_e hz_4 ex_18
      refine lv_iinc (v := x_18) (lv' := [(3, .int x_18), (0, .ref (h 0)), (1, .long j_17)]) X.1 X.2.1 dX9_withPairs_52 hl (k := 2) rfl (by rw [ex_18]; rfl) (by decide) rfl (fun ls hl => ?_)
      refine lv_goto (tgt := 2) X.1 X.2.1 dX9_withPairs_55 (by decide) ?_
      exact hn_5 _ (Option.some.inj hz_4).symm _ _ _ hw (lv_sub hl [1, 2, 0] rfl)
    refine vLoop_ind (B := (m_X9_withPairs_L18 y_2 b)) (fun σ => ∀ (H : Heap) (locs : List Loc) (ls : Array Slot), Wd g 79 h (cC g h (b, w)) s H locs → lv_has ls 5 [(0, .ref (h 0)), (1, .long σ.1), (3, .int y_2), (4, .int σ.2)] → W p l e (rW 4 99) s m AV below meth c H locs 0 0 Q (F0 m 18 ls [])) (fun z' => z' = j_17) ?_ FUEL _ _ hL_24 rfl _ _ _ hw (lv_sub hl [1, 2, 3, 0] rfl)
    intro σ z_22 hz_19 hn_20 hx_21
    obtain ⟨y_15, y_16⟩ := σ
    intro H locs ls hw hl
    replace hw : Wd g 79 h (cC g h (b, w)) s H locs := hw
    replace hl : lv_has ls 5 [(0, .ref (h 0)), (1, .long y_15), (3, .int y_2), (4, .int y_16)] := hl
    unfold m_X9_withPairs_L18 at hz_19
    replace hz_19 := un_e hz_19
    refine lv_iload X.1 X.2.1 dX9_withPairs_18 (lv_at hl 3 rfl) ?_
    refine lv_aload_n X.1 X.2.1 dX9_withPairs_20 rfl (lv_at hl 0 rfl) ?_
    refine gX9_net X hw wq_1_15 dX9_withPairs_21 ?_
    replace hz_19 := ob_e hz_19
    obtain ⟨r_27, h_26, hz_19⟩ := hz_19
    refine k_Vi (k := 1) (As := []) X hl.1 hw (c_X2_stationCount h_26) (by decide) (he_X2 g h _ _) rfl ⟨wq_6_9, wq_6_10, wq_6_11, wq_1_14, wq_6_12⟩ yo_X2_stationCount rfl ⟨Nat.le_of_ble_eq_true rfl, Nat.le_of_ble_eq_true rfl⟩ (Nat.le_of_ble_eq_true rfl) dX9_withPairs_24 (fun H locs hw => ?_)
    refine lv_icmp_ge (tgt := 52) X.1 X.2.1 dX9_withPairs_27 (by decide) (fun c_28 => ?_) (fun c_28 => ?_)
    · replace hz_19 := it_p hz_19 c_28
      obtain rfl := hx_21 _ (Option.some.inj hz_19).symm
      exact J_23 _ _ _ hw (lv_sub hl [0, 1, 2] rfl)
    · replace hz_19 := it_n hz_19 c_28
      refine lv_aload_n X.1 X.2.1 dX9_withPairs_30 rfl (lv_at hl 0 rfl) ?_
      refine lv_lload_n X.1 X.2.1 dX9_withPairs_31 rfl (lv_at hl 1 rfl) ?_
      refine lv_aload_n X.1 X.2.1 dX9_withPairs_32 rfl (lv_at hl 0 rfl) ?_
      refine gX9_odds X hw wq_1_19 dX9_withPairs_33 ?_
      refine lv_iload_n X.1 X.2.1 dX9_withPairs_36 rfl (lv_at hl 2 rfl) ?_
      refine lv_iload X.1 X.2.1 dX9_withPairs_37 (lv_at hl 3 rfl) ?_
      replace hz_19 := ob_e hz_19
      obtain ⟨r_30, h_29, hz_19⟩ := hz_19
      refine k_Vl (k := 8) (As := [.int y_2, .int y_16]) X hl.1 hw (c_X3_pairParts h_29) (by decide) (he_X3 g h _ _) rfl ⟨wq_32_4, wq_32_5, wq_32_6, wq_1_18, wq_32_7⟩ yo_X3_pairParts rfl ⟨Nat.le_of_ble_eq_true rfl, Nat.le_of_ble_eq_true rfl⟩ (Nat.le_of_ble_eq_true rfl) dX9_withPairs_39 (fun H locs hw => ?_)
      replace hz_19 := ob_e hz_19
      obtain ⟨r_32, h_31, hz_19⟩ := hz_19
      refine k_Vl (k := 0) (As := [.long y_15, .long r_30]) X hl.1 hw (c_X9_withFraction h_31) (by decide) (he_X9 g h _ _) rfl ⟨wq_54_6, wq_54_7, wq_54_8, wq_1_2, wq_54_9⟩ yo_X9_withFraction rfl ⟨Nat.le_of_ble_eq_true rfl, Nat.le_of_ble_eq_true rfl⟩ (Nat.le_of_ble_eq_true rfl) dX9_withPairs_42 (fun H locs hw => ?_)
      refine lv_lstore_n (lv' := [(1, .long r_32), (0, .ref (h 0)), (3, .int y_2), (4, .int y_16)]) X.1 X.2.1 dX9_withPairs_45 rfl hl (by decide) rfl (fun ls hl => ?_)
      obtain ⟨x_33, ex_33⟩ : ∃ y : Int32, y = y_16 + 1 := ⟨_, rfl⟩
      replace hz_19 := lt_e hz_19 ex_33
      refine lv_iinc (v := x_33) (lv' := [(4, .int x_33), (1, .long r_32), (0, .ref (h 0)), (3, .int y_2)]) X.1 X.2.1 dX9_withPairs_46 hl (k := 3) rfl (by rw [ex_33]; rfl) (by decide) rfl (fun ls hl => ?_)
      refine lv_goto (tgt := 18) X.1 X.2.1 dX9_withPairs_49 (by decide) ?_
      exact hn_20 _ (Option.some.inj hz_19).symm _ _ _ hw (lv_sub hl [2, 1, 3, 0] rfl)
def m_X9_digest_L27 (b_6 : ST) (σ : Int64 × Int32) : Option ((Int64 × Int32) ⊕ (Int64)) := (fun (q_47 : Int64 × Int32) => un q_47 (fun y_9 y_10 => if (7 : Int32) < y_10 then some (.inr y_9) else Option.bind (m_X9_count b_6 y_10) (fun (r_43 : Int32) => Option.bind (m_X9_mixed y_9 (r_43.toInt64)) (fun (r_45 : Int64) => lt (y_10 + 1) (fun x_46 => some (.inl (r_45, x_46))))))) σ
def m_X9_digest (b : ST) (w : Nat → ST) : Option (Int64 × ST × (Nat → ST)) := Option.bind (m_X3_fill b) (fun (b_2 : ST) => Option.bind (m_X5_fill b_2) (fun (b_4 : ST) => Option.bind (m_X0_askAll b_4 w) (fun (q_8 : ST × (Nat → ST)) => un q_8 (fun b_6 w_7 => Option.bind (vLoop (m_X9_digest_L27 b_6) FUEL ((17 : Int64), (0 : Int32))) (fun (j_11 : Int64) => Option.bind (m_X9_withLinks b_6 j_11) (fun (q_15 : Int64 × ST) => un q_15 (fun r_13 b_14 => Option.bind (m_X9_withChances b_14 w_7 r_13) (fun (q_20 : Int64 × ST × (Nat → ST)) => un q_20 (fun r_17 q_20 => un q_20 (fun b_18 w_19 => Option.bind (m_X9_withSets b_18 r_17) (fun (r_22 : Int64) => Option.bind (m_X3_worthiestLink b_18) (fun (r_24 : Int32) => Option.bind (m_X9_mixed r_22 (r_24.toInt64)) (fun (r_26 : Int64) => Option.bind (m_X9_withPairs b_18 r_26) (fun (r_28 : Int64) => Option.bind (m_X4_latestFault b_18) (fun (r_30 : Int32) => Option.bind (m_X9_mixed r_28 (r_30.toInt64)) (fun (r_32 : Int64) => some (r_32, b_18, w_19)))))))))))))))))
theorem yo_X9_digest : yX9_digest.cls = RX9 ∧ yX9_digest.cls ≠ "java/lang/invoke/MethodHandle" ∧ yX9_digest.cls ≠ "java/lang/invoke/VarHandle" ∧ (parseMethodDescriptor yX9_digest.desc).map (fun d => d.parameters.length) = some 0 := by decide +kernel
set_option maxHeartbeats 4000000 in
set_option maxRecDepth 100000 in
theorem c_X9_digest {l : Launch} {g : gT} {h : Nat → Nat} {b : ST} {w : Nat → ST} {r : Int64} {b' : ST} {w' : (Nat → ST)} (hm : m_X9_digest b w = some (r, b', w')) : MetL l g yX9_digest cX9_digest 4 (some .long) 18 436 79 h (cC g h (b, w)) (cC g h (b', w')) [.ref (h 0)] r := by
  refine MetL.ofX (by decide +kernel) (Nat.le_of_ble_eq_true rfl) ?_
  intro p e s m below meth c AV Q X hret ls hw hl
  replace X : Cx g p s m AV c cX9_digest RX9 4 := X
  replace hl : lv_has ls 4 [(0, .ref (h 0))] := hl
  unfold m_X9_digest at hm
  refine lv_aload_n X.1 X.2.1 dX9_digest_0 rfl (lv_at hl 0 rfl) ?_
  refine gX9_odds X hw wq_1_19 dX9_digest_1 ?_
  replace hm := ob_e hm
  obtain ⟨b_2, h_1, hm⟩ := hm
  refine k_Vv (k := 8) (As := []) X hl.1 hw (c_X3_fill h_1) (by decide) (he_X3 g h _ _) rfl ⟨wq_15_11, wq_15_12, wq_15_13, wq_1_18, wq_15_14⟩ yo_X3_fill rfl ⟨Nat.le_of_ble_eq_true rfl, Nat.le_of_ble_eq_true rfl⟩ (Nat.le_of_ble_eq_true rfl) dX9_digest_4 (fun H locs hw => ?_)
  refine lv_aload_n X.1 X.2.1 dX9_digest_7 rfl (lv_at hl 0 rfl) ?_
  refine gX9_counts X hw wq_1_23 dX9_digest_8 ?_
  replace hm := ob_e hm
  obtain ⟨b_4, h_3, hm⟩ := hm
  refine k_Vv (k := 10) (As := []) X hl.1 hw (c_X5_fill h_3) (by decide) (he_X5 g h _ _) rfl ⟨wq_33_15, wq_33_16, wq_33_17, wq_1_22, wq_33_18⟩ yo_X5_fill rfl ⟨Nat.le_of_ble_eq_true rfl, Nat.le_of_ble_eq_true rfl⟩ (Nat.le_of_ble_eq_true rfl) dX9_digest_11 (fun H locs hw => ?_)
  refine lv_aload_n X.1 X.2.1 dX9_digest_14 rfl (lv_at hl 0 rfl) ?_
  refine gX9_cutAndJoin X hw wq_2_7 dX9_digest_15 ?_
  replace hm := ob_e hm
  obtain ⟨⟨b_6, w_7⟩, h_5, hm⟩ := hm
  replace hm := un_e hm
  refine k_Vv (k := 14) (As := []) X hl.1 hw (c_X0_askAll h_5) (by decide) (he_X0 g h _ _) rfl ⟨wq_19_18, wq_19_19, wq_19_20, wq_2_6, wq_19_21⟩ yo_X0_askAll rfl ⟨Nat.le_of_ble_eq_true rfl, Nat.le_of_ble_eq_true rfl⟩ (Nat.le_of_ble_eq_true rfl) dX9_digest_18 (fun H locs hw => ?_)
  refine lv_ldc2 (v := 17) X.1 X.2.1 X.2.2.2.1 (X.2.2.2.2.1 _ wq_53_19) dX9_digest_21 ?_
  refine lv_lstore_n (lv' := [(1, .long (17 : Int64)), (0, .ref (h 0))]) X.1 X.2.1 dX9_digest_24 rfl hl (by decide) rfl (fun ls hl => ?_)
  refine lv_iconst (v := 0) X.1 X.2.1 dX9_digest_25 (by decide) ?_
  refine lv_istore_n (lv' := [(3, .int (0 : Int32)), (1, .long (17 : Int64)), (0, .ref (h 0))]) X.1 X.2.1 dX9_digest_26 rfl hl (by decide) rfl (fun ls hl => ?_)
  replace hm := ob_e hm
  obtain ⟨j_11, hL_39, hm⟩ := hm
  have J_38 : ∀ (H : Heap) (locs : List Loc) (ls : Array Slot), Wd g 79 h (cC g h (b_6, w_7)) s H locs → lv_has ls 4 [(0, .ref (h 0)), (1, .long j_11)] → W p l e (rW 18 436) s m AV below meth c H locs 0 0 Q (F0 m 50 ls []) := by
    intro H locs ls hw hl
    refine lv_aload_n X.1 X.2.1 dX9_digest_50 rfl (lv_at hl 0 rfl) ?_
    refine lv_lload_n X.1 X.2.1 dX9_digest_51 rfl (lv_at hl 1 rfl) ?_
    replace hm := ob_e hm
    obtain ⟨⟨r_13, b_14⟩, h_12, hm⟩ := hm
    replace hm := un_e hm
    refine k_Vl (k := 0) (As := [.long j_11]) X hl.1 hw (c_X9_withLinks h_12) (by decide) (he_X9 g h _ _) rfl ⟨wq_54_1, wq_54_2, wq_54_3, wq_1_2, wq_54_4⟩ yo_X9_withLinks rfl ⟨Nat.le_of_ble_eq_true rfl, Nat.le_of_ble_eq_true rfl⟩ (Nat.le_of_ble_eq_true rfl) dX9_digest_52 (fun H locs hw => ?_)
    refine lv_lstore_n (lv' := [(1, .long r_13), (0, .ref (h 0))]) X.1 X.2.1 dX9_digest_55 rfl hl (by decide) rfl (fun ls hl => ?_)
    refine lv_aload_n X.1 X.2.1 dX9_digest_56 rfl (lv_at hl 1 rfl) ?_
    refine lv_lload_n X.1 X.2.1 dX9_digest_57 rfl (lv_at hl 0 rfl) ?_
    replace hm := ob_e hm
    obtain ⟨⟨r_17, b_18, w_19⟩, h_16, hm⟩ := hm
    replace hm := un_e hm
    replace hm := un_e hm
    refine k_Vl (k := 0) (As := [.long r_13]) X hl.1 hw (c_X9_withChances h_16) (by decide) (he_X9 g h _ _) rfl ⟨wq_54_10, wq_54_11, wq_54_12, wq_1_2, wq_54_13⟩ yo_X9_withChances rfl ⟨Nat.le_of_ble_eq_true rfl, Nat.le_of_ble_eq_true rfl⟩ (Nat.le_of_ble_eq_true rfl) dX9_digest_58 (fun H locs hw => ?_)
    refine lv_lstore_n (lv' := [(1, .long r_17), (0, .ref (h 0))]) X.1 X.2.1 dX9_digest_61 rfl hl (by decide) rfl (fun ls hl => ?_)
    refine lv_aload_n X.1 X.2.1 dX9_digest_62 rfl (lv_at hl 1 rfl) ?_
    refine lv_lload_n X.1 X.2.1 dX9_digest_63 rfl (lv_at hl 0 rfl) ?_
    replace hm := ob_e hm
    obtain ⟨r_22, h_21, hm⟩ := hm
    refine k_Vl (k := 0) (As := [.long r_17]) X hl.1 hw (c_X9_withSets h_21) (by decide) (he_X9 g h _ _) rfl ⟨wq_54_14, wq_54_15, wq_54_16, wq_1_2, wq_54_17⟩ yo_X9_withSets rfl ⟨Nat.le_of_ble_eq_true rfl, Nat.le_of_ble_eq_true rfl⟩ (Nat.le_of_ble_eq_true rfl) dX9_digest_64 (fun H locs hw => ?_)
    refine lv_lstore_n (lv' := [(1, .long r_22), (0, .ref (h 0))]) X.1 X.2.1 dX9_digest_67 rfl hl (by decide) rfl (fun ls hl => ?_)
    refine lv_lload_n X.1 X.2.1 dX9_digest_68 rfl (lv_at hl 0 rfl) ?_
    refine lv_aload_n X.1 X.2.1 dX9_digest_69 rfl (lv_at hl 1 rfl) ?_
    refine gX9_odds X hw wq_1_19 dX9_digest_70 ?_
    replace hm := ob_e hm
    obtain ⟨r_24, h_23, hm⟩ := hm
    refine k_Vi (k := 8) (As := []) X hl.1 hw (c_X3_worthiestLink h_23) (by decide) (he_X3 g h _ _) rfl ⟨wq_38_11, wq_38_12, wq_38_13, wq_1_18, wq_38_14⟩ yo_X3_worthiestLink rfl ⟨Nat.le_of_ble_eq_true rfl, Nat.le_of_ble_eq_true rfl⟩ (Nat.le_of_ble_eq_true rfl) dX9_digest_73 (fun H locs hw => ?_)
    refine lv_i2l X.1 X.2.1 dX9_digest_76 rfl ?_
    replace hm := ob_e hm
    obtain ⟨r_26, h_25, hm⟩ := hm
    refine k_Sl (As := [.long r_22, .long r_24.toInt64]) X hl.1 hw (c_X9_mixed h_25) ⟨wq_53_21, wq_53_22, wq_1_2, wq_53_23⟩ yo_X9_mixed rfl ⟨Nat.le_of_ble_eq_true rfl, Nat.le_of_ble_eq_true rfl⟩ (Nat.le_of_ble_eq_true rfl) dX9_digest_77 (fun H locs hw => ?_)
    refine lv_lstore_n (lv' := [(1, .long r_26), (0, .ref (h 0))]) X.1 X.2.1 dX9_digest_80 rfl hl (by decide) rfl (fun ls hl => ?_)
    refine lv_aload_n X.1 X.2.1 dX9_digest_81 rfl (lv_at hl 1 rfl) ?_
    refine lv_lload_n X.1 X.2.1 dX9_digest_82 rfl (lv_at hl 0 rfl) ?_
    replace hm := ob_e hm
    obtain ⟨r_28, h_27, hm⟩ := hm
    refine k_Vl (k := 0) (As := [.long r_26]) X hl.1 hw (c_X9_withPairs h_27) (by decide) (he_X9 g h _ _) rfl ⟨wq_54_18, wq_54_19, wq_54_20, wq_1_2, wq_54_21⟩ yo_X9_withPairs rfl ⟨Nat.le_of_ble_eq_true rfl, Nat.le_of_ble_eq_true rfl⟩ (Nat.le_of_ble_eq_true rfl) dX9_digest_83 (fun H locs hw => ?_)
    refine lv_lstore_n (lv' := [(1, .long r_28), (0, .ref (h 0))]) X.1 X.2.1 dX9_digest_86 rfl hl (by decide) rfl (fun ls hl => ?_)
    refine lv_lload_n X.1 X.2.1 dX9_digest_87 rfl (lv_at hl 0 rfl) ?_
    refine lv_aload_n X.1 X.2.1 dX9_digest_88 rfl (lv_at hl 1 rfl) ?_
    refine gX9_orders X hw wq_2_11 dX9_digest_89 ?_
    replace hm := ob_e hm
    obtain ⟨r_30, h_29, hm⟩ := hm
    refine k_Vi (k := 16) (As := []) X hl.1 hw (c_X4_latestFault h_29) (by decide) (he_X4 g h _ _) rfl ⟨wq_46_7, wq_46_8, wq_46_9, wq_2_10, wq_46_10⟩ yo_X4_latestFault rfl ⟨Nat.le_of_ble_eq_true rfl, Nat.le_of_ble_eq_true rfl⟩ (Nat.le_of_ble_eq_true rfl) dX9_digest_92 (fun H locs hw => ?_)
    refine lv_i2l X.1 X.2.1 dX9_digest_95 rfl ?_
    replace hm := ob_e hm
    obtain ⟨r_32, h_31, hm⟩ := hm
    refine k_Sl (As := [.long r_28, .long r_30.toInt64]) X hl.1 hw (c_X9_mixed h_31) ⟨wq_53_21, wq_53_22, wq_1_2, wq_53_23⟩ yo_X9_mixed rfl ⟨Nat.le_of_ble_eq_true rfl, Nat.le_of_ble_eq_true rfl⟩ (Nat.le_of_ble_eq_true rfl) dX9_digest_96 (fun H locs hw => ?_)
    obtain ⟨rfl, q_33⟩ := Prod.mk.inj (Option.some.inj hm)
    obtain ⟨rfl, rfl⟩ := Prod.mk.inj q_33
    exact hret _ _ _ _ hw dX9_digest_99
  refine vLoop_ind (B := (m_X9_digest_L27 b_6)) (fun σ => ∀ (H : Heap) (locs : List Loc) (ls : Array Slot), Wd g 79 h (cC g h (b_6, w_7)) s H locs → lv_has ls 4 [(0, .ref (h 0)), (1, .long σ.1), (3, .int σ.2)] → W p l e (rW 18 436) s m AV below meth c H locs 0 0 Q (F0 m 27 ls [])) (fun z' => z' = j_11) ?_ FUEL _ _ hL_39 rfl _ _ _ hw (lv_sub hl [2, 1, 0] rfl)
  intro σ z_37 hz_34 hn_35 hx_36
  obtain ⟨y_9, y_10⟩ := σ
  intro H locs ls hw hl
  replace hw : Wd g 79 h (cC g h (b_6, w_7)) s H locs := hw
  replace hl : lv_has ls 4 [(0, .ref (h 0)), (1, .long y_9), (3, .int y_10)] := hl
  unfold m_X9_digest_L27 at hz_34
  replace hz_34 := un_e hz_34
  refine lv_iload_n X.1 X.2.1 dX9_digest_27 rfl (lv_at hl 2 rfl) ?_
  refine lv_bipush (v := 7) X.1 X.2.1 dX9_digest_28 (by decide) ?_
  refine lv_icmp_gt (tgt := 50) X.1 X.2.1 dX9_digest_30 (by decide) (fun c_41 => ?_) (fun c_41 => ?_)
  · replace hz_34 := it_p hz_34 c_41
    obtain rfl := hx_36 _ (Option.some.inj hz_34).symm
    exact J_38 _ _ _ hw (lv_sub hl [0, 1] rfl)
  · replace hz_34 := it_n hz_34 c_41
    refine lv_lload_n X.1 X.2.1 dX9_digest_33 rfl (lv_at hl 1 rfl) ?_
    refine lv_aload_n X.1 X.2.1 dX9_digest_34 rfl (lv_at hl 0 rfl) ?_
    refine lv_iload_n X.1 X.2.1 dX9_digest_35 rfl (lv_at hl 2 rfl) ?_
    replace hz_34 := ob_e hz_34
    obtain ⟨r_43, h_42, hz_34⟩ := hz_34
    refine k_Vi (k := 0) (As := [.int y_10]) X hl.1 hw (c_X9_count h_42) (by decide) (he_X9 g h _ _) rfl ⟨wq_53_20, wq_52_8, wq_52_9, wq_1_2, wq_52_10⟩ yo_X9_count rfl ⟨Nat.le_of_ble_eq_true rfl, Nat.le_of_ble_eq_true rfl⟩ (Nat.le_of_ble_eq_true rfl) dX9_digest_36 (fun H locs hw => ?_)
    refine lv_i2l X.1 X.2.1 dX9_digest_39 rfl ?_
    replace hz_34 := ob_e hz_34
    obtain ⟨r_45, h_44, hz_34⟩ := hz_34
    refine k_Sl (As := [.long y_9, .long r_43.toInt64]) X hl.1 hw (c_X9_mixed h_44) ⟨wq_53_21, wq_53_22, wq_1_2, wq_53_23⟩ yo_X9_mixed rfl ⟨Nat.le_of_ble_eq_true rfl, Nat.le_of_ble_eq_true rfl⟩ (Nat.le_of_ble_eq_true rfl) dX9_digest_40 (fun H locs hw => ?_)
    refine lv_lstore_n (lv' := [(1, .long r_45), (0, .ref (h 0)), (3, .int y_10)]) X.1 X.2.1 dX9_digest_43 rfl hl (by decide) rfl (fun ls hl => ?_)
    obtain ⟨x_46, ex_46⟩ : ∃ y : Int32, y = y_10 + 1 := ⟨_, rfl⟩
    replace hz_34 := lt_e hz_34 ex_46
    refine lv_iinc (v := x_46) (lv' := [(3, .int x_46), (1, .long r_45), (0, .ref (h 0))]) X.1 X.2.1 dX9_digest_44 hl (k := 2) rfl (by rw [ex_46]; rfl) (by decide) rfl (fun ls hl => ?_)
    refine lv_goto (tgt := 27) X.1 X.2.1 dX9_digest_47 (by decide) ?_
    exact hn_35 _ (Option.some.inj hz_34).symm _ _ _ hw (lv_sub hl [2, 1, 0] rfl)
