def m_X1_isChance (x0 : Int64) (x2 : Int64) : Option (Int32) := if (lg_cmp x2 (1 : Int64)) < 0 then some (0 : Int32) else if 0 < (lg_cmp x2 (9 : Int64)) then some (0 : Int32) else if (lg_cmp x0 (0 : Int64)) < 0 then some (0 : Int32) else if 0 < (lg_cmp x0 x2) then some (0 : Int32) else some (1 : Int32)
theorem yo_X1_isChance : yX1_isChance.cls ≠ "java/lang/invoke/MethodHandle" ∧ yX1_isChance.cls ≠ "java/lang/invoke/VarHandle" ∧ (parseMethodDescriptor yX1_isChance.desc).map (fun d => d.parameters.length) = some 2 := by decide +kernel
set_option maxHeartbeats 4000000 in
set_option maxRecDepth 100000 in
theorem c_X1_isChance {l : Launch} {g : gT} {n : Nat} {h : Nat → Nat} {cel : Nat → va_E} {x0 : Int64} {x2 : Int64} {r : Int32} (hm : m_X1_isChance x0 x2 = some r) : MetI l g yX1_isChance cX1_isChance 4 (some .boolean) 0 0 n h (cel) (cel) [.long x0, .long x2] r := by
  refine MetZ.ofX (by decide +kernel) (Nat.le_of_ble_eq_true rfl) ?_
  intro p e s m below meth c AV Q X hret ls hw hl
  have X : Cx g p s m AV c cX1_isChance RX1 4 := X
  have hl : lv_has ls 4 [(0, .long x0), (2, .long x2)] := hl
  unfold m_X1_isChance at hm
  refine lv_lload_n X.1 X.2.1 dX1_isChance_0 rfl (lv_at hl 1 rfl) ?_
  refine lv_lconst (v := 1) X.1 X.2.1 dX1_isChance_1 (by decide) ?_
  refine W.lcmp X.1 X.2.1 dX1_isChance_2 ?_
  refine lv_if_lt (tgt := 30) X.1 X.2.1 dX1_isChance_3 (by decide) (fun c_1 => ?_) (fun c_1 => ?_)
  · have hm := it_p hm c_1
    refine lv_iconst (v := 0) X.1 X.2.1 dX1_isChance_30 (by decide) ?_
    cases hm
    exact hret _ _ _ _ hw dX1_isChance_31 (Or.inl rfl)
  · have hm := it_n hm c_1
    refine lv_lload_n X.1 X.2.1 dX1_isChance_6 rfl (lv_at hl 1 rfl) ?_
    refine lv_ldc2 (v := 9) X.1 X.2.1 X.2.2.2.1 (X.2.2.2.2.1 _ wq_8_0) dX1_isChance_7 ?_
    refine W.lcmp X.1 X.2.1 dX1_isChance_10 ?_
    refine lv_if_gt (tgt := 30) X.1 X.2.1 dX1_isChance_11 (by decide) (fun c_2 => ?_) (fun c_2 => ?_)
    · have hm := it_p hm c_2
      refine lv_iconst (v := 0) X.1 X.2.1 dX1_isChance_30 (by decide) ?_
      cases hm
      exact hret _ _ _ _ hw dX1_isChance_31 (Or.inl rfl)
    · have hm := it_n hm c_2
      refine lv_lload_n X.1 X.2.1 dX1_isChance_14 rfl (lv_at hl 0 rfl) ?_
      refine lv_lconst (v := 0) X.1 X.2.1 dX1_isChance_15 (by decide) ?_
      refine W.lcmp X.1 X.2.1 dX1_isChance_16 ?_
      refine lv_if_lt (tgt := 30) X.1 X.2.1 dX1_isChance_17 (by decide) (fun c_3 => ?_) (fun c_3 => ?_)
      · have hm := it_p hm c_3
        refine lv_iconst (v := 0) X.1 X.2.1 dX1_isChance_30 (by decide) ?_
        cases hm
        exact hret _ _ _ _ hw dX1_isChance_31 (Or.inl rfl)
      · have hm := it_n hm c_3
        refine lv_lload_n X.1 X.2.1 dX1_isChance_20 rfl (lv_at hl 0 rfl) ?_
        refine lv_lload_n X.1 X.2.1 dX1_isChance_21 rfl (lv_at hl 1 rfl) ?_
        refine W.lcmp X.1 X.2.1 dX1_isChance_22 ?_
        refine lv_if_gt (tgt := 30) X.1 X.2.1 dX1_isChance_23 (by decide) (fun c_4 => ?_) (fun c_4 => ?_)
        · have hm := it_p hm c_4
          refine lv_iconst (v := 0) X.1 X.2.1 dX1_isChance_30 (by decide) ?_
          cases hm
          exact hret _ _ _ _ hw dX1_isChance_31 (Or.inl rfl)
        · have hm := it_n hm c_4
          refine lv_iconst (v := 1) X.1 X.2.1 dX1_isChance_26 (by decide) ?_
          refine lv_goto (tgt := 31) X.1 X.2.1 dX1_isChance_27 (by decide) ?_
          cases hm
          exact hret _ _ _ _ hw dX1_isChance_31 (Or.inr rfl)
def m_X2_hasStation (b : ST) (x1 : Int64) : Option (Int32) := if (lg_cmp x1 (0 : Int64)) < 0 then some (0 : Int32) else if 0 ≤ (lg_cmp x1 ((b.1 0).toInt64)) then some (0 : Int32) else some (1 : Int32)
theorem yo_X2_hasStation : yX2_hasStation.cls = RX2 ∧ yX2_hasStation.cls ≠ "java/lang/invoke/MethodHandle" ∧ yX2_hasStation.cls ≠ "java/lang/invoke/VarHandle" ∧ (parseMethodDescriptor yX2_hasStation.desc).map (fun d => d.parameters.length) = some 1 := by decide +kernel
set_option maxHeartbeats 4000000 in
set_option maxRecDepth 100000 in
theorem c_X2_hasStation {l : Launch} {g : gT} {h : Nat → Nat} {b : ST} {w : Nat → ST} {x1 : Int64} {r : Int32} (hm : m_X2_hasStation b x1 = some r) : MetI l g yX2_hasStation cX2_hasStation 3 (some .boolean) 0 0 79 h (cC g h (b, w)) (cC g h (b, w)) [.ref (h 1), .long x1] r := by
  refine MetZ.ofX (by decide +kernel) (Nat.le_of_ble_eq_true rfl) ?_
  intro p e s m below meth c AV Q X hret ls hw hl
  have X : Cx g p s m AV c cX2_hasStation RX2 3 := X
  have hl : lv_has ls 3 [(0, .ref (h 1)), (1, .long x1)] := hl
  unfold m_X2_hasStation at hm
  refine lv_lload_n X.1 X.2.1 dX2_hasStation_0 rfl (lv_at hl 1 rfl) ?_
  refine lv_lconst (v := 0) X.1 X.2.1 dX2_hasStation_1 (by decide) ?_
  refine W.lcmp X.1 X.2.1 dX2_hasStation_2 ?_
  refine lv_if_lt (tgt := 20) X.1 X.2.1 dX2_hasStation_3 (by decide) (fun c_1 => ?_) (fun c_1 => ?_)
  · have hm := it_p hm c_1
    refine lv_iconst (v := 0) X.1 X.2.1 dX2_hasStation_20 (by decide) ?_
    cases hm
    exact hret _ _ _ _ hw dX2_hasStation_21 (Or.inl rfl)
  · have hm := it_n hm c_1
    refine lv_lload_n X.1 X.2.1 dX2_hasStation_6 rfl (lv_at hl 1 rfl) ?_
    refine lv_aload_n X.1 X.2.1 dX2_hasStation_7 rfl (lv_at hl 0 rfl) ?_
    refine gX2_stationCount X hw wq_3_4 dX2_hasStation_8 ?_
    refine lv_i2l X.1 X.2.1 dX2_hasStation_11 rfl ?_
    refine W.lcmp X.1 X.2.1 dX2_hasStation_12 ?_
    refine lv_if_ge (tgt := 20) X.1 X.2.1 dX2_hasStation_13 (by decide) (fun c_2 => ?_) (fun c_2 => ?_)
    · have hm := it_p hm c_2
      refine lv_iconst (v := 0) X.1 X.2.1 dX2_hasStation_20 (by decide) ?_
      cases hm
      exact hret _ _ _ _ hw dX2_hasStation_21 (Or.inl rfl)
    · have hm := it_n hm c_2
      refine lv_iconst (v := 1) X.1 X.2.1 dX2_hasStation_16 (by decide) ?_
      refine lv_goto (tgt := 21) X.1 X.2.1 dX2_hasStation_17 (by decide) ?_
      cases hm
      exact hret _ _ _ _ hw dX2_hasStation_21 (Or.inr rfl)
def m_X2_mayLink (b : ST) (x1 : Int64) (x3 : Int64) (x5 : Int64) (x7 : Int64) : Option (Int32) := Option.bind (m_X2_hasStation b x1) (fun (r_2 : Int32) => if r_2 = 0 then some (0 : Int32) else Option.bind (m_X2_hasStation b x3) (fun (r_5 : Int32) => if r_5 = 0 then some (0 : Int32) else if (lg_cmp x1 x3) = 0 then some (0 : Int32) else Option.bind (m_X1_isChance x5 x7) (fun (r_9 : Int32) => if r_9 = 0 then some (0 : Int32) else some (1 : Int32))))
theorem yo_X2_mayLink : yX2_mayLink.cls = RX2 ∧ yX2_mayLink.cls ≠ "java/lang/invoke/MethodHandle" ∧ yX2_mayLink.cls ≠ "java/lang/invoke/VarHandle" ∧ (parseMethodDescriptor yX2_mayLink.desc).map (fun d => d.parameters.length) = some 4 := by decide +kernel
set_option maxHeartbeats 4000000 in
set_option maxRecDepth 100000 in
theorem c_X2_mayLink {l : Launch} {g : gT} {h : Nat → Nat} {b : ST} {w : Nat → ST} {x1 : Int64} {x3 : Int64} {x5 : Int64} {x7 : Int64} {r : Int32} (hm : m_X2_mayLink b x1 x3 x5 x7 = some r) : MetI l g yX2_mayLink cX2_mayLink 9 (some .boolean) 1 23 79 h (cC g h (b, w)) (cC g h (b, w)) [.ref (h 1), .long x1, .long x3, .long x5, .long x7] r := by
  refine MetZ.ofX (by decide +kernel) (Nat.le_of_ble_eq_true rfl) ?_
  intro p e s m below meth c AV Q X hret ls hw hl
  have X : Cx g p s m AV c cX2_mayLink RX2 9 := X
  have hl : lv_has ls 9 [(0, .ref (h 1)), (1, .long x1), (3, .long x3), (5, .long x5), (7, .long x7)] := hl
  unfold m_X2_mayLink at hm
  refine lv_aload_n X.1 X.2.1 dX2_mayLink_0 rfl (lv_at hl 0 rfl) ?_
  refine lv_lload_n X.1 X.2.1 dX2_mayLink_1 rfl (lv_at hl 1 rfl) ?_
  obtain ⟨r_2, h_1, hm⟩ := ob_e hm
  refine k_Vi (k := 1) (As := [.long x1]) X hl.1 hw (c_X2_hasStation h_1) (by decide) (he_X2 g h _ _) rfl ⟨wq_7_16, wq_7_17, wq_7_18, wq_1_14, wq_7_19⟩ yo_X2_hasStation rfl ⟨Nat.le_of_ble_eq_true rfl, Nat.le_of_ble_eq_true rfl⟩ (Nat.le_of_ble_eq_true rfl) dX2_mayLink_2 (fun H locs hw => ?_)
  refine lv_if_eq (tgt := 36) X.1 X.2.1 dX2_mayLink_5 (by decide) (fun c_3 => ?_) (fun c_3 => ?_)
  · have hm := it_p hm c_3
    refine lv_iconst (v := 0) X.1 X.2.1 dX2_mayLink_36 (by decide) ?_
    cases hm
    exact hret _ _ _ _ hw dX2_mayLink_37 (Or.inl rfl)
  · have hm := it_n hm c_3
    refine lv_aload_n X.1 X.2.1 dX2_mayLink_8 rfl (lv_at hl 0 rfl) ?_
    refine lv_lload_n X.1 X.2.1 dX2_mayLink_9 rfl (lv_at hl 2 rfl) ?_
    obtain ⟨r_5, h_4, hm⟩ := ob_e hm
    refine k_Vi (k := 1) (As := [.long x3]) X hl.1 hw (c_X2_hasStation h_4) (by decide) (he_X2 g h _ _) rfl ⟨wq_7_16, wq_7_17, wq_7_18, wq_1_14, wq_7_19⟩ yo_X2_hasStation rfl ⟨Nat.le_of_ble_eq_true rfl, Nat.le_of_ble_eq_true rfl⟩ (Nat.le_of_ble_eq_true rfl) dX2_mayLink_10 (fun H locs hw => ?_)
    refine lv_if_eq (tgt := 36) X.1 X.2.1 dX2_mayLink_13 (by decide) (fun c_6 => ?_) (fun c_6 => ?_)
    · have hm := it_p hm c_6
      refine lv_iconst (v := 0) X.1 X.2.1 dX2_mayLink_36 (by decide) ?_
      cases hm
      exact hret _ _ _ _ hw dX2_mayLink_37 (Or.inl rfl)
    · have hm := it_n hm c_6
      refine lv_lload_n X.1 X.2.1 dX2_mayLink_16 rfl (lv_at hl 1 rfl) ?_
      refine lv_lload_n X.1 X.2.1 dX2_mayLink_17 rfl (lv_at hl 2 rfl) ?_
      refine W.lcmp X.1 X.2.1 dX2_mayLink_18 ?_
      refine lv_if_eq (tgt := 36) X.1 X.2.1 dX2_mayLink_19 (by decide) (fun c_7 => ?_) (fun c_7 => ?_)
      · have hm := it_p hm c_7
        refine lv_iconst (v := 0) X.1 X.2.1 dX2_mayLink_36 (by decide) ?_
        cases hm
        exact hret _ _ _ _ hw dX2_mayLink_37 (Or.inl rfl)
      · have hm := it_n hm c_7
        refine lv_lload X.1 X.2.1 dX2_mayLink_22 (lv_at hl 3 rfl) ?_
        refine lv_lload X.1 X.2.1 dX2_mayLink_24 (lv_at hl 4 rfl) ?_
        obtain ⟨r_9, h_8, hm⟩ := ob_e hm
        refine k_Si (As := [.long x5, .long x7]) X hl.1 hw (c_X1_isChance h_8) ⟨wq_7_20, wq_7_21, wq_7_22, wq_7_23⟩ yo_X1_isChance rfl ⟨Nat.le_of_ble_eq_true rfl, Nat.le_of_ble_eq_true rfl⟩ (Nat.le_of_ble_eq_true rfl) dX2_mayLink_26 (fun H locs hw => ?_)
        refine lv_if_eq (tgt := 36) X.1 X.2.1 dX2_mayLink_29 (by decide) (fun c_10 => ?_) (fun c_10 => ?_)
        · have hm := it_p hm c_10
          refine lv_iconst (v := 0) X.1 X.2.1 dX2_mayLink_36 (by decide) ?_
          cases hm
          exact hret _ _ _ _ hw dX2_mayLink_37 (Or.inl rfl)
        · have hm := it_n hm c_10
          refine lv_iconst (v := 1) X.1 X.2.1 dX2_mayLink_32 (by decide) ?_
          refine lv_goto (tgt := 37) X.1 X.2.1 dX2_mayLink_33 (by decide) ?_
          cases hm
          exact hret _ _ _ _ hw dX2_mayLink_37 (Or.inr rfl)
def m_X2_hasLink (b : ST) (x1 : Int32) : Option (Int32) := if x1 < 0 then some (0 : Int32) else if (b.1 1) ≤ x1 then some (0 : Int32) else if (10 : Int32) ≤ x1 then some (0 : Int32) else some (1 : Int32)
theorem yo_X2_hasLink : yX2_hasLink.cls = RX2 ∧ yX2_hasLink.cls ≠ "java/lang/invoke/MethodHandle" ∧ yX2_hasLink.cls ≠ "java/lang/invoke/VarHandle" ∧ (parseMethodDescriptor yX2_hasLink.desc).map (fun d => d.parameters.length) = some 1 := by decide +kernel
set_option maxHeartbeats 4000000 in
set_option maxRecDepth 100000 in
theorem c_X2_hasLink {l : Launch} {g : gT} {h : Nat → Nat} {b : ST} {w : Nat → ST} {x1 : Int32} {r : Int32} (hm : m_X2_hasLink b x1 = some r) : MetI l g yX2_hasLink cX2_hasLink 2 (some .boolean) 0 0 79 h (cC g h (b, w)) (cC g h (b, w)) [.ref (h 1), .int x1] r := by
  refine MetZ.ofX (by decide +kernel) (Nat.le_of_ble_eq_true rfl) ?_
  intro p e s m below meth c AV Q X hret ls hw hl
  have X : Cx g p s m AV c cX2_hasLink RX2 2 := X
  have hl : lv_has ls 2 [(0, .ref (h 1)), (1, .int x1)] := hl
  unfold m_X2_hasLink at hm
  refine lv_iload_n X.1 X.2.1 dX2_hasLink_0 rfl (lv_at hl 1 rfl) ?_
  refine lv_if_lt (tgt := 22) X.1 X.2.1 dX2_hasLink_1 (by decide) (fun c_1 => ?_) (fun c_1 => ?_)
  · have hm := it_p hm c_1
    refine lv_iconst (v := 0) X.1 X.2.1 dX2_hasLink_22 (by decide) ?_
    cases hm
    exact hret _ _ _ _ hw dX2_hasLink_23 (Or.inl rfl)
  · have hm := it_n hm c_1
    refine lv_iload_n X.1 X.2.1 dX2_hasLink_4 rfl (lv_at hl 1 rfl) ?_
    refine lv_aload_n X.1 X.2.1 dX2_hasLink_5 rfl (lv_at hl 0 rfl) ?_
    refine gX2_linkCount X hw wq_6_17 dX2_hasLink_6 ?_
    refine lv_icmp_ge (tgt := 22) X.1 X.2.1 dX2_hasLink_9 (by decide) (fun c_2 => ?_) (fun c_2 => ?_)
    · have hm := it_p hm c_2
      refine lv_iconst (v := 0) X.1 X.2.1 dX2_hasLink_22 (by decide) ?_
      cases hm
      exact hret _ _ _ _ hw dX2_hasLink_23 (Or.inl rfl)
    · have hm := it_n hm c_2
      refine lv_iload_n X.1 X.2.1 dX2_hasLink_12 rfl (lv_at hl 1 rfl) ?_
      refine lv_bipush (v := 10) X.1 X.2.1 dX2_hasLink_13 (by decide) ?_
      refine lv_icmp_ge (tgt := 22) X.1 X.2.1 dX2_hasLink_15 (by decide) (fun c_3 => ?_) (fun c_3 => ?_)
      · have hm := it_p hm c_3
        refine lv_iconst (v := 0) X.1 X.2.1 dX2_hasLink_22 (by decide) ?_
        cases hm
        exact hret _ _ _ _ hw dX2_hasLink_23 (Or.inl rfl)
      · have hm := it_n hm c_3
        refine lv_iconst (v := 1) X.1 X.2.1 dX2_hasLink_18 (by decide) ?_
        refine lv_goto (tgt := 23) X.1 X.2.1 dX2_hasLink_19 (by decide) ?_
        cases hm
        exact hret _ _ _ _ hw dX2_hasLink_23 (Or.inr rfl)
def m_X2_seenOf (b : ST) (x1 : Int32) : Option (Int32) := Option.bind (m_X2_hasLink b x1) (fun (r_2 : Int32) => if r_2 = 0 then some (0 : Int32) else gd (¬ (x1 < 0 ∨ 10 ≤ x1.toNatClampNeg)) (some (b.2.2.1 4 x1.toNatClampNeg)))
theorem yo_X2_seenOf : yX2_seenOf.cls = RX2 ∧ yX2_seenOf.cls ≠ "java/lang/invoke/MethodHandle" ∧ yX2_seenOf.cls ≠ "java/lang/invoke/VarHandle" ∧ (parseMethodDescriptor yX2_seenOf.desc).map (fun d => d.parameters.length) = some 1 := by decide +kernel
set_option maxHeartbeats 4000000 in
set_option maxRecDepth 100000 in
theorem c_X2_seenOf {l : Launch} {g : gT} {h : Nat → Nat} {b : ST} {w : Nat → ST} {x1 : Int32} {r : Int32} (hm : m_X2_seenOf b x1 = some r) : MetI l g yX2_seenOf cX2_seenOf 2 (some .int) 1 21 79 h (cC g h (b, w)) (cC g h (b, w)) [.ref (h 1), .int x1] r := by
  refine MetI.ofX (by decide +kernel) (Nat.le_of_ble_eq_true rfl) ?_
  intro p e s m below meth c AV Q X hret ls hw hl
  have X : Cx g p s m AV c cX2_seenOf RX2 2 := X
  have hl : lv_has ls 2 [(0, .ref (h 1)), (1, .int x1)] := hl
  unfold m_X2_seenOf at hm
  refine lv_aload_n X.1 X.2.1 dX2_seenOf_0 rfl (lv_at hl 0 rfl) ?_
  refine lv_iload_n X.1 X.2.1 dX2_seenOf_1 rfl (lv_at hl 1 rfl) ?_
  obtain ⟨r_2, h_1, hm⟩ := ob_e hm
  refine k_Vi (k := 1) (As := [.int x1]) X hl.1 hw (c_X2_hasLink h_1) (by decide) (he_X2 g h _ _) rfl ⟨wq_9_0, wq_9_1, wq_9_2, wq_1_14, wq_9_3⟩ yo_X2_hasLink rfl ⟨Nat.le_of_ble_eq_true rfl, Nat.le_of_ble_eq_true rfl⟩ (Nat.le_of_ble_eq_true rfl) dX2_seenOf_2 (fun H locs hw => ?_)
  refine lv_if_eq (tgt := 17) X.1 X.2.1 dX2_seenOf_5 (by decide) (fun c_3 => ?_) (fun c_3 => ?_)
  · have hm := it_p hm c_3
    refine lv_iconst (v := 0) X.1 X.2.1 dX2_seenOf_17 (by decide) ?_
    cases hm
    exact hret _ _ _ _ hw dX2_seenOf_18
  · have hm := it_n hm c_3
    refine lv_aload_n X.1 X.2.1 dX2_seenOf_8 rfl (lv_at hl 0 rfl) ?_
    refine gX2_seens X hw wq_3_1 dX2_seenOf_9 ?_
    refine lv_iload_n X.1 X.2.1 dX2_seenOf_12 rfl (lv_at hl 1 rfl) ?_
    obtain ⟨g_4, hm⟩ := gd_e hm
    refine lA4 X hw g_4 dX2_seenOf_13 ?_
    refine lv_goto (tgt := 18) X.1 X.2.1 dX2_seenOf_14 (by decide) ?_
    cases hm
    exact hret _ _ _ _ hw dX2_seenOf_18
def m_X2_linksSeen_L4 (x1 : Int32) (b : ST) (σ : Int32 × Int32) : Option ((Int32 × Int32) ⊕ (Int32)) := (fun (q_18 : Int32 × Int32) => un q_18 (fun y_1 y_2 => if (b.1 1) ≤ y_2 then some (.inr y_1) else Option.bind (m_X2_seenOf b y_2) (fun (r_13 : Int32) => if r_13 = x1 then lt (y_1 ||| ((1 : Int32) <<< (y_2 &&& 31))) (fun x_16 => lt (y_2 + 1) (fun x_17 => some (.inl (x_16, x_17)))) else lt (y_2 + 1) (fun x_15 => some (.inl (y_1, x_15)))))) σ
def m_X2_linksSeen (b : ST) (x1 : Int32) : Option (Int32) := Option.bind (vLoop (m_X2_linksSeen_L4 x1 b) FUEL ((0 : Int32), (0 : Int32))) (fun (j_3 : Int32) => some j_3)
theorem yo_X2_linksSeen : yX2_linksSeen.cls = RX2 ∧ yX2_linksSeen.cls ≠ "java/lang/invoke/MethodHandle" ∧ yX2_linksSeen.cls ≠ "java/lang/invoke/VarHandle" ∧ (parseMethodDescriptor yX2_linksSeen.desc).map (fun d => d.parameters.length) = some 1 := by decide +kernel
set_option maxHeartbeats 4000000 in
set_option maxRecDepth 100000 in
theorem c_X2_linksSeen {l : Launch} {g : gT} {h : Nat → Nat} {b : ST} {w : Nat → ST} {x1 : Int32} {r : Int32} (hm : m_X2_linksSeen b x1 = some r) : MetI l g yX2_linksSeen cX2_linksSeen 4 (some .int) 2 42 79 h (cC g h (b, w)) (cC g h (b, w)) [.ref (h 1), .int x1] r := by
  refine MetI.ofX (by decide +kernel) (Nat.le_of_ble_eq_true rfl) ?_
  intro p e s m below meth c AV Q X hret ls hw hl
  have X : Cx g p s m AV c cX2_linksSeen RX2 4 := X
  have hl : lv_has ls 4 [(0, .ref (h 1)), (1, .int x1)] := hl
  unfold m_X2_linksSeen at hm
  refine lv_iconst (v := 0) X.1 X.2.1 dX2_linksSeen_0 (by decide) ?_
  refine lv_istore_n (lv' := [(2, .int (0 : Int32)), (0, .ref (h 1)), (1, .int x1)]) X.1 X.2.1 dX2_linksSeen_1 rfl hl (by decide) rfl (fun ls hl => ?_)
  refine lv_iconst (v := 0) X.1 X.2.1 dX2_linksSeen_2 (by decide) ?_
  refine lv_istore_n (lv' := [(3, .int (0 : Int32)), (2, .int (0 : Int32)), (0, .ref (h 1)), (1, .int x1)]) X.1 X.2.1 dX2_linksSeen_3 rfl hl (by decide) rfl (fun ls hl => ?_)
  obtain ⟨j_3, hL_9, hm⟩ := ob_e hm
  have J_8 : ∀ (H : Heap) (locs : List Loc) (ls : Array Slot), Wd g 79 h (cC g h (b, w)) s H locs → lv_has ls 4 [(2, .int j_3)] → W p l e (rW 2 42) s m AV below meth c H locs 0 0 Q (F0 m 33 ls []) := by
    intro H locs ls hw hl
    refine lv_iload_n X.1 X.2.1 dX2_linksSeen_33 rfl (lv_at hl 0 rfl) ?_
    cases hm
    exact hret _ _ _ _ hw dX2_linksSeen_34
  refine vLoop_ind (B := (m_X2_linksSeen_L4 x1 b)) (fun σ => ∀ (H : Heap) (locs : List Loc) (ls : Array Slot), Wd g 79 h (cC g h (b, w)) s H locs → lv_has ls 4 [(0, .ref (h 1)), (1, .int x1), (2, .int σ.1), (3, .int σ.2)] → W p l e (rW 2 42) s m AV below meth c H locs 0 0 Q (F0 m 4 ls [])) (fun z' => z' = j_3) ?_ FUEL _ _ hL_9 rfl _ _ _ hw (lv_sub hl [2, 3, 1, 0] rfl)
  intro σ z_7 hz_4 hn_5 hx_6
  obtain ⟨y_1, y_2⟩ := σ
  intro H locs ls hw hl
  have hw : Wd g 79 h (cC g h (b, w)) s H locs := hw
  have hl : lv_has ls 4 [(0, .ref (h 1)), (1, .int x1), (2, .int y_1), (3, .int y_2)] := hl
  unfold m_X2_linksSeen_L4 at hz_4
  have hz_4 := un_e hz_4
  refine lv_iload_n X.1 X.2.1 dX2_linksSeen_4 rfl (lv_at hl 3 rfl) ?_
  refine lv_aload_n X.1 X.2.1 dX2_linksSeen_5 rfl (lv_at hl 0 rfl) ?_
  refine gX2_linkCount X hw wq_6_17 dX2_linksSeen_6 ?_
  refine lv_icmp_ge (tgt := 33) X.1 X.2.1 dX2_linksSeen_9 (by decide) (fun c_11 => ?_) (fun c_11 => ?_)
  · have hz_4 := it_p hz_4 c_11
    have he_10 := hx_6 _ (Option.some.inj hz_4).symm
    cases he_10
    exact J_8 _ _ _ hw (lv_sub hl [2] rfl)
  · have hz_4 := it_n hz_4 c_11
    refine lv_aload_n X.1 X.2.1 dX2_linksSeen_12 rfl (lv_at hl 0 rfl) ?_
    refine lv_iload_n X.1 X.2.1 dX2_linksSeen_13 rfl (lv_at hl 3 rfl) ?_
    obtain ⟨r_13, h_12, hz_4⟩ := ob_e hz_4
    refine k_Vi (k := 1) (As := [.int y_2]) X hl.1 hw (c_X2_seenOf h_12) (by decide) (he_X2 g h _ _) rfl ⟨wq_16_4, wq_12_9, wq_12_10, wq_1_14, wq_12_11⟩ yo_X2_seenOf rfl ⟨Nat.le_of_ble_eq_true rfl, Nat.le_of_ble_eq_true rfl⟩ (Nat.le_of_ble_eq_true rfl) dX2_linksSeen_14 (fun H locs hw => ?_)
    refine lv_iload_n X.1 X.2.1 dX2_linksSeen_17 rfl (lv_at hl 1 rfl) ?_
    refine lv_icmp_ne (tgt := 27) X.1 X.2.1 dX2_linksSeen_18 (by decide) (fun c_14 => ?_) (fun c_14 => ?_)
    · have hz_4 := it_n hz_4 c_14
      obtain ⟨x_15, ex_15⟩ : ∃ y : Int32, y = y_2 + 1 := ⟨_, rfl⟩
      have hz_4 := lt_e hz_4 ex_15
      refine lv_iinc (v := x_15) (lv' := [(3, .int x_15), (0, .ref (h 1)), (1, .int x1), (2, .int y_1)]) X.1 X.2.1 dX2_linksSeen_27 hl (k := 3) rfl (by rw [ex_15]; rfl) (by decide) rfl (fun ls hl => ?_)
      refine lv_goto (tgt := 4) X.1 X.2.1 dX2_linksSeen_30 (by decide) ?_
      exact hn_5 _ (Option.some.inj hz_4).symm _ _ _ hw (lv_sub hl [1, 2, 3, 0] rfl)
    · have hz_4 := it_p hz_4 c_14
      refine lv_iload_n X.1 X.2.1 dX2_linksSeen_21 rfl (lv_at hl 2 rfl) ?_
      refine lv_iconst (v := 1) X.1 X.2.1 dX2_linksSeen_22 (by decide) ?_
      refine lv_iload_n X.1 X.2.1 dX2_linksSeen_23 rfl (lv_at hl 3 rfl) ?_
      refine lv_ishl X.1 X.2.1 dX2_linksSeen_24 ?_
      refine lv_ior X.1 X.2.1 dX2_linksSeen_25 ?_
      refine lv_topi (fun x_16 ex_16 => ?_)
      have hz_4 := lt_e hz_4 ex_16
      refine lv_istore_n (lv' := [(2, .int x_16), (0, .ref (h 1)), (1, .int x1), (3, .int y_2)]) X.1 X.2.1 dX2_linksSeen_26 rfl hl (by decide) rfl (fun ls hl => ?_)
      obtain ⟨x_17, ex_17⟩ : ∃ y : Int32, y = y_2 + 1 := ⟨_, rfl⟩
      have hz_4 := lt_e hz_4 ex_17
      refine lv_iinc (v := x_17) (lv' := [(3, .int x_17), (2, .int x_16), (0, .ref (h 1)), (1, .int x1)]) X.1 X.2.1 dX2_linksSeen_27 hl (k := 3) rfl (by rw [ex_17]; rfl) (by decide) rfl (fun ls hl => ?_)
      refine lv_goto (tgt := 4) X.1 X.2.1 dX2_linksSeen_30 (by decide) ?_
      exact hn_5 _ (Option.some.inj hz_4).symm _ _ _ hw (lv_sub hl [2, 3, 1, 0] rfl)
def m_X2_lesserOf (b : ST) (x1 : Int32) : Option (Int32) := Option.bind (m_X2_hasLink b x1) (fun (r_2 : Int32) => if r_2 = 0 then some (0 : Int32) else gd (¬ (x1 < 0 ∨ 10 ≤ x1.toNatClampNeg)) (some (b.2.2.1 0 x1.toNatClampNeg)))
theorem yo_X2_lesserOf : yX2_lesserOf.cls = RX2 ∧ yX2_lesserOf.cls ≠ "java/lang/invoke/MethodHandle" ∧ yX2_lesserOf.cls ≠ "java/lang/invoke/VarHandle" ∧ (parseMethodDescriptor yX2_lesserOf.desc).map (fun d => d.parameters.length) = some 1 := by decide +kernel
set_option maxHeartbeats 4000000 in
set_option maxRecDepth 100000 in
theorem c_X2_lesserOf {l : Launch} {g : gT} {h : Nat → Nat} {b : ST} {w : Nat → ST} {x1 : Int32} {r : Int32} (hm : m_X2_lesserOf b x1 = some r) : MetI l g yX2_lesserOf cX2_lesserOf 2 (some .int) 1 21 79 h (cC g h (b, w)) (cC g h (b, w)) [.ref (h 1), .int x1] r := by
  refine MetI.ofX (by decide +kernel) (Nat.le_of_ble_eq_true rfl) ?_
  intro p e s m below meth c AV Q X hret ls hw hl
  have X : Cx g p s m AV c cX2_lesserOf RX2 2 := X
  have hl : lv_has ls 2 [(0, .ref (h 1)), (1, .int x1)] := hl
  unfold m_X2_lesserOf at hm
  refine lv_aload_n X.1 X.2.1 dX2_lesserOf_0 rfl (lv_at hl 0 rfl) ?_
  refine lv_iload_n X.1 X.2.1 dX2_lesserOf_1 rfl (lv_at hl 1 rfl) ?_
  obtain ⟨r_2, h_1, hm⟩ := ob_e hm
  refine k_Vi (k := 1) (As := [.int x1]) X hl.1 hw (c_X2_hasLink h_1) (by decide) (he_X2 g h _ _) rfl ⟨wq_9_0, wq_9_1, wq_9_2, wq_1_14, wq_9_3⟩ yo_X2_hasLink rfl ⟨Nat.le_of_ble_eq_true rfl, Nat.le_of_ble_eq_true rfl⟩ (Nat.le_of_ble_eq_true rfl) dX2_lesserOf_2 (fun H locs hw => ?_)
  refine lv_if_eq (tgt := 17) X.1 X.2.1 dX2_lesserOf_5 (by decide) (fun c_3 => ?_) (fun c_3 => ?_)
  · have hm := it_p hm c_3
    refine lv_iconst (v := 0) X.1 X.2.1 dX2_lesserOf_17 (by decide) ?_
    cases hm
    exact hret _ _ _ _ hw dX2_lesserOf_18
  · have hm := it_n hm c_3
    refine lv_aload_n X.1 X.2.1 dX2_lesserOf_8 rfl (lv_at hl 0 rfl) ?_
    refine gX2_lessers X hw wq_2_21 dX2_lesserOf_9 ?_
    refine lv_iload_n X.1 X.2.1 dX2_lesserOf_12 rfl (lv_at hl 1 rfl) ?_
    obtain ⟨g_4, hm⟩ := gd_e hm
    refine lA0 X hw g_4 dX2_lesserOf_13 ?_
    refine lv_goto (tgt := 18) X.1 X.2.1 dX2_lesserOf_14 (by decide) ?_
    cases hm
    exact hret _ _ _ _ hw dX2_lesserOf_18
def m_X2_greaterOf (b : ST) (x1 : Int32) : Option (Int32) := Option.bind (m_X2_hasLink b x1) (fun (r_2 : Int32) => if r_2 = 0 then some (0 : Int32) else gd (¬ (x1 < 0 ∨ 10 ≤ x1.toNatClampNeg)) (some (b.2.2.1 1 x1.toNatClampNeg)))
theorem yo_X2_greaterOf : yX2_greaterOf.cls = RX2 ∧ yX2_greaterOf.cls ≠ "java/lang/invoke/MethodHandle" ∧ yX2_greaterOf.cls ≠ "java/lang/invoke/VarHandle" ∧ (parseMethodDescriptor yX2_greaterOf.desc).map (fun d => d.parameters.length) = some 1 := by decide +kernel
set_option maxHeartbeats 4000000 in
set_option maxRecDepth 100000 in
theorem c_X2_greaterOf {l : Launch} {g : gT} {h : Nat → Nat} {b : ST} {w : Nat → ST} {x1 : Int32} {r : Int32} (hm : m_X2_greaterOf b x1 = some r) : MetI l g yX2_greaterOf cX2_greaterOf 2 (some .int) 1 21 79 h (cC g h (b, w)) (cC g h (b, w)) [.ref (h 1), .int x1] r := by
  refine MetI.ofX (by decide +kernel) (Nat.le_of_ble_eq_true rfl) ?_
  intro p e s m below meth c AV Q X hret ls hw hl
  have X : Cx g p s m AV c cX2_greaterOf RX2 2 := X
  have hl : lv_has ls 2 [(0, .ref (h 1)), (1, .int x1)] := hl
  unfold m_X2_greaterOf at hm
  refine lv_aload_n X.1 X.2.1 dX2_greaterOf_0 rfl (lv_at hl 0 rfl) ?_
  refine lv_iload_n X.1 X.2.1 dX2_greaterOf_1 rfl (lv_at hl 1 rfl) ?_
  obtain ⟨r_2, h_1, hm⟩ := ob_e hm
  refine k_Vi (k := 1) (As := [.int x1]) X hl.1 hw (c_X2_hasLink h_1) (by decide) (he_X2 g h _ _) rfl ⟨wq_9_0, wq_9_1, wq_9_2, wq_1_14, wq_9_3⟩ yo_X2_hasLink rfl ⟨Nat.le_of_ble_eq_true rfl, Nat.le_of_ble_eq_true rfl⟩ (Nat.le_of_ble_eq_true rfl) dX2_greaterOf_2 (fun H locs hw => ?_)
  refine lv_if_eq (tgt := 17) X.1 X.2.1 dX2_greaterOf_5 (by decide) (fun c_3 => ?_) (fun c_3 => ?_)
  · have hm := it_p hm c_3
    refine lv_iconst (v := 0) X.1 X.2.1 dX2_greaterOf_17 (by decide) ?_
    cases hm
    exact hret _ _ _ _ hw dX2_greaterOf_18
  · have hm := it_n hm c_3
    refine lv_aload_n X.1 X.2.1 dX2_greaterOf_8 rfl (lv_at hl 0 rfl) ?_
    refine gX2_greaters X hw wq_2_22 dX2_greaterOf_9 ?_
    refine lv_iload_n X.1 X.2.1 dX2_greaterOf_12 rfl (lv_at hl 1 rfl) ?_
    obtain ⟨g_4, hm⟩ := gd_e hm
    refine lA1 X hw g_4 dX2_greaterOf_13 ?_
    refine lv_goto (tgt := 18) X.1 X.2.1 dX2_greaterOf_14 (by decide) ?_
    cases hm
    exact hret _ _ _ _ hw dX2_greaterOf_18
def m_X2_stationsIn (x0 : Int64) (x2 : Int32) : Option (Int32) := lt ((x0.toUInt64 >>> (((7 : Int32) * x2).toInt64.toUInt64 &&& Int64.toUInt64 63)).toInt64.toInt32 &&& (127 : Int32)) (fun x_1 => some x_1)
theorem yo_X2_stationsIn : yX2_stationsIn.cls ≠ "java/lang/invoke/MethodHandle" ∧ yX2_stationsIn.cls ≠ "java/lang/invoke/VarHandle" ∧ (parseMethodDescriptor yX2_stationsIn.desc).map (fun d => d.parameters.length) = some 2 := by decide +kernel
set_option maxHeartbeats 4000000 in
set_option maxRecDepth 100000 in
theorem c_X2_stationsIn {l : Launch} {g : gT} {n : Nat} {h : Nat → Nat} {cel : Nat → va_E} {x0 : Int64} {x2 : Int32} {r : Int32} (hm : m_X2_stationsIn x0 x2 = some r) : MetI l g yX2_stationsIn cX2_stationsIn 3 (some .int) 0 0 n h (cel) (cel) [.long x0, .int x2] r := by
  refine MetI.ofX (by decide +kernel) (Nat.le_of_ble_eq_true rfl) ?_
  intro p e s m below meth c AV Q X hret ls hw hl
  have X : Cx g p s m AV c cX2_stationsIn RX2 3 := X
  have hl : lv_has ls 3 [(0, .long x0), (2, .int x2)] := hl
  unfold m_X2_stationsIn at hm
  refine lv_lload_n X.1 X.2.1 dX2_stationsIn_0 rfl (lv_at hl 0 rfl) ?_
  refine lv_bipush (v := 7) X.1 X.2.1 dX2_stationsIn_1 (by decide) ?_
  refine lv_iload_n X.1 X.2.1 dX2_stationsIn_3 rfl (lv_at hl 1 rfl) ?_
  refine lv_imul X.1 X.2.1 dX2_stationsIn_4 ?_
  refine lv_lushr X.1 X.2.1 dX2_stationsIn_5 rfl ?_
  refine lv_l2i X.1 X.2.1 dX2_stationsIn_6 rfl ?_
  refine lv_bipush (v := 127) X.1 X.2.1 dX2_stationsIn_7 (by decide) ?_
  refine lv_iand X.1 X.2.1 dX2_stationsIn_9 ?_
  refine lv_topi (fun x_1 ex_1 => ?_)
  have hm := lt_e hm ex_1
  cases hm
  exact hret _ _ _ _ hw dX2_stationsIn_10
def m_X2_joinedOver_L16 (x_5 : Int32) (σ : Int64 × Int32) : Option ((Int64 × Int32) ⊕ (Int64)) := (fun (q_21 : Int64 × Int32) => un q_21 (fun y_6 y_7 => if (7 : Int32) ≤ y_7 then some (.inr y_6) else if ((x_5.toUInt32 >>> (y_7.toUInt32 &&& Int32.toUInt32 31)).toInt32 &&& (1 : Int32)) = 0 then lt (y_7 + 1) (fun x_18 => some (.inl (y_6, x_18))) else lt (y_6 ||| (x_5.toInt64 <<< (((7 : Int32) * y_7).toInt64 &&& 63))) (fun x_19 => lt (y_7 + 1) (fun x_20 => some (.inl (x_19, x_20)))))) σ
def m_X2_joinedOver (x0 : Int64) (x2 : Int32) (x3 : Int32) : Option (Int64) := Option.bind (m_X2_stationsIn x0 x2) (fun (r_2 : Int32) => Option.bind (m_X2_stationsIn x0 x3) (fun (r_4 : Int32) => lt (r_2 ||| r_4) (fun x_5 => Option.bind (vLoop (m_X2_joinedOver_L16 x_5) FUEL (x0, (0 : Int32))) (fun (j_8 : Int64) => some j_8))))
theorem yo_X2_joinedOver : yX2_joinedOver.cls ≠ "java/lang/invoke/MethodHandle" ∧ yX2_joinedOver.cls ≠ "java/lang/invoke/VarHandle" ∧ (parseMethodDescriptor yX2_joinedOver.desc).map (fun d => d.parameters.length) = some 3 := by decide +kernel
set_option maxHeartbeats 4000000 in
set_option maxRecDepth 100000 in
theorem c_X2_joinedOver {l : Launch} {g : gT} {n : Nat} {h : Nat → Nat} {cel : Nat → va_E} {x0 : Int64} {x2 : Int32} {x3 : Int32} {r : Int64} (hm : m_X2_joinedOver x0 x2 x3 = some r) : MetL l g yX2_joinedOver cX2_joinedOver 6 (some .long) 1 22 n h (cel) (cel) [.long x0, .int x2, .int x3] r := by
  refine MetL.ofX (by decide +kernel) (Nat.le_of_ble_eq_true rfl) ?_
  intro p e s m below meth c AV Q X hret ls hw hl
  have X : Cx g p s m AV c cX2_joinedOver RX2 6 := X
  have hl : lv_has ls 6 [(0, .long x0), (2, .int x2), (3, .int x3)] := hl
  unfold m_X2_joinedOver at hm
  refine lv_lload_n X.1 X.2.1 dX2_joinedOver_0 rfl (lv_at hl 0 rfl) ?_
  refine lv_iload_n X.1 X.2.1 dX2_joinedOver_1 rfl (lv_at hl 1 rfl) ?_
  obtain ⟨r_2, h_1, hm⟩ := ob_e hm
  refine k_Si (As := [.long x0, .int x2]) X hl.1 hw (c_X2_stationsIn h_1) ⟨wq_9_11, wq_9_12, wq_1_14, wq_9_13⟩ yo_X2_stationsIn rfl ⟨Nat.le_of_ble_eq_true rfl, Nat.le_of_ble_eq_true rfl⟩ (Nat.le_of_ble_eq_true rfl) dX2_joinedOver_2 (fun H locs hw => ?_)
  refine lv_lload_n X.1 X.2.1 dX2_joinedOver_5 rfl (lv_at hl 0 rfl) ?_
  refine lv_iload_n X.1 X.2.1 dX2_joinedOver_6 rfl (lv_at hl 2 rfl) ?_
  obtain ⟨r_4, h_3, hm⟩ := ob_e hm
  refine k_Si (As := [.long x0, .int x3]) X hl.1 hw (c_X2_stationsIn h_3) ⟨wq_9_11, wq_9_12, wq_1_14, wq_9_13⟩ yo_X2_stationsIn rfl ⟨Nat.le_of_ble_eq_true rfl, Nat.le_of_ble_eq_true rfl⟩ (Nat.le_of_ble_eq_true rfl) dX2_joinedOver_7 (fun H locs hw => ?_)
  refine lv_ior X.1 X.2.1 dX2_joinedOver_10 ?_
  refine lv_topi (fun x_5 ex_5 => ?_)
  have hm := lt_e hm ex_5
  refine lv_istore (lv' := [(4, .int x_5), (0, .long x0), (2, .int x2), (3, .int x3)]) X.1 X.2.1 dX2_joinedOver_11 hl (by decide) rfl (fun ls hl => ?_)
  refine lv_iconst (v := 0) X.1 X.2.1 dX2_joinedOver_13 (by decide) ?_
  refine lv_istore (lv' := [(5, .int (0 : Int32)), (4, .int x_5), (0, .long x0), (2, .int x2), (3, .int x3)]) X.1 X.2.1 dX2_joinedOver_14 hl (by decide) rfl (fun ls hl => ?_)
  obtain ⟨j_8, hL_14, hm⟩ := ob_e hm
  have J_13 : ∀ (H : Heap) (locs : List Loc) (ls : Array Slot), Wd g n h (cel) s H locs → lv_has ls 6 [(0, .long j_8)] → W p l e (rW 1 22) s m AV below meth c H locs 0 0 Q (F0 m 51 ls []) := by
    intro H locs ls hw hl
    refine lv_lload_n X.1 X.2.1 dX2_joinedOver_51 rfl (lv_at hl 0 rfl) ?_
    cases hm
    exact hret _ _ _ _ hw dX2_joinedOver_52
  refine vLoop_ind (B := (m_X2_joinedOver_L16 x_5)) (fun σ => ∀ (H : Heap) (locs : List Loc) (ls : Array Slot), Wd g n h (cel) s H locs → lv_has ls 6 [(0, .long σ.1), (4, .int x_5), (5, .int σ.2)] → W p l e (rW 1 22) s m AV below meth c H locs 0 0 Q (F0 m 16 ls [])) (fun z' => z' = j_8) ?_ FUEL _ _ hL_14 rfl _ _ _ hw (lv_sub hl [2, 1, 0] rfl)
  intro σ z_12 hz_9 hn_10 hx_11
  obtain ⟨y_6, y_7⟩ := σ
  intro H locs ls hw hl
  have hw : Wd g n h (cel) s H locs := hw
  have hl : lv_has ls 6 [(0, .long y_6), (4, .int x_5), (5, .int y_7)] := hl
  unfold m_X2_joinedOver_L16 at hz_9
  have hz_9 := un_e hz_9
  refine lv_iload X.1 X.2.1 dX2_joinedOver_16 (lv_at hl 2 rfl) ?_
  refine lv_bipush (v := 7) X.1 X.2.1 dX2_joinedOver_18 (by decide) ?_
  refine lv_icmp_ge (tgt := 51) X.1 X.2.1 dX2_joinedOver_20 (by decide) (fun c_16 => ?_) (fun c_16 => ?_)
  · have hz_9 := it_p hz_9 c_16
    have he_15 := hx_11 _ (Option.some.inj hz_9).symm
    cases he_15
    exact J_13 _ _ _ hw (lv_sub hl [0] rfl)
  · have hz_9 := it_n hz_9 c_16
    refine lv_iload X.1 X.2.1 dX2_joinedOver_23 (lv_at hl 1 rfl) ?_
    refine lv_iload X.1 X.2.1 dX2_joinedOver_25 (lv_at hl 2 rfl) ?_
    refine lv_iushr X.1 X.2.1 dX2_joinedOver_27 rfl ?_
    refine lv_iconst (v := 1) X.1 X.2.1 dX2_joinedOver_28 (by decide) ?_
    refine lv_iand X.1 X.2.1 dX2_joinedOver_29 ?_
    refine lv_if_eq (tgt := 45) X.1 X.2.1 dX2_joinedOver_30 (by decide) (fun c_17 => ?_) (fun c_17 => ?_)
    · have hz_9 := it_p hz_9 c_17
      obtain ⟨x_18, ex_18⟩ : ∃ y : Int32, y = y_7 + 1 := ⟨_, rfl⟩
      have hz_9 := lt_e hz_9 ex_18
      refine lv_iinc (v := x_18) (lv' := [(5, .int x_18), (0, .long y_6), (4, .int x_5)]) X.1 X.2.1 dX2_joinedOver_45 hl (k := 2) rfl (by rw [ex_18]; rfl) (by decide) rfl (fun ls hl => ?_)
      refine lv_goto (tgt := 16) X.1 X.2.1 dX2_joinedOver_48 (by decide) ?_
      exact hn_10 _ (Option.some.inj hz_9).symm _ _ _ hw (lv_sub hl [1, 2, 0] rfl)
    · have hz_9 := it_n hz_9 c_17
      refine lv_lload_n X.1 X.2.1 dX2_joinedOver_33 rfl (lv_at hl 0 rfl) ?_
      refine lv_iload X.1 X.2.1 dX2_joinedOver_34 (lv_at hl 1 rfl) ?_
      refine lv_i2l X.1 X.2.1 dX2_joinedOver_36 rfl ?_
      refine lv_bipush (v := 7) X.1 X.2.1 dX2_joinedOver_37 (by decide) ?_
      refine lv_iload X.1 X.2.1 dX2_joinedOver_39 (lv_at hl 2 rfl) ?_
      refine lv_imul X.1 X.2.1 dX2_joinedOver_41 ?_
      refine lv_lshl X.1 X.2.1 dX2_joinedOver_42 rfl ?_
      refine lv_lor X.1 X.2.1 dX2_joinedOver_43 ?_
      refine lv_topl (fun x_19 ex_19 => ?_)
      have hz_9 := lt_e hz_9 ex_19
      refine lv_lstore_n (lv' := [(0, .long x_19), (4, .int x_5), (5, .int y_7)]) X.1 X.2.1 dX2_joinedOver_44 rfl hl (by decide) rfl (fun ls hl => ?_)
      obtain ⟨x_20, ex_20⟩ : ∃ y : Int32, y = y_7 + 1 := ⟨_, rfl⟩
      have hz_9 := lt_e hz_9 ex_20
      refine lv_iinc (v := x_20) (lv' := [(5, .int x_20), (0, .long x_19), (4, .int x_5)]) X.1 X.2.1 dX2_joinedOver_45 hl (k := 2) rfl (by rw [ex_20]; rfl) (by decide) rfl (fun ls hl => ?_)
      refine lv_goto (tgt := 16) X.1 X.2.1 dX2_joinedOver_48 (by decide) ?_
      exact hn_10 _ (Option.some.inj hz_9).symm _ _ _ hw (lv_sub hl [1, 2, 0] rfl)
def m_X2_addSetsWith_L6 (x1 : Int32) (x_1 : Int32) (σ : Int32 × ST) : Option ((Int32 × ST) ⊕ (ST)) := (fun (q_24 : Int32 × ST) => un q_24 (fun y_2 b_3 => if x_1 ≤ y_2 then some (.inr b_3) else if (1024 : Int32) ≤ (x_1 + y_2) then some (.inr b_3) else gd (¬ (y_2 < 0 ∨ 1024 ≤ y_2.toNatClampNeg)) (Option.bind (m_X2_lesserOf b_3 x1) (fun (r_16 : Int32) => Option.bind (m_X2_greaterOf b_3 x1) (fun (r_18 : Int32) => Option.bind (m_X2_joinedOver (b_3.2.2.2 0 y_2.toNatClampNeg) r_16 r_18) (fun (r_20 : Int64) => gd (¬ ((x_1 + y_2) < 0 ∨ 1024 ≤ (x_1 + y_2).toNatClampNeg)) (lt (wB b_3 0 (x_1 + y_2).toNatClampNeg r_20) (fun b_22 => lt (y_2 + 1) (fun x_23 => some (.inl (x_23, b_22))))))))))) σ
def m_X2_addSetsWith (b : ST) (x1 : Int32) : Option (ST) := lt ((1 : Int32) <<< (x1 &&& 31)) (fun x_1 => Option.bind (vLoop (m_X2_addSetsWith_L6 x1 x_1) FUEL ((0 : Int32), b)) (fun (b_4 : ST) => some b_4))
theorem yo_X2_addSetsWith : yX2_addSetsWith.cls = RX2 ∧ yX2_addSetsWith.cls ≠ "java/lang/invoke/MethodHandle" ∧ yX2_addSetsWith.cls ≠ "java/lang/invoke/VarHandle" ∧ (parseMethodDescriptor yX2_addSetsWith.desc).map (fun d => d.parameters.length) = some 1 := by decide +kernel
set_option maxHeartbeats 4000000 in
set_option maxRecDepth 100000 in
theorem c_X2_addSetsWith {l : Launch} {g : gT} {h : Nat → Nat} {b : ST} {w : Nat → ST} {x1 : Int32} {b' : ST} (hm : m_X2_addSetsWith b x1 = some (b')) : MetV l g yX2_addSetsWith cX2_addSetsWith 4 none 2 47 79 h (cC g h (b, w)) (cC g h (b', w)) [.ref (h 1), .int x1] := by
  refine MetV.ofX (by decide +kernel) (Nat.le_of_ble_eq_true rfl) ?_
  intro p e s m below meth c AV Q X hret ls hw hl
  have X : Cx g p s m AV c cX2_addSetsWith RX2 4 := X
  have hl : lv_has ls 4 [(0, .ref (h 1)), (1, .int x1)] := hl
  unfold m_X2_addSetsWith at hm
  refine lv_iconst (v := 1) X.1 X.2.1 dX2_addSetsWith_0 (by decide) ?_
  refine lv_iload_n X.1 X.2.1 dX2_addSetsWith_1 rfl (lv_at hl 1 rfl) ?_
  refine lv_ishl X.1 X.2.1 dX2_addSetsWith_2 ?_
  refine lv_topi (fun x_1 ex_1 => ?_)
  have hm := lt_e hm ex_1
  refine lv_istore_n (lv' := [(2, .int x_1), (0, .ref (h 1)), (1, .int x1)]) X.1 X.2.1 dX2_addSetsWith_3 rfl hl (by decide) rfl (fun ls hl => ?_)
  refine lv_iconst (v := 0) X.1 X.2.1 dX2_addSetsWith_4 (by decide) ?_
  refine lv_istore_n (lv' := [(3, .int (0 : Int32)), (2, .int x_1), (0, .ref (h 1)), (1, .int x1)]) X.1 X.2.1 dX2_addSetsWith_5 rfl hl (by decide) rfl (fun ls hl => ?_)
  obtain ⟨b_4, hL_10, hm⟩ := ob_e hm
  have J_9 : ∀ (H : Heap) (locs : List Loc) (ls : Array Slot), Wd g 79 h (cC g h (b_4, w)) s H locs → lv_has ls 4 [] → W p l e (rW 2 47) s m AV below meth c H locs 0 0 Q (F0 m 53 ls []) := by
    intro H locs ls hw hl
    cases hm
    exact hret _ _ _ _ hw dX2_addSetsWith_53
  refine vLoop_ind (B := (m_X2_addSetsWith_L6 x1 x_1)) (fun σ => ∀ (H : Heap) (locs : List Loc) (ls : Array Slot), Wd g 79 h (cC g h (σ.2, w)) s H locs → lv_has ls 4 [(0, .ref (h 1)), (1, .int x1), (2, .int x_1), (3, .int σ.1)] → W p l e (rW 2 47) s m AV below meth c H locs 0 0 Q (F0 m 6 ls [])) (fun z' => z' = b_4) ?_ FUEL _ _ hL_10 rfl _ _ _ hw (lv_sub hl [2, 3, 1, 0] rfl)
  intro σ z_8 hz_5 hn_6 hx_7
  obtain ⟨y_2, b_3⟩ := σ
  intro H locs ls hw hl
  have hw : Wd g 79 h (cC g h (b_3, w)) s H locs := hw
  have hl : lv_has ls 4 [(0, .ref (h 1)), (1, .int x1), (2, .int x_1), (3, .int y_2)] := hl
  unfold m_X2_addSetsWith_L6 at hz_5
  have hz_5 := un_e hz_5
  refine lv_iload_n X.1 X.2.1 dX2_addSetsWith_6 rfl (lv_at hl 3 rfl) ?_
  refine lv_iload_n X.1 X.2.1 dX2_addSetsWith_7 rfl (lv_at hl 2 rfl) ?_
  refine lv_icmp_ge (tgt := 53) X.1 X.2.1 dX2_addSetsWith_8 (by decide) (fun c_12 => ?_) (fun c_12 => ?_)
  · have hz_5 := it_p hz_5 c_12
    have he_11 := hx_7 _ (Option.some.inj hz_5).symm
    cases he_11
    exact J_9 _ _ _ hw (lv_sub hl [] rfl)
  · have hz_5 := it_n hz_5 c_12
    refine lv_iload_n X.1 X.2.1 dX2_addSetsWith_11 rfl (lv_at hl 2 rfl) ?_
    refine lv_iload_n X.1 X.2.1 dX2_addSetsWith_12 rfl (lv_at hl 3 rfl) ?_
    refine lv_iadd X.1 X.2.1 dX2_addSetsWith_13 ?_
    refine lv_sipush (v := 1024) X.1 X.2.1 dX2_addSetsWith_14 (by decide) ?_
    refine lv_icmp_ge (tgt := 53) X.1 X.2.1 dX2_addSetsWith_17 (by decide) (fun c_13 => ?_) (fun c_13 => ?_)
    · have hz_5 := it_p hz_5 c_13
      have he_11 := hx_7 _ (Option.some.inj hz_5).symm
      cases he_11
      exact J_9 _ _ _ hw (lv_sub hl [] rfl)
    · have hz_5 := it_n hz_5 c_13
      refine lv_aload_n X.1 X.2.1 dX2_addSetsWith_20 rfl (lv_at hl 0 rfl) ?_
      refine gX2_joinings X hw wq_3_3 dX2_addSetsWith_21 ?_
      refine lv_iload_n X.1 X.2.1 dX2_addSetsWith_24 rfl (lv_at hl 2 rfl) ?_
      refine lv_iload_n X.1 X.2.1 dX2_addSetsWith_25 rfl (lv_at hl 3 rfl) ?_
      refine lv_iadd X.1 X.2.1 dX2_addSetsWith_26 ?_
      refine lv_aload_n X.1 X.2.1 dX2_addSetsWith_27 rfl (lv_at hl 0 rfl) ?_
      refine gX2_joinings X hw wq_3_3 dX2_addSetsWith_28 ?_
      refine lv_iload_n X.1 X.2.1 dX2_addSetsWith_31 rfl (lv_at hl 3 rfl) ?_
      obtain ⟨g_14, hz_5⟩ := gd_e hz_5
      refine lB0 X hw g_14 dX2_addSetsWith_32 ?_
      refine lv_aload_n X.1 X.2.1 dX2_addSetsWith_33 rfl (lv_at hl 0 rfl) ?_
      refine lv_iload_n X.1 X.2.1 dX2_addSetsWith_34 rfl (lv_at hl 1 rfl) ?_
      obtain ⟨r_16, h_15, hz_5⟩ := ob_e hz_5
      refine k_Vi (k := 1) (As := [.int x1]) X hl.1 hw (c_X2_lesserOf h_15) (by decide) (he_X2 g h _ _) rfl ⟨wq_8_20, wq_8_21, wq_8_22, wq_1_14, wq_8_23⟩ yo_X2_lesserOf rfl ⟨Nat.le_of_ble_eq_true rfl, Nat.le_of_ble_eq_true rfl⟩ (Nat.le_of_ble_eq_true rfl) dX2_addSetsWith_35 (fun H locs hw => ?_)
      refine lv_aload_n X.1 X.2.1 dX2_addSetsWith_38 rfl (lv_at hl 0 rfl) ?_
      refine lv_iload_n X.1 X.2.1 dX2_addSetsWith_39 rfl (lv_at hl 1 rfl) ?_
      obtain ⟨r_18, h_17, hz_5⟩ := ob_e hz_5
      refine k_Vi (k := 1) (As := [.int x1]) X hl.1 hw (c_X2_greaterOf h_17) (by decide) (he_X2 g h _ _) rfl ⟨wq_9_4, wq_9_5, wq_9_6, wq_1_14, wq_9_7⟩ yo_X2_greaterOf rfl ⟨Nat.le_of_ble_eq_true rfl, Nat.le_of_ble_eq_true rfl⟩ (Nat.le_of_ble_eq_true rfl) dX2_addSetsWith_40 (fun H locs hw => ?_)
      obtain ⟨r_20, h_19, hz_5⟩ := ob_e hz_5
      refine k_Sl (As := [.long (b_3.2.2.2 0 y_2.toNatClampNeg), .int r_16, .int r_18]) X hl.1 hw (c_X2_joinedOver h_19) ⟨wq_9_8, wq_9_9, wq_1_14, wq_9_10⟩ yo_X2_joinedOver rfl ⟨Nat.le_of_ble_eq_true rfl, Nat.le_of_ble_eq_true rfl⟩ (Nat.le_of_ble_eq_true rfl) dX2_addSetsWith_43 (fun H locs hw => ?_)
      obtain ⟨g_21, hz_5⟩ := gd_e hz_5
      refine sB0 X hw g_21 dX2_addSetsWith_46 (fun H locs hw => ?_)
      obtain ⟨b_22, eb_22⟩ : ∃ y, y = wB b_3 0 (x_1 + y_2).toNatClampNeg r_20 := ⟨_, rfl⟩
      rw [← eb_22] at hw
      have hz_5 := lt_e hz_5 eb_22
      obtain ⟨x_23, ex_23⟩ : ∃ y : Int32, y = y_2 + 1 := ⟨_, rfl⟩
      have hz_5 := lt_e hz_5 ex_23
      refine lv_iinc (v := x_23) (lv' := [(3, .int x_23), (0, .ref (h 1)), (1, .int x1), (2, .int x_1)]) X.1 X.2.1 dX2_addSetsWith_47 hl (k := 3) rfl (by rw [ex_23]; rfl) (by decide) rfl (fun ls hl => ?_)
      refine lv_goto (tgt := 6) X.1 X.2.1 dX2_addSetsWith_50 (by decide) ?_
      exact hn_6 _ (Option.some.inj hz_5).symm _ _ _ hw (lv_sub hl [1, 2, 3, 0] rfl)
def m_X10_joinedWith_L18 (x1 : Int32) (t : ST) (σ : Int32 × Int32 × Int32) : Option ((Int32 × Int32 × Int32) ⊕ (Int32 × Int32)) := (fun (q_37 : Int32 × Int32 × Int32) => un q_37 (fun y_13 q_37 => un q_37 (fun y_14 y_15 => if (t.1 4) ≤ y_15 then some (.inr (y_13, y_14)) else gd (¬ (y_15 < 0 ∨ 10 ≤ y_15.toNatClampNeg)) (gd (¬ (y_15 < 0 ∨ 10 ≤ y_15.toNatClampNeg)) (lt (((1 : Int32) <<< ((t.2.2.1 1 y_15.toNatClampNeg) &&& 31)) ||| ((1 : Int32) <<< ((t.2.2.1 2 y_15.toNatClampNeg) &&& 31))) (fun x_28 => if ((x1 >>> (y_15 &&& 31)) &&& (1 : Int32)) = (1 : Int32) then if (y_13 &&& x_28) = 0 then lt (y_15 + 1) (fun x_32 => some (.inl (y_13, y_14, x_32))) else if (y_13 &&& x_28) = x_28 then lt (y_15 + 1) (fun x_34 => some (.inl (y_13, y_14, x_34))) else lt (y_13 ||| x_28) (fun x_35 => lt (y_15 + 1) (fun x_36 => some (.inl (x_35, (1 : Int32), x_36)))) else lt (y_15 + 1) (fun x_30 => some (.inl (y_13, y_14, x_30))))))))) σ
def m_X10_joinedWith_L7 (x1 : Int32) (t : ST) (σ : Int32 × Int32) : Option ((Int32 × Int32) ⊕ (Int32)) := (fun (q_39 : Int32 × Int32) => un q_39 (fun y_2 y_3 => if y_3 = 0 then some (.inr y_2) else Option.bind (vLoop (m_X10_joinedWith_L18 x1 t) FUEL (y_2, (0 : Int32), (0 : Int32))) (fun (q_38 : Int32 × Int32) => un q_38 (fun j_16 j_17 => some (.inl (j_16, j_17)))))) σ
def m_X10_joinedWith (t : ST) (x1 : Int32) (x2 : Int32) : Option (Int32) := lt ((1 : Int32) <<< (x2 &&& 31)) (fun x_1 => Option.bind (vLoop (m_X10_joinedWith_L7 x1 t) FUEL (x_1, (1 : Int32))) (fun (j_4 : Int32) => some j_4))
theorem yo_X10_joinedWith : yX10_joinedWith.cls = RX10 ∧ yX10_joinedWith.cls ≠ "java/lang/invoke/MethodHandle" ∧ yX10_joinedWith.cls ≠ "java/lang/invoke/VarHandle" ∧ (parseMethodDescriptor yX10_joinedWith.desc).map (fun d => d.parameters.length) = some 2 := by decide +kernel
set_option maxHeartbeats 4000000 in
set_option maxRecDepth 100000 in
theorem c_X10_joinedWith {l : Launch} {g : gT} {h : Nat → Nat} {t : ST} {x1 : Int32} {x2 : Int32} {r : Int32} (hm : m_X10_joinedWith t x1 x2 = some r) : MetI l g yX10_joinedWith cX10_joinedWith 7 (some .int) 0 0 20 h (cM g h t) (cM g h t) [.ref (h 0), .int x1, .int x2] r := by
  refine MetI.ofX (by decide +kernel) (Nat.le_of_ble_eq_true rfl) ?_
  intro p e s m below meth c AV Q X hret ls hw hl
  have X : Cx g p s m AV c cX10_joinedWith RX10 7 := X
  have hl : lv_has ls 7 [(0, .ref (h 0)), (1, .int x1), (2, .int x2)] := hl
  unfold m_X10_joinedWith at hm
  refine lv_iconst (v := 1) X.1 X.2.1 dX10_joinedWith_0 (by decide) ?_
  refine lv_iload_n X.1 X.2.1 dX10_joinedWith_1 rfl (lv_at hl 2 rfl) ?_
  refine lv_ishl X.1 X.2.1 dX10_joinedWith_2 ?_
  refine lv_topi (fun x_1 ex_1 => ?_)
  have hm := lt_e hm ex_1
  refine lv_istore_n (lv' := [(3, .int x_1), (0, .ref (h 0)), (1, .int x1), (2, .int x2)]) X.1 X.2.1 dX10_joinedWith_3 rfl hl (by decide) rfl (fun ls hl => ?_)
  refine lv_iconst (v := 1) X.1 X.2.1 dX10_joinedWith_4 (by decide) ?_
  refine lv_istore (lv' := [(4, .int (1 : Int32)), (3, .int x_1), (0, .ref (h 0)), (1, .int x1), (2, .int x2)]) X.1 X.2.1 dX10_joinedWith_5 hl (by decide) rfl (fun ls hl => ?_)
  obtain ⟨j_4, hL_10, hm⟩ := ob_e hm
  have J_9 : ∀ (H : Heap) (locs : List Loc) (ls : Array Slot), Wd g 20 h (cM g h t) s H locs → lv_has ls 7 [(3, .int j_4)] → W p l e (rW 0 0) s m AV below meth c H locs 0 0 Q (F0 m 91 ls []) := by
    intro H locs ls hw hl
    refine lv_iload_n X.1 X.2.1 dX10_joinedWith_91 rfl (lv_at hl 0 rfl) ?_
    cases hm
    exact hret _ _ _ _ hw dX10_joinedWith_92
  refine vLoop_ind (B := (m_X10_joinedWith_L7 x1 t)) (fun σ => ∀ (H : Heap) (locs : List Loc) (ls : Array Slot), Wd g 20 h (cM g h t) s H locs → lv_has ls 7 [(0, .ref (h 0)), (1, .int x1), (3, .int σ.1), (4, .int σ.2)] → W p l e (rW 0 0) s m AV below meth c H locs 0 0 Q (F0 m 7 ls [])) (fun z' => z' = j_4) ?_ FUEL _ _ hL_10 rfl _ _ _ hw (lv_sub hl [2, 3, 1, 0] rfl)
  intro σ z_8 hz_5 hn_6 hx_7
  obtain ⟨y_2, y_3⟩ := σ
  intro H locs ls hw hl
  have hw : Wd g 20 h (cM g h t) s H locs := hw
  have hl : lv_has ls 7 [(0, .ref (h 0)), (1, .int x1), (3, .int y_2), (4, .int y_3)] := hl
  unfold m_X10_joinedWith_L7 at hz_5
  have hz_5 := un_e hz_5
  refine lv_iload X.1 X.2.1 dX10_joinedWith_7 (lv_at hl 3 rfl) ?_
  refine lv_if_eq (tgt := 91) X.1 X.2.1 dX10_joinedWith_9 (by decide) (fun c_12 => ?_) (fun c_12 => ?_)
  · have hz_5 := it_p hz_5 c_12
    have he_11 := hx_7 _ (Option.some.inj hz_5).symm
    cases he_11
    exact J_9 _ _ _ hw (lv_sub hl [2] rfl)
  · have hz_5 := it_n hz_5 c_12
    refine lv_iconst (v := 0) X.1 X.2.1 dX10_joinedWith_12 (by decide) ?_
    refine lv_istore (lv' := [(4, .int (0 : Int32)), (0, .ref (h 0)), (1, .int x1), (3, .int y_2)]) X.1 X.2.1 dX10_joinedWith_13 hl (by decide) rfl (fun ls hl => ?_)
    refine lv_iconst (v := 0) X.1 X.2.1 dX10_joinedWith_15 (by decide) ?_
    refine lv_istore (lv' := [(5, .int (0 : Int32)), (4, .int (0 : Int32)), (0, .ref (h 0)), (1, .int x1), (3, .int y_2)]) X.1 X.2.1 dX10_joinedWith_16 hl (by decide) rfl (fun ls hl => ?_)
    obtain ⟨⟨j_16, j_17⟩, hL_23, hz_5⟩ := ob_e hz_5
    have hz_5 := un_e hz_5
    have J_22 : ∀ (H : Heap) (locs : List Loc) (ls : Array Slot), Wd g 20 h (cM g h t) s H locs → lv_has ls 7 [(0, .ref (h 0)), (1, .int x1), (3, .int j_16), (4, .int j_17)] → W p l e (rW 0 0) s m AV below meth c H locs 0 0 Q (F0 m 88 ls []) := by
      intro H locs ls hw hl
      refine lv_goto (tgt := 7) X.1 X.2.1 dX10_joinedWith_88 (by decide) ?_
      exact hn_6 _ (Option.some.inj hz_5).symm _ _ _ hw (lv_sub hl [0, 1, 2, 3] rfl)
    refine vLoop_ind (B := (m_X10_joinedWith_L18 x1 t)) (fun σ => ∀ (H : Heap) (locs : List Loc) (ls : Array Slot), Wd g 20 h (cM g h t) s H locs → lv_has ls 7 [(0, .ref (h 0)), (1, .int x1), (3, .int σ.1), (4, .int σ.2.1), (5, .int σ.2.2)] → W p l e (rW 0 0) s m AV below meth c H locs 0 0 Q (F0 m 18 ls [])) (fun z' => z' = (j_16, j_17)) ?_ FUEL _ _ hL_23 rfl _ _ _ hw (lv_sub hl [2, 3, 4, 1, 0] rfl)
    intro σ z_21 hz_18 hn_19 hx_20
    obtain ⟨y_13, y_14, y_15⟩ := σ
    intro H locs ls hw hl
    have hw : Wd g 20 h (cM g h t) s H locs := hw
    have hl : lv_has ls 7 [(0, .ref (h 0)), (1, .int x1), (3, .int y_13), (4, .int y_14), (5, .int y_15)] := hl
    unfold m_X10_joinedWith_L18 at hz_18
    have hz_18 := un_e hz_18
    have hz_18 := un_e hz_18
    refine lv_iload X.1 X.2.1 dX10_joinedWith_18 (lv_at hl 4 rfl) ?_
    refine lv_aload_n X.1 X.2.1 dX10_joinedWith_20 rfl (lv_at hl 0 rfl) ?_
    refine gX10_links X hw wq_7_2 dX10_joinedWith_21 ?_
    refine lv_icmp_ge (tgt := 88) X.1 X.2.1 dX10_joinedWith_24 (by decide) (fun c_25 => ?_) (fun c_25 => ?_)
    · have hz_18 := it_p hz_18 c_25
      have he_24 := hx_20 _ (Option.some.inj hz_18).symm
      cases he_24
      exact J_22 _ _ _ hw (lv_sub hl [0, 1, 2, 3] rfl)
    · have hz_18 := it_n hz_18 c_25
      refine lv_iconst (v := 1) X.1 X.2.1 dX10_joinedWith_27 (by decide) ?_
      refine lv_aload_n X.1 X.2.1 dX10_joinedWith_28 rfl (lv_at hl 0 rfl) ?_
      refine gX10_ones X hw wq_5_12 dX10_joinedWith_29 ?_
      refine lv_iload X.1 X.2.1 dX10_joinedWith_32 (lv_at hl 4 rfl) ?_
      obtain ⟨g_26, hz_18⟩ := gd_e hz_18
      refine lMA1 X hw g_26 dX10_joinedWith_34 ?_
      refine lv_ishl X.1 X.2.1 dX10_joinedWith_35 ?_
      refine lv_iconst (v := 1) X.1 X.2.1 dX10_joinedWith_36 (by decide) ?_
      refine lv_aload_n X.1 X.2.1 dX10_joinedWith_37 rfl (lv_at hl 0 rfl) ?_
      refine gX10_others X hw wq_5_13 dX10_joinedWith_38 ?_
      refine lv_iload X.1 X.2.1 dX10_joinedWith_41 (lv_at hl 4 rfl) ?_
      obtain ⟨g_27, hz_18⟩ := gd_e hz_18
      refine lMA2 X hw g_27 dX10_joinedWith_43 ?_
      refine lv_ishl X.1 X.2.1 dX10_joinedWith_44 ?_
      refine lv_ior X.1 X.2.1 dX10_joinedWith_45 ?_
      refine lv_topi (fun x_28 ex_28 => ?_)
      have hz_18 := lt_e hz_18 ex_28
      refine lv_istore (lv' := [(6, .int x_28), (0, .ref (h 0)), (1, .int x1), (3, .int y_13), (4, .int y_14), (5, .int y_15)]) X.1 X.2.1 dX10_joinedWith_46 hl (by decide) rfl (fun ls hl => ?_)
      refine lv_iload_n X.1 X.2.1 dX10_joinedWith_48 rfl (lv_at hl 2 rfl) ?_
      refine lv_iload X.1 X.2.1 dX10_joinedWith_49 (lv_at hl 5 rfl) ?_
      refine lv_ishr X.1 X.2.1 dX10_joinedWith_51 ?_
      refine lv_iconst (v := 1) X.1 X.2.1 dX10_joinedWith_52 (by decide) ?_
      refine lv_iand X.1 X.2.1 dX10_joinedWith_53 ?_
      refine lv_iconst (v := 1) X.1 X.2.1 dX10_joinedWith_54 (by decide) ?_
      refine lv_icmp_ne (tgt := 82) X.1 X.2.1 dX10_joinedWith_55 (by decide) (fun c_29 => ?_) (fun c_29 => ?_)
      · have hz_18 := it_n hz_18 c_29
        obtain ⟨x_30, ex_30⟩ : ∃ y : Int32, y = y_15 + 1 := ⟨_, rfl⟩
        have hz_18 := lt_e hz_18 ex_30
        refine lv_iinc (v := x_30) (lv' := [(5, .int x_30), (6, .int x_28), (0, .ref (h 0)), (1, .int x1), (3, .int y_13), (4, .int y_14)]) X.1 X.2.1 dX10_joinedWith_82 hl (k := 5) rfl (by rw [ex_30]; rfl) (by decide) rfl (fun ls hl => ?_)
        refine lv_goto (tgt := 18) X.1 X.2.1 dX10_joinedWith_85 (by decide) ?_
        exact hn_19 _ (Option.some.inj hz_18).symm _ _ _ hw (lv_sub hl [2, 3, 4, 5, 0] rfl)
      · have hz_18 := it_p hz_18 c_29
        refine lv_iload_n X.1 X.2.1 dX10_joinedWith_58 rfl (lv_at hl 3 rfl) ?_
        refine lv_iload X.1 X.2.1 dX10_joinedWith_59 (lv_at hl 0 rfl) ?_
        refine lv_iand X.1 X.2.1 dX10_joinedWith_61 ?_
        refine lv_if_eq (tgt := 82) X.1 X.2.1 dX10_joinedWith_62 (by decide) (fun c_31 => ?_) (fun c_31 => ?_)
        · have hz_18 := it_p hz_18 c_31
          obtain ⟨x_32, ex_32⟩ : ∃ y : Int32, y = y_15 + 1 := ⟨_, rfl⟩
          have hz_18 := lt_e hz_18 ex_32
          refine lv_iinc (v := x_32) (lv' := [(5, .int x_32), (6, .int x_28), (0, .ref (h 0)), (1, .int x1), (3, .int y_13), (4, .int y_14)]) X.1 X.2.1 dX10_joinedWith_82 hl (k := 5) rfl (by rw [ex_32]; rfl) (by decide) rfl (fun ls hl => ?_)
          refine lv_goto (tgt := 18) X.1 X.2.1 dX10_joinedWith_85 (by decide) ?_
          exact hn_19 _ (Option.some.inj hz_18).symm _ _ _ hw (lv_sub hl [2, 3, 4, 5, 0] rfl)
        · have hz_18 := it_n hz_18 c_31
          refine lv_iload_n X.1 X.2.1 dX10_joinedWith_65 rfl (lv_at hl 3 rfl) ?_
          refine lv_iload X.1 X.2.1 dX10_joinedWith_66 (lv_at hl 0 rfl) ?_
          refine lv_iand X.1 X.2.1 dX10_joinedWith_68 ?_
          refine lv_iload X.1 X.2.1 dX10_joinedWith_69 (lv_at hl 0 rfl) ?_
          refine lv_icmp_eq (tgt := 82) X.1 X.2.1 dX10_joinedWith_71 (by decide) (fun c_33 => ?_) (fun c_33 => ?_)
          · have hz_18 := it_p hz_18 c_33
            obtain ⟨x_34, ex_34⟩ : ∃ y : Int32, y = y_15 + 1 := ⟨_, rfl⟩
            have hz_18 := lt_e hz_18 ex_34
            refine lv_iinc (v := x_34) (lv' := [(5, .int x_34), (6, .int x_28), (0, .ref (h 0)), (1, .int x1), (3, .int y_13), (4, .int y_14)]) X.1 X.2.1 dX10_joinedWith_82 hl (k := 5) rfl (by rw [ex_34]; rfl) (by decide) rfl (fun ls hl => ?_)
            refine lv_goto (tgt := 18) X.1 X.2.1 dX10_joinedWith_85 (by decide) ?_
            exact hn_19 _ (Option.some.inj hz_18).symm _ _ _ hw (lv_sub hl [2, 3, 4, 5, 0] rfl)
          · have hz_18 := it_n hz_18 c_33
            refine lv_iload_n X.1 X.2.1 dX10_joinedWith_74 rfl (lv_at hl 3 rfl) ?_
            refine lv_iload X.1 X.2.1 dX10_joinedWith_75 (lv_at hl 0 rfl) ?_
            refine lv_ior X.1 X.2.1 dX10_joinedWith_77 ?_
            refine lv_topi (fun x_35 ex_35 => ?_)
            have hz_18 := lt_e hz_18 ex_35
            refine lv_istore_n (lv' := [(3, .int x_35), (6, .int x_28), (0, .ref (h 0)), (1, .int x1), (4, .int y_14), (5, .int y_15)]) X.1 X.2.1 dX10_joinedWith_78 rfl hl (by decide) rfl (fun ls hl => ?_)
            refine lv_iconst (v := 1) X.1 X.2.1 dX10_joinedWith_79 (by decide) ?_
            refine lv_istore (lv' := [(4, .int (1 : Int32)), (3, .int x_35), (6, .int x_28), (0, .ref (h 0)), (1, .int x1), (5, .int y_15)]) X.1 X.2.1 dX10_joinedWith_80 hl (by decide) rfl (fun ls hl => ?_)
            obtain ⟨x_36, ex_36⟩ : ∃ y : Int32, y = y_15 + 1 := ⟨_, rfl⟩
            have hz_18 := lt_e hz_18 ex_36
            refine lv_iinc (v := x_36) (lv' := [(5, .int x_36), (4, .int (1 : Int32)), (3, .int x_35), (6, .int x_28), (0, .ref (h 0)), (1, .int x1)]) X.1 X.2.1 dX10_joinedWith_82 hl (k := 5) rfl (by rw [ex_36]; rfl) (by decide) rfl (fun ls hl => ?_)
            refine lv_goto (tgt := 18) X.1 X.2.1 dX10_joinedWith_85 (by decide) ?_
            exact hn_19 _ (Option.some.inj hz_18).symm _ _ _ hw (lv_sub hl [4, 5, 2, 1, 0] rfl)
def m_X10_weight_L5 (x1 : Int32) (t : ST) (σ : Int64 × Int32) : Option ((Int64 × Int32) ⊕ (Int64)) := (fun (q_20 : Int64 × Int32) => un q_20 (fun y_1 y_2 => if (t.1 4) ≤ y_2 then some (.inr y_1) else if ((x1 >>> (y_2 &&& 31)) &&& (1 : Int32)) = (1 : Int32) then gd (¬ (y_2 < 0 ∨ 10 ≤ y_2.toNatClampNeg)) (lt (y_1 * (t.2.2.1 6 y_2.toNatClampNeg).toInt64) (fun x_18 => lt (y_2 + 1) (fun x_19 => some (.inl (x_18, x_19))))) else gd (¬ (y_2 < 0 ∨ 10 ≤ y_2.toNatClampNeg)) (gd (¬ (y_2 < 0 ∨ 10 ≤ y_2.toNatClampNeg)) (lt (y_1 * ((t.2.2.1 7 y_2.toNatClampNeg) - (t.2.2.1 6 y_2.toNatClampNeg)).toInt64) (fun x_15 => lt (y_2 + 1) (fun x_16 => some (.inl (x_15, x_16)))))))) σ
def m_X10_weight (t : ST) (x1 : Int32) : Option (Int64) := Option.bind (vLoop (m_X10_weight_L5 x1 t) FUEL ((1 : Int64), (0 : Int32))) (fun (j_3 : Int64) => some j_3)
theorem yo_X10_weight : yX10_weight.cls = RX10 ∧ yX10_weight.cls ≠ "java/lang/invoke/MethodHandle" ∧ yX10_weight.cls ≠ "java/lang/invoke/VarHandle" ∧ (parseMethodDescriptor yX10_weight.desc).map (fun d => d.parameters.length) = some 1 := by decide +kernel
set_option maxHeartbeats 4000000 in
set_option maxRecDepth 100000 in
theorem c_X10_weight {l : Launch} {g : gT} {h : Nat → Nat} {t : ST} {x1 : Int32} {r : Int64} (hm : m_X10_weight t x1 = some r) : MetL l g yX10_weight cX10_weight 5 (some .long) 0 0 20 h (cM g h t) (cM g h t) [.ref (h 0), .int x1] r := by
  refine MetL.ofX (by decide +kernel) (Nat.le_of_ble_eq_true rfl) ?_
  intro p e s m below meth c AV Q X hret ls hw hl
  have X : Cx g p s m AV c cX10_weight RX10 5 := X
  have hl : lv_has ls 5 [(0, .ref (h 0)), (1, .int x1)] := hl
  unfold m_X10_weight at hm
  refine lv_lconst (v := 1) X.1 X.2.1 dX10_weight_0 (by decide) ?_
  refine lv_lstore_n (lv' := [(2, .long (1 : Int64)), (0, .ref (h 0)), (1, .int x1)]) X.1 X.2.1 dX10_weight_1 rfl hl (by decide) rfl (fun ls hl => ?_)
  refine lv_iconst (v := 0) X.1 X.2.1 dX10_weight_2 (by decide) ?_
  refine lv_istore (lv' := [(4, .int (0 : Int32)), (2, .long (1 : Int64)), (0, .ref (h 0)), (1, .int x1)]) X.1 X.2.1 dX10_weight_3 hl (by decide) rfl (fun ls hl => ?_)
  obtain ⟨j_3, hL_9, hm⟩ := ob_e hm
  have J_8 : ∀ (H : Heap) (locs : List Loc) (ls : Array Slot), Wd g 20 h (cM g h t) s H locs → lv_has ls 5 [(2, .long j_3)] → W p l e (rW 0 0) s m AV below meth c H locs 0 0 Q (F0 m 60 ls []) := by
    intro H locs ls hw hl
    refine lv_lload_n X.1 X.2.1 dX10_weight_60 rfl (lv_at hl 0 rfl) ?_
    cases hm
    exact hret _ _ _ _ hw dX10_weight_61
  refine vLoop_ind (B := (m_X10_weight_L5 x1 t)) (fun σ => ∀ (H : Heap) (locs : List Loc) (ls : Array Slot), Wd g 20 h (cM g h t) s H locs → lv_has ls 5 [(0, .ref (h 0)), (1, .int x1), (2, .long σ.1), (4, .int σ.2)] → W p l e (rW 0 0) s m AV below meth c H locs 0 0 Q (F0 m 5 ls [])) (fun z' => z' = j_3) ?_ FUEL _ _ hL_9 rfl _ _ _ hw (lv_sub hl [2, 3, 1, 0] rfl)
  intro σ z_7 hz_4 hn_5 hx_6
  obtain ⟨y_1, y_2⟩ := σ
  intro H locs ls hw hl
  have hw : Wd g 20 h (cM g h t) s H locs := hw
  have hl : lv_has ls 5 [(0, .ref (h 0)), (1, .int x1), (2, .long y_1), (4, .int y_2)] := hl
  unfold m_X10_weight_L5 at hz_4
  have hz_4 := un_e hz_4
  refine lv_iload X.1 X.2.1 dX10_weight_5 (lv_at hl 3 rfl) ?_
  refine lv_aload_n X.1 X.2.1 dX10_weight_7 rfl (lv_at hl 0 rfl) ?_
  refine gX10_links X hw wq_7_2 dX10_weight_8 ?_
  refine lv_icmp_ge (tgt := 60) X.1 X.2.1 dX10_weight_11 (by decide) (fun c_11 => ?_) (fun c_11 => ?_)
  · have hz_4 := it_p hz_4 c_11
    have he_10 := hx_6 _ (Option.some.inj hz_4).symm
    cases he_10
    exact J_8 _ _ _ hw (lv_sub hl [2] rfl)
  · have hz_4 := it_n hz_4 c_11
    refine lv_lload_n X.1 X.2.1 dX10_weight_14 rfl (lv_at hl 2 rfl) ?_
    refine lv_iload_n X.1 X.2.1 dX10_weight_15 rfl (lv_at hl 1 rfl) ?_
    refine lv_iload X.1 X.2.1 dX10_weight_16 (lv_at hl 3 rfl) ?_
    refine lv_ishr X.1 X.2.1 dX10_weight_18 ?_
    refine lv_iconst (v := 1) X.1 X.2.1 dX10_weight_19 (by decide) ?_
    refine lv_iand X.1 X.2.1 dX10_weight_20 ?_
    refine lv_iconst (v := 1) X.1 X.2.1 dX10_weight_21 (by decide) ?_
    refine lv_icmp_ne (tgt := 36) X.1 X.2.1 dX10_weight_22 (by decide) (fun c_12 => ?_) (fun c_12 => ?_)
    · have hz_4 := it_n hz_4 c_12
      refine lv_aload_n X.1 X.2.1 dX10_weight_36 rfl (lv_at hl 0 rfl) ?_
      refine gX10_bottoms X hw wq_5_18 dX10_weight_37 ?_
      refine lv_iload X.1 X.2.1 dX10_weight_40 (lv_at hl 3 rfl) ?_
      obtain ⟨g_13, hz_4⟩ := gd_e hz_4
      refine lMA7 X hw g_13 dX10_weight_42 ?_
      refine lv_aload_n X.1 X.2.1 dX10_weight_43 rfl (lv_at hl 0 rfl) ?_
      refine gX10_tops X hw wq_5_17 dX10_weight_44 ?_
      refine lv_iload X.1 X.2.1 dX10_weight_47 (lv_at hl 3 rfl) ?_
      obtain ⟨g_14, hz_4⟩ := gd_e hz_4
      refine lMA6 X hw g_14 dX10_weight_49 ?_
      refine lv_isub X.1 X.2.1 dX10_weight_50 ?_
      refine lv_i2l X.1 X.2.1 dX10_weight_51 rfl ?_
      refine lv_lmul X.1 X.2.1 dX10_weight_52 ?_
      refine lv_topl (fun x_15 ex_15 => ?_)
      have hz_4 := lt_e hz_4 ex_15
      refine lv_lstore_n (lv' := [(2, .long x_15), (0, .ref (h 0)), (1, .int x1), (4, .int y_2)]) X.1 X.2.1 dX10_weight_53 rfl hl (by decide) rfl (fun ls hl => ?_)
      obtain ⟨x_16, ex_16⟩ : ∃ y : Int32, y = y_2 + 1 := ⟨_, rfl⟩
      have hz_4 := lt_e hz_4 ex_16
      refine lv_iinc (v := x_16) (lv' := [(4, .int x_16), (2, .long x_15), (0, .ref (h 0)), (1, .int x1)]) X.1 X.2.1 dX10_weight_54 hl (k := 3) rfl (by rw [ex_16]; rfl) (by decide) rfl (fun ls hl => ?_)
      refine lv_goto (tgt := 5) X.1 X.2.1 dX10_weight_57 (by decide) ?_
      exact hn_5 _ (Option.some.inj hz_4).symm _ _ _ hw (lv_sub hl [2, 3, 1, 0] rfl)
    · have hz_4 := it_p hz_4 c_12
      refine lv_aload_n X.1 X.2.1 dX10_weight_25 rfl (lv_at hl 0 rfl) ?_
      refine gX10_tops X hw wq_5_17 dX10_weight_26 ?_
      refine lv_iload X.1 X.2.1 dX10_weight_29 (lv_at hl 3 rfl) ?_
      obtain ⟨g_17, hz_4⟩ := gd_e hz_4
      refine lMA6 X hw g_17 dX10_weight_31 ?_
      refine lv_i2l X.1 X.2.1 dX10_weight_32 rfl ?_
      refine lv_goto (tgt := 52) X.1 X.2.1 dX10_weight_33 (by decide) ?_
      refine lv_lmul X.1 X.2.1 dX10_weight_52 ?_
      refine lv_topl (fun x_18 ex_18 => ?_)
      have hz_4 := lt_e hz_4 ex_18
      refine lv_lstore_n (lv' := [(2, .long x_18), (0, .ref (h 0)), (1, .int x1), (4, .int y_2)]) X.1 X.2.1 dX10_weight_53 rfl hl (by decide) rfl (fun ls hl => ?_)
      obtain ⟨x_19, ex_19⟩ : ∃ y : Int32, y = y_2 + 1 := ⟨_, rfl⟩
      have hz_4 := lt_e hz_4 ex_19
      refine lv_iinc (v := x_19) (lv' := [(4, .int x_19), (2, .long x_18), (0, .ref (h 0)), (1, .int x1)]) X.1 X.2.1 dX10_weight_54 hl (k := 3) rfl (by rw [ex_19]; rfl) (by decide) rfl (fun ls hl => ?_)
      refine lv_goto (tgt := 5) X.1 X.2.1 dX10_weight_57 (by decide) ?_
      exact hn_5 _ (Option.some.inj hz_4).symm _ _ _ hw (lv_sub hl [2, 3, 1, 0] rfl)
def m_X10_isOpen_L7 (x1 : Int32) (t : ST) (σ : Int32 × Int32) : Option ((Int32 × Int32) ⊕ (Int32)) := (fun (q_23 : Int32 × Int32) => un q_23 (fun y_2 y_3 => if (t.1 4) ≤ y_3 then some (.inr y_2) else if y_2 = 0 then gd (¬ (y_3 < 0 ∨ 10 ≤ y_3.toNatClampNeg)) (if (t.2.2.1 1 y_3.toNatClampNeg) = x1 then lt (y_3 + 1) (fun x_18 => some (.inl ((1 : Int32), x_18))) else gd (¬ (y_3 < 0 ∨ 10 ≤ y_3.toNatClampNeg)) (if (t.2.2.1 2 y_3.toNatClampNeg) = x1 then lt (y_3 + 1) (fun x_22 => some (.inl ((1 : Int32), x_22))) else lt (y_3 + 1) (fun x_21 => some (.inl ((0 : Int32), x_21))))) else lt (y_3 + 1) (fun x_15 => some (.inl ((1 : Int32), x_15))))) σ
def m_X10_isOpen (t : ST) (x1 : Int32) (x2 : Int32) : Option (Int32) := lt (x2 + (1 : Int32)) (fun x_1 => Option.bind (vLoop (m_X10_isOpen_L7 x1 t) FUEL ((0 : Int32), x_1)) (fun (j_4 : Int32) => gd (j_4 = 0 ∨ j_4 = 1) (some j_4)))
theorem yo_X10_isOpen : yX10_isOpen.cls = RX10 ∧ yX10_isOpen.cls ≠ "java/lang/invoke/MethodHandle" ∧ yX10_isOpen.cls ≠ "java/lang/invoke/VarHandle" ∧ (parseMethodDescriptor yX10_isOpen.desc).map (fun d => d.parameters.length) = some 2 := by decide +kernel
set_option maxHeartbeats 4000000 in
set_option maxRecDepth 100000 in
theorem c_X10_isOpen {l : Launch} {g : gT} {h : Nat → Nat} {t : ST} {x1 : Int32} {x2 : Int32} {r : Int32} (hm : m_X10_isOpen t x1 x2 = some r) : MetI l g yX10_isOpen cX10_isOpen 5 (some .boolean) 0 0 20 h (cM g h t) (cM g h t) [.ref (h 0), .int x1, .int x2] r := by
  refine MetZ.ofX (by decide +kernel) (Nat.le_of_ble_eq_true rfl) ?_
  intro p e s m below meth c AV Q X hret ls hw hl
  have X : Cx g p s m AV c cX10_isOpen RX10 5 := X
  have hl : lv_has ls 5 [(0, .ref (h 0)), (1, .int x1), (2, .int x2)] := hl
  unfold m_X10_isOpen at hm
  refine lv_iconst (v := 0) X.1 X.2.1 dX10_isOpen_0 (by decide) ?_
  refine lv_istore_n (lv' := [(3, .int (0 : Int32)), (0, .ref (h 0)), (1, .int x1), (2, .int x2)]) X.1 X.2.1 dX10_isOpen_1 rfl hl (by decide) rfl (fun ls hl => ?_)
  refine lv_iload_n X.1 X.2.1 dX10_isOpen_2 rfl (lv_at hl 3 rfl) ?_
  refine lv_iconst (v := 1) X.1 X.2.1 dX10_isOpen_3 (by decide) ?_
  refine lv_iadd X.1 X.2.1 dX10_isOpen_4 ?_
  refine lv_topi (fun x_1 ex_1 => ?_)
  have hm := lt_e hm ex_1
  refine lv_istore (lv' := [(4, .int x_1), (3, .int (0 : Int32)), (0, .ref (h 0)), (1, .int x1), (2, .int x2)]) X.1 X.2.1 dX10_isOpen_5 hl (by decide) rfl (fun ls hl => ?_)
  obtain ⟨j_4, hL_11, hm⟩ := ob_e hm
  have J_10 : ∀ (H : Heap) (locs : List Loc) (ls : Array Slot), Wd g 20 h (cM g h t) s H locs → lv_has ls 5 [(3, .int j_4)] → W p l e (rW 0 0) s m AV below meth c H locs 0 0 Q (F0 m 54 ls []) := by
    intro H locs ls hw hl
    refine lv_iload_n X.1 X.2.1 dX10_isOpen_54 rfl (lv_at hl 0 rfl) ?_
    obtain ⟨g_5, hm⟩ := gd_e hm
    cases hm
    exact hret _ _ _ _ hw dX10_isOpen_55 g_5
  refine vLoop_ind (B := (m_X10_isOpen_L7 x1 t)) (fun σ => ∀ (H : Heap) (locs : List Loc) (ls : Array Slot), Wd g 20 h (cM g h t) s H locs → lv_has ls 5 [(0, .ref (h 0)), (1, .int x1), (3, .int σ.1), (4, .int σ.2)] → W p l e (rW 0 0) s m AV below meth c H locs 0 0 Q (F0 m 7 ls [])) (fun z' => z' = j_4) ?_ FUEL _ _ hL_11 rfl _ _ _ hw (lv_sub hl [2, 3, 1, 0] rfl)
  intro σ z_9 hz_6 hn_7 hx_8
  obtain ⟨y_2, y_3⟩ := σ
  intro H locs ls hw hl
  have hw : Wd g 20 h (cM g h t) s H locs := hw
  have hl : lv_has ls 5 [(0, .ref (h 0)), (1, .int x1), (3, .int y_2), (4, .int y_3)] := hl
  unfold m_X10_isOpen_L7 at hz_6
  have hz_6 := un_e hz_6
  refine lv_iload X.1 X.2.1 dX10_isOpen_7 (lv_at hl 3 rfl) ?_
  refine lv_aload_n X.1 X.2.1 dX10_isOpen_9 rfl (lv_at hl 0 rfl) ?_
  refine gX10_links X hw wq_7_2 dX10_isOpen_10 ?_
  refine lv_icmp_ge (tgt := 54) X.1 X.2.1 dX10_isOpen_13 (by decide) (fun c_13 => ?_) (fun c_13 => ?_)
  · have hz_6 := it_p hz_6 c_13
    have he_12 := hx_8 _ (Option.some.inj hz_6).symm
    cases he_12
    exact J_10 _ _ _ hw (lv_sub hl [2] rfl)
  · have hz_6 := it_n hz_6 c_13
    refine lv_iload_n X.1 X.2.1 dX10_isOpen_16 rfl (lv_at hl 2 rfl) ?_
    refine lv_if_ne (tgt := 42) X.1 X.2.1 dX10_isOpen_17 (by decide) (fun c_14 => ?_) (fun c_14 => ?_)
    · have hz_6 := it_n hz_6 c_14
      refine lv_iconst (v := 1) X.1 X.2.1 dX10_isOpen_42 (by decide) ?_
      refine lv_goto (tgt := 47) X.1 X.2.1 dX10_isOpen_43 (by decide) ?_
      refine lv_istore_n (lv' := [(3, .int (1 : Int32)), (0, .ref (h 0)), (1, .int x1), (4, .int y_3)]) X.1 X.2.1 dX10_isOpen_47 rfl hl (by decide) rfl (fun ls hl => ?_)
      obtain ⟨x_15, ex_15⟩ : ∃ y : Int32, y = y_3 + 1 := ⟨_, rfl⟩
      have hz_6 := lt_e hz_6 ex_15
      refine lv_iinc (v := x_15) (lv' := [(4, .int x_15), (3, .int (1 : Int32)), (0, .ref (h 0)), (1, .int x1)]) X.1 X.2.1 dX10_isOpen_48 hl (k := 3) rfl (by rw [ex_15]; rfl) (by decide) rfl (fun ls hl => ?_)
      refine lv_goto (tgt := 7) X.1 X.2.1 dX10_isOpen_51 (by decide) ?_
      exact hn_7 _ (Option.some.inj hz_6).symm _ _ _ hw (lv_sub hl [2, 3, 1, 0] rfl)
    · have hz_6 := it_p hz_6 c_14
      refine lv_aload_n X.1 X.2.1 dX10_isOpen_20 rfl (lv_at hl 0 rfl) ?_
      refine gX10_ones X hw wq_5_12 dX10_isOpen_21 ?_
      refine lv_iload X.1 X.2.1 dX10_isOpen_24 (lv_at hl 3 rfl) ?_
      obtain ⟨g_16, hz_6⟩ := gd_e hz_6
      refine lMA1 X hw g_16 dX10_isOpen_26 ?_
      refine lv_iload_n X.1 X.2.1 dX10_isOpen_27 rfl (lv_at hl 1 rfl) ?_
      refine lv_icmp_eq (tgt := 42) X.1 X.2.1 dX10_isOpen_28 (by decide) (fun c_17 => ?_) (fun c_17 => ?_)
      · have hz_6 := it_p hz_6 c_17
        refine lv_iconst (v := 1) X.1 X.2.1 dX10_isOpen_42 (by decide) ?_
        refine lv_goto (tgt := 47) X.1 X.2.1 dX10_isOpen_43 (by decide) ?_
        refine lv_istore_n (lv' := [(3, .int (1 : Int32)), (0, .ref (h 0)), (1, .int x1), (4, .int y_3)]) X.1 X.2.1 dX10_isOpen_47 rfl hl (by decide) rfl (fun ls hl => ?_)
        obtain ⟨x_18, ex_18⟩ : ∃ y : Int32, y = y_3 + 1 := ⟨_, rfl⟩
        have hz_6 := lt_e hz_6 ex_18
        refine lv_iinc (v := x_18) (lv' := [(4, .int x_18), (3, .int (1 : Int32)), (0, .ref (h 0)), (1, .int x1)]) X.1 X.2.1 dX10_isOpen_48 hl (k := 3) rfl (by rw [ex_18]; rfl) (by decide) rfl (fun ls hl => ?_)
        refine lv_goto (tgt := 7) X.1 X.2.1 dX10_isOpen_51 (by decide) ?_
        exact hn_7 _ (Option.some.inj hz_6).symm _ _ _ hw (lv_sub hl [2, 3, 1, 0] rfl)
      · have hz_6 := it_n hz_6 c_17
        refine lv_aload_n X.1 X.2.1 dX10_isOpen_31 rfl (lv_at hl 0 rfl) ?_
        refine gX10_others X hw wq_5_13 dX10_isOpen_32 ?_
        refine lv_iload X.1 X.2.1 dX10_isOpen_35 (lv_at hl 3 rfl) ?_
        obtain ⟨g_19, hz_6⟩ := gd_e hz_6
        refine lMA2 X hw g_19 dX10_isOpen_37 ?_
        refine lv_iload_n X.1 X.2.1 dX10_isOpen_38 rfl (lv_at hl 1 rfl) ?_
        refine lv_icmp_ne (tgt := 46) X.1 X.2.1 dX10_isOpen_39 (by decide) (fun c_20 => ?_) (fun c_20 => ?_)
        · have hz_6 := it_n hz_6 c_20
          refine lv_iconst (v := 0) X.1 X.2.1 dX10_isOpen_46 (by decide) ?_
          refine lv_istore_n (lv' := [(3, .int (0 : Int32)), (0, .ref (h 0)), (1, .int x1), (4, .int y_3)]) X.1 X.2.1 dX10_isOpen_47 rfl hl (by decide) rfl (fun ls hl => ?_)
          obtain ⟨x_21, ex_21⟩ : ∃ y : Int32, y = y_3 + 1 := ⟨_, rfl⟩
          have hz_6 := lt_e hz_6 ex_21
          refine lv_iinc (v := x_21) (lv' := [(4, .int x_21), (3, .int (0 : Int32)), (0, .ref (h 0)), (1, .int x1)]) X.1 X.2.1 dX10_isOpen_48 hl (k := 3) rfl (by rw [ex_21]; rfl) (by decide) rfl (fun ls hl => ?_)
          refine lv_goto (tgt := 7) X.1 X.2.1 dX10_isOpen_51 (by decide) ?_
          exact hn_7 _ (Option.some.inj hz_6).symm _ _ _ hw (lv_sub hl [2, 3, 1, 0] rfl)
        · have hz_6 := it_p hz_6 c_20
          refine lv_iconst (v := 1) X.1 X.2.1 dX10_isOpen_42 (by decide) ?_
          refine lv_goto (tgt := 47) X.1 X.2.1 dX10_isOpen_43 (by decide) ?_
          refine lv_istore_n (lv' := [(3, .int (1 : Int32)), (0, .ref (h 0)), (1, .int x1), (4, .int y_3)]) X.1 X.2.1 dX10_isOpen_47 rfl hl (by decide) rfl (fun ls hl => ?_)
          obtain ⟨x_22, ex_22⟩ : ∃ y : Int32, y = y_3 + 1 := ⟨_, rfl⟩
          have hz_6 := lt_e hz_6 ex_22
          refine lv_iinc (v := x_22) (lv' := [(4, .int x_22), (3, .int (1 : Int32)), (0, .ref (h 0)), (1, .int x1)]) X.1 X.2.1 dX10_isOpen_48 hl (k := 3) rfl (by rw [ex_22]; rfl) (by decide) rfl (fun ls hl => ?_)
          refine lv_goto (tgt := 7) X.1 X.2.1 dX10_isOpen_51 (by decide) ?_
          exact hn_7 _ (Option.some.inj hz_6).symm _ _ _ hw (lv_sub hl [2, 3, 1, 0] rfl)
def m_X10_has (t : ST) (x1 : Int32) (x2 : Int32) : Option (Int32) := gd (¬ (x1 < 0 ∨ 12 ≤ x1.toNatClampNeg)) (lt (((t.2.2.1 12 x1.toNatClampNeg) >>> (x2 &&& 31)) &&& (1 : Int32)) (fun x_2 => if x_2 = (1 : Int32) then some (1 : Int32) else some (0 : Int32)))
theorem yo_X10_has : yX10_has.cls = RX10 ∧ yX10_has.cls ≠ "java/lang/invoke/MethodHandle" ∧ yX10_has.cls ≠ "java/lang/invoke/VarHandle" ∧ (parseMethodDescriptor yX10_has.desc).map (fun d => d.parameters.length) = some 2 := by decide +kernel
set_option maxHeartbeats 4000000 in
set_option maxRecDepth 100000 in
theorem c_X10_has {l : Launch} {g : gT} {h : Nat → Nat} {t : ST} {x1 : Int32} {x2 : Int32} {r : Int32} (hm : m_X10_has t x1 x2 = some r) : MetI l g yX10_has cX10_has 3 (some .boolean) 0 0 20 h (cM g h t) (cM g h t) [.ref (h 0), .int x1, .int x2] r := by
  refine MetZ.ofX (by decide +kernel) (Nat.le_of_ble_eq_true rfl) ?_
  intro p e s m below meth c AV Q X hret ls hw hl
  have X : Cx g p s m AV c cX10_has RX10 3 := X
  have hl : lv_has ls 3 [(0, .ref (h 0)), (1, .int x1), (2, .int x2)] := hl
  unfold m_X10_has at hm
  refine lv_aload_n X.1 X.2.1 dX10_has_0 rfl (lv_at hl 0 rfl) ?_
  refine gX10_present X hw wq_5_23 dX10_has_1 ?_
  refine lv_iload_n X.1 X.2.1 dX10_has_4 rfl (lv_at hl 1 rfl) ?_
  obtain ⟨g_1, hm⟩ := gd_e hm
  refine lMA12 X hw g_1 dX10_has_5 ?_
  refine lv_iload_n X.1 X.2.1 dX10_has_6 rfl (lv_at hl 2 rfl) ?_
  refine lv_ishr X.1 X.2.1 dX10_has_7 ?_
  refine lv_iconst (v := 1) X.1 X.2.1 dX10_has_8 (by decide) ?_
  refine lv_iand X.1 X.2.1 dX10_has_9 ?_
  refine lv_topi (fun x_2 ex_2 => ?_)
  have hm := lt_e hm ex_2
  refine lv_iconst (v := 1) X.1 X.2.1 dX10_has_10 (by decide) ?_
  refine lv_icmp_ne (tgt := 18) X.1 X.2.1 dX10_has_11 (by decide) (fun c_3 => ?_) (fun c_3 => ?_)
  · have hm := it_n hm c_3
    refine lv_iconst (v := 0) X.1 X.2.1 dX10_has_18 (by decide) ?_
    cases hm
    exact hret _ _ _ _ hw dX10_has_19 (Or.inl rfl)
  · have hm := it_p hm c_3
    refine lv_iconst (v := 1) X.1 X.2.1 dX10_has_14 (by decide) ?_
    refine lv_goto (tgt := 19) X.1 X.2.1 dX10_has_15 (by decide) ?_
    cases hm
    exact hret _ _ _ _ hw dX10_has_19 (Or.inr rfl)
def m_X10_drops (t : ST) (x1 : Int32) (x2 : Int32) : Option (ST) := gd (¬ (x1 < 0 ∨ 12 ≤ x1.toNatClampNeg)) (lt ((t.2.2.1 12 x1.toNatClampNeg) &&& (((1 : Int32) <<< (x2 &&& 31)) ^^^ (-1 : Int32))) (fun x_2 => gd (¬ (x1 < 0 ∨ 12 ≤ x1.toNatClampNeg)) (lt (wA t 12 x1.toNatClampNeg x_2) (fun t_4 => lt (wI t_4 8 (((t_4.1 8) + (1 : Int32)))) (fun t_5 => some t_5)))))
theorem yo_X10_drops : yX10_drops.cls = RX10 ∧ yX10_drops.cls ≠ "java/lang/invoke/MethodHandle" ∧ yX10_drops.cls ≠ "java/lang/invoke/VarHandle" ∧ (parseMethodDescriptor yX10_drops.desc).map (fun d => d.parameters.length) = some 2 := by decide +kernel
set_option maxHeartbeats 4000000 in
set_option maxRecDepth 100000 in
theorem c_X10_drops {l : Launch} {g : gT} {h : Nat → Nat} {t : ST} {x1 : Int32} {x2 : Int32} {t' : ST} (hm : m_X10_drops t x1 x2 = some (t')) : MetV l g yX10_drops cX10_drops 3 none 0 0 20 h (cM g h t) (cM g h t') [.ref (h 0), .int x1, .int x2] := by
  refine MetV.ofX (by decide +kernel) (Nat.le_of_ble_eq_true rfl) ?_
  intro p e s m below meth c AV Q X hret ls hw hl
  have X : Cx g p s m AV c cX10_drops RX10 3 := X
  have hl : lv_has ls 3 [(0, .ref (h 0)), (1, .int x1), (2, .int x2)] := hl
  unfold m_X10_drops at hm
  refine lv_aload_n X.1 X.2.1 dX10_drops_0 rfl (lv_at hl 0 rfl) ?_
  refine gX10_present X hw wq_5_23 dX10_drops_1 ?_
  refine lv_iload_n X.1 X.2.1 dX10_drops_4 rfl (lv_at hl 1 rfl) ?_
  refine lv_dup2_11 X.1 X.2.1 dX10_drops_5 rfl rfl ?_
  obtain ⟨g_1, hm⟩ := gd_e hm
  refine lMA12 X hw g_1 dX10_drops_6 ?_
  refine lv_iconst (v := 1) X.1 X.2.1 dX10_drops_7 (by decide) ?_
  refine lv_iload_n X.1 X.2.1 dX10_drops_8 rfl (lv_at hl 2 rfl) ?_
  refine lv_ishl X.1 X.2.1 dX10_drops_9 ?_
  refine lv_iconst (v := -1) X.1 X.2.1 dX10_drops_10 (by decide) ?_
  refine lv_ixor X.1 X.2.1 dX10_drops_11 ?_
  refine lv_iand X.1 X.2.1 dX10_drops_12 ?_
  refine lv_topi (fun x_2 ex_2 => ?_)
  have hm := lt_e hm ex_2
  obtain ⟨g_3, hm⟩ := gd_e hm
  refine sMA12 X hw g_3 dX10_drops_13 (fun H locs hw => ?_)
  obtain ⟨t_4, et_4⟩ : ∃ y, y = wA t 12 x1.toNatClampNeg x_2 := ⟨_, rfl⟩
  rw [← et_4] at hw
  have hm := lt_e hm et_4
  refine lv_aload_n X.1 X.2.1 dX10_drops_14 rfl (lv_at hl 0 rfl) ?_
  refine lv_dup X.1 X.2.1 dX10_drops_15 rfl ?_
  refine gX10_tidy X hw wq_25_18 dX10_drops_16 ?_
  refine lv_iconst (v := 1) X.1 X.2.1 dX10_drops_19 (by decide) ?_
  refine lv_iadd X.1 X.2.1 dX10_drops_20 ?_
  refine pX10_tidy X hw wq_25_18 dX10_drops_21 (fun H locs hw => ?_)
  obtain ⟨t_5, et_5⟩ : ∃ y, y = wI t_4 8 (((t_4.1 8) + (1 : Int32))) := ⟨_, rfl⟩
  rw [← et_5] at hw
  have hm := lt_e hm et_5
  cases hm
  exact hret _ _ _ _ hw dX10_drops_24
def m_X10_dropsOwn_L2 (x1 : Int32) (σ : Int32 × ST) : Option ((Int32 × ST) ⊕ ((ST) ⊕ (Int32 × ST))) := (fun (q_24 : Int32 × ST) => un q_24 (fun y_1 t_2 => if (t_2.1 4) ≤ y_1 then some (.inr (.inl t_2)) else Option.bind (m_X10_has t_2 x1 y_1) (fun (r_13 : Int32) => if r_13 = 0 then lt (y_1 + 1) (fun x_15 => some (.inl (x_15, t_2))) else lt (((10 : Int32) * x1) + y_1) (fun x_16 => gd (¬ (x_16 < 0 ∨ 120 ≤ x_16.toNatClampNeg)) (lt (((10 : Int32) * x1) + y_1) (fun x_18 => gd (¬ (x_18 < 0 ∨ 120 ≤ x_18.toNatClampNeg)) (if (t_2.2.2.1 9 x_16.toNatClampNeg) = (t_2.2.2.1 10 x_18.toNatClampNeg) then Option.bind (m_X10_drops t_2 x1 y_1) (fun (t_23 : ST) => some (.inr (.inr ((1 : Int32), t_23)))) else lt (y_1 + 1) (fun x_21 => some (.inl (x_21, t_2)))))))))) σ
def m_X10_dropsOwn (t : ST) (x1 : Int32) : Option (Int32 × ST) := Option.bind (vLoop (m_X10_dropsOwn_L2 x1) FUEL ((0 : Int32), t)) (fun z => ex z (fun (t_3 : ST) => some ((0 : Int32), t_3)) (fun r_26 => some r_26))
theorem yo_X10_dropsOwn : yX10_dropsOwn.cls = RX10 ∧ yX10_dropsOwn.cls ≠ "java/lang/invoke/MethodHandle" ∧ yX10_dropsOwn.cls ≠ "java/lang/invoke/VarHandle" ∧ (parseMethodDescriptor yX10_dropsOwn.desc).map (fun d => d.parameters.length) = some 1 := by decide +kernel
set_option maxHeartbeats 4000000 in
set_option maxRecDepth 100000 in
theorem c_X10_dropsOwn {l : Launch} {g : gT} {h : Nat → Nat} {t : ST} {x1 : Int32} {r : Int32} {t' : ST} (hm : m_X10_dropsOwn t x1 = some (r, t')) : MetI l g yX10_dropsOwn cX10_dropsOwn 3 (some .boolean) 1 22 20 h (cM g h t) (cM g h t') [.ref (h 0), .int x1] r := by
  refine MetZ.ofX (by decide +kernel) (Nat.le_of_ble_eq_true rfl) ?_
  intro p e s m below meth c AV Q X hret ls hw hl
  have X : Cx g p s m AV c cX10_dropsOwn RX10 3 := X
  have hl : lv_has ls 3 [(0, .ref (h 0)), (1, .int x1)] := hl
  unfold m_X10_dropsOwn at hm
  refine lv_iconst (v := 0) X.1 X.2.1 dX10_dropsOwn_0 (by decide) ?_
  refine lv_istore_n (lv' := [(2, .int (0 : Int32)), (0, .ref (h 0)), (1, .int x1)]) X.1 X.2.1 dX10_dropsOwn_1 rfl hl (by decide) rfl (fun ls hl => ?_)
  obtain ⟨z_25, hL_9, hm⟩ := ob_e hm
  have J_8 : ∀ (t_3 : ST), z_25 = .inl t_3 → ∀ (H : Heap) (locs : List Loc) (ls : Array Slot), Wd g 20 h (cM g h t_3) s H locs → lv_has ls 3 [] → W p l e (rW 1 22) s m AV below meth c H locs 0 0 Q (F0 m 58 ls []) := by
    intro t_3 hj
    subst hj
    have hm := ex_l hm
    intro H locs ls hw hl
    refine lv_iconst (v := 0) X.1 X.2.1 dX10_dropsOwn_58 (by decide) ?_
    cases hm
    exact hret _ _ _ _ hw dX10_dropsOwn_59 (Or.inl rfl)
  refine vLoop_ind (B := (m_X10_dropsOwn_L2 x1)) (fun σ => ∀ (H : Heap) (locs : List Loc) (ls : Array Slot), Wd g 20 h (cM g h σ.2) s H locs → lv_has ls 3 [(0, .ref (h 0)), (1, .int x1), (2, .int σ.1)] → W p l e (rW 1 22) s m AV below meth c H locs 0 0 Q (F0 m 2 ls [])) (fun z' => z' = z_25) ?_ FUEL _ _ hL_9 rfl _ _ _ hw (lv_sub hl [1, 2, 0] rfl)
  intro σ z_7 hz_4 hn_5 hx_6
  obtain ⟨y_1, t_2⟩ := σ
  intro H locs ls hw hl
  have hw : Wd g 20 h (cM g h t_2) s H locs := hw
  have hl : lv_has ls 3 [(0, .ref (h 0)), (1, .int x1), (2, .int y_1)] := hl
  unfold m_X10_dropsOwn_L2 at hz_4
  have hz_4 := un_e hz_4
  refine lv_iload_n X.1 X.2.1 dX10_dropsOwn_2 rfl (lv_at hl 2 rfl) ?_
  refine lv_aload_n X.1 X.2.1 dX10_dropsOwn_3 rfl (lv_at hl 0 rfl) ?_
  refine gX10_links X hw wq_7_2 dX10_dropsOwn_4 ?_
  refine lv_icmp_ge (tgt := 58) X.1 X.2.1 dX10_dropsOwn_7 (by decide) (fun c_11 => ?_) (fun c_11 => ?_)
  · have hz_4 := it_p hz_4 c_11
    have he_10 := hx_6 _ (Option.some.inj hz_4).symm
    exact J_8 _ he_10.symm _ _ _ hw (lv_sub hl [] rfl)
  · have hz_4 := it_n hz_4 c_11
    refine lv_aload_n X.1 X.2.1 dX10_dropsOwn_10 rfl (lv_at hl 0 rfl) ?_
    refine lv_iload_n X.1 X.2.1 dX10_dropsOwn_11 rfl (lv_at hl 1 rfl) ?_
    refine lv_iload_n X.1 X.2.1 dX10_dropsOwn_12 rfl (lv_at hl 2 rfl) ?_
    obtain ⟨r_13, h_12, hz_4⟩ := ob_e hz_4
    refine k_Vi (k := 0) (As := [.int x1, .int y_1]) X hl.1 hw (c_X10_has h_12) (by decide) (he_X10 g h _) rfl ⟨wq_26_3, wq_26_4, wq_26_5, wq_1_5, wq_26_6⟩ yo_X10_has rfl ⟨Nat.le_of_ble_eq_true rfl, Nat.le_of_ble_eq_true rfl⟩ (Nat.le_of_ble_eq_true rfl) dX10_dropsOwn_13 (fun H locs hw => ?_)
    refine lv_if_eq (tgt := 52) X.1 X.2.1 dX10_dropsOwn_16 (by decide) (fun c_14 => ?_) (fun c_14 => ?_)
    · have hz_4 := it_p hz_4 c_14
      obtain ⟨x_15, ex_15⟩ : ∃ y : Int32, y = y_1 + 1 := ⟨_, rfl⟩
      have hz_4 := lt_e hz_4 ex_15
      refine lv_iinc (v := x_15) (lv' := [(2, .int x_15), (0, .ref (h 0)), (1, .int x1)]) X.1 X.2.1 dX10_dropsOwn_52 hl (k := 2) rfl (by rw [ex_15]; rfl) (by decide) rfl (fun ls hl => ?_)
      refine lv_goto (tgt := 2) X.1 X.2.1 dX10_dropsOwn_55 (by decide) ?_
      exact hn_5 _ (Option.some.inj hz_4).symm _ _ _ hw (lv_sub hl [1, 2, 0] rfl)
    · have hz_4 := it_n hz_4 c_14
      refine lv_aload_n X.1 X.2.1 dX10_dropsOwn_19 rfl (lv_at hl 0 rfl) ?_
      refine gX10_netOnes X hw wq_5_20 dX10_dropsOwn_20 ?_
      refine lv_bipush (v := 10) X.1 X.2.1 dX10_dropsOwn_23 (by decide) ?_
      refine lv_iload_n X.1 X.2.1 dX10_dropsOwn_25 rfl (lv_at hl 1 rfl) ?_
      refine lv_imul X.1 X.2.1 dX10_dropsOwn_26 ?_
      refine lv_iload_n X.1 X.2.1 dX10_dropsOwn_27 rfl (lv_at hl 2 rfl) ?_
      refine lv_iadd X.1 X.2.1 dX10_dropsOwn_28 ?_
      refine lv_topi (fun x_16 ex_16 => ?_)
      have hz_4 := lt_e hz_4 ex_16
      obtain ⟨g_17, hz_4⟩ := gd_e hz_4
      refine lMA9 X hw g_17 dX10_dropsOwn_29 ?_
      refine lv_aload_n X.1 X.2.1 dX10_dropsOwn_30 rfl (lv_at hl 0 rfl) ?_
      refine gX10_netOthers X hw wq_5_21 dX10_dropsOwn_31 ?_
      refine lv_bipush (v := 10) X.1 X.2.1 dX10_dropsOwn_34 (by decide) ?_
      refine lv_iload_n X.1 X.2.1 dX10_dropsOwn_36 rfl (lv_at hl 1 rfl) ?_
      refine lv_imul X.1 X.2.1 dX10_dropsOwn_37 ?_
      refine lv_iload_n X.1 X.2.1 dX10_dropsOwn_38 rfl (lv_at hl 2 rfl) ?_
      refine lv_iadd X.1 X.2.1 dX10_dropsOwn_39 ?_
      refine lv_topi (fun x_18 ex_18 => ?_)
      have hz_4 := lt_e hz_4 ex_18
      obtain ⟨g_19, hz_4⟩ := gd_e hz_4
      refine lMA10 X hw g_19 dX10_dropsOwn_40 ?_
      refine lv_icmp_ne (tgt := 52) X.1 X.2.1 dX10_dropsOwn_41 (by decide) (fun c_20 => ?_) (fun c_20 => ?_)
      · have hz_4 := it_n hz_4 c_20
        obtain ⟨x_21, ex_21⟩ : ∃ y : Int32, y = y_1 + 1 := ⟨_, rfl⟩
        have hz_4 := lt_e hz_4 ex_21
        refine lv_iinc (v := x_21) (lv' := [(2, .int x_21), (0, .ref (h 0)), (1, .int x1)]) X.1 X.2.1 dX10_dropsOwn_52 hl (k := 2) rfl (by rw [ex_21]; rfl) (by decide) rfl (fun ls hl => ?_)
        refine lv_goto (tgt := 2) X.1 X.2.1 dX10_dropsOwn_55 (by decide) ?_
        exact hn_5 _ (Option.some.inj hz_4).symm _ _ _ hw (lv_sub hl [1, 2, 0] rfl)
      · have hz_4 := it_p hz_4 c_20
        refine lv_aload_n X.1 X.2.1 dX10_dropsOwn_44 rfl (lv_at hl 0 rfl) ?_
        refine lv_iload_n X.1 X.2.1 dX10_dropsOwn_45 rfl (lv_at hl 1 rfl) ?_
        refine lv_iload_n X.1 X.2.1 dX10_dropsOwn_46 rfl (lv_at hl 2 rfl) ?_
        obtain ⟨t_23, h_22, hz_4⟩ := ob_e hz_4
        refine k_Vv (k := 0) (As := [.int x1, .int y_1]) X hl.1 hw (c_X10_drops h_22) (by decide) (he_X10 g h _) rfl ⟨wq_26_7, wq_26_8, wq_26_9, wq_1_5, wq_26_10⟩ yo_X10_drops rfl ⟨Nat.le_of_ble_eq_true rfl, Nat.le_of_ble_eq_true rfl⟩ (Nat.le_of_ble_eq_true rfl) dX10_dropsOwn_47 (fun H locs hw => ?_)
        refine lv_iconst (v := 1) X.1 X.2.1 dX10_dropsOwn_50 (by decide) ?_
        have he_10 := hx_6 _ (Option.some.inj hz_4).symm
        subst he_10
        have hm := ex_r hm
        cases hm
        exact hret _ _ _ _ hw dX10_dropsOwn_51 (Or.inr rfl)
