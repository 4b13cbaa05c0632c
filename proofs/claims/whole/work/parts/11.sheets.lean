def m_X7_finding (b : ST) (x1 : Int32) : Option (Int32 × ST) := lt (wI b 9 x1) (fun b_1 => some (((-10 : Int32) - x1), b_1))
theorem yo_X7_finding : yX7_finding.cls = RX7 ∧ yX7_finding.cls ≠ "java/lang/invoke/MethodHandle" ∧ yX7_finding.cls ≠ "java/lang/invoke/VarHandle" ∧ (parseMethodDescriptor yX7_finding.desc).map (fun d => d.parameters.length) = some 1 := by decide +kernel
set_option maxHeartbeats 4000000 in
set_option maxRecDepth 100000 in
theorem c_X7_finding {l : Launch} {g : gT} {h : Nat → Nat} {b : ST} {w : Nat → ST} {x1 : Int32} {r : Int32} {b' : ST} (hm : m_X7_finding b x1 = some (r, b')) : MetI l g yX7_finding cX7_finding 2 (some .int) 0 0 79 h (cC g h (b, w)) (cC g h (b', w)) [.ref (h 18), .int x1] r := by
  refine MetI.ofX (by decide +kernel) (Nat.le_of_ble_eq_true rfl) ?_
  intro p e s m below meth c AV Q X hret ls hw hl
  replace X : Cx g p s m AV c cX7_finding RX7 2 := X
  replace hl : lv_has ls 2 [(0, .ref (h 18)), (1, .int x1)] := hl
  unfold m_X7_finding at hm
  refine lv_aload_n X.1 X.2.1 dX7_finding_0 rfl (lv_at hl 0 rfl) ?_
  refine lv_iload_n X.1 X.2.1 dX7_finding_1 rfl (lv_at hl 1 rfl) ?_
  refine pX7_latest X hw wq_47_3 dX7_finding_2 (fun H locs hw => ?_)
  obtain ⟨b_1, eb_1⟩ : ∃ y, y = wI b 9 x1 := ⟨_, rfl⟩
  rw [← eb_1] at hw
  replace hm := lt_e hm eb_1
  refine lv_bipush (v := -10) X.1 X.2.1 dX7_finding_5 (by decide) ?_
  refine lv_iload_n X.1 X.2.1 dX7_finding_7 rfl (lv_at hl 1 rfl) ?_
  refine lv_isub X.1 X.2.1 dX7_finding_8 ?_
  obtain ⟨rfl, rfl⟩ := Prod.mk.inj (Option.some.inj hm)
  exact hret _ _ _ _ hw dX7_finding_9
def m_X7_latestFinding (b : ST) : Option (Int32) := some (b.1 9)
theorem yo_X7_latestFinding : yX7_latestFinding.cls = RX7 ∧ yX7_latestFinding.cls ≠ "java/lang/invoke/MethodHandle" ∧ yX7_latestFinding.cls ≠ "java/lang/invoke/VarHandle" ∧ (parseMethodDescriptor yX7_latestFinding.desc).map (fun d => d.parameters.length) = some 0 := by decide +kernel
set_option maxHeartbeats 4000000 in
set_option maxRecDepth 100000 in
theorem c_X7_latestFinding {l : Launch} {g : gT} {h : Nat → Nat} {b : ST} {w : Nat → ST} {r : Int32} (hm : m_X7_latestFinding b = some r) : MetI l g yX7_latestFinding cX7_latestFinding 1 (some .int) 0 0 79 h (cC g h (b, w)) (cC g h (b, w)) [.ref (h 18)] r := by
  refine MetI.ofX (by decide +kernel) (Nat.le_of_ble_eq_true rfl) ?_
  intro p e s m below meth c AV Q X hret ls hw hl
  replace X : Cx g p s m AV c cX7_latestFinding RX7 1 := X
  replace hl : lv_has ls 1 [(0, .ref (h 18))] := hl
  unfold m_X7_latestFinding at hm
  refine lv_aload_n X.1 X.2.1 dX7_latestFinding_0 rfl (lv_at hl 0 rfl) ?_
  refine gX7_latest X hw wq_47_3 dX7_latestFinding_1 ?_
  obtain rfl := Option.some.inj hm
  exact hret _ _ _ _ hw dX7_latestFinding_4
def m_X7_isSheet (b : ST) (x1 : Int32) : Option (Int32) := if x1 < 0 then some (0 : Int32) else if (3 : Int32) ≤ x1 then some (0 : Int32) else some (1 : Int32)
theorem yo_X7_isSheet : yX7_isSheet.cls = RX7 ∧ yX7_isSheet.cls ≠ "java/lang/invoke/MethodHandle" ∧ yX7_isSheet.cls ≠ "java/lang/invoke/VarHandle" ∧ (parseMethodDescriptor yX7_isSheet.desc).map (fun d => d.parameters.length) = some 1 := by decide +kernel
set_option maxHeartbeats 4000000 in
set_option maxRecDepth 100000 in
theorem c_X7_isSheet {l : Launch} {g : gT} {h : Nat → Nat} {b : ST} {w : Nat → ST} {x1 : Int32} {r : Int32} (hm : m_X7_isSheet b x1 = some r) : MetI l g yX7_isSheet cX7_isSheet 2 (some .boolean) 0 0 79 h (cC g h (b, w)) (cC g h (b, w)) [.ref (h 18), .int x1] r := by
  refine MetZ.ofX (by decide +kernel) (Nat.le_of_ble_eq_true rfl) ?_
  intro p e s m below meth c AV Q X hret ls hw hl
  replace X : Cx g p s m AV c cX7_isSheet RX7 2 := X
  replace hl : lv_has ls 2 [(0, .ref (h 18)), (1, .int x1)] := hl
  unfold m_X7_isSheet at hm
  refine lv_iload_n X.1 X.2.1 dX7_isSheet_0 rfl (lv_at hl 1 rfl) ?_
  refine lv_if_lt (tgt := 13) X.1 X.2.1 dX7_isSheet_1 (by decide) (fun c_1 => ?_) (fun c_1 => ?_)
  · replace hm := it_p hm c_1
    refine lv_iconst (v := 0) X.1 X.2.1 dX7_isSheet_13 (by decide) ?_
    obtain rfl := Option.some.inj hm
    exact hret _ _ _ _ hw dX7_isSheet_14 (Or.inl rfl)
  · replace hm := it_n hm c_1
    refine lv_iload_n X.1 X.2.1 dX7_isSheet_4 rfl (lv_at hl 1 rfl) ?_
    refine lv_iconst (v := 3) X.1 X.2.1 dX7_isSheet_5 (by decide) ?_
    refine lv_icmp_ge (tgt := 13) X.1 X.2.1 dX7_isSheet_6 (by decide) (fun c_2 => ?_) (fun c_2 => ?_)
    · replace hm := it_p hm c_2
      refine lv_iconst (v := 0) X.1 X.2.1 dX7_isSheet_13 (by decide) ?_
      obtain rfl := Option.some.inj hm
      exact hret _ _ _ _ hw dX7_isSheet_14 (Or.inl rfl)
    · replace hm := it_n hm c_2
      refine lv_iconst (v := 1) X.1 X.2.1 dX7_isSheet_9 (by decide) ?_
      refine lv_goto (tgt := 14) X.1 X.2.1 dX7_isSheet_10 (by decide) ?_
      obtain rfl := Option.some.inj hm
      exact hret _ _ _ _ hw dX7_isSheet_14 (Or.inr rfl)
def m_X7_isLost (b : ST) (x1 : Int32) : Option (Int32) := Option.bind (m_X7_isSheet b x1) (fun (r_2 : Int32) => if r_2 = 0 then some (1 : Int32) else gd (¬ (x1 < 0 ∨ 3 ≤ x1.toNatClampNeg)) (if (b.2.2.1 7 x1.toNatClampNeg) = (-1 : Int32) then some (1 : Int32) else some (0 : Int32)))
theorem yo_X7_isLost : yX7_isLost.cls = RX7 ∧ yX7_isLost.cls ≠ "java/lang/invoke/MethodHandle" ∧ yX7_isLost.cls ≠ "java/lang/invoke/VarHandle" ∧ (parseMethodDescriptor yX7_isLost.desc).map (fun d => d.parameters.length) = some 1 := by decide +kernel
set_option maxHeartbeats 4000000 in
set_option maxRecDepth 100000 in
theorem c_X7_isLost {l : Launch} {g : gT} {h : Nat → Nat} {b : ST} {w : Nat → ST} {x1 : Int32} {r : Int32} (hm : m_X7_isLost b x1 = some r) : MetI l g yX7_isLost cX7_isLost 2 (some .boolean) 1 21 79 h (cC g h (b, w)) (cC g h (b, w)) [.ref (h 18), .int x1] r := by
  refine MetZ.ofX (by decide +kernel) (Nat.le_of_ble_eq_true rfl) ?_
  intro p e s m below meth c AV Q X hret ls hw hl
  replace X : Cx g p s m AV c cX7_isLost RX7 2 := X
  replace hl : lv_has ls 2 [(0, .ref (h 18)), (1, .int x1)] := hl
  unfold m_X7_isLost at hm
  refine lv_aload_n X.1 X.2.1 dX7_isLost_0 rfl (lv_at hl 0 rfl) ?_
  refine lv_iload_n X.1 X.2.1 dX7_isLost_1 rfl (lv_at hl 1 rfl) ?_
  replace hm := ob_e hm
  obtain ⟨r_2, h_1, hm⟩ := hm
  refine k_Vi (k := 18) (As := [.int x1]) X hl.1 hw (c_X7_isSheet h_1) (by decide) (he_X7 g h _ _) rfl ⟨wq_47_8, wq_46_20, wq_46_21, wq_2_14, wq_46_22⟩ yo_X7_isSheet rfl ⟨Nat.le_of_ble_eq_true rfl, Nat.le_of_ble_eq_true rfl⟩ (Nat.le_of_ble_eq_true rfl) dX7_isLost_2 (fun H locs hw => ?_)
  refine lv_if_eq (tgt := 18) X.1 X.2.1 dX7_isLost_5 (by decide) (fun c_3 => ?_) (fun c_3 => ?_)
  · replace hm := it_p hm c_3
    refine lv_iconst (v := 1) X.1 X.2.1 dX7_isLost_18 (by decide) ?_
    refine lv_goto (tgt := 23) X.1 X.2.1 dX7_isLost_19 (by decide) ?_
    obtain rfl := Option.some.inj hm
    exact hret _ _ _ _ hw dX7_isLost_23 (Or.inr rfl)
  · replace hm := it_n hm c_3
    refine lv_aload_n X.1 X.2.1 dX7_isLost_8 rfl (lv_at hl 0 rfl) ?_
    refine gX7_sizes X hw wq_5_4 dX7_isLost_9 ?_
    refine lv_iload_n X.1 X.2.1 dX7_isLost_12 rfl (lv_at hl 1 rfl) ?_
    replace hm := gd_e hm
    obtain ⟨g_4, hm⟩ := hm
    refine lA7 X hw g_4 dX7_isLost_13 ?_
    refine lv_iconst (v := -1) X.1 X.2.1 dX7_isLost_14 (by decide) ?_
    refine lv_icmp_ne (tgt := 22) X.1 X.2.1 dX7_isLost_15 (by decide) (fun c_5 => ?_) (fun c_5 => ?_)
    · replace hm := it_n hm c_5
      refine lv_iconst (v := 0) X.1 X.2.1 dX7_isLost_22 (by decide) ?_
      obtain rfl := Option.some.inj hm
      exact hret _ _ _ _ hw dX7_isLost_23 (Or.inl rfl)
    · replace hm := it_p hm c_5
      refine lv_iconst (v := 1) X.1 X.2.1 dX7_isLost_18 (by decide) ?_
      refine lv_goto (tgt := 23) X.1 X.2.1 dX7_isLost_19 (by decide) ?_
      obtain rfl := Option.some.inj hm
      exact hret _ _ _ _ hw dX7_isLost_23 (Or.inr rfl)
def m_X7_sizeOf (b : ST) (x1 : Int32) : Option (Int32) := Option.bind (m_X7_isLost b x1) (fun (r_2 : Int32) => if r_2 = 0 then gd (¬ (x1 < 0 ∨ 3 ≤ x1.toNatClampNeg)) (some (b.2.2.1 7 x1.toNatClampNeg)) else some (0 : Int32))
theorem yo_X7_sizeOf : yX7_sizeOf.cls = RX7 ∧ yX7_sizeOf.cls ≠ "java/lang/invoke/MethodHandle" ∧ yX7_sizeOf.cls ≠ "java/lang/invoke/VarHandle" ∧ (parseMethodDescriptor yX7_sizeOf.desc).map (fun d => d.parameters.length) = some 1 := by decide +kernel
set_option maxHeartbeats 4000000 in
set_option maxRecDepth 100000 in
theorem c_X7_sizeOf {l : Launch} {g : gT} {h : Nat → Nat} {b : ST} {w : Nat → ST} {x1 : Int32} {r : Int32} (hm : m_X7_sizeOf b x1 = some r) : MetI l g yX7_sizeOf cX7_sizeOf 2 (some .int) 2 42 79 h (cC g h (b, w)) (cC g h (b, w)) [.ref (h 18), .int x1] r := by
  refine MetI.ofX (by decide +kernel) (Nat.le_of_ble_eq_true rfl) ?_
  intro p e s m below meth c AV Q X hret ls hw hl
  replace X : Cx g p s m AV c cX7_sizeOf RX7 2 := X
  replace hl : lv_has ls 2 [(0, .ref (h 18)), (1, .int x1)] := hl
  unfold m_X7_sizeOf at hm
  refine lv_aload_n X.1 X.2.1 dX7_sizeOf_0 rfl (lv_at hl 0 rfl) ?_
  refine lv_iload_n X.1 X.2.1 dX7_sizeOf_1 rfl (lv_at hl 1 rfl) ?_
  replace hm := ob_e hm
  obtain ⟨r_2, h_1, hm⟩ := hm
  refine k_Vi (k := 18) (As := [.int x1]) X hl.1 hw (c_X7_isLost h_1) (by decide) (he_X7 g h _ _) rfl ⟨wq_48_5, wq_48_6, wq_48_7, wq_2_14, wq_48_8⟩ yo_X7_isLost rfl ⟨Nat.le_of_ble_eq_true rfl, Nat.le_of_ble_eq_true rfl⟩ (Nat.le_of_ble_eq_true rfl) dX7_sizeOf_2 (fun H locs hw => ?_)
  refine lv_if_eq (tgt := 12) X.1 X.2.1 dX7_sizeOf_5 (by decide) (fun c_3 => ?_) (fun c_3 => ?_)
  · replace hm := it_p hm c_3
    refine lv_aload_n X.1 X.2.1 dX7_sizeOf_12 rfl (lv_at hl 0 rfl) ?_
    refine gX7_sizes X hw wq_5_4 dX7_sizeOf_13 ?_
    refine lv_iload_n X.1 X.2.1 dX7_sizeOf_16 rfl (lv_at hl 1 rfl) ?_
    replace hm := gd_e hm
    obtain ⟨g_4, hm⟩ := hm
    refine lA7 X hw g_4 dX7_sizeOf_17 ?_
    obtain rfl := Option.some.inj hm
    exact hret _ _ _ _ hw dX7_sizeOf_18
  · replace hm := it_n hm c_3
    refine lv_iconst (v := 0) X.1 X.2.1 dX7_sizeOf_8 (by decide) ?_
    refine lv_goto (tgt := 18) X.1 X.2.1 dX7_sizeOf_9 (by decide) ?_
    obtain rfl := Option.some.inj hm
    exact hret _ _ _ _ hw dX7_sizeOf_18
def m_X7_holds (b : ST) (x1 : Int32) (x2 : Int32) (x3 : Int32) : Option (Int32) := Option.bind (m_X7_sizeOf b x1) (fun (r_2 : Int32) => if x2 < 0 then some (0 : Int32) else if x3 < 0 then some (0 : Int32) else if r_2 < x2 then some (0 : Int32) else if (r_2 - x2) < x3 then some (0 : Int32) else some (1 : Int32))
theorem yo_X7_holds : yX7_holds.cls = RX7 ∧ yX7_holds.cls ≠ "java/lang/invoke/MethodHandle" ∧ yX7_holds.cls ≠ "java/lang/invoke/VarHandle" ∧ (parseMethodDescriptor yX7_holds.desc).map (fun d => d.parameters.length) = some 3 := by decide +kernel
set_option maxHeartbeats 4000000 in
set_option maxRecDepth 100000 in
theorem c_X7_holds {l : Launch} {g : gT} {h : Nat → Nat} {b : ST} {w : Nat → ST} {x1 : Int32} {x2 : Int32} {x3 : Int32} {r : Int32} (hm : m_X7_holds b x1 x2 x3 = some r) : MetI l g yX7_holds cX7_holds 5 (some .boolean) 3 63 79 h (cC g h (b, w)) (cC g h (b, w)) [.ref (h 18), .int x1, .int x2, .int x3] r := by
  refine MetZ.ofX (by decide +kernel) (Nat.le_of_ble_eq_true rfl) ?_
  intro p e s m below meth c AV Q X hret ls hw hl
  replace X : Cx g p s m AV c cX7_holds RX7 5 := X
  replace hl : lv_has ls 5 [(0, .ref (h 18)), (1, .int x1), (2, .int x2), (3, .int x3)] := hl
  unfold m_X7_holds at hm
  refine lv_aload_n X.1 X.2.1 dX7_holds_0 rfl (lv_at hl 0 rfl) ?_
  refine lv_iload_n X.1 X.2.1 dX7_holds_1 rfl (lv_at hl 1 rfl) ?_
  replace hm := ob_e hm
  obtain ⟨r_2, h_1, hm⟩ := hm
  refine k_Vi (k := 18) (As := [.int x1]) X hl.1 hw (c_X7_sizeOf h_1) (by decide) (he_X7 g h _ _) rfl ⟨wq_48_14, wq_48_15, wq_48_16, wq_2_14, wq_48_17⟩ yo_X7_sizeOf rfl ⟨Nat.le_of_ble_eq_true rfl, Nat.le_of_ble_eq_true rfl⟩ (Nat.le_of_ble_eq_true rfl) dX7_holds_2 (fun H locs hw => ?_)
  refine lv_istore (lv' := [(4, .int r_2), (0, .ref (h 18)), (1, .int x1), (2, .int x2), (3, .int x3)]) X.1 X.2.1 dX7_holds_5 hl (by decide) rfl (fun ls hl => ?_)
  refine lv_iload_n X.1 X.2.1 dX7_holds_7 rfl (lv_at hl 3 rfl) ?_
  refine lv_if_lt (tgt := 33) X.1 X.2.1 dX7_holds_8 (by decide) (fun c_3 => ?_) (fun c_3 => ?_)
  · replace hm := it_p hm c_3
    refine lv_iconst (v := 0) X.1 X.2.1 dX7_holds_33 (by decide) ?_
    obtain rfl := Option.some.inj hm
    exact hret _ _ _ _ hw dX7_holds_34 (Or.inl rfl)
  · replace hm := it_n hm c_3
    refine lv_iload_n X.1 X.2.1 dX7_holds_11 rfl (lv_at hl 4 rfl) ?_
    refine lv_if_lt (tgt := 33) X.1 X.2.1 dX7_holds_12 (by decide) (fun c_4 => ?_) (fun c_4 => ?_)
    · replace hm := it_p hm c_4
      refine lv_iconst (v := 0) X.1 X.2.1 dX7_holds_33 (by decide) ?_
      obtain rfl := Option.some.inj hm
      exact hret _ _ _ _ hw dX7_holds_34 (Or.inl rfl)
    · replace hm := it_n hm c_4
      refine lv_iload_n X.1 X.2.1 dX7_holds_15 rfl (lv_at hl 3 rfl) ?_
      refine lv_iload X.1 X.2.1 dX7_holds_16 (lv_at hl 0 rfl) ?_
      refine lv_icmp_gt (tgt := 33) X.1 X.2.1 dX7_holds_18 (by decide) (fun c_5 => ?_) (fun c_5 => ?_)
      · replace hm := it_p hm c_5
        refine lv_iconst (v := 0) X.1 X.2.1 dX7_holds_33 (by decide) ?_
        obtain rfl := Option.some.inj hm
        exact hret _ _ _ _ hw dX7_holds_34 (Or.inl rfl)
      · replace hm := it_n hm c_5
        refine lv_iload_n X.1 X.2.1 dX7_holds_21 rfl (lv_at hl 4 rfl) ?_
        refine lv_iload X.1 X.2.1 dX7_holds_22 (lv_at hl 0 rfl) ?_
        refine lv_iload_n X.1 X.2.1 dX7_holds_24 rfl (lv_at hl 3 rfl) ?_
        refine lv_isub X.1 X.2.1 dX7_holds_25 ?_
        refine lv_icmp_gt (tgt := 33) X.1 X.2.1 dX7_holds_26 (by decide) (fun c_6 => ?_) (fun c_6 => ?_)
        · replace hm := it_p hm c_6
          refine lv_iconst (v := 0) X.1 X.2.1 dX7_holds_33 (by decide) ?_
          obtain rfl := Option.some.inj hm
          exact hret _ _ _ _ hw dX7_holds_34 (Or.inl rfl)
        · replace hm := it_n hm c_6
          refine lv_iconst (v := 1) X.1 X.2.1 dX7_holds_29 (by decide) ?_
          refine lv_goto (tgt := 34) X.1 X.2.1 dX7_holds_30 (by decide) ?_
          obtain rfl := Option.some.inj hm
          exact hret _ _ _ _ hw dX7_holds_34 (Or.inr rfl)
def m_X7_refusalOf (b : ST) (x1 : Int32) : Option (Int32 × ST) := Option.bind (m_X7_isSheet b x1) (fun (r_2 : Int32) => if r_2 = 0 then some ((-2 : Int32), b) else Option.bind (m_X7_isLost b x1) (fun (r_5 : Int32) => if r_5 = 0 then some ((0 : Int32), b) else Option.bind (m_X7_finding b (1 : Int32)) (fun (q_11 : Int32 × ST) => un q_11 (fun r_9 b_10 => some (r_9, b_10)))))
theorem yo_X7_refusalOf : yX7_refusalOf.cls = RX7 ∧ yX7_refusalOf.cls ≠ "java/lang/invoke/MethodHandle" ∧ yX7_refusalOf.cls ≠ "java/lang/invoke/VarHandle" ∧ (parseMethodDescriptor yX7_refusalOf.desc).map (fun d => d.parameters.length) = some 1 := by decide +kernel
set_option maxHeartbeats 4000000 in
set_option maxRecDepth 100000 in
theorem c_X7_refusalOf {l : Launch} {g : gT} {h : Nat → Nat} {b : ST} {w : Nat → ST} {x1 : Int32} {r : Int32} {b' : ST} (hm : m_X7_refusalOf b x1 = some (r, b')) : MetI l g yX7_refusalOf cX7_refusalOf 2 (some .int) 2 42 79 h (cC g h (b, w)) (cC g h (b', w)) [.ref (h 18), .int x1] r := by
  refine MetI.ofX (by decide +kernel) (Nat.le_of_ble_eq_true rfl) ?_
  intro p e s m below meth c AV Q X hret ls hw hl
  replace X : Cx g p s m AV c cX7_refusalOf RX7 2 := X
  replace hl : lv_has ls 2 [(0, .ref (h 18)), (1, .int x1)] := hl
  unfold m_X7_refusalOf at hm
  refine lv_aload_n X.1 X.2.1 dX7_refusalOf_0 rfl (lv_at hl 0 rfl) ?_
  refine lv_iload_n X.1 X.2.1 dX7_refusalOf_1 rfl (lv_at hl 1 rfl) ?_
  replace hm := ob_e hm
  obtain ⟨r_2, h_1, hm⟩ := hm
  refine k_Vi (k := 18) (As := [.int x1]) X hl.1 hw (c_X7_isSheet h_1) (by decide) (he_X7 g h _ _) rfl ⟨wq_47_8, wq_46_20, wq_46_21, wq_2_14, wq_46_22⟩ yo_X7_isSheet rfl ⟨Nat.le_of_ble_eq_true rfl, Nat.le_of_ble_eq_true rfl⟩ (Nat.le_of_ble_eq_true rfl) dX7_refusalOf_2 (fun H locs hw => ?_)
  refine lv_if_ne (tgt := 11) X.1 X.2.1 dX7_refusalOf_5 (by decide) (fun c_3 => ?_) (fun c_3 => ?_)
  · replace hm := it_n hm c_3
    refine lv_aload_n X.1 X.2.1 dX7_refusalOf_11 rfl (lv_at hl 0 rfl) ?_
    refine lv_iload_n X.1 X.2.1 dX7_refusalOf_12 rfl (lv_at hl 1 rfl) ?_
    replace hm := ob_e hm
    obtain ⟨r_5, h_4, hm⟩ := hm
    refine k_Vi (k := 18) (As := [.int x1]) X hl.1 hw (c_X7_isLost h_4) (by decide) (he_X7 g h _ _) rfl ⟨wq_48_5, wq_48_6, wq_48_7, wq_2_14, wq_48_8⟩ yo_X7_isLost rfl ⟨Nat.le_of_ble_eq_true rfl, Nat.le_of_ble_eq_true rfl⟩ (Nat.le_of_ble_eq_true rfl) dX7_refusalOf_13 (fun H locs hw => ?_)
    refine lv_if_eq (tgt := 27) X.1 X.2.1 dX7_refusalOf_16 (by decide) (fun c_6 => ?_) (fun c_6 => ?_)
    · replace hm := it_p hm c_6
      refine lv_iconst (v := 0) X.1 X.2.1 dX7_refusalOf_27 (by decide) ?_
      obtain ⟨rfl, rfl⟩ := Prod.mk.inj (Option.some.inj hm)
      exact hret _ _ _ _ hw dX7_refusalOf_28
    · replace hm := it_n hm c_6
      refine lv_aload_n X.1 X.2.1 dX7_refusalOf_19 rfl (lv_at hl 0 rfl) ?_
      refine lv_iconst (v := 1) X.1 X.2.1 dX7_refusalOf_20 (by decide) ?_
      replace hm := ob_e hm
      obtain ⟨⟨r_9, b_10⟩, h_8, hm⟩ := hm
      replace hm := un_e hm
      refine k_Vi (k := 18) (As := [.int (1 : Int32)]) X hl.1 hw (c_X7_finding h_8) (by decide) (he_X7 g h _ _) rfl ⟨wq_48_9, wq_47_0, wq_47_1, wq_2_14, wq_47_2⟩ yo_X7_finding rfl ⟨Nat.le_of_ble_eq_true rfl, Nat.le_of_ble_eq_true rfl⟩ (Nat.le_of_ble_eq_true rfl) dX7_refusalOf_21 (fun H locs hw => ?_)
      refine lv_goto (tgt := 28) X.1 X.2.1 dX7_refusalOf_24 (by decide) ?_
      obtain ⟨rfl, rfl⟩ := Prod.mk.inj (Option.some.inj hm)
      exact hret _ _ _ _ hw dX7_refusalOf_28
  · replace hm := it_p hm c_3
    refine lv_bipush (v := -2) X.1 X.2.1 dX7_refusalOf_8 (by decide) ?_
    obtain ⟨rfl, rfl⟩ := Prod.mk.inj (Option.some.inj hm)
    exact hret _ _ _ _ hw dX7_refusalOf_10
def m_X7_hasItem (b : ST) (x1 : Int32) (x2 : Int32) : Option (Int32) := if x2 < 0 then some (0 : Int32) else Option.bind (m_X7_sizeOf b x1) (fun (r_3 : Int32) => if r_3 ≤ x2 then some (0 : Int32) else if (40 : Int32) ≤ x2 then some (0 : Int32) else some (1 : Int32))
theorem yo_X7_hasItem : yX7_hasItem.cls = RX7 ∧ yX7_hasItem.cls ≠ "java/lang/invoke/MethodHandle" ∧ yX7_hasItem.cls ≠ "java/lang/invoke/VarHandle" ∧ (parseMethodDescriptor yX7_hasItem.desc).map (fun d => d.parameters.length) = some 2 := by decide +kernel
set_option maxHeartbeats 4000000 in
set_option maxRecDepth 100000 in
theorem c_X7_hasItem {l : Launch} {g : gT} {h : Nat → Nat} {b : ST} {w : Nat → ST} {x1 : Int32} {x2 : Int32} {r : Int32} (hm : m_X7_hasItem b x1 x2 = some r) : MetI l g yX7_hasItem cX7_hasItem 3 (some .boolean) 3 63 79 h (cC g h (b, w)) (cC g h (b, w)) [.ref (h 18), .int x1, .int x2] r := by
  refine MetZ.ofX (by decide +kernel) (Nat.le_of_ble_eq_true rfl) ?_
  intro p e s m below meth c AV Q X hret ls hw hl
  replace X : Cx g p s m AV c cX7_hasItem RX7 3 := X
  replace hl : lv_has ls 3 [(0, .ref (h 18)), (1, .int x1), (2, .int x2)] := hl
  unfold m_X7_hasItem at hm
  refine lv_iload_n X.1 X.2.1 dX7_hasItem_0 rfl (lv_at hl 2 rfl) ?_
  refine lv_if_lt (tgt := 23) X.1 X.2.1 dX7_hasItem_1 (by decide) (fun c_1 => ?_) (fun c_1 => ?_)
  · replace hm := it_p hm c_1
    refine lv_iconst (v := 0) X.1 X.2.1 dX7_hasItem_23 (by decide) ?_
    obtain rfl := Option.some.inj hm
    exact hret _ _ _ _ hw dX7_hasItem_24 (Or.inl rfl)
  · replace hm := it_n hm c_1
    refine lv_iload_n X.1 X.2.1 dX7_hasItem_4 rfl (lv_at hl 2 rfl) ?_
    refine lv_aload_n X.1 X.2.1 dX7_hasItem_5 rfl (lv_at hl 0 rfl) ?_
    refine lv_iload_n X.1 X.2.1 dX7_hasItem_6 rfl (lv_at hl 1 rfl) ?_
    replace hm := ob_e hm
    obtain ⟨r_3, h_2, hm⟩ := hm
    refine k_Vi (k := 18) (As := [.int x1]) X hl.1 hw (c_X7_sizeOf h_2) (by decide) (he_X7 g h _ _) rfl ⟨wq_48_14, wq_48_15, wq_48_16, wq_2_14, wq_48_17⟩ yo_X7_sizeOf rfl ⟨Nat.le_of_ble_eq_true rfl, Nat.le_of_ble_eq_true rfl⟩ (Nat.le_of_ble_eq_true rfl) dX7_hasItem_7 (fun H locs hw => ?_)
    refine lv_icmp_ge (tgt := 23) X.1 X.2.1 dX7_hasItem_10 (by decide) (fun c_4 => ?_) (fun c_4 => ?_)
    · replace hm := it_p hm c_4
      refine lv_iconst (v := 0) X.1 X.2.1 dX7_hasItem_23 (by decide) ?_
      obtain rfl := Option.some.inj hm
      exact hret _ _ _ _ hw dX7_hasItem_24 (Or.inl rfl)
    · replace hm := it_n hm c_4
      refine lv_iload_n X.1 X.2.1 dX7_hasItem_13 rfl (lv_at hl 2 rfl) ?_
      refine lv_bipush (v := 40) X.1 X.2.1 dX7_hasItem_14 (by decide) ?_
      refine lv_icmp_ge (tgt := 23) X.1 X.2.1 dX7_hasItem_16 (by decide) (fun c_5 => ?_) (fun c_5 => ?_)
      · replace hm := it_p hm c_5
        refine lv_iconst (v := 0) X.1 X.2.1 dX7_hasItem_23 (by decide) ?_
        obtain rfl := Option.some.inj hm
        exact hret _ _ _ _ hw dX7_hasItem_24 (Or.inl rfl)
      · replace hm := it_n hm c_5
        refine lv_iconst (v := 1) X.1 X.2.1 dX7_hasItem_19 (by decide) ?_
        refine lv_goto (tgt := 24) X.1 X.2.1 dX7_hasItem_20 (by decide) ?_
        obtain rfl := Option.some.inj hm
        exact hret _ _ _ _ hw dX7_hasItem_24 (Or.inr rfl)
def m_X7_refusalAt (b : ST) (x1 : Int32) (x2 : Int32) : Option (Int32 × ST) := Option.bind (m_X7_refusalOf b x1) (fun (q_4 : Int32 × ST) => un q_4 (fun r_2 b_3 => if r_2 = 0 then Option.bind (m_X7_hasItem b_3 x1 x2) (fun (r_7 : Int32) => if r_7 = 0 then Option.bind (m_X7_finding b_3 (2 : Int32)) (fun (q_12 : Int32 × ST) => un q_12 (fun r_10 b_11 => some (r_10, b_11))) else some ((0 : Int32), b_3)) else some (r_2, b_3)))
theorem yo_X7_refusalAt : yX7_refusalAt.cls = RX7 ∧ yX7_refusalAt.cls ≠ "java/lang/invoke/MethodHandle" ∧ yX7_refusalAt.cls ≠ "java/lang/invoke/VarHandle" ∧ (parseMethodDescriptor yX7_refusalAt.desc).map (fun d => d.parameters.length) = some 2 := by decide +kernel
set_option maxHeartbeats 4000000 in
set_option maxRecDepth 100000 in
theorem c_X7_refusalAt {l : Launch} {g : gT} {h : Nat → Nat} {b : ST} {w : Nat → ST} {x1 : Int32} {x2 : Int32} {r : Int32} {b' : ST} (hm : m_X7_refusalAt b x1 x2 = some (r, b')) : MetI l g yX7_refusalAt cX7_refusalAt 4 (some .int) 4 85 79 h (cC g h (b, w)) (cC g h (b', w)) [.ref (h 18), .int x1, .int x2] r := by
  refine MetI.ofX (by decide +kernel) (Nat.le_of_ble_eq_true rfl) ?_
  intro p e s m below meth c AV Q X hret ls hw hl
  replace X : Cx g p s m AV c cX7_refusalAt RX7 4 := X
  replace hl : lv_has ls 4 [(0, .ref (h 18)), (1, .int x1), (2, .int x2)] := hl
  unfold m_X7_refusalAt at hm
  refine lv_aload_n X.1 X.2.1 dX7_refusalAt_0 rfl (lv_at hl 0 rfl) ?_
  refine lv_iload_n X.1 X.2.1 dX7_refusalAt_1 rfl (lv_at hl 1 rfl) ?_
  replace hm := ob_e hm
  obtain ⟨⟨r_2, b_3⟩, h_1, hm⟩ := hm
  replace hm := un_e hm
  refine k_Vi (k := 18) (As := [.int x1]) X hl.1 hw (c_X7_refusalOf h_1) (by decide) (he_X7 g h _ _) rfl ⟨wq_49_6, wq_48_2, wq_48_3, wq_2_14, wq_48_4⟩ yo_X7_refusalOf rfl ⟨Nat.le_of_ble_eq_true rfl, Nat.le_of_ble_eq_true rfl⟩ (Nat.le_of_ble_eq_true rfl) dX7_refusalAt_2 (fun H locs hw => ?_)
  refine lv_istore_n (lv' := [(3, .int r_2), (0, .ref (h 18)), (1, .int x1), (2, .int x2)]) X.1 X.2.1 dX7_refusalAt_5 rfl hl (by decide) rfl (fun ls hl => ?_)
  refine lv_iload_n X.1 X.2.1 dX7_refusalAt_6 rfl (lv_at hl 0 rfl) ?_
  refine lv_if_eq (tgt := 12) X.1 X.2.1 dX7_refusalAt_7 (by decide) (fun c_5 => ?_) (fun c_5 => ?_)
  · replace hm := it_p hm c_5
    refine lv_aload_n X.1 X.2.1 dX7_refusalAt_12 rfl (lv_at hl 1 rfl) ?_
    refine lv_iload_n X.1 X.2.1 dX7_refusalAt_13 rfl (lv_at hl 2 rfl) ?_
    refine lv_iload_n X.1 X.2.1 dX7_refusalAt_14 rfl (lv_at hl 3 rfl) ?_
    replace hm := ob_e hm
    obtain ⟨r_7, h_6, hm⟩ := hm
    refine k_Vi (k := 18) (As := [.int x1, .int x2]) X hl.1 hw (c_X7_hasItem h_6) (by decide) (he_X7 g h _ _) rfl ⟨wq_49_7, wq_49_8, wq_49_9, wq_2_14, wq_49_10⟩ yo_X7_hasItem rfl ⟨Nat.le_of_ble_eq_true rfl, Nat.le_of_ble_eq_true rfl⟩ (Nat.le_of_ble_eq_true rfl) dX7_refusalAt_15 (fun H locs hw => ?_)
    refine lv_if_eq (tgt := 25) X.1 X.2.1 dX7_refusalAt_18 (by decide) (fun c_8 => ?_) (fun c_8 => ?_)
    · replace hm := it_p hm c_8
      refine lv_aload_n X.1 X.2.1 dX7_refusalAt_25 rfl (lv_at hl 1 rfl) ?_
      refine lv_iconst (v := 2) X.1 X.2.1 dX7_refusalAt_26 (by decide) ?_
      replace hm := ob_e hm
      obtain ⟨⟨r_10, b_11⟩, h_9, hm⟩ := hm
      replace hm := un_e hm
      refine k_Vi (k := 18) (As := [.int (2 : Int32)]) X hl.1 hw (c_X7_finding h_9) (by decide) (he_X7 g h _ _) rfl ⟨wq_48_9, wq_47_0, wq_47_1, wq_2_14, wq_47_2⟩ yo_X7_finding rfl ⟨Nat.le_of_ble_eq_true rfl, Nat.le_of_ble_eq_true rfl⟩ (Nat.le_of_ble_eq_true rfl) dX7_refusalAt_27 (fun H locs hw => ?_)
      obtain ⟨rfl, rfl⟩ := Prod.mk.inj (Option.some.inj hm)
      exact hret _ _ _ _ hw dX7_refusalAt_30
    · replace hm := it_n hm c_8
      refine lv_iconst (v := 0) X.1 X.2.1 dX7_refusalAt_21 (by decide) ?_
      refine lv_goto (tgt := 30) X.1 X.2.1 dX7_refusalAt_22 (by decide) ?_
      obtain ⟨rfl, rfl⟩ := Prod.mk.inj (Option.some.inj hm)
      exact hret _ _ _ _ hw dX7_refusalAt_30
  · replace hm := it_n hm c_5
    refine lv_iload_n X.1 X.2.1 dX7_refusalAt_10 rfl (lv_at hl 0 rfl) ?_
    obtain ⟨rfl, rfl⟩ := Prod.mk.inj (Option.some.inj hm)
    exact hret _ _ _ _ hw dX7_refusalAt_11
def m_X7_renew_L23 (x1 : Int32) (x2 : Int32) (σ : Int32 × ST) : Option ((Int32 × ST) ⊕ (ST)) := (fun (q_26 : Int32 × ST) => un q_26 (fun y_8 b_9 => if x2 ≤ y_8 then some (.inr b_9) else gd (¬ (x1 < 0 ∨ 3 ≤ x1.toNatClampNeg)) (gd (¬ (y_8 < 0 ∨ 40 ≤ y_8.toNatClampNeg)) (lt (wB b_9 (3 + x1.toNatClampNeg) y_8.toNatClampNeg (0 : Int64)) (fun b_24 => lt (y_8 + 1) (fun x_25 => some (.inl (x_25, b_24)))))))) σ
def m_X7_renew (b : ST) (x1 : Int32) (x2 : Int32) : Option (Int32 × ST) := Option.bind (m_X7_isSheet b x1) (fun (r_2 : Int32) => if r_2 = 0 then some ((-2 : Int32), b) else if x2 < 0 then some ((-2 : Int32), b) else if x2 ≤ (40 : Int32) then Option.bind (vLoop (m_X7_renew_L23 x1 x2) FUEL ((0 : Int32), b)) (fun (b_10 : ST) => gd (¬ (x1 < 0 ∨ 3 ≤ x1.toNatClampNeg)) (lt (wA b_10 7 x1.toNatClampNeg x2) (fun b_12 => some (x2, b_12)))) else some ((-2 : Int32), b))
theorem yo_X7_renew : yX7_renew.cls = RX7 ∧ yX7_renew.cls ≠ "java/lang/invoke/MethodHandle" ∧ yX7_renew.cls ≠ "java/lang/invoke/VarHandle" ∧ (parseMethodDescriptor yX7_renew.desc).map (fun d => d.parameters.length) = some 2 := by decide +kernel
set_option maxHeartbeats 4000000 in
set_option maxRecDepth 100000 in
theorem c_X7_renew {l : Launch} {g : gT} {h : Nat → Nat} {b : ST} {w : Nat → ST} {x1 : Int32} {x2 : Int32} {r : Int32} {b' : ST} (hm : m_X7_renew b x1 x2 = some (r, b')) : MetI l g yX7_renew cX7_renew 4 (some .int) 1 21 79 h (cC g h (b, w)) (cC g h (b', w)) [.ref (h 18), .int x1, .int x2] r := by
  refine MetI.ofX (by decide +kernel) (Nat.le_of_ble_eq_true rfl) ?_
  intro p e s m below meth c AV Q X hret ls hw hl
  replace X : Cx g p s m AV c cX7_renew RX7 4 := X
  replace hl : lv_has ls 4 [(0, .ref (h 18)), (1, .int x1), (2, .int x2)] := hl
  unfold m_X7_renew at hm
  refine lv_aload_n X.1 X.2.1 dX7_renew_0 rfl (lv_at hl 0 rfl) ?_
  refine lv_iload_n X.1 X.2.1 dX7_renew_1 rfl (lv_at hl 1 rfl) ?_
  replace hm := ob_e hm
  obtain ⟨r_2, h_1, hm⟩ := hm
  refine k_Vi (k := 18) (As := [.int x1]) X hl.1 hw (c_X7_isSheet h_1) (by decide) (he_X7 g h _ _) rfl ⟨wq_47_8, wq_46_20, wq_46_21, wq_2_14, wq_46_22⟩ yo_X7_isSheet rfl ⟨Nat.le_of_ble_eq_true rfl, Nat.le_of_ble_eq_true rfl⟩ (Nat.le_of_ble_eq_true rfl) dX7_renew_2 (fun H locs hw => ?_)
  refine lv_if_eq (tgt := 18) X.1 X.2.1 dX7_renew_5 (by decide) (fun c_3 => ?_) (fun c_3 => ?_)
  · replace hm := it_p hm c_3
    refine lv_bipush (v := -2) X.1 X.2.1 dX7_renew_18 (by decide) ?_
    obtain ⟨rfl, rfl⟩ := Prod.mk.inj (Option.some.inj hm)
    exact hret _ _ _ _ hw dX7_renew_20
  · replace hm := it_n hm c_3
    refine lv_iload_n X.1 X.2.1 dX7_renew_8 rfl (lv_at hl 2 rfl) ?_
    refine lv_if_lt (tgt := 18) X.1 X.2.1 dX7_renew_9 (by decide) (fun c_5 => ?_) (fun c_5 => ?_)
    · replace hm := it_p hm c_5
      refine lv_bipush (v := -2) X.1 X.2.1 dX7_renew_18 (by decide) ?_
      obtain ⟨rfl, rfl⟩ := Prod.mk.inj (Option.some.inj hm)
      exact hret _ _ _ _ hw dX7_renew_20
    · replace hm := it_n hm c_5
      refine lv_iload_n X.1 X.2.1 dX7_renew_12 rfl (lv_at hl 2 rfl) ?_
      refine lv_bipush (v := 40) X.1 X.2.1 dX7_renew_13 (by decide) ?_
      refine lv_icmp_le (tgt := 21) X.1 X.2.1 dX7_renew_15 (by decide) (fun c_7 => ?_) (fun c_7 => ?_)
      · replace hm := it_p hm c_7
        refine lv_iconst (v := 0) X.1 X.2.1 dX7_renew_21 (by decide) ?_
        refine lv_istore_n (lv' := [(3, .int (0 : Int32)), (0, .ref (h 18)), (1, .int x1), (2, .int x2)]) X.1 X.2.1 dX7_renew_22 rfl hl (by decide) rfl (fun ls hl => ?_)
        replace hm := ob_e hm
        obtain ⟨b_10, hL_19, hm⟩ := hm
        have J_18 : ∀ (H : Heap) (locs : List Loc) (ls : Array Slot), Wd g 79 h (cC g h (b_10, w)) s H locs → lv_has ls 4 [(0, .ref (h 18)), (1, .int x1), (2, .int x2)] → W p l e (rW 1 21) s m AV below meth c H locs 0 0 Q (F0 m 43 ls []) := by
          intro H locs ls hw hl
          refine lv_aload_n X.1 X.2.1 dX7_renew_43 rfl (lv_at hl 0 rfl) ?_
          refine gX7_sizes X hw wq_5_4 dX7_renew_44 ?_
          refine lv_iload_n X.1 X.2.1 dX7_renew_47 rfl (lv_at hl 1 rfl) ?_
          refine lv_iload_n X.1 X.2.1 dX7_renew_48 rfl (lv_at hl 2 rfl) ?_
          replace hm := gd_e hm
          obtain ⟨g_11, hm⟩ := hm
          refine sA7 X hw g_11 dX7_renew_49 (fun H locs hw => ?_)
          obtain ⟨b_12, eb_12⟩ : ∃ y, y = wA b_10 7 x1.toNatClampNeg x2 := ⟨_, rfl⟩
          rw [← eb_12] at hw
          replace hm := lt_e hm eb_12
          refine lv_iload_n X.1 X.2.1 dX7_renew_50 rfl (lv_at hl 2 rfl) ?_
          obtain ⟨rfl, rfl⟩ := Prod.mk.inj (Option.some.inj hm)
          exact hret _ _ _ _ hw dX7_renew_51
        refine vLoop_ind (B := (m_X7_renew_L23 x1 x2)) (fun σ => ∀ (H : Heap) (locs : List Loc) (ls : Array Slot), Wd g 79 h (cC g h (σ.2, w)) s H locs → lv_has ls 4 [(0, .ref (h 18)), (1, .int x1), (2, .int x2), (3, .int σ.1)] → W p l e (rW 1 21) s m AV below meth c H locs 0 0 Q (F0 m 23 ls [])) (fun z' => z' = b_10) ?_ FUEL _ _ hL_19 rfl _ _ _ hw (lv_sub hl [1, 2, 3, 0] rfl)
        intro σ z_17 hz_14 hn_15 hx_16
        obtain ⟨y_8, b_9⟩ := σ
        intro H locs ls hw hl
        replace hw : Wd g 79 h (cC g h (b_9, w)) s H locs := hw
        replace hl : lv_has ls 4 [(0, .ref (h 18)), (1, .int x1), (2, .int x2), (3, .int y_8)] := hl
        unfold m_X7_renew_L23 at hz_14
        replace hz_14 := un_e hz_14
        refine lv_iload_n X.1 X.2.1 dX7_renew_23 rfl (lv_at hl 3 rfl) ?_
        refine lv_iload_n X.1 X.2.1 dX7_renew_24 rfl (lv_at hl 2 rfl) ?_
        refine lv_icmp_ge (tgt := 43) X.1 X.2.1 dX7_renew_25 (by decide) (fun c_21 => ?_) (fun c_21 => ?_)
        · replace hz_14 := it_p hz_14 c_21
          obtain rfl := hx_16 _ (Option.some.inj hz_14).symm
          exact J_18 _ _ _ hw (lv_sub hl [0, 1, 2] rfl)
        · replace hz_14 := it_n hz_14 c_21
          refine lv_aload_n X.1 X.2.1 dX7_renew_28 rfl (lv_at hl 0 rfl) ?_
          refine gX7_rows X hw wq_5_3 dX7_renew_29 ?_
          refine lv_iload_n X.1 X.2.1 dX7_renew_32 rfl (lv_at hl 1 rfl) ?_
          replace hz_14 := gd_e hz_14
          obtain ⟨g_22, hz_14⟩ := hz_14
          refine l_rows X hw g_22 dX7_renew_33 ?_
          refine lv_iload_n X.1 X.2.1 dX7_renew_34 rfl (lv_at hl 3 rfl) ?_
          refine lv_lconst (v := 0) X.1 X.2.1 dX7_renew_35 (by decide) ?_
          replace hz_14 := gd_e hz_14
          obtain ⟨g_23, hz_14⟩ := hz_14
          refine sSh (Nat.not_le.mp (fun q => g_22 (Or.inr q))) X hw g_23 dX7_renew_36 (fun H locs hw => ?_)
          obtain ⟨b_24, eb_24⟩ : ∃ y, y = wB b_9 (3 + x1.toNatClampNeg) y_8.toNatClampNeg (0 : Int64) := ⟨_, rfl⟩
          rw [← eb_24] at hw
          replace hz_14 := lt_e hz_14 eb_24
          obtain ⟨x_25, ex_25⟩ : ∃ y : Int32, y = y_8 + 1 := ⟨_, rfl⟩
          replace hz_14 := lt_e hz_14 ex_25
          refine lv_iinc (v := x_25) (lv' := [(3, .int x_25), (0, .ref (h 18)), (1, .int x1), (2, .int x2)]) X.1 X.2.1 dX7_renew_37 hl (k := 3) rfl (by rw [ex_25]; rfl) (by decide) rfl (fun ls hl => ?_)
          refine lv_goto (tgt := 23) X.1 X.2.1 dX7_renew_40 (by decide) ?_
          exact hn_15 _ (Option.some.inj hz_14).symm _ _ _ hw (lv_sub hl [1, 2, 3, 0] rfl)
      · replace hm := it_n hm c_7
        refine lv_bipush (v := -2) X.1 X.2.1 dX7_renew_18 (by decide) ?_
        obtain ⟨rfl, rfl⟩ := Prod.mk.inj (Option.some.inj hm)
        exact hret _ _ _ _ hw dX7_renew_20
def m_X7_drop (b : ST) (x1 : Int32) : Option (Int32 × ST) := Option.bind (m_X7_sizeOf b x1) (fun (r_2 : Int32) => Option.bind (m_X7_isSheet b x1) (fun (r_4 : Int32) => if r_4 = 0 then some (r_2, b) else gd (¬ (x1 < 0 ∨ 3 ≤ x1.toNatClampNeg)) (lt (wA b 7 x1.toNatClampNeg (-1 : Int32)) (fun b_8 => some (r_2, b_8)))))
theorem yo_X7_drop : yX7_drop.cls = RX7 ∧ yX7_drop.cls ≠ "java/lang/invoke/MethodHandle" ∧ yX7_drop.cls ≠ "java/lang/invoke/VarHandle" ∧ (parseMethodDescriptor yX7_drop.desc).map (fun d => d.parameters.length) = some 1 := by decide +kernel
set_option maxHeartbeats 4000000 in
set_option maxRecDepth 100000 in
theorem c_X7_drop {l : Launch} {g : gT} {h : Nat → Nat} {b : ST} {w : Nat → ST} {x1 : Int32} {r : Int32} {b' : ST} (hm : m_X7_drop b x1 = some (r, b')) : MetI l g yX7_drop cX7_drop 3 (some .int) 3 63 79 h (cC g h (b, w)) (cC g h (b', w)) [.ref (h 18), .int x1] r := by
  refine MetI.ofX (by decide +kernel) (Nat.le_of_ble_eq_true rfl) ?_
  intro p e s m below meth c AV Q X hret ls hw hl
  replace X : Cx g p s m AV c cX7_drop RX7 3 := X
  replace hl : lv_has ls 3 [(0, .ref (h 18)), (1, .int x1)] := hl
  unfold m_X7_drop at hm
  refine lv_aload_n X.1 X.2.1 dX7_drop_0 rfl (lv_at hl 0 rfl) ?_
  refine lv_iload_n X.1 X.2.1 dX7_drop_1 rfl (lv_at hl 1 rfl) ?_
  replace hm := ob_e hm
  obtain ⟨r_2, h_1, hm⟩ := hm
  refine k_Vi (k := 18) (As := [.int x1]) X hl.1 hw (c_X7_sizeOf h_1) (by decide) (he_X7 g h _ _) rfl ⟨wq_48_14, wq_48_15, wq_48_16, wq_2_14, wq_48_17⟩ yo_X7_sizeOf rfl ⟨Nat.le_of_ble_eq_true rfl, Nat.le_of_ble_eq_true rfl⟩ (Nat.le_of_ble_eq_true rfl) dX7_drop_2 (fun H locs hw => ?_)
  refine lv_istore_n (lv' := [(2, .int r_2), (0, .ref (h 18)), (1, .int x1)]) X.1 X.2.1 dX7_drop_5 rfl hl (by decide) rfl (fun ls hl => ?_)
  refine lv_aload_n X.1 X.2.1 dX7_drop_6 rfl (lv_at hl 1 rfl) ?_
  refine lv_iload_n X.1 X.2.1 dX7_drop_7 rfl (lv_at hl 2 rfl) ?_
  replace hm := ob_e hm
  obtain ⟨r_4, h_3, hm⟩ := hm
  refine k_Vi (k := 18) (As := [.int x1]) X hl.1 hw (c_X7_isSheet h_3) (by decide) (he_X7 g h _ _) rfl ⟨wq_47_8, wq_46_20, wq_46_21, wq_2_14, wq_46_22⟩ yo_X7_isSheet rfl ⟨Nat.le_of_ble_eq_true rfl, Nat.le_of_ble_eq_true rfl⟩ (Nat.le_of_ble_eq_true rfl) dX7_drop_8 (fun H locs hw => ?_)
  refine lv_if_eq (tgt := 21) X.1 X.2.1 dX7_drop_11 (by decide) (fun c_5 => ?_) (fun c_5 => ?_)
  · replace hm := it_p hm c_5
    refine lv_iload_n X.1 X.2.1 dX7_drop_21 rfl (lv_at hl 0 rfl) ?_
    obtain ⟨rfl, rfl⟩ := Prod.mk.inj (Option.some.inj hm)
    exact hret _ _ _ _ hw dX7_drop_22
  · replace hm := it_n hm c_5
    refine lv_aload_n X.1 X.2.1 dX7_drop_14 rfl (lv_at hl 1 rfl) ?_
    refine gX7_sizes X hw wq_5_4 dX7_drop_15 ?_
    refine lv_iload_n X.1 X.2.1 dX7_drop_18 rfl (lv_at hl 2 rfl) ?_
    refine lv_iconst (v := -1) X.1 X.2.1 dX7_drop_19 (by decide) ?_
    replace hm := gd_e hm
    obtain ⟨g_7, hm⟩ := hm
    refine sA7 X hw g_7 dX7_drop_20 (fun H locs hw => ?_)
    obtain ⟨b_8, eb_8⟩ : ∃ y, y = wA b 7 x1.toNatClampNeg (-1 : Int32) := ⟨_, rfl⟩
    rw [← eb_8] at hw
    replace hm := lt_e hm eb_8
    refine lv_iload_n X.1 X.2.1 dX7_drop_21 rfl (lv_at hl 0 rfl) ?_
    obtain ⟨rfl, rfl⟩ := Prod.mk.inj (Option.some.inj hm)
    exact hret _ _ _ _ hw dX7_drop_22
def m_X7_item (b : ST) (x1 : Int32) (x2 : Int32) : Option (Int64) := Option.bind (m_X7_hasItem b x1 x2) (fun (r_2 : Int32) => if r_2 = 0 then some (0 : Int64) else gd (¬ (x1 < 0 ∨ 3 ≤ x1.toNatClampNeg)) (gd (¬ (x2 < 0 ∨ 40 ≤ x2.toNatClampNeg)) (some (b.2.2.2 (3 + x1.toNatClampNeg) x2.toNatClampNeg))))
theorem yo_X7_item : yX7_item.cls = RX7 ∧ yX7_item.cls ≠ "java/lang/invoke/MethodHandle" ∧ yX7_item.cls ≠ "java/lang/invoke/VarHandle" ∧ (parseMethodDescriptor yX7_item.desc).map (fun d => d.parameters.length) = some 2 := by decide +kernel
set_option maxHeartbeats 4000000 in
set_option maxRecDepth 100000 in
theorem c_X7_item {l : Launch} {g : gT} {h : Nat → Nat} {b : ST} {w : Nat → ST} {x1 : Int32} {x2 : Int32} {r : Int64} (hm : m_X7_item b x1 x2 = some r) : MetL l g yX7_item cX7_item 3 (some .long) 4 85 79 h (cC g h (b, w)) (cC g h (b, w)) [.ref (h 18), .int x1, .int x2] r := by
  refine MetL.ofX (by decide +kernel) (Nat.le_of_ble_eq_true rfl) ?_
  intro p e s m below meth c AV Q X hret ls hw hl
  replace X : Cx g p s m AV c cX7_item RX7 3 := X
  replace hl : lv_has ls 3 [(0, .ref (h 18)), (1, .int x1), (2, .int x2)] := hl
  unfold m_X7_item at hm
  refine lv_aload_n X.1 X.2.1 dX7_item_0 rfl (lv_at hl 0 rfl) ?_
  refine lv_iload_n X.1 X.2.1 dX7_item_1 rfl (lv_at hl 1 rfl) ?_
  refine lv_iload_n X.1 X.2.1 dX7_item_2 rfl (lv_at hl 2 rfl) ?_
  replace hm := ob_e hm
  obtain ⟨r_2, h_1, hm⟩ := hm
  refine k_Vi (k := 18) (As := [.int x1, .int x2]) X hl.1 hw (c_X7_hasItem h_1) (by decide) (he_X7 g h _ _) rfl ⟨wq_49_7, wq_49_8, wq_49_9, wq_2_14, wq_49_10⟩ yo_X7_hasItem rfl ⟨Nat.le_of_ble_eq_true rfl, Nat.le_of_ble_eq_true rfl⟩ (Nat.le_of_ble_eq_true rfl) dX7_item_3 (fun H locs hw => ?_)
  refine lv_if_eq (tgt := 20) X.1 X.2.1 dX7_item_6 (by decide) (fun c_3 => ?_) (fun c_3 => ?_)
  · replace hm := it_p hm c_3
    refine lv_lconst (v := 0) X.1 X.2.1 dX7_item_20 (by decide) ?_
    obtain rfl := Option.some.inj hm
    exact hret _ _ _ _ hw dX7_item_21
  · replace hm := it_n hm c_3
    refine lv_aload_n X.1 X.2.1 dX7_item_9 rfl (lv_at hl 0 rfl) ?_
    refine gX7_rows X hw wq_5_3 dX7_item_10 ?_
    refine lv_iload_n X.1 X.2.1 dX7_item_13 rfl (lv_at hl 1 rfl) ?_
    replace hm := gd_e hm
    obtain ⟨g_4, hm⟩ := hm
    refine l_rows X hw g_4 dX7_item_14 ?_
    refine lv_iload_n X.1 X.2.1 dX7_item_15 rfl (lv_at hl 2 rfl) ?_
    replace hm := gd_e hm
    obtain ⟨g_5, hm⟩ := hm
    refine lSh (Nat.not_le.mp (fun q => g_4 (Or.inr q))) X hw g_5 dX7_item_16 ?_
    refine lv_goto (tgt := 21) X.1 X.2.1 dX7_item_17 (by decide) ?_
    obtain rfl := Option.some.inj hm
    exact hret _ _ _ _ hw dX7_item_21
def m_X7_put (b : ST) (x1 : Int32) (x2 : Int32) (x3 : Int64) : Option (ST) := Option.bind (m_X7_hasItem b x1 x2) (fun (r_2 : Int32) => if r_2 = 0 then some b else gd (¬ (x1 < 0 ∨ 3 ≤ x1.toNatClampNeg)) (gd (¬ (x2 < 0 ∨ 40 ≤ x2.toNatClampNeg)) (lt (wB b (3 + x1.toNatClampNeg) x2.toNatClampNeg x3) (fun b_6 => some b_6))))
theorem yo_X7_put : yX7_put.cls = RX7 ∧ yX7_put.cls ≠ "java/lang/invoke/MethodHandle" ∧ yX7_put.cls ≠ "java/lang/invoke/VarHandle" ∧ (parseMethodDescriptor yX7_put.desc).map (fun d => d.parameters.length) = some 3 := by decide +kernel
set_option maxHeartbeats 4000000 in
set_option maxRecDepth 100000 in
theorem c_X7_put {l : Launch} {g : gT} {h : Nat → Nat} {b : ST} {w : Nat → ST} {x1 : Int32} {x2 : Int32} {x3 : Int64} {b' : ST} (hm : m_X7_put b x1 x2 x3 = some (b')) : MetV l g yX7_put cX7_put 5 none 4 85 79 h (cC g h (b, w)) (cC g h (b', w)) [.ref (h 18), .int x1, .int x2, .long x3] := by
  refine MetV.ofX (by decide +kernel) (Nat.le_of_ble_eq_true rfl) ?_
  intro p e s m below meth c AV Q X hret ls hw hl
  replace X : Cx g p s m AV c cX7_put RX7 5 := X
  replace hl : lv_has ls 5 [(0, .ref (h 18)), (1, .int x1), (2, .int x2), (3, .long x3)] := hl
  unfold m_X7_put at hm
  refine lv_aload_n X.1 X.2.1 dX7_put_0 rfl (lv_at hl 0 rfl) ?_
  refine lv_iload_n X.1 X.2.1 dX7_put_1 rfl (lv_at hl 1 rfl) ?_
  refine lv_iload_n X.1 X.2.1 dX7_put_2 rfl (lv_at hl 2 rfl) ?_
  replace hm := ob_e hm
  obtain ⟨r_2, h_1, hm⟩ := hm
  refine k_Vi (k := 18) (As := [.int x1, .int x2]) X hl.1 hw (c_X7_hasItem h_1) (by decide) (he_X7 g h _ _) rfl ⟨wq_49_7, wq_49_8, wq_49_9, wq_2_14, wq_49_10⟩ yo_X7_hasItem rfl ⟨Nat.le_of_ble_eq_true rfl, Nat.le_of_ble_eq_true rfl⟩ (Nat.le_of_ble_eq_true rfl) dX7_put_3 (fun H locs hw => ?_)
  refine lv_if_eq (tgt := 18) X.1 X.2.1 dX7_put_6 (by decide) (fun c_3 => ?_) (fun c_3 => ?_)
  · replace hm := it_p hm c_3
    obtain rfl := Option.some.inj hm
    exact hret _ _ _ _ hw dX7_put_18
  · replace hm := it_n hm c_3
    refine lv_aload_n X.1 X.2.1 dX7_put_9 rfl (lv_at hl 0 rfl) ?_
    refine gX7_rows X hw wq_5_3 dX7_put_10 ?_
    refine lv_iload_n X.1 X.2.1 dX7_put_13 rfl (lv_at hl 1 rfl) ?_
    replace hm := gd_e hm
    obtain ⟨g_4, hm⟩ := hm
    refine l_rows X hw g_4 dX7_put_14 ?_
    refine lv_iload_n X.1 X.2.1 dX7_put_15 rfl (lv_at hl 2 rfl) ?_
    refine lv_lload_n X.1 X.2.1 dX7_put_16 rfl (lv_at hl 3 rfl) ?_
    replace hm := gd_e hm
    obtain ⟨g_5, hm⟩ := hm
    refine sSh (Nat.not_le.mp (fun q => g_4 (Or.inr q))) X hw g_5 dX7_put_17 (fun H locs hw => ?_)
    obtain ⟨b_6, eb_6⟩ : ∃ y, y = wB b (3 + x1.toNatClampNeg) x2.toNatClampNeg x3 := ⟨_, rfl⟩
    rw [← eb_6] at hw
    replace hm := lt_e hm eb_6
    obtain rfl := Option.some.inj hm
    exact hret _ _ _ _ hw dX7_put_18
def m_X7_move (b : ST) (x1 : Int32) (x2 : Int32) (x3 : Int32) (x4 : Int32) (x5 : Int32) : Option (ST) := Option.bind (m_X7_isLost b x1) (fun (r_2 : Int32) => if r_2 = 0 then Option.bind (m_X7_isLost b x3) (fun (r_5 : Int32) => if r_5 = 0 then Option.bind (m_X7_holds b x1 x2 x5) (fun (r_8 : Int32) => if r_8 = 0 then some b else Option.bind (m_X7_holds b x3 x4 x5) (fun (r_11 : Int32) => if r_11 = 0 then some b else gd (¬ (x1 < 0 ∨ 3 ≤ x1.toNatClampNeg)) (gd (¬ (x3 < 0 ∨ 3 ≤ x3.toNatClampNeg)) (gd (¬ x2 < 0 ∧ ¬ x4 < 0 ∧ ¬ x5 < 0 ∧ x2.toNatClampNeg + x5.toNatClampNeg ≤ 40 ∧ x4.toNatClampNeg + x5.toNatClampNeg ≤ 40) (lt (wC b (3 + x3.toNatClampNeg) (va_cpy (b.2.2.2 (3 + x1.toNatClampNeg)) (b.2.2.2 (3 + x3.toNatClampNeg)) x2.toNatClampNeg x4.toNatClampNeg x5.toNatClampNeg)) (fun b_16 => some b_16)))))) else some b) else some b)
theorem yo_X7_move : yX7_move.cls = RX7 ∧ yX7_move.cls ≠ "java/lang/invoke/MethodHandle" ∧ yX7_move.cls ≠ "java/lang/invoke/VarHandle" ∧ (parseMethodDescriptor yX7_move.desc).map (fun d => d.parameters.length) = some 5 := by decide +kernel
set_option maxHeartbeats 4000000 in
set_option maxRecDepth 100000 in
theorem c_X7_move {l : Launch} {g : gT} {h : Nat → Nat} {b : ST} {w : Nat → ST} {x1 : Int32} {x2 : Int32} {x3 : Int32} {x4 : Int32} {x5 : Int32} {b' : ST} (hm : m_X7_move b x1 x2 x3 x4 x5 = some (b')) : MetV l g yX7_move cX7_move 6 none 4 87 79 h (cC g h (b, w)) (cC g h (b', w)) [.ref (h 18), .int x1, .int x2, .int x3, .int x4, .int x5] := by
  refine MetV.ofX (by decide +kernel) (Nat.le_of_ble_eq_true rfl) ?_
  intro p e s m below meth c AV Q X hret ls hw hl
  replace X : Cx g p s m AV c cX7_move RX7 6 := X
  replace hl : lv_has ls 6 [(0, .ref (h 18)), (1, .int x1), (2, .int x2), (3, .int x3), (4, .int x4), (5, .int x5)] := hl
  unfold m_X7_move at hm
  refine lv_aload_n X.1 X.2.1 dX7_move_0 rfl (lv_at hl 0 rfl) ?_
  refine lv_iload_n X.1 X.2.1 dX7_move_1 rfl (lv_at hl 1 rfl) ?_
  replace hm := ob_e hm
  obtain ⟨r_2, h_1, hm⟩ := hm
  refine k_Vi (k := 18) (As := [.int x1]) X hl.1 hw (c_X7_isLost h_1) (by decide) (he_X7 g h _ _) rfl ⟨wq_48_5, wq_48_6, wq_48_7, wq_2_14, wq_48_8⟩ yo_X7_isLost rfl ⟨Nat.le_of_ble_eq_true rfl, Nat.le_of_ble_eq_true rfl⟩ (Nat.le_of_ble_eq_true rfl) dX7_move_2 (fun H locs hw => ?_)
  refine lv_if_ne (tgt := 39) X.1 X.2.1 dX7_move_5 (by decide) (fun c_3 => ?_) (fun c_3 => ?_)
  · replace hm := it_n hm c_3
    obtain rfl := Option.some.inj hm
    exact hret _ _ _ _ hw dX7_move_39
  · replace hm := it_p hm c_3
    refine lv_aload_n X.1 X.2.1 dX7_move_8 rfl (lv_at hl 0 rfl) ?_
    refine lv_iload_n X.1 X.2.1 dX7_move_9 rfl (lv_at hl 3 rfl) ?_
    replace hm := ob_e hm
    obtain ⟨r_5, h_4, hm⟩ := hm
    refine k_Vi (k := 18) (As := [.int x3]) X hl.1 hw (c_X7_isLost h_4) (by decide) (he_X7 g h _ _) rfl ⟨wq_48_5, wq_48_6, wq_48_7, wq_2_14, wq_48_8⟩ yo_X7_isLost rfl ⟨Nat.le_of_ble_eq_true rfl, Nat.le_of_ble_eq_true rfl⟩ (Nat.le_of_ble_eq_true rfl) dX7_move_10 (fun H locs hw => ?_)
    refine lv_if_ne (tgt := 39) X.1 X.2.1 dX7_move_13 (by decide) (fun c_6 => ?_) (fun c_6 => ?_)
    · replace hm := it_n hm c_6
      obtain rfl := Option.some.inj hm
      exact hret _ _ _ _ hw dX7_move_39
    · replace hm := it_p hm c_6
      refine lv_aload_n X.1 X.2.1 dX7_move_16 rfl (lv_at hl 0 rfl) ?_
      refine lv_iload_n X.1 X.2.1 dX7_move_17 rfl (lv_at hl 1 rfl) ?_
      refine lv_iload_n X.1 X.2.1 dX7_move_18 rfl (lv_at hl 2 rfl) ?_
      refine lv_iload X.1 X.2.1 dX7_move_19 (lv_at hl 5 rfl) ?_
      replace hm := ob_e hm
      obtain ⟨r_8, h_7, hm⟩ := hm
      refine k_Vi (k := 18) (As := [.int x1, .int x2, .int x5]) X hl.1 hw (c_X7_holds h_7) (by decide) (he_X7 g h _ _) rfl ⟨wq_51_4, wq_50_17, wq_50_18, wq_2_14, wq_50_19⟩ yo_X7_holds rfl ⟨Nat.le_of_ble_eq_true rfl, Nat.le_of_ble_eq_true rfl⟩ (Nat.le_of_ble_eq_true rfl) dX7_move_21 (fun H locs hw => ?_)
      refine lv_if_eq (tgt := 39) X.1 X.2.1 dX7_move_24 (by decide) (fun c_9 => ?_) (fun c_9 => ?_)
      · replace hm := it_p hm c_9
        obtain rfl := Option.some.inj hm
        exact hret _ _ _ _ hw dX7_move_39
      · replace hm := it_n hm c_9
        refine lv_aload_n X.1 X.2.1 dX7_move_27 rfl (lv_at hl 0 rfl) ?_
        refine lv_iload_n X.1 X.2.1 dX7_move_28 rfl (lv_at hl 3 rfl) ?_
        refine lv_iload X.1 X.2.1 dX7_move_29 (lv_at hl 4 rfl) ?_
        refine lv_iload X.1 X.2.1 dX7_move_31 (lv_at hl 5 rfl) ?_
        replace hm := ob_e hm
        obtain ⟨r_11, h_10, hm⟩ := hm
        refine k_Vi (k := 18) (As := [.int x3, .int x4, .int x5]) X hl.1 hw (c_X7_holds h_10) (by decide) (he_X7 g h _ _) rfl ⟨wq_51_4, wq_50_17, wq_50_18, wq_2_14, wq_50_19⟩ yo_X7_holds rfl ⟨Nat.le_of_ble_eq_true rfl, Nat.le_of_ble_eq_true rfl⟩ (Nat.le_of_ble_eq_true rfl) dX7_move_33 (fun H locs hw => ?_)
        refine lv_if_ne (tgt := 40) X.1 X.2.1 dX7_move_36 (by decide) (fun c_12 => ?_) (fun c_12 => ?_)
        · replace hm := it_n hm c_12
          refine lv_aload_n X.1 X.2.1 dX7_move_40 rfl (lv_at hl 0 rfl) ?_
          refine gX7_rows X hw wq_5_3 dX7_move_41 ?_
          refine lv_iload_n X.1 X.2.1 dX7_move_44 rfl (lv_at hl 1 rfl) ?_
          replace hm := gd_e hm
          obtain ⟨g_13, hm⟩ := hm
          refine l_rows X hw g_13 dX7_move_45 ?_
          refine lv_iload_n X.1 X.2.1 dX7_move_46 rfl (lv_at hl 2 rfl) ?_
          refine lv_aload_n X.1 X.2.1 dX7_move_47 rfl (lv_at hl 0 rfl) ?_
          refine gX7_rows X hw wq_5_3 dX7_move_48 ?_
          refine lv_iload_n X.1 X.2.1 dX7_move_51 rfl (lv_at hl 3 rfl) ?_
          replace hm := gd_e hm
          obtain ⟨g_14, hm⟩ := hm
          refine l_rows X hw g_14 dX7_move_52 ?_
          refine lv_iload X.1 X.2.1 dX7_move_53 (lv_at hl 4 rfl) ?_
          refine lv_iload X.1 X.2.1 dX7_move_55 (lv_at hl 5 rfl) ?_
          replace hm := gd_e hm
          obtain ⟨g_15, hm⟩ := hm
          refine cpSh (Nat.not_le.mp (fun q => g_13 (Or.inr q))) (Nat.not_le.mp (fun q => g_14 (Or.inr q))) X hw hl.1 wq_51_0 wq_51_1 wq_51_2 wq_51_3 g_15 (Nat.le_of_ble_eq_true rfl) (Nat.le_of_ble_eq_true rfl) dX7_move_57 (fun H locs hw => ?_)
          obtain ⟨b_16, eb_16⟩ : ∃ y, y = wC b (3 + x3.toNatClampNeg) (va_cpy (b.2.2.2 (3 + x1.toNatClampNeg)) (b.2.2.2 (3 + x3.toNatClampNeg)) x2.toNatClampNeg x4.toNatClampNeg x5.toNatClampNeg) := ⟨_, rfl⟩
          rw [← eb_16] at hw
          replace hm := lt_e hm eb_16
          obtain rfl := Option.some.inj hm
          exact hret _ _ _ _ hw dX7_move_60
        · replace hm := it_p hm c_12
          obtain rfl := Option.some.inj hm
          exact hret _ _ _ _ hw dX7_move_39
