def m_X4_length (b : ST) : Option (Int32) := some (b.1 7)
theorem yo_X4_length : yX4_length.cls = RX4 ∧ yX4_length.cls ≠ "java/lang/invoke/MethodHandle" ∧ yX4_length.cls ≠ "java/lang/invoke/VarHandle" ∧ (parseMethodDescriptor yX4_length.desc).map (fun d => d.parameters.length) = some 0 := by decide +kernel
set_option maxHeartbeats 4000000 in
set_option maxRecDepth 100000 in
theorem c_X4_length {l : Launch} {g : gT} {h : Nat → Nat} {b : ST} {w : Nat → ST} {r : Int32} (hm : m_X4_length b = some r) : MetI l g yX4_length cX4_length 1 (some .int) 0 0 79 h (cC g h (b, w)) (cC g h (b, w)) [.ref (h 16)] r := by
  refine MetI.ofX (by decide +kernel) (Nat.le_of_ble_eq_true rfl) ?_
  intro p e s m below meth c AV Q X hret ls hw hl
  replace X : Cx g p s m AV c cX4_length RX4 1 := X
  replace hl : lv_has ls 1 [(0, .ref (h 16))] := hl
  unfold m_X4_length at hm
  refine lv_aload_n X.1 X.2.1 dX4_length_0 rfl (lv_at hl 0 rfl) ?_
  refine gX4_length X hw wq_39_23 dX4_length_1 ?_
  obtain rfl := Option.some.inj hm
  exact hret _ _ _ _ hw dX4_length_4
def m_X4_latestFault (b : ST) : Option (Int32) := some (b.1 8)
theorem yo_X4_latestFault : yX4_latestFault.cls = RX4 ∧ yX4_latestFault.cls ≠ "java/lang/invoke/MethodHandle" ∧ yX4_latestFault.cls ≠ "java/lang/invoke/VarHandle" ∧ (parseMethodDescriptor yX4_latestFault.desc).map (fun d => d.parameters.length) = some 0 := by decide +kernel
set_option maxHeartbeats 4000000 in
set_option maxRecDepth 100000 in
theorem c_X4_latestFault {l : Launch} {g : gT} {h : Nat → Nat} {b : ST} {w : Nat → ST} {r : Int32} (hm : m_X4_latestFault b = some r) : MetI l g yX4_latestFault cX4_latestFault 1 (some .int) 0 0 79 h (cC g h (b, w)) (cC g h (b, w)) [.ref (h 16)] r := by
  refine MetI.ofX (by decide +kernel) (Nat.le_of_ble_eq_true rfl) ?_
  intro p e s m below meth c AV Q X hret ls hw hl
  replace X : Cx g p s m AV c cX4_latestFault RX4 1 := X
  replace hl : lv_has ls 1 [(0, .ref (h 16))] := hl
  unfold m_X4_latestFault at hm
  refine lv_aload_n X.1 X.2.1 dX4_latestFault_0 rfl (lv_at hl 0 rfl) ?_
  refine gX4_fault X hw wq_41_6 dX4_latestFault_1 ?_
  obtain rfl := Option.some.inj hm
  exact hret _ _ _ _ hw dX4_latestFault_4
def m_X4_isFull (b : ST) : Option (Int32) := if (b.1 7) < (60 : Int32) then some (0 : Int32) else some (1 : Int32)
theorem yo_X4_isFull : yX4_isFull.cls = RX4 ∧ yX4_isFull.cls ≠ "java/lang/invoke/MethodHandle" ∧ yX4_isFull.cls ≠ "java/lang/invoke/VarHandle" ∧ (parseMethodDescriptor yX4_isFull.desc).map (fun d => d.parameters.length) = some 0 := by decide +kernel
set_option maxHeartbeats 4000000 in
set_option maxRecDepth 100000 in
theorem c_X4_isFull {l : Launch} {g : gT} {h : Nat → Nat} {b : ST} {w : Nat → ST} {r : Int32} (hm : m_X4_isFull b = some r) : MetI l g yX4_isFull cX4_isFull 1 (some .boolean) 0 0 79 h (cC g h (b, w)) (cC g h (b, w)) [.ref (h 16)] r := by
  refine MetZ.ofX (by decide +kernel) (Nat.le_of_ble_eq_true rfl) ?_
  intro p e s m below meth c AV Q X hret ls hw hl
  replace X : Cx g p s m AV c cX4_isFull RX4 1 := X
  replace hl : lv_has ls 1 [(0, .ref (h 16))] := hl
  unfold m_X4_isFull at hm
  refine lv_aload_n X.1 X.2.1 dX4_isFull_0 rfl (lv_at hl 0 rfl) ?_
  refine gX4_length X hw wq_39_23 dX4_isFull_1 ?_
  refine lv_bipush (v := 60) X.1 X.2.1 dX4_isFull_4 (by decide) ?_
  refine lv_icmp_lt (tgt := 13) X.1 X.2.1 dX4_isFull_6 (by decide) (fun c_1 => ?_) (fun c_1 => ?_)
  · replace hm := it_p hm c_1
    refine lv_iconst (v := 0) X.1 X.2.1 dX4_isFull_13 (by decide) ?_
    obtain rfl := Option.some.inj hm
    exact hret _ _ _ _ hw dX4_isFull_14 (Or.inl rfl)
  · replace hm := it_n hm c_1
    refine lv_iconst (v := 1) X.1 X.2.1 dX4_isFull_9 (by decide) ?_
    refine lv_goto (tgt := 14) X.1 X.2.1 dX4_isFull_10 (by decide) ?_
    obtain rfl := Option.some.inj hm
    exact hret _ _ _ _ hw dX4_isFull_14 (Or.inr rfl)
def m_X4_append (b : ST) (x1 : Int32) : Option (Int32 × ST) := if (b.1 7) < 0 then some ((b.1 7), b) else if (60 : Int32) ≤ (b.1 7) then some ((b.1 7), b) else lt (wI b 7 (((b.1 7) + (1 : Int32)))) (fun b_5 => gd (¬ ((b.1 7) < 0 ∨ 60 ≤ (b.1 7).toNatClampNeg)) (lt (wA b_5 6 (b.1 7).toNatClampNeg x1) (fun b_7 => some ((b_7.1 7), b_7))))
theorem yo_X4_append : yX4_append.cls = RX4 ∧ yX4_append.cls ≠ "java/lang/invoke/MethodHandle" ∧ yX4_append.cls ≠ "java/lang/invoke/VarHandle" ∧ (parseMethodDescriptor yX4_append.desc).map (fun d => d.parameters.length) = some 1 := by decide +kernel
set_option maxHeartbeats 4000000 in
set_option maxRecDepth 100000 in
theorem c_X4_append {l : Launch} {g : gT} {h : Nat → Nat} {b : ST} {w : Nat → ST} {x1 : Int32} {r : Int32} {b' : ST} (hm : m_X4_append b x1 = some (r, b')) : MetI l g yX4_append cX4_append 2 (some .int) 0 0 79 h (cC g h (b, w)) (cC g h (b', w)) [.ref (h 16), .int x1] r := by
  refine MetI.ofX (by decide +kernel) (Nat.le_of_ble_eq_true rfl) ?_
  intro p e s m below meth c AV Q X hret ls hw hl
  replace X : Cx g p s m AV c cX4_append RX4 2 := X
  replace hl : lv_has ls 2 [(0, .ref (h 16)), (1, .int x1)] := hl
  unfold m_X4_append at hm
  refine lv_aload_n X.1 X.2.1 dX4_append_0 rfl (lv_at hl 0 rfl) ?_
  refine gX4_length X hw wq_39_23 dX4_append_1 ?_
  refine lv_if_lt (tgt := 33) X.1 X.2.1 dX4_append_4 (by decide) (fun c_1 => ?_) (fun c_1 => ?_)
  · replace hm := it_p hm c_1
    refine lv_aload_n X.1 X.2.1 dX4_append_33 rfl (lv_at hl 0 rfl) ?_
    refine gX4_length X hw wq_39_23 dX4_append_34 ?_
    obtain ⟨rfl, rfl⟩ := Prod.mk.inj (Option.some.inj hm)
    exact hret _ _ _ _ hw dX4_append_37
  · replace hm := it_n hm c_1
    refine lv_aload_n X.1 X.2.1 dX4_append_7 rfl (lv_at hl 0 rfl) ?_
    refine gX4_length X hw wq_39_23 dX4_append_8 ?_
    refine lv_bipush (v := 60) X.1 X.2.1 dX4_append_11 (by decide) ?_
    refine lv_icmp_ge (tgt := 33) X.1 X.2.1 dX4_append_13 (by decide) (fun c_3 => ?_) (fun c_3 => ?_)
    · replace hm := it_p hm c_3
      refine lv_aload_n X.1 X.2.1 dX4_append_33 rfl (lv_at hl 0 rfl) ?_
      refine gX4_length X hw wq_39_23 dX4_append_34 ?_
      obtain ⟨rfl, rfl⟩ := Prod.mk.inj (Option.some.inj hm)
      exact hret _ _ _ _ hw dX4_append_37
    · replace hm := it_n hm c_3
      refine lv_aload_n X.1 X.2.1 dX4_append_16 rfl (lv_at hl 0 rfl) ?_
      refine gX4_text X hw wq_4_20 dX4_append_17 ?_
      refine lv_aload_n X.1 X.2.1 dX4_append_20 rfl (lv_at hl 0 rfl) ?_
      refine lv_dup X.1 X.2.1 dX4_append_21 rfl ?_
      refine gX4_length X hw wq_39_23 dX4_append_22 ?_
      refine lv_dup_x1 X.1 X.2.1 dX4_append_25 rfl rfl ?_
      refine lv_iconst (v := 1) X.1 X.2.1 dX4_append_26 (by decide) ?_
      refine lv_iadd X.1 X.2.1 dX4_append_27 ?_
      refine pX4_length X hw wq_39_23 dX4_append_28 (fun H locs hw => ?_)
      obtain ⟨b_5, eb_5⟩ : ∃ y, y = wI b 7 (((b.1 7) + (1 : Int32))) := ⟨_, rfl⟩
      rw [← eb_5] at hw
      replace hm := lt_e hm eb_5
      refine lv_iload_n X.1 X.2.1 dX4_append_31 rfl (lv_at hl 1 rfl) ?_
      replace hm := gd_e hm
      obtain ⟨g_6, hm⟩ := hm
      refine sA6 X hw g_6 dX4_append_32 (fun H locs hw => ?_)
      obtain ⟨b_7, eb_7⟩ : ∃ y, y = wA b_5 6 (b.1 7).toNatClampNeg x1 := ⟨_, rfl⟩
      rw [← eb_7] at hw
      replace hm := lt_e hm eb_7
      refine lv_aload_n X.1 X.2.1 dX4_append_33 rfl (lv_at hl 0 rfl) ?_
      refine gX4_length X hw wq_39_23 dX4_append_34 ?_
      obtain ⟨rfl, rfl⟩ := Prod.mk.inj (Option.some.inj hm)
      exact hret _ _ _ _ hw dX4_append_37
def m_X4_clear (b : ST) : Option (Int32 × ST) := lt (b.1 7) (fun x_1 => lt (wI b 7 (0 : Int32)) (fun b_2 => some (x_1, b_2)))
theorem yo_X4_clear : yX4_clear.cls = RX4 ∧ yX4_clear.cls ≠ "java/lang/invoke/MethodHandle" ∧ yX4_clear.cls ≠ "java/lang/invoke/VarHandle" ∧ (parseMethodDescriptor yX4_clear.desc).map (fun d => d.parameters.length) = some 0 := by decide +kernel
set_option maxHeartbeats 4000000 in
set_option maxRecDepth 100000 in
theorem c_X4_clear {l : Launch} {g : gT} {h : Nat → Nat} {b : ST} {w : Nat → ST} {r : Int32} {b' : ST} (hm : m_X4_clear b = some (r, b')) : MetI l g yX4_clear cX4_clear 2 (some .int) 0 0 79 h (cC g h (b, w)) (cC g h (b', w)) [.ref (h 16)] r := by
  refine MetI.ofX (by decide +kernel) (Nat.le_of_ble_eq_true rfl) ?_
  intro p e s m below meth c AV Q X hret ls hw hl
  replace X : Cx g p s m AV c cX4_clear RX4 2 := X
  replace hl : lv_has ls 2 [(0, .ref (h 16))] := hl
  unfold m_X4_clear at hm
  refine lv_aload_n X.1 X.2.1 dX4_clear_0 rfl (lv_at hl 0 rfl) ?_
  refine gX4_length X hw wq_39_23 dX4_clear_1 ?_
  refine lv_topi (fun x_1 ex_1 => ?_)
  replace hm := lt_e hm ex_1
  refine lv_istore_n (lv' := [(1, .int x_1), (0, .ref (h 16))]) X.1 X.2.1 dX4_clear_4 rfl hl (by decide) rfl (fun ls hl => ?_)
  refine lv_aload_n X.1 X.2.1 dX4_clear_5 rfl (lv_at hl 1 rfl) ?_
  refine lv_iconst (v := 0) X.1 X.2.1 dX4_clear_6 (by decide) ?_
  refine pX4_length X hw wq_39_23 dX4_clear_7 (fun H locs hw => ?_)
  obtain ⟨b_2, eb_2⟩ : ∃ y, y = wI b 7 (0 : Int32) := ⟨_, rfl⟩
  rw [← eb_2] at hw
  replace hm := lt_e hm eb_2
  refine lv_iload_n X.1 X.2.1 dX4_clear_10 rfl (lv_at hl 0 rfl) ?_
  obtain ⟨rfl, rfl⟩ := Prod.mk.inj (Option.some.inj hm)
  exact hret _ _ _ _ hw dX4_clear_11
def m_X4_byteAt (b : ST) (x1 : Int32) : Option (Int32) := if x1 < 0 then some (0 : Int32) else if (b.1 7) ≤ x1 then some (0 : Int32) else if (60 : Int32) ≤ x1 then some (0 : Int32) else gd (¬ (x1 < 0 ∨ 60 ≤ x1.toNatClampNeg)) (some (b.2.2.1 6 x1.toNatClampNeg))
theorem yo_X4_byteAt : yX4_byteAt.cls = RX4 ∧ yX4_byteAt.cls ≠ "java/lang/invoke/MethodHandle" ∧ yX4_byteAt.cls ≠ "java/lang/invoke/VarHandle" ∧ (parseMethodDescriptor yX4_byteAt.desc).map (fun d => d.parameters.length) = some 1 := by decide +kernel
set_option maxHeartbeats 4000000 in
set_option maxRecDepth 100000 in
theorem c_X4_byteAt {l : Launch} {g : gT} {h : Nat → Nat} {b : ST} {w : Nat → ST} {x1 : Int32} {r : Int32} (hm : m_X4_byteAt b x1 = some r) : MetI l g yX4_byteAt cX4_byteAt 2 (some .int) 0 0 79 h (cC g h (b, w)) (cC g h (b, w)) [.ref (h 16), .int x1] r := by
  refine MetI.ofX (by decide +kernel) (Nat.le_of_ble_eq_true rfl) ?_
  intro p e s m below meth c AV Q X hret ls hw hl
  replace X : Cx g p s m AV c cX4_byteAt RX4 2 := X
  replace hl : lv_has ls 2 [(0, .ref (h 16)), (1, .int x1)] := hl
  unfold m_X4_byteAt at hm
  refine lv_iload_n X.1 X.2.1 dX4_byteAt_0 rfl (lv_at hl 1 rfl) ?_
  refine lv_if_lt (tgt := 27) X.1 X.2.1 dX4_byteAt_1 (by decide) (fun c_1 => ?_) (fun c_1 => ?_)
  · replace hm := it_p hm c_1
    refine lv_iconst (v := 0) X.1 X.2.1 dX4_byteAt_27 (by decide) ?_
    obtain rfl := Option.some.inj hm
    exact hret _ _ _ _ hw dX4_byteAt_28
  · replace hm := it_n hm c_1
    refine lv_iload_n X.1 X.2.1 dX4_byteAt_4 rfl (lv_at hl 1 rfl) ?_
    refine lv_aload_n X.1 X.2.1 dX4_byteAt_5 rfl (lv_at hl 0 rfl) ?_
    refine gX4_length X hw wq_39_23 dX4_byteAt_6 ?_
    refine lv_icmp_ge (tgt := 27) X.1 X.2.1 dX4_byteAt_9 (by decide) (fun c_2 => ?_) (fun c_2 => ?_)
    · replace hm := it_p hm c_2
      refine lv_iconst (v := 0) X.1 X.2.1 dX4_byteAt_27 (by decide) ?_
      obtain rfl := Option.some.inj hm
      exact hret _ _ _ _ hw dX4_byteAt_28
    · replace hm := it_n hm c_2
      refine lv_iload_n X.1 X.2.1 dX4_byteAt_12 rfl (lv_at hl 1 rfl) ?_
      refine lv_bipush (v := 60) X.1 X.2.1 dX4_byteAt_13 (by decide) ?_
      refine lv_icmp_ge (tgt := 27) X.1 X.2.1 dX4_byteAt_15 (by decide) (fun c_3 => ?_) (fun c_3 => ?_)
      · replace hm := it_p hm c_3
        refine lv_iconst (v := 0) X.1 X.2.1 dX4_byteAt_27 (by decide) ?_
        obtain rfl := Option.some.inj hm
        exact hret _ _ _ _ hw dX4_byteAt_28
      · replace hm := it_n hm c_3
        refine lv_aload_n X.1 X.2.1 dX4_byteAt_18 rfl (lv_at hl 0 rfl) ?_
        refine gX4_text X hw wq_4_20 dX4_byteAt_19 ?_
        refine lv_iload_n X.1 X.2.1 dX4_byteAt_22 rfl (lv_at hl 1 rfl) ?_
        replace hm := gd_e hm
        obtain ⟨g_4, hm⟩ := hm
        refine lA6 X hw g_4 dX4_byteAt_23 ?_
        refine lv_goto (tgt := 28) X.1 X.2.1 dX4_byteAt_24 (by decide) ?_
        obtain rfl := Option.some.inj hm
        exact hret _ _ _ _ hw dX4_byteAt_28
def m_X4_endFrom_L2 (b : ST) (σ : Int32) : Option ((Int32) ⊕ (Int32)) := (fun (y_1 : Int32) => if (b.1 7) ≤ y_1 then some (.inr y_1) else Option.bind (m_X4_byteAt b y_1) (fun (r_12 : Int32) => if r_12 = (59 : Int32) then some (.inr y_1) else lt (y_1 + 1) (fun x_14 => some (.inl x_14)))) σ
def m_X4_endFrom (b : ST) (x1 : Int32) : Option (Int32) := Option.bind (vLoop (m_X4_endFrom_L2 b) FUEL x1) (fun (j_2 : Int32) => some j_2)
theorem yo_X4_endFrom : yX4_endFrom.cls = RX4 ∧ yX4_endFrom.cls ≠ "java/lang/invoke/MethodHandle" ∧ yX4_endFrom.cls ≠ "java/lang/invoke/VarHandle" ∧ (parseMethodDescriptor yX4_endFrom.desc).map (fun d => d.parameters.length) = some 1 := by decide +kernel
set_option maxHeartbeats 4000000 in
set_option maxRecDepth 100000 in
theorem c_X4_endFrom {l : Launch} {g : gT} {h : Nat → Nat} {b : ST} {w : Nat → ST} {x1 : Int32} {r : Int32} (hm : m_X4_endFrom b x1 = some r) : MetI l g yX4_endFrom cX4_endFrom 3 (some .int) 1 21 79 h (cC g h (b, w)) (cC g h (b, w)) [.ref (h 16), .int x1] r := by
  refine MetI.ofX (by decide +kernel) (Nat.le_of_ble_eq_true rfl) ?_
  intro p e s m below meth c AV Q X hret ls hw hl
  replace X : Cx g p s m AV c cX4_endFrom RX4 3 := X
  replace hl : lv_has ls 3 [(0, .ref (h 16)), (1, .int x1)] := hl
  unfold m_X4_endFrom at hm
  refine lv_iload_n X.1 X.2.1 dX4_endFrom_0 rfl (lv_at hl 1 rfl) ?_
  refine lv_istore_n (lv' := [(2, .int x1), (0, .ref (h 16)), (1, .int x1)]) X.1 X.2.1 dX4_endFrom_1 rfl hl (by decide) rfl (fun ls hl => ?_)
  replace hm := ob_e hm
  obtain ⟨j_2, hL_8, hm⟩ := hm
  have J_7 : ∀ (H : Heap) (locs : List Loc) (ls : Array Slot), Wd g 79 h (cC g h (b, w)) s H locs → lv_has ls 3 [(2, .int j_2)] → W p l e (rW 1 21) s m AV below meth c H locs 0 0 Q (F0 m 26 ls []) := by
    intro H locs ls hw hl
    refine lv_iload_n X.1 X.2.1 dX4_endFrom_26 rfl (lv_at hl 0 rfl) ?_
    obtain rfl := Option.some.inj hm
    exact hret _ _ _ _ hw dX4_endFrom_27
  refine vLoop_ind (B := (m_X4_endFrom_L2 b)) (fun σ => ∀ (H : Heap) (locs : List Loc) (ls : Array Slot), Wd g 79 h (cC g h (b, w)) s H locs → lv_has ls 3 [(0, .ref (h 16)), (2, .int σ)] → W p l e (rW 1 21) s m AV below meth c H locs 0 0 Q (F0 m 2 ls [])) (fun z' => z' = j_2) ?_ FUEL _ _ hL_8 rfl _ _ _ hw (lv_sub hl [1, 0] rfl)
  intro σ z_6 hz_3 hn_4 hx_5
  obtain ⟨y_1, rfl⟩ : ∃ q, q = σ := ⟨_, rfl⟩
  intro H locs ls hw hl
  replace hw : Wd g 79 h (cC g h (b, w)) s H locs := hw
  replace hl : lv_has ls 3 [(0, .ref (h 16)), (2, .int y_1)] := hl
  unfold m_X4_endFrom_L2 at hz_3
  refine lv_iload_n X.1 X.2.1 dX4_endFrom_2 rfl (lv_at hl 1 rfl) ?_
  refine lv_aload_n X.1 X.2.1 dX4_endFrom_3 rfl (lv_at hl 0 rfl) ?_
  refine gX4_length X hw wq_39_23 dX4_endFrom_4 ?_
  refine lv_icmp_ge (tgt := 26) X.1 X.2.1 dX4_endFrom_7 (by decide) (fun c_10 => ?_) (fun c_10 => ?_)
  · replace hz_3 := it_p hz_3 c_10
    obtain rfl := hx_5 _ (Option.some.inj hz_3).symm
    exact J_7 _ _ _ hw (lv_sub hl [1] rfl)
  · replace hz_3 := it_n hz_3 c_10
    refine lv_aload_n X.1 X.2.1 dX4_endFrom_10 rfl (lv_at hl 0 rfl) ?_
    refine lv_iload_n X.1 X.2.1 dX4_endFrom_11 rfl (lv_at hl 1 rfl) ?_
    replace hz_3 := ob_e hz_3
    obtain ⟨r_12, h_11, hz_3⟩ := hz_3
    refine k_Vi (k := 16) (As := [.int y_1]) X hl.1 hw (c_X4_byteAt h_11) (by decide) (he_X4 g h _ _) rfl ⟨wq_41_15, wq_41_16, wq_41_17, wq_2_10, wq_41_18⟩ yo_X4_byteAt rfl ⟨Nat.le_of_ble_eq_true rfl, Nat.le_of_ble_eq_true rfl⟩ (Nat.le_of_ble_eq_true rfl) dX4_endFrom_12 (fun H locs hw => ?_)
    refine lv_bipush (v := 59) X.1 X.2.1 dX4_endFrom_15 (by decide) ?_
    refine lv_icmp_eq (tgt := 26) X.1 X.2.1 dX4_endFrom_17 (by decide) (fun c_13 => ?_) (fun c_13 => ?_)
    · replace hz_3 := it_p hz_3 c_13
      obtain rfl := hx_5 _ (Option.some.inj hz_3).symm
      exact J_7 _ _ _ hw (lv_sub hl [1] rfl)
    · replace hz_3 := it_n hz_3 c_13
      obtain ⟨x_14, ex_14⟩ : ∃ y : Int32, y = y_1 + 1 := ⟨_, rfl⟩
      replace hz_3 := lt_e hz_3 ex_14
      refine lv_iinc (v := x_14) (lv' := [(2, .int x_14), (0, .ref (h 16))]) X.1 X.2.1 dX4_endFrom_20 hl (k := 1) rfl (by rw [ex_14]; rfl) (by decide) rfl (fun ls hl => ?_)
      refine lv_goto (tgt := 2) X.1 X.2.1 dX4_endFrom_23 (by decide) ?_
      exact hn_4 _ (Option.some.inj hz_3).symm _ _ _ hw (lv_sub hl [1, 0] rfl)
def m_X4_isBetween (x0 : Int32) (x1 : Int32) (x2 : Int32) : Option (Int32) := if x0 < x1 then some (0 : Int32) else if x2 < x0 then some (0 : Int32) else some (1 : Int32)
theorem yo_X4_isBetween : yX4_isBetween.cls ≠ "java/lang/invoke/MethodHandle" ∧ yX4_isBetween.cls ≠ "java/lang/invoke/VarHandle" ∧ (parseMethodDescriptor yX4_isBetween.desc).map (fun d => d.parameters.length) = some 3 := by decide +kernel
set_option maxHeartbeats 4000000 in
set_option maxRecDepth 100000 in
theorem c_X4_isBetween {l : Launch} {g : gT} {n : Nat} {h : Nat → Nat} {cel : Nat → va_E} {x0 : Int32} {x1 : Int32} {x2 : Int32} {r : Int32} (hm : m_X4_isBetween x0 x1 x2 = some r) : MetI l g yX4_isBetween cX4_isBetween 3 (some .boolean) 0 0 n h (cel) (cel) [.int x0, .int x1, .int x2] r := by
  refine MetZ.ofX (by decide +kernel) (Nat.le_of_ble_eq_true rfl) ?_
  intro p e s m below meth c AV Q X hret ls hw hl
  replace X : Cx g p s m AV c cX4_isBetween RX4 3 := X
  replace hl : lv_has ls 3 [(0, .int x0), (1, .int x1), (2, .int x2)] := hl
  unfold m_X4_isBetween at hm
  refine lv_iload_n X.1 X.2.1 dX4_isBetween_0 rfl (lv_at hl 0 rfl) ?_
  refine lv_iload_n X.1 X.2.1 dX4_isBetween_1 rfl (lv_at hl 1 rfl) ?_
  refine lv_icmp_lt (tgt := 14) X.1 X.2.1 dX4_isBetween_2 (by decide) (fun c_1 => ?_) (fun c_1 => ?_)
  · replace hm := it_p hm c_1
    refine lv_iconst (v := 0) X.1 X.2.1 dX4_isBetween_14 (by decide) ?_
    obtain rfl := Option.some.inj hm
    exact hret _ _ _ _ hw dX4_isBetween_15 (Or.inl rfl)
  · replace hm := it_n hm c_1
    refine lv_iload_n X.1 X.2.1 dX4_isBetween_5 rfl (lv_at hl 0 rfl) ?_
    refine lv_iload_n X.1 X.2.1 dX4_isBetween_6 rfl (lv_at hl 2 rfl) ?_
    refine lv_icmp_gt (tgt := 14) X.1 X.2.1 dX4_isBetween_7 (by decide) (fun c_2 => ?_) (fun c_2 => ?_)
    · replace hm := it_p hm c_2
      refine lv_iconst (v := 0) X.1 X.2.1 dX4_isBetween_14 (by decide) ?_
      obtain rfl := Option.some.inj hm
      exact hret _ _ _ _ hw dX4_isBetween_15 (Or.inl rfl)
    · replace hm := it_n hm c_2
      refine lv_iconst (v := 1) X.1 X.2.1 dX4_isBetween_10 (by decide) ?_
      refine lv_goto (tgt := 15) X.1 X.2.1 dX4_isBetween_11 (by decide) ?_
      obtain rfl := Option.some.inj hm
      exact hret _ _ _ _ hw dX4_isBetween_15 (Or.inr rfl)
def m_X4_wordLength_L2 (x2 : Int32) (b : ST) (σ : Int32) : Option ((Int32) ⊕ (Int32)) := (fun (y_1 : Int32) => if x2 ≤ y_1 then some (.inr y_1) else Option.bind (m_X4_byteAt b y_1) (fun (r_12 : Int32) => Option.bind (m_X4_isBetween r_12 (97 : Int32) (122 : Int32)) (fun (r_14 : Int32) => if r_14 = 0 then some (.inr y_1) else lt (y_1 + 1) (fun x_16 => some (.inl x_16))))) σ
def m_X4_wordLength (b : ST) (x1 : Int32) (x2 : Int32) : Option (Int32) := Option.bind (vLoop (m_X4_wordLength_L2 x2 b) FUEL x1) (fun (j_2 : Int32) => some (j_2 - x1))
theorem yo_X4_wordLength : yX4_wordLength.cls = RX4 ∧ yX4_wordLength.cls ≠ "java/lang/invoke/MethodHandle" ∧ yX4_wordLength.cls ≠ "java/lang/invoke/VarHandle" ∧ (parseMethodDescriptor yX4_wordLength.desc).map (fun d => d.parameters.length) = some 2 := by decide +kernel
set_option maxHeartbeats 4000000 in
set_option maxRecDepth 100000 in
theorem c_X4_wordLength {l : Launch} {g : gT} {h : Nat → Nat} {b : ST} {w : Nat → ST} {x1 : Int32} {x2 : Int32} {r : Int32} (hm : m_X4_wordLength b x1 x2 = some r) : MetI l g yX4_wordLength cX4_wordLength 4 (some .int) 1 22 79 h (cC g h (b, w)) (cC g h (b, w)) [.ref (h 16), .int x1, .int x2] r := by
  refine MetI.ofX (by decide +kernel) (Nat.le_of_ble_eq_true rfl) ?_
  intro p e s m below meth c AV Q X hret ls hw hl
  replace X : Cx g p s m AV c cX4_wordLength RX4 4 := X
  replace hl : lv_has ls 4 [(0, .ref (h 16)), (1, .int x1), (2, .int x2)] := hl
  unfold m_X4_wordLength at hm
  refine lv_iload_n X.1 X.2.1 dX4_wordLength_0 rfl (lv_at hl 1 rfl) ?_
  refine lv_istore_n (lv' := [(3, .int x1), (0, .ref (h 16)), (1, .int x1), (2, .int x2)]) X.1 X.2.1 dX4_wordLength_1 rfl hl (by decide) rfl (fun ls hl => ?_)
  replace hm := ob_e hm
  obtain ⟨j_2, hL_8, hm⟩ := hm
  have J_7 : ∀ (H : Heap) (locs : List Loc) (ls : Array Slot), Wd g 79 h (cC g h (b, w)) s H locs → lv_has ls 4 [(1, .int x1), (3, .int j_2)] → W p l e (rW 1 22) s m AV below meth c H locs 0 0 Q (F0 m 28 ls []) := by
    intro H locs ls hw hl
    refine lv_iload_n X.1 X.2.1 dX4_wordLength_28 rfl (lv_at hl 1 rfl) ?_
    refine lv_iload_n X.1 X.2.1 dX4_wordLength_29 rfl (lv_at hl 0 rfl) ?_
    refine lv_isub X.1 X.2.1 dX4_wordLength_30 ?_
    obtain rfl := Option.some.inj hm
    exact hret _ _ _ _ hw dX4_wordLength_31
  refine vLoop_ind (B := (m_X4_wordLength_L2 x2 b)) (fun σ => ∀ (H : Heap) (locs : List Loc) (ls : Array Slot), Wd g 79 h (cC g h (b, w)) s H locs → lv_has ls 4 [(0, .ref (h 16)), (1, .int x1), (2, .int x2), (3, .int σ)] → W p l e (rW 1 22) s m AV below meth c H locs 0 0 Q (F0 m 2 ls [])) (fun z' => z' = j_2) ?_ FUEL _ _ hL_8 rfl _ _ _ hw (lv_sub hl [1, 2, 3, 0] rfl)
  intro σ z_6 hz_3 hn_4 hx_5
  obtain ⟨y_1, rfl⟩ : ∃ q, q = σ := ⟨_, rfl⟩
  intro H locs ls hw hl
  replace hw : Wd g 79 h (cC g h (b, w)) s H locs := hw
  replace hl : lv_has ls 4 [(0, .ref (h 16)), (1, .int x1), (2, .int x2), (3, .int y_1)] := hl
  unfold m_X4_wordLength_L2 at hz_3
  refine lv_iload_n X.1 X.2.1 dX4_wordLength_2 rfl (lv_at hl 3 rfl) ?_
  refine lv_iload_n X.1 X.2.1 dX4_wordLength_3 rfl (lv_at hl 2 rfl) ?_
  refine lv_icmp_ge (tgt := 28) X.1 X.2.1 dX4_wordLength_4 (by decide) (fun c_10 => ?_) (fun c_10 => ?_)
  · replace hz_3 := it_p hz_3 c_10
    obtain rfl := hx_5 _ (Option.some.inj hz_3).symm
    exact J_7 _ _ _ hw (lv_sub hl [1, 3] rfl)
  · replace hz_3 := it_n hz_3 c_10
    refine lv_aload_n X.1 X.2.1 dX4_wordLength_7 rfl (lv_at hl 0 rfl) ?_
    refine lv_iload_n X.1 X.2.1 dX4_wordLength_8 rfl (lv_at hl 3 rfl) ?_
    replace hz_3 := ob_e hz_3
    obtain ⟨r_12, h_11, hz_3⟩ := hz_3
    refine k_Vi (k := 16) (As := [.int y_1]) X hl.1 hw (c_X4_byteAt h_11) (by decide) (he_X4 g h _ _) rfl ⟨wq_41_15, wq_41_16, wq_41_17, wq_2_10, wq_41_18⟩ yo_X4_byteAt rfl ⟨Nat.le_of_ble_eq_true rfl, Nat.le_of_ble_eq_true rfl⟩ (Nat.le_of_ble_eq_true rfl) dX4_wordLength_9 (fun H locs hw => ?_)
    refine lv_bipush (v := 97) X.1 X.2.1 dX4_wordLength_12 (by decide) ?_
    refine lv_bipush (v := 122) X.1 X.2.1 dX4_wordLength_14 (by decide) ?_
    replace hz_3 := ob_e hz_3
    obtain ⟨r_14, h_13, hz_3⟩ := hz_3
    refine k_Si (As := [.int r_12, .int (97 : Int32), .int (122 : Int32)]) X hl.1 hw (c_X4_isBetween h_13) ⟨wq_42_3, wq_42_4, wq_2_10, wq_42_5⟩ yo_X4_isBetween rfl ⟨Nat.le_of_ble_eq_true rfl, Nat.le_of_ble_eq_true rfl⟩ (Nat.le_of_ble_eq_true rfl) dX4_wordLength_16 (fun H locs hw => ?_)
    refine lv_if_eq (tgt := 28) X.1 X.2.1 dX4_wordLength_19 (by decide) (fun c_15 => ?_) (fun c_15 => ?_)
    · replace hz_3 := it_p hz_3 c_15
      obtain rfl := hx_5 _ (Option.some.inj hz_3).symm
      exact J_7 _ _ _ hw (lv_sub hl [1, 3] rfl)
    · replace hz_3 := it_n hz_3 c_15
      obtain ⟨x_16, ex_16⟩ : ∃ y : Int32, y = y_1 + 1 := ⟨_, rfl⟩
      replace hz_3 := lt_e hz_3 ex_16
      refine lv_iinc (v := x_16) (lv' := [(3, .int x_16), (0, .ref (h 16)), (1, .int x1), (2, .int x2)]) X.1 X.2.1 dX4_wordLength_22 hl (k := 3) rfl (by rw [ex_16]; rfl) (by decide) rfl (fun ls hl => ?_)
      refine lv_goto (tgt := 2) X.1 X.2.1 dX4_wordLength_25 (by decide) ?_
      exact hn_4 _ (Option.some.inj hz_3).symm _ _ _ hw (lv_sub hl [1, 2, 3, 0] rfl)
def m_X4_isWord_L15 (x1 : Int32) (b : ST) (sw : Nat) (σ : Int32) : Option ((Int32) ⊕ ((Unit) ⊕ (Int32))) := (fun (y_4 : Int32) => Option.bind (m_sLen sw) (fun (r_12 : Int32) => if r_12 ≤ y_4 then some (.inr (.inl ())) else Option.bind (m_X4_byteAt b (x1 + y_4)) (fun (r_16 : Int32) => Option.bind (m_sAt sw y_4) (fun (r_17 : Int32) => if r_16 = r_17 then lt (y_4 + 1) (fun x_20 => some (.inl x_20)) else some (.inr (.inr (0 : Int32))))))) σ
def m_X4_isWord (b : ST) (x1 : Int32) (x2 : Int32) (sw : Nat) : Option (Int32) := Option.bind (m_sLen sw) (fun (r_1 : Int32) => if (x2 - x1) = r_1 then Option.bind (vLoop (m_X4_isWord_L15 x1 b sw) FUEL (0 : Int32)) (fun z => ex z (fun (_ : Unit) => some (1 : Int32)) (fun r_22 => some r_22)) else some (0 : Int32))
theorem yo_X4_isWord : yX4_isWord.cls = RX4 ∧ yX4_isWord.cls ≠ "java/lang/invoke/MethodHandle" ∧ yX4_isWord.cls ≠ "java/lang/invoke/VarHandle" ∧ (parseMethodDescriptor yX4_isWord.desc).map (fun d => d.parameters.length) = some 3 := by decide +kernel
set_option maxHeartbeats 4000000 in
set_option maxRecDepth 100000 in
theorem c_X4_isWord {l : Launch} {g : gT} {h : Nat → Nat} {b : ST} {w : Nat → ST} {x1 : Int32} {x2 : Int32} {sw : Nat} {r : Int32} (hm : m_X4_isWord b x1 x2 sw = some r) : MetI l g yX4_isWord cX4_isWord 5 (some .boolean) 4 85 79 h (cC g h (b, w)) (cC g h (b, w)) [.ref (h 16), .int x1, .int x2, .ref (gK g sw)] r := by
  refine MetZ.ofX (by decide +kernel) (Nat.le_of_ble_eq_true rfl) ?_
  intro p e s m below meth c AV Q X hret ls hw hl
  replace X : Cx g p s m AV c cX4_isWord RX4 5 := X
  replace hl : lv_has ls 5 [(0, .ref (h 16)), (1, .int x1), (2, .int x2), (3, .ref (gK g sw))] := hl
  unfold m_X4_isWord at hm
  refine lv_iload_n X.1 X.2.1 dX4_isWord_0 rfl (lv_at hl 2 rfl) ?_
  refine lv_iload_n X.1 X.2.1 dX4_isWord_1 rfl (lv_at hl 1 rfl) ?_
  refine lv_isub X.1 X.2.1 dX4_isWord_2 ?_
  refine lv_aload_n X.1 X.2.1 dX4_isWord_3 rfl (lv_at hl 3 rfl) ?_
  replace hm := ob_e hm
  obtain ⟨r_1, h_2, hm⟩ := hm
  refine x_slen X hl.1 hw h_2 wq_42_14 ⟨Nat.le_of_ble_eq_true rfl, Nat.le_of_ble_eq_true rfl⟩ (Nat.le_of_ble_eq_true rfl) dX4_isWord_4 (fun H locs hw => ?_)
  refine lv_icmp_eq (tgt := 12) X.1 X.2.1 dX4_isWord_7 (by decide) (fun c_3 => ?_) (fun c_3 => ?_)
  · replace hm := it_p hm c_3
    refine lv_iconst (v := 0) X.1 X.2.1 dX4_isWord_12 (by decide) ?_
    refine lv_istore (lv' := [(4, .int (0 : Int32)), (0, .ref (h 16)), (1, .int x1), (2, .int x2), (3, .ref (gK g sw))]) X.1 X.2.1 dX4_isWord_13 hl (by decide) rfl (fun ls hl => ?_)
    replace hm := ob_e hm
    obtain ⟨z_21, hL_10, hm⟩ := hm
    have J_9 : z_21 = .inl () → ∀ (H : Heap) (locs : List Loc) (ls : Array Slot), Wd g 79 h (cC g h (b, w)) s H locs → lv_has ls 5 [] → W p l e (rW 4 85) s m AV below meth c H locs 0 0 Q (F0 m 49 ls []) := by
      intro hj
      subst hj
      replace hm := ex_l hm
      intro H locs ls hw hl
      refine lv_iconst (v := 1) X.1 X.2.1 dX4_isWord_49 (by decide) ?_
      obtain rfl := Option.some.inj hm
      exact hret _ _ _ _ hw dX4_isWord_50 (Or.inr rfl)
    refine vLoop_ind (B := (m_X4_isWord_L15 x1 b sw)) (fun σ => ∀ (H : Heap) (locs : List Loc) (ls : Array Slot), Wd g 79 h (cC g h (b, w)) s H locs → lv_has ls 5 [(0, .ref (h 16)), (1, .int x1), (3, .ref (gK g sw)), (4, .int σ)] → W p l e (rW 4 85) s m AV below meth c H locs 0 0 Q (F0 m 15 ls [])) (fun z' => z' = z_21) ?_ FUEL _ _ hL_10 rfl _ _ _ hw (lv_sub hl [1, 2, 4, 0] rfl)
    intro σ z_8 hz_5 hn_6 hx_7
    obtain ⟨y_4, rfl⟩ : ∃ q, q = σ := ⟨_, rfl⟩
    intro H locs ls hw hl
    replace hw : Wd g 79 h (cC g h (b, w)) s H locs := hw
    replace hl : lv_has ls 5 [(0, .ref (h 16)), (1, .int x1), (3, .ref (gK g sw)), (4, .int y_4)] := hl
    unfold m_X4_isWord_L15 at hz_5
    refine lv_iload X.1 X.2.1 dX4_isWord_15 (lv_at hl 3 rfl) ?_
    refine lv_aload_n X.1 X.2.1 dX4_isWord_17 rfl (lv_at hl 2 rfl) ?_
    replace hz_5 := ob_e hz_5
    obtain ⟨r_12, h_13, hz_5⟩ := hz_5
    refine x_slen X hl.1 hw h_13 wq_42_14 ⟨Nat.le_of_ble_eq_true rfl, Nat.le_of_ble_eq_true rfl⟩ (Nat.le_of_ble_eq_true rfl) dX4_isWord_18 (fun H locs hw => ?_)
    refine lv_icmp_ge (tgt := 49) X.1 X.2.1 dX4_isWord_21 (by decide) (fun c_14 => ?_) (fun c_14 => ?_)
    · replace hz_5 := it_p hz_5 c_14
      have he_11 := hx_7 _ (Option.some.inj hz_5).symm
      exact J_9 he_11.symm _ _ _ hw (lv_sub hl [] rfl)
    · replace hz_5 := it_n hz_5 c_14
      refine lv_aload_n X.1 X.2.1 dX4_isWord_24 rfl (lv_at hl 0 rfl) ?_
      refine lv_iload_n X.1 X.2.1 dX4_isWord_25 rfl (lv_at hl 1 rfl) ?_
      refine lv_iload X.1 X.2.1 dX4_isWord_26 (lv_at hl 3 rfl) ?_
      refine lv_iadd X.1 X.2.1 dX4_isWord_28 ?_
      replace hz_5 := ob_e hz_5
      obtain ⟨r_16, h_15, hz_5⟩ := hz_5
      refine k_Vi (k := 16) (As := [.int (x1 + y_4)]) X hl.1 hw (c_X4_byteAt h_15) (by decide) (he_X4 g h _ _) rfl ⟨wq_41_15, wq_41_16, wq_41_17, wq_2_10, wq_41_18⟩ yo_X4_byteAt rfl ⟨Nat.le_of_ble_eq_true rfl, Nat.le_of_ble_eq_true rfl⟩ (Nat.le_of_ble_eq_true rfl) dX4_isWord_29 (fun H locs hw => ?_)
      refine lv_aload_n X.1 X.2.1 dX4_isWord_32 rfl (lv_at hl 2 rfl) ?_
      refine lv_iload X.1 X.2.1 dX4_isWord_33 (lv_at hl 3 rfl) ?_
      replace hz_5 := ob_e hz_5
      obtain ⟨r_17, h_18, hz_5⟩ := hz_5
      refine x_sat X hl.1 hw h_18 wq_43_2 ⟨Nat.le_of_ble_eq_true rfl, Nat.le_of_ble_eq_true rfl⟩ (Nat.le_of_ble_eq_true rfl) dX4_isWord_35 (fun H locs hw => ?_)
      refine lv_icmp_eq (tgt := 43) X.1 X.2.1 dX4_isWord_38 (by decide) (fun c_19 => ?_) (fun c_19 => ?_)
      · replace hz_5 := it_p hz_5 c_19
        obtain ⟨x_20, ex_20⟩ : ∃ y : Int32, y = y_4 + 1 := ⟨_, rfl⟩
        replace hz_5 := lt_e hz_5 ex_20
        refine lv_iinc (v := x_20) (lv' := [(4, .int x_20), (0, .ref (h 16)), (1, .int x1), (3, .ref (gK g sw))]) X.1 X.2.1 dX4_isWord_43 hl (k := 3) rfl (by rw [ex_20]; rfl) (by decide) rfl (fun ls hl => ?_)
        refine lv_goto (tgt := 15) X.1 X.2.1 dX4_isWord_46 (by decide) ?_
        exact hn_6 _ (Option.some.inj hz_5).symm _ _ _ hw (lv_sub hl [1, 2, 3, 0] rfl)
      · replace hz_5 := it_n hz_5 c_19
        refine lv_iconst (v := 0) X.1 X.2.1 dX4_isWord_41 (by decide) ?_
        have he_11 := hx_7 _ (Option.some.inj hz_5).symm
        subst he_11
        replace hm := ex_r hm
        obtain rfl := Option.some.inj hm
        exact hret _ _ _ _ hw dX4_isWord_42 (Or.inl rfl)
  · replace hm := it_n hm c_3
    refine lv_iconst (v := 0) X.1 X.2.1 dX4_isWord_10 (by decide) ?_
    obtain rfl := Option.some.inj hm
    exact hret _ _ _ _ hw dX4_isWord_11 (Or.inl rfl)
def m_X4_wordOf (b : ST) (x1 : Int32) (x2 : Int32) : Option (Int32) := Option.bind (m_X4_isWord b x1 x2 0) (fun (r_2 : Int32) => if r_2 = 0 then Option.bind (m_X4_isWord b x1 x2 1) (fun (r_5 : Int32) => if r_5 = 0 then Option.bind (m_X4_isWord b x1 x2 2) (fun (r_8 : Int32) => if r_8 = 0 then Option.bind (m_X4_isWord b x1 x2 3) (fun (r_11 : Int32) => if r_11 = 0 then Option.bind (m_X4_isWord b x1 x2 4) (fun (r_14 : Int32) => if r_14 = 0 then Option.bind (m_X4_isWord b x1 x2 5) (fun (r_17 : Int32) => if r_17 = 0 then Option.bind (m_X4_isWord b x1 x2 6) (fun (r_20 : Int32) => if r_20 = 0 then some (0 : Int32) else some (7 : Int32)) else some (6 : Int32)) else some (5 : Int32)) else some (4 : Int32)) else some (3 : Int32)) else some (2 : Int32)) else some (1 : Int32))
theorem yo_X4_wordOf : yX4_wordOf.cls = RX4 ∧ yX4_wordOf.cls ≠ "java/lang/invoke/MethodHandle" ∧ yX4_wordOf.cls ≠ "java/lang/invoke/VarHandle" ∧ (parseMethodDescriptor yX4_wordOf.desc).map (fun d => d.parameters.length) = some 2 := by decide +kernel
set_option maxHeartbeats 4000000 in
set_option maxRecDepth 100000 in
theorem c_X4_wordOf {l : Launch} {g : gT} {h : Nat → Nat} {b : ST} {w : Nat → ST} {x1 : Int32} {x2 : Int32} {r : Int32} (hm : m_X4_wordOf b x1 x2 = some r) : MetI l g yX4_wordOf cX4_wordOf 3 (some .int) 5 109 79 h (cC g h (b, w)) (cC g h (b, w)) [.ref (h 16), .int x1, .int x2] r := by
  refine MetI.ofX (by decide +kernel) (Nat.le_of_ble_eq_true rfl) ?_
  intro p e s m below meth c AV Q X hret ls hw hl
  replace X : Cx g p s m AV c cX4_wordOf RX4 3 := X
  replace hl : lv_has ls 3 [(0, .ref (h 16)), (1, .int x1), (2, .int x2)] := hl
  unfold m_X4_wordOf at hm
  refine lv_aload_n X.1 X.2.1 dX4_wordOf_0 rfl (lv_at hl 0 rfl) ?_
  refine lv_iload_n X.1 X.2.1 dX4_wordOf_1 rfl (lv_at hl 1 rfl) ?_
  refine lv_iload_n X.1 X.2.1 dX4_wordOf_2 rfl (lv_at hl 2 rfl) ?_
  refine x_word (w := 0) X hw (by decide) rfl dX4_wordOf_3 ?_
  replace hm := ob_e hm
  obtain ⟨r_2, h_1, hm⟩ := hm
  refine k_Vi (k := 16) (As := [.int x1, .int x2, .ref (gK g 0)]) X hl.1 hw (c_X4_isWord h_1) (by decide) (he_X4 g h _ _) rfl ⟨wq_42_10, wq_42_11, wq_42_12, wq_2_10, wq_42_13⟩ yo_X4_isWord rfl ⟨Nat.le_of_ble_eq_true rfl, Nat.le_of_ble_eq_true rfl⟩ (Nat.le_of_ble_eq_true rfl) dX4_wordOf_5 (fun H locs hw => ?_)
  refine lv_if_eq (tgt := 13) X.1 X.2.1 dX4_wordOf_8 (by decide) (fun c_3 => ?_) (fun c_3 => ?_)
  · replace hm := it_p hm c_3
    refine lv_aload_n X.1 X.2.1 dX4_wordOf_13 rfl (lv_at hl 0 rfl) ?_
    refine lv_iload_n X.1 X.2.1 dX4_wordOf_14 rfl (lv_at hl 1 rfl) ?_
    refine lv_iload_n X.1 X.2.1 dX4_wordOf_15 rfl (lv_at hl 2 rfl) ?_
    refine x_word (w := 1) X hw (by decide) rfl dX4_wordOf_16 ?_
    replace hm := ob_e hm
    obtain ⟨r_5, h_4, hm⟩ := hm
    refine k_Vi (k := 16) (As := [.int x1, .int x2, .ref (gK g 1)]) X hl.1 hw (c_X4_isWord h_4) (by decide) (he_X4 g h _ _) rfl ⟨wq_42_10, wq_42_11, wq_42_12, wq_2_10, wq_42_13⟩ yo_X4_isWord rfl ⟨Nat.le_of_ble_eq_true rfl, Nat.le_of_ble_eq_true rfl⟩ (Nat.le_of_ble_eq_true rfl) dX4_wordOf_18 (fun H locs hw => ?_)
    refine lv_if_eq (tgt := 26) X.1 X.2.1 dX4_wordOf_21 (by decide) (fun c_6 => ?_) (fun c_6 => ?_)
    · replace hm := it_p hm c_6
      refine lv_aload_n X.1 X.2.1 dX4_wordOf_26 rfl (lv_at hl 0 rfl) ?_
      refine lv_iload_n X.1 X.2.1 dX4_wordOf_27 rfl (lv_at hl 1 rfl) ?_
      refine lv_iload_n X.1 X.2.1 dX4_wordOf_28 rfl (lv_at hl 2 rfl) ?_
      refine x_word (w := 2) X hw (by decide) rfl dX4_wordOf_29 ?_
      replace hm := ob_e hm
      obtain ⟨r_8, h_7, hm⟩ := hm
      refine k_Vi (k := 16) (As := [.int x1, .int x2, .ref (gK g 2)]) X hl.1 hw (c_X4_isWord h_7) (by decide) (he_X4 g h _ _) rfl ⟨wq_42_10, wq_42_11, wq_42_12, wq_2_10, wq_42_13⟩ yo_X4_isWord rfl ⟨Nat.le_of_ble_eq_true rfl, Nat.le_of_ble_eq_true rfl⟩ (Nat.le_of_ble_eq_true rfl) dX4_wordOf_31 (fun H locs hw => ?_)
      refine lv_if_eq (tgt := 39) X.1 X.2.1 dX4_wordOf_34 (by decide) (fun c_9 => ?_) (fun c_9 => ?_)
      · replace hm := it_p hm c_9
        refine lv_aload_n X.1 X.2.1 dX4_wordOf_39 rfl (lv_at hl 0 rfl) ?_
        refine lv_iload_n X.1 X.2.1 dX4_wordOf_40 rfl (lv_at hl 1 rfl) ?_
        refine lv_iload_n X.1 X.2.1 dX4_wordOf_41 rfl (lv_at hl 2 rfl) ?_
        refine x_word (w := 3) X hw (by decide) rfl dX4_wordOf_42 ?_
        replace hm := ob_e hm
        obtain ⟨r_11, h_10, hm⟩ := hm
        refine k_Vi (k := 16) (As := [.int x1, .int x2, .ref (gK g 3)]) X hl.1 hw (c_X4_isWord h_10) (by decide) (he_X4 g h _ _) rfl ⟨wq_42_10, wq_42_11, wq_42_12, wq_2_10, wq_42_13⟩ yo_X4_isWord rfl ⟨Nat.le_of_ble_eq_true rfl, Nat.le_of_ble_eq_true rfl⟩ (Nat.le_of_ble_eq_true rfl) dX4_wordOf_44 (fun H locs hw => ?_)
        refine lv_if_eq (tgt := 52) X.1 X.2.1 dX4_wordOf_47 (by decide) (fun c_12 => ?_) (fun c_12 => ?_)
        · replace hm := it_p hm c_12
          refine lv_aload_n X.1 X.2.1 dX4_wordOf_52 rfl (lv_at hl 0 rfl) ?_
          refine lv_iload_n X.1 X.2.1 dX4_wordOf_53 rfl (lv_at hl 1 rfl) ?_
          refine lv_iload_n X.1 X.2.1 dX4_wordOf_54 rfl (lv_at hl 2 rfl) ?_
          refine x_word (w := 4) X hw (by decide) rfl dX4_wordOf_55 ?_
          replace hm := ob_e hm
          obtain ⟨r_14, h_13, hm⟩ := hm
          refine k_Vi (k := 16) (As := [.int x1, .int x2, .ref (gK g 4)]) X hl.1 hw (c_X4_isWord h_13) (by decide) (he_X4 g h _ _) rfl ⟨wq_42_10, wq_42_11, wq_42_12, wq_2_10, wq_42_13⟩ yo_X4_isWord rfl ⟨Nat.le_of_ble_eq_true rfl, Nat.le_of_ble_eq_true rfl⟩ (Nat.le_of_ble_eq_true rfl) dX4_wordOf_57 (fun H locs hw => ?_)
          refine lv_if_eq (tgt := 65) X.1 X.2.1 dX4_wordOf_60 (by decide) (fun c_15 => ?_) (fun c_15 => ?_)
          · replace hm := it_p hm c_15
            refine lv_aload_n X.1 X.2.1 dX4_wordOf_65 rfl (lv_at hl 0 rfl) ?_
            refine lv_iload_n X.1 X.2.1 dX4_wordOf_66 rfl (lv_at hl 1 rfl) ?_
            refine lv_iload_n X.1 X.2.1 dX4_wordOf_67 rfl (lv_at hl 2 rfl) ?_
            refine x_word (w := 5) X hw (by decide) rfl dX4_wordOf_68 ?_
            replace hm := ob_e hm
            obtain ⟨r_17, h_16, hm⟩ := hm
            refine k_Vi (k := 16) (As := [.int x1, .int x2, .ref (gK g 5)]) X hl.1 hw (c_X4_isWord h_16) (by decide) (he_X4 g h _ _) rfl ⟨wq_42_10, wq_42_11, wq_42_12, wq_2_10, wq_42_13⟩ yo_X4_isWord rfl ⟨Nat.le_of_ble_eq_true rfl, Nat.le_of_ble_eq_true rfl⟩ (Nat.le_of_ble_eq_true rfl) dX4_wordOf_70 (fun H locs hw => ?_)
            refine lv_if_eq (tgt := 79) X.1 X.2.1 dX4_wordOf_73 (by decide) (fun c_18 => ?_) (fun c_18 => ?_)
            · replace hm := it_p hm c_18
              refine lv_aload_n X.1 X.2.1 dX4_wordOf_79 rfl (lv_at hl 0 rfl) ?_
              refine lv_iload_n X.1 X.2.1 dX4_wordOf_80 rfl (lv_at hl 1 rfl) ?_
              refine lv_iload_n X.1 X.2.1 dX4_wordOf_81 rfl (lv_at hl 2 rfl) ?_
              refine x_word (w := 6) X hw (by decide) rfl dX4_wordOf_82 ?_
              replace hm := ob_e hm
              obtain ⟨r_20, h_19, hm⟩ := hm
              refine k_Vi (k := 16) (As := [.int x1, .int x2, .ref (gK g 6)]) X hl.1 hw (c_X4_isWord h_19) (by decide) (he_X4 g h _ _) rfl ⟨wq_42_10, wq_42_11, wq_42_12, wq_2_10, wq_42_13⟩ yo_X4_isWord rfl ⟨Nat.le_of_ble_eq_true rfl, Nat.le_of_ble_eq_true rfl⟩ (Nat.le_of_ble_eq_true rfl) dX4_wordOf_84 (fun H locs hw => ?_)
              refine lv_if_eq (tgt := 93) X.1 X.2.1 dX4_wordOf_87 (by decide) (fun c_21 => ?_) (fun c_21 => ?_)
              · replace hm := it_p hm c_21
                refine lv_iconst (v := 0) X.1 X.2.1 dX4_wordOf_93 (by decide) ?_
                obtain rfl := Option.some.inj hm
                exact hret _ _ _ _ hw dX4_wordOf_94
              · replace hm := it_n hm c_21
                refine lv_bipush (v := 7) X.1 X.2.1 dX4_wordOf_90 (by decide) ?_
                obtain rfl := Option.some.inj hm
                exact hret _ _ _ _ hw dX4_wordOf_92
            · replace hm := it_n hm c_18
              refine lv_bipush (v := 6) X.1 X.2.1 dX4_wordOf_76 (by decide) ?_
              obtain rfl := Option.some.inj hm
              exact hret _ _ _ _ hw dX4_wordOf_78
          · replace hm := it_n hm c_15
            refine lv_iconst (v := 5) X.1 X.2.1 dX4_wordOf_63 (by decide) ?_
            obtain rfl := Option.some.inj hm
            exact hret _ _ _ _ hw dX4_wordOf_64
        · replace hm := it_n hm c_12
          refine lv_iconst (v := 4) X.1 X.2.1 dX4_wordOf_50 (by decide) ?_
          obtain rfl := Option.some.inj hm
          exact hret _ _ _ _ hw dX4_wordOf_51
      · replace hm := it_n hm c_9
        refine lv_iconst (v := 3) X.1 X.2.1 dX4_wordOf_37 (by decide) ?_
        obtain rfl := Option.some.inj hm
        exact hret _ _ _ _ hw dX4_wordOf_38
    · replace hm := it_n hm c_6
      refine lv_iconst (v := 2) X.1 X.2.1 dX4_wordOf_24 (by decide) ?_
      obtain rfl := Option.some.inj hm
      exact hret _ _ _ _ hw dX4_wordOf_25
  · replace hm := it_n hm c_3
    refine lv_iconst (v := 1) X.1 X.2.1 dX4_wordOf_11 (by decide) ?_
    obtain rfl := Option.some.inj hm
    exact hret _ _ _ _ hw dX4_wordOf_12
def m_X4_faultOf (b : ST) (x1 : Int32) (x2 : Int32) : Option (Int32) := Option.bind (m_X4_wordLength b x1 x2) (fun (r_2 : Int32) => lt (x1 + r_2) (fun x_3 => Option.bind (m_X4_wordOf b x1 x_3) (fun (r_5 : Int32) => if r_5 = 0 then some (1 : Int32) else Option.bind ((if r_5 = (6 : Int32) then some (.inl ()) else if r_5 = (7 : Int32) then some (.inl ()) else if (x2 - x_3) = (1 : Int32) then Option.bind (m_X4_byteAt b x_3) (fun (r_14 : Int32) => Option.bind (m_X4_isBetween r_14 (48 : Int32) (57 : Int32)) (fun (r_16 : Int32) => if r_16 = 0 then some (.inr (2 : Int32)) else Option.bind (m_X4_byteAt b x_3) (fun (r_19 : Int32) => lt (r_19 - (48 : Int32)) (fun x_20 => Option.bind (if r_5 = (4 : Int32) then Option.bind (m_X2_hasStation b (x_20.toInt64)) (fun (r_27 : Int32) => some r_27) else if r_5 = (5 : Int32) then Option.bind (m_X2_hasStation b (x_20.toInt64)) (fun (r_32 : Int32) => some r_32) else Option.bind (m_X2_hasLink b x_20) (fun (r_30 : Int32) => some r_30)) (fun (j_22 : Int32) => if j_22 = 0 then some (.inr (3 : Int32)) else some (.inr (0 : Int32))))))) else some (.inr (2 : Int32))) : Option ((Unit) ⊕ (Int32))) (fun z_33 => ex z_33 (fun (_ : Unit) => if x_3 = x2 then some (0 : Int32) else some (2 : Int32)) (fun r => some r)))))
theorem yo_X4_faultOf : yX4_faultOf.cls = RX4 ∧ yX4_faultOf.cls ≠ "java/lang/invoke/MethodHandle" ∧ yX4_faultOf.cls ≠ "java/lang/invoke/VarHandle" ∧ (parseMethodDescriptor yX4_faultOf.desc).map (fun d => d.parameters.length) = some 2 := by decide +kernel
set_option maxHeartbeats 4000000 in
set_option maxRecDepth 100000 in
theorem c_X4_faultOf {l : Launch} {g : gT} {h : Nat → Nat} {b : ST} {w : Nat → ST} {x1 : Int32} {x2 : Int32} {r : Int32} (hm : m_X4_faultOf b x1 x2 = some r) : MetI l g yX4_faultOf cX4_faultOf 7 (some .int) 6 131 79 h (cC g h (b, w)) (cC g h (b, w)) [.ref (h 16), .int x1, .int x2] r := by
  refine MetI.ofX (by decide +kernel) (Nat.le_of_ble_eq_true rfl) ?_
  intro p e s m below meth c AV Q X hret ls hw hl
  replace X : Cx g p s m AV c cX4_faultOf RX4 7 := X
  replace hl : lv_has ls 7 [(0, .ref (h 16)), (1, .int x1), (2, .int x2)] := hl
  unfold m_X4_faultOf at hm
  refine lv_iload_n X.1 X.2.1 dX4_faultOf_0 rfl (lv_at hl 1 rfl) ?_
  refine lv_aload_n X.1 X.2.1 dX4_faultOf_1 rfl (lv_at hl 0 rfl) ?_
  refine lv_iload_n X.1 X.2.1 dX4_faultOf_2 rfl (lv_at hl 1 rfl) ?_
  refine lv_iload_n X.1 X.2.1 dX4_faultOf_3 rfl (lv_at hl 2 rfl) ?_
  replace hm := ob_e hm
  obtain ⟨r_2, h_1, hm⟩ := hm
  refine k_Vi (k := 16) (As := [.int x1, .int x2]) X hl.1 hw (c_X4_wordLength h_1) (by decide) (he_X4 g h _ _) rfl ⟨wq_41_23, wq_42_0, wq_42_1, wq_2_10, wq_42_2⟩ yo_X4_wordLength rfl ⟨Nat.le_of_ble_eq_true rfl, Nat.le_of_ble_eq_true rfl⟩ (Nat.le_of_ble_eq_true rfl) dX4_faultOf_4 (fun H locs hw => ?_)
  refine lv_iadd X.1 X.2.1 dX4_faultOf_7 ?_
  refine lv_topi (fun x_3 ex_3 => ?_)
  replace hm := lt_e hm ex_3
  refine lv_istore_n (lv' := [(3, .int x_3), (0, .ref (h 16)), (1, .int x1), (2, .int x2)]) X.1 X.2.1 dX4_faultOf_8 rfl hl (by decide) rfl (fun ls hl => ?_)
  refine lv_aload_n X.1 X.2.1 dX4_faultOf_9 rfl (lv_at hl 1 rfl) ?_
  refine lv_iload_n X.1 X.2.1 dX4_faultOf_10 rfl (lv_at hl 2 rfl) ?_
  refine lv_iload_n X.1 X.2.1 dX4_faultOf_11 rfl (lv_at hl 0 rfl) ?_
  replace hm := ob_e hm
  obtain ⟨r_5, h_4, hm⟩ := hm
  refine k_Vi (k := 16) (As := [.int x1, .int x_3]) X hl.1 hw (c_X4_wordOf h_4) (by decide) (he_X4 g h _ _) rfl ⟨wq_42_6, wq_42_7, wq_42_8, wq_2_10, wq_42_9⟩ yo_X4_wordOf rfl ⟨Nat.le_of_ble_eq_true rfl, Nat.le_of_ble_eq_true rfl⟩ (Nat.le_of_ble_eq_true rfl) dX4_faultOf_12 (fun H locs hw => ?_)
  refine lv_istore (lv' := [(4, .int r_5), (3, .int x_3), (0, .ref (h 16)), (1, .int x1), (2, .int x2)]) X.1 X.2.1 dX4_faultOf_15 hl (by decide) rfl (fun ls hl => ?_)
  refine lv_iload X.1 X.2.1 dX4_faultOf_17 (lv_at hl 0 rfl) ?_
  refine lv_if_ne (tgt := 24) X.1 X.2.1 dX4_faultOf_19 (by decide) (fun c_6 => ?_) (fun c_6 => ?_)
  · replace hm := it_n hm c_6
    refine lv_iload X.1 X.2.1 dX4_faultOf_24 (lv_at hl 0 rfl) ?_
    refine lv_bipush (v := 6) X.1 X.2.1 dX4_faultOf_26 (by decide) ?_
    replace hm := ob_e hm
    obtain ⟨z_33, hg_9, hm⟩ := hm
    have J_10 : z_33 = .inl () → ∀ (H : Heap) (locs : List Loc) (ls : Array Slot), Wd g 79 h (cC g h (b, w)) s H locs → lv_has ls 7 [(2, .int x2), (3, .int x_3)] → W p l e (rW 6 131) s m AV below meth c H locs 0 0 Q (F0 m 38 ls []) := by
      intro hj
      subst hj
      replace hm := ex_l hm
      intro H locs ls hw hl
      refine lv_iload_n X.1 X.2.1 dX4_faultOf_38 rfl (lv_at hl 1 rfl) ?_
      refine lv_iload_n X.1 X.2.1 dX4_faultOf_39 rfl (lv_at hl 0 rfl) ?_
      refine lv_icmp_ne (tgt := 47) X.1 X.2.1 dX4_faultOf_40 (by decide) (fun c_8 => ?_) (fun c_8 => ?_)
      · replace hm := it_n hm c_8
        refine lv_iconst (v := 2) X.1 X.2.1 dX4_faultOf_47 (by decide) ?_
        obtain rfl := Option.some.inj hm
        exact hret _ _ _ _ hw dX4_faultOf_48
      · replace hm := it_p hm c_8
        refine lv_iconst (v := 0) X.1 X.2.1 dX4_faultOf_43 (by decide) ?_
        refine lv_goto (tgt := 48) X.1 X.2.1 dX4_faultOf_44 (by decide) ?_
        obtain rfl := Option.some.inj hm
        exact hret _ _ _ _ hw dX4_faultOf_48
    refine lv_icmp_eq (tgt := 38) X.1 X.2.1 dX4_faultOf_28 (by decide) (fun c_7 => ?_) (fun c_7 => ?_)
    · replace hg_9 := it_p hg_9 c_7
      exact J_10 (Option.some.inj hg_9).symm _ _ _ hw (lv_sub hl [4, 1] rfl)
    · replace hg_9 := it_n hg_9 c_7
      refine lv_iload X.1 X.2.1 dX4_faultOf_31 (lv_at hl 0 rfl) ?_
      refine lv_bipush (v := 7) X.1 X.2.1 dX4_faultOf_33 (by decide) ?_
      refine lv_icmp_ne (tgt := 49) X.1 X.2.1 dX4_faultOf_35 (by decide) (fun c_11 => ?_) (fun c_11 => ?_)
      · replace hg_9 := it_n hg_9 c_11
        refine lv_iload_n X.1 X.2.1 dX4_faultOf_49 rfl (lv_at hl 4 rfl) ?_
        refine lv_iload_n X.1 X.2.1 dX4_faultOf_50 rfl (lv_at hl 1 rfl) ?_
        refine lv_isub X.1 X.2.1 dX4_faultOf_51 ?_
        refine lv_iconst (v := 1) X.1 X.2.1 dX4_faultOf_52 (by decide) ?_
        refine lv_icmp_ne (tgt := 71) X.1 X.2.1 dX4_faultOf_53 (by decide) (fun c_12 => ?_) (fun c_12 => ?_)
        · replace hg_9 := it_n hg_9 c_12
          refine lv_iconst (v := 2) X.1 X.2.1 dX4_faultOf_71 (by decide) ?_
          obtain rfl := Option.some.inj hg_9
          replace hm := ex_r hm
          obtain rfl := Option.some.inj hm
          exact hret _ _ _ _ hw dX4_faultOf_72
        · replace hg_9 := it_p hg_9 c_12
          refine lv_aload_n X.1 X.2.1 dX4_faultOf_56 rfl (lv_at hl 2 rfl) ?_
          refine lv_iload_n X.1 X.2.1 dX4_faultOf_57 rfl (lv_at hl 1 rfl) ?_
          replace hg_9 := ob_e hg_9
          obtain ⟨r_14, h_13, hg_9⟩ := hg_9
          refine k_Vi (k := 16) (As := [.int x_3]) X hl.1 hw (c_X4_byteAt h_13) (by decide) (he_X4 g h _ _) rfl ⟨wq_41_15, wq_41_16, wq_41_17, wq_2_10, wq_41_18⟩ yo_X4_byteAt rfl ⟨Nat.le_of_ble_eq_true rfl, Nat.le_of_ble_eq_true rfl⟩ (Nat.le_of_ble_eq_true rfl) dX4_faultOf_58 (fun H locs hw => ?_)
          refine lv_bipush (v := 48) X.1 X.2.1 dX4_faultOf_61 (by decide) ?_
          refine lv_bipush (v := 57) X.1 X.2.1 dX4_faultOf_63 (by decide) ?_
          replace hg_9 := ob_e hg_9
          obtain ⟨r_16, h_15, hg_9⟩ := hg_9
          refine k_Si (As := [.int r_14, .int (48 : Int32), .int (57 : Int32)]) X hl.1 hw (c_X4_isBetween h_15) ⟨wq_42_3, wq_42_4, wq_2_10, wq_42_5⟩ yo_X4_isBetween rfl ⟨Nat.le_of_ble_eq_true rfl, Nat.le_of_ble_eq_true rfl⟩ (Nat.le_of_ble_eq_true rfl) dX4_faultOf_65 (fun H locs hw => ?_)
          refine lv_if_ne (tgt := 73) X.1 X.2.1 dX4_faultOf_68 (by decide) (fun c_17 => ?_) (fun c_17 => ?_)
          · replace hg_9 := it_n hg_9 c_17
            refine lv_aload_n X.1 X.2.1 dX4_faultOf_73 rfl (lv_at hl 2 rfl) ?_
            refine lv_iload_n X.1 X.2.1 dX4_faultOf_74 rfl (lv_at hl 1 rfl) ?_
            replace hg_9 := ob_e hg_9
            obtain ⟨r_19, h_18, hg_9⟩ := hg_9
            refine k_Vi (k := 16) (As := [.int x_3]) X hl.1 hw (c_X4_byteAt h_18) (by decide) (he_X4 g h _ _) rfl ⟨wq_41_15, wq_41_16, wq_41_17, wq_2_10, wq_41_18⟩ yo_X4_byteAt rfl ⟨Nat.le_of_ble_eq_true rfl, Nat.le_of_ble_eq_true rfl⟩ (Nat.le_of_ble_eq_true rfl) dX4_faultOf_75 (fun H locs hw => ?_)
            refine lv_bipush (v := 48) X.1 X.2.1 dX4_faultOf_78 (by decide) ?_
            refine lv_isub X.1 X.2.1 dX4_faultOf_80 ?_
            refine lv_topi (fun x_20 ex_20 => ?_)
            replace hg_9 := lt_e hg_9 ex_20
            refine lv_istore (lv' := [(5, .int x_20), (4, .int r_5), (3, .int x_3), (0, .ref (h 16)), (1, .int x1), (2, .int x2)]) X.1 X.2.1 dX4_faultOf_81 hl (by decide) rfl (fun ls hl => ?_)
            refine lv_iload X.1 X.2.1 dX4_faultOf_83 (lv_at hl 1 rfl) ?_
            refine lv_iconst (v := 4) X.1 X.2.1 dX4_faultOf_85 (by decide) ?_
            replace hg_9 := ob_e hg_9
            obtain ⟨j_22, hg_24, hg_9⟩ := hg_9
            have J_25 : ∀ (H : Heap) (locs : List Loc) (ls : Array Slot), Wd g 79 h (cC g h (b, w)) s H locs → lv_has ls 7 [] → W p l e (rW 6 131) s m AV below meth c H locs 0 0 Q (F0 m 117 ls [.int j_22]) := by
              intro H locs ls hw hl
              refine lv_istore (lv' := [(6, .int j_22)]) X.1 X.2.1 dX4_faultOf_117 hl (by decide) rfl (fun ls hl => ?_)
              refine lv_iload X.1 X.2.1 dX4_faultOf_119 (lv_at hl 0 rfl) ?_
              refine lv_if_eq (tgt := 128) X.1 X.2.1 dX4_faultOf_121 (by decide) (fun c_23 => ?_) (fun c_23 => ?_)
              · replace hg_9 := it_p hg_9 c_23
                refine lv_iconst (v := 3) X.1 X.2.1 dX4_faultOf_128 (by decide) ?_
                obtain rfl := Option.some.inj hg_9
                replace hm := ex_r hm
                obtain rfl := Option.some.inj hm
                exact hret _ _ _ _ hw dX4_faultOf_129
              · replace hg_9 := it_n hg_9 c_23
                refine lv_iconst (v := 0) X.1 X.2.1 dX4_faultOf_124 (by decide) ?_
                refine lv_goto (tgt := 129) X.1 X.2.1 dX4_faultOf_125 (by decide) ?_
                obtain rfl := Option.some.inj hg_9
                replace hm := ex_r hm
                obtain rfl := Option.some.inj hm
                exact hret _ _ _ _ hw dX4_faultOf_129
            refine lv_icmp_eq (tgt := 95) X.1 X.2.1 dX4_faultOf_86 (by decide) (fun c_21 => ?_) (fun c_21 => ?_)
            · replace hg_24 := it_p hg_24 c_21
              refine lv_aload_n X.1 X.2.1 dX4_faultOf_95 rfl (lv_at hl 3 rfl) ?_
              refine gX4_net X hw wq_4_21 dX4_faultOf_96 ?_
              refine lv_iload X.1 X.2.1 dX4_faultOf_99 (lv_at hl 0 rfl) ?_
              refine lv_i2l X.1 X.2.1 dX4_faultOf_101 rfl ?_
              replace hg_24 := ob_e hg_24
              obtain ⟨r_27, h_26, hg_24⟩ := hg_24
              refine k_Vi (k := 1) (As := [.long x_20.toInt64]) X hl.1 hw (c_X2_hasStation h_26) (by decide) (he_X2 g h _ _) rfl ⟨wq_44_15, wq_7_17, wq_7_18, wq_1_14, wq_7_19⟩ yo_X2_hasStation rfl ⟨Nat.le_of_ble_eq_true rfl, Nat.le_of_ble_eq_true rfl⟩ (Nat.le_of_ble_eq_true rfl) dX4_faultOf_102 (fun H locs hw => ?_)
              refine lv_goto (tgt := 117) X.1 X.2.1 dX4_faultOf_105 (by decide) ?_
              obtain rfl := Option.some.inj hg_24
              exact J_25 _ _ _ hw (lv_sub hl [] rfl)
            · replace hg_24 := it_n hg_24 c_21
              refine lv_iload X.1 X.2.1 dX4_faultOf_89 (lv_at hl 1 rfl) ?_
              refine lv_iconst (v := 5) X.1 X.2.1 dX4_faultOf_91 (by decide) ?_
              refine lv_icmp_ne (tgt := 108) X.1 X.2.1 dX4_faultOf_92 (by decide) (fun c_28 => ?_) (fun c_28 => ?_)
              · replace hg_24 := it_n hg_24 c_28
                refine lv_aload_n X.1 X.2.1 dX4_faultOf_108 rfl (lv_at hl 3 rfl) ?_
                refine gX4_net X hw wq_4_21 dX4_faultOf_109 ?_
                refine lv_iload X.1 X.2.1 dX4_faultOf_112 (lv_at hl 0 rfl) ?_
                replace hg_24 := ob_e hg_24
                obtain ⟨r_30, h_29, hg_24⟩ := hg_24
                refine k_Vi (k := 1) (As := [.int x_20]) X hl.1 hw (c_X2_hasLink h_29) (by decide) (he_X2 g h _ _) rfl ⟨wq_44_16, wq_9_1, wq_9_2, wq_1_14, wq_9_3⟩ yo_X2_hasLink rfl ⟨Nat.le_of_ble_eq_true rfl, Nat.le_of_ble_eq_true rfl⟩ (Nat.le_of_ble_eq_true rfl) dX4_faultOf_114 (fun H locs hw => ?_)
                obtain rfl := Option.some.inj hg_24
                exact J_25 _ _ _ hw (lv_sub hl [] rfl)
              · replace hg_24 := it_p hg_24 c_28
                refine lv_aload_n X.1 X.2.1 dX4_faultOf_95 rfl (lv_at hl 3 rfl) ?_
                refine gX4_net X hw wq_4_21 dX4_faultOf_96 ?_
                refine lv_iload X.1 X.2.1 dX4_faultOf_99 (lv_at hl 0 rfl) ?_
                refine lv_i2l X.1 X.2.1 dX4_faultOf_101 rfl ?_
                replace hg_24 := ob_e hg_24
                obtain ⟨r_32, h_31, hg_24⟩ := hg_24
                refine k_Vi (k := 1) (As := [.long x_20.toInt64]) X hl.1 hw (c_X2_hasStation h_31) (by decide) (he_X2 g h _ _) rfl ⟨wq_44_15, wq_7_17, wq_7_18, wq_1_14, wq_7_19⟩ yo_X2_hasStation rfl ⟨Nat.le_of_ble_eq_true rfl, Nat.le_of_ble_eq_true rfl⟩ (Nat.le_of_ble_eq_true rfl) dX4_faultOf_102 (fun H locs hw => ?_)
                refine lv_goto (tgt := 117) X.1 X.2.1 dX4_faultOf_105 (by decide) ?_
                obtain rfl := Option.some.inj hg_24
                exact J_25 _ _ _ hw (lv_sub hl [] rfl)
          · replace hg_9 := it_p hg_9 c_17
            refine lv_iconst (v := 2) X.1 X.2.1 dX4_faultOf_71 (by decide) ?_
            obtain rfl := Option.some.inj hg_9
            replace hm := ex_r hm
            obtain rfl := Option.some.inj hm
            exact hret _ _ _ _ hw dX4_faultOf_72
      · replace hg_9 := it_p hg_9 c_11
        exact J_10 (Option.some.inj hg_9).symm _ _ _ hw (lv_sub hl [4, 1] rfl)
  · replace hm := it_p hm c_6
    refine lv_iconst (v := 1) X.1 X.2.1 dX4_faultOf_22 (by decide) ?_
    obtain rfl := Option.some.inj hm
    exact hret _ _ _ _ hw dX4_faultOf_23
def m_X4_lookThrough_L9 (σ : Int32 × Int32 × ST) : Option ((Int32 × Int32 × ST) ⊕ ((Int32 × ST) ⊕ (Int32 × ST))) := (fun (q_27 : Int32 × Int32 × ST) => un q_27 (fun y_2 q_27 => un q_27 (fun y_3 b_4 => if (60 : Int32) ≤ y_2 then some (.inr (.inl (y_2, b_4))) else if (b_4.1 7) ≤ 0 then some (.inr (.inl (y_2, b_4))) else if (b_4.1 7) < y_3 then some (.inr (.inl (y_2, b_4))) else Option.bind (m_X4_endFrom b_4 y_3) (fun (r_19 : Int32) => Option.bind (m_X4_faultOf b_4 y_3 r_19) (fun (r_21 : Int32) => lt (wI b_4 8 r_21) (fun b_22 => if (b_22.1 8) = 0 then lt (y_2 + 1) (fun x_24 => lt (r_19 + (1 : Int32)) (fun x_25 => some (.inl (x_24, x_25, b_22)))) else some (.inr (.inr (y_2, b_22))))))))) σ
def m_X4_lookThrough (b : ST) : Option (Int32 × ST) := lt (wI b 8 (0 : Int32)) (fun b_1 => Option.bind (vLoop (m_X4_lookThrough_L9) FUEL ((0 : Int32), (0 : Int32), b_1)) (fun z => ex z (fun (q_29 : Int32 × ST) => un q_29 (fun j_5 b_6 => some (j_5, b_6))) (fun r_30 => some r_30)))
theorem yo_X4_lookThrough : yX4_lookThrough.cls = RX4 ∧ yX4_lookThrough.cls ≠ "java/lang/invoke/MethodHandle" ∧ yX4_lookThrough.cls ≠ "java/lang/invoke/VarHandle" ∧ (parseMethodDescriptor yX4_lookThrough.desc).map (fun d => d.parameters.length) = some 0 := by decide +kernel
set_option maxHeartbeats 4000000 in
set_option maxRecDepth 100000 in
theorem c_X4_lookThrough {l : Launch} {g : gT} {h : Nat → Nat} {b : ST} {w : Nat → ST} {r : Int32} {b' : ST} (hm : m_X4_lookThrough b = some (r, b')) : MetI l g yX4_lookThrough cX4_lookThrough 4 (some .int) 7 157 79 h (cC g h (b, w)) (cC g h (b', w)) [.ref (h 16)] r := by
  refine MetI.ofX (by decide +kernel) (Nat.le_of_ble_eq_true rfl) ?_
  intro p e s m below meth c AV Q X hret ls hw hl
  replace X : Cx g p s m AV c cX4_lookThrough RX4 4 := X
  replace hl : lv_has ls 4 [(0, .ref (h 16))] := hl
  unfold m_X4_lookThrough at hm
  refine lv_iconst (v := 0) X.1 X.2.1 dX4_lookThrough_0 (by decide) ?_
  refine lv_istore_n (lv' := [(1, .int (0 : Int32)), (0, .ref (h 16))]) X.1 X.2.1 dX4_lookThrough_1 rfl hl (by decide) rfl (fun ls hl => ?_)
  refine lv_iconst (v := 0) X.1 X.2.1 dX4_lookThrough_2 (by decide) ?_
  refine lv_istore_n (lv' := [(2, .int (0 : Int32)), (1, .int (0 : Int32)), (0, .ref (h 16))]) X.1 X.2.1 dX4_lookThrough_3 rfl hl (by decide) rfl (fun ls hl => ?_)
  refine lv_aload_n X.1 X.2.1 dX4_lookThrough_4 rfl (lv_at hl 2 rfl) ?_
  refine lv_iconst (v := 0) X.1 X.2.1 dX4_lookThrough_5 (by decide) ?_
  refine pX4_fault X hw wq_41_6 dX4_lookThrough_6 (fun H locs hw => ?_)
  obtain ⟨b_1, eb_1⟩ : ∃ y, y = wI b 8 (0 : Int32) := ⟨_, rfl⟩
  rw [← eb_1] at hw
  replace hm := lt_e hm eb_1
  replace hm := ob_e hm
  obtain ⟨z_28, hL_13, hm⟩ := hm
  have J_12 : ∀ (j_5 : Int32) (b_6 : ST), z_28 = .inl (j_5, b_6) → ∀ (H : Heap) (locs : List Loc) (ls : Array Slot), Wd g 79 h (cC g h (b_6, w)) s H locs → lv_has ls 4 [(1, .int j_5)] → W p l e (rW 7 157) s m AV below meth c H locs 0 0 Q (F0 m 65 ls []) := by
    intro j_5 b_6 hj
    subst hj
    replace hm := ex_l hm
    replace hm := un_e hm
    intro H locs ls hw hl
    refine lv_iload_n X.1 X.2.1 dX4_lookThrough_65 rfl (lv_at hl 0 rfl) ?_
    obtain ⟨rfl, rfl⟩ := Prod.mk.inj (Option.some.inj hm)
    exact hret _ _ _ _ hw dX4_lookThrough_66
  refine vLoop_ind (B := (m_X4_lookThrough_L9)) (fun σ => ∀ (H : Heap) (locs : List Loc) (ls : Array Slot), Wd g 79 h (cC g h (σ.2.2, w)) s H locs → lv_has ls 4 [(0, .ref (h 16)), (1, .int σ.1), (2, .int σ.2.1)] → W p l e (rW 7 157) s m AV below meth c H locs 0 0 Q (F0 m 9 ls [])) (fun z' => z' = z_28) ?_ FUEL _ _ hL_13 rfl _ _ _ hw (lv_sub hl [2, 1, 0] rfl)
  intro σ z_11 hz_8 hn_9 hx_10
  obtain ⟨y_2, y_3, b_4⟩ := σ
  intro H locs ls hw hl
  replace hw : Wd g 79 h (cC g h (b_4, w)) s H locs := hw
  replace hl : lv_has ls 4 [(0, .ref (h 16)), (1, .int y_2), (2, .int y_3)] := hl
  unfold m_X4_lookThrough_L9 at hz_8
  replace hz_8 := un_e hz_8
  replace hz_8 := un_e hz_8
  refine lv_iload_n X.1 X.2.1 dX4_lookThrough_9 rfl (lv_at hl 1 rfl) ?_
  refine lv_bipush (v := 60) X.1 X.2.1 dX4_lookThrough_10 (by decide) ?_
  refine lv_icmp_ge (tgt := 65) X.1 X.2.1 dX4_lookThrough_12 (by decide) (fun c_15 => ?_) (fun c_15 => ?_)
  · replace hz_8 := it_p hz_8 c_15
    have he_14 := hx_10 _ (Option.some.inj hz_8).symm
    exact J_12 _ _ he_14.symm _ _ _ hw (lv_sub hl [1] rfl)
  · replace hz_8 := it_n hz_8 c_15
    refine lv_aload_n X.1 X.2.1 dX4_lookThrough_15 rfl (lv_at hl 0 rfl) ?_
    refine gX4_length X hw wq_39_23 dX4_lookThrough_16 ?_
    refine lv_if_le (tgt := 65) X.1 X.2.1 dX4_lookThrough_19 (by decide) (fun c_16 => ?_) (fun c_16 => ?_)
    · replace hz_8 := it_p hz_8 c_16
      have he_14 := hx_10 _ (Option.some.inj hz_8).symm
      exact J_12 _ _ he_14.symm _ _ _ hw (lv_sub hl [1] rfl)
    · replace hz_8 := it_n hz_8 c_16
      refine lv_iload_n X.1 X.2.1 dX4_lookThrough_22 rfl (lv_at hl 2 rfl) ?_
      refine lv_aload_n X.1 X.2.1 dX4_lookThrough_23 rfl (lv_at hl 0 rfl) ?_
      refine gX4_length X hw wq_39_23 dX4_lookThrough_24 ?_
      refine lv_icmp_gt (tgt := 65) X.1 X.2.1 dX4_lookThrough_27 (by decide) (fun c_17 => ?_) (fun c_17 => ?_)
      · replace hz_8 := it_p hz_8 c_17
        have he_14 := hx_10 _ (Option.some.inj hz_8).symm
        exact J_12 _ _ he_14.symm _ _ _ hw (lv_sub hl [1] rfl)
      · replace hz_8 := it_n hz_8 c_17
        refine lv_aload_n X.1 X.2.1 dX4_lookThrough_30 rfl (lv_at hl 0 rfl) ?_
        refine lv_iload_n X.1 X.2.1 dX4_lookThrough_31 rfl (lv_at hl 2 rfl) ?_
        replace hz_8 := ob_e hz_8
        obtain ⟨r_19, h_18, hz_8⟩ := hz_8
        refine k_Vi (k := 16) (As := [.int y_3]) X hl.1 hw (c_X4_endFrom h_18) (by decide) (he_X4 g h _ _) rfl ⟨wq_41_11, wq_41_12, wq_41_13, wq_2_10, wq_41_14⟩ yo_X4_endFrom rfl ⟨Nat.le_of_ble_eq_true rfl, Nat.le_of_ble_eq_true rfl⟩ (Nat.le_of_ble_eq_true rfl) dX4_lookThrough_32 (fun H locs hw => ?_)
        refine lv_istore_n (lv' := [(3, .int r_19), (0, .ref (h 16)), (1, .int y_2), (2, .int y_3)]) X.1 X.2.1 dX4_lookThrough_35 rfl hl (by decide) rfl (fun ls hl => ?_)
        refine lv_aload_n X.1 X.2.1 dX4_lookThrough_36 rfl (lv_at hl 1 rfl) ?_
        refine lv_aload_n X.1 X.2.1 dX4_lookThrough_37 rfl (lv_at hl 1 rfl) ?_
        refine lv_iload_n X.1 X.2.1 dX4_lookThrough_38 rfl (lv_at hl 3 rfl) ?_
        refine lv_iload_n X.1 X.2.1 dX4_lookThrough_39 rfl (lv_at hl 0 rfl) ?_
        replace hz_8 := ob_e hz_8
        obtain ⟨r_21, h_20, hz_8⟩ := hz_8
        refine k_Vi (k := 16) (As := [.int y_3, .int r_19]) X hl.1 hw (c_X4_faultOf h_20) (by decide) (he_X4 g h _ _) rfl ⟨wq_41_19, wq_41_20, wq_41_21, wq_2_10, wq_41_22⟩ yo_X4_faultOf rfl ⟨Nat.le_of_ble_eq_true rfl, Nat.le_of_ble_eq_true rfl⟩ (Nat.le_of_ble_eq_true rfl) dX4_lookThrough_40 (fun H locs hw => ?_)
        refine pX4_fault X hw wq_41_6 dX4_lookThrough_43 (fun H locs hw => ?_)
        obtain ⟨b_22, eb_22⟩ : ∃ y, y = wI b_4 8 r_21 := ⟨_, rfl⟩
        rw [← eb_22] at hw
        replace hz_8 := lt_e hz_8 eb_22
        refine lv_aload_n X.1 X.2.1 dX4_lookThrough_46 rfl (lv_at hl 1 rfl) ?_
        refine gX4_fault X hw wq_41_6 dX4_lookThrough_47 ?_
        refine lv_if_eq (tgt := 55) X.1 X.2.1 dX4_lookThrough_50 (by decide) (fun c_23 => ?_) (fun c_23 => ?_)
        · replace hz_8 := it_p hz_8 c_23
          obtain ⟨x_24, ex_24⟩ : ∃ y : Int32, y = y_2 + 1 := ⟨_, rfl⟩
          replace hz_8 := lt_e hz_8 ex_24
          refine lv_iinc (v := x_24) (lv' := [(1, .int x_24), (3, .int r_19), (0, .ref (h 16)), (2, .int y_3)]) X.1 X.2.1 dX4_lookThrough_55 hl (k := 2) rfl (by rw [ex_24]; rfl) (by decide) rfl (fun ls hl => ?_)
          refine lv_iload_n X.1 X.2.1 dX4_lookThrough_58 rfl (lv_at hl 1 rfl) ?_
          refine lv_iconst (v := 1) X.1 X.2.1 dX4_lookThrough_59 (by decide) ?_
          refine lv_iadd X.1 X.2.1 dX4_lookThrough_60 ?_
          refine lv_topi (fun x_25 ex_25 => ?_)
          replace hz_8 := lt_e hz_8 ex_25
          refine lv_istore_n (lv' := [(2, .int x_25), (1, .int x_24), (3, .int r_19), (0, .ref (h 16))]) X.1 X.2.1 dX4_lookThrough_61 rfl hl (by decide) rfl (fun ls hl => ?_)
          refine lv_goto (tgt := 9) X.1 X.2.1 dX4_lookThrough_62 (by decide) ?_
          exact hn_9 _ (Option.some.inj hz_8).symm _ _ _ hw (lv_sub hl [3, 1, 0] rfl)
        · replace hz_8 := it_n hz_8 c_23
          refine lv_iload_n X.1 X.2.1 dX4_lookThrough_53 rfl (lv_at hl 2 rfl) ?_
          have he_14 := hx_10 _ (Option.some.inj hz_8).symm
          subst he_14
          replace hm := ex_r hm
          obtain ⟨rfl, rfl⟩ := Prod.mk.inj (Option.some.inj hm)
          exact hret _ _ _ _ hw dX4_lookThrough_54
def m_X4_act (b : ST) (x1 : Int32) (x2 : Int32) : Option (ST) := Option.bind (m_X4_byteAt b ((x2 - (1 : Int32)))) (fun (r_2 : Int32) => lt (r_2 - (48 : Int32)) (fun x_3 => Option.bind (m_X4_wordLength b x1 x2) (fun (r_5 : Int32) => Option.bind (m_X4_wordOf b x1 (x1 + r_5)) (fun (r_7 : Int32) => if r_7 = 1 then Option.bind (m_X2_setSeen b x_3 (1 : Int32)) (fun (b_10 : ST) => some b_10) else (if r_7 = 2 then Option.bind (m_X2_setSeen b x_3 (2 : Int32)) (fun (b_13 : ST) => some b_13) else (if r_7 = 3 then Option.bind (m_X2_setSeen b x_3 (0 : Int32)) (fun (b_16 : ST) => some b_16) else (if r_7 = 4 then Option.bind (m_X2_goalBits b) (fun (r_19 : Int32) => Option.bind (m_X2_setGoals b ((r_19 ^^^ ((1 : Int32) <<< (x_3 &&& 31))))) (fun (b_21 : ST) => some b_21)) else (if r_7 = 5 then Option.bind (m_X2_setSource b x_3) (fun (b_24 : ST) => some b_24) else (if r_7 = 6 then Option.bind (m_X2_allStations b) (fun (r_27 : Int32) => Option.bind (m_X2_setGoals b r_27) (fun (b_29 : ST) => some b_29)) else (if r_7 = 7 then Option.bind (m_X2_setGoals b (0 : Int32)) (fun (b_32 : ST) => some b_32) else (some b)))))))))))
theorem yo_X4_act : yX4_act.cls = RX4 ∧ yX4_act.cls ≠ "java/lang/invoke/MethodHandle" ∧ yX4_act.cls ≠ "java/lang/invoke/VarHandle" ∧ (parseMethodDescriptor yX4_act.desc).map (fun d => d.parameters.length) = some 2 := by decide +kernel
set_option maxHeartbeats 4000000 in
set_option maxRecDepth 100000 in
theorem c_X4_act {l : Launch} {g : gT} {h : Nat → Nat} {b : ST} {w : Nat → ST} {x1 : Int32} {x2 : Int32} {b' : ST} (hm : m_X4_act b x1 x2 = some (b')) : MetV l g yX4_act cX4_act 4 none 6 131 79 h (cC g h (b, w)) (cC g h (b', w)) [.ref (h 16), .int x1, .int x2] := by
  refine MetV.ofX (by decide +kernel) (Nat.le_of_ble_eq_true rfl) ?_
  intro p e s m below meth c AV Q X hret ls hw hl
  replace X : Cx g p s m AV c cX4_act RX4 4 := X
  replace hl : lv_has ls 4 [(0, .ref (h 16)), (1, .int x1), (2, .int x2)] := hl
  unfold m_X4_act at hm
  refine lv_aload_n X.1 X.2.1 dX4_act_0 rfl (lv_at hl 0 rfl) ?_
  refine lv_iload_n X.1 X.2.1 dX4_act_1 rfl (lv_at hl 2 rfl) ?_
  refine lv_iconst (v := 1) X.1 X.2.1 dX4_act_2 (by decide) ?_
  refine lv_isub X.1 X.2.1 dX4_act_3 ?_
  replace hm := ob_e hm
  obtain ⟨r_2, h_1, hm⟩ := hm
  refine k_Vi (k := 16) (As := [.int (x2 - (1 : Int32))]) X hl.1 hw (c_X4_byteAt h_1) (by decide) (he_X4 g h _ _) rfl ⟨wq_41_15, wq_41_16, wq_41_17, wq_2_10, wq_41_18⟩ yo_X4_byteAt rfl ⟨Nat.le_of_ble_eq_true rfl, Nat.le_of_ble_eq_true rfl⟩ (Nat.le_of_ble_eq_true rfl) dX4_act_4 (fun H locs hw => ?_)
  refine lv_bipush (v := 48) X.1 X.2.1 dX4_act_7 (by decide) ?_
  refine lv_isub X.1 X.2.1 dX4_act_9 ?_
  refine lv_topi (fun x_3 ex_3 => ?_)
  replace hm := lt_e hm ex_3
  refine lv_istore_n (lv' := [(3, .int x_3), (0, .ref (h 16)), (1, .int x1), (2, .int x2)]) X.1 X.2.1 dX4_act_10 rfl hl (by decide) rfl (fun ls hl => ?_)
  refine lv_aload_n X.1 X.2.1 dX4_act_11 rfl (lv_at hl 1 rfl) ?_
  refine lv_iload_n X.1 X.2.1 dX4_act_12 rfl (lv_at hl 2 rfl) ?_
  refine lv_iload_n X.1 X.2.1 dX4_act_13 rfl (lv_at hl 2 rfl) ?_
  refine lv_aload_n X.1 X.2.1 dX4_act_14 rfl (lv_at hl 1 rfl) ?_
  refine lv_iload_n X.1 X.2.1 dX4_act_15 rfl (lv_at hl 2 rfl) ?_
  refine lv_iload_n X.1 X.2.1 dX4_act_16 rfl (lv_at hl 3 rfl) ?_
  replace hm := ob_e hm
  obtain ⟨r_5, h_4, hm⟩ := hm
  refine k_Vi (k := 16) (As := [.int x1, .int x2]) X hl.1 hw (c_X4_wordLength h_4) (by decide) (he_X4 g h _ _) rfl ⟨wq_41_23, wq_42_0, wq_42_1, wq_2_10, wq_42_2⟩ yo_X4_wordLength rfl ⟨Nat.le_of_ble_eq_true rfl, Nat.le_of_ble_eq_true rfl⟩ (Nat.le_of_ble_eq_true rfl) dX4_act_17 (fun H locs hw => ?_)
  refine lv_iadd X.1 X.2.1 dX4_act_20 ?_
  replace hm := ob_e hm
  obtain ⟨r_7, h_6, hm⟩ := hm
  refine k_Vi (k := 16) (As := [.int x1, .int (x1 + r_5)]) X hl.1 hw (c_X4_wordOf h_6) (by decide) (he_X4 g h _ _) rfl ⟨wq_42_6, wq_42_7, wq_42_8, wq_2_10, wq_42_9⟩ yo_X4_wordOf rfl ⟨Nat.le_of_ble_eq_true rfl, Nat.le_of_ble_eq_true rfl⟩ (Nat.le_of_ble_eq_true rfl) dX4_act_21 (fun H locs hw => ?_)
  by_cases c_8 : r_7 = 1
  · replace hm := it_p hm c_8
    refine x_tab X c_8 dX4_act_24 (off := 44) (tgt := 68) (by decide) (by decide) rfl (by decide) ?_
    refine lv_aload_n X.1 X.2.1 dX4_act_68 rfl (lv_at hl 1 rfl) ?_
    refine gX4_net X hw wq_4_21 dX4_act_69 ?_
    refine lv_iload_n X.1 X.2.1 dX4_act_72 rfl (lv_at hl 0 rfl) ?_
    refine lv_iconst (v := 1) X.1 X.2.1 dX4_act_73 (by decide) ?_
    replace hm := ob_e hm
    obtain ⟨b_10, h_9, hm⟩ := hm
    refine k_Vv (k := 1) (As := [.int x_3, .int (1 : Int32)]) X hl.1 hw (c_X2_setSeen h_9) (by decide) (he_X2 g h _ _) rfl ⟨wq_44_21, wq_12_13, wq_12_14, wq_1_14, wq_12_15⟩ yo_X2_setSeen rfl ⟨Nat.le_of_ble_eq_true rfl, Nat.le_of_ble_eq_true rfl⟩ (Nat.le_of_ble_eq_true rfl) dX4_act_74 (fun H locs hw => ?_)
    refine lv_goto (tgt := 164) X.1 X.2.1 dX4_act_77 (by decide) ?_
    obtain rfl := Option.some.inj hm
    exact hret _ _ _ _ hw dX4_act_164
  · replace hm := it_n hm c_8
    by_cases c_11 : r_7 = 2
    · replace hm := it_p hm c_11
      refine x_tab X c_11 dX4_act_24 (off := 56) (tgt := 80) (by decide) (by decide) rfl (by decide) ?_
      refine lv_aload_n X.1 X.2.1 dX4_act_80 rfl (lv_at hl 1 rfl) ?_
      refine gX4_net X hw wq_4_21 dX4_act_81 ?_
      refine lv_iload_n X.1 X.2.1 dX4_act_84 rfl (lv_at hl 0 rfl) ?_
      refine lv_iconst (v := 2) X.1 X.2.1 dX4_act_85 (by decide) ?_
      replace hm := ob_e hm
      obtain ⟨b_13, h_12, hm⟩ := hm
      refine k_Vv (k := 1) (As := [.int x_3, .int (2 : Int32)]) X hl.1 hw (c_X2_setSeen h_12) (by decide) (he_X2 g h _ _) rfl ⟨wq_44_21, wq_12_13, wq_12_14, wq_1_14, wq_12_15⟩ yo_X2_setSeen rfl ⟨Nat.le_of_ble_eq_true rfl, Nat.le_of_ble_eq_true rfl⟩ (Nat.le_of_ble_eq_true rfl) dX4_act_86 (fun H locs hw => ?_)
      refine lv_goto (tgt := 164) X.1 X.2.1 dX4_act_89 (by decide) ?_
      obtain rfl := Option.some.inj hm
      exact hret _ _ _ _ hw dX4_act_164
    · replace hm := it_n hm c_11
      by_cases c_14 : r_7 = 3
      · replace hm := it_p hm c_14
        refine x_tab X c_14 dX4_act_24 (off := 68) (tgt := 92) (by decide) (by decide) rfl (by decide) ?_
        refine lv_aload_n X.1 X.2.1 dX4_act_92 rfl (lv_at hl 1 rfl) ?_
        refine gX4_net X hw wq_4_21 dX4_act_93 ?_
        refine lv_iload_n X.1 X.2.1 dX4_act_96 rfl (lv_at hl 0 rfl) ?_
        refine lv_iconst (v := 0) X.1 X.2.1 dX4_act_97 (by decide) ?_
        replace hm := ob_e hm
        obtain ⟨b_16, h_15, hm⟩ := hm
        refine k_Vv (k := 1) (As := [.int x_3, .int (0 : Int32)]) X hl.1 hw (c_X2_setSeen h_15) (by decide) (he_X2 g h _ _) rfl ⟨wq_44_21, wq_12_13, wq_12_14, wq_1_14, wq_12_15⟩ yo_X2_setSeen rfl ⟨Nat.le_of_ble_eq_true rfl, Nat.le_of_ble_eq_true rfl⟩ (Nat.le_of_ble_eq_true rfl) dX4_act_98 (fun H locs hw => ?_)
        refine lv_goto (tgt := 164) X.1 X.2.1 dX4_act_101 (by decide) ?_
        obtain rfl := Option.some.inj hm
        exact hret _ _ _ _ hw dX4_act_164
      · replace hm := it_n hm c_14
        by_cases c_17 : r_7 = 4
        · replace hm := it_p hm c_17
          refine x_tab X c_17 dX4_act_24 (off := 80) (tgt := 104) (by decide) (by decide) rfl (by decide) ?_
          refine lv_aload_n X.1 X.2.1 dX4_act_104 rfl (lv_at hl 1 rfl) ?_
          refine gX4_net X hw wq_4_21 dX4_act_105 ?_
          refine lv_aload_n X.1 X.2.1 dX4_act_108 rfl (lv_at hl 1 rfl) ?_
          refine gX4_net X hw wq_4_21 dX4_act_109 ?_
          replace hm := ob_e hm
          obtain ⟨r_19, h_18, hm⟩ := hm
          refine k_Vi (k := 1) (As := []) X hl.1 hw (c_X2_goalBits h_18) (by decide) (he_X2 g h _ _) rfl ⟨wq_44_22, wq_13_22, wq_13_23, wq_1_14, wq_14_0⟩ yo_X2_goalBits rfl ⟨Nat.le_of_ble_eq_true rfl, Nat.le_of_ble_eq_true rfl⟩ (Nat.le_of_ble_eq_true rfl) dX4_act_112 (fun H locs hw => ?_)
          refine lv_iconst (v := 1) X.1 X.2.1 dX4_act_115 (by decide) ?_
          refine lv_iload_n X.1 X.2.1 dX4_act_116 rfl (lv_at hl 0 rfl) ?_
          refine lv_ishl X.1 X.2.1 dX4_act_117 ?_
          refine lv_ixor X.1 X.2.1 dX4_act_118 ?_
          replace hm := ob_e hm
          obtain ⟨b_21, h_20, hm⟩ := hm
          refine k_Vv (k := 1) (As := [.int (r_19 ^^^ ((1 : Int32) <<< (x_3 &&& 31)))]) X hl.1 hw (c_X2_setGoals h_20) (by decide) (he_X2 g h _ _) rfl ⟨wq_44_23, wq_14_2, wq_14_3, wq_1_14, wq_14_4⟩ yo_X2_setGoals rfl ⟨Nat.le_of_ble_eq_true rfl, Nat.le_of_ble_eq_true rfl⟩ (Nat.le_of_ble_eq_true rfl) dX4_act_119 (fun H locs hw => ?_)
          refine lv_goto (tgt := 164) X.1 X.2.1 dX4_act_122 (by decide) ?_
          obtain rfl := Option.some.inj hm
          exact hret _ _ _ _ hw dX4_act_164
        · replace hm := it_n hm c_17
          by_cases c_22 : r_7 = 5
          · replace hm := it_p hm c_22
            refine x_tab X c_22 dX4_act_24 (off := 101) (tgt := 125) (by decide) (by decide) rfl (by decide) ?_
            refine lv_aload_n X.1 X.2.1 dX4_act_125 rfl (lv_at hl 1 rfl) ?_
            refine gX4_net X hw wq_4_21 dX4_act_126 ?_
            refine lv_iload_n X.1 X.2.1 dX4_act_129 rfl (lv_at hl 0 rfl) ?_
            replace hm := ob_e hm
            obtain ⟨b_24, h_23, hm⟩ := hm
            refine k_Vv (k := 1) (As := [.int x_3]) X hl.1 hw (c_X2_setSource h_23) (by decide) (he_X2 g h _ _) rfl ⟨wq_45_0, wq_13_6, wq_13_7, wq_1_14, wq_13_8⟩ yo_X2_setSource rfl ⟨Nat.le_of_ble_eq_true rfl, Nat.le_of_ble_eq_true rfl⟩ (Nat.le_of_ble_eq_true rfl) dX4_act_130 (fun H locs hw => ?_)
            refine lv_goto (tgt := 164) X.1 X.2.1 dX4_act_133 (by decide) ?_
            obtain rfl := Option.some.inj hm
            exact hret _ _ _ _ hw dX4_act_164
          · replace hm := it_n hm c_22
            by_cases c_25 : r_7 = 6
            · replace hm := it_p hm c_25
              refine x_tab X c_25 dX4_act_24 (off := 112) (tgt := 136) (by decide) (by decide) rfl (by decide) ?_
              refine lv_aload_n X.1 X.2.1 dX4_act_136 rfl (lv_at hl 1 rfl) ?_
              refine gX4_net X hw wq_4_21 dX4_act_137 ?_
              refine lv_aload_n X.1 X.2.1 dX4_act_140 rfl (lv_at hl 1 rfl) ?_
              refine gX4_net X hw wq_4_21 dX4_act_141 ?_
              replace hm := ob_e hm
              obtain ⟨r_27, h_26, hm⟩ := hm
              refine k_Vi (k := 1) (As := []) X hl.1 hw (c_X2_allStations h_26) (by decide) (he_X2 g h _ _) rfl ⟨wq_45_1, wq_13_18, wq_13_19, wq_1_14, wq_13_20⟩ yo_X2_allStations rfl ⟨Nat.le_of_ble_eq_true rfl, Nat.le_of_ble_eq_true rfl⟩ (Nat.le_of_ble_eq_true rfl) dX4_act_144 (fun H locs hw => ?_)
              replace hm := ob_e hm
              obtain ⟨b_29, h_28, hm⟩ := hm
              refine k_Vv (k := 1) (As := [.int r_27]) X hl.1 hw (c_X2_setGoals h_28) (by decide) (he_X2 g h _ _) rfl ⟨wq_44_23, wq_14_2, wq_14_3, wq_1_14, wq_14_4⟩ yo_X2_setGoals rfl ⟨Nat.le_of_ble_eq_true rfl, Nat.le_of_ble_eq_true rfl⟩ (Nat.le_of_ble_eq_true rfl) dX4_act_147 (fun H locs hw => ?_)
              refine lv_goto (tgt := 164) X.1 X.2.1 dX4_act_150 (by decide) ?_
              obtain rfl := Option.some.inj hm
              exact hret _ _ _ _ hw dX4_act_164
            · replace hm := it_n hm c_25
              by_cases c_30 : r_7 = 7
              · replace hm := it_p hm c_30
                refine x_tab X c_30 dX4_act_24 (off := 129) (tgt := 153) (by decide) (by decide) rfl (by decide) ?_
                refine lv_aload_n X.1 X.2.1 dX4_act_153 rfl (lv_at hl 1 rfl) ?_
                refine gX4_net X hw wq_4_21 dX4_act_154 ?_
                refine lv_iconst (v := 0) X.1 X.2.1 dX4_act_157 (by decide) ?_
                replace hm := ob_e hm
                obtain ⟨b_32, h_31, hm⟩ := hm
                refine k_Vv (k := 1) (As := [.int (0 : Int32)]) X hl.1 hw (c_X2_setGoals h_31) (by decide) (he_X2 g h _ _) rfl ⟨wq_44_23, wq_14_2, wq_14_3, wq_1_14, wq_14_4⟩ yo_X2_setGoals rfl ⟨Nat.le_of_ble_eq_true rfl, Nat.le_of_ble_eq_true rfl⟩ (Nat.le_of_ble_eq_true rfl) dX4_act_158 (fun H locs hw => ?_)
                refine lv_goto (tgt := 164) X.1 X.2.1 dX4_act_161 (by decide) ?_
                obtain rfl := Option.some.inj hm
                exact hret _ _ _ _ hw dX4_act_164
              · replace hm := it_n hm c_30
                have tc_8 : ¬ r_7.toInt = 1 := lv_neT c_8 (k := 1) (by decide)
                have tc_11 : ¬ r_7.toInt = 2 := lv_neT c_11 (k := 2) (by decide)
                have tc_14 : ¬ r_7.toInt = 3 := lv_neT c_14 (k := 3) (by decide)
                have tc_17 : ¬ r_7.toInt = 4 := lv_neT c_17 (k := 4) (by decide)
                have tc_22 : ¬ r_7.toInt = 5 := lv_neT c_22 (k := 5) (by decide)
                have tc_25 : ¬ r_7.toInt = 6 := lv_neT c_25 (k := 6) (by decide)
                have tc_30 : ¬ r_7.toInt = 7 := lv_neT c_30 (k := 7) (by decide)
                refine lv_tableOut X.1 X.2.1 (tgt := 164) dX4_act_24 (by omega) (by decide) ?_
                obtain rfl := Option.some.inj hm
                exact hret _ _ _ _ hw dX4_act_164
def m_X4_run_L21 (r_2 : Int32) (σ : Int32 × Int32 × ST) : Option ((Int32 × Int32 × ST) ⊕ (ST)) := (fun (q_25 : Int32 × Int32 × ST) => un q_25 (fun y_6 q_25 => un q_25 (fun y_7 b_8 => if r_2 ≤ y_7 then some (.inr b_8) else Option.bind (m_X4_endFrom b_8 y_6) (fun (r_20 : Int32) => Option.bind (m_X4_act b_8 y_6 r_20) (fun (b_22 : ST) => lt (r_20 + (1 : Int32)) (fun x_23 => lt (y_7 + 1) (fun x_24 => some (.inl (x_23, x_24, b_22))))))))) σ
def m_X4_run (b : ST) : Option (Int32 × ST) := Option.bind (m_X4_lookThrough b) (fun (q_4 : Int32 × ST) => un q_4 (fun r_2 b_3 => if (b_3.1 8) = 0 then Option.bind (vLoop (m_X4_run_L21 r_2) FUEL ((0 : Int32), (0 : Int32), b_3)) (fun (b_9 : ST) => some (r_2, b_9)) else some (((-100 : Int32) - r_2), b_3)))
theorem yo_X4_run : yX4_run.cls = RX4 ∧ yX4_run.cls ≠ "java/lang/invoke/MethodHandle" ∧ yX4_run.cls ≠ "java/lang/invoke/VarHandle" ∧ (parseMethodDescriptor yX4_run.desc).map (fun d => d.parameters.length) = some 0 := by decide +kernel
set_option maxHeartbeats 4000000 in
set_option maxRecDepth 100000 in
theorem c_X4_run {l : Launch} {g : gT} {h : Nat → Nat} {b : ST} {w : Nat → ST} {r : Int32} {b' : ST} (hm : m_X4_run b = some (r, b')) : MetI l g yX4_run cX4_run 5 (some .int) 8 180 79 h (cC g h (b, w)) (cC g h (b', w)) [.ref (h 16)] r := by
  refine MetI.ofX (by decide +kernel) (Nat.le_of_ble_eq_true rfl) ?_
  intro p e s m below meth c AV Q X hret ls hw hl
  replace X : Cx g p s m AV c cX4_run RX4 5 := X
  replace hl : lv_has ls 5 [(0, .ref (h 16))] := hl
  unfold m_X4_run at hm
  refine lv_aload_n X.1 X.2.1 dX4_run_0 rfl (lv_at hl 0 rfl) ?_
  replace hm := ob_e hm
  obtain ⟨⟨r_2, b_3⟩, h_1, hm⟩ := hm
  replace hm := un_e hm
  refine k_Vi (k := 16) (As := []) X hl.1 hw (c_X4_lookThrough h_1) (by decide) (he_X4 g h _ _) rfl ⟨wq_41_7, wq_41_8, wq_41_9, wq_2_10, wq_41_10⟩ yo_X4_lookThrough rfl ⟨Nat.le_of_ble_eq_true rfl, Nat.le_of_ble_eq_true rfl⟩ (Nat.le_of_ble_eq_true rfl) dX4_run_1 (fun H locs hw => ?_)
  refine lv_istore_n (lv' := [(1, .int r_2), (0, .ref (h 16))]) X.1 X.2.1 dX4_run_4 rfl hl (by decide) rfl (fun ls hl => ?_)
  refine lv_aload_n X.1 X.2.1 dX4_run_5 rfl (lv_at hl 1 rfl) ?_
  refine gX4_fault X hw wq_41_6 dX4_run_6 ?_
  refine lv_if_eq (tgt := 17) X.1 X.2.1 dX4_run_9 (by decide) (fun c_5 => ?_) (fun c_5 => ?_)
  · replace hm := it_p hm c_5
    refine lv_iconst (v := 0) X.1 X.2.1 dX4_run_17 (by decide) ?_
    refine lv_istore_n (lv' := [(2, .int (0 : Int32)), (1, .int r_2), (0, .ref (h 16))]) X.1 X.2.1 dX4_run_18 rfl hl (by decide) rfl (fun ls hl => ?_)
    refine lv_iconst (v := 0) X.1 X.2.1 dX4_run_19 (by decide) ?_
    refine lv_istore_n (lv' := [(3, .int (0 : Int32)), (2, .int (0 : Int32)), (1, .int r_2), (0, .ref (h 16))]) X.1 X.2.1 dX4_run_20 rfl hl (by decide) rfl (fun ls hl => ?_)
    replace hm := ob_e hm
    obtain ⟨b_9, hL_16, hm⟩ := hm
    have J_15 : ∀ (H : Heap) (locs : List Loc) (ls : Array Slot), Wd g 79 h (cC g h (b_9, w)) s H locs → lv_has ls 5 [(1, .int r_2)] → W p l e (rW 8 180) s m AV below meth c H locs 0 0 Q (F0 m 51 ls []) := by
      intro H locs ls hw hl
      refine lv_iload_n X.1 X.2.1 dX4_run_51 rfl (lv_at hl 0 rfl) ?_
      obtain ⟨rfl, rfl⟩ := Prod.mk.inj (Option.some.inj hm)
      exact hret _ _ _ _ hw dX4_run_52
    refine vLoop_ind (B := (m_X4_run_L21 r_2)) (fun σ => ∀ (H : Heap) (locs : List Loc) (ls : Array Slot), Wd g 79 h (cC g h (σ.2.2, w)) s H locs → lv_has ls 5 [(0, .ref (h 16)), (1, .int r_2), (2, .int σ.1), (3, .int σ.2.1)] → W p l e (rW 8 180) s m AV below meth c H locs 0 0 Q (F0 m 21 ls [])) (fun z' => z' = b_9) ?_ FUEL _ _ hL_16 rfl _ _ _ hw (lv_sub hl [3, 2, 1, 0] rfl)
    intro σ z_14 hz_11 hn_12 hx_13
    obtain ⟨y_6, y_7, b_8⟩ := σ
    intro H locs ls hw hl
    replace hw : Wd g 79 h (cC g h (b_8, w)) s H locs := hw
    replace hl : lv_has ls 5 [(0, .ref (h 16)), (1, .int r_2), (2, .int y_6), (3, .int y_7)] := hl
    unfold m_X4_run_L21 at hz_11
    replace hz_11 := un_e hz_11
    replace hz_11 := un_e hz_11
    refine lv_iload_n X.1 X.2.1 dX4_run_21 rfl (lv_at hl 3 rfl) ?_
    refine lv_iload_n X.1 X.2.1 dX4_run_22 rfl (lv_at hl 1 rfl) ?_
    refine lv_icmp_ge (tgt := 51) X.1 X.2.1 dX4_run_23 (by decide) (fun c_18 => ?_) (fun c_18 => ?_)
    · replace hz_11 := it_p hz_11 c_18
      obtain rfl := hx_13 _ (Option.some.inj hz_11).symm
      exact J_15 _ _ _ hw (lv_sub hl [1] rfl)
    · replace hz_11 := it_n hz_11 c_18
      refine lv_aload_n X.1 X.2.1 dX4_run_26 rfl (lv_at hl 0 rfl) ?_
      refine lv_iload_n X.1 X.2.1 dX4_run_27 rfl (lv_at hl 2 rfl) ?_
      replace hz_11 := ob_e hz_11
      obtain ⟨r_20, h_19, hz_11⟩ := hz_11
      refine k_Vi (k := 16) (As := [.int y_6]) X hl.1 hw (c_X4_endFrom h_19) (by decide) (he_X4 g h _ _) rfl ⟨wq_41_11, wq_41_12, wq_41_13, wq_2_10, wq_41_14⟩ yo_X4_endFrom rfl ⟨Nat.le_of_ble_eq_true rfl, Nat.le_of_ble_eq_true rfl⟩ (Nat.le_of_ble_eq_true rfl) dX4_run_28 (fun H locs hw => ?_)
      refine lv_istore (lv' := [(4, .int r_20), (0, .ref (h 16)), (1, .int r_2), (2, .int y_6), (3, .int y_7)]) X.1 X.2.1 dX4_run_31 hl (by decide) rfl (fun ls hl => ?_)
      refine lv_aload_n X.1 X.2.1 dX4_run_33 rfl (lv_at hl 1 rfl) ?_
      refine lv_iload_n X.1 X.2.1 dX4_run_34 rfl (lv_at hl 3 rfl) ?_
      refine lv_iload X.1 X.2.1 dX4_run_35 (lv_at hl 0 rfl) ?_
      replace hz_11 := ob_e hz_11
      obtain ⟨b_22, h_21, hz_11⟩ := hz_11
      refine k_Vv (k := 16) (As := [.int y_6, .int r_20]) X hl.1 hw (c_X4_act h_21) (by decide) (he_X4 g h _ _) rfl ⟨wq_44_17, wq_44_18, wq_44_19, wq_2_10, wq_44_20⟩ yo_X4_act rfl ⟨Nat.le_of_ble_eq_true rfl, Nat.le_of_ble_eq_true rfl⟩ (Nat.le_of_ble_eq_true rfl) dX4_run_37 (fun H locs hw => ?_)
      refine lv_iload X.1 X.2.1 dX4_run_40 (lv_at hl 0 rfl) ?_
      refine lv_iconst (v := 1) X.1 X.2.1 dX4_run_42 (by decide) ?_
      refine lv_iadd X.1 X.2.1 dX4_run_43 ?_
      refine lv_topi (fun x_23 ex_23 => ?_)
      replace hz_11 := lt_e hz_11 ex_23
      refine lv_istore_n (lv' := [(2, .int x_23), (4, .int r_20), (0, .ref (h 16)), (1, .int r_2), (3, .int y_7)]) X.1 X.2.1 dX4_run_44 rfl hl (by decide) rfl (fun ls hl => ?_)
      obtain ⟨x_24, ex_24⟩ : ∃ y : Int32, y = y_7 + 1 := ⟨_, rfl⟩
      replace hz_11 := lt_e hz_11 ex_24
      refine lv_iinc (v := x_24) (lv' := [(3, .int x_24), (2, .int x_23), (4, .int r_20), (0, .ref (h 16)), (1, .int r_2)]) X.1 X.2.1 dX4_run_45 hl (k := 4) rfl (by rw [ex_24]; rfl) (by decide) rfl (fun ls hl => ?_)
      refine lv_goto (tgt := 21) X.1 X.2.1 dX4_run_48 (by decide) ?_
      exact hn_12 _ (Option.some.inj hz_11).symm _ _ _ hw (lv_sub hl [3, 4, 1, 0] rfl)
  · replace hm := it_n hm c_5
    refine lv_bipush (v := -100) X.1 X.2.1 dX4_run_12 (by decide) ?_
    refine lv_iload_n X.1 X.2.1 dX4_run_14 rfl (lv_at hl 0 rfl) ?_
    refine lv_isub X.1 X.2.1 dX4_run_15 ?_
    obtain ⟨rfl, rfl⟩ := Prod.mk.inj (Option.some.inj hm)
    exact hret _ _ _ _ hw dX4_run_16
