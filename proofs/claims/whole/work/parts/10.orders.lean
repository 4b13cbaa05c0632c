def m_X4_length (b : ST) : Option (Int32) := some (b.1 7)
theorem yo_X4_length : yX4_length.cls = RX4 ∧ yX4_length.cls ≠ "java/lang/invoke/MethodHandle" ∧ yX4_length.cls ≠ "java/lang/invoke/VarHandle" ∧ (parseMethodDescriptor yX4_length.desc).map (fun d => d.parameters.length) = some 0 := by decide +kernel
set_option maxHeartbeats 4000000 in
set_option maxRecDepth 100000 in
theorem c_X4_length {l : Launch} {g : gT} {h : Nat → Nat} {b : ST} {w : Nat → ST} {r : Int32} (hm : m_X4_length b = some r) : MetI l g yX4_length cX4_length 1 (some .int) 0 0 79 h (cC g h (b, w)) (cC g h (b, w)) [.ref (h 16)] r := by
  refine MetI.ofX (by decide +kernel) (Nat.le_of_ble_eq_true rfl) ?_
  intro p e s m below meth c AV Q X hret ls hw hl
  replace X : Cx g p s m AV c cX4_length RX4 1 := X
  replace hl : lv_has ls 1 [(0, .ref (h 16))] := hl
  unfold m_X4_length at hm
  refine lv_aload_n X.1 X.2.1 dX4_length_0 rfl (lv_at hl 0 rfl) ?_
  refine gX4_length X hw wq_39_23 dX4_length_1 ?_
  obtain rfl := Option.some.inj hm
  exact hret _ _ _ _ hw dX4_length_4
def m_X4_latestFault (b : ST) : Option (Int32) := some (b.1 8)
theorem yo_X4_latestFault : yX4_latestFault.cls = RX4 ∧ yX4_latestFault.cls ≠ "java/lang/invoke/MethodHandle" ∧ yX4_latestFault.cls ≠ "java/lang/invoke/VarHandle" ∧ (parseMethodDescriptor yX4_latestFault.desc).map (fun d => d.parameters.length) = some 0 := by decide +kernel
set_option maxHeartbeats 4000000 in
set_option maxRecDepth 100000 in
theorem c_X4_latestFault {l : Launch} {g : gT} {h : Nat → Nat} {b : ST} {w : Nat → ST} {r : Int32} (hm : m_X4_latestFault b = some r) : MetI l g yX4_latestFault cX4_latestFault 1 (some .int) 0 0 79 h (cC g h (b, w)) (cC g h (b, w)) [.ref (h 16)] r := by
  refine MetI.ofX (by decide +kernel) (Nat.le_of_ble_eq_true rfl) ?_
  intro p e s m below meth c AV Q X hret ls hw hl
  replace X : Cx g p s m AV c cX4_latestFault RX4 1 := X
  replace hl : lv_has ls 1 [(0, .ref (h 16))] := hl
  unfold m_X4_latestFault at hm
  refine lv_aload_n X.1 X.2.1 dX4_latestFault_0 rfl (lv_at hl 0 rfl) ?_
  refine gX4_fault X hw wq_41_6 dX4_latestFault_1 ?_
  obtain rfl := Option.some.inj hm
  exact hret _ _ _ _ hw dX4_latestFault_4
def m_X4_isFull (b : ST) : Option (Int32) := if (b.1 7) < (60 : Int32) then some (0 : Int32) else some (1 : Int32)
theorem yo_X4_isFull : yX4_isFull.cls = RX4 ∧ yX4_isFull.cls ≠ "java/lang/invoke/MethodHandle" ∧ yX4_isFull.cls ≠ "java/lang/invoke/VarHandle" ∧ (parseMethodDescriptor yX4_isFull.desc).map (fun d => d.parameters.length) = some 0 := by decide +kernel
set_option maxHeartbeats 4000000 in
set_option maxRecDepth 100000 in
theorem c_X4_isFull {l : Launch} {g : gT} {h : Nat → Nat} {b : ST} {w : Nat → ST} {r : Int32} (hm : m_X4_isFull b = some r) : MetI l g yX4_isFull cX4_isFull 1 (some .boolean) 0 0 79 h (cC g h (b, w)) (cC g h (b, w)) [.ref (h 16)] r := by
  refine MetZ.ofX (by decide +kernel) (Nat.le_of_ble_eq_true rfl) ?_
  intro p e s m below meth c AV Q X hret ls hw hl
  replace X : Cx g p s m AV c cX4_isFull RX4 1 := X
  replace hl : lv_has ls 1 [(0, .ref (h 16))] := hl
  unfold m_X4_isFull at hm
  refine lv_aload_n X.1 X.2.1 dX4_isFull_0 rfl (lv_at hl 0 rfl) ?_
  refine gX4_length X hw wq_39_23 dX4_isFull_1 ?_
  refine lv_bipush (v := 60) X.1 X.2.1 dX4_isFull_4 (by decide) ?_
  refine lv_icmp_lt (tgt := 13) X.1 X.2.1 dX4_isFull_6 (by decide) (fun c_1 => ?_) (fun c_1 => ?_)
  · replace hm := it_p hm c_1
    refine lv_iconst (v := 0) X.1 X.2.1 dX4_isFull_13 (by decide) ?_
    obtain rfl := Option.some.inj hm
    exact hret _ _ _ _ hw dX4_isFull_14 (Or.inl rfl)
  · replace hm := it_n hm c_1
    refine lv_iconst (v := 1) X.1 X.2.1 dX4_isFull_9 (by decide) ?_
    refine lv_goto (tgt := 14) X.1 X.2.1 dX4_isFull_10 (by decide) ?_
    obtain rfl := Option.some.inj hm
    exact hret _ _ _ _ hw dX4_isFull_14 (Or.inr rfl)
def m_X4_append (b : ST) (x1 : Int32) : Option (Int32 × ST) := if (b.1 7) < 0 then some ((b.1 7), b) else if (60 : Int32) ≤ (b.1 7) then some ((b.1 7), b) else lt (wI b 7 (((b.1 7) + (1 : Int32)))) (fun b_5 => gd (¬ ((b.1 7) < 0 ∨ 60 ≤ (b.1 7).toNatClampNeg)) (lt (wA b_5 6 (b.1 7).toNatClampNeg x1) (fun b_7 => some ((b_7.1 7), b_7))))
theorem yo_X4_append : yX4_append.cls = RX4 ∧ yX4_append.cls ≠ "java/lang/invoke/MethodHandle" ∧ yX4_append.cls ≠ "java/lang/invoke/VarHandle" ∧ (parseMethodDescriptor yX4_append.desc).map (fun d => d.parameters.length) = some 1 := by decide +kernel
set_option maxHeartbeats 4000000 in
set_option maxRecDepth 100000 in
theorem c_X4_append {l : Launch} {g : gT} {h : Nat → Nat} {b : ST} {w : Nat → ST} {x1 : Int32} {r : Int32} {b' : ST} (hm : m_X4_append b x1 = some (r, b')) : MetI l g yX4_append cX4_append 2 (some .int) 0 0 79 h (cC g h (b, w)) (cC g h (b', w)) [.ref (h 16), .int x1] r := by
  refine MetI.ofX (by decide +kernel) (Nat.le_of_ble_eq_true rfl) ?_
  intro p e s m below meth c AV Q X hret ls hw hl
  replace X : Cx g p s m AV c cX4_append RX4 2 := X
  replace hl : lv_has ls 2 [(0, .ref (h 16)), (1, .int x1)] := hl
  unfold m_X4_append at hm
  refine lv_aload_n X.1 X.2.1 dX4_append_0 rfl (lv_at hl 0 rfl) ?_
  refine gX4_length X hw wq_39_23 dX4_append_1 ?_
  refine lv_if_lt (tgt := 33) X.1 X.2.1 dX4_append_4 (by decide) (fun c_1 => ?_) (fun c_1 => ?_)
  · replace hm := it_p hm c_1
    refine lv_aload_n X.1 X.2.1 dX4_append_33 rfl (lv_at hl 0 rfl) ?_
    refine gX4_length X hw wq_39_23 dX4_append_34 ?_
    obtain ⟨rfl, rfl⟩ := Prod.mk.inj (Option.some.inj hm)
    exact hret _ _ _ _ hw dX4_append_37
  · replace hm := it_n hm c_1
    refine lv_aload_n X.1 X.2.1 dX4_append_7 rfl (lv_at hl 0 rfl) ?_
    refine gX4_length X hw wq_39_23 dX4_append_8 ?_
    refine lv_bipush (v := 60) X.1 X.2.1 dX4_append_11 (by decide) ?_
    refine lv_icmp_ge (tgt := 33) X.1 X.2.1 dX4_append_13 (by decide) (fun c_3 => ?_) (fun c_3 => ?_)
    · replace hm := it_p hm c_3
      refine lv_aload_n X.1 X.2.1 dX4_append_33 rfl (lv_at hl 0 rfl) ?_
      refine gX4_length X hw wq_39_23 dX4_append_34 ?_
      obtain ⟨rfl, rfl⟩ := Prod.mk.inj (Option.some.inj hm)
      exact hret _ _ _ _ hw dX4_append_37
    · replace hm := it_n hm c_3
      refine lv_aload_n X.1 X.2.1 dX4_append_16 rfl (lv_at hl 0 rfl) ?_
      refine gX4_text X hw wq_4_20 dX4_append_17 ?_
      refine lv_aload_n X.1 X.2.1 dX4_append_20 rfl (lv_at hl 0 rfl) ?_
      refine lv_dup X.1 X.2.1 dX4_append_21 rfl ?_
      refine gX4_length X hw wq_39_23 dX4_append_22 ?_
      refine lv_dup_x1 X.1 X.2.1 dX4_append_25 rfl rfl ?_
      refine lv_iconst (v := 1) X.1 X.2.1 dX4_append_26 (by decide) ?_
      refine lv_iadd X.1 X.2.1 dX4_append_27 ?_
      refine pX4_length X hw wq_39_23 dX4_append_28 (fun H locs hw => ?_)
      obtain ⟨b_5, eb_5⟩ : ∃ y, y = wI b 7 (((b.1 7) + (1 : Int32))) := ⟨_, rfl⟩
      rw [← eb_5] at hw
      replace hm := lt_e hm eb_5
      refine lv_iload_n X.1 X.2.1 dX4_append_31 rfl (lv_at hl 1 rfl) ?_
      replace hm := gd_e hm
      obtain ⟨g_6, hm⟩ := hm
      refine sA6 X hw g_6 dX4_append_32 (fun H locs hw => ?_)
      obtain ⟨b_7, eb_7⟩ : ∃ y, y = wA b_5 6 (b.1 7).toNatClampNeg x1 := ⟨_, rfl⟩
      rw [← eb_7] at hw
      replace hm := lt_e hm eb_7
      refine lv_aload_n X.1 X.2.1 dX4_append_33 rfl (lv_at hl 0 rfl) ?_
      refine gX4_length X hw wq_39_23 dX4_append_34 ?_
      obtain ⟨rfl, rfl⟩ := Prod.mk.inj (Option.some.inj hm)
      exact hret _ _ _ _ hw dX4_append_37
def m_X4_clear (b : ST) : Option (Int32 × ST) := lt (b.1 7) (fun x_1 => lt (wI b 7 (0 : Int32)) (fun b_2 => some (x_1, b_2)))
theorem yo_X4_clear : yX4_clear.cls = RX4 ∧ yX4_clear.cls ≠ "java/lang/invoke/MethodHandle" ∧ yX4_clear.cls ≠ "java/lang/invoke/VarHandle" ∧ (parseMethodDescriptor yX4_clear.desc).map (fun d => d.parameters.length) = some 0 := by decide +kernel
set_option maxHeartbeats 4000000 in
set_option maxRecDepth 100000 in
theorem c_X4_clear {l : Launch} {g : gT} {h : Nat → Nat} {b : ST} {w : Nat → ST} {r : Int32} {b' : ST} (hm : m_X4_clear b = some (r, b')) : MetI l g yX4_clear cX4_clear 2 (some .int) 0 0 79 h (cC g h (b, w)) (cC g h (b', w)) [.ref (h 16)] r := by
  refine MetI.ofX (by decide +kernel) (Nat.le_of_ble_eq_true rfl) ?_
  intro p e s m below meth c AV Q X hret ls hw hl
  replace X : Cx g p s m AV c cX4_clear RX4 2 := X
  replace hl : lv_has ls 2 [(0, .ref (h 16))] := hl
  unfold m_X4_clear at hm
  refine lv_aload_n X.1 X.2.1 dX4_clear_0 rfl (lv_at hl 0 rfl) ?_
  refine gX4_length X hw wq_39_23 dX4_clear_1 ?_
  refine lv_topi (fun x_1 ex_1 => ?_)
  replace hm := lt_e hm ex_1
  refine lv_istore_n (lv' := [(1, .int x_1), (0, .ref (h 16))]) X.1 X.2.1 dX4_clear_4 rfl hl (by decide) rfl (fun ls hl => ?_)
  refine lv_aload_n X.1 X.2.1 dX4_clear_5 rfl (lv_at hl 1 rfl) ?_
  refine lv_iconst (v := 0) X.1 X.2.1 dX4_clear_6 (by decide) ?_
  refine pX4_length X hw wq_39_23 dX4_clear_7 (fun H locs hw => ?_)
  obtain ⟨b_2, eb_2⟩ : ∃ y, y = wI b 7 (0 : Int32) := ⟨_, rfl⟩
  rw [← eb_2] at hw
  replace hm := lt_e hm eb_2
  refine lv_iload_n X.1 X.2.1 dX4_clear_10 rfl (lv_at hl 0 rfl) ?_
  obtain ⟨rfl, rfl⟩ := Prod.mk.inj (Option.some.inj hm)
  exact hret _ _ _ _ hw dX4_clear_11
def m_X4_byteAt (b : ST) (x1 : Int32) : Option (Int32) := if x1 < 0 then some (0 : Int32) else if (b.1 7) ≤ x1 then some (0 : Int32) else if (60 : Int32) ≤ x1 then some (0 : Int32) else gd (¬ (x1 < 0 ∨ 60 ≤ x1.toNatClampNeg)) (some (b.2.2.1 6 x1.toNatClampNeg))
theorem yo_X4_byteAt : yX4_byteAt.cls = RX4 ∧ yX4_byteAt.cls ≠ "java/lang/invoke/MethodHandle" ∧ yX4_byteAt.cls ≠ "java/lang/invoke/VarHandle" ∧ (parseMethodDescriptor yX4_byteAt.desc).map (fun d => d.parameters.length) = some 1 := by decide +kernel
set_option maxHeartbeats 4000000 in
set_option maxRecDepth 100000 in
theorem c_X4_byteAt {l : Launch} {g : gT} {h : Nat → Nat} {b : ST} {w : Nat → ST} {x1 : Int32} {r : Int32} (hm : m_X4_byteAt b x1 = some r) : MetI l g yX4_byteAt cX4_byteAt 2 (some .int) 0 0 79 h (cC g h (b, w)) (cC g h (b, w)) [.ref (h 16), .int x1] r := by
  refine MetI.ofX (by decide +kernel) (Nat.le_of_ble_eq_true rfl) ?_
  intro p e s m below meth c AV Q X hret ls hw hl
  replace X : Cx g p s m AV c cX4_byteAt RX4 2 := X
  replace hl : lv_has ls 2 [(0, .ref (h 16)), (1, .int x1)] := hl
  unfold m_X4_byteAt at hm
  refine lv_iload_n X.1 X.2.1 dX4_byteAt_0 rfl (lv_at hl 1 rfl) ?_
  refine lv_if_lt (tgt := 27) X.1 X.2.1 dX4_byteAt_1 (by decide) (fun c_1 => ?_) (fun c_1 => ?_)
  · replace hm := it_p hm c_1
    refine lv_iconst (v := 0) X.1 X.2.1 dX4_byteAt_27 (by decide) ?_
    obtain rfl := Option.some.inj hm
    exact hret _ _ _ _ hw dX4_byteAt_28
  · replace hm := it_n hm c_1
    refine lv_iload_n X.1 X.2.1 dX4_byteAt_4 rfl (lv_at hl 1 rfl) ?_
    refine lv_aload_n X.1 X.2.1 dX4_byteAt_5 rfl (lv_at hl 0 rfl) ?_
    refine gX4_length X hw wq_39_23 dX4_byteAt_6 ?_
    refine lv_icmp_ge (tgt := 27) X.1 X.2.1 dX4_byteAt_9 (by decide) (fun c_2 => ?_) (fun c_2 => ?_)
    · replace hm := it_p hm c_2
      refine lv_iconst (v := 0) X.1 X.2.1 dX4_byteAt_27 (by decide) ?_
      obtain rfl := Option.some.inj hm
      exact hret _ _ _ _ hw dX4_byteAt_28
    · replace hm := it_n hm c_2
      refine lv_iload_n X.1 X.2.1 dX4_byteAt_12 rfl (lv_at hl 1 rfl) ?_
      refine lv_bipush (v := 60) X.1 X.2.1 dX4_byteAt_13 (by decide) ?_
      refine lv_icmp_ge (tgt := 27) X.1 X.2.1 dX4_byteAt_15 (by decide) (fun c_3 => ?_) (fun c_3 => ?_)
      · replace hm := it_p hm c_3
        refine lv_iconst (v := 0) X.1 X.2.1 dX4_byteAt_27 (by decide) ?_
        obtain rfl := Option.some.inj hm
        exact hret _ _ _ _ hw dX4_byteAt_28
      · replace hm := it_n hm c_3
        refine lv_aload_n X.1 X.2.1 dX4_byteAt_18 rfl (lv_at hl 0 rfl) ?_
        refine gX4_text X hw wq_4_20 dX4_byteAt_19 ?_
        refine lv_iload_n X.1 X.2.1 dX4_byteAt_22 rfl (lv_at hl 1 rfl) ?_
        replace hm := gd_e hm
        obtain ⟨g_4, hm⟩ := hm
        refine lA6 X hw g_4 dX4_byteAt_23 ?_
        refine lv_goto (tgt := 28) X.1 X.2.1 dX4_byteAt_24 (by decide) ?_
        obtain rfl := Option.some.inj hm
        exact hret _ _ _ _ hw dX4_byteAt_28
def m_X4_endFrom_L2 (b : ST) (σ : Int32) : Option ((Int32) ⊕ (Int32)) := (fun (y_1 : Int32) => if (b.1 7) ≤ y_1 then some (.inr y_1) else Option.bind (m_X4_byteAt b y_1) (fun (r_12 : Int32) => if r_12 = (59 : Int32) then some (.inr y_1) else lt (y_1 + 1) (fun x_14 => some (.inl x_14)))) σ
def m_X4_endFrom (b : ST) (x1 : Int32) : Option (Int32) := Option.bind (vLoop (m_X4_endFrom_L2 b) FUEL x1) (fun (j_2 : Int32) => some j_2)
theorem yo_X4_endFrom : yX4_endFrom.cls = RX4 ∧ yX4_endFrom.cls ≠ "java/lang/invoke/MethodHandle" ∧ yX4_endFrom.cls ≠ "java/lang/invoke/VarHandle" ∧ (parseMethodDescriptor yX4_endFrom.desc).map (fun d => d.parameters.length) = some 1 := by decide +kernel
set_option maxHeartbeats 4000000 in
set_option maxRecDepth 100000 in
theorem c_X4_endFrom {l : Launch} {g : gT} {h : Nat → Nat} {b : ST} {w : Nat → ST} {x1 : Int32} {r : Int32} (hm : m_X4_endFrom b x1 = some r) : MetI l g yX4_endFrom cX4_endFrom 3 (some .int) 1 21 79 h (cC g h (b, w)) (cC g h (b, w)) [.ref (h 16), .int x1] r := by
  refine MetI.ofX (by decide +kernel) (Nat.le_of_ble_eq_true rfl) ?_
  intro p e s m below meth c AV Q X hret ls hw hl
  replace X : Cx g p s m AV c cX4_endFrom RX4 3 := X
  replace hl : lv_has ls 3 [(0, .ref (h 16)), (1, .int x1)] := hl
  unfold m_X4_endFrom at hm
  refine lv_iload_n X.1 X.2.1 dX4_endFrom_0 rfl (lv_at hl 1 rfl) ?_
  refine lv_istore_n (lv' := [(2, .int x1), (0, .ref (h 16)), (1, .int x1)]) X.1 X.2.1 dX4_endFrom_1 rfl hl (by decide) rfl (fun ls hl => ?_)
  replace hm := ob_e hm
  obtain ⟨j_2, hL_8, hm⟩ := hm
  have J_7 : ∀ (H : Heap) (locs : List Loc) (ls : Array Slot), Wd g 79 h (cC g h (b, w)) s H locs → lv_has ls 3 [(2, .int j_2)] → W p l e (rW 1 21) s m AV below meth c H locs 0 0 Q (F0 m 26 ls []) := by
    intro H locs ls hw hl
    refine lv_iload_n X.1 X.2.1 dX4_endFrom_26 rfl (lv_at hl 0 rfl) ?_
    obtain rfl := Option.some.inj hm
    exact hret _ _ _ _ hw dX4_endFrom_27
  refine vLoop_ind (B := (m_X4_endFrom_L2 b)) (fun σ => ∀ (H : Heap) (locs : List Loc) (ls : Array Slot), Wd g 79 h (cC g h (b, w)) s H locs → lv_has ls 3 [(0, .ref (h 16)), (2, .int σ)] → W p l e (rW 1 21) s m AV below meth c H locs 0 0 Q (F0 m 2 ls [])) (fun z' => z' = j_2) ?_ FUEL _ _ hL_8 rfl _ _ _ hw (lv_sub hl [1, 0] rfl)
  intro σ z_6 hz_3 hn_4 hx_5
  obtain ⟨y_1, rfl⟩ : ∃ q, q = σ := ⟨_, rfl⟩
  intro H locs ls hw hl
  replace hw : Wd g 79 h (cC g h (b, w)) s H locs := hw
  replace hl : lv_has ls 3 [(0, .ref (h 16)), (2, .int y_1)] := hl
  unfold m_X4_endFrom_L2 at hz_3
  refine lv_iload_n X.1 X.2.1 dX4_endFrom_2 rfl (lv_at hl 1 rfl) ?_
  refine lv_aload_n X.1 X.2.1 dX4_endFrom_3 rfl (lv_at hl 0 rfl) ?_
  refine gX4_length X hw wq_39_23 dX4_endFrom_4 ?_
  refine lv_icmp_ge (tgt := 26) X.1 X.2.1 dX4_endFrom_7 (by decide) (fun c_10 => ?_) (fun c_10 => ?_)
  · replace hz_3 := it_p hz_3 c_10
    obtain rfl := hx_5 _ (Option.some.inj hz_3).symm
    exact J_7 _ _ _ hw (lv_sub hl [1] rfl)
  · replace hz_3 := it_n hz_3 c_10
    refine lv_aload_n X.1 X.2.1 dX4_endFrom_10 rfl (lv_at hl 0 rfl) ?_
    refine lv_iload_n X.1 X.2.1 dX4_endFrom_11 rfl (lv_at hl 1 rfl) ?_
    replace hz_3 := ob_e hz_3
    obtain ⟨r_12, h_11, hz_3⟩ := hz_3
    refine k_Vi (k := 16) (As := [.int y_1]) X hl.1 hw (c_X4_byteAt h_11) (by decide) (he_X4 g h _ _) rfl ⟨wq_41_15, wq_41_16, wq_41_17, wq_2_10, wq_41_18⟩ yo_X4_byteAt rfl ⟨Nat.le_of_ble_eq_true rfl, Nat.le_of_ble_eq_true rfl⟩ (Nat.le_of_ble_eq_true rfl) dX4_endFrom_12 (fun H locs hw => ?_)
    refine lv_bipush (v := 59) X.1 X.2.1 dX4_endFrom_15 (by decide) ?_
    refine lv_icmp_eq (tgt := 26) X.1 X.2.1 dX4_endFrom_17 (by decide) (fun c_13 => ?_) (fun c_13 => ?_)
    · replace hz_3 := it_p hz_3 c_13
      obtain rfl := hx_5 _ (Option.some.inj hz_3).symm
      exact J_7 _ _ _ hw (lv_sub hl [1] rfl)
    · replace hz_3 := it_n hz_3 c_13
      obtain ⟨x_14, ex_14⟩ : ∃ y : Int32, y = y_1 + 1 := ⟨_, rfl⟩
      replace hz_3 := lt_e hz_3 ex_14
      refine lv_iinc (v := x_14) (lv' := [(2, .int x_14), (0, .ref (h 16))]) X.1 X.2.1 dX4_endFrom_20 hl (k := 1) rfl (by rw [ex_14]; rfl) (by decide) rfl (fun ls hl => ?_)
      refine lv_goto (tgt := 2) X.1 X.2.1 dX4_endFrom_23 (by decide) ?_
      exact hn_4 _ (Option.some.inj hz_3).symm _ _ _ hw (lv_sub hl [1, 0] rfl)
def m_X4_isBetween (x0 : Int32) (x1 : Int32) (x2 : Int32) : Option (Int32) := if x0 < x1 then some (0 : Int32) else if x2 < x0 then some (0 : Int32) else some (1 : Int32)
theorem yo_X4_isBetween : yX4_isBetween.cls ≠ "java/lang/invoke/MethodHandle" ∧ yX4_isBetween.cls ≠ "java/lang/invoke/VarHandle" ∧ (parseMethodDescriptor yX4_isBetween.desc).map (fun d => d.parameters.length) = some 3 := by decide +kernel
set_option maxHeartbeats 4000000 in
set_option maxRecDepth 100000 in
theorem c_X4_isBetween {l : Launch} {g : gT} {n : Nat} {h : Nat → Nat} {cel : Nat → va_E} {x0 : Int32} {x1 : Int32} {x2 : Int32} {r : Int32} (hm : m_X4_isBetween x0 x1 x2 = some r) : MetI l g yX4_isBetween cX4_isBetween 3 (some .boolean) 0 0 n h (cel) (cel) [.int x0, .int x1, .int x2] r := by
  refine MetZ.ofX (by decide +kernel) (Nat.le_of_ble_eq_true rfl) ?_
  intro p e s m below meth c AV Q X hret ls hw hl
  replace X : Cx g p s m AV c cX4_isBetween RX4 3 := X
  replace hl : lv_has ls 3 [(0, .int x0), (1, .int x1), (2, .int x2)] := hl
  unfold m_X4_isBetween at hm
  refine lv_iload_n X.1 X.2.1 dX4_isBetween_0 rfl (lv_at hl 0 rfl) ?_
  refine lv_iload_n X.1 X.2.1 dX4_isBetween_1 rfl (lv_at hl 1 rfl) ?_
  refine lv_icmp_lt (tgt := 14) X.1 X.2.1 dX4_isBetween_2 (by decide) (fun c_1 => ?_) (fun c_1 => ?_)
  · replace hm := it_p hm c_1
    refine lv_iconst (v := 0) X.1 X.2.1 dX4_isBetween_14 (by decide) ?_
    obtain rfl := Option.some.inj hm
    exact hret _ _ _ _ hw dX4_isBetween_15 (Or.inl rfl)
  · replace hm := it_n hm c_1
    refine lv_iload_n X.1 X.2.1 dX4_isBetween_5 rfl (lv_at hl 0 rfl) ?_
    refine lv_iload_n X.1 X.2.1 dX4_isBetween_6 rfl (lv_at hl 2 rfl) ?_
    refine lv_icmp_gt (tgt := 14) X.1 X.2.1 dX4_isBetween_7 (by decide) (fun c_2 => ?_) (fun c_2 => ?_)
    · replace hm := it_p hm c_2
      refine lv_iconst (v := 0) X.1 X.2.1 dX4_isBetween_14 (by decide) ?_
      obtain rfl := Option.some.inj hm
      exact hret _ _ _ _ hw dX4_isBetween_15 (Or.inl rfl)
    · replace hm := it_n hm c_2
      refine lv_iconst (v := 1) X.1 X.2.1 dX4_isBetween_10 (by decide) ?_
      refine lv_goto (tgt := 15) X.1 X.2.1 dX4_isBetween_11 (by decide) ?_
      obtain rfl := Option.some.inj hm
      exact hret _ _ _ _ hw dX4_isBetween_15 (Or.inr rfl)
def m_X4_wordLength_L2 (x2 : Int32) (b : ST) (σ : Int32) : Option ((Int32) ⊕ (Int32)) := (fun (y_1 : Int32) => if x2 ≤ y_1 then some (.inr y_1) else Option.bind (m_X4_byteAt b y_1) (fun (r_12 : Int32) => Option.bind (m_X4_isBetween r_12 (97 : Int32) (122 : Int32)) (fun (r_14 : Int32) => if r_14 = 0 then some (.inr y_1) else lt (y_1 + 1) (fun x_16 => some (.inl x_16))))) σ
def m_X4_wordLength (b : ST) (x1 : Int32) (x2 : Int32) : Option (Int32) := Option.bind (vLoop (m_X4_wordLength_L2 x2 b) FUEL x1) (fun (j_2 : Int32) => some (j_2 - x1))
theorem yo_X4_wordLength : yX4_wordLength.cls = RX4 ∧ yX4_wordLength.cls ≠ "java/lang/invoke/MethodHandle" ∧ yX4_wordLength.cls ≠ "java/lang/invoke/VarHandle" ∧ (parseMethodDescriptor yX4_wordLength.desc).map (fun d => d.parameters.length) = some 2 := by decide +kernel
set_option maxHeartbeats 4000000 in
set_option maxRecDepth 100000 in
theorem c_X4_wordLength {l : Launch} {g : gT} {h : Nat → Nat} {b : ST} {w : Nat → ST} {x1 : Int32} {x2 : Int32} {r : Int32} (hm : m_X4_wordLength b x1 x2 = some r) : MetI l g yX4_wordLength cX4_wordLength 4 (some .int) 1 22 79 h (cC g h (b, w)) (cC g h (b, w)) [.ref (h 16), .int x1, .int x2] r := by
  refine MetI.ofX (by decide +kernel) (Nat.le_of_ble_eq_true rfl) ?_
  intro p e s m below meth c AV Q X hret ls hw hl
  replace X : Cx g p s m AV c cX4_wordLength RX4 4 := X
  replace hl : lv_has ls 4 [(0, .ref (h 16)), (1, .int x1), (2, .int x2)] := hl
  unfold m_X4_wordLength at hm
  refine lv_iload_n X.1 X.2.1 dX4_wordLength_0 rfl (lv_at hl 1 rfl) ?_
  refine lv_istore_n (lv' := [(3, .int x1), (0, .ref (h 16)), (1, .int x1), (2, .int x2)]) X.1 X.2.1 dX4_wordLength_1 rfl hl (by decide) rfl (fun ls hl => ?_)
  replace hm := ob_e hm
  obtain ⟨j_2, hL_8, hm⟩ := hm
  have J_7 : ∀ (H : Heap) (locs : List Loc) (ls : Array Slot), Wd g 79 h (cC g h (b, w)) s H locs → lv_has ls 4 [(1, .int x1), (3, .int j_2)] → W p l e (rW 1 22) s m AV below meth c H locs 0 0 Q (F0 m 28 ls []) := by
    intro H locs ls hw hl
    refine lv_iload_n X.1 X.2.1 dX4_wordLength_28 rfl (lv_at hl 1 rfl) ?_
    refine lv_iload_n X.1 X.2.1 dX4_wordLength_29 rfl (lv_at hl 0 rfl) ?_
    refine lv_isub X.1 X.2.1 dX4_wordLength_30 ?_
    obtain rfl := Option.some.inj hm
    exact hret _ _ _ _ hw dX4_wordLength_31
  refine vLoop_ind (B := (m_X4_wordLength_L2 x2 b)) (fun σ => ∀ (H : Heap) (locs : List Loc) (ls : Array Slot), Wd g 79 h (cC g h (b, w)) s H locs → lv_has ls 4 [(0, .ref (h 16)), (1, .int x1), (2, .int x2), (3, .int σ)] → W p l e (rW 1 22) s m AV below meth c H locs 0 0 Q (F0 m 2 ls [])) (fun z' => z' = j_2) ?_ FUEL _ _ hL_8 rfl _ _ _ hw (lv_sub hl [1, 2, 3, 0] rfl)
  intro σ z_6 hz_3 hn_4 hx_5
  obtain ⟨y_1, rfl⟩ : ∃ q, q = σ := ⟨_, rfl⟩
  intro H locs ls hw hl
  replace hw : Wd g 79 h (cC g h (b, w)) s H locs := hw
  replace hl : lv_has ls 4 [(0, .ref (h 16)), (1, .int x1), (2, .int x2), (3, .int y_1)] := hl
  unfold m_X4_wordLength_L2 at hz_3
  refine lv_iload_n X.1 X.2.1 dX4_wordLength_2 rfl (lv_at hl 3 rfl) ?_
  refine lv_iload_n X.1 X.2.1 dX4_wordLength_3 rfl (lv_at hl 2 rfl) ?_
  refine lv_icmp_ge (tgt := 28) X.1 X.2.1 dX4_wordLength_4 (by decide) (fun c_10 => ?_) (fun c_10 => ?_)
  · replace hz_3 := it_p hz_3 c_10
    obtain rfl := hx_5 _ (Option.some.inj hz_3).symm
    exact J_7 _ _ _ hw (lv_sub hl [1, 3] rfl)
  · replace hz_3 := it_n hz_3 c_10
    refine lv_aload_n X.1 X.2.1 dX4_wordLength_7 rfl (lv_at hl 0 rfl) ?_
    refine lv_iload_n X.1 X.2.1 dX4_wordLength_8 rfl (lv_at hl 3 rfl) ?_
    replace hz_3 := ob_e hz_3
    obtain ⟨r_12, h_11, hz_3⟩ := hz_3
    refine k_Vi (k := 16) (As := [.int y_1]) X hl.1 hw (c_X4_byteAt h_11) (by decide) (he_X4 g h _ _) rfl ⟨wq_41_15, wq_41_16, wq_41_17, wq_2_10, wq_41_18⟩ yo_X4_byteAt rfl ⟨Nat.le_of_ble_eq_true rfl, Nat.le_of_ble_eq_true rfl⟩ (Nat.le_of_ble_eq_true rfl) dX4_wordLength_9 (fun H locs hw => ?_)
    refine lv_bipush (v := 97) X.1 X.2.1 dX4_wordLength_12 (by decide) ?_
    refine lv_bipush (v := 122) X.1 X.2.1 dX4_wordLength_14 (by decide) ?_
    replace hz_3 := ob_e hz_3
    obtain ⟨r_14, h_13, hz_3⟩ := hz_3
    refine k_Si (As := [.int r_12, .int (97 : Int32), .int (122 : Int32)]) X hl.1 hw (c_X4_isBetween h_13) ⟨wq_42_3, wq_42_4, wq_2_10, wq_42_5⟩ yo_X4_isBetween rfl ⟨Nat.le_of_ble_eq_true rfl, Nat.le_of_ble_eq_true rfl⟩ (Nat.le_of_ble_eq_true rfl) dX4_wordLength_16 (fun H locs hw => ?_)
    refine lv_if_eq (tgt := 28) X.1 X.2.1 dX4_wordLength_19 (by decide) (fun c_15 => ?_) (fun c_15 => ?_)
    · replace hz_3 := it_p hz_3 c_15
      obtain rfl := hx_5 _ (Option.some.inj hz_3).symm
      exact J_7 _ _ _ hw (lv_sub hl [1, 3] rfl)
    · replace hz_3 := it_n hz_3 c_15
      obtain ⟨x_16, ex_16⟩ : ∃ y : Int32, y = y_1 + 1 := ⟨_, rfl⟩
      replace hz_3 := lt_e hz_3 ex_16
      refine lv_iinc (v := x_16) (lv' := [(3, .int x_16), (0, .ref (h 16)), (1, .int x1), (2, .int x2)]) X.1 X.2.1 dX4_wordLength_22 hl (k := 3) rfl (by rw [ex_16]; rfl) (by decide) rfl (fun ls hl => ?_)
      refine lv_goto (tgt := 2) X.1 X.2.1 dX4_wordLength_25 (by decide) ?_
      exact hn_4 _ (Option.some.inj hz_3).symm _ _ _ hw (lv_sub hl [1, 2, 3, 0] rfl)
