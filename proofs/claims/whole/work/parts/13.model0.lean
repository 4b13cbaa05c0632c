def m_X10_in (x0 : Int64) (x2 : Int64) (x4 : Int64) : Option (Int32) := if (lg_cmp x0 x2) < 0 then some (0 : Int32) else if 0 < (lg_cmp x0 x4) then some (0 : Int32) else some (1 : Int32)
theorem yo_X10_in : yX10_in.cls ≠ "java/lang/invoke/MethodHandle" ∧ yX10_in.cls ≠ "java/lang/invoke/VarHandle" ∧ (parseMethodDescriptor yX10_in.desc).map (fun d => d.parameters.length) = some 3 := by decide +kernel
set_option maxHeartbeats 4000000 in
set_option maxRecDepth 100000 in
theorem c_X10_in {l : Launch} {g : gT} {n : Nat} {h : Nat → Nat} {cel : Nat → va_E} {x0 : Int64} {x2 : Int64} {x4 : Int64} {r : Int32} (hm : m_X10_in x0 x2 x4 = some r) : MetI l g yX10_in cX10_in 6 (some .boolean) 0 0 n h (cel) (cel) [.long x0, .long x2, .long x4] r := by
  refine MetZ.ofX (by decide +kernel) (Nat.le_of_ble_eq_true rfl) ?_
  intro p e s m below meth c AV Q X hret ls hw hl
  replace X : Cx g p s m AV c cX10_in RX10 6 := X
  replace hl : lv_has ls 6 [(0, .long x0), (2, .long x2), (4, .long x4)] := hl
  unfold m_X10_in at hm
  refine lv_lload_n X.1 X.2.1 dX10_in_0 rfl (lv_at hl 0 rfl) ?_
  refine lv_lload_n X.1 X.2.1 dX10_in_1 rfl (lv_at hl 1 rfl) ?_
  refine W.lcmp X.1 X.2.1 dX10_in_2 ?_
  refine lv_if_lt (tgt := 17) X.1 X.2.1 dX10_in_3 (by decide) (fun c_1 => ?_) (fun c_1 => ?_)
  · replace hm := it_p hm c_1
    refine lv_iconst (v := 0) X.1 X.2.1 dX10_in_17 (by decide) ?_
    obtain rfl := Option.some.inj hm
    exact hret _ _ _ _ hw dX10_in_18 (Or.inl rfl)
  · replace hm := it_n hm c_1
    refine lv_lload_n X.1 X.2.1 dX10_in_6 rfl (lv_at hl 0 rfl) ?_
    refine lv_lload X.1 X.2.1 dX10_in_7 (lv_at hl 2 rfl) ?_
    refine W.lcmp X.1 X.2.1 dX10_in_9 ?_
    refine lv_if_gt (tgt := 17) X.1 X.2.1 dX10_in_10 (by decide) (fun c_2 => ?_) (fun c_2 => ?_)
    · replace hm := it_p hm c_2
      refine lv_iconst (v := 0) X.1 X.2.1 dX10_in_17 (by decide) ?_
      obtain rfl := Option.some.inj hm
      exact hret _ _ _ _ hw dX10_in_18 (Or.inl rfl)
    · replace hm := it_n hm c_2
      refine lv_iconst (v := 1) X.1 X.2.1 dX10_in_13 (by decide) ?_
      refine lv_goto (tgt := 18) X.1 X.2.1 dX10_in_14 (by decide) ?_
      obtain rfl := Option.some.inj hm
      exact hret _ _ _ _ hw dX10_in_18 (Or.inr rfl)
def m_X10_isTwo (x0 : Int32) : Option (Int32) := Option.bind (m_X10_in (x0.toInt64) (0 : Int64) (1 : Int64)) (fun (r_2 : Int32) => gd (r_2 = 0 ∨ r_2 = 1) (some r_2))
theorem yo_X10_isTwo : yX10_isTwo.cls ≠ "java/lang/invoke/MethodHandle" ∧ yX10_isTwo.cls ≠ "java/lang/invoke/VarHandle" ∧ (parseMethodDescriptor yX10_isTwo.desc).map (fun d => d.parameters.length) = some 1 := by decide +kernel
set_option maxHeartbeats 4000000 in
set_option maxRecDepth 100000 in
theorem c_X10_isTwo {l : Launch} {g : gT} {n : Nat} {h : Nat → Nat} {cel : Nat → va_E} {x0 : Int32} {r : Int32} (hm : m_X10_isTwo x0 = some r) : MetI l g yX10_isTwo cX10_isTwo 1 (some .boolean) 1 25 n h (cel) (cel) [.int x0] r := by
  refine MetZ.ofX (by decide +kernel) (Nat.le_of_ble_eq_true rfl) ?_
  intro p e s m below meth c AV Q X hret ls hw hl
  replace X : Cx g p s m AV c cX10_isTwo RX10 1 := X
  replace hl : lv_has ls 1 [(0, .int x0)] := hl
  unfold m_X10_isTwo at hm
  refine lv_iload_n X.1 X.2.1 dX10_isTwo_0 rfl (lv_at hl 0 rfl) ?_
  refine lv_i2l X.1 X.2.1 dX10_isTwo_1 rfl ?_
  refine lv_lconst (v := 0) X.1 X.2.1 dX10_isTwo_2 (by decide) ?_
  refine lv_lconst (v := 1) X.1 X.2.1 dX10_isTwo_3 (by decide) ?_
  replace hm := ob_e hm
  obtain ⟨r_2, h_1, hm⟩ := hm
  refine k_Si (As := [.long x0.toInt64, .long (0 : Int64), .long (1 : Int64)]) X hl.1 hw (c_X10_in h_1) ⟨wq_7_5, wq_7_6, wq_1_5, wq_7_7⟩ yo_X10_in rfl ⟨Nat.le_of_ble_eq_true rfl, Nat.le_of_ble_eq_true rfl⟩ (Nat.le_of_ble_eq_true rfl) dX10_isTwo_4 (fun H locs hw => ?_)
  replace hm := gd_e hm
  obtain ⟨g_3, hm⟩ := hm
  obtain rfl := Option.some.inj hm
  exact hret _ _ _ _ hw dX10_isTwo_7 g_3
def m_X10_no (x0 : Int32) : Option (Int64) := some ((-9223372036854775808 : Int64) - x0.toInt64)
theorem yo_X10_no : yX10_no.cls ≠ "java/lang/invoke/MethodHandle" ∧ yX10_no.cls ≠ "java/lang/invoke/VarHandle" ∧ (parseMethodDescriptor yX10_no.desc).map (fun d => d.parameters.length) = some 1 := by decide +kernel
set_option maxHeartbeats 4000000 in
set_option maxRecDepth 100000 in
theorem c_X10_no {l : Launch} {g : gT} {n : Nat} {h : Nat → Nat} {cel : Nat → va_E} {x0 : Int32} {r : Int64} (hm : m_X10_no x0 = some r) : MetL l g yX10_no cX10_no 1 (some .long) 0 0 n h (cel) (cel) [.int x0] r := by
  refine MetL.ofX (by decide +kernel) (Nat.le_of_ble_eq_true rfl) ?_
  intro p e s m below meth c AV Q X hret ls hw hl
  replace X : Cx g p s m AV c cX10_no RX10 1 := X
  replace hl : lv_has ls 1 [(0, .int x0)] := hl
  unfold m_X10_no at hm
  refine lv_ldc2 (v := -9223372036854775808) X.1 X.2.1 X.2.2.2.1 (X.2.2.2.2.1 _ wq_19_13) dX10_no_0 ?_
  refine lv_iload_n X.1 X.2.1 dX10_no_3 rfl (lv_at hl 0 rfl) ?_
  refine lv_i2l X.1 X.2.1 dX10_no_4 rfl ?_
  refine lv_lsub X.1 X.2.1 dX10_no_5 ?_
  obtain rfl := Option.some.inj hm
  exact hret _ _ _ _ hw dX10_no_6
def m_X10_bitsIn_L4 (x0 : Int32) (σ : Int32 × Int32) : Option ((Int32 × Int32) ⊕ (Int32)) := (fun (q_14 : Int32 × Int32) => un q_14 (fun y_1 y_2 => if (10 : Int32) ≤ y_2 then some (.inr y_1) else lt (y_1 + ((x0 >>> (y_2 &&& 31)) &&& (1 : Int32))) (fun x_12 => lt (y_2 + 1) (fun x_13 => some (.inl (x_12, x_13)))))) σ
def m_X10_bitsIn (x0 : Int32) : Option (Int32) := Option.bind (vLoop (m_X10_bitsIn_L4 x0) FUEL ((0 : Int32), (0 : Int32))) (fun (j_3 : Int32) => some j_3)
theorem yo_X10_bitsIn : yX10_bitsIn.cls ≠ "java/lang/invoke/MethodHandle" ∧ yX10_bitsIn.cls ≠ "java/lang/invoke/VarHandle" ∧ (parseMethodDescriptor yX10_bitsIn.desc).map (fun d => d.parameters.length) = some 1 := by decide +kernel
set_option maxHeartbeats 4000000 in
set_option maxRecDepth 100000 in
theorem c_X10_bitsIn {l : Launch} {g : gT} {n : Nat} {h : Nat → Nat} {cel : Nat → va_E} {x0 : Int32} {r : Int32} (hm : m_X10_bitsIn x0 = some r) : MetI l g yX10_bitsIn cX10_bitsIn 3 (some .int) 0 0 n h (cel) (cel) [.int x0] r := by
  refine MetI.ofX (by decide +kernel) (Nat.le_of_ble_eq_true rfl) ?_
  intro p e s m below meth c AV Q X hret ls hw hl
  replace X : Cx g p s m AV c cX10_bitsIn RX10 3 := X
  replace hl : lv_has ls 3 [(0, .int x0)] := hl
  unfold m_X10_bitsIn at hm
  refine lv_iconst (v := 0) X.1 X.2.1 dX10_bitsIn_0 (by decide) ?_
  refine lv_istore_n (lv' := [(1, .int (0 : Int32)), (0, .int x0)]) X.1 X.2.1 dX10_bitsIn_1 rfl hl (by decide) rfl (fun ls hl => ?_)
  refine lv_iconst (v := 0) X.1 X.2.1 dX10_bitsIn_2 (by decide) ?_
  refine lv_istore_n (lv' := [(2, .int (0 : Int32)), (1, .int (0 : Int32)), (0, .int x0)]) X.1 X.2.1 dX10_bitsIn_3 rfl hl (by decide) rfl (fun ls hl => ?_)
  replace hm := ob_e hm
  obtain ⟨j_3, hL_9, hm⟩ := hm
  have J_8 : ∀ (H : Heap) (locs : List Loc) (ls : Array Slot), Wd g n h (cel) s H locs → lv_has ls 3 [(1, .int j_3)] → W p l e (rW 0 0) s m AV below meth c H locs 0 0 Q (F0 m 24 ls []) := by
    intro H locs ls hw hl
    refine lv_iload_n X.1 X.2.1 dX10_bitsIn_24 rfl (lv_at hl 0 rfl) ?_
    obtain rfl := Option.some.inj hm
    exact hret _ _ _ _ hw dX10_bitsIn_25
  refine vLoop_ind (B := (m_X10_bitsIn_L4 x0)) (fun σ => ∀ (H : Heap) (locs : List Loc) (ls : Array Slot), Wd g n h (cel) s H locs → lv_has ls 3 [(0, .int x0), (1, .int σ.1), (2, .int σ.2)] → W p l e (rW 0 0) s m AV below meth c H locs 0 0 Q (F0 m 4 ls [])) (fun z' => z' = j_3) ?_ FUEL _ _ hL_9 rfl _ _ _ hw (lv_sub hl [2, 1, 0] rfl)
  intro σ z_7 hz_4 hn_5 hx_6
  obtain ⟨y_1, y_2⟩ := σ
  intro H locs ls hw hl
  replace hw : Wd g n h (cel) s H locs := hw
  replace hl : lv_has ls 3 [(0, .int x0), (1, .int y_1), (2, .int y_2)] := hl
  unfold m_X10_bitsIn_L4 at hz_4
  replace hz_4 := un_e hz_4
  refine lv_iload_n X.1 X.2.1 dX10_bitsIn_4 rfl (lv_at hl 2 rfl) ?_
  refine lv_bipush (v := 10) X.1 X.2.1 dX10_bitsIn_5 (by decide) ?_
  refine lv_icmp_ge (tgt := 24) X.1 X.2.1 dX10_bitsIn_7 (by decide) (fun c_11 => ?_) (fun c_11 => ?_)
  · replace hz_4 := it_p hz_4 c_11
    obtain rfl := hx_6 _ (Option.some.inj hz_4).symm
    exact J_8 _ _ _ hw (lv_sub hl [1] rfl)
  · replace hz_4 := it_n hz_4 c_11
    refine lv_iload_n X.1 X.2.1 dX10_bitsIn_10 rfl (lv_at hl 1 rfl) ?_
    refine lv_iload_n X.1 X.2.1 dX10_bitsIn_11 rfl (lv_at hl 0 rfl) ?_
    refine lv_iload_n X.1 X.2.1 dX10_bitsIn_12 rfl (lv_at hl 2 rfl) ?_
    refine lv_ishr X.1 X.2.1 dX10_bitsIn_13 ?_
    refine lv_iconst (v := 1) X.1 X.2.1 dX10_bitsIn_14 (by decide) ?_
    refine lv_iand X.1 X.2.1 dX10_bitsIn_15 ?_
    refine lv_iadd X.1 X.2.1 dX10_bitsIn_16 ?_
    refine lv_topi (fun x_12 ex_12 => ?_)
    replace hz_4 := lt_e hz_4 ex_12
    refine lv_istore_n (lv' := [(1, .int x_12), (0, .int x0), (2, .int y_2)]) X.1 X.2.1 dX10_bitsIn_17 rfl hl (by decide) rfl (fun ls hl => ?_)
    obtain ⟨x_13, ex_13⟩ : ∃ y : Int32, y = y_2 + 1 := ⟨_, rfl⟩
    replace hz_4 := lt_e hz_4 ex_13
    refine lv_iinc (v := x_13) (lv' := [(2, .int x_13), (1, .int x_12), (0, .int x0)]) X.1 X.2.1 dX10_bitsIn_18 hl (k := 2) rfl (by rw [ex_13]; rfl) (by decide) rfl (fun ls hl => ?_)
    refine lv_goto (tgt := 4) X.1 X.2.1 dX10_bitsIn_21 (by decide) ?_
    exact hn_5 _ (Option.some.inj hz_4).symm _ _ _ hw (lv_sub hl [2, 1, 0] rfl)
def m_X10_divisor_L21 (σ : Int64 × Int64 × Int32) : Option ((Int64 × Int64 × Int32) ⊕ (Int64)) := (fun (q_19 : Int64 × Int64 × Int32) => un q_19 (fun y_3 q_19 => un q_19 (fun y_4 y_5 => if (200 : Int32) ≤ y_5 then some (.inr y_3) else if (lg_cmp y_4 (0 : Int64)) = 0 then some (.inr y_3) else gd (¬ y_4 = 0) (lt (y_3 - y_3 / y_4 * y_4) (fun x_17 => lt (y_5 + 1) (fun x_18 => some (.inl (y_4, x_17, x_18)))))))) σ
def m_X10_divisor (x0 : Int64) (x2 : Int64) : Option (Int64) := Option.bind (if 0 ≤ (lg_cmp x0 (0 : Int64)) then some x0 else some ((0 : Int64) - x0)) (fun (j_2 : Int64) => Option.bind (vLoop (m_X10_divisor_L21) FUEL (j_2, x2, (0 : Int32))) (fun (j_6 : Int64) => some j_6))
theorem yo_X10_divisor : yX10_divisor.cls ≠ "java/lang/invoke/MethodHandle" ∧ yX10_divisor.cls ≠ "java/lang/invoke/VarHandle" ∧ (parseMethodDescriptor yX10_divisor.desc).map (fun d => d.parameters.length) = some 2 := by decide +kernel
set_option maxHeartbeats 4000000 in
set_option maxRecDepth 100000 in
theorem c_X10_divisor {l : Launch} {g : gT} {n : Nat} {h : Nat → Nat} {cel : Nat → va_E} {x0 : Int64} {x2 : Int64} {r : Int64} (hm : m_X10_divisor x0 x2 = some r) : MetL l g yX10_divisor cX10_divisor 11 (some .long) 0 0 n h (cel) (cel) [.long x0, .long x2] r := by
  refine MetL.ofX (by decide +kernel) (Nat.le_of_ble_eq_true rfl) ?_
  intro p e s m below meth c AV Q X hret ls hw hl
  replace X : Cx g p s m AV c cX10_divisor RX10 11 := X
  replace hl : lv_has ls 11 [(0, .long x0), (2, .long x2)] := hl
  unfold m_X10_divisor at hm
  refine lv_lload_n X.1 X.2.1 dX10_divisor_0 rfl (lv_at hl 0 rfl) ?_
  refine lv_lconst (v := 0) X.1 X.2.1 dX10_divisor_1 (by decide) ?_
  refine W.lcmp X.1 X.2.1 dX10_divisor_2 ?_
  replace hm := ob_e hm
  obtain ⟨j_2, hg_20, hm⟩ := hm
  have J_21 : ∀ (H : Heap) (locs : List Loc) (ls : Array Slot), Wd g n h (cel) s H locs → lv_has ls 11 [(2, .long x2)] → W p l e (rW 0 0) s m AV below meth c H locs 0 0 Q (F0 m 13 ls [.long j_2]) := by
    intro H locs ls hw hl
    refine lv_lstore (lv' := [(4, .long j_2), (2, .long x2)]) X.1 X.2.1 dX10_divisor_13 hl (by decide) rfl (fun ls hl => ?_)
    refine lv_lload_n X.1 X.2.1 dX10_divisor_15 rfl (lv_at hl 1 rfl) ?_
    refine lv_lstore (lv' := [(6, .long x2), (4, .long j_2), (2, .long x2)]) X.1 X.2.1 dX10_divisor_16 hl (by decide) rfl (fun ls hl => ?_)
    refine lv_iconst (v := 0) X.1 X.2.1 dX10_divisor_18 (by decide) ?_
    refine lv_istore (lv' := [(8, .int (0 : Int32)), (6, .long x2), (4, .long j_2), (2, .long x2)]) X.1 X.2.1 dX10_divisor_19 hl (by decide) rfl (fun ls hl => ?_)
    replace hm := ob_e hm
    obtain ⟨j_6, hL_12, hm⟩ := hm
    have J_11 : ∀ (H : Heap) (locs : List Loc) (ls : Array Slot), Wd g n h (cel) s H locs → lv_has ls 11 [(4, .long j_6)] → W p l e (rW 0 0) s m AV below meth c H locs 0 0 Q (F0 m 57 ls []) := by
      intro H locs ls hw hl
      refine lv_lload X.1 X.2.1 dX10_divisor_57 (lv_at hl 0 rfl) ?_
      obtain rfl := Option.some.inj hm
      exact hret _ _ _ _ hw dX10_divisor_59
    refine vLoop_ind (B := (m_X10_divisor_L21)) (fun σ => ∀ (H : Heap) (locs : List Loc) (ls : Array Slot), Wd g n h (cel) s H locs → lv_has ls 11 [(4, .long σ.1), (6, .long σ.2.1), (8, .int σ.2.2)] → W p l e (rW 0 0) s m AV below meth c H locs 0 0 Q (F0 m 21 ls [])) (fun z' => z' = j_6) ?_ FUEL _ _ hL_12 rfl _ _ _ hw (lv_sub hl [2, 1, 0] rfl)
    intro σ z_10 hz_7 hn_8 hx_9
    obtain ⟨y_3, y_4, y_5⟩ := σ
    intro H locs ls hw hl
    replace hw : Wd g n h (cel) s H locs := hw
    replace hl : lv_has ls 11 [(4, .long y_3), (6, .long y_4), (8, .int y_5)] := hl
    unfold m_X10_divisor_L21 at hz_7
    replace hz_7 := un_e hz_7
    replace hz_7 := un_e hz_7
    refine lv_iload X.1 X.2.1 dX10_divisor_21 (lv_at hl 2 rfl) ?_
    refine lv_sipush (v := 200) X.1 X.2.1 dX10_divisor_23 (by decide) ?_
    refine lv_icmp_ge (tgt := 57) X.1 X.2.1 dX10_divisor_26 (by decide) (fun c_14 => ?_) (fun c_14 => ?_)
    · replace hz_7 := it_p hz_7 c_14
      obtain rfl := hx_9 _ (Option.some.inj hz_7).symm
      exact J_11 _ _ _ hw (lv_sub hl [0] rfl)
    · replace hz_7 := it_n hz_7 c_14
      refine lv_lload X.1 X.2.1 dX10_divisor_29 (lv_at hl 1 rfl) ?_
      refine lv_lconst (v := 0) X.1 X.2.1 dX10_divisor_31 (by decide) ?_
      refine W.lcmp X.1 X.2.1 dX10_divisor_32 ?_
      refine lv_if_eq (tgt := 57) X.1 X.2.1 dX10_divisor_33 (by decide) (fun c_15 => ?_) (fun c_15 => ?_)
      · replace hz_7 := it_p hz_7 c_15
        obtain rfl := hx_9 _ (Option.some.inj hz_7).symm
        exact J_11 _ _ _ hw (lv_sub hl [0] rfl)
      · replace hz_7 := it_n hz_7 c_15
        refine lv_lload X.1 X.2.1 dX10_divisor_36 (lv_at hl 0 rfl) ?_
        refine lv_lload X.1 X.2.1 dX10_divisor_38 (lv_at hl 1 rfl) ?_
        replace hz_7 := gd_e hz_7
        obtain ⟨g_16, hz_7⟩ := hz_7
        refine lv_lrem X.1 X.2.1 dX10_divisor_40 g_16 ?_
        refine lv_topl (fun x_17 ex_17 => ?_)
        replace hz_7 := lt_e hz_7 ex_17
        refine lv_lstore (lv' := [(9, .long x_17), (4, .long y_3), (6, .long y_4), (8, .int y_5)]) X.1 X.2.1 dX10_divisor_41 hl (by decide) rfl (fun ls hl => ?_)
        refine lv_lload X.1 X.2.1 dX10_divisor_43 (lv_at hl 2 rfl) ?_
        refine lv_lstore (lv' := [(4, .long y_4), (9, .long x_17), (6, .long y_4), (8, .int y_5)]) X.1 X.2.1 dX10_divisor_45 hl (by decide) rfl (fun ls hl => ?_)
        refine lv_lload X.1 X.2.1 dX10_divisor_47 (lv_at hl 1 rfl) ?_
        refine lv_lstore (lv' := [(6, .long x_17), (4, .long y_4), (9, .long x_17), (8, .int y_5)]) X.1 X.2.1 dX10_divisor_49 hl (by decide) rfl (fun ls hl => ?_)
        obtain ⟨x_18, ex_18⟩ : ∃ y : Int32, y = y_5 + 1 := ⟨_, rfl⟩
        replace hz_7 := lt_e hz_7 ex_18
        refine lv_iinc (v := x_18) (lv' := [(8, .int x_18), (6, .long x_17), (4, .long y_4), (9, .long x_17)]) X.1 X.2.1 dX10_divisor_51 hl (k := 3) rfl (by rw [ex_18]; rfl) (by decide) rfl (fun ls hl => ?_)
        refine lv_goto (tgt := 21) X.1 X.2.1 dX10_divisor_54 (by decide) ?_
        exact hn_8 _ (Option.some.inj hz_7).symm _ _ _ hw (lv_sub hl [2, 1, 0] rfl)
  refine lv_if_ge (tgt := 12) X.1 X.2.1 dX10_divisor_3 (by decide) (fun c_1 => ?_) (fun c_1 => ?_)
  · replace hg_20 := it_p hg_20 c_1
    refine lv_lload_n X.1 X.2.1 dX10_divisor_12 rfl (lv_at hl 0 rfl) ?_
    obtain rfl := Option.some.inj hg_20
    exact J_21 _ _ _ hw (lv_sub hl [1] rfl)
  · replace hg_20 := it_n hg_20 c_1
    refine lv_lconst (v := 0) X.1 X.2.1 dX10_divisor_6 (by decide) ?_
    refine lv_lload_n X.1 X.2.1 dX10_divisor_7 rfl (lv_at hl 0 rfl) ?_
    refine lv_lsub X.1 X.2.1 dX10_divisor_8 ?_
    refine lv_goto (tgt := 13) X.1 X.2.1 dX10_divisor_9 (by decide) ?_
    obtain rfl := Option.some.inj hg_20
    exact J_21 _ _ _ hw (lv_sub hl [1] rfl)
def m_X10_part (x0 : Int64) (x2 : Int64) (x4 : Int32) : Option (Int64) := Option.bind (if x4 = 0 then some x0 else some x2) (fun (j_2 : Int64) => Option.bind (m_X10_divisor x0 x2) (fun (r_4 : Int64) => gd (¬ r_4 = 0) (some (j_2 / r_4))))
theorem yo_X10_part : yX10_part.cls ≠ "java/lang/invoke/MethodHandle" ∧ yX10_part.cls ≠ "java/lang/invoke/VarHandle" ∧ (parseMethodDescriptor yX10_part.desc).map (fun d => d.parameters.length) = some 3 := by decide +kernel
set_option maxHeartbeats 4000000 in
set_option maxRecDepth 100000 in
theorem c_X10_part {l : Launch} {g : gT} {n : Nat} {h : Nat → Nat} {cel : Nat → va_E} {x0 : Int64} {x2 : Int64} {x4 : Int32} {r : Int64} (hm : m_X10_part x0 x2 x4 = some r) : MetL l g yX10_part cX10_part 5 (some .long) 1 30 n h (cel) (cel) [.long x0, .long x2, .int x4] r := by
  refine MetL.ofX (by decide +kernel) (Nat.le_of_ble_eq_true rfl) ?_
  intro p e s m below meth c AV Q X hret ls hw hl
  replace X : Cx g p s m AV c cX10_part RX10 5 := X
  replace hl : lv_has ls 5 [(0, .long x0), (2, .long x2), (4, .int x4)] := hl
  unfold m_X10_part at hm
  refine lv_iload X.1 X.2.1 dX10_part_0 (lv_at hl 2 rfl) ?_
  replace hm := ob_e hm
  obtain ⟨j_2, hg_6, hm⟩ := hm
  have J_7 : ∀ (H : Heap) (locs : List Loc) (ls : Array Slot), Wd g n h (cel) s H locs → lv_has ls 5 [(0, .long x0), (2, .long x2)] → W p l e (rW 1 30) s m AV below meth c H locs 0 0 Q (F0 m 10 ls [.long j_2]) := by
    intro H locs ls hw hl
    refine lv_lload_n X.1 X.2.1 dX10_part_10 rfl (lv_at hl 0 rfl) ?_
    refine lv_lload_n X.1 X.2.1 dX10_part_11 rfl (lv_at hl 1 rfl) ?_
    replace hm := ob_e hm
    obtain ⟨r_4, h_3, hm⟩ := hm
    refine k_Sl (As := [.long x0, .long x2]) X hl.1 hw (c_X10_divisor h_3) ⟨wq_19_7, wq_19_8, wq_1_5, wq_19_9⟩ yo_X10_divisor rfl ⟨Nat.le_of_ble_eq_true rfl, Nat.le_of_ble_eq_true rfl⟩ (Nat.le_of_ble_eq_true rfl) dX10_part_12 (fun H locs hw => ?_)
    replace hm := gd_e hm
    obtain ⟨g_5, hm⟩ := hm
    refine lv_ldiv X.1 X.2.1 dX10_part_15 g_5 ?_
    obtain rfl := Option.some.inj hm
    exact hret _ _ _ _ hw dX10_part_16
  refine lv_if_ne (tgt := 9) X.1 X.2.1 dX10_part_2 (by decide) (fun c_1 => ?_) (fun c_1 => ?_)
  · replace hg_6 := it_n hg_6 c_1
    refine lv_lload_n X.1 X.2.1 dX10_part_9 rfl (lv_at hl 1 rfl) ?_
    obtain rfl := Option.some.inj hg_6
    exact J_7 _ _ _ hw (lv_sub hl [0, 1] rfl)
  · replace hg_6 := it_p hg_6 c_1
    refine lv_lload_n X.1 X.2.1 dX10_part_5 rfl (lv_at hl 0 rfl) ?_
    refine lv_goto (tgt := 10) X.1 X.2.1 dX10_part_6 (by decide) ?_
    obtain rfl := Option.some.inj hg_6
    exact J_7 _ _ _ hw (lv_sub hl [0, 1] rfl)
def m_X10_finds (t : ST) (x1 : Int32) : Option (Int32 × ST) := lt (wI t 0 x1) (fun t_1 => some (((-10 : Int32) - x1), t_1))
theorem yo_X10_finds : yX10_finds.cls = RX10 ∧ yX10_finds.cls ≠ "java/lang/invoke/MethodHandle" ∧ yX10_finds.cls ≠ "java/lang/invoke/VarHandle" ∧ (parseMethodDescriptor yX10_finds.desc).map (fun d => d.parameters.length) = some 1 := by decide +kernel
set_option maxHeartbeats 4000000 in
set_option maxRecDepth 100000 in
theorem c_X10_finds {l : Launch} {g : gT} {h : Nat → Nat} {t : ST} {x1 : Int32} {r : Int32} {t' : ST} (hm : m_X10_finds t x1 = some (r, t')) : MetI l g yX10_finds cX10_finds 2 (some .int) 0 0 20 h (cM g h t) (cM g h t') [.ref (h 0), .int x1] r := by
  refine MetI.ofX (by decide +kernel) (Nat.le_of_ble_eq_true rfl) ?_
  intro p e s m below meth c AV Q X hret ls hw hl
  replace X : Cx g p s m AV c cX10_finds RX10 2 := X
  replace hl : lv_has ls 2 [(0, .ref (h 0)), (1, .int x1)] := hl
  unfold m_X10_finds at hm
  refine lv_aload_n X.1 X.2.1 dX10_finds_0 rfl (lv_at hl 0 rfl) ?_
  refine lv_iload_n X.1 X.2.1 dX10_finds_1 rfl (lv_at hl 1 rfl) ?_
  refine pX10_latest X hw wq_47_20 dX10_finds_2 (fun H locs hw => ?_)
  obtain ⟨t_1, et_1⟩ : ∃ y, y = wI t 0 x1 := ⟨_, rfl⟩
  rw [← et_1] at hw
  replace hm := lt_e hm et_1
  refine lv_bipush (v := -10) X.1 X.2.1 dX10_finds_5 (by decide) ?_
  refine lv_iload_n X.1 X.2.1 dX10_finds_7 rfl (lv_at hl 1 rfl) ?_
  refine lv_isub X.1 X.2.1 dX10_finds_8 ?_
  obtain ⟨rfl, rfl⟩ := Prod.mk.inj (Option.some.inj hm)
  exact hret _ _ _ _ hw dX10_finds_9
def m_X10_isSheet (x0 : Int32) : Option (Int32) := Option.bind (m_X10_in (x0.toInt64) (0 : Int64) (2 : Int64)) (fun (r_2 : Int32) => gd (r_2 = 0 ∨ r_2 = 1) (some r_2))
theorem yo_X10_isSheet : yX10_isSheet.cls ≠ "java/lang/invoke/MethodHandle" ∧ yX10_isSheet.cls ≠ "java/lang/invoke/VarHandle" ∧ (parseMethodDescriptor yX10_isSheet.desc).map (fun d => d.parameters.length) = some 1 := by decide +kernel
set_option maxHeartbeats 4000000 in
set_option maxRecDepth 100000 in
theorem c_X10_isSheet {l : Launch} {g : gT} {n : Nat} {h : Nat → Nat} {cel : Nat → va_E} {x0 : Int32} {r : Int32} (hm : m_X10_isSheet x0 = some r) : MetI l g yX10_isSheet cX10_isSheet 1 (some .boolean) 1 25 n h (cel) (cel) [.int x0] r := by
  refine MetZ.ofX (by decide +kernel) (Nat.le_of_ble_eq_true rfl) ?_
  intro p e s m below meth c AV Q X hret ls hw hl
  replace X : Cx g p s m AV c cX10_isSheet RX10 1 := X
  replace hl : lv_has ls 1 [(0, .int x0)] := hl
  unfold m_X10_isSheet at hm
  refine lv_iload_n X.1 X.2.1 dX10_isSheet_0 rfl (lv_at hl 0 rfl) ?_
  refine lv_i2l X.1 X.2.1 dX10_isSheet_1 rfl ?_
  refine lv_lconst (v := 0) X.1 X.2.1 dX10_isSheet_2 (by decide) ?_
  refine lv_ldc2 (v := 2) X.1 X.2.1 X.2.2.2.1 (X.2.2.2.2.1 _ wq_7_0) dX10_isSheet_3 ?_
  replace hm := ob_e hm
  obtain ⟨r_2, h_1, hm⟩ := hm
  refine k_Si (As := [.long x0.toInt64, .long (0 : Int64), .long (2 : Int64)]) X hl.1 hw (c_X10_in h_1) ⟨wq_7_5, wq_7_6, wq_1_5, wq_7_7⟩ yo_X10_in rfl ⟨Nat.le_of_ble_eq_true rfl, Nat.le_of_ble_eq_true rfl⟩ (Nat.le_of_ble_eq_true rfl) dX10_isSheet_6 (fun H locs hw => ?_)
  replace hm := gd_e hm
  obtain ⟨g_3, hm⟩ := hm
  obtain rfl := Option.some.inj hm
  exact hret _ _ _ _ hw dX10_isSheet_9 g_3
def m_X10_sheet_L35 (x1 : Int32) (x2 : Int32) (σ : Int32 × ST) : Option ((Int32 × ST) ⊕ (ST)) := (fun (q_24 : Int32 × ST) => un q_24 (fun y_9 t_10 => if x2 ≤ y_9 then some (.inr t_10) else gd (¬ ((((40 : Int32) * x1) + y_9) < 0 ∨ 120 ≤ (((40 : Int32) * x1) + y_9).toNatClampNeg)) (lt (wB t_10 0 (((40 : Int32) * x1) + y_9).toNatClampNeg (0 : Int64)) (fun t_22 => lt (y_9 + 1) (fun x_23 => some (.inl (x_23, t_22))))))) σ
def m_X10_sheet (t : ST) (x1 : Int32) (x2 : Int32) : Option (Int32 × ST) := Option.bind (m_X10_isSheet x1) (fun (r_2 : Int32) => if r_2 = 0 then some ((-2 : Int32), t) else if x2 ≤ (40 : Int32) then if 0 ≤ x2 then gd (¬ (x1 < 0 ∨ 3 ≤ x1.toNatClampNeg)) (lt (wA t 0 x1.toNatClampNeg x2) (fun t_8 => Option.bind (vLoop (m_X10_sheet_L35 x1 x2) FUEL ((0 : Int32), t_8)) (fun (t_11 : ST) => some (x2, t_11)))) else Option.bind (m_X10_finds t (3 : Int32)) (fun (q_28 : Int32 × ST) => un q_28 (fun r_26 t_27 => some (r_26, t_27))) else some ((-2 : Int32), t))
theorem yo_X10_sheet : yX10_sheet.cls = RX10 ∧ yX10_sheet.cls ≠ "java/lang/invoke/MethodHandle" ∧ yX10_sheet.cls ≠ "java/lang/invoke/VarHandle" ∧ (parseMethodDescriptor yX10_sheet.desc).map (fun d => d.parameters.length) = some 2 := by decide +kernel
set_option maxHeartbeats 4000000 in
set_option maxRecDepth 100000 in
theorem c_X10_sheet {l : Launch} {g : gT} {h : Nat → Nat} {t : ST} {x1 : Int32} {x2 : Int32} {r : Int32} {t' : ST} (hm : m_X10_sheet t x1 x2 = some (r, t')) : MetI l g yX10_sheet cX10_sheet 4 (some .int) 2 45 20 h (cM g h t) (cM g h t') [.ref (h 0), .int x1, .int x2] r := by
  refine MetI.ofX (by decide +kernel) (Nat.le_of_ble_eq_true rfl) ?_
  intro p e s m below meth c AV Q X hret ls hw hl
  replace X : Cx g p s m AV c cX10_sheet RX10 4 := X
  replace hl : lv_has ls 4 [(0, .ref (h 0)), (1, .int x1), (2, .int x2)] := hl
  unfold m_X10_sheet at hm
  refine lv_iload_n X.1 X.2.1 dX10_sheet_0 rfl (lv_at hl 1 rfl) ?_
  replace hm := ob_e hm
  obtain ⟨r_2, h_1, hm⟩ := hm
  refine k_Si (As := [.int x1]) X hl.1 hw (c_X10_isSheet h_1) ⟨wq_47_13, wq_47_14, wq_1_5, wq_47_15⟩ yo_X10_isSheet rfl ⟨Nat.le_of_ble_eq_true rfl, Nat.le_of_ble_eq_true rfl⟩ (Nat.le_of_ble_eq_true rfl) dX10_sheet_1 (fun H locs hw => ?_)
  refine lv_if_eq (tgt := 13) X.1 X.2.1 dX10_sheet_4 (by decide) (fun c_3 => ?_) (fun c_3 => ?_)
  · replace hm := it_p hm c_3
    refine lv_bipush (v := -2) X.1 X.2.1 dX10_sheet_13 (by decide) ?_
    obtain ⟨rfl, rfl⟩ := Prod.mk.inj (Option.some.inj hm)
    exact hret _ _ _ _ hw dX10_sheet_15
  · replace hm := it_n hm c_3
    refine lv_iload_n X.1 X.2.1 dX10_sheet_7 rfl (lv_at hl 2 rfl) ?_
    refine lv_bipush (v := 40) X.1 X.2.1 dX10_sheet_8 (by decide) ?_
    refine lv_icmp_le (tgt := 16) X.1 X.2.1 dX10_sheet_10 (by decide) (fun c_5 => ?_) (fun c_5 => ?_)
    · replace hm := it_p hm c_5
      refine lv_iload_n X.1 X.2.1 dX10_sheet_16 rfl (lv_at hl 2 rfl) ?_
      refine lv_if_ge (tgt := 26) X.1 X.2.1 dX10_sheet_17 (by decide) (fun c_6 => ?_) (fun c_6 => ?_)
      · replace hm := it_p hm c_6
        refine lv_aload_n X.1 X.2.1 dX10_sheet_26 rfl (lv_at hl 0 rfl) ?_
        refine gX10_sizes X hw wq_5_9 dX10_sheet_27 ?_
        refine lv_iload_n X.1 X.2.1 dX10_sheet_30 rfl (lv_at hl 1 rfl) ?_
        refine lv_iload_n X.1 X.2.1 dX10_sheet_31 rfl (lv_at hl 2 rfl) ?_
        replace hm := gd_e hm
        obtain ⟨g_7, hm⟩ := hm
        refine sMA0 X hw g_7 dX10_sheet_32 (fun H locs hw => ?_)
        obtain ⟨t_8, et_8⟩ : ∃ y, y = wA t 0 x1.toNatClampNeg x2 := ⟨_, rfl⟩
        rw [← et_8] at hw
        replace hm := lt_e hm et_8
        refine lv_iconst (v := 0) X.1 X.2.1 dX10_sheet_33 (by decide) ?_
        refine lv_istore_n (lv' := [(3, .int (0 : Int32)), (0, .ref (h 0)), (1, .int x1), (2, .int x2)]) X.1 X.2.1 dX10_sheet_34 rfl hl (by decide) rfl (fun ls hl => ?_)
        replace hm := ob_e hm
        obtain ⟨t_11, hL_18, hm⟩ := hm
        have J_17 : ∀ (H : Heap) (locs : List Loc) (ls : Array Slot), Wd g 20 h (cM g h t_11) s H locs → lv_has ls 4 [(2, .int x2)] → W p l e (rW 2 45) s m AV below meth c H locs 0 0 Q (F0 m 58 ls []) := by
          intro H locs ls hw hl
          refine lv_iload_n X.1 X.2.1 dX10_sheet_58 rfl (lv_at hl 0 rfl) ?_
          obtain ⟨rfl, rfl⟩ := Prod.mk.inj (Option.some.inj hm)
          exact hret _ _ _ _ hw dX10_sheet_59
        refine vLoop_ind (B := (m_X10_sheet_L35 x1 x2)) (fun σ => ∀ (H : Heap) (locs : List Loc) (ls : Array Slot), Wd g 20 h (cM g h σ.2) s H locs → lv_has ls 4 [(0, .ref (h 0)), (1, .int x1), (2, .int x2), (3, .int σ.1)] → W p l e (rW 2 45) s m AV below meth c H locs 0 0 Q (F0 m 35 ls [])) (fun z' => z' = t_11) ?_ FUEL _ _ hL_18 rfl _ _ _ hw (lv_sub hl [1, 2, 3, 0] rfl)
        intro σ z_16 hz_13 hn_14 hx_15
        obtain ⟨y_9, t_10⟩ := σ
        intro H locs ls hw hl
        replace hw : Wd g 20 h (cM g h t_10) s H locs := hw
        replace hl : lv_has ls 4 [(0, .ref (h 0)), (1, .int x1), (2, .int x2), (3, .int y_9)] := hl
        unfold m_X10_sheet_L35 at hz_13
        replace hz_13 := un_e hz_13
        refine lv_iload_n X.1 X.2.1 dX10_sheet_35 rfl (lv_at hl 3 rfl) ?_
        refine lv_iload_n X.1 X.2.1 dX10_sheet_36 rfl (lv_at hl 2 rfl) ?_
        refine lv_icmp_ge (tgt := 58) X.1 X.2.1 dX10_sheet_37 (by decide) (fun c_20 => ?_) (fun c_20 => ?_)
        · replace hz_13 := it_p hz_13 c_20
          obtain rfl := hx_15 _ (Option.some.inj hz_13).symm
          exact J_17 _ _ _ hw (lv_sub hl [2] rfl)
        · replace hz_13 := it_n hz_13 c_20
          refine lv_aload_n X.1 X.2.1 dX10_sheet_40 rfl (lv_at hl 0 rfl) ?_
          refine gX10_items X hw wq_5_10 dX10_sheet_41 ?_
          refine lv_bipush (v := 40) X.1 X.2.1 dX10_sheet_44 (by decide) ?_
          refine lv_iload_n X.1 X.2.1 dX10_sheet_46 rfl (lv_at hl 1 rfl) ?_
          refine lv_imul X.1 X.2.1 dX10_sheet_47 ?_
          refine lv_iload_n X.1 X.2.1 dX10_sheet_48 rfl (lv_at hl 3 rfl) ?_
          refine lv_iadd X.1 X.2.1 dX10_sheet_49 ?_
          refine lv_lconst (v := 0) X.1 X.2.1 dX10_sheet_50 (by decide) ?_
          replace hz_13 := gd_e hz_13
          obtain ⟨g_21, hz_13⟩ := hz_13
          refine sMB0 X hw g_21 dX10_sheet_51 (fun H locs hw => ?_)
          obtain ⟨t_22, et_22⟩ : ∃ y, y = wB t_10 0 (((40 : Int32) * x1) + y_9).toNatClampNeg (0 : Int64) := ⟨_, rfl⟩
          rw [← et_22] at hw
          replace hz_13 := lt_e hz_13 et_22
          obtain ⟨x_23, ex_23⟩ : ∃ y : Int32, y = y_9 + 1 := ⟨_, rfl⟩
          replace hz_13 := lt_e hz_13 ex_23
          refine lv_iinc (v := x_23) (lv' := [(3, .int x_23), (0, .ref (h 0)), (1, .int x1), (2, .int x2)]) X.1 X.2.1 dX10_sheet_52 hl (k := 3) rfl (by rw [ex_23]; rfl) (by decide) rfl (fun ls hl => ?_)
          refine lv_goto (tgt := 35) X.1 X.2.1 dX10_sheet_55 (by decide) ?_
          exact hn_14 _ (Option.some.inj hz_13).symm _ _ _ hw (lv_sub hl [1, 2, 3, 0] rfl)
      · replace hm := it_n hm c_6
        refine lv_aload_n X.1 X.2.1 dX10_sheet_20 rfl (lv_at hl 0 rfl) ?_
        refine lv_iconst (v := 3) X.1 X.2.1 dX10_sheet_21 (by decide) ?_
        replace hm := ob_e hm
        obtain ⟨⟨r_26, t_27⟩, h_25, hm⟩ := hm
        replace hm := un_e hm
        refine k_Vi (k := 0) (As := [.int (3 : Int32)]) X hl.1 hw (c_X10_finds h_25) (by decide) (he_X10 g h _) rfl ⟨wq_47_16, wq_47_17, wq_47_18, wq_1_5, wq_47_19⟩ yo_X10_finds rfl ⟨Nat.le_of_ble_eq_true rfl, Nat.le_of_ble_eq_true rfl⟩ (Nat.le_of_ble_eq_true rfl) dX10_sheet_22 (fun H locs hw => ?_)
        obtain ⟨rfl, rfl⟩ := Prod.mk.inj (Option.some.inj hm)
        exact hret _ _ _ _ hw dX10_sheet_25
    · replace hm := it_n hm c_5
      refine lv_bipush (v := -2) X.1 X.2.1 dX10_sheet_13 (by decide) ?_
      obtain ⟨rfl, rfl⟩ := Prod.mk.inj (Option.some.inj hm)
      exact hret _ _ _ _ hw dX10_sheet_15
def m_X10_lose (t : ST) (x1 : Int32) : Option (Int32 × ST) := Option.bind (m_X10_isSheet x1) (fun (r_2 : Int32) => if r_2 = 0 then some ((-2 : Int32), t) else gd (¬ (x1 < 0 ∨ 3 ≤ x1.toNatClampNeg)) (if (t.2.2.1 0 x1.toNatClampNeg) = (-1 : Int32) then Option.bind (m_X10_finds t (1 : Int32)) (fun (q_14 : Int32 × ST) => un q_14 (fun r_12 t_13 => some (r_12, t_13))) else gd (¬ (x1 < 0 ∨ 3 ≤ x1.toNatClampNeg)) (lt (t.2.2.1 0 x1.toNatClampNeg) (fun x_7 => gd (¬ (x1 < 0 ∨ 3 ≤ x1.toNatClampNeg)) (lt (wA t 0 x1.toNatClampNeg (-1 : Int32)) (fun t_9 => some (x_7, t_9)))))))
theorem yo_X10_lose : yX10_lose.cls = RX10 ∧ yX10_lose.cls ≠ "java/lang/invoke/MethodHandle" ∧ yX10_lose.cls ≠ "java/lang/invoke/VarHandle" ∧ (parseMethodDescriptor yX10_lose.desc).map (fun d => d.parameters.length) = some 1 := by decide +kernel
set_option maxHeartbeats 4000000 in
set_option maxRecDepth 100000 in
theorem c_X10_lose {l : Launch} {g : gT} {h : Nat → Nat} {t : ST} {x1 : Int32} {r : Int32} {t' : ST} (hm : m_X10_lose t x1 = some (r, t')) : MetI l g yX10_lose cX10_lose 3 (some .int) 2 45 20 h (cM g h t) (cM g h t') [.ref (h 0), .int x1] r := by
  refine MetI.ofX (by decide +kernel) (Nat.le_of_ble_eq_true rfl) ?_
  intro p e s m below meth c AV Q X hret ls hw hl
  replace X : Cx g p s m AV c cX10_lose RX10 3 := X
  replace hl : lv_has ls 3 [(0, .ref (h 0)), (1, .int x1)] := hl
  unfold m_X10_lose at hm
  refine lv_iload_n X.1 X.2.1 dX10_lose_0 rfl (lv_at hl 1 rfl) ?_
  replace hm := ob_e hm
  obtain ⟨r_2, h_1, hm⟩ := hm
  refine k_Si (As := [.int x1]) X hl.1 hw (c_X10_isSheet h_1) ⟨wq_47_13, wq_47_14, wq_1_5, wq_47_15⟩ yo_X10_isSheet rfl ⟨Nat.le_of_ble_eq_true rfl, Nat.le_of_ble_eq_true rfl⟩ (Nat.le_of_ble_eq_true rfl) dX10_lose_1 (fun H locs hw => ?_)
  refine lv_if_ne (tgt := 10) X.1 X.2.1 dX10_lose_4 (by decide) (fun c_3 => ?_) (fun c_3 => ?_)
  · replace hm := it_n hm c_3
    refine lv_aload_n X.1 X.2.1 dX10_lose_10 rfl (lv_at hl 0 rfl) ?_
    refine gX10_sizes X hw wq_5_9 dX10_lose_11 ?_
    refine lv_iload_n X.1 X.2.1 dX10_lose_14 rfl (lv_at hl 1 rfl) ?_
    replace hm := gd_e hm
    obtain ⟨g_4, hm⟩ := hm
    refine lMA0 X hw g_4 dX10_lose_15 ?_
    refine lv_iconst (v := -1) X.1 X.2.1 dX10_lose_16 (by decide) ?_
    refine lv_icmp_ne (tgt := 26) X.1 X.2.1 dX10_lose_17 (by decide) (fun c_5 => ?_) (fun c_5 => ?_)
    · replace hm := it_n hm c_5
      refine lv_aload_n X.1 X.2.1 dX10_lose_26 rfl (lv_at hl 0 rfl) ?_
      refine gX10_sizes X hw wq_5_9 dX10_lose_27 ?_
      refine lv_iload_n X.1 X.2.1 dX10_lose_30 rfl (lv_at hl 1 rfl) ?_
      replace hm := gd_e hm
      obtain ⟨g_6, hm⟩ := hm
      refine lMA0 X hw g_6 dX10_lose_31 ?_
      refine lv_topi (fun x_7 ex_7 => ?_)
      replace hm := lt_e hm ex_7
      refine lv_istore_n (lv' := [(2, .int x_7), (0, .ref (h 0)), (1, .int x1)]) X.1 X.2.1 dX10_lose_32 rfl hl (by decide) rfl (fun ls hl => ?_)
      refine lv_aload_n X.1 X.2.1 dX10_lose_33 rfl (lv_at hl 1 rfl) ?_
      refine gX10_sizes X hw wq_5_9 dX10_lose_34 ?_
      refine lv_iload_n X.1 X.2.1 dX10_lose_37 rfl (lv_at hl 2 rfl) ?_
      refine lv_iconst (v := -1) X.1 X.2.1 dX10_lose_38 (by decide) ?_
      replace hm := gd_e hm
      obtain ⟨g_8, hm⟩ := hm
      refine sMA0 X hw g_8 dX10_lose_39 (fun H locs hw => ?_)
      obtain ⟨t_9, et_9⟩ : ∃ y, y = wA t 0 x1.toNatClampNeg (-1 : Int32) := ⟨_, rfl⟩
      rw [← et_9] at hw
      replace hm := lt_e hm et_9
      refine lv_iload_n X.1 X.2.1 dX10_lose_40 rfl (lv_at hl 0 rfl) ?_
      obtain ⟨rfl, rfl⟩ := Prod.mk.inj (Option.some.inj hm)
      exact hret _ _ _ _ hw dX10_lose_41
    · replace hm := it_p hm c_5
      refine lv_aload_n X.1 X.2.1 dX10_lose_20 rfl (lv_at hl 0 rfl) ?_
      refine lv_iconst (v := 1) X.1 X.2.1 dX10_lose_21 (by decide) ?_
      replace hm := ob_e hm
      obtain ⟨⟨r_12, t_13⟩, h_11, hm⟩ := hm
      replace hm := un_e hm
      refine k_Vi (k := 0) (As := [.int (1 : Int32)]) X hl.1 hw (c_X10_finds h_11) (by decide) (he_X10 g h _) rfl ⟨wq_47_16, wq_47_17, wq_47_18, wq_1_5, wq_47_19⟩ yo_X10_finds rfl ⟨Nat.le_of_ble_eq_true rfl, Nat.le_of_ble_eq_true rfl⟩ (Nat.le_of_ble_eq_true rfl) dX10_lose_22 (fun H locs hw => ?_)
      obtain ⟨rfl, rfl⟩ := Prod.mk.inj (Option.some.inj hm)
      exact hret _ _ _ _ hw dX10_lose_25
  · replace hm := it_p hm c_3
    refine lv_bipush (v := -2) X.1 X.2.1 dX10_lose_7 (by decide) ?_
    obtain ⟨rfl, rfl⟩ := Prod.mk.inj (Option.some.inj hm)
    exact hret _ _ _ _ hw dX10_lose_9
def m_X10_lacks (t : ST) (x1 : Int32) (x2 : Int32) : Option (Int32 × ST) := gd (¬ (x1 < 0 ∨ 3 ≤ x1.toNatClampNeg)) (if (t.2.2.1 0 x1.toNatClampNeg) = (-1 : Int32) then Option.bind (m_X10_finds t (1 : Int32)) (fun (q_16 : Int32 × ST) => un q_16 (fun r_14 t_15 => some (r_14, t_15))) else gd (¬ (x1 < 0 ∨ 3 ≤ x1.toNatClampNeg)) (Option.bind (m_X10_in (x2.toInt64) (0 : Int64) (((t.2.2.1 0 x1.toNatClampNeg) - (1 : Int32)).toInt64)) (fun (r_5 : Int32) => if r_5 = 0 then Option.bind (m_X10_finds t (2 : Int32)) (fun (q_10 : Int32 × ST) => un q_10 (fun r_8 t_9 => some (r_8, t_9))) else some ((0 : Int32), t))))
theorem yo_X10_lacks : yX10_lacks.cls = RX10 ∧ yX10_lacks.cls ≠ "java/lang/invoke/MethodHandle" ∧ yX10_lacks.cls ≠ "java/lang/invoke/VarHandle" ∧ (parseMethodDescriptor yX10_lacks.desc).map (fun d => d.parameters.length) = some 2 := by decide +kernel
set_option maxHeartbeats 4000000 in
set_option maxRecDepth 100000 in
theorem c_X10_lacks {l : Launch} {g : gT} {h : Nat → Nat} {t : ST} {x1 : Int32} {x2 : Int32} {r : Int32} {t' : ST} (hm : m_X10_lacks t x1 x2 = some (r, t')) : MetI l g yX10_lacks cX10_lacks 3 (some .int) 1 25 20 h (cM g h t) (cM g h t') [.ref (h 0), .int x1, .int x2] r := by
  refine MetI.ofX (by decide +kernel) (Nat.le_of_ble_eq_true rfl) ?_
  intro p e s m below meth c AV Q X hret ls hw hl
  replace X : Cx g p s m AV c cX10_lacks RX10 3 := X
  replace hl : lv_has ls 3 [(0, .ref (h 0)), (1, .int x1), (2, .int x2)] := hl
  unfold m_X10_lacks at hm
  refine lv_aload_n X.1 X.2.1 dX10_lacks_0 rfl (lv_at hl 0 rfl) ?_
  refine gX10_sizes X hw wq_5_9 dX10_lacks_1 ?_
  refine lv_iload_n X.1 X.2.1 dX10_lacks_4 rfl (lv_at hl 1 rfl) ?_
  replace hm := gd_e hm
  obtain ⟨g_1, hm⟩ := hm
  refine lMA0 X hw g_1 dX10_lacks_5 ?_
  refine lv_iconst (v := -1) X.1 X.2.1 dX10_lacks_6 (by decide) ?_
  refine lv_icmp_ne (tgt := 18) X.1 X.2.1 dX10_lacks_7 (by decide) (fun c_2 => ?_) (fun c_2 => ?_)
  · replace hm := it_n hm c_2
    refine lv_iload_n X.1 X.2.1 dX10_lacks_18 rfl (lv_at hl 2 rfl) ?_
    refine lv_i2l X.1 X.2.1 dX10_lacks_19 rfl ?_
    refine lv_lconst (v := 0) X.1 X.2.1 dX10_lacks_20 (by decide) ?_
    refine lv_aload_n X.1 X.2.1 dX10_lacks_21 rfl (lv_at hl 0 rfl) ?_
    refine gX10_sizes X hw wq_5_9 dX10_lacks_22 ?_
    refine lv_iload_n X.1 X.2.1 dX10_lacks_25 rfl (lv_at hl 1 rfl) ?_
    replace hm := gd_e hm
    obtain ⟨g_3, hm⟩ := hm
    refine lMA0 X hw g_3 dX10_lacks_26 ?_
    refine lv_iconst (v := 1) X.1 X.2.1 dX10_lacks_27 (by decide) ?_
    refine lv_isub X.1 X.2.1 dX10_lacks_28 ?_
    refine lv_i2l X.1 X.2.1 dX10_lacks_29 rfl ?_
    replace hm := ob_e hm
    obtain ⟨r_5, h_4, hm⟩ := hm
    refine k_Si (As := [.long x2.toInt64, .long (0 : Int64), .long ((t.2.2.1 0 x1.toNatClampNeg) - (1 : Int32)).toInt64]) X hl.1 hw (c_X10_in h_4) ⟨wq_7_5, wq_7_6, wq_1_5, wq_7_7⟩ yo_X10_in rfl ⟨Nat.le_of_ble_eq_true rfl, Nat.le_of_ble_eq_true rfl⟩ (Nat.le_of_ble_eq_true rfl) dX10_lacks_30 (fun H locs hw => ?_)
    refine lv_if_eq (tgt := 40) X.1 X.2.1 dX10_lacks_33 (by decide) (fun c_6 => ?_) (fun c_6 => ?_)
    · replace hm := it_p hm c_6
      refine lv_aload_n X.1 X.2.1 dX10_lacks_40 rfl (lv_at hl 0 rfl) ?_
      refine lv_iconst (v := 2) X.1 X.2.1 dX10_lacks_41 (by decide) ?_
      replace hm := ob_e hm
      obtain ⟨⟨r_8, t_9⟩, h_7, hm⟩ := hm
      replace hm := un_e hm
      refine k_Vi (k := 0) (As := [.int (2 : Int32)]) X hl.1 hw (c_X10_finds h_7) (by decide) (he_X10 g h _) rfl ⟨wq_47_16, wq_47_17, wq_47_18, wq_1_5, wq_47_19⟩ yo_X10_finds rfl ⟨Nat.le_of_ble_eq_true rfl, Nat.le_of_ble_eq_true rfl⟩ (Nat.le_of_ble_eq_true rfl) dX10_lacks_42 (fun H locs hw => ?_)
      obtain ⟨rfl, rfl⟩ := Prod.mk.inj (Option.some.inj hm)
      exact hret _ _ _ _ hw dX10_lacks_45
    · replace hm := it_n hm c_6
      refine lv_iconst (v := 0) X.1 X.2.1 dX10_lacks_36 (by decide) ?_
      refine lv_goto (tgt := 45) X.1 X.2.1 dX10_lacks_37 (by decide) ?_
      obtain ⟨rfl, rfl⟩ := Prod.mk.inj (Option.some.inj hm)
      exact hret _ _ _ _ hw dX10_lacks_45
  · replace hm := it_p hm c_2
    refine lv_aload_n X.1 X.2.1 dX10_lacks_10 rfl (lv_at hl 0 rfl) ?_
    refine lv_iconst (v := 1) X.1 X.2.1 dX10_lacks_11 (by decide) ?_
    replace hm := ob_e hm
    obtain ⟨⟨r_14, t_15⟩, h_13, hm⟩ := hm
    replace hm := un_e hm
    refine k_Vi (k := 0) (As := [.int (1 : Int32)]) X hl.1 hw (c_X10_finds h_13) (by decide) (he_X10 g h _) rfl ⟨wq_47_16, wq_47_17, wq_47_18, wq_1_5, wq_47_19⟩ yo_X10_finds rfl ⟨Nat.le_of_ble_eq_true rfl, Nat.le_of_ble_eq_true rfl⟩ (Nat.le_of_ble_eq_true rfl) dX10_lacks_12 (fun H locs hw => ?_)
    refine lv_goto (tgt := 45) X.1 X.2.1 dX10_lacks_15 (by decide) ?_
    obtain ⟨rfl, rfl⟩ := Prod.mk.inj (Option.some.inj hm)
    exact hret _ _ _ _ hw dX10_lacks_45
def m_X10_lay (t : ST) (x1 : Int32) (x2 : Int32) (x3 : Int32) : Option (Int32 × ST) := Option.bind (m_X10_isSheet x1) (fun (r_2 : Int32) => if r_2 = 0 then some ((-2 : Int32), t) else Option.bind (m_X10_lacks t x1 x2) (fun (q_7 : Int32 × ST) => un q_7 (fun r_5 t_6 => if r_5 = 0 then gd (¬ ((((40 : Int32) * x1) + x2) < 0 ∨ 120 ≤ (((40 : Int32) * x1) + x2).toNatClampNeg)) (lt (wB t_6 0 (((40 : Int32) * x1) + x2).toNatClampNeg (x3.toInt64)) (fun t_10 => some ((1 : Int32), t_10))) else some (r_5, t_6))))
theorem yo_X10_lay : yX10_lay.cls = RX10 ∧ yX10_lay.cls ≠ "java/lang/invoke/MethodHandle" ∧ yX10_lay.cls ≠ "java/lang/invoke/VarHandle" ∧ (parseMethodDescriptor yX10_lay.desc).map (fun d => d.parameters.length) = some 3 := by decide +kernel
set_option maxHeartbeats 4000000 in
set_option maxRecDepth 100000 in
theorem c_X10_lay {l : Launch} {g : gT} {h : Nat → Nat} {t : ST} {x1 : Int32} {x2 : Int32} {x3 : Int32} {r : Int32} {t' : ST} (hm : m_X10_lay t x1 x2 x3 = some (r, t')) : MetI l g yX10_lay cX10_lay 5 (some .int) 2 47 20 h (cM g h t) (cM g h t') [.ref (h 0), .int x1, .int x2, .int x3] r := by
  refine MetI.ofX (by decide +kernel) (Nat.le_of_ble_eq_true rfl) ?_
  intro p e s m below meth c AV Q X hret ls hw hl
  replace X : Cx g p s m AV c cX10_lay RX10 5 := X
  replace hl : lv_has ls 5 [(0, .ref (h 0)), (1, .int x1), (2, .int x2), (3, .int x3)] := hl
  unfold m_X10_lay at hm
  refine lv_iload_n X.1 X.2.1 dX10_lay_0 rfl (lv_at hl 1 rfl) ?_
  replace hm := ob_e hm
  obtain ⟨r_2, h_1, hm⟩ := hm
  refine k_Si (As := [.int x1]) X hl.1 hw (c_X10_isSheet h_1) ⟨wq_47_13, wq_47_14, wq_1_5, wq_47_15⟩ yo_X10_isSheet rfl ⟨Nat.le_of_ble_eq_true rfl, Nat.le_of_ble_eq_true rfl⟩ (Nat.le_of_ble_eq_true rfl) dX10_lay_1 (fun H locs hw => ?_)
  refine lv_if_ne (tgt := 10) X.1 X.2.1 dX10_lay_4 (by decide) (fun c_3 => ?_) (fun c_3 => ?_)
  · replace hm := it_n hm c_3
    refine lv_aload_n X.1 X.2.1 dX10_lay_10 rfl (lv_at hl 0 rfl) ?_
    refine lv_iload_n X.1 X.2.1 dX10_lay_11 rfl (lv_at hl 1 rfl) ?_
    refine lv_iload_n X.1 X.2.1 dX10_lay_12 rfl (lv_at hl 2 rfl) ?_
    replace hm := ob_e hm
    obtain ⟨⟨r_5, t_6⟩, h_4, hm⟩ := hm
    replace hm := un_e hm
    refine k_Vi (k := 0) (As := [.int x1, .int x2]) X hl.1 hw (c_X10_lacks h_4) (by decide) (he_X10 g h _) rfl ⟨wq_49_19, wq_49_20, wq_49_21, wq_1_5, wq_49_22⟩ yo_X10_lacks rfl ⟨Nat.le_of_ble_eq_true rfl, Nat.le_of_ble_eq_true rfl⟩ (Nat.le_of_ble_eq_true rfl) dX10_lay_13 (fun H locs hw => ?_)
    refine lv_istore (lv' := [(4, .int r_5), (0, .ref (h 0)), (1, .int x1), (2, .int x2), (3, .int x3)]) X.1 X.2.1 dX10_lay_16 hl (by decide) rfl (fun ls hl => ?_)
    refine lv_iload X.1 X.2.1 dX10_lay_18 (lv_at hl 0 rfl) ?_
    refine lv_if_eq (tgt := 26) X.1 X.2.1 dX10_lay_20 (by decide) (fun c_8 => ?_) (fun c_8 => ?_)
    · replace hm := it_p hm c_8
      refine lv_aload_n X.1 X.2.1 dX10_lay_26 rfl (lv_at hl 1 rfl) ?_
      refine gX10_items X hw wq_5_10 dX10_lay_27 ?_
      refine lv_bipush (v := 40) X.1 X.2.1 dX10_lay_30 (by decide) ?_
      refine lv_iload_n X.1 X.2.1 dX10_lay_32 rfl (lv_at hl 2 rfl) ?_
      refine lv_imul X.1 X.2.1 dX10_lay_33 ?_
      refine lv_iload_n X.1 X.2.1 dX10_lay_34 rfl (lv_at hl 3 rfl) ?_
      refine lv_iadd X.1 X.2.1 dX10_lay_35 ?_
      refine lv_iload_n X.1 X.2.1 dX10_lay_36 rfl (lv_at hl 4 rfl) ?_
      refine lv_i2l X.1 X.2.1 dX10_lay_37 rfl ?_
      replace hm := gd_e hm
      obtain ⟨g_9, hm⟩ := hm
      refine sMB0 X hw g_9 dX10_lay_38 (fun H locs hw => ?_)
      obtain ⟨t_10, et_10⟩ : ∃ y, y = wB t_6 0 (((40 : Int32) * x1) + x2).toNatClampNeg (x3.toInt64) := ⟨_, rfl⟩
      rw [← et_10] at hw
      replace hm := lt_e hm et_10
      refine lv_iconst (v := 1) X.1 X.2.1 dX10_lay_39 (by decide) ?_
      obtain ⟨rfl, rfl⟩ := Prod.mk.inj (Option.some.inj hm)
      exact hret _ _ _ _ hw dX10_lay_40
    · replace hm := it_n hm c_8
      refine lv_iload X.1 X.2.1 dX10_lay_23 (lv_at hl 0 rfl) ?_
      obtain ⟨rfl, rfl⟩ := Prod.mk.inj (Option.some.inj hm)
      exact hret _ _ _ _ hw dX10_lay_25
  · replace hm := it_p hm c_3
    refine lv_bipush (v := -2) X.1 X.2.1 dX10_lay_7 (by decide) ?_
    obtain ⟨rfl, rfl⟩ := Prod.mk.inj (Option.some.inj hm)
    exact hret _ _ _ _ hw dX10_lay_9
def m_X10_get (t : ST) (x1 : Int32) (x2 : Int32) : Option (Int64 × ST) := Option.bind (m_X10_isSheet x1) (fun (r_2 : Int32) => if r_2 = 0 then Option.bind (m_X10_no (-2 : Int32)) (fun (r_16 : Int64) => some (r_16, t)) else Option.bind (m_X10_lacks t x1 x2) (fun (q_7 : Int32 × ST) => un q_7 (fun r_5 t_6 => if r_5 = 0 then lt (((40 : Int32) * x1) + x2) (fun x_9 => gd (¬ (x_9 < 0 ∨ 120 ≤ x_9.toNatClampNeg)) (some ((t_6.2.2.2 0 x_9.toNatClampNeg), t_6))) else Option.bind (m_X10_no r_5) (fun (r_13 : Int64) => some (r_13, t_6)))))
theorem yo_X10_get : yX10_get.cls = RX10 ∧ yX10_get.cls ≠ "java/lang/invoke/MethodHandle" ∧ yX10_get.cls ≠ "java/lang/invoke/VarHandle" ∧ (parseMethodDescriptor yX10_get.desc).map (fun d => d.parameters.length) = some 2 := by decide +kernel
set_option maxHeartbeats 4000000 in
set_option maxRecDepth 100000 in
theorem c_X10_get {l : Launch} {g : gT} {h : Nat → Nat} {t : ST} {x1 : Int32} {x2 : Int32} {r : Int64} {t' : ST} (hm : m_X10_get t x1 x2 = some (r, t')) : MetL l g yX10_get cX10_get 4 (some .long) 2 47 20 h (cM g h t) (cM g h t') [.ref (h 0), .int x1, .int x2] r := by
  refine MetL.ofX (by decide +kernel) (Nat.le_of_ble_eq_true rfl) ?_
  intro p e s m below meth c AV Q X hret ls hw hl
  replace X : Cx g p s m AV c cX10_get RX10 4 := X
  replace hl : lv_has ls 4 [(0, .ref (h 0)), (1, .int x1), (2, .int x2)] := hl
  unfold m_X10_get at hm
  refine lv_iload_n X.1 X.2.1 dX10_get_0 rfl (lv_at hl 1 rfl) ?_
  replace hm := ob_e hm
  obtain ⟨r_2, h_1, hm⟩ := hm
  refine k_Si (As := [.int x1]) X hl.1 hw (c_X10_isSheet h_1) ⟨wq_47_13, wq_47_14, wq_1_5, wq_47_15⟩ yo_X10_isSheet rfl ⟨Nat.le_of_ble_eq_true rfl, Nat.le_of_ble_eq_true rfl⟩ (Nat.le_of_ble_eq_true rfl) dX10_get_1 (fun H locs hw => ?_)
  refine lv_if_ne (tgt := 13) X.1 X.2.1 dX10_get_4 (by decide) (fun c_3 => ?_) (fun c_3 => ?_)
  · replace hm := it_n hm c_3
    refine lv_aload_n X.1 X.2.1 dX10_get_13 rfl (lv_at hl 0 rfl) ?_
    refine lv_iload_n X.1 X.2.1 dX10_get_14 rfl (lv_at hl 1 rfl) ?_
    refine lv_iload_n X.1 X.2.1 dX10_get_15 rfl (lv_at hl 2 rfl) ?_
    replace hm := ob_e hm
    obtain ⟨⟨r_5, t_6⟩, h_4, hm⟩ := hm
    replace hm := un_e hm
    refine k_Vi (k := 0) (As := [.int x1, .int x2]) X hl.1 hw (c_X10_lacks h_4) (by decide) (he_X10 g h _) rfl ⟨wq_49_19, wq_49_20, wq_49_21, wq_1_5, wq_49_22⟩ yo_X10_lacks rfl ⟨Nat.le_of_ble_eq_true rfl, Nat.le_of_ble_eq_true rfl⟩ (Nat.le_of_ble_eq_true rfl) dX10_get_16 (fun H locs hw => ?_)
    refine lv_istore_n (lv' := [(3, .int r_5), (0, .ref (h 0)), (1, .int x1), (2, .int x2)]) X.1 X.2.1 dX10_get_19 rfl hl (by decide) rfl (fun ls hl => ?_)
    refine lv_iload_n X.1 X.2.1 dX10_get_20 rfl (lv_at hl 0 rfl) ?_
    refine lv_if_eq (tgt := 31) X.1 X.2.1 dX10_get_21 (by decide) (fun c_8 => ?_) (fun c_8 => ?_)
    · replace hm := it_p hm c_8
      refine lv_aload_n X.1 X.2.1 dX10_get_31 rfl (lv_at hl 1 rfl) ?_
      refine gX10_items X hw wq_5_10 dX10_get_32 ?_
      refine lv_bipush (v := 40) X.1 X.2.1 dX10_get_35 (by decide) ?_
      refine lv_iload_n X.1 X.2.1 dX10_get_37 rfl (lv_at hl 2 rfl) ?_
      refine lv_imul X.1 X.2.1 dX10_get_38 ?_
      refine lv_iload_n X.1 X.2.1 dX10_get_39 rfl (lv_at hl 3 rfl) ?_
      refine lv_iadd X.1 X.2.1 dX10_get_40 ?_
      refine lv_topi (fun x_9 ex_9 => ?_)
      replace hm := lt_e hm ex_9
      replace hm := gd_e hm
      obtain ⟨g_10, hm⟩ := hm
      refine lMB0 X hw g_10 dX10_get_41 ?_
      obtain ⟨rfl, rfl⟩ := Prod.mk.inj (Option.some.inj hm)
      exact hret _ _ _ _ hw dX10_get_42
    · replace hm := it_n hm c_8
      refine lv_iload_n X.1 X.2.1 dX10_get_24 rfl (lv_at hl 0 rfl) ?_
      replace hm := ob_e hm
      obtain ⟨r_13, h_12, hm⟩ := hm
      refine k_Sl (As := [.int r_5]) X hl.1 hw (c_X10_no h_12) ⟨wq_19_10, wq_19_11, wq_1_5, wq_19_12⟩ yo_X10_no rfl ⟨Nat.le_of_ble_eq_true rfl, Nat.le_of_ble_eq_true rfl⟩ (Nat.le_of_ble_eq_true rfl) dX10_get_25 (fun H locs hw => ?_)
      refine lv_goto (tgt := 42) X.1 X.2.1 dX10_get_28 (by decide) ?_
      obtain ⟨rfl, rfl⟩ := Prod.mk.inj (Option.some.inj hm)
      exact hret _ _ _ _ hw dX10_get_42
  · replace hm := it_p hm c_3
    refine lv_bipush (v := -2) X.1 X.2.1 dX10_get_7 (by decide) ?_
    replace hm := ob_e hm
    obtain ⟨r_16, h_15, hm⟩ := hm
    refine k_Sl (As := [.int (-2 : Int32)]) X hl.1 hw (c_X10_no h_15) ⟨wq_19_10, wq_19_11, wq_1_5, wq_19_12⟩ yo_X10_no rfl ⟨Nat.le_of_ble_eq_true rfl, Nat.le_of_ble_eq_true rfl⟩ (Nat.le_of_ble_eq_true rfl) dX10_get_9 (fun H locs hw => ?_)
    obtain ⟨rfl, rfl⟩ := Prod.mk.inj (Option.some.inj hm)
    exact hret _ _ _ _ hw dX10_get_12
def m_X10_copy_L138 (x3 : Int32) (x4 : Int32) (x5 : Int32) (σ : Int32 × ST) : Option ((Int32 × ST) ⊕ (ST)) := (fun (q_53 : Int32 × ST) => un q_53 (fun y_36 t_37 => if x5 ≤ y_36 then some (.inr t_37) else lt ((((40 : Int32) * x3) + x4) + y_36) (fun x_48 => gd (¬ (y_36 < 0 ∨ 40 ≤ y_36.toNatClampNeg)) (gd (¬ (x_48 < 0 ∨ 120 ≤ x_48.toNatClampNeg)) (lt (wB t_37 0 x_48.toNatClampNeg (t_37.2.2.2 1 y_36.toNatClampNeg)) (fun t_51 => lt (y_36 + 1) (fun x_52 => some (.inl (x_52, t_51))))))))) σ
def m_X10_copy_L101 (x1 : Int32) (x2 : Int32) (x5 : Int32) (σ : Int32 × ST) : Option ((Int32 × ST) ⊕ (ST)) := (fun (q_67 : Int32 × ST) => un q_67 (fun y_33 t_34 => if x5 ≤ y_33 then some (.inr t_34) else lt ((((40 : Int32) * x1) + x2) + y_33) (fun x_62 => gd (¬ (x_62 < 0 ∨ 120 ≤ x_62.toNatClampNeg)) (gd (¬ (y_33 < 0 ∨ 40 ≤ y_33.toNatClampNeg)) (lt (wB t_34 1 y_33.toNatClampNeg (t_34.2.2.2 0 x_62.toNatClampNeg)) (fun t_65 => lt (y_33 + 1) (fun x_66 => some (.inl (x_66, t_65))))))))) σ
def m_X10_copy (t : ST) (x1 : Int32) (x2 : Int32) (x3 : Int32) (x4 : Int32) (x5 : Int32) : Option (Int32 × ST) := Option.bind (m_X10_isSheet x1) (fun (r_2 : Int32) => if r_2 = 0 then some ((-2 : Int32), t) else Option.bind (m_X10_isSheet x3) (fun (r_6 : Int32) => if r_6 = 0 then some ((-2 : Int32), t) else gd (¬ (x1 < 0 ∨ 3 ≤ x1.toNatClampNeg)) (Option.bind ((if (t.2.2.1 0 x1.toNatClampNeg) = (-1 : Int32) then some (.inl ()) else gd (¬ (x3 < 0 ∨ 3 ≤ x3.toNatClampNeg)) (if (t.2.2.1 0 x3.toNatClampNeg) = (-1 : Int32) then some (.inl ()) else Option.bind ((if x2 < 0 then some (.inl ()) else if x4 < 0 then some (.inl ()) else if x5 < 0 then some (.inl ()) else gd (¬ (x1 < 0 ∨ 3 ≤ x1.toNatClampNeg)) (if 0 < (lg_cmp (x2.toInt64 + x5.toInt64) ((t.2.2.1 0 x1.toNatClampNeg).toInt64)) then some (.inl ()) else gd (¬ (x3 < 0 ∨ 3 ≤ x3.toNatClampNeg)) (if (lg_cmp (x4.toInt64 + x5.toInt64) ((t.2.2.1 0 x3.toNatClampNeg).toInt64)) ≤ 0 then Option.bind (vLoop (m_X10_copy_L101 x1 x2 x5) FUEL ((0 : Int32), t)) (fun (t_35 : ST) => Option.bind (vLoop (m_X10_copy_L138 x3 x4 x5) FUEL ((0 : Int32), t_35)) (fun (t_38 : ST) => some (.inr (.inr ((1 : Int32), t_38))))) else some (.inl ())))) : Option ((Unit) ⊕ ((Unit) ⊕ (Int32 × ST)))) (fun z_68 => ex z_68 (fun (_ : Unit) => Option.bind (m_X10_finds t (2 : Int32)) (fun (q_23 : Int32 × ST) => un q_23 (fun r_21 t_22 => some (.inr (r_21, t_22))))) (fun r => some r)))) : Option ((Unit) ⊕ (Int32 × ST))) (fun z_69 => ex z_69 (fun (_ : Unit) => Option.bind (m_X10_finds t (1 : Int32)) (fun (q_13 : Int32 × ST) => un q_13 (fun r_11 t_12 => some (r_11, t_12)))) (fun r => some r)))))
theorem yo_X10_copy : yX10_copy.cls = RX10 ∧ yX10_copy.cls ≠ "java/lang/invoke/MethodHandle" ∧ yX10_copy.cls ≠ "java/lang/invoke/VarHandle" ∧ (parseMethodDescriptor yX10_copy.desc).map (fun d => d.parameters.length) = some 5 := by decide +kernel
set_option maxHeartbeats 4000000 in
set_option maxRecDepth 100000 in
theorem c_X10_copy {l : Launch} {g : gT} {h : Nat → Nat} {t : ST} {x1 : Int32} {x2 : Int32} {x3 : Int32} {x4 : Int32} {x5 : Int32} {r : Int32} {t' : ST} (hm : m_X10_copy t x1 x2 x3 x4 x5 = some (r, t')) : MetI l g yX10_copy cX10_copy 7 (some .int) 2 45 20 h (cM g h t) (cM g h t') [.ref (h 0), .int x1, .int x2, .int x3, .int x4, .int x5] r := by
  refine MetI.ofX (by decide +kernel) (Nat.le_of_ble_eq_true rfl) ?_
  intro p e s m below meth c AV Q X hret ls hw hl
  replace X : Cx g p s m AV c cX10_copy RX10 7 := X
  replace hl : lv_has ls 7 [(0, .ref (h 0)), (1, .int x1), (2, .int x2), (3, .int x3), (4, .int x4), (5, .int x5)] := hl
  unfold m_X10_copy at hm
  refine lv_iload_n X.1 X.2.1 dX10_copy_0 rfl (lv_at hl 1 rfl) ?_
  replace hm := ob_e hm
  obtain ⟨r_2, h_1, hm⟩ := hm
  refine k_Si (As := [.int x1]) X hl.1 hw (c_X10_isSheet h_1) ⟨wq_47_13, wq_47_14, wq_1_5, wq_47_15⟩ yo_X10_isSheet rfl ⟨Nat.le_of_ble_eq_true rfl, Nat.le_of_ble_eq_true rfl⟩ (Nat.le_of_ble_eq_true rfl) dX10_copy_1 (fun H locs hw => ?_)
  refine lv_if_eq (tgt := 14) X.1 X.2.1 dX10_copy_4 (by decide) (fun c_3 => ?_) (fun c_3 => ?_)
  · replace hm := it_p hm c_3
    refine lv_bipush (v := -2) X.1 X.2.1 dX10_copy_14 (by decide) ?_
    obtain ⟨rfl, rfl⟩ := Prod.mk.inj (Option.some.inj hm)
    exact hret _ _ _ _ hw dX10_copy_16
  · replace hm := it_n hm c_3
    refine lv_iload_n X.1 X.2.1 dX10_copy_7 rfl (lv_at hl 3 rfl) ?_
    replace hm := ob_e hm
    obtain ⟨r_6, h_5, hm⟩ := hm
    refine k_Si (As := [.int x3]) X hl.1 hw (c_X10_isSheet h_5) ⟨wq_47_13, wq_47_14, wq_1_5, wq_47_15⟩ yo_X10_isSheet rfl ⟨Nat.le_of_ble_eq_true rfl, Nat.le_of_ble_eq_true rfl⟩ (Nat.le_of_ble_eq_true rfl) dX10_copy_8 (fun H locs hw => ?_)
    refine lv_if_ne (tgt := 17) X.1 X.2.1 dX10_copy_11 (by decide) (fun c_7 => ?_) (fun c_7 => ?_)
    · replace hm := it_n hm c_7
      refine lv_aload_n X.1 X.2.1 dX10_copy_17 rfl (lv_at hl 0 rfl) ?_
      refine gX10_sizes X hw wq_5_9 dX10_copy_18 ?_
      refine lv_iload_n X.1 X.2.1 dX10_copy_21 rfl (lv_at hl 1 rfl) ?_
      replace hm := gd_e hm
      obtain ⟨g_8, hm⟩ := hm
      refine lMA0 X hw g_8 dX10_copy_22 ?_
      refine lv_iconst (v := -1) X.1 X.2.1 dX10_copy_23 (by decide) ?_
      replace hm := ob_e hm
      obtain ⟨z_69, hg_15, hm⟩ := hm
      have J_16 : z_69 = .inl () → ∀ (H : Heap) (locs : List Loc) (ls : Array Slot), Wd g 20 h (cM g h t) s H locs → lv_has ls 7 [(0, .ref (h 0))] → W p l e (rW 2 45) s m AV below meth c H locs 0 0 Q (F0 m 37 ls []) := by
        intro hj
        subst hj
        replace hm := ex_l hm
        intro H locs ls hw hl
        refine lv_aload_n X.1 X.2.1 dX10_copy_37 rfl (lv_at hl 0 rfl) ?_
        refine lv_iconst (v := 1) X.1 X.2.1 dX10_copy_38 (by decide) ?_
        replace hm := ob_e hm
        obtain ⟨⟨r_11, t_12⟩, h_10, hm⟩ := hm
        replace hm := un_e hm
        refine k_Vi (k := 0) (As := [.int (1 : Int32)]) X hl.1 hw (c_X10_finds h_10) (by decide) (he_X10 g h _) rfl ⟨wq_47_16, wq_47_17, wq_47_18, wq_1_5, wq_47_19⟩ yo_X10_finds rfl ⟨Nat.le_of_ble_eq_true rfl, Nat.le_of_ble_eq_true rfl⟩ (Nat.le_of_ble_eq_true rfl) dX10_copy_39 (fun H locs hw => ?_)
        obtain ⟨rfl, rfl⟩ := Prod.mk.inj (Option.some.inj hm)
        exact hret _ _ _ _ hw dX10_copy_42
      refine lv_icmp_eq (tgt := 37) X.1 X.2.1 dX10_copy_24 (by decide) (fun c_9 => ?_) (fun c_9 => ?_)
      · replace hg_15 := it_p hg_15 c_9
        exact J_16 (Option.some.inj hg_15).symm _ _ _ hw (lv_sub hl [0] rfl)
      · replace hg_15 := it_n hg_15 c_9
        refine lv_aload_n X.1 X.2.1 dX10_copy_27 rfl (lv_at hl 0 rfl) ?_
        refine gX10_sizes X hw wq_5_9 dX10_copy_28 ?_
        refine lv_iload_n X.1 X.2.1 dX10_copy_31 rfl (lv_at hl 3 rfl) ?_
        replace hg_15 := gd_e hg_15
        obtain ⟨g_17, hg_15⟩ := hg_15
        refine lMA0 X hw g_17 dX10_copy_32 ?_
        refine lv_iconst (v := -1) X.1 X.2.1 dX10_copy_33 (by decide) ?_
        refine lv_icmp_ne (tgt := 43) X.1 X.2.1 dX10_copy_34 (by decide) (fun c_18 => ?_) (fun c_18 => ?_)
        · replace hg_15 := it_n hg_15 c_18
          refine lv_iload_n X.1 X.2.1 dX10_copy_43 rfl (lv_at hl 2 rfl) ?_
          replace hg_15 := ob_e hg_15
          obtain ⟨z_68, hg_25, hg_15⟩ := hg_15
          have J_26 : z_68 = .inl () → ∀ (H : Heap) (locs : List Loc) (ls : Array Slot), Wd g 20 h (cM g h t) s H locs → lv_has ls 7 [(0, .ref (h 0))] → W p l e (rW 2 45) s m AV below meth c H locs 0 0 Q (F0 m 92 ls []) := by
            intro hj
            subst hj
            replace hg_15 := ex_l hg_15
            intro H locs ls hw hl
            refine lv_aload_n X.1 X.2.1 dX10_copy_92 rfl (lv_at hl 0 rfl) ?_
            refine lv_iconst (v := 2) X.1 X.2.1 dX10_copy_93 (by decide) ?_
            replace hg_15 := ob_e hg_15
            obtain ⟨⟨r_21, t_22⟩, h_20, hg_15⟩ := hg_15
            replace hg_15 := un_e hg_15
            refine k_Vi (k := 0) (As := [.int (2 : Int32)]) X hl.1 hw (c_X10_finds h_20) (by decide) (he_X10 g h _) rfl ⟨wq_47_16, wq_47_17, wq_47_18, wq_1_5, wq_47_19⟩ yo_X10_finds rfl ⟨Nat.le_of_ble_eq_true rfl, Nat.le_of_ble_eq_true rfl⟩ (Nat.le_of_ble_eq_true rfl) dX10_copy_94 (fun H locs hw => ?_)
            obtain rfl := Option.some.inj hg_15
            replace hm := ex_r hm
            obtain ⟨rfl, rfl⟩ := Prod.mk.inj (Option.some.inj hm)
            exact hret _ _ _ _ hw dX10_copy_97
          refine lv_if_lt (tgt := 92) X.1 X.2.1 dX10_copy_44 (by decide) (fun c_19 => ?_) (fun c_19 => ?_)
          · replace hg_25 := it_p hg_25 c_19
            exact J_26 (Option.some.inj hg_25).symm _ _ _ hw (lv_sub hl [0] rfl)
          · replace hg_25 := it_n hg_25 c_19
            refine lv_iload X.1 X.2.1 dX10_copy_47 (lv_at hl 4 rfl) ?_
            refine lv_if_lt (tgt := 92) X.1 X.2.1 dX10_copy_49 (by decide) (fun c_27 => ?_) (fun c_27 => ?_)
            · replace hg_25 := it_p hg_25 c_27
              exact J_26 (Option.some.inj hg_25).symm _ _ _ hw (lv_sub hl [0] rfl)
            · replace hg_25 := it_n hg_25 c_27
              refine lv_iload X.1 X.2.1 dX10_copy_52 (lv_at hl 5 rfl) ?_
              refine lv_if_lt (tgt := 92) X.1 X.2.1 dX10_copy_54 (by decide) (fun c_28 => ?_) (fun c_28 => ?_)
              · replace hg_25 := it_p hg_25 c_28
                exact J_26 (Option.some.inj hg_25).symm _ _ _ hw (lv_sub hl [0] rfl)
              · replace hg_25 := it_n hg_25 c_28
                refine lv_iload_n X.1 X.2.1 dX10_copy_57 rfl (lv_at hl 2 rfl) ?_
                refine lv_i2l X.1 X.2.1 dX10_copy_58 rfl ?_
                refine lv_iload X.1 X.2.1 dX10_copy_59 (lv_at hl 5 rfl) ?_
                refine lv_i2l X.1 X.2.1 dX10_copy_61 rfl ?_
                refine lv_ladd X.1 X.2.1 dX10_copy_62 ?_
                refine lv_aload_n X.1 X.2.1 dX10_copy_63 rfl (lv_at hl 0 rfl) ?_
                refine gX10_sizes X hw wq_5_9 dX10_copy_64 ?_
                refine lv_iload_n X.1 X.2.1 dX10_copy_67 rfl (lv_at hl 1 rfl) ?_
                replace hg_25 := gd_e hg_25
                obtain ⟨g_29, hg_25⟩ := hg_25
                refine lMA0 X hw g_29 dX10_copy_68 ?_
                refine lv_i2l X.1 X.2.1 dX10_copy_69 rfl ?_
                refine W.lcmp X.1 X.2.1 dX10_copy_70 ?_
                refine lv_if_gt (tgt := 92) X.1 X.2.1 dX10_copy_71 (by decide) (fun c_30 => ?_) (fun c_30 => ?_)
                · replace hg_25 := it_p hg_25 c_30
                  exact J_26 (Option.some.inj hg_25).symm _ _ _ hw (lv_sub hl [0] rfl)
                · replace hg_25 := it_n hg_25 c_30
                  refine lv_iload X.1 X.2.1 dX10_copy_74 (lv_at hl 4 rfl) ?_
                  refine lv_i2l X.1 X.2.1 dX10_copy_76 rfl ?_
                  refine lv_iload X.1 X.2.1 dX10_copy_77 (lv_at hl 5 rfl) ?_
                  refine lv_i2l X.1 X.2.1 dX10_copy_79 rfl ?_
                  refine lv_ladd X.1 X.2.1 dX10_copy_80 ?_
                  refine lv_aload_n X.1 X.2.1 dX10_copy_81 rfl (lv_at hl 0 rfl) ?_
                  refine gX10_sizes X hw wq_5_9 dX10_copy_82 ?_
                  refine lv_iload_n X.1 X.2.1 dX10_copy_85 rfl (lv_at hl 3 rfl) ?_
                  replace hg_25 := gd_e hg_25
                  obtain ⟨g_31, hg_25⟩ := hg_25
                  refine lMA0 X hw g_31 dX10_copy_86 ?_
                  refine lv_i2l X.1 X.2.1 dX10_copy_87 rfl ?_
                  refine W.lcmp X.1 X.2.1 dX10_copy_88 ?_
                  refine lv_if_le (tgt := 98) X.1 X.2.1 dX10_copy_89 (by decide) (fun c_32 => ?_) (fun c_32 => ?_)
                  · replace hg_25 := it_p hg_25 c_32
                    refine lv_iconst (v := 0) X.1 X.2.1 dX10_copy_98 (by decide) ?_
                    refine lv_istore (lv' := [(6, .int (0 : Int32)), (0, .ref (h 0)), (1, .int x1), (2, .int x2), (3, .int x3), (4, .int x4), (5, .int x5)]) X.1 X.2.1 dX10_copy_99 hl (by decide) rfl (fun ls hl => ?_)
                    replace hg_25 := ob_e hg_25
                    obtain ⟨t_35, hL_59, hg_25⟩ := hg_25
                    have J_58 : ∀ (H : Heap) (locs : List Loc) (ls : Array Slot), Wd g 20 h (cM g h t_35) s H locs → lv_has ls 7 [(0, .ref (h 0)), (3, .int x3), (4, .int x4), (5, .int x5)] → W p l e (rW 2 45) s m AV below meth c H locs 0 0 Q (F0 m 135 ls []) := by
                      intro H locs ls hw hl
                      refine lv_iconst (v := 0) X.1 X.2.1 dX10_copy_135 (by decide) ?_
                      refine lv_istore (lv' := [(6, .int (0 : Int32)), (0, .ref (h 0)), (3, .int x3), (4, .int x4), (5, .int x5)]) X.1 X.2.1 dX10_copy_136 hl (by decide) rfl (fun ls hl => ?_)
                      replace hg_25 := ob_e hg_25
                      obtain ⟨t_38, hL_45, hg_25⟩ := hg_25
                      have J_44 : ∀ (H : Heap) (locs : List Loc) (ls : Array Slot), Wd g 20 h (cM g h t_38) s H locs → lv_has ls 7 [] → W p l e (rW 2 45) s m AV below meth c H locs 0 0 Q (F0 m 173 ls []) := by
                        intro H locs ls hw hl
                        refine lv_iconst (v := 1) X.1 X.2.1 dX10_copy_173 (by decide) ?_
                        obtain rfl := Option.some.inj hg_25
                        replace hg_15 := ex_r hg_15
                        obtain rfl := Option.some.inj hg_15
                        replace hm := ex_r hm
                        obtain ⟨rfl, rfl⟩ := Prod.mk.inj (Option.some.inj hm)
                        exact hret _ _ _ _ hw dX10_copy_174
                      refine vLoop_ind (B := (m_X10_copy_L138 x3 x4 x5)) (fun σ => ∀ (H : Heap) (locs : List Loc) (ls : Array Slot), Wd g 20 h (cM g h σ.2) s H locs → lv_has ls 7 [(0, .ref (h 0)), (3, .int x3), (4, .int x4), (5, .int x5), (6, .int σ.1)] → W p l e (rW 2 45) s m AV below meth c H locs 0 0 Q (F0 m 138 ls [])) (fun z' => z' = t_38) ?_ FUEL _ _ hL_45 rfl _ _ _ hw (lv_sub hl [1, 2, 3, 4, 0] rfl)
                      intro σ z_43 hz_40 hn_41 hx_42
                      obtain ⟨y_36, t_37⟩ := σ
                      intro H locs ls hw hl
                      replace hw : Wd g 20 h (cM g h t_37) s H locs := hw
                      replace hl : lv_has ls 7 [(0, .ref (h 0)), (3, .int x3), (4, .int x4), (5, .int x5), (6, .int y_36)] := hl
                      unfold m_X10_copy_L138 at hz_40
                      replace hz_40 := un_e hz_40
                      refine lv_iload X.1 X.2.1 dX10_copy_138 (lv_at hl 4 rfl) ?_
                      refine lv_iload X.1 X.2.1 dX10_copy_140 (lv_at hl 3 rfl) ?_
                      refine lv_icmp_ge (tgt := 173) X.1 X.2.1 dX10_copy_142 (by decide) (fun c_47 => ?_) (fun c_47 => ?_)
                      · replace hz_40 := it_p hz_40 c_47
                        obtain rfl := hx_42 _ (Option.some.inj hz_40).symm
                        exact J_44 _ _ _ hw (lv_sub hl [] rfl)
                      · replace hz_40 := it_n hz_40 c_47
                        refine lv_aload_n X.1 X.2.1 dX10_copy_145 rfl (lv_at hl 0 rfl) ?_
                        refine gX10_items X hw wq_5_10 dX10_copy_146 ?_
                        refine lv_bipush (v := 40) X.1 X.2.1 dX10_copy_149 (by decide) ?_
                        refine lv_iload_n X.1 X.2.1 dX10_copy_151 rfl (lv_at hl 1 rfl) ?_
                        refine lv_imul X.1 X.2.1 dX10_copy_152 ?_
                        refine lv_iload X.1 X.2.1 dX10_copy_153 (lv_at hl 2 rfl) ?_
                        refine lv_iadd X.1 X.2.1 dX10_copy_155 ?_
                        refine lv_iload X.1 X.2.1 dX10_copy_156 (lv_at hl 4 rfl) ?_
                        refine lv_iadd X.1 X.2.1 dX10_copy_158 ?_
                        refine lv_topi (fun x_48 ex_48 => ?_)
                        replace hz_40 := lt_e hz_40 ex_48
                        refine lv_aload_n X.1 X.2.1 dX10_copy_159 rfl (lv_at hl 0 rfl) ?_
                        refine gX10_aside X hw wq_5_11 dX10_copy_160 ?_
                        refine lv_iload X.1 X.2.1 dX10_copy_163 (lv_at hl 4 rfl) ?_
                        replace hz_40 := gd_e hz_40
                        obtain ⟨g_49, hz_40⟩ := hz_40
                        refine lMB1 X hw g_49 dX10_copy_165 ?_
                        replace hz_40 := gd_e hz_40
                        obtain ⟨g_50, hz_40⟩ := hz_40
                        refine sMB0 X hw g_50 dX10_copy_166 (fun H locs hw => ?_)
                        obtain ⟨t_51, et_51⟩ : ∃ y, y = wB t_37 0 x_48.toNatClampNeg (t_37.2.2.2 1 y_36.toNatClampNeg) := ⟨_, rfl⟩
                        rw [← et_51] at hw
                        replace hz_40 := lt_e hz_40 et_51
                        obtain ⟨x_52, ex_52⟩ : ∃ y : Int32, y = y_36 + 1 := ⟨_, rfl⟩
                        replace hz_40 := lt_e hz_40 ex_52
                        refine lv_iinc (v := x_52) (lv' := [(6, .int x_52), (0, .ref (h 0)), (3, .int x3), (4, .int x4), (5, .int x5)]) X.1 X.2.1 dX10_copy_167 hl (k := 4) rfl (by rw [ex_52]; rfl) (by decide) rfl (fun ls hl => ?_)
                        refine lv_goto (tgt := 138) X.1 X.2.1 dX10_copy_170 (by decide) ?_
                        exact hn_41 _ (Option.some.inj hz_40).symm _ _ _ hw (lv_sub hl [1, 2, 3, 4, 0] rfl)
                    refine vLoop_ind (B := (m_X10_copy_L101 x1 x2 x5)) (fun σ => ∀ (H : Heap) (locs : List Loc) (ls : Array Slot), Wd g 20 h (cM g h σ.2) s H locs → lv_has ls 7 [(0, .ref (h 0)), (1, .int x1), (2, .int x2), (3, .int x3), (4, .int x4), (5, .int x5), (6, .int σ.1)] → W p l e (rW 2 45) s m AV below meth c H locs 0 0 Q (F0 m 101 ls [])) (fun z' => z' = t_35) ?_ FUEL _ _ hL_59 rfl _ _ _ hw (lv_sub hl [1, 2, 3, 4, 5, 6, 0] rfl)
                    intro σ z_57 hz_54 hn_55 hx_56
                    obtain ⟨y_33, t_34⟩ := σ
                    intro H locs ls hw hl
                    replace hw : Wd g 20 h (cM g h t_34) s H locs := hw
                    replace hl : lv_has ls 7 [(0, .ref (h 0)), (1, .int x1), (2, .int x2), (3, .int x3), (4, .int x4), (5, .int x5), (6, .int y_33)] := hl
                    unfold m_X10_copy_L101 at hz_54
                    replace hz_54 := un_e hz_54
                    refine lv_iload X.1 X.2.1 dX10_copy_101 (lv_at hl 6 rfl) ?_
                    refine lv_iload X.1 X.2.1 dX10_copy_103 (lv_at hl 5 rfl) ?_
                    refine lv_icmp_ge (tgt := 135) X.1 X.2.1 dX10_copy_105 (by decide) (fun c_61 => ?_) (fun c_61 => ?_)
                    · replace hz_54 := it_p hz_54 c_61
                      obtain rfl := hx_56 _ (Option.some.inj hz_54).symm
                      exact J_58 _ _ _ hw (lv_sub hl [0, 3, 4, 5] rfl)
                    · replace hz_54 := it_n hz_54 c_61
                      refine lv_aload_n X.1 X.2.1 dX10_copy_108 rfl (lv_at hl 0 rfl) ?_
                      refine gX10_aside X hw wq_5_11 dX10_copy_109 ?_
                      refine lv_iload X.1 X.2.1 dX10_copy_112 (lv_at hl 6 rfl) ?_
                      refine lv_aload_n X.1 X.2.1 dX10_copy_114 rfl (lv_at hl 0 rfl) ?_
                      refine gX10_items X hw wq_5_10 dX10_copy_115 ?_
                      refine lv_bipush (v := 40) X.1 X.2.1 dX10_copy_118 (by decide) ?_
                      refine lv_iload_n X.1 X.2.1 dX10_copy_120 rfl (lv_at hl 1 rfl) ?_
                      refine lv_imul X.1 X.2.1 dX10_copy_121 ?_
                      refine lv_iload_n X.1 X.2.1 dX10_copy_122 rfl (lv_at hl 2 rfl) ?_
                      refine lv_iadd X.1 X.2.1 dX10_copy_123 ?_
                      refine lv_iload X.1 X.2.1 dX10_copy_124 (lv_at hl 6 rfl) ?_
                      refine lv_iadd X.1 X.2.1 dX10_copy_126 ?_
                      refine lv_topi (fun x_62 ex_62 => ?_)
                      replace hz_54 := lt_e hz_54 ex_62
                      replace hz_54 := gd_e hz_54
                      obtain ⟨g_63, hz_54⟩ := hz_54
                      refine lMB0 X hw g_63 dX10_copy_127 ?_
                      replace hz_54 := gd_e hz_54
                      obtain ⟨g_64, hz_54⟩ := hz_54
                      refine sMB1 X hw g_64 dX10_copy_128 (fun H locs hw => ?_)
                      obtain ⟨t_65, et_65⟩ : ∃ y, y = wB t_34 1 y_33.toNatClampNeg (t_34.2.2.2 0 x_62.toNatClampNeg) := ⟨_, rfl⟩
                      rw [← et_65] at hw
                      replace hz_54 := lt_e hz_54 et_65
                      obtain ⟨x_66, ex_66⟩ : ∃ y : Int32, y = y_33 + 1 := ⟨_, rfl⟩
                      replace hz_54 := lt_e hz_54 ex_66
                      refine lv_iinc (v := x_66) (lv' := [(6, .int x_66), (0, .ref (h 0)), (1, .int x1), (2, .int x2), (3, .int x3), (4, .int x4), (5, .int x5)]) X.1 X.2.1 dX10_copy_129 hl (k := 6) rfl (by rw [ex_66]; rfl) (by decide) rfl (fun ls hl => ?_)
                      refine lv_goto (tgt := 101) X.1 X.2.1 dX10_copy_132 (by decide) ?_
                      exact hn_55 _ (Option.some.inj hz_54).symm _ _ _ hw (lv_sub hl [1, 2, 3, 4, 5, 6, 0] rfl)
                  · replace hg_25 := it_n hg_25 c_32
                    exact J_26 (Option.some.inj hg_25).symm _ _ _ hw (lv_sub hl [0] rfl)
        · replace hg_15 := it_p hg_15 c_18
          exact J_16 (Option.some.inj hg_15).symm _ _ _ hw (lv_sub hl [0] rfl)
    · replace hm := it_p hm c_7
      refine lv_bipush (v := -2) X.1 X.2.1 dX10_copy_14 (by decide) ?_
      obtain ⟨rfl, rfl⟩ := Prod.mk.inj (Option.some.inj hm)
      exact hret _ _ _ _ hw dX10_copy_16
def m_X10_isStation (t : ST) (x1 : Int64) : Option (Int32) := Option.bind (m_X10_in x1 (0 : Int64) (((t.1 1) - (1 : Int32)).toInt64)) (fun (r_2 : Int32) => gd (r_2 = 0 ∨ r_2 = 1) (some r_2))
theorem yo_X10_isStation : yX10_isStation.cls = RX10 ∧ yX10_isStation.cls ≠ "java/lang/invoke/MethodHandle" ∧ yX10_isStation.cls ≠ "java/lang/invoke/VarHandle" ∧ (parseMethodDescriptor yX10_isStation.desc).map (fun d => d.parameters.length) = some 1 := by decide +kernel
set_option maxHeartbeats 4000000 in
set_option maxRecDepth 100000 in
theorem c_X10_isStation {l : Launch} {g : gT} {h : Nat → Nat} {t : ST} {x1 : Int64} {r : Int32} (hm : m_X10_isStation t x1 = some r) : MetI l g yX10_isStation cX10_isStation 3 (some .boolean) 1 25 20 h (cM g h t) (cM g h t) [.ref (h 0), .long x1] r := by
  refine MetZ.ofX (by decide +kernel) (Nat.le_of_ble_eq_true rfl) ?_
  intro p e s m below meth c AV Q X hret ls hw hl
  replace X : Cx g p s m AV c cX10_isStation RX10 3 := X
  replace hl : lv_has ls 3 [(0, .ref (h 0)), (1, .long x1)] := hl
  unfold m_X10_isStation at hm
  refine lv_lload_n X.1 X.2.1 dX10_isStation_0 rfl (lv_at hl 1 rfl) ?_
  refine lv_lconst (v := 0) X.1 X.2.1 dX10_isStation_1 (by decide) ?_
  refine lv_aload_n X.1 X.2.1 dX10_isStation_2 rfl (lv_at hl 0 rfl) ?_
  refine gX10_stations X hw wq_6_4 dX10_isStation_3 ?_
  refine lv_iconst (v := 1) X.1 X.2.1 dX10_isStation_6 (by decide) ?_
  refine lv_isub X.1 X.2.1 dX10_isStation_7 ?_
  refine lv_i2l X.1 X.2.1 dX10_isStation_8 rfl ?_
  replace hm := ob_e hm
  obtain ⟨r_2, h_1, hm⟩ := hm
  refine k_Si (As := [.long x1, .long (0 : Int64), .long ((t.1 1) - (1 : Int32)).toInt64]) X hl.1 hw (c_X10_in h_1) ⟨wq_7_5, wq_7_6, wq_1_5, wq_7_7⟩ yo_X10_in rfl ⟨Nat.le_of_ble_eq_true rfl, Nat.le_of_ble_eq_true rfl⟩ (Nat.le_of_ble_eq_true rfl) dX10_isStation_9 (fun H locs hw => ?_)
  replace hm := gd_e hm
  obtain ⟨g_3, hm⟩ := hm
  obtain rfl := Option.some.inj hm
  exact hret _ _ _ _ hw dX10_isStation_12 g_3
def m_X10_isLink (t : ST) (x1 : Int32) : Option (Int32) := Option.bind (m_X10_in (x1.toInt64) (0 : Int64) (((t.1 4) - (1 : Int32)).toInt64)) (fun (r_2 : Int32) => gd (r_2 = 0 ∨ r_2 = 1) (some r_2))
theorem yo_X10_isLink : yX10_isLink.cls = RX10 ∧ yX10_isLink.cls ≠ "java/lang/invoke/MethodHandle" ∧ yX10_isLink.cls ≠ "java/lang/invoke/VarHandle" ∧ (parseMethodDescriptor yX10_isLink.desc).map (fun d => d.parameters.length) = some 1 := by decide +kernel
set_option maxHeartbeats 4000000 in
set_option maxRecDepth 100000 in
theorem c_X10_isLink {l : Launch} {g : gT} {h : Nat → Nat} {t : ST} {x1 : Int32} {r : Int32} (hm : m_X10_isLink t x1 = some r) : MetI l g yX10_isLink cX10_isLink 2 (some .boolean) 1 25 20 h (cM g h t) (cM g h t) [.ref (h 0), .int x1] r := by
  refine MetZ.ofX (by decide +kernel) (Nat.le_of_ble_eq_true rfl) ?_
  intro p e s m below meth c AV Q X hret ls hw hl
  replace X : Cx g p s m AV c cX10_isLink RX10 2 := X
  replace hl : lv_has ls 2 [(0, .ref (h 0)), (1, .int x1)] := hl
  unfold m_X10_isLink at hm
  refine lv_iload_n X.1 X.2.1 dX10_isLink_0 rfl (lv_at hl 1 rfl) ?_
  refine lv_i2l X.1 X.2.1 dX10_isLink_1 rfl ?_
  refine lv_lconst (v := 0) X.1 X.2.1 dX10_isLink_2 (by decide) ?_
  refine lv_aload_n X.1 X.2.1 dX10_isLink_3 rfl (lv_at hl 0 rfl) ?_
  refine gX10_links X hw wq_7_2 dX10_isLink_4 ?_
  refine lv_iconst (v := 1) X.1 X.2.1 dX10_isLink_7 (by decide) ?_
  refine lv_isub X.1 X.2.1 dX10_isLink_8 ?_
  refine lv_i2l X.1 X.2.1 dX10_isLink_9 rfl ?_
  replace hm := ob_e hm
  obtain ⟨r_2, h_1, hm⟩ := hm
  refine k_Si (As := [.long x1.toInt64, .long (0 : Int64), .long ((t.1 4) - (1 : Int32)).toInt64]) X hl.1 hw (c_X10_in h_1) ⟨wq_7_5, wq_7_6, wq_1_5, wq_7_7⟩ yo_X10_in rfl ⟨Nat.le_of_ble_eq_true rfl, Nat.le_of_ble_eq_true rfl⟩ (Nat.le_of_ble_eq_true rfl) dX10_isLink_10 (fun H locs hw => ?_)
  replace hm := gd_e hm
  obtain ⟨g_3, hm⟩ := hm
  obtain rfl := Option.some.inj hm
  exact hret _ _ _ _ hw dX10_isLink_13 g_3
def m_X10_stations (t : ST) (x1 : Int32) : Option (Int32 × ST) := Option.bind (m_X10_in (x1.toInt64) (2 : Int64) (7 : Int64)) (fun (r_2 : Int32) => if r_2 = 0 then some ((-2 : Int32), t) else lt (t.1 1) (fun x_4 => lt (wI t 1 x1) (fun t_5 => lt (wI t_5 4 (0 : Int32)) (fun t_6 => lt (wI t_6 3 (0 : Int32)) (fun t_7 => lt (wI t_7 2 (0 : Int32)) (fun t_8 => some (x_4, t_8)))))))
theorem yo_X10_stations : yX10_stations.cls = RX10 ∧ yX10_stations.cls ≠ "java/lang/invoke/MethodHandle" ∧ yX10_stations.cls ≠ "java/lang/invoke/VarHandle" ∧ (parseMethodDescriptor yX10_stations.desc).map (fun d => d.parameters.length) = some 1 := by decide +kernel
set_option maxHeartbeats 4000000 in
set_option maxRecDepth 100000 in
theorem c_X10_stations {l : Launch} {g : gT} {h : Nat → Nat} {t : ST} {x1 : Int32} {r : Int32} {t' : ST} (hm : m_X10_stations t x1 = some (r, t')) : MetI l g yX10_stations cX10_stations 3 (some .int) 1 25 20 h (cM g h t) (cM g h t') [.ref (h 0), .int x1] r := by
  refine MetI.ofX (by decide +kernel) (Nat.le_of_ble_eq_true rfl) ?_
  intro p e s m below meth c AV Q X hret ls hw hl
  replace X : Cx g p s m AV c cX10_stations RX10 3 := X
  replace hl : lv_has ls 3 [(0, .ref (h 0)), (1, .int x1)] := hl
  unfold m_X10_stations at hm
  refine lv_iload_n X.1 X.2.1 dX10_stations_0 rfl (lv_at hl 1 rfl) ?_
  refine lv_i2l X.1 X.2.1 dX10_stations_1 rfl ?_
  refine lv_ldc2 (v := 2) X.1 X.2.1 X.2.2.2.1 (X.2.2.2.2.1 _ wq_7_0) dX10_stations_2 ?_
  refine lv_ldc2 (v := 7) X.1 X.2.1 X.2.2.2.1 (X.2.2.2.2.1 _ wq_7_1) dX10_stations_5 ?_
  replace hm := ob_e hm
  obtain ⟨r_2, h_1, hm⟩ := hm
  refine k_Si (As := [.long x1.toInt64, .long (2 : Int64), .long (7 : Int64)]) X hl.1 hw (c_X10_in h_1) ⟨wq_7_5, wq_7_6, wq_1_5, wq_7_7⟩ yo_X10_in rfl ⟨Nat.le_of_ble_eq_true rfl, Nat.le_of_ble_eq_true rfl⟩ (Nat.le_of_ble_eq_true rfl) dX10_stations_8 (fun H locs hw => ?_)
  refine lv_if_ne (tgt := 17) X.1 X.2.1 dX10_stations_11 (by decide) (fun c_3 => ?_) (fun c_3 => ?_)
  · replace hm := it_n hm c_3
    refine lv_aload_n X.1 X.2.1 dX10_stations_17 rfl (lv_at hl 0 rfl) ?_
    refine gX10_stations X hw wq_6_4 dX10_stations_18 ?_
    refine lv_topi (fun x_4 ex_4 => ?_)
    replace hm := lt_e hm ex_4
    refine lv_istore_n (lv' := [(2, .int x_4), (0, .ref (h 0)), (1, .int x1)]) X.1 X.2.1 dX10_stations_21 rfl hl (by decide) rfl (fun ls hl => ?_)
    refine lv_aload_n X.1 X.2.1 dX10_stations_22 rfl (lv_at hl 1 rfl) ?_
    refine lv_iload_n X.1 X.2.1 dX10_stations_23 rfl (lv_at hl 2 rfl) ?_
    refine pX10_stations X hw wq_6_4 dX10_stations_24 (fun H locs hw => ?_)
    obtain ⟨t_5, et_5⟩ : ∃ y, y = wI t 1 x1 := ⟨_, rfl⟩
    rw [← et_5] at hw
    replace hm := lt_e hm et_5
    refine lv_aload_n X.1 X.2.1 dX10_stations_27 rfl (lv_at hl 1 rfl) ?_
    refine lv_iconst (v := 0) X.1 X.2.1 dX10_stations_28 (by decide) ?_
    refine pX10_links X hw wq_7_2 dX10_stations_29 (fun H locs hw => ?_)
    obtain ⟨t_6, et_6⟩ : ∃ y, y = wI t_5 4 (0 : Int32) := ⟨_, rfl⟩
    rw [← et_6] at hw
    replace hm := lt_e hm et_6
    refine lv_aload_n X.1 X.2.1 dX10_stations_32 rfl (lv_at hl 1 rfl) ?_
    refine lv_iconst (v := 0) X.1 X.2.1 dX10_stations_33 (by decide) ?_
    refine pX10_goals X hw wq_7_3 dX10_stations_34 (fun H locs hw => ?_)
    obtain ⟨t_7, et_7⟩ : ∃ y, y = wI t_6 3 (0 : Int32) := ⟨_, rfl⟩
    rw [← et_7] at hw
    replace hm := lt_e hm et_7
    refine lv_aload_n X.1 X.2.1 dX10_stations_37 rfl (lv_at hl 1 rfl) ?_
    refine lv_iconst (v := 0) X.1 X.2.1 dX10_stations_38 (by decide) ?_
    refine pX10_source X hw wq_7_4 dX10_stations_39 (fun H locs hw => ?_)
    obtain ⟨t_8, et_8⟩ : ∃ y, y = wI t_7 2 (0 : Int32) := ⟨_, rfl⟩
    rw [← et_8] at hw
    replace hm := lt_e hm et_8
    refine lv_iload_n X.1 X.2.1 dX10_stations_42 rfl (lv_at hl 0 rfl) ?_
    obtain ⟨rfl, rfl⟩ := Prod.mk.inj (Option.some.inj hm)
    exact hret _ _ _ _ hw dX10_stations_43
  · replace hm := it_p hm c_3
    refine lv_bipush (v := -2) X.1 X.2.1 dX10_stations_14 (by decide) ?_
    obtain ⟨rfl, rfl⟩ := Prod.mk.inj (Option.some.inj hm)
    exact hret _ _ _ _ hw dX10_stations_16
def m_X10_isChance (x0 : Int64) (x2 : Int64) : Option (Int32) := Option.bind (m_X10_in x2 (1 : Int64) (9 : Int64)) (fun (r_2 : Int32) => if r_2 = 0 then some (0 : Int32) else Option.bind (m_X10_in x0 (0 : Int64) x2) (fun (r_5 : Int32) => if r_5 = 0 then some (0 : Int32) else some (1 : Int32)))
theorem yo_X10_isChance : yX10_isChance.cls ≠ "java/lang/invoke/MethodHandle" ∧ yX10_isChance.cls ≠ "java/lang/invoke/VarHandle" ∧ (parseMethodDescriptor yX10_isChance.desc).map (fun d => d.parameters.length) = some 2 := by decide +kernel
set_option maxHeartbeats 4000000 in
set_option maxRecDepth 100000 in
theorem c_X10_isChance {l : Launch} {g : gT} {n : Nat} {h : Nat → Nat} {cel : Nat → va_E} {x0 : Int64} {x2 : Int64} {r : Int32} (hm : m_X10_isChance x0 x2 = some r) : MetI l g yX10_isChance cX10_isChance 4 (some .boolean) 1 25 n h (cel) (cel) [.long x0, .long x2] r := by
  refine MetZ.ofX (by decide +kernel) (Nat.le_of_ble_eq_true rfl) ?_
  intro p e s m below meth c AV Q X hret ls hw hl
  replace X : Cx g p s m AV c cX10_isChance RX10 4 := X
  replace hl : lv_has ls 4 [(0, .long x0), (2, .long x2)] := hl
  unfold m_X10_isChance at hm
  refine lv_lload_n X.1 X.2.1 dX10_isChance_0 rfl (lv_at hl 1 rfl) ?_
  refine lv_lconst (v := 1) X.1 X.2.1 dX10_isChance_1 (by decide) ?_
  refine lv_ldc2 (v := 9) X.1 X.2.1 X.2.2.2.1 (X.2.2.2.2.1 _ wq_10_5) dX10_isChance_2 ?_
  replace hm := ob_e hm
  obtain ⟨r_2, h_1, hm⟩ := hm
  refine k_Si (As := [.long x2, .long (1 : Int64), .long (9 : Int64)]) X hl.1 hw (c_X10_in h_1) ⟨wq_7_5, wq_7_6, wq_1_5, wq_7_7⟩ yo_X10_in rfl ⟨Nat.le_of_ble_eq_true rfl, Nat.le_of_ble_eq_true rfl⟩ (Nat.le_of_ble_eq_true rfl) dX10_isChance_5 (fun H locs hw => ?_)
  refine lv_if_eq (tgt := 24) X.1 X.2.1 dX10_isChance_8 (by decide) (fun c_3 => ?_) (fun c_3 => ?_)
  · replace hm := it_p hm c_3
    refine lv_iconst (v := 0) X.1 X.2.1 dX10_isChance_24 (by decide) ?_
    obtain rfl := Option.some.inj hm
    exact hret _ _ _ _ hw dX10_isChance_25 (Or.inl rfl)
  · replace hm := it_n hm c_3
    refine lv_lload_n X.1 X.2.1 dX10_isChance_11 rfl (lv_at hl 0 rfl) ?_
    refine lv_lconst (v := 0) X.1 X.2.1 dX10_isChance_12 (by decide) ?_
    refine lv_lload_n X.1 X.2.1 dX10_isChance_13 rfl (lv_at hl 1 rfl) ?_
    replace hm := ob_e hm
    obtain ⟨r_5, h_4, hm⟩ := hm
    refine k_Si (As := [.long x0, .long (0 : Int64), .long x2]) X hl.1 hw (c_X10_in h_4) ⟨wq_7_5, wq_7_6, wq_1_5, wq_7_7⟩ yo_X10_in rfl ⟨Nat.le_of_ble_eq_true rfl, Nat.le_of_ble_eq_true rfl⟩ (Nat.le_of_ble_eq_true rfl) dX10_isChance_14 (fun H locs hw => ?_)
    refine lv_if_eq (tgt := 24) X.1 X.2.1 dX10_isChance_17 (by decide) (fun c_6 => ?_) (fun c_6 => ?_)
    · replace hm := it_p hm c_6
      refine lv_iconst (v := 0) X.1 X.2.1 dX10_isChance_24 (by decide) ?_
      obtain rfl := Option.some.inj hm
      exact hret _ _ _ _ hw dX10_isChance_25 (Or.inl rfl)
    · replace hm := it_n hm c_6
      refine lv_iconst (v := 1) X.1 X.2.1 dX10_isChance_20 (by decide) ?_
      refine lv_goto (tgt := 25) X.1 X.2.1 dX10_isChance_21 (by decide) ?_
      obtain rfl := Option.some.inj hm
      exact hret _ _ _ _ hw dX10_isChance_25 (Or.inr rfl)
def m_X10_mayLink (t : ST) (x1 : Int64) (x3 : Int64) (x5 : Int64) (x7 : Int64) : Option (Int32) := Option.bind (m_X10_isStation t x1) (fun (r_2 : Int32) => if r_2 = 0 then some (0 : Int32) else Option.bind (m_X10_isStation t x3) (fun (r_5 : Int32) => if r_5 = 0 then some (0 : Int32) else if (lg_cmp x1 x3) = 0 then some (0 : Int32) else Option.bind (m_X10_isChance x5 x7) (fun (r_9 : Int32) => if r_9 = 0 then some (0 : Int32) else some (1 : Int32))))
theorem yo_X10_mayLink : yX10_mayLink.cls = RX10 ∧ yX10_mayLink.cls ≠ "java/lang/invoke/MethodHandle" ∧ yX10_mayLink.cls ≠ "java/lang/invoke/VarHandle" ∧ (parseMethodDescriptor yX10_mayLink.desc).map (fun d => d.parameters.length) = some 4 := by decide +kernel
set_option maxHeartbeats 4000000 in
set_option maxRecDepth 100000 in
theorem c_X10_mayLink {l : Launch} {g : gT} {h : Nat → Nat} {t : ST} {x1 : Int64} {x3 : Int64} {x5 : Int64} {x7 : Int64} {r : Int32} (hm : m_X10_mayLink t x1 x3 x5 x7 = some r) : MetI l g yX10_mayLink cX10_mayLink 9 (some .boolean) 2 48 20 h (cM g h t) (cM g h t) [.ref (h 0), .long x1, .long x3, .long x5, .long x7] r := by
  refine MetZ.ofX (by decide +kernel) (Nat.le_of_ble_eq_true rfl) ?_
  intro p e s m below meth c AV Q X hret ls hw hl
  replace X : Cx g p s m AV c cX10_mayLink RX10 9 := X
  replace hl : lv_has ls 9 [(0, .ref (h 0)), (1, .long x1), (3, .long x3), (5, .long x5), (7, .long x7)] := hl
  unfold m_X10_mayLink at hm
  refine lv_aload_n X.1 X.2.1 dX10_mayLink_0 rfl (lv_at hl 0 rfl) ?_
  refine lv_lload_n X.1 X.2.1 dX10_mayLink_1 rfl (lv_at hl 1 rfl) ?_
  replace hm := ob_e hm
  obtain ⟨r_2, h_1, hm⟩ := hm
  refine k_Vi (k := 0) (As := [.long x1]) X hl.1 hw (c_X10_isStation h_1) (by decide) (he_X10 g h _) rfl ⟨wq_9_22, wq_9_23, wq_10_0, wq_1_5, wq_10_1⟩ yo_X10_isStation rfl ⟨Nat.le_of_ble_eq_true rfl, Nat.le_of_ble_eq_true rfl⟩ (Nat.le_of_ble_eq_true rfl) dX10_mayLink_2 (fun H locs hw => ?_)
  refine lv_if_eq (tgt := 36) X.1 X.2.1 dX10_mayLink_5 (by decide) (fun c_3 => ?_) (fun c_3 => ?_)
  · replace hm := it_p hm c_3
    refine lv_iconst (v := 0) X.1 X.2.1 dX10_mayLink_36 (by decide) ?_
    obtain rfl := Option.some.inj hm
    exact hret _ _ _ _ hw dX10_mayLink_37 (Or.inl rfl)
  · replace hm := it_n hm c_3
    refine lv_aload_n X.1 X.2.1 dX10_mayLink_8 rfl (lv_at hl 0 rfl) ?_
    refine lv_lload_n X.1 X.2.1 dX10_mayLink_9 rfl (lv_at hl 2 rfl) ?_
    replace hm := ob_e hm
    obtain ⟨r_5, h_4, hm⟩ := hm
    refine k_Vi (k := 0) (As := [.long x3]) X hl.1 hw (c_X10_isStation h_4) (by decide) (he_X10 g h _) rfl ⟨wq_9_22, wq_9_23, wq_10_0, wq_1_5, wq_10_1⟩ yo_X10_isStation rfl ⟨Nat.le_of_ble_eq_true rfl, Nat.le_of_ble_eq_true rfl⟩ (Nat.le_of_ble_eq_true rfl) dX10_mayLink_10 (fun H locs hw => ?_)
    refine lv_if_eq (tgt := 36) X.1 X.2.1 dX10_mayLink_13 (by decide) (fun c_6 => ?_) (fun c_6 => ?_)
    · replace hm := it_p hm c_6
      refine lv_iconst (v := 0) X.1 X.2.1 dX10_mayLink_36 (by decide) ?_
      obtain rfl := Option.some.inj hm
      exact hret _ _ _ _ hw dX10_mayLink_37 (Or.inl rfl)
    · replace hm := it_n hm c_6
      refine lv_lload_n X.1 X.2.1 dX10_mayLink_16 rfl (lv_at hl 1 rfl) ?_
      refine lv_lload_n X.1 X.2.1 dX10_mayLink_17 rfl (lv_at hl 2 rfl) ?_
      refine W.lcmp X.1 X.2.1 dX10_mayLink_18 ?_
      refine lv_if_eq (tgt := 36) X.1 X.2.1 dX10_mayLink_19 (by decide) (fun c_7 => ?_) (fun c_7 => ?_)
      · replace hm := it_p hm c_7
        refine lv_iconst (v := 0) X.1 X.2.1 dX10_mayLink_36 (by decide) ?_
        obtain rfl := Option.some.inj hm
        exact hret _ _ _ _ hw dX10_mayLink_37 (Or.inl rfl)
      · replace hm := it_n hm c_7
        refine lv_lload X.1 X.2.1 dX10_mayLink_22 (lv_at hl 3 rfl) ?_
        refine lv_lload X.1 X.2.1 dX10_mayLink_24 (lv_at hl 4 rfl) ?_
        replace hm := ob_e hm
        obtain ⟨r_9, h_8, hm⟩ := hm
        refine k_Si (As := [.long x5, .long x7]) X hl.1 hw (c_X10_isChance h_8) ⟨wq_10_2, wq_10_3, wq_1_5, wq_10_4⟩ yo_X10_isChance rfl ⟨Nat.le_of_ble_eq_true rfl, Nat.le_of_ble_eq_true rfl⟩ (Nat.le_of_ble_eq_true rfl) dX10_mayLink_26 (fun H locs hw => ?_)
        refine lv_if_eq (tgt := 36) X.1 X.2.1 dX10_mayLink_29 (by decide) (fun c_10 => ?_) (fun c_10 => ?_)
        · replace hm := it_p hm c_10
          refine lv_iconst (v := 0) X.1 X.2.1 dX10_mayLink_36 (by decide) ?_
          obtain rfl := Option.some.inj hm
          exact hret _ _ _ _ hw dX10_mayLink_37 (Or.inl rfl)
        · replace hm := it_n hm c_10
          refine lv_iconst (v := 1) X.1 X.2.1 dX10_mayLink_32 (by decide) ?_
          refine lv_goto (tgt := 37) X.1 X.2.1 dX10_mayLink_33 (by decide) ?_
          obtain rfl := Option.some.inj hm
          exact hret _ _ _ _ hw dX10_mayLink_37 (Or.inr rfl)
def m_X10_adds (t : ST) (x1 : Int32) (x2 : Int32) (x3 : Int32) (x4 : Int32) : Option (ST) := Option.bind (if x2 ≤ x1 then some x2 else some x1) (fun (j_2 : Int32) => gd (¬ ((t.1 4) < 0 ∨ 10 ≤ (t.1 4).toNatClampNeg)) (lt (wA t 1 (t.1 4).toNatClampNeg j_2) (fun t_4 => Option.bind (if x2 ≤ x1 then some x1 else some x2) (fun (j_6 : Int32) => gd (¬ ((t_4.1 4) < 0 ∨ 10 ≤ (t_4.1 4).toNatClampNeg)) (lt (wA t_4 2 (t_4.1 4).toNatClampNeg j_6) (fun t_8 => gd (¬ ((t_8.1 4) < 0 ∨ 10 ≤ (t_8.1 4).toNatClampNeg)) (lt (wA t_8 3 (t_8.1 4).toNatClampNeg x3) (fun t_10 => gd (¬ ((t_10.1 4) < 0 ∨ 10 ≤ (t_10.1 4).toNatClampNeg)) (lt (wA t_10 4 (t_10.1 4).toNatClampNeg x4) (fun t_12 => gd (¬ ((t_12.1 4) < 0 ∨ 10 ≤ (t_12.1 4).toNatClampNeg)) (lt (wA t_12 5 (t_12.1 4).toNatClampNeg (0 : Int32)) (fun t_14 => lt (wI t_14 4 (((t_14.1 4) + (1 : Int32)))) (fun t_15 => some t_15)))))))))))))
theorem yo_X10_adds : yX10_adds.cls = RX10 ∧ yX10_adds.cls ≠ "java/lang/invoke/MethodHandle" ∧ yX10_adds.cls ≠ "java/lang/invoke/VarHandle" ∧ (parseMethodDescriptor yX10_adds.desc).map (fun d => d.parameters.length) = some 4 := by decide +kernel
set_option maxHeartbeats 4000000 in
set_option maxRecDepth 100000 in
theorem c_X10_adds {l : Launch} {g : gT} {h : Nat → Nat} {t : ST} {x1 : Int32} {x2 : Int32} {x3 : Int32} {x4 : Int32} {t' : ST} (hm : m_X10_adds t x1 x2 x3 x4 = some (t')) : MetV l g yX10_adds cX10_adds 5 none 0 0 20 h (cM g h t) (cM g h t') [.ref (h 0), .int x1, .int x2, .int x3, .int x4] := by
  refine MetV.ofX (by decide +kernel) (Nat.le_of_ble_eq_true rfl) ?_
  intro p e s m below meth c AV Q X hret ls hw hl
  replace X : Cx g p s m AV c cX10_adds RX10 5 := X
  replace hl : lv_has ls 5 [(0, .ref (h 0)), (1, .int x1), (2, .int x2), (3, .int x3), (4, .int x4)] := hl
  unfold m_X10_adds at hm
  refine lv_aload_n X.1 X.2.1 dX10_adds_0 rfl (lv_at hl 0 rfl) ?_
  refine gX10_ones X hw wq_5_12 dX10_adds_1 ?_
  refine lv_aload_n X.1 X.2.1 dX10_adds_4 rfl (lv_at hl 0 rfl) ?_
  refine gX10_links X hw wq_7_2 dX10_adds_5 ?_
  refine lv_iload_n X.1 X.2.1 dX10_adds_8 rfl (lv_at hl 1 rfl) ?_
  refine lv_iload_n X.1 X.2.1 dX10_adds_9 rfl (lv_at hl 2 rfl) ?_
  replace hm := ob_e hm
  obtain ⟨j_2, hg_18, hm⟩ := hm
  have J_19 : ∀ (H : Heap) (locs : List Loc) (ls : Array Slot), Wd g 20 h (cM g h t) s H locs → lv_has ls 5 [(0, .ref (h 0)), (1, .int x1), (2, .int x2), (3, .int x3), (4, .int x4)] → W p l e (rW 0 0) s m AV below meth c H locs 0 0 Q (F0 m 18 ls [.int j_2, .int (t.1 4), .ref (h 4)]) := by
    intro H locs ls hw hl
    replace hm := gd_e hm
    obtain ⟨g_3, hm⟩ := hm
    refine sMA1 X hw g_3 dX10_adds_18 (fun H locs hw => ?_)
    obtain ⟨t_4, et_4⟩ : ∃ y, y = wA t 1 (t.1 4).toNatClampNeg j_2 := ⟨_, rfl⟩
    rw [← et_4] at hw
    replace hm := lt_e hm et_4
    refine lv_aload_n X.1 X.2.1 dX10_adds_19 rfl (lv_at hl 0 rfl) ?_
    refine gX10_others X hw wq_5_13 dX10_adds_20 ?_
    refine lv_aload_n X.1 X.2.1 dX10_adds_23 rfl (lv_at hl 0 rfl) ?_
    refine gX10_links X hw wq_7_2 dX10_adds_24 ?_
    refine lv_iload_n X.1 X.2.1 dX10_adds_27 rfl (lv_at hl 1 rfl) ?_
    refine lv_iload_n X.1 X.2.1 dX10_adds_28 rfl (lv_at hl 2 rfl) ?_
    replace hm := ob_e hm
    obtain ⟨j_6, hg_16, hm⟩ := hm
    have J_17 : ∀ (H : Heap) (locs : List Loc) (ls : Array Slot), Wd g 20 h (cM g h t_4) s H locs → lv_has ls 5 [(0, .ref (h 0)), (3, .int x3), (4, .int x4)] → W p l e (rW 0 0) s m AV below meth c H locs 0 0 Q (F0 m 37 ls [.int j_6, .int (t_4.1 4), .ref (h 5)]) := by
      intro H locs ls hw hl
      replace hm := gd_e hm
      obtain ⟨g_7, hm⟩ := hm
      refine sMA2 X hw g_7 dX10_adds_37 (fun H locs hw => ?_)
      obtain ⟨t_8, et_8⟩ : ∃ y, y = wA t_4 2 (t_4.1 4).toNatClampNeg j_6 := ⟨_, rfl⟩
      rw [← et_8] at hw
      replace hm := lt_e hm et_8
      refine lv_aload_n X.1 X.2.1 dX10_adds_38 rfl (lv_at hl 0 rfl) ?_
      refine gX10_ups X hw wq_5_14 dX10_adds_39 ?_
      refine lv_aload_n X.1 X.2.1 dX10_adds_42 rfl (lv_at hl 0 rfl) ?_
      refine gX10_links X hw wq_7_2 dX10_adds_43 ?_
      refine lv_iload_n X.1 X.2.1 dX10_adds_46 rfl (lv_at hl 1 rfl) ?_
      replace hm := gd_e hm
      obtain ⟨g_9, hm⟩ := hm
      refine sMA3 X hw g_9 dX10_adds_47 (fun H locs hw => ?_)
      obtain ⟨t_10, et_10⟩ : ∃ y, y = wA t_8 3 (t_8.1 4).toNatClampNeg x3 := ⟨_, rfl⟩
      rw [← et_10] at hw
      replace hm := lt_e hm et_10
      refine lv_aload_n X.1 X.2.1 dX10_adds_48 rfl (lv_at hl 0 rfl) ?_
      refine gX10_belows X hw wq_5_15 dX10_adds_49 ?_
      refine lv_aload_n X.1 X.2.1 dX10_adds_52 rfl (lv_at hl 0 rfl) ?_
      refine gX10_links X hw wq_7_2 dX10_adds_53 ?_
      refine lv_iload X.1 X.2.1 dX10_adds_56 (lv_at hl 2 rfl) ?_
      replace hm := gd_e hm
      obtain ⟨g_11, hm⟩ := hm
      refine sMA4 X hw g_11 dX10_adds_58 (fun H locs hw => ?_)
      obtain ⟨t_12, et_12⟩ : ∃ y, y = wA t_10 4 (t_10.1 4).toNatClampNeg x4 := ⟨_, rfl⟩
      rw [← et_12] at hw
      replace hm := lt_e hm et_12
      refine lv_aload_n X.1 X.2.1 dX10_adds_59 rfl (lv_at hl 0 rfl) ?_
      refine gX10_seens X hw wq_5_16 dX10_adds_60 ?_
      refine lv_aload_n X.1 X.2.1 dX10_adds_63 rfl (lv_at hl 0 rfl) ?_
      refine gX10_links X hw wq_7_2 dX10_adds_64 ?_
      refine lv_iconst (v := 0) X.1 X.2.1 dX10_adds_67 (by decide) ?_
      replace hm := gd_e hm
      obtain ⟨g_13, hm⟩ := hm
      refine sMA5 X hw g_13 dX10_adds_68 (fun H locs hw => ?_)
      obtain ⟨t_14, et_14⟩ : ∃ y, y = wA t_12 5 (t_12.1 4).toNatClampNeg (0 : Int32) := ⟨_, rfl⟩
      rw [← et_14] at hw
      replace hm := lt_e hm et_14
      refine lv_aload_n X.1 X.2.1 dX10_adds_69 rfl (lv_at hl 0 rfl) ?_
      refine lv_dup X.1 X.2.1 dX10_adds_70 rfl ?_
      refine gX10_links X hw wq_7_2 dX10_adds_71 ?_
      refine lv_iconst (v := 1) X.1 X.2.1 dX10_adds_74 (by decide) ?_
      refine lv_iadd X.1 X.2.1 dX10_adds_75 ?_
      refine pX10_links X hw wq_7_2 dX10_adds_76 (fun H locs hw => ?_)
      obtain ⟨t_15, et_15⟩ : ∃ y, y = wI t_14 4 (((t_14.1 4) + (1 : Int32))) := ⟨_, rfl⟩
      rw [← et_15] at hw
      replace hm := lt_e hm et_15
      obtain rfl := Option.some.inj hm
      exact hret _ _ _ _ hw dX10_adds_79
    refine lv_icmp_ge (tgt := 36) X.1 X.2.1 dX10_adds_29 (by decide) (fun c_5 => ?_) (fun c_5 => ?_)
    · replace hg_16 := it_p hg_16 c_5
      refine lv_iload_n X.1 X.2.1 dX10_adds_36 rfl (lv_at hl 1 rfl) ?_
      obtain rfl := Option.some.inj hg_16
      exact J_17 _ _ _ hw (lv_sub hl [0, 3, 4] rfl)
    · replace hg_16 := it_n hg_16 c_5
      refine lv_iload_n X.1 X.2.1 dX10_adds_32 rfl (lv_at hl 2 rfl) ?_
      refine lv_goto (tgt := 37) X.1 X.2.1 dX10_adds_33 (by decide) ?_
      obtain rfl := Option.some.inj hg_16
      exact J_17 _ _ _ hw (lv_sub hl [0, 3, 4] rfl)
  refine lv_icmp_ge (tgt := 17) X.1 X.2.1 dX10_adds_10 (by decide) (fun c_1 => ?_) (fun c_1 => ?_)
  · replace hg_18 := it_p hg_18 c_1
    refine lv_iload_n X.1 X.2.1 dX10_adds_17 rfl (lv_at hl 2 rfl) ?_
    obtain rfl := Option.some.inj hg_18
    exact J_19 _ _ _ hw (lv_sub hl [0, 1, 2, 3, 4] rfl)
  · replace hg_18 := it_n hg_18 c_1
    refine lv_iload_n X.1 X.2.1 dX10_adds_13 rfl (lv_at hl 1 rfl) ?_
    refine lv_goto (tgt := 18) X.1 X.2.1 dX10_adds_14 (by decide) ?_
    obtain rfl := Option.some.inj hg_18
    exact J_19 _ _ _ hw (lv_sub hl [0, 1, 2, 3, 4] rfl)
def m_X10_link (t : ST) (x1 : Int32) (x2 : Int32) (x3 : Int32) (x4 : Int32) : Option (Int32 × ST) := Option.bind (m_X10_mayLink t (x1.toInt64) (x2.toInt64) (x3.toInt64) (x4.toInt64)) (fun (r_2 : Int32) => if r_2 = 0 then some ((-2 : Int32), t) else if (t.1 4) = (10 : Int32) then some ((-4 : Int32), t) else Option.bind (m_X10_adds t x1 x2 x3 x4) (fun (t_6 : ST) => some (((t_6.1 4) - (1 : Int32)), t_6)))
theorem yo_X10_link : yX10_link.cls = RX10 ∧ yX10_link.cls ≠ "java/lang/invoke/MethodHandle" ∧ yX10_link.cls ≠ "java/lang/invoke/VarHandle" ∧ (parseMethodDescriptor yX10_link.desc).map (fun d => d.parameters.length) = some 4 := by decide +kernel
set_option maxHeartbeats 4000000 in
set_option maxRecDepth 100000 in
theorem c_X10_link {l : Launch} {g : gT} {h : Nat → Nat} {t : ST} {x1 : Int32} {x2 : Int32} {x3 : Int32} {x4 : Int32} {r : Int32} {t' : ST} (hm : m_X10_link t x1 x2 x3 x4 = some (r, t')) : MetI l g yX10_link cX10_link 5 (some .int) 3 76 20 h (cM g h t) (cM g h t') [.ref (h 0), .int x1, .int x2, .int x3, .int x4] r := by
  refine MetI.ofX (by decide +kernel) (Nat.le_of_ble_eq_true rfl) ?_
  intro p e s m below meth c AV Q X hret ls hw hl
  replace X : Cx g p s m AV c cX10_link RX10 5 := X
  replace hl : lv_has ls 5 [(0, .ref (h 0)), (1, .int x1), (2, .int x2), (3, .int x3), (4, .int x4)] := hl
  unfold m_X10_link at hm
  refine lv_aload_n X.1 X.2.1 dX10_link_0 rfl (lv_at hl 0 rfl) ?_
  refine lv_iload_n X.1 X.2.1 dX10_link_1 rfl (lv_at hl 1 rfl) ?_
  refine lv_i2l X.1 X.2.1 dX10_link_2 rfl ?_
  refine lv_iload_n X.1 X.2.1 dX10_link_3 rfl (lv_at hl 2 rfl) ?_
  refine lv_i2l X.1 X.2.1 dX10_link_4 rfl ?_
  refine lv_iload_n X.1 X.2.1 dX10_link_5 rfl (lv_at hl 3 rfl) ?_
  refine lv_i2l X.1 X.2.1 dX10_link_6 rfl ?_
  refine lv_iload X.1 X.2.1 dX10_link_7 (lv_at hl 4 rfl) ?_
  refine lv_i2l X.1 X.2.1 dX10_link_9 rfl ?_
  replace hm := ob_e hm
  obtain ⟨r_2, h_1, hm⟩ := hm
  refine k_Vi (k := 0) (As := [.long x1.toInt64, .long x2.toInt64, .long x3.toInt64, .long x4.toInt64]) X hl.1 hw (c_X10_mayLink h_1) (by decide) (he_X10 g h _) rfl ⟨wq_9_18, wq_9_19, wq_9_20, wq_1_5, wq_9_21⟩ yo_X10_mayLink rfl ⟨Nat.le_of_ble_eq_true rfl, Nat.le_of_ble_eq_true rfl⟩ (Nat.le_of_ble_eq_true rfl) dX10_link_10 (fun H locs hw => ?_)
  refine lv_if_ne (tgt := 19) X.1 X.2.1 dX10_link_13 (by decide) (fun c_3 => ?_) (fun c_3 => ?_)
  · replace hm := it_n hm c_3
    refine lv_aload_n X.1 X.2.1 dX10_link_19 rfl (lv_at hl 0 rfl) ?_
    refine gX10_links X hw wq_7_2 dX10_link_20 ?_
    refine lv_bipush (v := 10) X.1 X.2.1 dX10_link_23 (by decide) ?_
    refine lv_icmp_ne (tgt := 31) X.1 X.2.1 dX10_link_25 (by decide) (fun c_4 => ?_) (fun c_4 => ?_)
    · replace hm := it_n hm c_4
      refine lv_aload_n X.1 X.2.1 dX10_link_31 rfl (lv_at hl 0 rfl) ?_
      refine lv_iload_n X.1 X.2.1 dX10_link_32 rfl (lv_at hl 1 rfl) ?_
      refine lv_iload_n X.1 X.2.1 dX10_link_33 rfl (lv_at hl 2 rfl) ?_
      refine lv_iload_n X.1 X.2.1 dX10_link_34 rfl (lv_at hl 3 rfl) ?_
      refine lv_iload X.1 X.2.1 dX10_link_35 (lv_at hl 4 rfl) ?_
      replace hm := ob_e hm
      obtain ⟨t_6, h_5, hm⟩ := hm
      refine k_Vv (k := 0) (As := [.int x1, .int x2, .int x3, .int x4]) X hl.1 hw (c_X10_adds h_5) (by decide) (he_X10 g h _) rfl ⟨wq_10_6, wq_10_7, wq_10_8, wq_1_5, wq_10_9⟩ yo_X10_adds rfl ⟨Nat.le_of_ble_eq_true rfl, Nat.le_of_ble_eq_true rfl⟩ (Nat.le_of_ble_eq_true rfl) dX10_link_37 (fun H locs hw => ?_)
      refine lv_aload_n X.1 X.2.1 dX10_link_40 rfl (lv_at hl 0 rfl) ?_
      refine gX10_links X hw wq_7_2 dX10_link_41 ?_
      refine lv_iconst (v := 1) X.1 X.2.1 dX10_link_44 (by decide) ?_
      refine lv_isub X.1 X.2.1 dX10_link_45 ?_
      obtain ⟨rfl, rfl⟩ := Prod.mk.inj (Option.some.inj hm)
      exact hret _ _ _ _ hw dX10_link_46
    · replace hm := it_p hm c_4
      refine lv_bipush (v := -4) X.1 X.2.1 dX10_link_28 (by decide) ?_
      obtain ⟨rfl, rfl⟩ := Prod.mk.inj (Option.some.inj hm)
      exact hret _ _ _ _ hw dX10_link_30
  · replace hm := it_p hm c_3
    refine lv_bipush (v := -2) X.1 X.2.1 dX10_link_16 (by decide) ?_
    obtain ⟨rfl, rfl⟩ := Prod.mk.inj (Option.some.inj hm)
    exact hret _ _ _ _ hw dX10_link_18
def m_X10_back (t : ST) : Option (Int32 × ST) := if (t.1 4) = 0 then some ((-3 : Int32), t) else lt (wI t 4 (((t.1 4) - (1 : Int32)))) (fun t_2 => some ((t_2.1 4), t_2))
theorem yo_X10_back : yX10_back.cls = RX10 ∧ yX10_back.cls ≠ "java/lang/invoke/MethodHandle" ∧ yX10_back.cls ≠ "java/lang/invoke/VarHandle" ∧ (parseMethodDescriptor yX10_back.desc).map (fun d => d.parameters.length) = some 0 := by decide +kernel
set_option maxHeartbeats 4000000 in
set_option maxRecDepth 100000 in
theorem c_X10_back {l : Launch} {g : gT} {h : Nat → Nat} {t : ST} {r : Int32} {t' : ST} (hm : m_X10_back t = some (r, t')) : MetI l g yX10_back cX10_back 1 (some .int) 0 0 20 h (cM g h t) (cM g h t') [.ref (h 0)] r := by
  refine MetI.ofX (by decide +kernel) (Nat.le_of_ble_eq_true rfl) ?_
  intro p e s m below meth c AV Q X hret ls hw hl
  replace X : Cx g p s m AV c cX10_back RX10 1 := X
  replace hl : lv_has ls 1 [(0, .ref (h 0))] := hl
  unfold m_X10_back at hm
  refine lv_aload_n X.1 X.2.1 dX10_back_0 rfl (lv_at hl 0 rfl) ?_
  refine gX10_links X hw wq_7_2 dX10_back_1 ?_
  refine lv_if_ne (tgt := 10) X.1 X.2.1 dX10_back_4 (by decide) (fun c_1 => ?_) (fun c_1 => ?_)
  · replace hm := it_n hm c_1
    refine lv_aload_n X.1 X.2.1 dX10_back_10 rfl (lv_at hl 0 rfl) ?_
    refine lv_dup X.1 X.2.1 dX10_back_11 rfl ?_
    refine gX10_links X hw wq_7_2 dX10_back_12 ?_
    refine lv_iconst (v := 1) X.1 X.2.1 dX10_back_15 (by decide) ?_
    refine lv_isub X.1 X.2.1 dX10_back_16 ?_
    refine pX10_links X hw wq_7_2 dX10_back_17 (fun H locs hw => ?_)
    obtain ⟨t_2, et_2⟩ : ∃ y, y = wI t 4 (((t.1 4) - (1 : Int32))) := ⟨_, rfl⟩
    rw [← et_2] at hw
    replace hm := lt_e hm et_2
    refine lv_aload_n X.1 X.2.1 dX10_back_20 rfl (lv_at hl 0 rfl) ?_
    refine gX10_links X hw wq_7_2 dX10_back_21 ?_
    obtain ⟨rfl, rfl⟩ := Prod.mk.inj (Option.some.inj hm)
    exact hret _ _ _ _ hw dX10_back_24
  · replace hm := it_p hm c_1
    refine lv_bipush (v := -3) X.1 X.2.1 dX10_back_7 (by decide) ?_
    obtain ⟨rfl, rfl⟩ := Prod.mk.inj (Option.some.inj hm)
    exact hret _ _ _ _ hw dX10_back_9
def m_X10_chance (t : ST) (x1 : Int32) (x2 : Int32) (x3 : Int32) : Option (Int32 × ST) := Option.bind (m_X10_isLink t x1) (fun (r_2 : Int32) => if r_2 = 0 then some ((-2 : Int32), t) else Option.bind (m_X10_isChance (x2.toInt64) (x3.toInt64)) (fun (r_6 : Int32) => if r_6 = 0 then some ((-2 : Int32), t) else gd (¬ (x1 < 0 ∨ 10 ≤ x1.toNatClampNeg)) (gd (¬ (x1 < 0 ∨ 10 ≤ x1.toNatClampNeg)) (lt (((10 : Int32) * (t.2.2.1 3 x1.toNatClampNeg)) + (t.2.2.1 4 x1.toNatClampNeg)) (fun x_10 => gd (¬ (x1 < 0 ∨ 10 ≤ x1.toNatClampNeg)) (lt (wA t 3 x1.toNatClampNeg x2) (fun t_12 => gd (¬ (x1 < 0 ∨ 10 ≤ x1.toNatClampNeg)) (lt (wA t_12 4 x1.toNatClampNeg x3) (fun t_14 => some (x_10, t_14))))))))))
theorem yo_X10_chance : yX10_chance.cls = RX10 ∧ yX10_chance.cls ≠ "java/lang/invoke/MethodHandle" ∧ yX10_chance.cls ≠ "java/lang/invoke/VarHandle" ∧ (parseMethodDescriptor yX10_chance.desc).map (fun d => d.parameters.length) = some 3 := by decide +kernel
set_option maxHeartbeats 4000000 in
set_option maxRecDepth 100000 in
theorem c_X10_chance {l : Launch} {g : gT} {h : Nat → Nat} {t : ST} {x1 : Int32} {x2 : Int32} {x3 : Int32} {r : Int32} {t' : ST} (hm : m_X10_chance t x1 x2 x3 = some (r, t')) : MetI l g yX10_chance cX10_chance 5 (some .int) 2 48 20 h (cM g h t) (cM g h t') [.ref (h 0), .int x1, .int x2, .int x3] r := by
  refine MetI.ofX (by decide +kernel) (Nat.le_of_ble_eq_true rfl) ?_
  intro p e s m below meth c AV Q X hret ls hw hl
  replace X : Cx g p s m AV c cX10_chance RX10 5 := X
  replace hl : lv_has ls 5 [(0, .ref (h 0)), (1, .int x1), (2, .int x2), (3, .int x3)] := hl
  unfold m_X10_chance at hm
  refine lv_aload_n X.1 X.2.1 dX10_chance_0 rfl (lv_at hl 0 rfl) ?_
  refine lv_iload_n X.1 X.2.1 dX10_chance_1 rfl (lv_at hl 1 rfl) ?_
  replace hm := ob_e hm
  obtain ⟨r_2, h_1, hm⟩ := hm
  refine k_Vi (k := 0) (As := [.int x1]) X hl.1 hw (c_X10_isLink h_1) (by decide) (he_X10 g h _) rfl ⟨wq_12_0, wq_12_1, wq_12_2, wq_1_5, wq_12_3⟩ yo_X10_isLink rfl ⟨Nat.le_of_ble_eq_true rfl, Nat.le_of_ble_eq_true rfl⟩ (Nat.le_of_ble_eq_true rfl) dX10_chance_2 (fun H locs hw => ?_)
  refine lv_if_eq (tgt := 18) X.1 X.2.1 dX10_chance_5 (by decide) (fun c_3 => ?_) (fun c_3 => ?_)
  · replace hm := it_p hm c_3
    refine lv_bipush (v := -2) X.1 X.2.1 dX10_chance_18 (by decide) ?_
    obtain ⟨rfl, rfl⟩ := Prod.mk.inj (Option.some.inj hm)
    exact hret _ _ _ _ hw dX10_chance_20
  · replace hm := it_n hm c_3
    refine lv_iload_n X.1 X.2.1 dX10_chance_8 rfl (lv_at hl 2 rfl) ?_
    refine lv_i2l X.1 X.2.1 dX10_chance_9 rfl ?_
    refine lv_iload_n X.1 X.2.1 dX10_chance_10 rfl (lv_at hl 3 rfl) ?_
    refine lv_i2l X.1 X.2.1 dX10_chance_11 rfl ?_
    replace hm := ob_e hm
    obtain ⟨r_6, h_5, hm⟩ := hm
    refine k_Si (As := [.long x2.toInt64, .long x3.toInt64]) X hl.1 hw (c_X10_isChance h_5) ⟨wq_10_2, wq_10_3, wq_1_5, wq_10_4⟩ yo_X10_isChance rfl ⟨Nat.le_of_ble_eq_true rfl, Nat.le_of_ble_eq_true rfl⟩ (Nat.le_of_ble_eq_true rfl) dX10_chance_12 (fun H locs hw => ?_)
    refine lv_if_ne (tgt := 21) X.1 X.2.1 dX10_chance_15 (by decide) (fun c_7 => ?_) (fun c_7 => ?_)
    · replace hm := it_n hm c_7
      refine lv_bipush (v := 10) X.1 X.2.1 dX10_chance_21 (by decide) ?_
      refine lv_aload_n X.1 X.2.1 dX10_chance_23 rfl (lv_at hl 0 rfl) ?_
      refine gX10_ups X hw wq_5_14 dX10_chance_24 ?_
      refine lv_iload_n X.1 X.2.1 dX10_chance_27 rfl (lv_at hl 1 rfl) ?_
      replace hm := gd_e hm
      obtain ⟨g_8, hm⟩ := hm
      refine lMA3 X hw g_8 dX10_chance_28 ?_
      refine lv_imul X.1 X.2.1 dX10_chance_29 ?_
      refine lv_aload_n X.1 X.2.1 dX10_chance_30 rfl (lv_at hl 0 rfl) ?_
      refine gX10_belows X hw wq_5_15 dX10_chance_31 ?_
      refine lv_iload_n X.1 X.2.1 dX10_chance_34 rfl (lv_at hl 1 rfl) ?_
      replace hm := gd_e hm
      obtain ⟨g_9, hm⟩ := hm
      refine lMA4 X hw g_9 dX10_chance_35 ?_
      refine lv_iadd X.1 X.2.1 dX10_chance_36 ?_
      refine lv_topi (fun x_10 ex_10 => ?_)
      replace hm := lt_e hm ex_10
      refine lv_istore (lv' := [(4, .int x_10), (0, .ref (h 0)), (1, .int x1), (2, .int x2), (3, .int x3)]) X.1 X.2.1 dX10_chance_37 hl (by decide) rfl (fun ls hl => ?_)
      refine lv_aload_n X.1 X.2.1 dX10_chance_39 rfl (lv_at hl 1 rfl) ?_
      refine gX10_ups X hw wq_5_14 dX10_chance_40 ?_
      refine lv_iload_n X.1 X.2.1 dX10_chance_43 rfl (lv_at hl 2 rfl) ?_
      refine lv_iload_n X.1 X.2.1 dX10_chance_44 rfl (lv_at hl 3 rfl) ?_
      replace hm := gd_e hm
      obtain ⟨g_11, hm⟩ := hm
      refine sMA3 X hw g_11 dX10_chance_45 (fun H locs hw => ?_)
      obtain ⟨t_12, et_12⟩ : ∃ y, y = wA t 3 x1.toNatClampNeg x2 := ⟨_, rfl⟩
      rw [← et_12] at hw
      replace hm := lt_e hm et_12
      refine lv_aload_n X.1 X.2.1 dX10_chance_46 rfl (lv_at hl 1 rfl) ?_
      refine gX10_belows X hw wq_5_15 dX10_chance_47 ?_
      refine lv_iload_n X.1 X.2.1 dX10_chance_50 rfl (lv_at hl 2 rfl) ?_
      refine lv_iload_n X.1 X.2.1 dX10_chance_51 rfl (lv_at hl 4 rfl) ?_
      replace hm := gd_e hm
      obtain ⟨g_13, hm⟩ := hm
      refine sMA4 X hw g_13 dX10_chance_52 (fun H locs hw => ?_)
      obtain ⟨t_14, et_14⟩ : ∃ y, y = wA t_12 4 x1.toNatClampNeg x3 := ⟨_, rfl⟩
      rw [← et_14] at hw
      replace hm := lt_e hm et_14
      refine lv_iload X.1 X.2.1 dX10_chance_53 (lv_at hl 0 rfl) ?_
      obtain ⟨rfl, rfl⟩ := Prod.mk.inj (Option.some.inj hm)
      exact hret _ _ _ _ hw dX10_chance_55
    · replace hm := it_p hm c_7
      refine lv_bipush (v := -2) X.1 X.2.1 dX10_chance_18 (by decide) ?_
      obtain ⟨rfl, rfl⟩ := Prod.mk.inj (Option.some.inj hm)
      exact hret _ _ _ _ hw dX10_chance_20
def m_X10_see (t : ST) (x1 : Int32) (x2 : Int32) : Option (Int32 × ST) := Option.bind (m_X10_isLink t x1) (fun (r_2 : Int32) => if r_2 = 0 then some ((-2 : Int32), t) else Option.bind (m_X10_in (x2.toInt64) (0 : Int64) (2 : Int64)) (fun (r_6 : Int32) => if r_6 = 0 then some ((-2 : Int32), t) else gd (¬ (x1 < 0 ∨ 10 ≤ x1.toNatClampNeg)) (lt (t.2.2.1 5 x1.toNatClampNeg) (fun x_9 => gd (¬ (x1 < 0 ∨ 10 ≤ x1.toNatClampNeg)) (lt (wA t 5 x1.toNatClampNeg x2) (fun t_11 => some (x_9, t_11)))))))
theorem yo_X10_see : yX10_see.cls = RX10 ∧ yX10_see.cls ≠ "java/lang/invoke/MethodHandle" ∧ yX10_see.cls ≠ "java/lang/invoke/VarHandle" ∧ (parseMethodDescriptor yX10_see.desc).map (fun d => d.parameters.length) = some 2 := by decide +kernel
set_option maxHeartbeats 4000000 in
set_option maxRecDepth 100000 in
theorem c_X10_see {l : Launch} {g : gT} {h : Nat → Nat} {t : ST} {x1 : Int32} {x2 : Int32} {r : Int32} {t' : ST} (hm : m_X10_see t x1 x2 = some (r, t')) : MetI l g yX10_see cX10_see 4 (some .int) 2 46 20 h (cM g h t) (cM g h t') [.ref (h 0), .int x1, .int x2] r := by
  refine MetI.ofX (by decide +kernel) (Nat.le_of_ble_eq_true rfl) ?_
  intro p e s m below meth c AV Q X hret ls hw hl
  replace X : Cx g p s m AV c cX10_see RX10 4 := X
  replace hl : lv_has ls 4 [(0, .ref (h 0)), (1, .int x1), (2, .int x2)] := hl
  unfold m_X10_see at hm
  refine lv_aload_n X.1 X.2.1 dX10_see_0 rfl (lv_at hl 0 rfl) ?_
  refine lv_iload_n X.1 X.2.1 dX10_see_1 rfl (lv_at hl 1 rfl) ?_
  replace hm := ob_e hm
  obtain ⟨r_2, h_1, hm⟩ := hm
  refine k_Vi (k := 0) (As := [.int x1]) X hl.1 hw (c_X10_isLink h_1) (by decide) (he_X10 g h _) rfl ⟨wq_12_0, wq_12_1, wq_12_2, wq_1_5, wq_12_3⟩ yo_X10_isLink rfl ⟨Nat.le_of_ble_eq_true rfl, Nat.le_of_ble_eq_true rfl⟩ (Nat.le_of_ble_eq_true rfl) dX10_see_2 (fun H locs hw => ?_)
  refine lv_if_eq (tgt := 20) X.1 X.2.1 dX10_see_5 (by decide) (fun c_3 => ?_) (fun c_3 => ?_)
  · replace hm := it_p hm c_3
    refine lv_bipush (v := -2) X.1 X.2.1 dX10_see_20 (by decide) ?_
    obtain ⟨rfl, rfl⟩ := Prod.mk.inj (Option.some.inj hm)
    exact hret _ _ _ _ hw dX10_see_22
  · replace hm := it_n hm c_3
    refine lv_iload_n X.1 X.2.1 dX10_see_8 rfl (lv_at hl 2 rfl) ?_
    refine lv_i2l X.1 X.2.1 dX10_see_9 rfl ?_
    refine lv_lconst (v := 0) X.1 X.2.1 dX10_see_10 (by decide) ?_
    refine lv_ldc2 (v := 2) X.1 X.2.1 X.2.2.2.1 (X.2.2.2.2.1 _ wq_7_0) dX10_see_11 ?_
    replace hm := ob_e hm
    obtain ⟨r_6, h_5, hm⟩ := hm
    refine k_Si (As := [.long x2.toInt64, .long (0 : Int64), .long (2 : Int64)]) X hl.1 hw (c_X10_in h_5) ⟨wq_7_5, wq_7_6, wq_1_5, wq_7_7⟩ yo_X10_in rfl ⟨Nat.le_of_ble_eq_true rfl, Nat.le_of_ble_eq_true rfl⟩ (Nat.le_of_ble_eq_true rfl) dX10_see_14 (fun H locs hw => ?_)
    refine lv_if_ne (tgt := 23) X.1 X.2.1 dX10_see_17 (by decide) (fun c_7 => ?_) (fun c_7 => ?_)
    · replace hm := it_n hm c_7
      refine lv_aload_n X.1 X.2.1 dX10_see_23 rfl (lv_at hl 0 rfl) ?_
      refine gX10_seens X hw wq_5_16 dX10_see_24 ?_
      refine lv_iload_n X.1 X.2.1 dX10_see_27 rfl (lv_at hl 1 rfl) ?_
      replace hm := gd_e hm
      obtain ⟨g_8, hm⟩ := hm
      refine lMA5 X hw g_8 dX10_see_28 ?_
      refine lv_topi (fun x_9 ex_9 => ?_)
      replace hm := lt_e hm ex_9
      refine lv_istore_n (lv' := [(3, .int x_9), (0, .ref (h 0)), (1, .int x1), (2, .int x2)]) X.1 X.2.1 dX10_see_29 rfl hl (by decide) rfl (fun ls hl => ?_)
      refine lv_aload_n X.1 X.2.1 dX10_see_30 rfl (lv_at hl 1 rfl) ?_
      refine gX10_seens X hw wq_5_16 dX10_see_31 ?_
      refine lv_iload_n X.1 X.2.1 dX10_see_34 rfl (lv_at hl 2 rfl) ?_
      refine lv_iload_n X.1 X.2.1 dX10_see_35 rfl (lv_at hl 3 rfl) ?_
      replace hm := gd_e hm
      obtain ⟨g_10, hm⟩ := hm
      refine sMA5 X hw g_10 dX10_see_36 (fun H locs hw => ?_)
      obtain ⟨t_11, et_11⟩ : ∃ y, y = wA t 5 x1.toNatClampNeg x2 := ⟨_, rfl⟩
      rw [← et_11] at hw
      replace hm := lt_e hm et_11
      refine lv_iload_n X.1 X.2.1 dX10_see_37 rfl (lv_at hl 0 rfl) ?_
      obtain ⟨rfl, rfl⟩ := Prod.mk.inj (Option.some.inj hm)
      exact hret _ _ _ _ hw dX10_see_38
    · replace hm := it_p hm c_7
      refine lv_bipush (v := -2) X.1 X.2.1 dX10_see_20 (by decide) ?_
      obtain ⟨rfl, rfl⟩ := Prod.mk.inj (Option.some.inj hm)
      exact hret _ _ _ _ hw dX10_see_22
def m_X10_source (t : ST) (x1 : Int32) : Option (Int32 × ST) := Option.bind (m_X10_isStation t (x1.toInt64)) (fun (r_2 : Int32) => if r_2 = 0 then some ((-2 : Int32), t) else lt (t.1 2) (fun x_4 => lt (wI t 2 x1) (fun t_5 => some (x_4, t_5))))
theorem yo_X10_source : yX10_source.cls = RX10 ∧ yX10_source.cls ≠ "java/lang/invoke/MethodHandle" ∧ yX10_source.cls ≠ "java/lang/invoke/VarHandle" ∧ (parseMethodDescriptor yX10_source.desc).map (fun d => d.parameters.length) = some 1 := by decide +kernel
set_option maxHeartbeats 4000000 in
set_option maxRecDepth 100000 in
theorem c_X10_source {l : Launch} {g : gT} {h : Nat → Nat} {t : ST} {x1 : Int32} {r : Int32} {t' : ST} (hm : m_X10_source t x1 = some (r, t')) : MetI l g yX10_source cX10_source 3 (some .int) 2 47 20 h (cM g h t) (cM g h t') [.ref (h 0), .int x1] r := by
  refine MetI.ofX (by decide +kernel) (Nat.le_of_ble_eq_true rfl) ?_
  intro p e s m below meth c AV Q X hret ls hw hl
  replace X : Cx g p s m AV c cX10_source RX10 3 := X
  replace hl : lv_has ls 3 [(0, .ref (h 0)), (1, .int x1)] := hl
  unfold m_X10_source at hm
  refine lv_aload_n X.1 X.2.1 dX10_source_0 rfl (lv_at hl 0 rfl) ?_
  refine lv_iload_n X.1 X.2.1 dX10_source_1 rfl (lv_at hl 1 rfl) ?_
  refine lv_i2l X.1 X.2.1 dX10_source_2 rfl ?_
  replace hm := ob_e hm
  obtain ⟨r_2, h_1, hm⟩ := hm
  refine k_Vi (k := 0) (As := [.long x1.toInt64]) X hl.1 hw (c_X10_isStation h_1) (by decide) (he_X10 g h _) rfl ⟨wq_9_22, wq_9_23, wq_10_0, wq_1_5, wq_10_1⟩ yo_X10_isStation rfl ⟨Nat.le_of_ble_eq_true rfl, Nat.le_of_ble_eq_true rfl⟩ (Nat.le_of_ble_eq_true rfl) dX10_source_3 (fun H locs hw => ?_)
  refine lv_if_ne (tgt := 12) X.1 X.2.1 dX10_source_6 (by decide) (fun c_3 => ?_) (fun c_3 => ?_)
  · replace hm := it_n hm c_3
    refine lv_aload_n X.1 X.2.1 dX10_source_12 rfl (lv_at hl 0 rfl) ?_
    refine gX10_source X hw wq_7_4 dX10_source_13 ?_
    refine lv_topi (fun x_4 ex_4 => ?_)
    replace hm := lt_e hm ex_4
    refine lv_istore_n (lv' := [(2, .int x_4), (0, .ref (h 0)), (1, .int x1)]) X.1 X.2.1 dX10_source_16 rfl hl (by decide) rfl (fun ls hl => ?_)
    refine lv_aload_n X.1 X.2.1 dX10_source_17 rfl (lv_at hl 1 rfl) ?_
    refine lv_iload_n X.1 X.2.1 dX10_source_18 rfl (lv_at hl 2 rfl) ?_
    refine pX10_source X hw wq_7_4 dX10_source_19 (fun H locs hw => ?_)
    obtain ⟨t_5, et_5⟩ : ∃ y, y = wI t 2 x1 := ⟨_, rfl⟩
    rw [← et_5] at hw
    replace hm := lt_e hm et_5
    refine lv_iload_n X.1 X.2.1 dX10_source_22 rfl (lv_at hl 0 rfl) ?_
    obtain ⟨rfl, rfl⟩ := Prod.mk.inj (Option.some.inj hm)
    exact hret _ _ _ _ hw dX10_source_23
  · replace hm := it_p hm c_3
    refine lv_bipush (v := -2) X.1 X.2.1 dX10_source_9 (by decide) ?_
    obtain ⟨rfl, rfl⟩ := Prod.mk.inj (Option.some.inj hm)
    exact hret _ _ _ _ hw dX10_source_11
def m_X10_goals (t : ST) (x1 : Int32) : Option (Int32 × ST) := lt (((1 : Int32) <<< ((t.1 1) &&& 31)) - (1 : Int32)) (fun x_1 => Option.bind (m_X10_in (x1.toInt64) (0 : Int64) (x_1.toInt64)) (fun (r_3 : Int32) => if r_3 = 0 then some ((-2 : Int32), t) else lt (t.1 3) (fun x_5 => lt (wI t 3 x1) (fun t_6 => some (x_5, t_6)))))
theorem yo_X10_goals : yX10_goals.cls = RX10 ∧ yX10_goals.cls ≠ "java/lang/invoke/MethodHandle" ∧ yX10_goals.cls ≠ "java/lang/invoke/VarHandle" ∧ (parseMethodDescriptor yX10_goals.desc).map (fun d => d.parameters.length) = some 1 := by decide +kernel
set_option maxHeartbeats 4000000 in
set_option maxRecDepth 100000 in
theorem c_X10_goals {l : Launch} {g : gT} {h : Nat → Nat} {t : ST} {x1 : Int32} {r : Int32} {t' : ST} (hm : m_X10_goals t x1 = some (r, t')) : MetI l g yX10_goals cX10_goals 3 (some .int) 1 25 20 h (cM g h t) (cM g h t') [.ref (h 0), .int x1] r := by
  refine MetI.ofX (by decide +kernel) (Nat.le_of_ble_eq_true rfl) ?_
  intro p e s m below meth c AV Q X hret ls hw hl
  replace X : Cx g p s m AV c cX10_goals RX10 3 := X
  replace hl : lv_has ls 3 [(0, .ref (h 0)), (1, .int x1)] := hl
  unfold m_X10_goals at hm
  refine lv_iload_n X.1 X.2.1 dX10_goals_0 rfl (lv_at hl 1 rfl) ?_
  refine lv_i2l X.1 X.2.1 dX10_goals_1 rfl ?_
  refine lv_lconst (v := 0) X.1 X.2.1 dX10_goals_2 (by decide) ?_
  refine lv_iconst (v := 1) X.1 X.2.1 dX10_goals_3 (by decide) ?_
  refine lv_aload_n X.1 X.2.1 dX10_goals_4 rfl (lv_at hl 0 rfl) ?_
  refine gX10_stations X hw wq_6_4 dX10_goals_5 ?_
  refine lv_ishl X.1 X.2.1 dX10_goals_8 ?_
  refine lv_iconst (v := 1) X.1 X.2.1 dX10_goals_9 (by decide) ?_
  refine lv_isub X.1 X.2.1 dX10_goals_10 ?_
  refine lv_topi (fun x_1 ex_1 => ?_)
  replace hm := lt_e hm ex_1
  refine lv_i2l X.1 X.2.1 dX10_goals_11 rfl ?_
  replace hm := ob_e hm
  obtain ⟨r_3, h_2, hm⟩ := hm
  refine k_Si (As := [.long x1.toInt64, .long (0 : Int64), .long x_1.toInt64]) X hl.1 hw (c_X10_in h_2) ⟨wq_7_5, wq_7_6, wq_1_5, wq_7_7⟩ yo_X10_in rfl ⟨Nat.le_of_ble_eq_true rfl, Nat.le_of_ble_eq_true rfl⟩ (Nat.le_of_ble_eq_true rfl) dX10_goals_12 (fun H locs hw => ?_)
  refine lv_if_ne (tgt := 21) X.1 X.2.1 dX10_goals_15 (by decide) (fun c_4 => ?_) (fun c_4 => ?_)
  · replace hm := it_n hm c_4
    refine lv_aload_n X.1 X.2.1 dX10_goals_21 rfl (lv_at hl 0 rfl) ?_
    refine gX10_goals X hw wq_7_3 dX10_goals_22 ?_
    refine lv_topi (fun x_5 ex_5 => ?_)
    replace hm := lt_e hm ex_5
    refine lv_istore_n (lv' := [(2, .int x_5), (0, .ref (h 0)), (1, .int x1)]) X.1 X.2.1 dX10_goals_25 rfl hl (by decide) rfl (fun ls hl => ?_)
    refine lv_aload_n X.1 X.2.1 dX10_goals_26 rfl (lv_at hl 1 rfl) ?_
    refine lv_iload_n X.1 X.2.1 dX10_goals_27 rfl (lv_at hl 2 rfl) ?_
    refine pX10_goals X hw wq_7_3 dX10_goals_28 (fun H locs hw => ?_)
    obtain ⟨t_6, et_6⟩ : ∃ y, y = wI t 3 x1 := ⟨_, rfl⟩
    rw [← et_6] at hw
    replace hm := lt_e hm et_6
    refine lv_iload_n X.1 X.2.1 dX10_goals_31 rfl (lv_at hl 0 rfl) ?_
    obtain ⟨rfl, rfl⟩ := Prod.mk.inj (Option.some.inj hm)
    exact hret _ _ _ _ hw dX10_goals_32
  · replace hm := it_p hm c_4
    refine lv_bipush (v := -2) X.1 X.2.1 dX10_goals_18 (by decide) ?_
    obtain ⟨rfl, rfl⟩ := Prod.mk.inj (Option.some.inj hm)
    exact hret _ _ _ _ hw dX10_goals_20
def m_X10_infoBy (t : ST) (x1 : Int32) (x2 : Int32) : Option (Int32) := if x2 = 0 then gd (¬ (x1 < 0 ∨ 10 ≤ x1.toNatClampNeg)) (some (t.2.2.1 1 x1.toNatClampNeg)) else (if x2 = 1 then gd (¬ (x1 < 0 ∨ 10 ≤ x1.toNatClampNeg)) (some (t.2.2.1 2 x1.toNatClampNeg)) else (if x2 = 2 then gd (¬ (x1 < 0 ∨ 10 ≤ x1.toNatClampNeg)) (some (t.2.2.1 3 x1.toNatClampNeg)) else (if x2 = 3 then gd (¬ (x1 < 0 ∨ 10 ≤ x1.toNatClampNeg)) (some (t.2.2.1 4 x1.toNatClampNeg)) else (gd (¬ (x1 < 0 ∨ 10 ≤ x1.toNatClampNeg)) (some (t.2.2.1 5 x1.toNatClampNeg))))))
theorem yo_X10_infoBy : yX10_infoBy.cls = RX10 ∧ yX10_infoBy.cls ≠ "java/lang/invoke/MethodHandle" ∧ yX10_infoBy.cls ≠ "java/lang/invoke/VarHandle" ∧ (parseMethodDescriptor yX10_infoBy.desc).map (fun d => d.parameters.length) = some 2 := by decide +kernel
set_option maxHeartbeats 4000000 in
set_option maxRecDepth 100000 in
theorem c_X10_infoBy {l : Launch} {g : gT} {h : Nat → Nat} {t : ST} {x1 : Int32} {x2 : Int32} {r : Int32} (hm : m_X10_infoBy t x1 x2 = some r) : MetI l g yX10_infoBy cX10_infoBy 3 (some .int) 0 0 20 h (cM g h t) (cM g h t) [.ref (h 0), .int x1, .int x2] r := by
  refine MetI.ofX (by decide +kernel) (Nat.le_of_ble_eq_true rfl) ?_
  intro p e s m below meth c AV Q X hret ls hw hl
  replace X : Cx g p s m AV c cX10_infoBy RX10 3 := X
  replace hl : lv_has ls 3 [(0, .ref (h 0)), (1, .int x1), (2, .int x2)] := hl
  unfold m_X10_infoBy at hm
  refine lv_iload_n X.1 X.2.1 dX10_infoBy_0 rfl (lv_at hl 2 rfl) ?_
  by_cases c_1 : x2 = 0
  · replace hm := it_p hm c_1
    refine x_tab X c_1 dX10_infoBy_1 (off := 31) (tgt := 32) (by decide) (by decide) rfl (by decide) ?_
    refine lv_aload_n X.1 X.2.1 dX10_infoBy_32 rfl (lv_at hl 0 rfl) ?_
    refine gX10_ones X hw wq_5_12 dX10_infoBy_33 ?_
    refine lv_iload_n X.1 X.2.1 dX10_infoBy_36 rfl (lv_at hl 1 rfl) ?_
    replace hm := gd_e hm
    obtain ⟨g_2, hm⟩ := hm
    refine lMA1 X hw g_2 dX10_infoBy_37 ?_
    obtain rfl := Option.some.inj hm
    exact hret _ _ _ _ hw dX10_infoBy_38
  · replace hm := it_n hm c_1
    by_cases c_3 : x2 = 1
    · replace hm := it_p hm c_3
      refine x_tab X c_3 dX10_infoBy_1 (off := 38) (tgt := 39) (by decide) (by decide) rfl (by decide) ?_
      refine lv_aload_n X.1 X.2.1 dX10_infoBy_39 rfl (lv_at hl 0 rfl) ?_
      refine gX10_others X hw wq_5_13 dX10_infoBy_40 ?_
      refine lv_iload_n X.1 X.2.1 dX10_infoBy_43 rfl (lv_at hl 1 rfl) ?_
      replace hm := gd_e hm
      obtain ⟨g_4, hm⟩ := hm
      refine lMA2 X hw g_4 dX10_infoBy_44 ?_
      obtain rfl := Option.some.inj hm
      exact hret _ _ _ _ hw dX10_infoBy_45
    · replace hm := it_n hm c_3
      by_cases c_5 : x2 = 2
      · replace hm := it_p hm c_5
        refine x_tab X c_5 dX10_infoBy_1 (off := 45) (tgt := 46) (by decide) (by decide) rfl (by decide) ?_
        refine lv_aload_n X.1 X.2.1 dX10_infoBy_46 rfl (lv_at hl 0 rfl) ?_
        refine gX10_ups X hw wq_5_14 dX10_infoBy_47 ?_
        refine lv_iload_n X.1 X.2.1 dX10_infoBy_50 rfl (lv_at hl 1 rfl) ?_
        replace hm := gd_e hm
        obtain ⟨g_6, hm⟩ := hm
        refine lMA3 X hw g_6 dX10_infoBy_51 ?_
        obtain rfl := Option.some.inj hm
        exact hret _ _ _ _ hw dX10_infoBy_52
      · replace hm := it_n hm c_5
        by_cases c_7 : x2 = 3
        · replace hm := it_p hm c_7
          refine x_tab X c_7 dX10_infoBy_1 (off := 52) (tgt := 53) (by decide) (by decide) rfl (by decide) ?_
          refine lv_aload_n X.1 X.2.1 dX10_infoBy_53 rfl (lv_at hl 0 rfl) ?_
          refine gX10_belows X hw wq_5_15 dX10_infoBy_54 ?_
          refine lv_iload_n X.1 X.2.1 dX10_infoBy_57 rfl (lv_at hl 1 rfl) ?_
          replace hm := gd_e hm
          obtain ⟨g_8, hm⟩ := hm
          refine lMA4 X hw g_8 dX10_infoBy_58 ?_
          obtain rfl := Option.some.inj hm
          exact hret _ _ _ _ hw dX10_infoBy_59
        · replace hm := it_n hm c_7
          have tc_1 : ¬ x2.toInt = 0 := lv_neT c_1 (k := 0) (by decide)
          have tc_3 : ¬ x2.toInt = 1 := lv_neT c_3 (k := 1) (by decide)
          have tc_5 : ¬ x2.toInt = 2 := lv_neT c_5 (k := 2) (by decide)
          have tc_7 : ¬ x2.toInt = 3 := lv_neT c_7 (k := 3) (by decide)
          refine lv_tableOut X.1 X.2.1 (tgt := 60) dX10_infoBy_1 (by omega) (by decide) ?_
          refine lv_aload_n X.1 X.2.1 dX10_infoBy_60 rfl (lv_at hl 0 rfl) ?_
          refine gX10_seens X hw wq_5_16 dX10_infoBy_61 ?_
          refine lv_iload_n X.1 X.2.1 dX10_infoBy_64 rfl (lv_at hl 1 rfl) ?_
          replace hm := gd_e hm
          obtain ⟨g_9, hm⟩ := hm
          refine lMA5 X hw g_9 dX10_infoBy_65 ?_
          obtain rfl := Option.some.inj hm
          exact hret _ _ _ _ hw dX10_infoBy_66
def m_X10_info (t : ST) (x1 : Int32) (x2 : Int32) : Option (Int32) := Option.bind (m_X10_isLink t x1) (fun (r_2 : Int32) => if r_2 = 0 then some (-2 : Int32) else Option.bind (m_X10_in (x2.toInt64) (0 : Int64) (4 : Int64)) (fun (r_5 : Int32) => if r_5 = 0 then some (-2 : Int32) else Option.bind (m_X10_infoBy t x1 x2) (fun (r_8 : Int32) => some r_8)))
theorem yo_X10_info : yX10_info.cls = RX10 ∧ yX10_info.cls ≠ "java/lang/invoke/MethodHandle" ∧ yX10_info.cls ≠ "java/lang/invoke/VarHandle" ∧ (parseMethodDescriptor yX10_info.desc).map (fun d => d.parameters.length) = some 2 := by decide +kernel
set_option maxHeartbeats 4000000 in
set_option maxRecDepth 100000 in
theorem c_X10_info {l : Launch} {g : gT} {h : Nat → Nat} {t : ST} {x1 : Int32} {x2 : Int32} {r : Int32} (hm : m_X10_info t x1 x2 = some r) : MetI l g yX10_info cX10_info 3 (some .int) 2 46 20 h (cM g h t) (cM g h t) [.ref (h 0), .int x1, .int x2] r := by
  refine MetI.ofX (by decide +kernel) (Nat.le_of_ble_eq_true rfl) ?_
  intro p e s m below meth c AV Q X hret ls hw hl
  replace X : Cx g p s m AV c cX10_info RX10 3 := X
  replace hl : lv_has ls 3 [(0, .ref (h 0)), (1, .int x1), (2, .int x2)] := hl
  unfold m_X10_info at hm
  refine lv_aload_n X.1 X.2.1 dX10_info_0 rfl (lv_at hl 0 rfl) ?_
  refine lv_iload_n X.1 X.2.1 dX10_info_1 rfl (lv_at hl 1 rfl) ?_
  replace hm := ob_e hm
  obtain ⟨r_2, h_1, hm⟩ := hm
  refine k_Vi (k := 0) (As := [.int x1]) X hl.1 hw (c_X10_isLink h_1) (by decide) (he_X10 g h _) rfl ⟨wq_12_0, wq_12_1, wq_12_2, wq_1_5, wq_12_3⟩ yo_X10_isLink rfl ⟨Nat.le_of_ble_eq_true rfl, Nat.le_of_ble_eq_true rfl⟩ (Nat.le_of_ble_eq_true rfl) dX10_info_2 (fun H locs hw => ?_)
  refine lv_if_eq (tgt := 29) X.1 X.2.1 dX10_info_5 (by decide) (fun c_3 => ?_) (fun c_3 => ?_)
  · replace hm := it_p hm c_3
    refine lv_bipush (v := -2) X.1 X.2.1 dX10_info_29 (by decide) ?_
    obtain rfl := Option.some.inj hm
    exact hret _ _ _ _ hw dX10_info_31
  · replace hm := it_n hm c_3
    refine lv_iload_n X.1 X.2.1 dX10_info_8 rfl (lv_at hl 2 rfl) ?_
    refine lv_i2l X.1 X.2.1 dX10_info_9 rfl ?_
    refine lv_lconst (v := 0) X.1 X.2.1 dX10_info_10 (by decide) ?_
    refine lv_ldc2 (v := 4) X.1 X.2.1 X.2.2.2.1 (X.2.2.2.2.1 _ wq_14_19) dX10_info_11 ?_
    replace hm := ob_e hm
    obtain ⟨r_5, h_4, hm⟩ := hm
    refine k_Si (As := [.long x2.toInt64, .long (0 : Int64), .long (4 : Int64)]) X hl.1 hw (c_X10_in h_4) ⟨wq_7_5, wq_7_6, wq_1_5, wq_7_7⟩ yo_X10_in rfl ⟨Nat.le_of_ble_eq_true rfl, Nat.le_of_ble_eq_true rfl⟩ (Nat.le_of_ble_eq_true rfl) dX10_info_14 (fun H locs hw => ?_)
    refine lv_if_eq (tgt := 29) X.1 X.2.1 dX10_info_17 (by decide) (fun c_6 => ?_) (fun c_6 => ?_)
    · replace hm := it_p hm c_6
      refine lv_bipush (v := -2) X.1 X.2.1 dX10_info_29 (by decide) ?_
      obtain rfl := Option.some.inj hm
      exact hret _ _ _ _ hw dX10_info_31
    · replace hm := it_n hm c_6
      refine lv_aload_n X.1 X.2.1 dX10_info_20 rfl (lv_at hl 0 rfl) ?_
      refine lv_iload_n X.1 X.2.1 dX10_info_21 rfl (lv_at hl 1 rfl) ?_
      refine lv_iload_n X.1 X.2.1 dX10_info_22 rfl (lv_at hl 2 rfl) ?_
      replace hm := ob_e hm
      obtain ⟨r_8, h_7, hm⟩ := hm
      refine k_Vi (k := 0) (As := [.int x1, .int x2]) X hl.1 hw (c_X10_infoBy h_7) (by decide) (he_X10 g h _) rfl ⟨wq_14_20, wq_14_21, wq_14_22, wq_1_5, wq_14_23⟩ yo_X10_infoBy rfl ⟨Nat.le_of_ble_eq_true rfl, Nat.le_of_ble_eq_true rfl⟩ (Nat.le_of_ble_eq_true rfl) dX10_info_23 (fun H locs hw => ?_)
      refine lv_goto (tgt := 31) X.1 X.2.1 dX10_info_26 (by decide) ?_
      obtain rfl := Option.some.inj hm
      exact hret _ _ _ _ hw dX10_info_31
def m_X10_read_L33 (x1 : Int32) (σ : Int32 × Int32 × Int32 × ST) : Option ((Int32 × Int32 × Int32 × ST) ⊕ (Int32 × ST)) := (fun (q_53 : Int32 × Int32 × Int32 × ST) => un q_53 (fun y_6 q_53 => un q_53 (fun y_7 q_53 => un q_53 (fun y_8 t_9 => gd (¬ (x1 < 0 ∨ 3 ≤ x1.toNatClampNeg)) (if (t_9.2.2.1 0 x1.toNatClampNeg) ≤ (((4 : Int32) * y_8) + (3 : Int32)) then some (.inr (y_6, t_9)) else if y_7 = 0 then some (.inr (y_6, t_9)) else lt (((40 : Int32) * x1) + ((4 : Int32) * y_8)) (fun x_25 => Option.bind (if (10 : Int32) ≤ (t_9.1 4) then some (0 : Int32) else gd (¬ (x_25 < 0 ∨ 120 ≤ x_25.toNatClampNeg)) (lt (x_25 + (1 : Int32)) (fun x_44 => gd (¬ (x_44 < 0 ∨ 120 ≤ x_44.toNatClampNeg)) (lt (x_25 + (2 : Int32)) (fun x_46 => gd (¬ (x_46 < 0 ∨ 120 ≤ x_46.toNatClampNeg)) (lt (x_25 + (3 : Int32)) (fun x_48 => gd (¬ (x_48 < 0 ∨ 120 ≤ x_48.toNatClampNeg)) (Option.bind (m_X10_mayLink t_9 (t_9.2.2.2 0 x_25.toNatClampNeg) (t_9.2.2.2 0 x_44.toNatClampNeg) (t_9.2.2.2 0 x_46.toNatClampNeg) (t_9.2.2.2 0 x_48.toNatClampNeg)) (fun (r_51 : Int32) => if r_51 = 0 then some (0 : Int32) else some (1 : Int32)))))))))) (fun (j_27 : Int32) => if j_27 = 0 then lt (y_8 + 1) (fun x_29 => some (.inl (y_6, j_27, x_29, t_9))) else gd (¬ (x_25 < 0 ∨ 120 ≤ x_25.toNatClampNeg)) (lt (x_25 + (1 : Int32)) (fun x_31 => gd (¬ (x_31 < 0 ∨ 120 ≤ x_31.toNatClampNeg)) (lt (x_25 + (2 : Int32)) (fun x_33 => gd (¬ (x_33 < 0 ∨ 120 ≤ x_33.toNatClampNeg)) (lt (x_25 + (3 : Int32)) (fun x_35 => gd (¬ (x_35 < 0 ∨ 120 ≤ x_35.toNatClampNeg)) (Option.bind (m_X10_adds t_9 ((t_9.2.2.2 0 x_25.toNatClampNeg).toInt32) ((t_9.2.2.2 0 x_31.toNatClampNeg).toInt32) ((t_9.2.2.2 0 x_33.toNatClampNeg).toInt32) ((t_9.2.2.2 0 x_35.toNatClampNeg).toInt32)) (fun (t_38 : ST) => lt (y_6 + 1) (fun x_39 => lt (y_8 + 1) (fun x_40 => some (.inl (x_39, j_27, x_40, t_38))))))))))))))))))) σ
def m_X10_read (t : ST) (x1 : Int32) : Option (Int32 × ST) := Option.bind (m_X10_isSheet x1) (fun (r_2 : Int32) => if r_2 = 0 then some ((-2 : Int32), t) else gd (¬ (x1 < 0 ∨ 3 ≤ x1.toNatClampNeg)) (if (t.2.2.1 0 x1.toNatClampNeg) = (-1 : Int32) then Option.bind (m_X10_finds t (1 : Int32)) (fun (q_58 : Int32 × ST) => un q_58 (fun r_56 t_57 => some (r_56, t_57))) else Option.bind (vLoop (m_X10_read_L33 x1) FUEL ((0 : Int32), (1 : Int32), (0 : Int32), t)) (fun (q_54 : Int32 × ST) => un q_54 (fun j_10 t_11 => some (j_10, t_11)))))
theorem yo_X10_read : yX10_read.cls = RX10 ∧ yX10_read.cls ≠ "java/lang/invoke/MethodHandle" ∧ yX10_read.cls ≠ "java/lang/invoke/VarHandle" ∧ (parseMethodDescriptor yX10_read.desc).map (fun d => d.parameters.length) = some 1 := by decide +kernel
set_option maxHeartbeats 4000000 in
set_option maxRecDepth 100000 in
theorem c_X10_read {l : Launch} {g : gT} {h : Nat → Nat} {t : ST} {x1 : Int32} {r : Int32} {t' : ST} (hm : m_X10_read t x1 = some (r, t')) : MetI l g yX10_read cX10_read 6 (some .int) 3 76 20 h (cM g h t) (cM g h t') [.ref (h 0), .int x1] r := by
  refine MetI.ofX (by decide +kernel) (Nat.le_of_ble_eq_true rfl) ?_
  intro p e s m below meth c AV Q X hret ls hw hl
  replace X : Cx g p s m AV c cX10_read RX10 6 := X
  replace hl : lv_has ls 6 [(0, .ref (h 0)), (1, .int x1)] := hl
  unfold m_X10_read at hm
  refine lv_iload_n X.1 X.2.1 dX10_read_0 rfl (lv_at hl 1 rfl) ?_
  replace hm := ob_e hm
  obtain ⟨r_2, h_1, hm⟩ := hm
  refine k_Si (As := [.int x1]) X hl.1 hw (c_X10_isSheet h_1) ⟨wq_47_13, wq_47_14, wq_1_5, wq_47_15⟩ yo_X10_isSheet rfl ⟨Nat.le_of_ble_eq_true rfl, Nat.le_of_ble_eq_true rfl⟩ (Nat.le_of_ble_eq_true rfl) dX10_read_1 (fun H locs hw => ?_)
  refine lv_if_ne (tgt := 10) X.1 X.2.1 dX10_read_4 (by decide) (fun c_3 => ?_) (fun c_3 => ?_)
  · replace hm := it_n hm c_3
    refine lv_aload_n X.1 X.2.1 dX10_read_10 rfl (lv_at hl 0 rfl) ?_
    refine gX10_sizes X hw wq_5_9 dX10_read_11 ?_
    refine lv_iload_n X.1 X.2.1 dX10_read_14 rfl (lv_at hl 1 rfl) ?_
    replace hm := gd_e hm
    obtain ⟨g_4, hm⟩ := hm
    refine lMA0 X hw g_4 dX10_read_15 ?_
    refine lv_iconst (v := -1) X.1 X.2.1 dX10_read_16 (by decide) ?_
    refine lv_icmp_ne (tgt := 26) X.1 X.2.1 dX10_read_17 (by decide) (fun c_5 => ?_) (fun c_5 => ?_)
    · replace hm := it_n hm c_5
      refine lv_iconst (v := 0) X.1 X.2.1 dX10_read_26 (by decide) ?_
      refine lv_istore_n (lv' := [(2, .int (0 : Int32)), (0, .ref (h 0)), (1, .int x1)]) X.1 X.2.1 dX10_read_27 rfl hl (by decide) rfl (fun ls hl => ?_)
      refine lv_iconst (v := 1) X.1 X.2.1 dX10_read_28 (by decide) ?_
      refine lv_istore_n (lv' := [(3, .int (1 : Int32)), (2, .int (0 : Int32)), (0, .ref (h 0)), (1, .int x1)]) X.1 X.2.1 dX10_read_29 rfl hl (by decide) rfl (fun ls hl => ?_)
      refine lv_iconst (v := 0) X.1 X.2.1 dX10_read_30 (by decide) ?_
      refine lv_istore (lv' := [(4, .int (0 : Int32)), (3, .int (1 : Int32)), (2, .int (0 : Int32)), (0, .ref (h 0)), (1, .int x1)]) X.1 X.2.1 dX10_read_31 hl (by decide) rfl (fun ls hl => ?_)
      replace hm := ob_e hm
      obtain ⟨⟨j_10, t_11⟩, hL_18, hm⟩ := hm
      replace hm := un_e hm
      have J_17 : ∀ (H : Heap) (locs : List Loc) (ls : Array Slot), Wd g 20 h (cM g h t_11) s H locs → lv_has ls 6 [(2, .int j_10)] → W p l e (rW 3 76) s m AV below meth c H locs 0 0 Q (F0 m 174 ls []) := by
        intro H locs ls hw hl
        refine lv_iload_n X.1 X.2.1 dX10_read_174 rfl (lv_at hl 0 rfl) ?_
        obtain ⟨rfl, rfl⟩ := Prod.mk.inj (Option.some.inj hm)
        exact hret _ _ _ _ hw dX10_read_175
      refine vLoop_ind (B := (m_X10_read_L33 x1)) (fun σ => ∀ (H : Heap) (locs : List Loc) (ls : Array Slot), Wd g 20 h (cM g h σ.2.2.2) s H locs → lv_has ls 6 [(0, .ref (h 0)), (1, .int x1), (2, .int σ.1), (3, .int σ.2.1), (4, .int σ.2.2.1)] → W p l e (rW 3 76) s m AV below meth c H locs 0 0 Q (F0 m 33 ls [])) (fun z' => z' = (j_10, t_11)) ?_ FUEL _ _ hL_18 rfl _ _ _ hw (lv_sub hl [3, 4, 2, 1, 0] rfl)
      intro σ z_16 hz_13 hn_14 hx_15
      obtain ⟨y_6, y_7, y_8, t_9⟩ := σ
      intro H locs ls hw hl
      replace hw : Wd g 20 h (cM g h t_9) s H locs := hw
      replace hl : lv_has ls 6 [(0, .ref (h 0)), (1, .int x1), (2, .int y_6), (3, .int y_7), (4, .int y_8)] := hl
      unfold m_X10_read_L33 at hz_13
      replace hz_13 := un_e hz_13
      replace hz_13 := un_e hz_13
      replace hz_13 := un_e hz_13
      refine lv_iconst (v := 4) X.1 X.2.1 dX10_read_33 (by decide) ?_
      refine lv_iload X.1 X.2.1 dX10_read_34 (lv_at hl 4 rfl) ?_
      refine lv_imul X.1 X.2.1 dX10_read_36 ?_
      refine lv_iconst (v := 3) X.1 X.2.1 dX10_read_37 (by decide) ?_
      refine lv_iadd X.1 X.2.1 dX10_read_38 ?_
      refine lv_aload_n X.1 X.2.1 dX10_read_39 rfl (lv_at hl 0 rfl) ?_
      refine gX10_sizes X hw wq_5_9 dX10_read_40 ?_
      refine lv_iload_n X.1 X.2.1 dX10_read_43 rfl (lv_at hl 1 rfl) ?_
      replace hz_13 := gd_e hz_13
      obtain ⟨g_20, hz_13⟩ := hz_13
      refine lMA0 X hw g_20 dX10_read_44 ?_
      refine lv_icmp_ge (tgt := 174) X.1 X.2.1 dX10_read_45 (by decide) (fun c_21 => ?_) (fun c_21 => ?_)
      · replace hz_13 := it_p hz_13 c_21
        obtain ⟨rfl, rfl⟩ := Prod.mk.inj (hx_15 _ (Option.some.inj hz_13).symm)
        exact J_17 _ _ _ hw (lv_sub hl [2] rfl)
      · replace hz_13 := it_n hz_13 c_21
        refine lv_iload_n X.1 X.2.1 dX10_read_48 rfl (lv_at hl 3 rfl) ?_
        refine lv_if_eq (tgt := 174) X.1 X.2.1 dX10_read_49 (by decide) (fun c_23 => ?_) (fun c_23 => ?_)
        · replace hz_13 := it_p hz_13 c_23
          obtain ⟨rfl, rfl⟩ := Prod.mk.inj (hx_15 _ (Option.some.inj hz_13).symm)
          exact J_17 _ _ _ hw (lv_sub hl [2] rfl)
        · replace hz_13 := it_n hz_13 c_23
          refine lv_bipush (v := 40) X.1 X.2.1 dX10_read_52 (by decide) ?_
          refine lv_iload_n X.1 X.2.1 dX10_read_54 rfl (lv_at hl 1 rfl) ?_
          refine lv_imul X.1 X.2.1 dX10_read_55 ?_
          refine lv_iconst (v := 4) X.1 X.2.1 dX10_read_56 (by decide) ?_
          refine lv_iload X.1 X.2.1 dX10_read_57 (lv_at hl 4 rfl) ?_
          refine lv_imul X.1 X.2.1 dX10_read_59 ?_
          refine lv_iadd X.1 X.2.1 dX10_read_60 ?_
          refine lv_topi (fun x_25 ex_25 => ?_)
          replace hz_13 := lt_e hz_13 ex_25
          refine lv_istore (lv' := [(5, .int x_25), (0, .ref (h 0)), (1, .int x1), (2, .int y_6), (3, .int y_7), (4, .int y_8)]) X.1 X.2.1 dX10_read_61 hl (by decide) rfl (fun ls hl => ?_)
          refine lv_aload_n X.1 X.2.1 dX10_read_63 rfl (lv_at hl 1 rfl) ?_
          refine gX10_links X hw wq_7_2 dX10_read_64 ?_
          refine lv_bipush (v := 10) X.1 X.2.1 dX10_read_67 (by decide) ?_
          replace hz_13 := ob_e hz_13
          obtain ⟨j_27, hg_41, hz_13⟩ := hz_13
          have J_42 : ∀ (H : Heap) (locs : List Loc) (ls : Array Slot), Wd g 20 h (cM g h t_9) s H locs → lv_has ls 6 [(0, .ref (h 0)), (1, .int x1), (2, .int y_6), (4, .int y_8), (5, .int x_25)] → W p l e (rW 3 76) s m AV below meth c H locs 0 0 Q (F0 m 118 ls [.int j_27]) := by
            intro H locs ls hw hl
            refine lv_istore_n (lv' := [(3, .int j_27), (0, .ref (h 0)), (1, .int x1), (2, .int y_6), (4, .int y_8), (5, .int x_25)]) X.1 X.2.1 dX10_read_118 rfl hl (by decide) rfl (fun ls hl => ?_)
            refine lv_iload_n X.1 X.2.1 dX10_read_119 rfl (lv_at hl 0 rfl) ?_
            refine lv_if_eq (tgt := 168) X.1 X.2.1 dX10_read_120 (by decide) (fun c_28 => ?_) (fun c_28 => ?_)
            · replace hz_13 := it_p hz_13 c_28
              obtain ⟨x_29, ex_29⟩ : ∃ y : Int32, y = y_8 + 1 := ⟨_, rfl⟩
              replace hz_13 := lt_e hz_13 ex_29
              refine lv_iinc (v := x_29) (lv' := [(4, .int x_29), (3, .int j_27), (0, .ref (h 0)), (1, .int x1), (2, .int y_6), (5, .int x_25)]) X.1 X.2.1 dX10_read_168 hl (k := 4) rfl (by rw [ex_29]; rfl) (by decide) rfl (fun ls hl => ?_)
              refine lv_goto (tgt := 33) X.1 X.2.1 dX10_read_171 (by decide) ?_
              exact hn_14 _ (Option.some.inj hz_13).symm _ _ _ hw (lv_sub hl [2, 3, 4, 1, 0] rfl)
            · replace hz_13 := it_n hz_13 c_28
              refine lv_aload_n X.1 X.2.1 dX10_read_123 rfl (lv_at hl 1 rfl) ?_
              refine lv_aload_n X.1 X.2.1 dX10_read_124 rfl (lv_at hl 1 rfl) ?_
              refine gX10_items X hw wq_5_10 dX10_read_125 ?_
              refine lv_iload X.1 X.2.1 dX10_read_128 (lv_at hl 5 rfl) ?_
              replace hz_13 := gd_e hz_13
              obtain ⟨g_30, hz_13⟩ := hz_13
              refine lMB0 X hw g_30 dX10_read_130 ?_
              refine lv_l2i X.1 X.2.1 dX10_read_131 rfl ?_
              refine lv_aload_n X.1 X.2.1 dX10_read_132 rfl (lv_at hl 1 rfl) ?_
              refine gX10_items X hw wq_5_10 dX10_read_133 ?_
              refine lv_iload X.1 X.2.1 dX10_read_136 (lv_at hl 5 rfl) ?_
              refine lv_iconst (v := 1) X.1 X.2.1 dX10_read_138 (by decide) ?_
              refine lv_iadd X.1 X.2.1 dX10_read_139 ?_
              refine lv_topi (fun x_31 ex_31 => ?_)
              replace hz_13 := lt_e hz_13 ex_31
              replace hz_13 := gd_e hz_13
              obtain ⟨g_32, hz_13⟩ := hz_13
              refine lMB0 X hw g_32 dX10_read_140 ?_
              refine lv_l2i X.1 X.2.1 dX10_read_141 rfl ?_
              refine lv_aload_n X.1 X.2.1 dX10_read_142 rfl (lv_at hl 1 rfl) ?_
              refine gX10_items X hw wq_5_10 dX10_read_143 ?_
              refine lv_iload X.1 X.2.1 dX10_read_146 (lv_at hl 5 rfl) ?_
              refine lv_iconst (v := 2) X.1 X.2.1 dX10_read_148 (by decide) ?_
              refine lv_iadd X.1 X.2.1 dX10_read_149 ?_
              refine lv_topi (fun x_33 ex_33 => ?_)
              replace hz_13 := lt_e hz_13 ex_33
              replace hz_13 := gd_e hz_13
              obtain ⟨g_34, hz_13⟩ := hz_13
              refine lMB0 X hw g_34 dX10_read_150 ?_
              refine lv_l2i X.1 X.2.1 dX10_read_151 rfl ?_
              refine lv_aload_n X.1 X.2.1 dX10_read_152 rfl (lv_at hl 1 rfl) ?_
              refine gX10_items X hw wq_5_10 dX10_read_153 ?_
              refine lv_iload X.1 X.2.1 dX10_read_156 (lv_at hl 5 rfl) ?_
              refine lv_iconst (v := 3) X.1 X.2.1 dX10_read_158 (by decide) ?_
              refine lv_iadd X.1 X.2.1 dX10_read_159 ?_
              refine lv_topi (fun x_35 ex_35 => ?_)
              replace hz_13 := lt_e hz_13 ex_35
              replace hz_13 := gd_e hz_13
              obtain ⟨g_36, hz_13⟩ := hz_13
              refine lMB0 X hw g_36 dX10_read_160 ?_
              refine lv_l2i X.1 X.2.1 dX10_read_161 rfl ?_
              replace hz_13 := ob_e hz_13
              obtain ⟨t_38, h_37, hz_13⟩ := hz_13
              refine k_Vv (k := 0) (As := [.int (t_9.2.2.2 0 x_25.toNatClampNeg).toInt32, .int (t_9.2.2.2 0 x_31.toNatClampNeg).toInt32, .int (t_9.2.2.2 0 x_33.toNatClampNeg).toInt32, .int (t_9.2.2.2 0 x_35.toNatClampNeg).toInt32]) X hl.1 hw (c_X10_adds h_37) (by decide) (he_X10 g h _) rfl ⟨wq_10_6, wq_10_7, wq_10_8, wq_1_5, wq_10_9⟩ yo_X10_adds rfl ⟨Nat.le_of_ble_eq_true rfl, Nat.le_of_ble_eq_true rfl⟩ (Nat.le_of_ble_eq_true rfl) dX10_read_162 (fun H locs hw => ?_)
              obtain ⟨x_39, ex_39⟩ : ∃ y : Int32, y = y_6 + 1 := ⟨_, rfl⟩
              replace hz_13 := lt_e hz_13 ex_39
              refine lv_iinc (v := x_39) (lv' := [(2, .int x_39), (3, .int j_27), (0, .ref (h 0)), (1, .int x1), (4, .int y_8), (5, .int x_25)]) X.1 X.2.1 dX10_read_165 hl (k := 3) rfl (by rw [ex_39]; rfl) (by decide) rfl (fun ls hl => ?_)
              obtain ⟨x_40, ex_40⟩ : ∃ y : Int32, y = y_8 + 1 := ⟨_, rfl⟩
              replace hz_13 := lt_e hz_13 ex_40
              refine lv_iinc (v := x_40) (lv' := [(4, .int x_40), (2, .int x_39), (3, .int j_27), (0, .ref (h 0)), (1, .int x1), (5, .int x_25)]) X.1 X.2.1 dX10_read_168 hl (k := 4) rfl (by rw [ex_40]; rfl) (by decide) rfl (fun ls hl => ?_)
              refine lv_goto (tgt := 33) X.1 X.2.1 dX10_read_171 (by decide) ?_
              exact hn_14 _ (Option.some.inj hz_13).symm _ _ _ hw (lv_sub hl [3, 4, 1, 2, 0] rfl)
          refine lv_icmp_ge (tgt := 117) X.1 X.2.1 dX10_read_69 (by decide) (fun c_26 => ?_) (fun c_26 => ?_)
          · replace hg_41 := it_p hg_41 c_26
            refine lv_iconst (v := 0) X.1 X.2.1 dX10_read_117 (by decide) ?_
            obtain rfl := Option.some.inj hg_41
            exact J_42 _ _ _ hw (lv_sub hl [1, 2, 3, 5, 0] rfl)
          · replace hg_41 := it_n hg_41 c_26
            refine lv_aload_n X.1 X.2.1 dX10_read_72 rfl (lv_at hl 1 rfl) ?_
            refine lv_aload_n X.1 X.2.1 dX10_read_73 rfl (lv_at hl 1 rfl) ?_
            refine gX10_items X hw wq_5_10 dX10_read_74 ?_
            refine lv_iload X.1 X.2.1 dX10_read_77 (lv_at hl 0 rfl) ?_
            replace hg_41 := gd_e hg_41
            obtain ⟨g_43, hg_41⟩ := hg_41
            refine lMB0 X hw g_43 dX10_read_79 ?_
            refine lv_aload_n X.1 X.2.1 dX10_read_80 rfl (lv_at hl 1 rfl) ?_
            refine gX10_items X hw wq_5_10 dX10_read_81 ?_
            refine lv_iload X.1 X.2.1 dX10_read_84 (lv_at hl 0 rfl) ?_
            refine lv_iconst (v := 1) X.1 X.2.1 dX10_read_86 (by decide) ?_
            refine lv_iadd X.1 X.2.1 dX10_read_87 ?_
            refine lv_topi (fun x_44 ex_44 => ?_)
            replace hg_41 := lt_e hg_41 ex_44
            replace hg_41 := gd_e hg_41
            obtain ⟨g_45, hg_41⟩ := hg_41
            refine lMB0 X hw g_45 dX10_read_88 ?_
            refine lv_aload_n X.1 X.2.1 dX10_read_89 rfl (lv_at hl 1 rfl) ?_
            refine gX10_items X hw wq_5_10 dX10_read_90 ?_
            refine lv_iload X.1 X.2.1 dX10_read_93 (lv_at hl 0 rfl) ?_
            refine lv_iconst (v := 2) X.1 X.2.1 dX10_read_95 (by decide) ?_
            refine lv_iadd X.1 X.2.1 dX10_read_96 ?_
            refine lv_topi (fun x_46 ex_46 => ?_)
            replace hg_41 := lt_e hg_41 ex_46
            replace hg_41 := gd_e hg_41
            obtain ⟨g_47, hg_41⟩ := hg_41
            refine lMB0 X hw g_47 dX10_read_97 ?_
            refine lv_aload_n X.1 X.2.1 dX10_read_98 rfl (lv_at hl 1 rfl) ?_
            refine gX10_items X hw wq_5_10 dX10_read_99 ?_
            refine lv_iload X.1 X.2.1 dX10_read_102 (lv_at hl 0 rfl) ?_
            refine lv_iconst (v := 3) X.1 X.2.1 dX10_read_104 (by decide) ?_
            refine lv_iadd X.1 X.2.1 dX10_read_105 ?_
            refine lv_topi (fun x_48 ex_48 => ?_)
            replace hg_41 := lt_e hg_41 ex_48
            replace hg_41 := gd_e hg_41
            obtain ⟨g_49, hg_41⟩ := hg_41
            refine lMB0 X hw g_49 dX10_read_106 ?_
            replace hg_41 := ob_e hg_41
            obtain ⟨r_51, h_50, hg_41⟩ := hg_41
            refine k_Vi (k := 0) (As := [.long (t_9.2.2.2 0 x_25.toNatClampNeg), .long (t_9.2.2.2 0 x_44.toNatClampNeg), .long (t_9.2.2.2 0 x_46.toNatClampNeg), .long (t_9.2.2.2 0 x_48.toNatClampNeg)]) X hl.1 hw (c_X10_mayLink h_50) (by decide) (he_X10 g h _) rfl ⟨wq_9_18, wq_9_19, wq_9_20, wq_1_5, wq_9_21⟩ yo_X10_mayLink rfl ⟨Nat.le_of_ble_eq_true rfl, Nat.le_of_ble_eq_true rfl⟩ (Nat.le_of_ble_eq_true rfl) dX10_read_107 (fun H locs hw => ?_)
            refine lv_if_eq (tgt := 117) X.1 X.2.1 dX10_read_110 (by decide) (fun c_52 => ?_) (fun c_52 => ?_)
            · replace hg_41 := it_p hg_41 c_52
              refine lv_iconst (v := 0) X.1 X.2.1 dX10_read_117 (by decide) ?_
              obtain rfl := Option.some.inj hg_41
              exact J_42 _ _ _ hw (lv_sub hl [1, 2, 3, 5, 0] rfl)
            · replace hg_41 := it_n hg_41 c_52
              refine lv_iconst (v := 1) X.1 X.2.1 dX10_read_113 (by decide) ?_
              refine lv_goto (tgt := 118) X.1 X.2.1 dX10_read_114 (by decide) ?_
              obtain rfl := Option.some.inj hg_41
              exact J_42 _ _ _ hw (lv_sub hl [1, 2, 3, 5, 0] rfl)
    · replace hm := it_p hm c_5
      refine lv_aload_n X.1 X.2.1 dX10_read_20 rfl (lv_at hl 0 rfl) ?_
      refine lv_iconst (v := 1) X.1 X.2.1 dX10_read_21 (by decide) ?_
      replace hm := ob_e hm
      obtain ⟨⟨r_56, t_57⟩, h_55, hm⟩ := hm
      replace hm := un_e hm
      refine k_Vi (k := 0) (As := [.int (1 : Int32)]) X hl.1 hw (c_X10_finds h_55) (by decide) (he_X10 g h _) rfl ⟨wq_47_16, wq_47_17, wq_47_18, wq_1_5, wq_47_19⟩ yo_X10_finds rfl ⟨Nat.le_of_ble_eq_true rfl, Nat.le_of_ble_eq_true rfl⟩ (Nat.le_of_ble_eq_true rfl) dX10_read_22 (fun H locs hw => ?_)
      obtain ⟨rfl, rfl⟩ := Prod.mk.inj (Option.some.inj hm)
      exact hret _ _ _ _ hw dX10_read_25
  · replace hm := it_p hm c_3
    refine lv_bipush (v := -2) X.1 X.2.1 dX10_read_7 (by decide) ?_
    obtain ⟨rfl, rfl⟩ := Prod.mk.inj (Option.some.inj hm)
    exact hret _ _ _ _ hw dX10_read_9
def m_X10_wanted (t : ST) : Option (Int32) := lt ((t.1 3) ||| ((1 : Int32) <<< ((t.1 2) &&& 31))) (fun x_1 => some x_1)
theorem yo_X10_wanted : yX10_wanted.cls = RX10 ∧ yX10_wanted.cls ≠ "java/lang/invoke/MethodHandle" ∧ yX10_wanted.cls ≠ "java/lang/invoke/VarHandle" ∧ (parseMethodDescriptor yX10_wanted.desc).map (fun d => d.parameters.length) = some 0 := by decide +kernel
set_option maxHeartbeats 4000000 in
set_option maxRecDepth 100000 in
theorem c_X10_wanted {l : Launch} {g : gT} {h : Nat → Nat} {t : ST} {r : Int32} (hm : m_X10_wanted t = some r) : MetI l g yX10_wanted cX10_wanted 1 (some .int) 0 0 20 h (cM g h t) (cM g h t) [.ref (h 0)] r := by
  refine MetI.ofX (by decide +kernel) (Nat.le_of_ble_eq_true rfl) ?_
  intro p e s m below meth c AV Q X hret ls hw hl
  replace X : Cx g p s m AV c cX10_wanted RX10 1 := X
  replace hl : lv_has ls 1 [(0, .ref (h 0))] := hl
  unfold m_X10_wanted at hm
  refine lv_aload_n X.1 X.2.1 dX10_wanted_0 rfl (lv_at hl 0 rfl) ?_
  refine gX10_goals X hw wq_7_3 dX10_wanted_1 ?_
  refine lv_iconst (v := 1) X.1 X.2.1 dX10_wanted_4 (by decide) ?_
  refine lv_aload_n X.1 X.2.1 dX10_wanted_5 rfl (lv_at hl 0 rfl) ?_
  refine gX10_source X hw wq_7_4 dX10_wanted_6 ?_
  refine lv_ishl X.1 X.2.1 dX10_wanted_9 ?_
  refine lv_ior X.1 X.2.1 dX10_wanted_10 ?_
  refine lv_topi (fun x_1 ex_1 => ?_)
  replace hm := lt_e hm ex_1
  obtain rfl := Option.some.inj hm
  exact hret _ _ _ _ hw dX10_wanted_11
def m_X10_joinedWith_L18 (x1 : Int32) (t : ST) (σ : Int32 × Int32 × Int32) : Option ((Int32 × Int32 × Int32) ⊕ (Int32 × Int32)) := (fun (q_38 : Int32 × Int32 × Int32) => un q_38 (fun y_13 q_38 => un q_38 (fun y_14 y_15 => if (t.1 4) ≤ y_15 then some (.inr (y_13, y_14)) else gd (¬ (y_15 < 0 ∨ 10 ≤ y_15.toNatClampNeg)) (gd (¬ (y_15 < 0 ∨ 10 ≤ y_15.toNatClampNeg)) (lt (((1 : Int32) <<< ((t.2.2.1 1 y_15.toNatClampNeg) &&& 31)) ||| ((1 : Int32) <<< ((t.2.2.1 2 y_15.toNatClampNeg) &&& 31))) (fun x_29 => if ((x1 >>> (y_15 &&& 31)) &&& (1 : Int32)) = (1 : Int32) then if (y_13 &&& x_29) = 0 then lt (y_15 + 1) (fun x_33 => some (.inl (y_13, y_14, x_33))) else if (y_13 &&& x_29) = x_29 then lt (y_15 + 1) (fun x_35 => some (.inl (y_13, y_14, x_35))) else lt (y_13 ||| x_29) (fun x_36 => lt (y_15 + 1) (fun x_37 => some (.inl (x_36, (1 : Int32), x_37)))) else lt (y_15 + 1) (fun x_31 => some (.inl (y_13, y_14, x_31))))))))) σ
def m_X10_joinedWith_L7 (x1 : Int32) (t : ST) (σ : Int32 × Int32) : Option ((Int32 × Int32) ⊕ (Int32)) := (fun (q_40 : Int32 × Int32) => un q_40 (fun y_2 y_3 => if y_3 = 0 then some (.inr y_2) else Option.bind (vLoop (m_X10_joinedWith_L18 x1 t) FUEL (y_2, (0 : Int32), (0 : Int32))) (fun (q_39 : Int32 × Int32) => un q_39 (fun j_16 j_17 => some (.inl (j_16, j_17)))))) σ
def m_X10_joinedWith (t : ST) (x1 : Int32) (x2 : Int32) : Option (Int32) := lt ((1 : Int32) <<< (x2 &&& 31)) (fun x_1 => Option.bind (vLoop (m_X10_joinedWith_L7 x1 t) FUEL (x_1, (1 : Int32))) (fun (j_4 : Int32) => some j_4))
theorem yo_X10_joinedWith : yX10_joinedWith.cls = RX10 ∧ yX10_joinedWith.cls ≠ "java/lang/invoke/MethodHandle" ∧ yX10_joinedWith.cls ≠ "java/lang/invoke/VarHandle" ∧ (parseMethodDescriptor yX10_joinedWith.desc).map (fun d => d.parameters.length) = some 2 := by decide +kernel
set_option maxHeartbeats 4000000 in
set_option maxRecDepth 100000 in
theorem c_X10_joinedWith {l : Launch} {g : gT} {h : Nat → Nat} {t : ST} {x1 : Int32} {x2 : Int32} {r : Int32} (hm : m_X10_joinedWith t x1 x2 = some r) : MetI l g yX10_joinedWith cX10_joinedWith 7 (some .int) 0 0 20 h (cM g h t) (cM g h t) [.ref (h 0), .int x1, .int x2] r := by
  refine MetI.ofX (by decide +kernel) (Nat.le_of_ble_eq_true rfl) ?_
  intro p e s m below meth c AV Q X hret ls hw hl
  replace X : Cx g p s m AV c cX10_joinedWith RX10 7 := X
  replace hl : lv_has ls 7 [(0, .ref (h 0)), (1, .int x1), (2, .int x2)] := hl
  unfold m_X10_joinedWith at hm
  refine lv_iconst (v := 1) X.1 X.2.1 dX10_joinedWith_0 (by decide) ?_
  refine lv_iload_n X.1 X.2.1 dX10_joinedWith_1 rfl (lv_at hl 2 rfl) ?_
  refine lv_ishl X.1 X.2.1 dX10_joinedWith_2 ?_
  refine lv_topi (fun x_1 ex_1 => ?_)
  replace hm := lt_e hm ex_1
  refine lv_istore_n (lv' := [(3, .int x_1), (0, .ref (h 0)), (1, .int x1), (2, .int x2)]) X.1 X.2.1 dX10_joinedWith_3 rfl hl (by decide) rfl (fun ls hl => ?_)
  refine lv_iconst (v := 1) X.1 X.2.1 dX10_joinedWith_4 (by decide) ?_
  refine lv_istore (lv' := [(4, .int (1 : Int32)), (3, .int x_1), (0, .ref (h 0)), (1, .int x1), (2, .int x2)]) X.1 X.2.1 dX10_joinedWith_5 hl (by decide) rfl (fun ls hl => ?_)
  replace hm := ob_e hm
  obtain ⟨j_4, hL_10, hm⟩ := hm
  have J_9 : ∀ (H : Heap) (locs : List Loc) (ls : Array Slot), Wd g 20 h (cM g h t) s H locs → lv_has ls 7 [(3, .int j_4)] → W p l e (rW 0 0) s m AV below meth c H locs 0 0 Q (F0 m 91 ls []) := by
    intro H locs ls hw hl
    refine lv_iload_n X.1 X.2.1 dX10_joinedWith_91 rfl (lv_at hl 0 rfl) ?_
    obtain rfl := Option.some.inj hm
    exact hret _ _ _ _ hw dX10_joinedWith_92
  refine vLoop_ind (B := (m_X10_joinedWith_L7 x1 t)) (fun σ => ∀ (H : Heap) (locs : List Loc) (ls : Array Slot), Wd g 20 h (cM g h t) s H locs → lv_has ls 7 [(0, .ref (h 0)), (1, .int x1), (3, .int σ.1), (4, .int σ.2)] → W p l e (rW 0 0) s m AV below meth c H locs 0 0 Q (F0 m 7 ls [])) (fun z' => z' = j_4) ?_ FUEL _ _ hL_10 rfl _ _ _ hw (lv_sub hl [2, 3, 1, 0] rfl)
  intro σ z_8 hz_5 hn_6 hx_7
  obtain ⟨y_2, y_3⟩ := σ
  intro H locs ls hw hl
  replace hw : Wd g 20 h (cM g h t) s H locs := hw
  replace hl : lv_has ls 7 [(0, .ref (h 0)), (1, .int x1), (3, .int y_2), (4, .int y_3)] := hl
  unfold m_X10_joinedWith_L7 at hz_5
  replace hz_5 := un_e hz_5
  refine lv_iload X.1 X.2.1 dX10_joinedWith_7 (lv_at hl 3 rfl) ?_
  refine lv_if_eq (tgt := 91) X.1 X.2.1 dX10_joinedWith_9 (by decide) (fun c_12 => ?_) (fun c_12 => ?_)
  · replace hz_5 := it_p hz_5 c_12
    obtain rfl := hx_7 _ (Option.some.inj hz_5).symm
    exact J_9 _ _ _ hw (lv_sub hl [2] rfl)
  · replace hz_5 := it_n hz_5 c_12
    refine lv_iconst (v := 0) X.1 X.2.1 dX10_joinedWith_12 (by decide) ?_
    refine lv_istore (lv' := [(4, .int (0 : Int32)), (0, .ref (h 0)), (1, .int x1), (3, .int y_2)]) X.1 X.2.1 dX10_joinedWith_13 hl (by decide) rfl (fun ls hl => ?_)
    refine lv_iconst (v := 0) X.1 X.2.1 dX10_joinedWith_15 (by decide) ?_
    refine lv_istore (lv' := [(5, .int (0 : Int32)), (4, .int (0 : Int32)), (0, .ref (h 0)), (1, .int x1), (3, .int y_2)]) X.1 X.2.1 dX10_joinedWith_16 hl (by decide) rfl (fun ls hl => ?_)
    replace hz_5 := ob_e hz_5
    obtain ⟨⟨j_16, j_17⟩, hL_23, hz_5⟩ := hz_5
    replace hz_5 := un_e hz_5
    have J_22 : ∀ (H : Heap) (locs : List Loc) (ls : Array Slot), Wd g 20 h (cM g h t) s H locs → lv_has ls 7 [(0, .ref (h 0)), (1, .int x1), (3, .int j_16), (4, .int j_17)] → W p l e (rW 0 0) s m AV below meth c H locs 0 0 Q (F0 m 88 ls []) := by
      intro H locs ls hw hl
      refine lv_goto (tgt := 7) X.1 X.2.1 dX10_joinedWith_88 (by decide) ?_
      exact hn_6 _ (Option.some.inj hz_5).symm _ _ _ hw (lv_sub hl [0, 1, 2, 3] rfl)
    refine vLoop_ind (B := (m_X10_joinedWith_L18 x1 t)) (fun σ => ∀ (H : Heap) (locs : List Loc) (ls : Array Slot), Wd g 20 h (cM g h t) s H locs → lv_has ls 7 [(0, .ref (h 0)), (1, .int x1), (3, .int σ.1), (4, .int σ.2.1), (5, .int σ.2.2)] → W p l e (rW 0 0) s m AV below meth c H locs 0 0 Q (F0 m 18 ls [])) (fun z' => z' = (j_16, j_17)) ?_ FUEL _ _ hL_23 rfl _ _ _ hw (lv_sub hl [2, 3, 4, 1, 0] rfl)
    intro σ z_21 hz_18 hn_19 hx_20
    obtain ⟨y_13, y_14, y_15⟩ := σ
    intro H locs ls hw hl
    replace hw : Wd g 20 h (cM g h t) s H locs := hw
    replace hl : lv_has ls 7 [(0, .ref (h 0)), (1, .int x1), (3, .int y_13), (4, .int y_14), (5, .int y_15)] := hl
    unfold m_X10_joinedWith_L18 at hz_18
    replace hz_18 := un_e hz_18
    replace hz_18 := un_e hz_18
    refine lv_iload X.1 X.2.1 dX10_joinedWith_18 (lv_at hl 4 rfl) ?_
    refine lv_aload_n X.1 X.2.1 dX10_joinedWith_20 rfl (lv_at hl 0 rfl) ?_
    refine gX10_links X hw wq_7_2 dX10_joinedWith_21 ?_
    refine lv_icmp_ge (tgt := 88) X.1 X.2.1 dX10_joinedWith_24 (by decide) (fun c_25 => ?_) (fun c_25 => ?_)
    · replace hz_18 := it_p hz_18 c_25
      obtain ⟨rfl, rfl⟩ := Prod.mk.inj (hx_20 _ (Option.some.inj hz_18).symm)
      exact J_22 _ _ _ hw (lv_sub hl [0, 1, 2, 3] rfl)
    · replace hz_18 := it_n hz_18 c_25
      refine lv_iconst (v := 1) X.1 X.2.1 dX10_joinedWith_27 (by decide) ?_
      refine lv_aload_n X.1 X.2.1 dX10_joinedWith_28 rfl (lv_at hl 0 rfl) ?_
      refine gX10_ones X hw wq_5_12 dX10_joinedWith_29 ?_
      refine lv_iload X.1 X.2.1 dX10_joinedWith_32 (lv_at hl 4 rfl) ?_
      replace hz_18 := gd_e hz_18
      obtain ⟨g_27, hz_18⟩ := hz_18
      refine lMA1 X hw g_27 dX10_joinedWith_34 ?_
      refine lv_ishl X.1 X.2.1 dX10_joinedWith_35 ?_
      refine lv_iconst (v := 1) X.1 X.2.1 dX10_joinedWith_36 (by decide) ?_
      refine lv_aload_n X.1 X.2.1 dX10_joinedWith_37 rfl (lv_at hl 0 rfl) ?_
      refine gX10_others X hw wq_5_13 dX10_joinedWith_38 ?_
      refine lv_iload X.1 X.2.1 dX10_joinedWith_41 (lv_at hl 4 rfl) ?_
      replace hz_18 := gd_e hz_18
      obtain ⟨g_28, hz_18⟩ := hz_18
      refine lMA2 X hw g_28 dX10_joinedWith_43 ?_
      refine lv_ishl X.1 X.2.1 dX10_joinedWith_44 ?_
      refine lv_ior X.1 X.2.1 dX10_joinedWith_45 ?_
      refine lv_topi (fun x_29 ex_29 => ?_)
      replace hz_18 := lt_e hz_18 ex_29
      refine lv_istore (lv' := [(6, .int x_29), (0, .ref (h 0)), (1, .int x1), (3, .int y_13), (4, .int y_14), (5, .int y_15)]) X.1 X.2.1 dX10_joinedWith_46 hl (by decide) rfl (fun ls hl => ?_)
      refine lv_iload_n X.1 X.2.1 dX10_joinedWith_48 rfl (lv_at hl 2 rfl) ?_
      refine lv_iload X.1 X.2.1 dX10_joinedWith_49 (lv_at hl 5 rfl) ?_
      refine lv_ishr X.1 X.2.1 dX10_joinedWith_51 ?_
      refine lv_iconst (v := 1) X.1 X.2.1 dX10_joinedWith_52 (by decide) ?_
      refine lv_iand X.1 X.2.1 dX10_joinedWith_53 ?_
      refine lv_iconst (v := 1) X.1 X.2.1 dX10_joinedWith_54 (by decide) ?_
      refine lv_icmp_ne (tgt := 82) X.1 X.2.1 dX10_joinedWith_55 (by decide) (fun c_30 => ?_) (fun c_30 => ?_)
      · replace hz_18 := it_n hz_18 c_30
        obtain ⟨x_31, ex_31⟩ : ∃ y : Int32, y = y_15 + 1 := ⟨_, rfl⟩
        replace hz_18 := lt_e hz_18 ex_31
        refine lv_iinc (v := x_31) (lv' := [(5, .int x_31), (6, .int x_29), (0, .ref (h 0)), (1, .int x1), (3, .int y_13), (4, .int y_14)]) X.1 X.2.1 dX10_joinedWith_82 hl (k := 5) rfl (by rw [ex_31]; rfl) (by decide) rfl (fun ls hl => ?_)
        refine lv_goto (tgt := 18) X.1 X.2.1 dX10_joinedWith_85 (by decide) ?_
        exact hn_19 _ (Option.some.inj hz_18).symm _ _ _ hw (lv_sub hl [2, 3, 4, 5, 0] rfl)
      · replace hz_18 := it_p hz_18 c_30
        refine lv_iload_n X.1 X.2.1 dX10_joinedWith_58 rfl (lv_at hl 3 rfl) ?_
        refine lv_iload X.1 X.2.1 dX10_joinedWith_59 (lv_at hl 0 rfl) ?_
        refine lv_iand X.1 X.2.1 dX10_joinedWith_61 ?_
        refine lv_if_eq (tgt := 82) X.1 X.2.1 dX10_joinedWith_62 (by decide) (fun c_32 => ?_) (fun c_32 => ?_)
        · replace hz_18 := it_p hz_18 c_32
          obtain ⟨x_33, ex_33⟩ : ∃ y : Int32, y = y_15 + 1 := ⟨_, rfl⟩
          replace hz_18 := lt_e hz_18 ex_33
          refine lv_iinc (v := x_33) (lv' := [(5, .int x_33), (6, .int x_29), (0, .ref (h 0)), (1, .int x1), (3, .int y_13), (4, .int y_14)]) X.1 X.2.1 dX10_joinedWith_82 hl (k := 5) rfl (by rw [ex_33]; rfl) (by decide) rfl (fun ls hl => ?_)
          refine lv_goto (tgt := 18) X.1 X.2.1 dX10_joinedWith_85 (by decide) ?_
          exact hn_19 _ (Option.some.inj hz_18).symm _ _ _ hw (lv_sub hl [2, 3, 4, 5, 0] rfl)
        · replace hz_18 := it_n hz_18 c_32
          refine lv_iload_n X.1 X.2.1 dX10_joinedWith_65 rfl (lv_at hl 3 rfl) ?_
          refine lv_iload X.1 X.2.1 dX10_joinedWith_66 (lv_at hl 0 rfl) ?_
          refine lv_iand X.1 X.2.1 dX10_joinedWith_68 ?_
          refine lv_iload X.1 X.2.1 dX10_joinedWith_69 (lv_at hl 0 rfl) ?_
          refine lv_icmp_eq (tgt := 82) X.1 X.2.1 dX10_joinedWith_71 (by decide) (fun c_34 => ?_) (fun c_34 => ?_)
          · replace hz_18 := it_p hz_18 c_34
            obtain ⟨x_35, ex_35⟩ : ∃ y : Int32, y = y_15 + 1 := ⟨_, rfl⟩
            replace hz_18 := lt_e hz_18 ex_35
            refine lv_iinc (v := x_35) (lv' := [(5, .int x_35), (6, .int x_29), (0, .ref (h 0)), (1, .int x1), (3, .int y_13), (4, .int y_14)]) X.1 X.2.1 dX10_joinedWith_82 hl (k := 5) rfl (by rw [ex_35]; rfl) (by decide) rfl (fun ls hl => ?_)
            refine lv_goto (tgt := 18) X.1 X.2.1 dX10_joinedWith_85 (by decide) ?_
            exact hn_19 _ (Option.some.inj hz_18).symm _ _ _ hw (lv_sub hl [2, 3, 4, 5, 0] rfl)
          · replace hz_18 := it_n hz_18 c_34
            refine lv_iload_n X.1 X.2.1 dX10_joinedWith_74 rfl (lv_at hl 3 rfl) ?_
            refine lv_iload X.1 X.2.1 dX10_joinedWith_75 (lv_at hl 0 rfl) ?_
            refine lv_ior X.1 X.2.1 dX10_joinedWith_77 ?_
            refine lv_topi (fun x_36 ex_36 => ?_)
            replace hz_18 := lt_e hz_18 ex_36
            refine lv_istore_n (lv' := [(3, .int x_36), (6, .int x_29), (0, .ref (h 0)), (1, .int x1), (4, .int y_14), (5, .int y_15)]) X.1 X.2.1 dX10_joinedWith_78 rfl hl (by decide) rfl (fun ls hl => ?_)
            refine lv_iconst (v := 1) X.1 X.2.1 dX10_joinedWith_79 (by decide) ?_
            refine lv_istore (lv' := [(4, .int (1 : Int32)), (3, .int x_36), (6, .int x_29), (0, .ref (h 0)), (1, .int x1), (5, .int y_15)]) X.1 X.2.1 dX10_joinedWith_80 hl (by decide) rfl (fun ls hl => ?_)
            obtain ⟨x_37, ex_37⟩ : ∃ y : Int32, y = y_15 + 1 := ⟨_, rfl⟩
            replace hz_18 := lt_e hz_18 ex_37
            refine lv_iinc (v := x_37) (lv' := [(5, .int x_37), (4, .int (1 : Int32)), (3, .int x_36), (6, .int x_29), (0, .ref (h 0)), (1, .int x1)]) X.1 X.2.1 dX10_joinedWith_82 hl (k := 5) rfl (by rw [ex_37]; rfl) (by decide) rfl (fun ls hl => ?_)
            refine lv_goto (tgt := 18) X.1 X.2.1 dX10_joinedWith_85 (by decide) ?_
            exact hn_19 _ (Option.some.inj hz_18).symm _ _ _ hw (lv_sub hl [4, 5, 2, 1, 0] rfl)
def m_X10_reaches (t : ST) (x1 : Int32) (x2 : Int32) : Option (Int32) := Option.bind (m_X10_joinedWith t x1 (t.1 2)) (fun (r_2 : Int32) => if (r_2 &&& x2) = x2 then some (1 : Int32) else some (0 : Int32))
theorem yo_X10_reaches : yX10_reaches.cls = RX10 ∧ yX10_reaches.cls ≠ "java/lang/invoke/MethodHandle" ∧ yX10_reaches.cls ≠ "java/lang/invoke/VarHandle" ∧ (parseMethodDescriptor yX10_reaches.desc).map (fun d => d.parameters.length) = some 2 := by decide +kernel
set_option maxHeartbeats 4000000 in
set_option maxRecDepth 100000 in
theorem c_X10_reaches {l : Launch} {g : gT} {h : Nat → Nat} {t : ST} {x1 : Int32} {x2 : Int32} {r : Int32} (hm : m_X10_reaches t x1 x2 = some r) : MetI l g yX10_reaches cX10_reaches 3 (some .boolean) 1 26 20 h (cM g h t) (cM g h t) [.ref (h 0), .int x1, .int x2] r := by
  refine MetZ.ofX (by decide +kernel) (Nat.le_of_ble_eq_true rfl) ?_
  intro p e s m below meth c AV Q X hret ls hw hl
  replace X : Cx g p s m AV c cX10_reaches RX10 3 := X
  replace hl : lv_has ls 3 [(0, .ref (h 0)), (1, .int x1), (2, .int x2)] := hl
  unfold m_X10_reaches at hm
  refine lv_aload_n X.1 X.2.1 dX10_reaches_0 rfl (lv_at hl 0 rfl) ?_
  refine lv_iload_n X.1 X.2.1 dX10_reaches_1 rfl (lv_at hl 1 rfl) ?_
  refine lv_aload_n X.1 X.2.1 dX10_reaches_2 rfl (lv_at hl 0 rfl) ?_
  refine gX10_source X hw wq_7_4 dX10_reaches_3 ?_
  replace hm := ob_e hm
  obtain ⟨r_2, h_1, hm⟩ := hm
  refine k_Vi (k := 0) (As := [.int x1, .int (t.1 2)]) X hl.1 hw (c_X10_joinedWith h_1) (by decide) (he_X10 g h _) rfl ⟨wq_18_20, wq_18_21, wq_18_22, wq_1_5, wq_18_23⟩ yo_X10_joinedWith rfl ⟨Nat.le_of_ble_eq_true rfl, Nat.le_of_ble_eq_true rfl⟩ (Nat.le_of_ble_eq_true rfl) dX10_reaches_6 (fun H locs hw => ?_)
  refine lv_iload_n X.1 X.2.1 dX10_reaches_9 rfl (lv_at hl 2 rfl) ?_
  refine lv_iand X.1 X.2.1 dX10_reaches_10 ?_
  refine lv_iload_n X.1 X.2.1 dX10_reaches_11 rfl (lv_at hl 2 rfl) ?_
  refine lv_icmp_ne (tgt := 19) X.1 X.2.1 dX10_reaches_12 (by decide) (fun c_3 => ?_) (fun c_3 => ?_)
  · replace hm := it_n hm c_3
    refine lv_iconst (v := 0) X.1 X.2.1 dX10_reaches_19 (by decide) ?_
    obtain rfl := Option.some.inj hm
    exact hret _ _ _ _ hw dX10_reaches_20 (Or.inl rfl)
  · replace hm := it_p hm c_3
    refine lv_iconst (v := 1) X.1 X.2.1 dX10_reaches_15 (by decide) ?_
    refine lv_goto (tgt := 20) X.1 X.2.1 dX10_reaches_16 (by decide) ?_
    obtain rfl := Option.some.inj hm
    exact hret _ _ _ _ hw dX10_reaches_20 (Or.inr rfl)
def m_X10_asItIs_L2 (σ : Int32 × ST) : Option ((Int32 × ST) ⊕ (ST)) := (fun (q_31 : Int32 × ST) => un q_31 (fun y_1 t_2 => if (t_2.1 4) ≤ y_1 then some (.inr t_2) else gd (¬ (y_1 < 0 ∨ 10 ≤ y_1.toNatClampNeg)) (Option.bind (if (t_2.2.2.1 5 y_1.toNatClampNeg) = 0 then gd (¬ (y_1 < 0 ∨ 10 ≤ y_1.toNatClampNeg)) (some (t_2.2.2.1 3 y_1.toNatClampNeg)) else gd (¬ (y_1 < 0 ∨ 10 ≤ y_1.toNatClampNeg)) (if (t_2.2.2.1 5 y_1.toNatClampNeg) = (1 : Int32) then some (1 : Int32) else some (0 : Int32))) (fun (j_14 : Int32) => gd (¬ (y_1 < 0 ∨ 10 ≤ y_1.toNatClampNeg)) (lt (wA t_2 6 y_1.toNatClampNeg j_14) (fun t_16 => gd (¬ (y_1 < 0 ∨ 10 ≤ y_1.toNatClampNeg)) (if (t_16.2.2.1 5 y_1.toNatClampNeg) = 0 then gd (¬ (y_1 < 0 ∨ 10 ≤ y_1.toNatClampNeg)) (gd (¬ (y_1 < 0 ∨ 10 ≤ y_1.toNatClampNeg)) (lt (wA t_16 7 y_1.toNatClampNeg (t_16.2.2.1 4 y_1.toNatClampNeg)) (fun t_24 => lt (y_1 + 1) (fun x_25 => some (.inl (x_25, t_24)))))) else gd (¬ (y_1 < 0 ∨ 10 ≤ y_1.toNatClampNeg)) (lt (wA t_16 7 y_1.toNatClampNeg (1 : Int32)) (fun t_20 => lt (y_1 + 1) (fun x_21 => some (.inl (x_21, t_20)))))))))))) σ
def m_X10_asItIs (t : ST) : Option (ST) := Option.bind (vLoop (m_X10_asItIs_L2) FUEL ((0 : Int32), t)) (fun (t_3 : ST) => some t_3)
theorem yo_X10_asItIs : yX10_asItIs.cls = RX10 ∧ yX10_asItIs.cls ≠ "java/lang/invoke/MethodHandle" ∧ yX10_asItIs.cls ≠ "java/lang/invoke/VarHandle" ∧ (parseMethodDescriptor yX10_asItIs.desc).map (fun d => d.parameters.length) = some 0 := by decide +kernel
set_option maxHeartbeats 4000000 in
set_option maxRecDepth 100000 in
theorem c_X10_asItIs {l : Launch} {g : gT} {h : Nat → Nat} {t : ST} {t' : ST} (hm : m_X10_asItIs t = some (t')) : MetV l g yX10_asItIs cX10_asItIs 2 none 0 0 20 h (cM g h t) (cM g h t') [.ref (h 0)] := by
  refine MetV.ofX (by decide +kernel) (Nat.le_of_ble_eq_true rfl) ?_
  intro p e s m below meth c AV Q X hret ls hw hl
  replace X : Cx g p s m AV c cX10_asItIs RX10 2 := X
  replace hl : lv_has ls 2 [(0, .ref (h 0))] := hl
  unfold m_X10_asItIs at hm
  refine lv_iconst (v := 0) X.1 X.2.1 dX10_asItIs_0 (by decide) ?_
  refine lv_istore_n (lv' := [(1, .int (0 : Int32)), (0, .ref (h 0))]) X.1 X.2.1 dX10_asItIs_1 rfl hl (by decide) rfl (fun ls hl => ?_)
  replace hm := ob_e hm
  obtain ⟨t_3, hL_9, hm⟩ := hm
  have J_8 : ∀ (H : Heap) (locs : List Loc) (ls : Array Slot), Wd g 20 h (cM g h t_3) s H locs → lv_has ls 2 [] → W p l e (rW 0 0) s m AV below meth c H locs 0 0 Q (F0 m 80 ls []) := by
    intro H locs ls hw hl
    obtain rfl := Option.some.inj hm
    exact hret _ _ _ _ hw dX10_asItIs_80
  refine vLoop_ind (B := (m_X10_asItIs_L2)) (fun σ => ∀ (H : Heap) (locs : List Loc) (ls : Array Slot), Wd g 20 h (cM g h σ.2) s H locs → lv_has ls 2 [(0, .ref (h 0)), (1, .int σ.1)] → W p l e (rW 0 0) s m AV below meth c H locs 0 0 Q (F0 m 2 ls [])) (fun z' => z' = t_3) ?_ FUEL _ _ hL_9 rfl _ _ _ hw (lv_sub hl [1, 0] rfl)
  intro σ z_7 hz_4 hn_5 hx_6
  obtain ⟨y_1, t_2⟩ := σ
  intro H locs ls hw hl
  replace hw : Wd g 20 h (cM g h t_2) s H locs := hw
  replace hl : lv_has ls 2 [(0, .ref (h 0)), (1, .int y_1)] := hl
  unfold m_X10_asItIs_L2 at hz_4
  replace hz_4 := un_e hz_4
  refine lv_iload_n X.1 X.2.1 dX10_asItIs_2 rfl (lv_at hl 1 rfl) ?_
  refine lv_aload_n X.1 X.2.1 dX10_asItIs_3 rfl (lv_at hl 0 rfl) ?_
  refine gX10_links X hw wq_7_2 dX10_asItIs_4 ?_
  refine lv_icmp_ge (tgt := 80) X.1 X.2.1 dX10_asItIs_7 (by decide) (fun c_11 => ?_) (fun c_11 => ?_)
  · replace hz_4 := it_p hz_4 c_11
    obtain rfl := hx_6 _ (Option.some.inj hz_4).symm
    exact J_8 _ _ _ hw (lv_sub hl [] rfl)
  · replace hz_4 := it_n hz_4 c_11
    refine lv_aload_n X.1 X.2.1 dX10_asItIs_10 rfl (lv_at hl 0 rfl) ?_
    refine gX10_tops X hw wq_5_17 dX10_asItIs_11 ?_
    refine lv_iload_n X.1 X.2.1 dX10_asItIs_14 rfl (lv_at hl 1 rfl) ?_
    refine lv_aload_n X.1 X.2.1 dX10_asItIs_15 rfl (lv_at hl 0 rfl) ?_
    refine gX10_seens X hw wq_5_16 dX10_asItIs_16 ?_
    refine lv_iload_n X.1 X.2.1 dX10_asItIs_19 rfl (lv_at hl 1 rfl) ?_
    replace hz_4 := gd_e hz_4
    obtain ⟨g_12, hz_4⟩ := hz_4
    refine lMA5 X hw g_12 dX10_asItIs_20 ?_
    replace hz_4 := ob_e hz_4
    obtain ⟨j_14, hg_26, hz_4⟩ := hz_4
    have J_27 : ∀ (H : Heap) (locs : List Loc) (ls : Array Slot), Wd g 20 h (cM g h t_2) s H locs → lv_has ls 2 [(0, .ref (h 0)), (1, .int y_1)] → W p l e (rW 0 0) s m AV below meth c H locs 0 0 Q (F0 m 48 ls [.int j_14, .int y_1, .ref (h 9)]) := by
      intro H locs ls hw hl
      replace hz_4 := gd_e hz_4
      obtain ⟨g_15, hz_4⟩ := hz_4
      refine sMA6 X hw g_15 dX10_asItIs_48 (fun H locs hw => ?_)
      obtain ⟨t_16, et_16⟩ : ∃ y, y = wA t_2 6 y_1.toNatClampNeg j_14 := ⟨_, rfl⟩
      rw [← et_16] at hw
      replace hz_4 := lt_e hz_4 et_16
      refine lv_aload_n X.1 X.2.1 dX10_asItIs_49 rfl (lv_at hl 0 rfl) ?_
      refine gX10_bottoms X hw wq_5_18 dX10_asItIs_50 ?_
      refine lv_iload_n X.1 X.2.1 dX10_asItIs_53 rfl (lv_at hl 1 rfl) ?_
      refine lv_aload_n X.1 X.2.1 dX10_asItIs_54 rfl (lv_at hl 0 rfl) ?_
      refine gX10_seens X hw wq_5_16 dX10_asItIs_55 ?_
      refine lv_iload_n X.1 X.2.1 dX10_asItIs_58 rfl (lv_at hl 1 rfl) ?_
      replace hz_4 := gd_e hz_4
      obtain ⟨g_17, hz_4⟩ := hz_4
      refine lMA5 X hw g_17 dX10_asItIs_59 ?_
      refine lv_if_ne (tgt := 72) X.1 X.2.1 dX10_asItIs_60 (by decide) (fun c_18 => ?_) (fun c_18 => ?_)
      · replace hz_4 := it_n hz_4 c_18
        refine lv_iconst (v := 1) X.1 X.2.1 dX10_asItIs_72 (by decide) ?_
        replace hz_4 := gd_e hz_4
        obtain ⟨g_19, hz_4⟩ := hz_4
        refine sMA7 X hw g_19 dX10_asItIs_73 (fun H locs hw => ?_)
        obtain ⟨t_20, et_20⟩ : ∃ y, y = wA t_16 7 y_1.toNatClampNeg (1 : Int32) := ⟨_, rfl⟩
        rw [← et_20] at hw
        replace hz_4 := lt_e hz_4 et_20
        obtain ⟨x_21, ex_21⟩ : ∃ y : Int32, y = y_1 + 1 := ⟨_, rfl⟩
        replace hz_4 := lt_e hz_4 ex_21
        refine lv_iinc (v := x_21) (lv' := [(1, .int x_21), (0, .ref (h 0))]) X.1 X.2.1 dX10_asItIs_74 hl (k := 1) rfl (by rw [ex_21]; rfl) (by decide) rfl (fun ls hl => ?_)
        refine lv_goto (tgt := 2) X.1 X.2.1 dX10_asItIs_77 (by decide) ?_
        exact hn_5 _ (Option.some.inj hz_4).symm _ _ _ hw (lv_sub hl [1, 0] rfl)
      · replace hz_4 := it_p hz_4 c_18
        refine lv_aload_n X.1 X.2.1 dX10_asItIs_63 rfl (lv_at hl 0 rfl) ?_
        refine gX10_belows X hw wq_5_15 dX10_asItIs_64 ?_
        refine lv_iload_n X.1 X.2.1 dX10_asItIs_67 rfl (lv_at hl 1 rfl) ?_
        replace hz_4 := gd_e hz_4
        obtain ⟨g_22, hz_4⟩ := hz_4
        refine lMA4 X hw g_22 dX10_asItIs_68 ?_
        refine lv_goto (tgt := 73) X.1 X.2.1 dX10_asItIs_69 (by decide) ?_
        replace hz_4 := gd_e hz_4
        obtain ⟨g_23, hz_4⟩ := hz_4
        refine sMA7 X hw g_23 dX10_asItIs_73 (fun H locs hw => ?_)
        obtain ⟨t_24, et_24⟩ : ∃ y, y = wA t_16 7 y_1.toNatClampNeg (t_16.2.2.1 4 y_1.toNatClampNeg) := ⟨_, rfl⟩
        rw [← et_24] at hw
        replace hz_4 := lt_e hz_4 et_24
        obtain ⟨x_25, ex_25⟩ : ∃ y : Int32, y = y_1 + 1 := ⟨_, rfl⟩
        replace hz_4 := lt_e hz_4 ex_25
        refine lv_iinc (v := x_25) (lv' := [(1, .int x_25), (0, .ref (h 0))]) X.1 X.2.1 dX10_asItIs_74 hl (k := 1) rfl (by rw [ex_25]; rfl) (by decide) rfl (fun ls hl => ?_)
        refine lv_goto (tgt := 2) X.1 X.2.1 dX10_asItIs_77 (by decide) ?_
        exact hn_5 _ (Option.some.inj hz_4).symm _ _ _ hw (lv_sub hl [1, 0] rfl)
    refine lv_if_ne (tgt := 33) X.1 X.2.1 dX10_asItIs_21 (by decide) (fun c_13 => ?_) (fun c_13 => ?_)
    · replace hg_26 := it_n hg_26 c_13
      refine lv_aload_n X.1 X.2.1 dX10_asItIs_33 rfl (lv_at hl 0 rfl) ?_
      refine gX10_seens X hw wq_5_16 dX10_asItIs_34 ?_
      refine lv_iload_n X.1 X.2.1 dX10_asItIs_37 rfl (lv_at hl 1 rfl) ?_
      replace hg_26 := gd_e hg_26
      obtain ⟨g_28, hg_26⟩ := hg_26
      refine lMA5 X hw g_28 dX10_asItIs_38 ?_
      refine lv_iconst (v := 1) X.1 X.2.1 dX10_asItIs_39 (by decide) ?_
      refine lv_icmp_ne (tgt := 47) X.1 X.2.1 dX10_asItIs_40 (by decide) (fun c_29 => ?_) (fun c_29 => ?_)
      · replace hg_26 := it_n hg_26 c_29
        refine lv_iconst (v := 0) X.1 X.2.1 dX10_asItIs_47 (by decide) ?_
        obtain rfl := Option.some.inj hg_26
        exact J_27 _ _ _ hw (lv_sub hl [0, 1] rfl)
      · replace hg_26 := it_p hg_26 c_29
        refine lv_iconst (v := 1) X.1 X.2.1 dX10_asItIs_43 (by decide) ?_
        refine lv_goto (tgt := 48) X.1 X.2.1 dX10_asItIs_44 (by decide) ?_
        obtain rfl := Option.some.inj hg_26
        exact J_27 _ _ _ hw (lv_sub hl [0, 1] rfl)
    · replace hg_26 := it_p hg_26 c_13
      refine lv_aload_n X.1 X.2.1 dX10_asItIs_24 rfl (lv_at hl 0 rfl) ?_
      refine gX10_ups X hw wq_5_14 dX10_asItIs_25 ?_
      refine lv_iload_n X.1 X.2.1 dX10_asItIs_28 rfl (lv_at hl 1 rfl) ?_
      replace hg_26 := gd_e hg_26
      obtain ⟨g_30, hg_26⟩ := hg_26
      refine lMA3 X hw g_30 dX10_asItIs_29 ?_
      refine lv_goto (tgt := 48) X.1 X.2.1 dX10_asItIs_30 (by decide) ?_
      obtain rfl := Option.some.inj hg_26
      exact J_27 _ _ _ hw (lv_sub hl [0, 1] rfl)
def m_X10_below_L4 (t : ST) (σ : Int64 × Int32) : Option ((Int64 × Int32) ⊕ (Int64)) := (fun (q_15 : Int64 × Int32) => un q_15 (fun y_1 y_2 => if (t.1 4) ≤ y_2 then some (.inr y_1) else gd (¬ (y_2 < 0 ∨ 10 ≤ y_2.toNatClampNeg)) (lt (y_1 * (t.2.2.1 7 y_2.toNatClampNeg).toInt64) (fun x_13 => lt (y_2 + 1) (fun x_14 => some (.inl (x_13, x_14))))))) σ
def m_X10_below (t : ST) : Option (Int64) := Option.bind (vLoop (m_X10_below_L4 t) FUEL ((1 : Int64), (0 : Int32))) (fun (j_3 : Int64) => some j_3)
theorem yo_X10_below : yX10_below.cls = RX10 ∧ yX10_below.cls ≠ "java/lang/invoke/MethodHandle" ∧ yX10_below.cls ≠ "java/lang/invoke/VarHandle" ∧ (parseMethodDescriptor yX10_below.desc).map (fun d => d.parameters.length) = some 0 := by decide +kernel
set_option maxHeartbeats 4000000 in
set_option maxRecDepth 100000 in
theorem c_X10_below {l : Launch} {g : gT} {h : Nat → Nat} {t : ST} {r : Int64} (hm : m_X10_below t = some r) : MetL l g yX10_below cX10_below 4 (some .long) 0 0 20 h (cM g h t) (cM g h t) [.ref (h 0)] r := by
  refine MetL.ofX (by decide +kernel) (Nat.le_of_ble_eq_true rfl) ?_
  intro p e s m below meth c AV Q X hret ls hw hl
  replace X : Cx g p s m AV c cX10_below RX10 4 := X
  replace hl : lv_has ls 4 [(0, .ref (h 0))] := hl
  unfold m_X10_below at hm
  refine lv_lconst (v := 1) X.1 X.2.1 dX10_below_0 (by decide) ?_
  refine lv_lstore_n (lv' := [(1, .long (1 : Int64)), (0, .ref (h 0))]) X.1 X.2.1 dX10_below_1 rfl hl (by decide) rfl (fun ls hl => ?_)
  refine lv_iconst (v := 0) X.1 X.2.1 dX10_below_2 (by decide) ?_
  refine lv_istore_n (lv' := [(3, .int (0 : Int32)), (1, .long (1 : Int64)), (0, .ref (h 0))]) X.1 X.2.1 dX10_below_3 rfl hl (by decide) rfl (fun ls hl => ?_)
  replace hm := ob_e hm
  obtain ⟨j_3, hL_9, hm⟩ := hm
  have J_8 : ∀ (H : Heap) (locs : List Loc) (ls : Array Slot), Wd g 20 h (cM g h t) s H locs → lv_has ls 4 [(1, .long j_3)] → W p l e (rW 0 0) s m AV below meth c H locs 0 0 Q (F0 m 28 ls []) := by
    intro H locs ls hw hl
    refine lv_lload_n X.1 X.2.1 dX10_below_28 rfl (lv_at hl 0 rfl) ?_
    obtain rfl := Option.some.inj hm
    exact hret _ _ _ _ hw dX10_below_29
  refine vLoop_ind (B := (m_X10_below_L4 t)) (fun σ => ∀ (H : Heap) (locs : List Loc) (ls : Array Slot), Wd g 20 h (cM g h t) s H locs → lv_has ls 4 [(0, .ref (h 0)), (1, .long σ.1), (3, .int σ.2)] → W p l e (rW 0 0) s m AV below meth c H locs 0 0 Q (F0 m 4 ls [])) (fun z' => z' = j_3) ?_ FUEL _ _ hL_9 rfl _ _ _ hw (lv_sub hl [2, 1, 0] rfl)
  intro σ z_7 hz_4 hn_5 hx_6
  obtain ⟨y_1, y_2⟩ := σ
  intro H locs ls hw hl
  replace hw : Wd g 20 h (cM g h t) s H locs := hw
  replace hl : lv_has ls 4 [(0, .ref (h 0)), (1, .long y_1), (3, .int y_2)] := hl
  unfold m_X10_below_L4 at hz_4
  replace hz_4 := un_e hz_4
  refine lv_iload_n X.1 X.2.1 dX10_below_4 rfl (lv_at hl 2 rfl) ?_
  refine lv_aload_n X.1 X.2.1 dX10_below_5 rfl (lv_at hl 0 rfl) ?_
  refine gX10_links X hw wq_7_2 dX10_below_6 ?_
  refine lv_icmp_ge (tgt := 28) X.1 X.2.1 dX10_below_9 (by decide) (fun c_11 => ?_) (fun c_11 => ?_)
  · replace hz_4 := it_p hz_4 c_11
    obtain rfl := hx_6 _ (Option.some.inj hz_4).symm
    exact J_8 _ _ _ hw (lv_sub hl [1] rfl)
  · replace hz_4 := it_n hz_4 c_11
    refine lv_lload_n X.1 X.2.1 dX10_below_12 rfl (lv_at hl 1 rfl) ?_
    refine lv_aload_n X.1 X.2.1 dX10_below_13 rfl (lv_at hl 0 rfl) ?_
    refine gX10_bottoms X hw wq_5_18 dX10_below_14 ?_
    refine lv_iload_n X.1 X.2.1 dX10_below_17 rfl (lv_at hl 2 rfl) ?_
    replace hz_4 := gd_e hz_4
    obtain ⟨g_12, hz_4⟩ := hz_4
    refine lMA7 X hw g_12 dX10_below_18 ?_
    refine lv_i2l X.1 X.2.1 dX10_below_19 rfl ?_
    refine lv_lmul X.1 X.2.1 dX10_below_20 ?_
    refine lv_topl (fun x_13 ex_13 => ?_)
    replace hz_4 := lt_e hz_4 ex_13
    refine lv_lstore_n (lv' := [(1, .long x_13), (0, .ref (h 0)), (3, .int y_2)]) X.1 X.2.1 dX10_below_21 rfl hl (by decide) rfl (fun ls hl => ?_)
    obtain ⟨x_14, ex_14⟩ : ∃ y : Int32, y = y_2 + 1 := ⟨_, rfl⟩
    replace hz_4 := lt_e hz_4 ex_14
    refine lv_iinc (v := x_14) (lv' := [(3, .int x_14), (1, .long x_13), (0, .ref (h 0))]) X.1 X.2.1 dX10_below_22 hl (k := 2) rfl (by rw [ex_14]; rfl) (by decide) rfl (fun ls hl => ?_)
    refine lv_goto (tgt := 4) X.1 X.2.1 dX10_below_25 (by decide) ?_
    exact hn_5 _ (Option.some.inj hz_4).symm _ _ _ hw (lv_sub hl [2, 1, 0] rfl)
def m_X10_weight_L5 (x1 : Int32) (t : ST) (σ : Int64 × Int32) : Option ((Int64 × Int32) ⊕ (Int64)) := (fun (q_20 : Int64 × Int32) => un q_20 (fun y_1 y_2 => if (t.1 4) ≤ y_2 then some (.inr y_1) else if ((x1 >>> (y_2 &&& 31)) &&& (1 : Int32)) = (1 : Int32) then gd (¬ (y_2 < 0 ∨ 10 ≤ y_2.toNatClampNeg)) (lt (y_1 * (t.2.2.1 6 y_2.toNatClampNeg).toInt64) (fun x_18 => lt (y_2 + 1) (fun x_19 => some (.inl (x_18, x_19))))) else gd (¬ (y_2 < 0 ∨ 10 ≤ y_2.toNatClampNeg)) (gd (¬ (y_2 < 0 ∨ 10 ≤ y_2.toNatClampNeg)) (lt (y_1 * ((t.2.2.1 7 y_2.toNatClampNeg) - (t.2.2.1 6 y_2.toNatClampNeg)).toInt64) (fun x_15 => lt (y_2 + 1) (fun x_16 => some (.inl (x_15, x_16)))))))) σ
def m_X10_weight (t : ST) (x1 : Int32) : Option (Int64) := Option.bind (vLoop (m_X10_weight_L5 x1 t) FUEL ((1 : Int64), (0 : Int32))) (fun (j_3 : Int64) => some j_3)
theorem yo_X10_weight : yX10_weight.cls = RX10 ∧ yX10_weight.cls ≠ "java/lang/invoke/MethodHandle" ∧ yX10_weight.cls ≠ "java/lang/invoke/VarHandle" ∧ (parseMethodDescriptor yX10_weight.desc).map (fun d => d.parameters.length) = some 1 := by decide +kernel
set_option maxHeartbeats 4000000 in
set_option maxRecDepth 100000 in
theorem c_X10_weight {l : Launch} {g : gT} {h : Nat → Nat} {t : ST} {x1 : Int32} {r : Int64} (hm : m_X10_weight t x1 = some r) : MetL l g yX10_weight cX10_weight 5 (some .long) 0 0 20 h (cM g h t) (cM g h t) [.ref (h 0), .int x1] r := by
  refine MetL.ofX (by decide +kernel) (Nat.le_of_ble_eq_true rfl) ?_
  intro p e s m below meth c AV Q X hret ls hw hl
  replace X : Cx g p s m AV c cX10_weight RX10 5 := X
  replace hl : lv_has ls 5 [(0, .ref (h 0)), (1, .int x1)] := hl
  unfold m_X10_weight at hm
  refine lv_lconst (v := 1) X.1 X.2.1 dX10_weight_0 (by decide) ?_
  refine lv_lstore_n (lv' := [(2, .long (1 : Int64)), (0, .ref (h 0)), (1, .int x1)]) X.1 X.2.1 dX10_weight_1 rfl hl (by decide) rfl (fun ls hl => ?_)
  refine lv_iconst (v := 0) X.1 X.2.1 dX10_weight_2 (by decide) ?_
  refine lv_istore (lv' := [(4, .int (0 : Int32)), (2, .long (1 : Int64)), (0, .ref (h 0)), (1, .int x1)]) X.1 X.2.1 dX10_weight_3 hl (by decide) rfl (fun ls hl => ?_)
  replace hm := ob_e hm
  obtain ⟨j_3, hL_9, hm⟩ := hm
  have J_8 : ∀ (H : Heap) (locs : List Loc) (ls : Array Slot), Wd g 20 h (cM g h t) s H locs → lv_has ls 5 [(2, .long j_3)] → W p l e (rW 0 0) s m AV below meth c H locs 0 0 Q (F0 m 60 ls []) := by
    intro H locs ls hw hl
    refine lv_lload_n X.1 X.2.1 dX10_weight_60 rfl (lv_at hl 0 rfl) ?_
    obtain rfl := Option.some.inj hm
    exact hret _ _ _ _ hw dX10_weight_61
  refine vLoop_ind (B := (m_X10_weight_L5 x1 t)) (fun σ => ∀ (H : Heap) (locs : List Loc) (ls : Array Slot), Wd g 20 h (cM g h t) s H locs → lv_has ls 5 [(0, .ref (h 0)), (1, .int x1), (2, .long σ.1), (4, .int σ.2)] → W p l e (rW 0 0) s m AV below meth c H locs 0 0 Q (F0 m 5 ls [])) (fun z' => z' = j_3) ?_ FUEL _ _ hL_9 rfl _ _ _ hw (lv_sub hl [2, 3, 1, 0] rfl)
  intro σ z_7 hz_4 hn_5 hx_6
  obtain ⟨y_1, y_2⟩ := σ
  intro H locs ls hw hl
  replace hw : Wd g 20 h (cM g h t) s H locs := hw
  replace hl : lv_has ls 5 [(0, .ref (h 0)), (1, .int x1), (2, .long y_1), (4, .int y_2)] := hl
  unfold m_X10_weight_L5 at hz_4
  replace hz_4 := un_e hz_4
  refine lv_iload X.1 X.2.1 dX10_weight_5 (lv_at hl 3 rfl) ?_
  refine lv_aload_n X.1 X.2.1 dX10_weight_7 rfl (lv_at hl 0 rfl) ?_
  refine gX10_links X hw wq_7_2 dX10_weight_8 ?_
  refine lv_icmp_ge (tgt := 60) X.1 X.2.1 dX10_weight_11 (by decide) (fun c_11 => ?_) (fun c_11 => ?_)
  · replace hz_4 := it_p hz_4 c_11
    obtain rfl := hx_6 _ (Option.some.inj hz_4).symm
    exact J_8 _ _ _ hw (lv_sub hl [2] rfl)
  · replace hz_4 := it_n hz_4 c_11
    refine lv_lload_n X.1 X.2.1 dX10_weight_14 rfl (lv_at hl 2 rfl) ?_
    refine lv_iload_n X.1 X.2.1 dX10_weight_15 rfl (lv_at hl 1 rfl) ?_
    refine lv_iload X.1 X.2.1 dX10_weight_16 (lv_at hl 3 rfl) ?_
    refine lv_ishr X.1 X.2.1 dX10_weight_18 ?_
    refine lv_iconst (v := 1) X.1 X.2.1 dX10_weight_19 (by decide) ?_
    refine lv_iand X.1 X.2.1 dX10_weight_20 ?_
    refine lv_iconst (v := 1) X.1 X.2.1 dX10_weight_21 (by decide) ?_
    refine lv_icmp_ne (tgt := 36) X.1 X.2.1 dX10_weight_22 (by decide) (fun c_12 => ?_) (fun c_12 => ?_)
    · replace hz_4 := it_n hz_4 c_12
      refine lv_aload_n X.1 X.2.1 dX10_weight_36 rfl (lv_at hl 0 rfl) ?_
      refine gX10_bottoms X hw wq_5_18 dX10_weight_37 ?_
      refine lv_iload X.1 X.2.1 dX10_weight_40 (lv_at hl 3 rfl) ?_
      replace hz_4 := gd_e hz_4
      obtain ⟨g_13, hz_4⟩ := hz_4
      refine lMA7 X hw g_13 dX10_weight_42 ?_
      refine lv_aload_n X.1 X.2.1 dX10_weight_43 rfl (lv_at hl 0 rfl) ?_
      refine gX10_tops X hw wq_5_17 dX10_weight_44 ?_
      refine lv_iload X.1 X.2.1 dX10_weight_47 (lv_at hl 3 rfl) ?_
      replace hz_4 := gd_e hz_4
      obtain ⟨g_14, hz_4⟩ := hz_4
      refine lMA6 X hw g_14 dX10_weight_49 ?_
      refine lv_isub X.1 X.2.1 dX10_weight_50 ?_
      refine lv_i2l X.1 X.2.1 dX10_weight_51 rfl ?_
      refine lv_lmul X.1 X.2.1 dX10_weight_52 ?_
      refine lv_topl (fun x_15 ex_15 => ?_)
      replace hz_4 := lt_e hz_4 ex_15
      refine lv_lstore_n (lv' := [(2, .long x_15), (0, .ref (h 0)), (1, .int x1), (4, .int y_2)]) X.1 X.2.1 dX10_weight_53 rfl hl (by decide) rfl (fun ls hl => ?_)
      obtain ⟨x_16, ex_16⟩ : ∃ y : Int32, y = y_2 + 1 := ⟨_, rfl⟩
      replace hz_4 := lt_e hz_4 ex_16
      refine lv_iinc (v := x_16) (lv' := [(4, .int x_16), (2, .long x_15), (0, .ref (h 0)), (1, .int x1)]) X.1 X.2.1 dX10_weight_54 hl (k := 3) rfl (by rw [ex_16]; rfl) (by decide) rfl (fun ls hl => ?_)
      refine lv_goto (tgt := 5) X.1 X.2.1 dX10_weight_57 (by decide) ?_
      exact hn_5 _ (Option.some.inj hz_4).symm _ _ _ hw (lv_sub hl [2, 3, 1, 0] rfl)
    · replace hz_4 := it_p hz_4 c_12
      refine lv_aload_n X.1 X.2.1 dX10_weight_25 rfl (lv_at hl 0 rfl) ?_
      refine gX10_tops X hw wq_5_17 dX10_weight_26 ?_
      refine lv_iload X.1 X.2.1 dX10_weight_29 (lv_at hl 3 rfl) ?_
      replace hz_4 := gd_e hz_4
      obtain ⟨g_17, hz_4⟩ := hz_4
      refine lMA6 X hw g_17 dX10_weight_31 ?_
      refine lv_i2l X.1 X.2.1 dX10_weight_32 rfl ?_
      refine lv_goto (tgt := 52) X.1 X.2.1 dX10_weight_33 (by decide) ?_
      refine lv_lmul X.1 X.2.1 dX10_weight_52 ?_
      refine lv_topl (fun x_18 ex_18 => ?_)
      replace hz_4 := lt_e hz_4 ex_18
      refine lv_lstore_n (lv' := [(2, .long x_18), (0, .ref (h 0)), (1, .int x1), (4, .int y_2)]) X.1 X.2.1 dX10_weight_53 rfl hl (by decide) rfl (fun ls hl => ?_)
      obtain ⟨x_19, ex_19⟩ : ∃ y : Int32, y = y_2 + 1 := ⟨_, rfl⟩
      replace hz_4 := lt_e hz_4 ex_19
      refine lv_iinc (v := x_19) (lv' := [(4, .int x_19), (2, .long x_18), (0, .ref (h 0)), (1, .int x1)]) X.1 X.2.1 dX10_weight_54 hl (k := 3) rfl (by rw [ex_19]; rfl) (by decide) rfl (fun ls hl => ?_)
      refine lv_goto (tgt := 5) X.1 X.2.1 dX10_weight_57 (by decide) ?_
      exact hn_5 _ (Option.some.inj hz_4).symm _ _ _ hw (lv_sub hl [2, 3, 1, 0] rfl)
def m_X10_above_L5 (x1 : Int32) (x2 : Int32) (t : ST) (σ : Int64 × Int32) : Option ((Int64 × Int32) ⊕ (Int64)) := (fun (q_24 : Int64 × Int32) => un q_24 (fun y_1 y_2 => if ((1 : Int32) <<< ((t.1 4) &&& 31)) ≤ y_2 then some (.inr y_1) else Option.bind (m_X10_weight t y_2) (fun (r_13 : Int64) => if (lg_cmp r_13 (0 : Int64)) ≤ 0 then lt (y_1 + (0 : Int64)) (fun x_15 => lt (y_2 + 1) (fun x_16 => some (.inl (x_15, x_16)))) else Option.bind (m_X10_joinedWith t y_2 x1) (fun (r_18 : Int32) => if (r_18 &&& x2) = x2 then lt (y_1 + r_13) (fun x_22 => lt (y_2 + 1) (fun x_23 => some (.inl (x_22, x_23)))) else lt (y_1 + (0 : Int64)) (fun x_20 => lt (y_2 + 1) (fun x_21 => some (.inl (x_20, x_21)))))))) σ
def m_X10_above (t : ST) (x1 : Int32) (x2 : Int32) : Option (Int64) := Option.bind (vLoop (m_X10_above_L5 x1 x2 t) FUEL ((0 : Int64), (0 : Int32))) (fun (j_3 : Int64) => some j_3)
theorem yo_X10_above : yX10_above.cls = RX10 ∧ yX10_above.cls ≠ "java/lang/invoke/MethodHandle" ∧ yX10_above.cls ≠ "java/lang/invoke/VarHandle" ∧ (parseMethodDescriptor yX10_above.desc).map (fun d => d.parameters.length) = some 2 := by decide +kernel
set_option maxHeartbeats 4000000 in
set_option maxRecDepth 100000 in
theorem c_X10_above {l : Launch} {g : gT} {h : Nat → Nat} {t : ST} {x1 : Int32} {x2 : Int32} {r : Int64} (hm : m_X10_above t x1 x2 = some r) : MetL l g yX10_above cX10_above 8 (some .long) 1 26 20 h (cM g h t) (cM g h t) [.ref (h 0), .int x1, .int x2] r := by
  refine MetL.ofX (by decide +kernel) (Nat.le_of_ble_eq_true rfl) ?_
  intro p e s m below meth c AV Q X hret ls hw hl
  replace X : Cx g p s m AV c cX10_above RX10 8 := X
  replace hl : lv_has ls 8 [(0, .ref (h 0)), (1, .int x1), (2, .int x2)] := hl
  unfold m_X10_above at hm
  refine lv_lconst (v := 0) X.1 X.2.1 dX10_above_0 (by decide) ?_
  refine lv_lstore_n (lv' := [(3, .long (0 : Int64)), (0, .ref (h 0)), (1, .int x1), (2, .int x2)]) X.1 X.2.1 dX10_above_1 rfl hl (by decide) rfl (fun ls hl => ?_)
  refine lv_iconst (v := 0) X.1 X.2.1 dX10_above_2 (by decide) ?_
  refine lv_istore (lv' := [(5, .int (0 : Int32)), (3, .long (0 : Int64)), (0, .ref (h 0)), (1, .int x1), (2, .int x2)]) X.1 X.2.1 dX10_above_3 hl (by decide) rfl (fun ls hl => ?_)
  replace hm := ob_e hm
  obtain ⟨j_3, hL_9, hm⟩ := hm
  have J_8 : ∀ (H : Heap) (locs : List Loc) (ls : Array Slot), Wd g 20 h (cM g h t) s H locs → lv_has ls 8 [(3, .long j_3)] → W p l e (rW 1 26) s m AV below meth c H locs 0 0 Q (F0 m 59 ls []) := by
    intro H locs ls hw hl
    refine lv_lload_n X.1 X.2.1 dX10_above_59 rfl (lv_at hl 0 rfl) ?_
    obtain rfl := Option.some.inj hm
    exact hret _ _ _ _ hw dX10_above_60
  refine vLoop_ind (B := (m_X10_above_L5 x1 x2 t)) (fun σ => ∀ (H : Heap) (locs : List Loc) (ls : Array Slot), Wd g 20 h (cM g h t) s H locs → lv_has ls 8 [(0, .ref (h 0)), (1, .int x1), (2, .int x2), (3, .long σ.1), (5, .int σ.2)] → W p l e (rW 1 26) s m AV below meth c H locs 0 0 Q (F0 m 5 ls [])) (fun z' => z' = j_3) ?_ FUEL _ _ hL_9 rfl _ _ _ hw (lv_sub hl [2, 3, 4, 1, 0] rfl)
  intro σ z_7 hz_4 hn_5 hx_6
  obtain ⟨y_1, y_2⟩ := σ
  intro H locs ls hw hl
  replace hw : Wd g 20 h (cM g h t) s H locs := hw
  replace hl : lv_has ls 8 [(0, .ref (h 0)), (1, .int x1), (2, .int x2), (3, .long y_1), (5, .int y_2)] := hl
  unfold m_X10_above_L5 at hz_4
  replace hz_4 := un_e hz_4
  refine lv_iload X.1 X.2.1 dX10_above_5 (lv_at hl 4 rfl) ?_
  refine lv_iconst (v := 1) X.1 X.2.1 dX10_above_7 (by decide) ?_
  refine lv_aload_n X.1 X.2.1 dX10_above_8 rfl (lv_at hl 0 rfl) ?_
  refine gX10_links X hw wq_7_2 dX10_above_9 ?_
  refine lv_ishl X.1 X.2.1 dX10_above_12 ?_
  refine lv_icmp_ge (tgt := 59) X.1 X.2.1 dX10_above_13 (by decide) (fun c_11 => ?_) (fun c_11 => ?_)
  · replace hz_4 := it_p hz_4 c_11
    obtain rfl := hx_6 _ (Option.some.inj hz_4).symm
    exact J_8 _ _ _ hw (lv_sub hl [3] rfl)
  · replace hz_4 := it_n hz_4 c_11
    refine lv_aload_n X.1 X.2.1 dX10_above_16 rfl (lv_at hl 0 rfl) ?_
    refine lv_iload X.1 X.2.1 dX10_above_17 (lv_at hl 4 rfl) ?_
    replace hz_4 := ob_e hz_4
    obtain ⟨r_13, h_12, hz_4⟩ := hz_4
    refine k_Vl (k := 0) (As := [.int y_2]) X hl.1 hw (c_X10_weight h_12) (by decide) (he_X10 g h _) rfl ⟨wq_18_16, wq_18_17, wq_18_18, wq_1_5, wq_18_19⟩ yo_X10_weight rfl ⟨Nat.le_of_ble_eq_true rfl, Nat.le_of_ble_eq_true rfl⟩ (Nat.le_of_ble_eq_true rfl) dX10_above_19 (fun H locs hw => ?_)
    refine lv_lstore (lv' := [(6, .long r_13), (0, .ref (h 0)), (1, .int x1), (2, .int x2), (3, .long y_1), (5, .int y_2)]) X.1 X.2.1 dX10_above_22 hl (by decide) rfl (fun ls hl => ?_)
    refine lv_lload_n X.1 X.2.1 dX10_above_24 rfl (lv_at hl 4 rfl) ?_
    refine lv_lload X.1 X.2.1 dX10_above_25 (lv_at hl 0 rfl) ?_
    refine lv_lconst (v := 0) X.1 X.2.1 dX10_above_27 (by decide) ?_
    refine W.lcmp X.1 X.2.1 dX10_above_28 ?_
    refine lv_if_le (tgt := 50) X.1 X.2.1 dX10_above_29 (by decide) (fun c_14 => ?_) (fun c_14 => ?_)
    · replace hz_4 := it_p hz_4 c_14
      refine lv_lconst (v := 0) X.1 X.2.1 dX10_above_50 (by decide) ?_
      refine lv_ladd X.1 X.2.1 dX10_above_51 ?_
      refine lv_topl (fun x_15 ex_15 => ?_)
      replace hz_4 := lt_e hz_4 ex_15
      refine lv_lstore_n (lv' := [(3, .long x_15), (6, .long r_13), (0, .ref (h 0)), (1, .int x1), (2, .int x2), (5, .int y_2)]) X.1 X.2.1 dX10_above_52 rfl hl (by decide) rfl (fun ls hl => ?_)
      obtain ⟨x_16, ex_16⟩ : ∃ y : Int32, y = y_2 + 1 := ⟨_, rfl⟩
      replace hz_4 := lt_e hz_4 ex_16
      refine lv_iinc (v := x_16) (lv' := [(5, .int x_16), (3, .long x_15), (6, .long r_13), (0, .ref (h 0)), (1, .int x1), (2, .int x2)]) X.1 X.2.1 dX10_above_53 hl (k := 5) rfl (by rw [ex_16]; rfl) (by decide) rfl (fun ls hl => ?_)
      refine lv_goto (tgt := 5) X.1 X.2.1 dX10_above_56 (by decide) ?_
      exact hn_5 _ (Option.some.inj hz_4).symm _ _ _ hw (lv_sub hl [3, 4, 5, 1, 0] rfl)
    · replace hz_4 := it_n hz_4 c_14
      refine lv_aload_n X.1 X.2.1 dX10_above_32 rfl (lv_at hl 1 rfl) ?_
      refine lv_iload X.1 X.2.1 dX10_above_33 (lv_at hl 5 rfl) ?_
      refine lv_iload_n X.1 X.2.1 dX10_above_35 rfl (lv_at hl 2 rfl) ?_
      replace hz_4 := ob_e hz_4
      obtain ⟨r_18, h_17, hz_4⟩ := hz_4
      refine k_Vi (k := 0) (As := [.int y_2, .int x1]) X hl.1 hw (c_X10_joinedWith h_17) (by decide) (he_X10 g h _) rfl ⟨wq_18_20, wq_18_21, wq_18_22, wq_1_5, wq_18_23⟩ yo_X10_joinedWith rfl ⟨Nat.le_of_ble_eq_true rfl, Nat.le_of_ble_eq_true rfl⟩ (Nat.le_of_ble_eq_true rfl) dX10_above_36 (fun H locs hw => ?_)
      refine lv_iload_n X.1 X.2.1 dX10_above_39 rfl (lv_at hl 3 rfl) ?_
      refine lv_iand X.1 X.2.1 dX10_above_40 ?_
      refine lv_iload_n X.1 X.2.1 dX10_above_41 rfl (lv_at hl 3 rfl) ?_
      refine lv_icmp_ne (tgt := 50) X.1 X.2.1 dX10_above_42 (by decide) (fun c_19 => ?_) (fun c_19 => ?_)
      · replace hz_4 := it_n hz_4 c_19
        refine lv_lconst (v := 0) X.1 X.2.1 dX10_above_50 (by decide) ?_
        refine lv_ladd X.1 X.2.1 dX10_above_51 ?_
        refine lv_topl (fun x_20 ex_20 => ?_)
        replace hz_4 := lt_e hz_4 ex_20
        refine lv_lstore_n (lv' := [(3, .long x_20), (6, .long r_13), (0, .ref (h 0)), (1, .int x1), (2, .int x2), (5, .int y_2)]) X.1 X.2.1 dX10_above_52 rfl hl (by decide) rfl (fun ls hl => ?_)
        obtain ⟨x_21, ex_21⟩ : ∃ y : Int32, y = y_2 + 1 := ⟨_, rfl⟩
        replace hz_4 := lt_e hz_4 ex_21
        refine lv_iinc (v := x_21) (lv' := [(5, .int x_21), (3, .long x_20), (6, .long r_13), (0, .ref (h 0)), (1, .int x1), (2, .int x2)]) X.1 X.2.1 dX10_above_53 hl (k := 5) rfl (by rw [ex_21]; rfl) (by decide) rfl (fun ls hl => ?_)
        refine lv_goto (tgt := 5) X.1 X.2.1 dX10_above_56 (by decide) ?_
        exact hn_5 _ (Option.some.inj hz_4).symm _ _ _ hw (lv_sub hl [3, 4, 5, 1, 0] rfl)
      · replace hz_4 := it_p hz_4 c_19
        refine lv_lload X.1 X.2.1 dX10_above_45 (lv_at hl 0 rfl) ?_
        refine lv_goto (tgt := 51) X.1 X.2.1 dX10_above_47 (by decide) ?_
        refine lv_ladd X.1 X.2.1 dX10_above_51 ?_
        refine lv_topl (fun x_22 ex_22 => ?_)
        replace hz_4 := lt_e hz_4 ex_22
        refine lv_lstore_n (lv' := [(3, .long x_22), (6, .long r_13), (0, .ref (h 0)), (1, .int x1), (2, .int x2), (5, .int y_2)]) X.1 X.2.1 dX10_above_52 rfl hl (by decide) rfl (fun ls hl => ?_)
        obtain ⟨x_23, ex_23⟩ : ∃ y : Int32, y = y_2 + 1 := ⟨_, rfl⟩
        replace hz_4 := lt_e hz_4 ex_23
        refine lv_iinc (v := x_23) (lv' := [(5, .int x_23), (3, .long x_22), (6, .long r_13), (0, .ref (h 0)), (1, .int x1), (2, .int x2)]) X.1 X.2.1 dX10_above_53 hl (k := 5) rfl (by rw [ex_23]; rfl) (by decide) rfl (fun ls hl => ?_)
        refine lv_goto (tgt := 5) X.1 X.2.1 dX10_above_56 (by decide) ?_
        exact hn_5 _ (Option.some.inj hz_4).symm _ _ _ hw (lv_sub hl [3, 4, 5, 1, 0] rfl)
def m_X10_reachBy (t : ST) (x1 : Int32) : Option (Int64 × ST) := Option.bind (m_X10_asItIs t) (fun (t_2 : ST) => Option.bind (m_X10_wanted t_2) (fun (r_4 : Int32) => Option.bind (m_X10_above t_2 (t_2.1 2) r_4) (fun (r_6 : Int64) => Option.bind (m_X10_below t_2) (fun (r_8 : Int64) => Option.bind (m_X10_part r_6 r_8 x1) (fun (r_10 : Int64) => some (r_10, t_2))))))
theorem yo_X10_reachBy : yX10_reachBy.cls = RX10 ∧ yX10_reachBy.cls ≠ "java/lang/invoke/MethodHandle" ∧ yX10_reachBy.cls ≠ "java/lang/invoke/VarHandle" ∧ (parseMethodDescriptor yX10_reachBy.desc).map (fun d => d.parameters.length) = some 1 := by decide +kernel
set_option maxHeartbeats 4000000 in
set_option maxRecDepth 100000 in
theorem c_X10_reachBy {l : Launch} {g : gT} {h : Nat → Nat} {t : ST} {x1 : Int32} {r : Int64} {t' : ST} (hm : m_X10_reachBy t x1 = some (r, t')) : MetL l g yX10_reachBy cX10_reachBy 2 (some .long) 2 54 20 h (cM g h t) (cM g h t') [.ref (h 0), .int x1] r := by
  refine MetL.ofX (by decide +kernel) (Nat.le_of_ble_eq_true rfl) ?_
  intro p e s m below meth c AV Q X hret ls hw hl
  replace X : Cx g p s m AV c cX10_reachBy RX10 2 := X
  replace hl : lv_has ls 2 [(0, .ref (h 0)), (1, .int x1)] := hl
  unfold m_X10_reachBy at hm
  refine lv_aload_n X.1 X.2.1 dX10_reachBy_0 rfl (lv_at hl 0 rfl) ?_
  replace hm := ob_e hm
  obtain ⟨t_2, h_1, hm⟩ := hm
  refine k_Vv (k := 0) (As := []) X hl.1 hw (c_X10_asItIs h_1) (by decide) (he_X10 g h _) rfl ⟨wq_18_4, wq_18_5, wq_18_6, wq_1_5, wq_18_7⟩ yo_X10_asItIs rfl ⟨Nat.le_of_ble_eq_true rfl, Nat.le_of_ble_eq_true rfl⟩ (Nat.le_of_ble_eq_true rfl) dX10_reachBy_1 (fun H locs hw => ?_)
  refine lv_aload_n X.1 X.2.1 dX10_reachBy_4 rfl (lv_at hl 0 rfl) ?_
  refine lv_aload_n X.1 X.2.1 dX10_reachBy_5 rfl (lv_at hl 0 rfl) ?_
  refine gX10_source X hw wq_7_4 dX10_reachBy_6 ?_
  refine lv_aload_n X.1 X.2.1 dX10_reachBy_9 rfl (lv_at hl 0 rfl) ?_
  replace hm := ob_e hm
  obtain ⟨r_4, h_3, hm⟩ := hm
  refine k_Vi (k := 0) (As := []) X hl.1 hw (c_X10_wanted h_3) (by decide) (he_X10 g h _) rfl ⟨wq_18_8, wq_18_9, wq_18_10, wq_1_5, wq_18_11⟩ yo_X10_wanted rfl ⟨Nat.le_of_ble_eq_true rfl, Nat.le_of_ble_eq_true rfl⟩ (Nat.le_of_ble_eq_true rfl) dX10_reachBy_10 (fun H locs hw => ?_)
  replace hm := ob_e hm
  obtain ⟨r_6, h_5, hm⟩ := hm
  refine k_Vl (k := 0) (As := [.int (t_2.1 2), .int r_4]) X hl.1 hw (c_X10_above h_5) (by decide) (he_X10 g h _) rfl ⟨wq_18_12, wq_18_13, wq_18_14, wq_1_5, wq_18_15⟩ yo_X10_above rfl ⟨Nat.le_of_ble_eq_true rfl, Nat.le_of_ble_eq_true rfl⟩ (Nat.le_of_ble_eq_true rfl) dX10_reachBy_13 (fun H locs hw => ?_)
  refine lv_aload_n X.1 X.2.1 dX10_reachBy_16 rfl (lv_at hl 0 rfl) ?_
  replace hm := ob_e hm
  obtain ⟨r_8, h_7, hm⟩ := hm
  refine k_Vl (k := 0) (As := []) X hl.1 hw (c_X10_below h_7) (by decide) (he_X10 g h _) rfl ⟨wq_19_0, wq_19_1, wq_19_2, wq_1_5, wq_19_3⟩ yo_X10_below rfl ⟨Nat.le_of_ble_eq_true rfl, Nat.le_of_ble_eq_true rfl⟩ (Nat.le_of_ble_eq_true rfl) dX10_reachBy_17 (fun H locs hw => ?_)
  refine lv_iload_n X.1 X.2.1 dX10_reachBy_20 rfl (lv_at hl 1 rfl) ?_
  replace hm := ob_e hm
  obtain ⟨r_10, h_9, hm⟩ := hm
  refine k_Sl (As := [.long r_6, .long r_8, .int x1]) X hl.1 hw (c_X10_part h_9) ⟨wq_19_4, wq_19_5, wq_1_5, wq_19_6⟩ yo_X10_part rfl ⟨Nat.le_of_ble_eq_true rfl, Nat.le_of_ble_eq_true rfl⟩ (Nat.le_of_ble_eq_true rfl) dX10_reachBy_21 (fun H locs hw => ?_)
  obtain ⟨rfl, rfl⟩ := Prod.mk.inj (Option.some.inj hm)
  exact hret _ _ _ _ hw dX10_reachBy_24
def m_X10_reach (t : ST) (x1 : Int32) : Option (Int64 × ST) := Option.bind (m_X10_isTwo x1) (fun (r_2 : Int32) => if r_2 = 0 then Option.bind (m_X10_no (-2 : Int32)) (fun (r_5 : Int64) => some (r_5, t)) else Option.bind (m_X10_reachBy t x1) (fun (q_10 : Int64 × ST) => un q_10 (fun r_8 t_9 => some (r_8, t_9))))
theorem yo_X10_reach : yX10_reach.cls = RX10 ∧ yX10_reach.cls ≠ "java/lang/invoke/MethodHandle" ∧ yX10_reach.cls ≠ "java/lang/invoke/VarHandle" ∧ (parseMethodDescriptor yX10_reach.desc).map (fun d => d.parameters.length) = some 1 := by decide +kernel
set_option maxHeartbeats 4000000 in
set_option maxRecDepth 100000 in
theorem c_X10_reach {l : Launch} {g : gT} {h : Nat → Nat} {t : ST} {x1 : Int32} {r : Int64} {t' : ST} (hm : m_X10_reach t x1 = some (r, t')) : MetL l g yX10_reach cX10_reach 2 (some .long) 3 75 20 h (cM g h t) (cM g h t') [.ref (h 0), .int x1] r := by
  refine MetL.ofX (by decide +kernel) (Nat.le_of_ble_eq_true rfl) ?_
  intro p e s m below meth c AV Q X hret ls hw hl
  replace X : Cx g p s m AV c cX10_reach RX10 2 := X
  replace hl : lv_has ls 2 [(0, .ref (h 0)), (1, .int x1)] := hl
  unfold m_X10_reach at hm
  refine lv_iload_n X.1 X.2.1 dX10_reach_0 rfl (lv_at hl 1 rfl) ?_
  replace hm := ob_e hm
  obtain ⟨r_2, h_1, hm⟩ := hm
  refine k_Si (As := [.int x1]) X hl.1 hw (c_X10_isTwo h_1) ⟨wq_17_21, wq_17_22, wq_1_5, wq_17_23⟩ yo_X10_isTwo rfl ⟨Nat.le_of_ble_eq_true rfl, Nat.le_of_ble_eq_true rfl⟩ (Nat.le_of_ble_eq_true rfl) dX10_reach_1 (fun H locs hw => ?_)
  refine lv_if_eq (tgt := 15) X.1 X.2.1 dX10_reach_4 (by decide) (fun c_3 => ?_) (fun c_3 => ?_)
  · replace hm := it_p hm c_3
    refine lv_bipush (v := -2) X.1 X.2.1 dX10_reach_15 (by decide) ?_
    replace hm := ob_e hm
    obtain ⟨r_5, h_4, hm⟩ := hm
    refine k_Sl (As := [.int (-2 : Int32)]) X hl.1 hw (c_X10_no h_4) ⟨wq_19_10, wq_19_11, wq_1_5, wq_19_12⟩ yo_X10_no rfl ⟨Nat.le_of_ble_eq_true rfl, Nat.le_of_ble_eq_true rfl⟩ (Nat.le_of_ble_eq_true rfl) dX10_reach_17 (fun H locs hw => ?_)
    obtain ⟨rfl, rfl⟩ := Prod.mk.inj (Option.some.inj hm)
    exact hret _ _ _ _ hw dX10_reach_20
  · replace hm := it_n hm c_3
    refine lv_aload_n X.1 X.2.1 dX10_reach_7 rfl (lv_at hl 0 rfl) ?_
    refine lv_iload_n X.1 X.2.1 dX10_reach_8 rfl (lv_at hl 1 rfl) ?_
    replace hm := ob_e hm
    obtain ⟨⟨r_8, t_9⟩, h_7, hm⟩ := hm
    replace hm := un_e hm
    refine k_Vl (k := 0) (As := [.int x1]) X hl.1 hw (c_X10_reachBy h_7) (by decide) (he_X10 g h _) rfl ⟨wq_18_0, wq_18_1, wq_18_2, wq_1_5, wq_18_3⟩ yo_X10_reachBy rfl ⟨Nat.le_of_ble_eq_true rfl, Nat.le_of_ble_eq_true rfl⟩ (Nat.le_of_ble_eq_true rfl) dX10_reach_9 (fun H locs hw => ?_)
    refine lv_goto (tgt := 20) X.1 X.2.1 dX10_reach_12 (by decide) ?_
    obtain ⟨rfl, rfl⟩ := Prod.mk.inj (Option.some.inj hm)
    exact hret _ _ _ _ hw dX10_reach_20
def m_X10_pairBy (t : ST) (x1 : Int32) (x2 : Int32) (x3 : Int32) : Option (Int64 × ST) := Option.bind (m_X10_asItIs t) (fun (t_2 : ST) => Option.bind (m_X10_above t_2 x1 (((1 : Int32) <<< (x2 &&& 31)))) (fun (r_4 : Int64) => Option.bind (m_X10_below t_2) (fun (r_6 : Int64) => Option.bind (m_X10_part r_4 r_6 x3) (fun (r_8 : Int64) => some (r_8, t_2)))))
theorem yo_X10_pairBy : yX10_pairBy.cls = RX10 ∧ yX10_pairBy.cls ≠ "java/lang/invoke/MethodHandle" ∧ yX10_pairBy.cls ≠ "java/lang/invoke/VarHandle" ∧ (parseMethodDescriptor yX10_pairBy.desc).map (fun d => d.parameters.length) = some 3 := by decide +kernel
set_option maxHeartbeats 4000000 in
set_option maxRecDepth 100000 in
theorem c_X10_pairBy {l : Launch} {g : gT} {h : Nat → Nat} {t : ST} {x1 : Int32} {x2 : Int32} {x3 : Int32} {r : Int64} {t' : ST} (hm : m_X10_pairBy t x1 x2 x3 = some (r, t')) : MetL l g yX10_pairBy cX10_pairBy 4 (some .long) 2 54 20 h (cM g h t) (cM g h t') [.ref (h 0), .int x1, .int x2, .int x3] r := by
  refine MetL.ofX (by decide +kernel) (Nat.le_of_ble_eq_true rfl) ?_
  intro p e s m below meth c AV Q X hret ls hw hl
  replace X : Cx g p s m AV c cX10_pairBy RX10 4 := X
  replace hl : lv_has ls 4 [(0, .ref (h 0)), (1, .int x1), (2, .int x2), (3, .int x3)] := hl
  unfold m_X10_pairBy at hm
  refine lv_aload_n X.1 X.2.1 dX10_pairBy_0 rfl (lv_at hl 0 rfl) ?_
  replace hm := ob_e hm
  obtain ⟨t_2, h_1, hm⟩ := hm
  refine k_Vv (k := 0) (As := []) X hl.1 hw (c_X10_asItIs h_1) (by decide) (he_X10 g h _) rfl ⟨wq_18_4, wq_18_5, wq_18_6, wq_1_5, wq_18_7⟩ yo_X10_asItIs rfl ⟨Nat.le_of_ble_eq_true rfl, Nat.le_of_ble_eq_true rfl⟩ (Nat.le_of_ble_eq_true rfl) dX10_pairBy_1 (fun H locs hw => ?_)
  refine lv_aload_n X.1 X.2.1 dX10_pairBy_4 rfl (lv_at hl 0 rfl) ?_
  refine lv_iload_n X.1 X.2.1 dX10_pairBy_5 rfl (lv_at hl 1 rfl) ?_
  refine lv_iconst (v := 1) X.1 X.2.1 dX10_pairBy_6 (by decide) ?_
  refine lv_iload_n X.1 X.2.1 dX10_pairBy_7 rfl (lv_at hl 2 rfl) ?_
  refine lv_ishl X.1 X.2.1 dX10_pairBy_8 ?_
  replace hm := ob_e hm
  obtain ⟨r_4, h_3, hm⟩ := hm
  refine k_Vl (k := 0) (As := [.int x1, .int ((1 : Int32) <<< (x2 &&& 31))]) X hl.1 hw (c_X10_above h_3) (by decide) (he_X10 g h _) rfl ⟨wq_18_12, wq_18_13, wq_18_14, wq_1_5, wq_18_15⟩ yo_X10_above rfl ⟨Nat.le_of_ble_eq_true rfl, Nat.le_of_ble_eq_true rfl⟩ (Nat.le_of_ble_eq_true rfl) dX10_pairBy_9 (fun H locs hw => ?_)
  refine lv_aload_n X.1 X.2.1 dX10_pairBy_12 rfl (lv_at hl 0 rfl) ?_
  replace hm := ob_e hm
  obtain ⟨r_6, h_5, hm⟩ := hm
  refine k_Vl (k := 0) (As := []) X hl.1 hw (c_X10_below h_5) (by decide) (he_X10 g h _) rfl ⟨wq_19_0, wq_19_1, wq_19_2, wq_1_5, wq_19_3⟩ yo_X10_below rfl ⟨Nat.le_of_ble_eq_true rfl, Nat.le_of_ble_eq_true rfl⟩ (Nat.le_of_ble_eq_true rfl) dX10_pairBy_13 (fun H locs hw => ?_)
  refine lv_iload_n X.1 X.2.1 dX10_pairBy_16 rfl (lv_at hl 3 rfl) ?_
  replace hm := ob_e hm
  obtain ⟨r_8, h_7, hm⟩ := hm
  refine k_Sl (As := [.long r_4, .long r_6, .int x3]) X hl.1 hw (c_X10_part h_7) ⟨wq_19_4, wq_19_5, wq_1_5, wq_19_6⟩ yo_X10_part rfl ⟨Nat.le_of_ble_eq_true rfl, Nat.le_of_ble_eq_true rfl⟩ (Nat.le_of_ble_eq_true rfl) dX10_pairBy_17 (fun H locs hw => ?_)
  obtain ⟨rfl, rfl⟩ := Prod.mk.inj (Option.some.inj hm)
  exact hret _ _ _ _ hw dX10_pairBy_20
def m_X10_pair (t : ST) (x1 : Int32) (x2 : Int32) (x3 : Int32) : Option (Int64 × ST) := Option.bind (m_X10_isStation t (x1.toInt64)) (fun (r_2 : Int32) => if r_2 = 0 then Option.bind (m_X10_no (-2 : Int32)) (fun (r_5 : Int64) => some (r_5, t)) else Option.bind (m_X10_isStation t (x2.toInt64)) (fun (r_8 : Int32) => if r_8 = 0 then Option.bind (m_X10_no (-2 : Int32)) (fun (r_11 : Int64) => some (r_11, t)) else Option.bind (m_X10_isTwo x3) (fun (r_14 : Int32) => if r_14 = 0 then Option.bind (m_X10_no (-2 : Int32)) (fun (r_17 : Int64) => some (r_17, t)) else Option.bind (m_X10_pairBy t x1 x2 x3) (fun (q_22 : Int64 × ST) => un q_22 (fun r_20 t_21 => some (r_20, t_21))))))
theorem yo_X10_pair : yX10_pair.cls = RX10 ∧ yX10_pair.cls ≠ "java/lang/invoke/MethodHandle" ∧ yX10_pair.cls ≠ "java/lang/invoke/VarHandle" ∧ (parseMethodDescriptor yX10_pair.desc).map (fun d => d.parameters.length) = some 3 := by decide +kernel
set_option maxHeartbeats 4000000 in
set_option maxRecDepth 100000 in
theorem c_X10_pair {l : Launch} {g : gT} {h : Nat → Nat} {t : ST} {x1 : Int32} {x2 : Int32} {x3 : Int32} {r : Int64} {t' : ST} (hm : m_X10_pair t x1 x2 x3 = some (r, t')) : MetL l g yX10_pair cX10_pair 4 (some .long) 3 77 20 h (cM g h t) (cM g h t') [.ref (h 0), .int x1, .int x2, .int x3] r := by
  refine MetL.ofX (by decide +kernel) (Nat.le_of_ble_eq_true rfl) ?_
  intro p e s m below meth c AV Q X hret ls hw hl
  replace X : Cx g p s m AV c cX10_pair RX10 4 := X
  replace hl : lv_has ls 4 [(0, .ref (h 0)), (1, .int x1), (2, .int x2), (3, .int x3)] := hl
  unfold m_X10_pair at hm
  refine lv_aload_n X.1 X.2.1 dX10_pair_0 rfl (lv_at hl 0 rfl) ?_
  refine lv_iload_n X.1 X.2.1 dX10_pair_1 rfl (lv_at hl 1 rfl) ?_
  refine lv_i2l X.1 X.2.1 dX10_pair_2 rfl ?_
  replace hm := ob_e hm
  obtain ⟨r_2, h_1, hm⟩ := hm
  refine k_Vi (k := 0) (As := [.long x1.toInt64]) X hl.1 hw (c_X10_isStation h_1) (by decide) (he_X10 g h _) rfl ⟨wq_9_22, wq_9_23, wq_10_0, wq_1_5, wq_10_1⟩ yo_X10_isStation rfl ⟨Nat.le_of_ble_eq_true rfl, Nat.le_of_ble_eq_true rfl⟩ (Nat.le_of_ble_eq_true rfl) dX10_pair_3 (fun H locs hw => ?_)
  refine lv_if_eq (tgt := 35) X.1 X.2.1 dX10_pair_6 (by decide) (fun c_3 => ?_) (fun c_3 => ?_)
  · replace hm := it_p hm c_3
    refine lv_bipush (v := -2) X.1 X.2.1 dX10_pair_35 (by decide) ?_
    replace hm := ob_e hm
    obtain ⟨r_5, h_4, hm⟩ := hm
    refine k_Sl (As := [.int (-2 : Int32)]) X hl.1 hw (c_X10_no h_4) ⟨wq_19_10, wq_19_11, wq_1_5, wq_19_12⟩ yo_X10_no rfl ⟨Nat.le_of_ble_eq_true rfl, Nat.le_of_ble_eq_true rfl⟩ (Nat.le_of_ble_eq_true rfl) dX10_pair_37 (fun H locs hw => ?_)
    obtain ⟨rfl, rfl⟩ := Prod.mk.inj (Option.some.inj hm)
    exact hret _ _ _ _ hw dX10_pair_40
  · replace hm := it_n hm c_3
    refine lv_aload_n X.1 X.2.1 dX10_pair_9 rfl (lv_at hl 0 rfl) ?_
    refine lv_iload_n X.1 X.2.1 dX10_pair_10 rfl (lv_at hl 2 rfl) ?_
    refine lv_i2l X.1 X.2.1 dX10_pair_11 rfl ?_
    replace hm := ob_e hm
    obtain ⟨r_8, h_7, hm⟩ := hm
    refine k_Vi (k := 0) (As := [.long x2.toInt64]) X hl.1 hw (c_X10_isStation h_7) (by decide) (he_X10 g h _) rfl ⟨wq_9_22, wq_9_23, wq_10_0, wq_1_5, wq_10_1⟩ yo_X10_isStation rfl ⟨Nat.le_of_ble_eq_true rfl, Nat.le_of_ble_eq_true rfl⟩ (Nat.le_of_ble_eq_true rfl) dX10_pair_12 (fun H locs hw => ?_)
    refine lv_if_eq (tgt := 35) X.1 X.2.1 dX10_pair_15 (by decide) (fun c_9 => ?_) (fun c_9 => ?_)
    · replace hm := it_p hm c_9
      refine lv_bipush (v := -2) X.1 X.2.1 dX10_pair_35 (by decide) ?_
      replace hm := ob_e hm
      obtain ⟨r_11, h_10, hm⟩ := hm
      refine k_Sl (As := [.int (-2 : Int32)]) X hl.1 hw (c_X10_no h_10) ⟨wq_19_10, wq_19_11, wq_1_5, wq_19_12⟩ yo_X10_no rfl ⟨Nat.le_of_ble_eq_true rfl, Nat.le_of_ble_eq_true rfl⟩ (Nat.le_of_ble_eq_true rfl) dX10_pair_37 (fun H locs hw => ?_)
      obtain ⟨rfl, rfl⟩ := Prod.mk.inj (Option.some.inj hm)
      exact hret _ _ _ _ hw dX10_pair_40
    · replace hm := it_n hm c_9
      refine lv_iload_n X.1 X.2.1 dX10_pair_18 rfl (lv_at hl 3 rfl) ?_
      replace hm := ob_e hm
      obtain ⟨r_14, h_13, hm⟩ := hm
      refine k_Si (As := [.int x3]) X hl.1 hw (c_X10_isTwo h_13) ⟨wq_17_21, wq_17_22, wq_1_5, wq_17_23⟩ yo_X10_isTwo rfl ⟨Nat.le_of_ble_eq_true rfl, Nat.le_of_ble_eq_true rfl⟩ (Nat.le_of_ble_eq_true rfl) dX10_pair_19 (fun H locs hw => ?_)
      refine lv_if_eq (tgt := 35) X.1 X.2.1 dX10_pair_22 (by decide) (fun c_15 => ?_) (fun c_15 => ?_)
      · replace hm := it_p hm c_15
        refine lv_bipush (v := -2) X.1 X.2.1 dX10_pair_35 (by decide) ?_
        replace hm := ob_e hm
        obtain ⟨r_17, h_16, hm⟩ := hm
        refine k_Sl (As := [.int (-2 : Int32)]) X hl.1 hw (c_X10_no h_16) ⟨wq_19_10, wq_19_11, wq_1_5, wq_19_12⟩ yo_X10_no rfl ⟨Nat.le_of_ble_eq_true rfl, Nat.le_of_ble_eq_true rfl⟩ (Nat.le_of_ble_eq_true rfl) dX10_pair_37 (fun H locs hw => ?_)
        obtain ⟨rfl, rfl⟩ := Prod.mk.inj (Option.some.inj hm)
        exact hret _ _ _ _ hw dX10_pair_40
      · replace hm := it_n hm c_15
        refine lv_aload_n X.1 X.2.1 dX10_pair_25 rfl (lv_at hl 0 rfl) ?_
        refine lv_iload_n X.1 X.2.1 dX10_pair_26 rfl (lv_at hl 1 rfl) ?_
        refine lv_iload_n X.1 X.2.1 dX10_pair_27 rfl (lv_at hl 2 rfl) ?_
        refine lv_iload_n X.1 X.2.1 dX10_pair_28 rfl (lv_at hl 3 rfl) ?_
        replace hm := ob_e hm
        obtain ⟨⟨r_20, t_21⟩, h_19, hm⟩ := hm
        replace hm := un_e hm
        refine k_Vl (k := 0) (As := [.int x1, .int x2, .int x3]) X hl.1 hw (c_X10_pairBy h_19) (by decide) (he_X10 g h _) rfl ⟨wq_32_13, wq_32_14, wq_32_15, wq_1_5, wq_32_16⟩ yo_X10_pairBy rfl ⟨Nat.le_of_ble_eq_true rfl, Nat.le_of_ble_eq_true rfl⟩ (Nat.le_of_ble_eq_true rfl) dX10_pair_29 (fun H locs hw => ?_)
        refine lv_goto (tgt := 40) X.1 X.2.1 dX10_pair_32 (by decide) ?_
        obtain ⟨rfl, rfl⟩ := Prod.mk.inj (Option.some.inj hm)
        exact hret _ _ _ _ hw dX10_pair_40
def m_X10_ruleBy_L9 (t_2 : ST) (σ : Int64 × Int32) : Option ((Int64 × Int32) ⊕ (Int64)) := (fun (q_23 : Int64 × Int32) => un q_23 (fun y_3 y_4 => if (t_2.1 1) ≤ y_4 then some (.inr y_3) else Option.bind (m_X10_above t_2 (t_2.1 2) (((1 : Int32) <<< (y_4 &&& 31)))) (fun (r_20 : Int64) => lt (y_3 + r_20) (fun x_21 => lt (y_4 + 1) (fun x_22 => some (.inl (x_21, x_22))))))) σ
def m_X10_ruleBy (t : ST) (x1 : Int32) : Option (Int64 × ST) := Option.bind (m_X10_asItIs t) (fun (t_2 : ST) => Option.bind (vLoop (m_X10_ruleBy_L9 t_2) FUEL ((0 : Int64), (0 : Int32))) (fun (j_5 : Int64) => Option.bind (m_X10_below t_2) (fun (r_7 : Int64) => Option.bind (m_X10_part j_5 r_7 x1) (fun (r_9 : Int64) => some (r_9, t_2)))))
theorem yo_X10_ruleBy : yX10_ruleBy.cls = RX10 ∧ yX10_ruleBy.cls ≠ "java/lang/invoke/MethodHandle" ∧ yX10_ruleBy.cls ≠ "java/lang/invoke/VarHandle" ∧ (parseMethodDescriptor yX10_ruleBy.desc).map (fun d => d.parameters.length) = some 1 := by decide +kernel
set_option maxHeartbeats 4000000 in
set_option maxRecDepth 100000 in
theorem c_X10_ruleBy {l : Launch} {g : gT} {h : Nat → Nat} {t : ST} {x1 : Int32} {r : Int64} {t' : ST} (hm : m_X10_ruleBy t x1 = some (r, t')) : MetL l g yX10_ruleBy cX10_ruleBy 5 (some .long) 2 54 20 h (cM g h t) (cM g h t') [.ref (h 0), .int x1] r := by
  refine MetL.ofX (by decide +kernel) (Nat.le_of_ble_eq_true rfl) ?_
  intro p e s m below meth c AV Q X hret ls hw hl
  replace X : Cx g p s m AV c cX10_ruleBy RX10 5 := X
  replace hl : lv_has ls 5 [(0, .ref (h 0)), (1, .int x1)] := hl
  unfold m_X10_ruleBy at hm
  refine lv_aload_n X.1 X.2.1 dX10_ruleBy_0 rfl (lv_at hl 0 rfl) ?_
  replace hm := ob_e hm
  obtain ⟨t_2, h_1, hm⟩ := hm
  refine k_Vv (k := 0) (As := []) X hl.1 hw (c_X10_asItIs h_1) (by decide) (he_X10 g h _) rfl ⟨wq_18_4, wq_18_5, wq_18_6, wq_1_5, wq_18_7⟩ yo_X10_asItIs rfl ⟨Nat.le_of_ble_eq_true rfl, Nat.le_of_ble_eq_true rfl⟩ (Nat.le_of_ble_eq_true rfl) dX10_ruleBy_1 (fun H locs hw => ?_)
  refine lv_lconst (v := 0) X.1 X.2.1 dX10_ruleBy_4 (by decide) ?_
  refine lv_lstore_n (lv' := [(2, .long (0 : Int64)), (0, .ref (h 0)), (1, .int x1)]) X.1 X.2.1 dX10_ruleBy_5 rfl hl (by decide) rfl (fun ls hl => ?_)
  refine lv_iconst (v := 0) X.1 X.2.1 dX10_ruleBy_6 (by decide) ?_
  refine lv_istore (lv' := [(4, .int (0 : Int32)), (2, .long (0 : Int64)), (0, .ref (h 0)), (1, .int x1)]) X.1 X.2.1 dX10_ruleBy_7 hl (by decide) rfl (fun ls hl => ?_)
  replace hm := ob_e hm
  obtain ⟨j_5, hL_16, hm⟩ := hm
  have J_15 : ∀ (H : Heap) (locs : List Loc) (ls : Array Slot), Wd g 20 h (cM g h t_2) s H locs → lv_has ls 5 [(0, .ref (h 0)), (1, .int x1), (2, .long j_5)] → W p l e (rW 2 54) s m AV below meth c H locs 0 0 Q (F0 m 39 ls []) := by
    intro H locs ls hw hl
    refine lv_lload_n X.1 X.2.1 dX10_ruleBy_39 rfl (lv_at hl 2 rfl) ?_
    refine lv_aload_n X.1 X.2.1 dX10_ruleBy_40 rfl (lv_at hl 0 rfl) ?_
    replace hm := ob_e hm
    obtain ⟨r_7, h_6, hm⟩ := hm
    refine k_Vl (k := 0) (As := []) X hl.1 hw (c_X10_below h_6) (by decide) (he_X10 g h _) rfl ⟨wq_19_0, wq_19_1, wq_19_2, wq_1_5, wq_19_3⟩ yo_X10_below rfl ⟨Nat.le_of_ble_eq_true rfl, Nat.le_of_ble_eq_true rfl⟩ (Nat.le_of_ble_eq_true rfl) dX10_ruleBy_41 (fun H locs hw => ?_)
    refine lv_iload_n X.1 X.2.1 dX10_ruleBy_44 rfl (lv_at hl 1 rfl) ?_
    replace hm := ob_e hm
    obtain ⟨r_9, h_8, hm⟩ := hm
    refine k_Sl (As := [.long j_5, .long r_7, .int x1]) X hl.1 hw (c_X10_part h_8) ⟨wq_19_4, wq_19_5, wq_1_5, wq_19_6⟩ yo_X10_part rfl ⟨Nat.le_of_ble_eq_true rfl, Nat.le_of_ble_eq_true rfl⟩ (Nat.le_of_ble_eq_true rfl) dX10_ruleBy_45 (fun H locs hw => ?_)
    obtain ⟨rfl, rfl⟩ := Prod.mk.inj (Option.some.inj hm)
    exact hret _ _ _ _ hw dX10_ruleBy_48
  refine vLoop_ind (B := (m_X10_ruleBy_L9 t_2)) (fun σ => ∀ (H : Heap) (locs : List Loc) (ls : Array Slot), Wd g 20 h (cM g h t_2) s H locs → lv_has ls 5 [(0, .ref (h 0)), (1, .int x1), (2, .long σ.1), (4, .int σ.2)] → W p l e (rW 2 54) s m AV below meth c H locs 0 0 Q (F0 m 9 ls [])) (fun z' => z' = j_5) ?_ FUEL _ _ hL_16 rfl _ _ _ hw (lv_sub hl [2, 3, 1, 0] rfl)
  intro σ z_14 hz_11 hn_12 hx_13
  obtain ⟨y_3, y_4⟩ := σ
  intro H locs ls hw hl
  replace hw : Wd g 20 h (cM g h t_2) s H locs := hw
  replace hl : lv_has ls 5 [(0, .ref (h 0)), (1, .int x1), (2, .long y_3), (4, .int y_4)] := hl
  unfold m_X10_ruleBy_L9 at hz_11
  replace hz_11 := un_e hz_11
  refine lv_iload X.1 X.2.1 dX10_ruleBy_9 (lv_at hl 3 rfl) ?_
  refine lv_aload_n X.1 X.2.1 dX10_ruleBy_11 rfl (lv_at hl 0 rfl) ?_
  refine gX10_stations X hw wq_6_4 dX10_ruleBy_12 ?_
  refine lv_icmp_ge (tgt := 39) X.1 X.2.1 dX10_ruleBy_15 (by decide) (fun c_18 => ?_) (fun c_18 => ?_)
  · replace hz_11 := it_p hz_11 c_18
    obtain rfl := hx_13 _ (Option.some.inj hz_11).symm
    exact J_15 _ _ _ hw (lv_sub hl [0, 1, 2] rfl)
  · replace hz_11 := it_n hz_11 c_18
    refine lv_lload_n X.1 X.2.1 dX10_ruleBy_18 rfl (lv_at hl 2 rfl) ?_
    refine lv_aload_n X.1 X.2.1 dX10_ruleBy_19 rfl (lv_at hl 0 rfl) ?_
    refine lv_aload_n X.1 X.2.1 dX10_ruleBy_20 rfl (lv_at hl 0 rfl) ?_
    refine gX10_source X hw wq_7_4 dX10_ruleBy_21 ?_
    refine lv_iconst (v := 1) X.1 X.2.1 dX10_ruleBy_24 (by decide) ?_
    refine lv_iload X.1 X.2.1 dX10_ruleBy_25 (lv_at hl 3 rfl) ?_
    refine lv_ishl X.1 X.2.1 dX10_ruleBy_27 ?_
    replace hz_11 := ob_e hz_11
    obtain ⟨r_20, h_19, hz_11⟩ := hz_11
    refine k_Vl (k := 0) (As := [.int (t_2.1 2), .int ((1 : Int32) <<< (y_4 &&& 31))]) X hl.1 hw (c_X10_above h_19) (by decide) (he_X10 g h _) rfl ⟨wq_18_12, wq_18_13, wq_18_14, wq_1_5, wq_18_15⟩ yo_X10_above rfl ⟨Nat.le_of_ble_eq_true rfl, Nat.le_of_ble_eq_true rfl⟩ (Nat.le_of_ble_eq_true rfl) dX10_ruleBy_28 (fun H locs hw => ?_)
    refine lv_ladd X.1 X.2.1 dX10_ruleBy_31 ?_
    refine lv_topl (fun x_21 ex_21 => ?_)
    replace hz_11 := lt_e hz_11 ex_21
    refine lv_lstore_n (lv' := [(2, .long x_21), (0, .ref (h 0)), (1, .int x1), (4, .int y_4)]) X.1 X.2.1 dX10_ruleBy_32 rfl hl (by decide) rfl (fun ls hl => ?_)
    obtain ⟨x_22, ex_22⟩ : ∃ y : Int32, y = y_4 + 1 := ⟨_, rfl⟩
    replace hz_11 := lt_e hz_11 ex_22
    refine lv_iinc (v := x_22) (lv' := [(4, .int x_22), (2, .long x_21), (0, .ref (h 0)), (1, .int x1)]) X.1 X.2.1 dX10_ruleBy_33 hl (k := 3) rfl (by rw [ex_22]; rfl) (by decide) rfl (fun ls hl => ?_)
    refine lv_goto (tgt := 9) X.1 X.2.1 dX10_ruleBy_36 (by decide) ?_
    exact hn_12 _ (Option.some.inj hz_11).symm _ _ _ hw (lv_sub hl [2, 3, 1, 0] rfl)
def m_X10_rule (t : ST) (x1 : Int32) : Option (Int64 × ST) := Option.bind (m_X10_isTwo x1) (fun (r_2 : Int32) => if r_2 = 0 then Option.bind (m_X10_no (-2 : Int32)) (fun (r_5 : Int64) => some (r_5, t)) else Option.bind (m_X10_ruleBy t x1) (fun (q_10 : Int64 × ST) => un q_10 (fun r_8 t_9 => some (r_8, t_9))))
theorem yo_X10_rule : yX10_rule.cls = RX10 ∧ yX10_rule.cls ≠ "java/lang/invoke/MethodHandle" ∧ yX10_rule.cls ≠ "java/lang/invoke/VarHandle" ∧ (parseMethodDescriptor yX10_rule.desc).map (fun d => d.parameters.length) = some 1 := by decide +kernel
set_option maxHeartbeats 4000000 in
set_option maxRecDepth 100000 in
theorem c_X10_rule {l : Launch} {g : gT} {h : Nat → Nat} {t : ST} {x1 : Int32} {r : Int64} {t' : ST} (hm : m_X10_rule t x1 = some (r, t')) : MetL l g yX10_rule cX10_rule 2 (some .long) 3 78 20 h (cM g h t) (cM g h t') [.ref (h 0), .int x1] r := by
  refine MetL.ofX (by decide +kernel) (Nat.le_of_ble_eq_true rfl) ?_
  intro p e s m below meth c AV Q X hret ls hw hl
  replace X : Cx g p s m AV c cX10_rule RX10 2 := X
  replace hl : lv_has ls 2 [(0, .ref (h 0)), (1, .int x1)] := hl
  unfold m_X10_rule at hm
  refine lv_iload_n X.1 X.2.1 dX10_rule_0 rfl (lv_at hl 1 rfl) ?_
  replace hm := ob_e hm
  obtain ⟨r_2, h_1, hm⟩ := hm
  refine k_Si (As := [.int x1]) X hl.1 hw (c_X10_isTwo h_1) ⟨wq_17_21, wq_17_22, wq_1_5, wq_17_23⟩ yo_X10_isTwo rfl ⟨Nat.le_of_ble_eq_true rfl, Nat.le_of_ble_eq_true rfl⟩ (Nat.le_of_ble_eq_true rfl) dX10_rule_1 (fun H locs hw => ?_)
  refine lv_if_eq (tgt := 15) X.1 X.2.1 dX10_rule_4 (by decide) (fun c_3 => ?_) (fun c_3 => ?_)
  · replace hm := it_p hm c_3
    refine lv_bipush (v := -2) X.1 X.2.1 dX10_rule_15 (by decide) ?_
    replace hm := ob_e hm
    obtain ⟨r_5, h_4, hm⟩ := hm
    refine k_Sl (As := [.int (-2 : Int32)]) X hl.1 hw (c_X10_no h_4) ⟨wq_19_10, wq_19_11, wq_1_5, wq_19_12⟩ yo_X10_no rfl ⟨Nat.le_of_ble_eq_true rfl, Nat.le_of_ble_eq_true rfl⟩ (Nat.le_of_ble_eq_true rfl) dX10_rule_17 (fun H locs hw => ?_)
    obtain ⟨rfl, rfl⟩ := Prod.mk.inj (Option.some.inj hm)
    exact hret _ _ _ _ hw dX10_rule_20
  · replace hm := it_n hm c_3
    refine lv_aload_n X.1 X.2.1 dX10_rule_7 rfl (lv_at hl 0 rfl) ?_
    refine lv_iload_n X.1 X.2.1 dX10_rule_8 rfl (lv_at hl 1 rfl) ?_
    replace hm := ob_e hm
    obtain ⟨⟨r_8, t_9⟩, h_7, hm⟩ := hm
    replace hm := un_e hm
    refine k_Vl (k := 0) (As := [.int x1]) X hl.1 hw (c_X10_ruleBy h_7) (by decide) (he_X10 g h _) rfl ⟨wq_33_7, wq_33_8, wq_33_9, wq_1_5, wq_33_10⟩ yo_X10_ruleBy rfl ⟨Nat.le_of_ble_eq_true rfl, Nat.le_of_ble_eq_true rfl⟩ (Nat.le_of_ble_eq_true rfl) dX10_rule_9 (fun H locs hw => ?_)
    refine lv_goto (tgt := 20) X.1 X.2.1 dX10_rule_12 (by decide) ?_
    obtain ⟨rfl, rfl⟩ := Prod.mk.inj (Option.some.inj hm)
    exact hret _ _ _ _ hw dX10_rule_20
def m_X10_setsOf_L4 (x1 : Int32) (t : ST) (σ : Int32 × Int32) : Option ((Int32 × Int32) ⊕ (Int32)) := (fun (q_26 : Int32 × Int32) => un q_26 (fun y_1 y_2 => if ((1 : Int32) <<< ((t.1 4) &&& 31)) ≤ y_2 then some (.inr y_1) else Option.bind (m_X10_bitsIn y_2) (fun (r_13 : Int32) => if r_13 = x1 then Option.bind (m_X10_wanted t) (fun (r_18 : Int32) => Option.bind (m_X10_reaches t y_2 r_18) (fun (r_20 : Int32) => if r_20 = 0 then lt (y_1 + (0 : Int32)) (fun x_22 => lt (y_2 + 1) (fun x_23 => some (.inl (x_22, x_23)))) else lt (y_1 + (1 : Int32)) (fun x_24 => lt (y_2 + 1) (fun x_25 => some (.inl (x_24, x_25)))))) else lt (y_1 + (0 : Int32)) (fun x_15 => lt (y_2 + 1) (fun x_16 => some (.inl (x_15, x_16))))))) σ
def m_X10_setsOf (t : ST) (x1 : Int32) : Option (Int32) := Option.bind (vLoop (m_X10_setsOf_L4 x1 t) FUEL ((0 : Int32), (0 : Int32))) (fun (j_3 : Int32) => some j_3)
theorem yo_X10_setsOf : yX10_setsOf.cls = RX10 ∧ yX10_setsOf.cls ≠ "java/lang/invoke/MethodHandle" ∧ yX10_setsOf.cls ≠ "java/lang/invoke/VarHandle" ∧ (parseMethodDescriptor yX10_setsOf.desc).map (fun d => d.parameters.length) = some 1 := by decide +kernel
set_option maxHeartbeats 4000000 in
set_option maxRecDepth 100000 in
theorem c_X10_setsOf {l : Launch} {g : gT} {h : Nat → Nat} {t : ST} {x1 : Int32} {r : Int32} (hm : m_X10_setsOf t x1 = some r) : MetI l g yX10_setsOf cX10_setsOf 4 (some .int) 2 48 20 h (cM g h t) (cM g h t) [.ref (h 0), .int x1] r := by
  refine MetI.ofX (by decide +kernel) (Nat.le_of_ble_eq_true rfl) ?_
  intro p e s m below meth c AV Q X hret ls hw hl
  replace X : Cx g p s m AV c cX10_setsOf RX10 4 := X
  replace hl : lv_has ls 4 [(0, .ref (h 0)), (1, .int x1)] := hl
  unfold m_X10_setsOf at hm
  refine lv_iconst (v := 0) X.1 X.2.1 dX10_setsOf_0 (by decide) ?_
  refine lv_istore_n (lv' := [(2, .int (0 : Int32)), (0, .ref (h 0)), (1, .int x1)]) X.1 X.2.1 dX10_setsOf_1 rfl hl (by decide) rfl (fun ls hl => ?_)
  refine lv_iconst (v := 0) X.1 X.2.1 dX10_setsOf_2 (by decide) ?_
  refine lv_istore_n (lv' := [(3, .int (0 : Int32)), (2, .int (0 : Int32)), (0, .ref (h 0)), (1, .int x1)]) X.1 X.2.1 dX10_setsOf_3 rfl hl (by decide) rfl (fun ls hl => ?_)
  replace hm := ob_e hm
  obtain ⟨j_3, hL_9, hm⟩ := hm
  have J_8 : ∀ (H : Heap) (locs : List Loc) (ls : Array Slot), Wd g 20 h (cM g h t) s H locs → lv_has ls 4 [(2, .int j_3)] → W p l e (rW 2 48) s m AV below meth c H locs 0 0 Q (F0 m 48 ls []) := by
    intro H locs ls hw hl
    refine lv_iload_n X.1 X.2.1 dX10_setsOf_48 rfl (lv_at hl 0 rfl) ?_
    obtain rfl := Option.some.inj hm
    exact hret _ _ _ _ hw dX10_setsOf_49
  refine vLoop_ind (B := (m_X10_setsOf_L4 x1 t)) (fun σ => ∀ (H : Heap) (locs : List Loc) (ls : Array Slot), Wd g 20 h (cM g h t) s H locs → lv_has ls 4 [(0, .ref (h 0)), (1, .int x1), (2, .int σ.1), (3, .int σ.2)] → W p l e (rW 2 48) s m AV below meth c H locs 0 0 Q (F0 m 4 ls [])) (fun z' => z' = j_3) ?_ FUEL _ _ hL_9 rfl _ _ _ hw (lv_sub hl [2, 3, 1, 0] rfl)
  intro σ z_7 hz_4 hn_5 hx_6
  obtain ⟨y_1, y_2⟩ := σ
  intro H locs ls hw hl
  replace hw : Wd g 20 h (cM g h t) s H locs := hw
  replace hl : lv_has ls 4 [(0, .ref (h 0)), (1, .int x1), (2, .int y_1), (3, .int y_2)] := hl
  unfold m_X10_setsOf_L4 at hz_4
  replace hz_4 := un_e hz_4
  refine lv_iload_n X.1 X.2.1 dX10_setsOf_4 rfl (lv_at hl 3 rfl) ?_
  refine lv_iconst (v := 1) X.1 X.2.1 dX10_setsOf_5 (by decide) ?_
  refine lv_aload_n X.1 X.2.1 dX10_setsOf_6 rfl (lv_at hl 0 rfl) ?_
  refine gX10_links X hw wq_7_2 dX10_setsOf_7 ?_
  refine lv_ishl X.1 X.2.1 dX10_setsOf_10 ?_
  refine lv_icmp_ge (tgt := 48) X.1 X.2.1 dX10_setsOf_11 (by decide) (fun c_11 => ?_) (fun c_11 => ?_)
  · replace hz_4 := it_p hz_4 c_11
    obtain rfl := hx_6 _ (Option.some.inj hz_4).symm
    exact J_8 _ _ _ hw (lv_sub hl [2] rfl)
  · replace hz_4 := it_n hz_4 c_11
    refine lv_iload_n X.1 X.2.1 dX10_setsOf_14 rfl (lv_at hl 2 rfl) ?_
    refine lv_iload_n X.1 X.2.1 dX10_setsOf_15 rfl (lv_at hl 3 rfl) ?_
    replace hz_4 := ob_e hz_4
    obtain ⟨r_13, h_12, hz_4⟩ := hz_4
    refine k_Si (As := [.int y_2]) X hl.1 hw (c_X10_bitsIn h_12) ⟨wq_27_23, wq_28_0, wq_1_5, wq_28_1⟩ yo_X10_bitsIn rfl ⟨Nat.le_of_ble_eq_true rfl, Nat.le_of_ble_eq_true rfl⟩ (Nat.le_of_ble_eq_true rfl) dX10_setsOf_16 (fun H locs hw => ?_)
    refine lv_iload_n X.1 X.2.1 dX10_setsOf_19 rfl (lv_at hl 1 rfl) ?_
    refine lv_icmp_ne (tgt := 39) X.1 X.2.1 dX10_setsOf_20 (by decide) (fun c_14 => ?_) (fun c_14 => ?_)
    · replace hz_4 := it_n hz_4 c_14
      refine lv_iconst (v := 0) X.1 X.2.1 dX10_setsOf_39 (by decide) ?_
      refine lv_iadd X.1 X.2.1 dX10_setsOf_40 ?_
      refine lv_topi (fun x_15 ex_15 => ?_)
      replace hz_4 := lt_e hz_4 ex_15
      refine lv_istore_n (lv' := [(2, .int x_15), (0, .ref (h 0)), (1, .int x1), (3, .int y_2)]) X.1 X.2.1 dX10_setsOf_41 rfl hl (by decide) rfl (fun ls hl => ?_)
      obtain ⟨x_16, ex_16⟩ : ∃ y : Int32, y = y_2 + 1 := ⟨_, rfl⟩
      replace hz_4 := lt_e hz_4 ex_16
      refine lv_iinc (v := x_16) (lv' := [(3, .int x_16), (2, .int x_15), (0, .ref (h 0)), (1, .int x1)]) X.1 X.2.1 dX10_setsOf_42 hl (k := 3) rfl (by rw [ex_16]; rfl) (by decide) rfl (fun ls hl => ?_)
      refine lv_goto (tgt := 4) X.1 X.2.1 dX10_setsOf_45 (by decide) ?_
      exact hn_5 _ (Option.some.inj hz_4).symm _ _ _ hw (lv_sub hl [2, 3, 1, 0] rfl)
    · replace hz_4 := it_p hz_4 c_14
      refine lv_aload_n X.1 X.2.1 dX10_setsOf_23 rfl (lv_at hl 0 rfl) ?_
      refine lv_iload_n X.1 X.2.1 dX10_setsOf_24 rfl (lv_at hl 3 rfl) ?_
      refine lv_aload_n X.1 X.2.1 dX10_setsOf_25 rfl (lv_at hl 0 rfl) ?_
      replace hz_4 := ob_e hz_4
      obtain ⟨r_18, h_17, hz_4⟩ := hz_4
      refine k_Vi (k := 0) (As := []) X hl.1 hw (c_X10_wanted h_17) (by decide) (he_X10 g h _) rfl ⟨wq_18_8, wq_18_9, wq_18_10, wq_1_5, wq_18_11⟩ yo_X10_wanted rfl ⟨Nat.le_of_ble_eq_true rfl, Nat.le_of_ble_eq_true rfl⟩ (Nat.le_of_ble_eq_true rfl) dX10_setsOf_26 (fun H locs hw => ?_)
      replace hz_4 := ob_e hz_4
      obtain ⟨r_20, h_19, hz_4⟩ := hz_4
      refine k_Vi (k := 0) (As := [.int y_2, .int r_18]) X hl.1 hw (c_X10_reaches h_19) (by decide) (he_X10 g h _) rfl ⟨wq_31_2, wq_31_3, wq_31_4, wq_1_5, wq_31_5⟩ yo_X10_reaches rfl ⟨Nat.le_of_ble_eq_true rfl, Nat.le_of_ble_eq_true rfl⟩ (Nat.le_of_ble_eq_true rfl) dX10_setsOf_29 (fun H locs hw => ?_)
      refine lv_if_eq (tgt := 39) X.1 X.2.1 dX10_setsOf_32 (by decide) (fun c_21 => ?_) (fun c_21 => ?_)
      · replace hz_4 := it_p hz_4 c_21
        refine lv_iconst (v := 0) X.1 X.2.1 dX10_setsOf_39 (by decide) ?_
        refine lv_iadd X.1 X.2.1 dX10_setsOf_40 ?_
        refine lv_topi (fun x_22 ex_22 => ?_)
        replace hz_4 := lt_e hz_4 ex_22
        refine lv_istore_n (lv' := [(2, .int x_22), (0, .ref (h 0)), (1, .int x1), (3, .int y_2)]) X.1 X.2.1 dX10_setsOf_41 rfl hl (by decide) rfl (fun ls hl => ?_)
        obtain ⟨x_23, ex_23⟩ : ∃ y : Int32, y = y_2 + 1 := ⟨_, rfl⟩
        replace hz_4 := lt_e hz_4 ex_23
        refine lv_iinc (v := x_23) (lv' := [(3, .int x_23), (2, .int x_22), (0, .ref (h 0)), (1, .int x1)]) X.1 X.2.1 dX10_setsOf_42 hl (k := 3) rfl (by rw [ex_23]; rfl) (by decide) rfl (fun ls hl => ?_)
        refine lv_goto (tgt := 4) X.1 X.2.1 dX10_setsOf_45 (by decide) ?_
        exact hn_5 _ (Option.some.inj hz_4).symm _ _ _ hw (lv_sub hl [2, 3, 1, 0] rfl)
      · replace hz_4 := it_n hz_4 c_21
        refine lv_iconst (v := 1) X.1 X.2.1 dX10_setsOf_35 (by decide) ?_
        refine lv_goto (tgt := 40) X.1 X.2.1 dX10_setsOf_36 (by decide) ?_
        refine lv_iadd X.1 X.2.1 dX10_setsOf_40 ?_
        refine lv_topi (fun x_24 ex_24 => ?_)
        replace hz_4 := lt_e hz_4 ex_24
        refine lv_istore_n (lv' := [(2, .int x_24), (0, .ref (h 0)), (1, .int x1), (3, .int y_2)]) X.1 X.2.1 dX10_setsOf_41 rfl hl (by decide) rfl (fun ls hl => ?_)
        obtain ⟨x_25, ex_25⟩ : ∃ y : Int32, y = y_2 + 1 := ⟨_, rfl⟩
        replace hz_4 := lt_e hz_4 ex_25
        refine lv_iinc (v := x_25) (lv' := [(3, .int x_25), (2, .int x_24), (0, .ref (h 0)), (1, .int x1)]) X.1 X.2.1 dX10_setsOf_42 hl (k := 3) rfl (by rw [ex_25]; rfl) (by decide) rfl (fun ls hl => ?_)
        refine lv_goto (tgt := 4) X.1 X.2.1 dX10_setsOf_45 (by decide) ?_
        exact hn_5 _ (Option.some.inj hz_4).symm _ _ _ hw (lv_sub hl [2, 3, 1, 0] rfl)
