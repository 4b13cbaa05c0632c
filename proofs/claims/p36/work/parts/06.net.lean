def m_X1_isChance (x0 : Int64) (x2 : Int64) : Option (Int32) := if (lg_cmp x2 (1 : Int64)) < 0 then some (0 : Int32) else if 0 < (lg_cmp x2 (9 : Int64)) then some (0 : Int32) else if (lg_cmp x0 (0 : Int64)) < 0 then some (0 : Int32) else if 0 < (lg_cmp x0 x2) then some (0 : Int32) else some (1 : Int32)
theorem yo_X1_isChance : yX1_isChance.cls ≠ "java/lang/invoke/MethodHandle" ∧ yX1_isChance.cls ≠ "java/lang/invoke/VarHandle" ∧ (parseMethodDescriptor yX1_isChance.desc).map (fun d => d.parameters.length) = some 2 := by decide +kernel
set_option maxHeartbeats 4000000 in
set_option maxRecDepth 100000 in
theorem c_X1_isChance {l : Launch} {g : gT} {n : Nat} {h : Nat → Nat} {cel : Nat → va_E} {x0 : Int64} {x2 : Int64} {r : Int32} (hm : m_X1_isChance x0 x2 = some r) : MetI l g yX1_isChance cX1_isChance 4 (some .boolean) 0 0 n h (cel) (cel) [.long x0, .long x2] r := by
  refine MetZ.ofX (by decide +kernel) (Nat.le_of_ble_eq_true rfl) ?_
  intro p e s m below meth c AV Q X hret ls hw hl
  replace X : Cx g p s m AV c cX1_isChance RX1 4 := X
  replace hl : lv_has ls 4 [(0, .long x0), (2, .long x2)] := hl
  unfold m_X1_isChance at hm
  refine lv_lload_n X.1 X.2.1 dX1_isChance_0 rfl (lv_at hl 1 rfl) ?_
  refine lv_lconst (v := 1) X.1 X.2.1 dX1_isChance_1 (by decide) ?_
  refine W.lcmp X.1 X.2.1 dX1_isChance_2 ?_
  refine lv_if_lt (tgt := 30) X.1 X.2.1 dX1_isChance_3 (by decide) (fun c_1 => ?_) (fun c_1 => ?_)
  · replace hm := it_p hm c_1
    refine lv_iconst (v := 0) X.1 X.2.1 dX1_isChance_30 (by decide) ?_
    obtain rfl := Option.some.inj hm
    exact hret _ _ _ _ hw dX1_isChance_31 (Or.inl rfl)
  · replace hm := it_n hm c_1
    refine lv_lload_n X.1 X.2.1 dX1_isChance_6 rfl (lv_at hl 1 rfl) ?_
    refine lv_ldc2 (v := 9) X.1 X.2.1 X.2.2.2.1 (X.2.2.2.2.1 _ wq_6_22) dX1_isChance_7 ?_
    refine W.lcmp X.1 X.2.1 dX1_isChance_10 ?_
    refine lv_if_gt (tgt := 30) X.1 X.2.1 dX1_isChance_11 (by decide) (fun c_2 => ?_) (fun c_2 => ?_)
    · replace hm := it_p hm c_2
      refine lv_iconst (v := 0) X.1 X.2.1 dX1_isChance_30 (by decide) ?_
      obtain rfl := Option.some.inj hm
      exact hret _ _ _ _ hw dX1_isChance_31 (Or.inl rfl)
    · replace hm := it_n hm c_2
      refine lv_lload_n X.1 X.2.1 dX1_isChance_14 rfl (lv_at hl 0 rfl) ?_
      refine lv_lconst (v := 0) X.1 X.2.1 dX1_isChance_15 (by decide) ?_
      refine W.lcmp X.1 X.2.1 dX1_isChance_16 ?_
      refine lv_if_lt (tgt := 30) X.1 X.2.1 dX1_isChance_17 (by decide) (fun c_3 => ?_) (fun c_3 => ?_)
      · replace hm := it_p hm c_3
        refine lv_iconst (v := 0) X.1 X.2.1 dX1_isChance_30 (by decide) ?_
        obtain rfl := Option.some.inj hm
        exact hret _ _ _ _ hw dX1_isChance_31 (Or.inl rfl)
      · replace hm := it_n hm c_3
        refine lv_lload_n X.1 X.2.1 dX1_isChance_20 rfl (lv_at hl 0 rfl) ?_
        refine lv_lload_n X.1 X.2.1 dX1_isChance_21 rfl (lv_at hl 1 rfl) ?_
        refine W.lcmp X.1 X.2.1 dX1_isChance_22 ?_
        refine lv_if_gt (tgt := 30) X.1 X.2.1 dX1_isChance_23 (by decide) (fun c_4 => ?_) (fun c_4 => ?_)
        · replace hm := it_p hm c_4
          refine lv_iconst (v := 0) X.1 X.2.1 dX1_isChance_30 (by decide) ?_
          obtain rfl := Option.some.inj hm
          exact hret _ _ _ _ hw dX1_isChance_31 (Or.inl rfl)
        · replace hm := it_n hm c_4
          refine lv_iconst (v := 1) X.1 X.2.1 dX1_isChance_26 (by decide) ?_
          refine lv_goto (tgt := 31) X.1 X.2.1 dX1_isChance_27 (by decide) ?_
          obtain rfl := Option.some.inj hm
          exact hret _ _ _ _ hw dX1_isChance_31 (Or.inr rfl)
def m_X1_commonDivisor_L3 (σ : Int64 × Int64 × Int32) : Option ((Int64 × Int64 × Int32) ⊕ (Int64)) := (fun (q_17 : Int64 × Int64 × Int32) => un q_17 (fun y_1 q_17 => un q_17 (fun y_2 y_3 => if (100 : Int32) ≤ y_3 then some (.inr y_1) else if (lg_cmp y_2 (0 : Int64)) = 0 then some (.inr y_1) else gd (¬ y_2 = 0) (lt (y_1 - y_1 / y_2 * y_2) (fun x_15 => lt (y_3 + 1) (fun x_16 => some (.inl (y_2, x_15, x_16)))))))) σ
def m_X1_commonDivisor (x0 : Int64) (x2 : Int64) : Option (Int64) := Option.bind (vLoop (m_X1_commonDivisor_L3) FUEL (x0, x2, (0 : Int32))) (fun (j_4 : Int64) => some j_4)
theorem yo_X1_commonDivisor : yX1_commonDivisor.cls ≠ "java/lang/invoke/MethodHandle" ∧ yX1_commonDivisor.cls ≠ "java/lang/invoke/VarHandle" ∧ (parseMethodDescriptor yX1_commonDivisor.desc).map (fun d => d.parameters.length) = some 2 := by decide +kernel
set_option maxHeartbeats 4000000 in
set_option maxRecDepth 100000 in
theorem c_X1_commonDivisor {l : Launch} {g : gT} {n : Nat} {h : Nat → Nat} {cel : Nat → va_E} {x0 : Int64} {x2 : Int64} {r : Int64} (hm : m_X1_commonDivisor x0 x2 = some r) : MetL l g yX1_commonDivisor cX1_commonDivisor 7 (some .long) 0 0 n h (cel) (cel) [.long x0, .long x2] r := by
  refine MetL.ofX (by decide +kernel) (Nat.le_of_ble_eq_true rfl) ?_
  intro p e s m below meth c AV Q X hret ls hw hl
  replace X : Cx g p s m AV c cX1_commonDivisor RX1 7 := X
  replace hl : lv_has ls 7 [(0, .long x0), (2, .long x2)] := hl
  unfold m_X1_commonDivisor at hm
  refine lv_iconst (v := 0) X.1 X.2.1 dX1_commonDivisor_0 (by decide) ?_
  refine lv_istore (lv' := [(4, .int (0 : Int32)), (0, .long x0), (2, .long x2)]) X.1 X.2.1 dX1_commonDivisor_1 hl (by decide) rfl (fun ls hl => ?_)
  replace hm := ob_e hm
  obtain ⟨j_4, hL_10, hm⟩ := hm
  have J_9 : ∀ (H : Heap) (locs : List Loc) (ls : Array Slot), Wd g n h (cel) s H locs → lv_has ls 7 [(0, .long j_4)] → W p l e (rW 0 0) s m AV below meth c H locs 0 0 Q (F0 m 32 ls []) := by
    intro H locs ls hw hl
    refine lv_lload_n X.1 X.2.1 dX1_commonDivisor_32 rfl (lv_at hl 0 rfl) ?_
    obtain rfl := Option.some.inj hm
    exact hret _ _ _ _ hw dX1_commonDivisor_33
  refine vLoop_ind (B := (m_X1_commonDivisor_L3)) (fun σ => ∀ (H : Heap) (locs : List Loc) (ls : Array Slot), Wd g n h (cel) s H locs → lv_has ls 7 [(0, .long σ.1), (2, .long σ.2.1), (4, .int σ.2.2)] → W p l e (rW 0 0) s m AV below meth c H locs 0 0 Q (F0 m 3 ls [])) (fun z' => z' = j_4) ?_ FUEL _ _ hL_10 rfl _ _ _ hw (lv_sub hl [1, 2, 0] rfl)
  intro σ z_8 hz_5 hn_6 hx_7
  obtain ⟨y_1, y_2, y_3⟩ := σ
  intro H locs ls hw hl
  replace hw : Wd g n h (cel) s H locs := hw
  replace hl : lv_has ls 7 [(0, .long y_1), (2, .long y_2), (4, .int y_3)] := hl
  unfold m_X1_commonDivisor_L3 at hz_5
  replace hz_5 := un_e hz_5
  replace hz_5 := un_e hz_5
  refine lv_iload X.1 X.2.1 dX1_commonDivisor_3 (lv_at hl 2 rfl) ?_
  refine lv_bipush (v := 100) X.1 X.2.1 dX1_commonDivisor_5 (by decide) ?_
  refine lv_icmp_ge (tgt := 32) X.1 X.2.1 dX1_commonDivisor_7 (by decide) (fun c_12 => ?_) (fun c_12 => ?_)
  · replace hz_5 := it_p hz_5 c_12
    obtain rfl := hx_7 _ (Option.some.inj hz_5).symm
    exact J_9 _ _ _ hw (lv_sub hl [0] rfl)
  · replace hz_5 := it_n hz_5 c_12
    refine lv_lload_n X.1 X.2.1 dX1_commonDivisor_10 rfl (lv_at hl 1 rfl) ?_
    refine lv_lconst (v := 0) X.1 X.2.1 dX1_commonDivisor_11 (by decide) ?_
    refine W.lcmp X.1 X.2.1 dX1_commonDivisor_12 ?_
    refine lv_if_eq (tgt := 32) X.1 X.2.1 dX1_commonDivisor_13 (by decide) (fun c_13 => ?_) (fun c_13 => ?_)
    · replace hz_5 := it_p hz_5 c_13
      obtain rfl := hx_7 _ (Option.some.inj hz_5).symm
      exact J_9 _ _ _ hw (lv_sub hl [0] rfl)
    · replace hz_5 := it_n hz_5 c_13
      refine lv_lload_n X.1 X.2.1 dX1_commonDivisor_16 rfl (lv_at hl 0 rfl) ?_
      refine lv_lload_n X.1 X.2.1 dX1_commonDivisor_17 rfl (lv_at hl 1 rfl) ?_
      replace hz_5 := gd_e hz_5
      obtain ⟨g_14, hz_5⟩ := hz_5
      refine lv_lrem X.1 X.2.1 dX1_commonDivisor_18 g_14 ?_
      refine lv_topl (fun x_15 ex_15 => ?_)
      replace hz_5 := lt_e hz_5 ex_15
      refine lv_lstore (lv' := [(5, .long x_15), (0, .long y_1), (2, .long y_2), (4, .int y_3)]) X.1 X.2.1 dX1_commonDivisor_19 hl (by decide) rfl (fun ls hl => ?_)
      refine lv_lload_n X.1 X.2.1 dX1_commonDivisor_21 rfl (lv_at hl 2 rfl) ?_
      refine lv_lstore_n (lv' := [(0, .long y_2), (5, .long x_15), (2, .long y_2), (4, .int y_3)]) X.1 X.2.1 dX1_commonDivisor_22 rfl hl (by decide) rfl (fun ls hl => ?_)
      refine lv_lload X.1 X.2.1 dX1_commonDivisor_23 (lv_at hl 1 rfl) ?_
      refine lv_lstore_n (lv' := [(2, .long x_15), (0, .long y_2), (5, .long x_15), (4, .int y_3)]) X.1 X.2.1 dX1_commonDivisor_25 rfl hl (by decide) rfl (fun ls hl => ?_)
      obtain ⟨x_16, ex_16⟩ : ∃ y : Int32, y = y_3 + 1 := ⟨_, rfl⟩
      replace hz_5 := lt_e hz_5 ex_16
      refine lv_iinc (v := x_16) (lv' := [(4, .int x_16), (2, .long x_15), (0, .long y_2), (5, .long x_15)]) X.1 X.2.1 dX1_commonDivisor_26 hl (k := 3) rfl (by rw [ex_16]; rfl) (by decide) rfl (fun ls hl => ?_)
      refine lv_goto (tgt := 3) X.1 X.2.1 dX1_commonDivisor_29 (by decide) ?_
      exact hn_6 _ (Option.some.inj hz_5).symm _ _ _ hw (lv_sub hl [2, 1, 0] rfl)
def m_X1_told (x0 : Int64) (x2 : Int64) (x4 : Int32) : Option (Int64) := Option.bind (m_X1_commonDivisor x0 x2) (fun (r_2 : Int64) => if (lg_cmp r_2 (0 : Int64)) = 0 then some x4.toInt64 else if x4 = 0 then gd (¬ r_2 = 0) (some (x0 / r_2)) else gd (¬ r_2 = 0) (some (x2 / r_2)))
theorem yo_X1_told : yX1_told.cls ≠ "java/lang/invoke/MethodHandle" ∧ yX1_told.cls ≠ "java/lang/invoke/VarHandle" ∧ (parseMethodDescriptor yX1_told.desc).map (fun d => d.parameters.length) = some 3 := by decide +kernel
set_option maxHeartbeats 4000000 in
set_option maxRecDepth 100000 in
theorem c_X1_told {l : Launch} {g : gT} {n : Nat} {h : Nat → Nat} {cel : Nat → va_E} {x0 : Int64} {x2 : Int64} {x4 : Int32} {r : Int64} (hm : m_X1_told x0 x2 x4 = some r) : MetL l g yX1_told cX1_told 7 (some .long) 1 26 n h (cel) (cel) [.long x0, .long x2, .int x4] r := by
  refine MetL.ofX (by decide +kernel) (Nat.le_of_ble_eq_true rfl) ?_
  intro p e s m below meth c AV Q X hret ls hw hl
  replace X : Cx g p s m AV c cX1_told RX1 7 := X
  replace hl : lv_has ls 7 [(0, .long x0), (2, .long x2), (4, .int x4)] := hl
  unfold m_X1_told at hm
  refine lv_lload_n X.1 X.2.1 dX1_told_0 rfl (lv_at hl 0 rfl) ?_
  refine lv_lload_n X.1 X.2.1 dX1_told_1 rfl (lv_at hl 1 rfl) ?_
  replace hm := ob_e hm
  obtain ⟨r_2, h_1, hm⟩ := hm
  refine k_Sl (As := [.long x0, .long x2]) X hl.1 hw (c_X1_commonDivisor h_1) ⟨wq_14_10, wq_14_11, wq_6_20, wq_14_12⟩ yo_X1_commonDivisor rfl ⟨Nat.le_of_ble_eq_true rfl, Nat.le_of_ble_eq_true rfl⟩ (Nat.le_of_ble_eq_true rfl) dX1_told_2 (fun H locs hw => ?_)
  refine lv_lstore (lv' := [(5, .long r_2), (0, .long x0), (2, .long x2), (4, .int x4)]) X.1 X.2.1 dX1_told_5 hl (by decide) rfl (fun ls hl => ?_)
  refine lv_lload X.1 X.2.1 dX1_told_7 (lv_at hl 0 rfl) ?_
  refine lv_lconst (v := 0) X.1 X.2.1 dX1_told_9 (by decide) ?_
  refine W.lcmp X.1 X.2.1 dX1_told_10 ?_
  refine lv_if_ne (tgt := 18) X.1 X.2.1 dX1_told_11 (by decide) (fun c_3 => ?_) (fun c_3 => ?_)
  · replace hm := it_n hm c_3
    refine lv_iload X.1 X.2.1 dX1_told_18 (lv_at hl 3 rfl) ?_
    refine lv_if_ne (tgt := 27) X.1 X.2.1 dX1_told_20 (by decide) (fun c_4 => ?_) (fun c_4 => ?_)
    · replace hm := it_n hm c_4
      refine lv_lload_n X.1 X.2.1 dX1_told_27 rfl (lv_at hl 2 rfl) ?_
      refine lv_lload X.1 X.2.1 dX1_told_28 (lv_at hl 0 rfl) ?_
      replace hm := gd_e hm
      obtain ⟨g_5, hm⟩ := hm
      refine lv_ldiv X.1 X.2.1 dX1_told_30 g_5 ?_
      obtain rfl := Option.some.inj hm
      exact hret _ _ _ _ hw dX1_told_31
    · replace hm := it_p hm c_4
      refine lv_lload_n X.1 X.2.1 dX1_told_23 rfl (lv_at hl 1 rfl) ?_
      refine lv_goto (tgt := 28) X.1 X.2.1 dX1_told_24 (by decide) ?_
      refine lv_lload X.1 X.2.1 dX1_told_28 (lv_at hl 0 rfl) ?_
      replace hm := gd_e hm
      obtain ⟨g_6, hm⟩ := hm
      refine lv_ldiv X.1 X.2.1 dX1_told_30 g_6 ?_
      obtain rfl := Option.some.inj hm
      exact hret _ _ _ _ hw dX1_told_31
  · replace hm := it_p hm c_3
    refine lv_iload X.1 X.2.1 dX1_told_14 (lv_at hl 3 rfl) ?_
    refine lv_i2l X.1 X.2.1 dX1_told_16 rfl ?_
    obtain rfl := Option.some.inj hm
    exact hret _ _ _ _ hw dX1_told_17
def m_X2_renew (b : ST) (x1 : Int32) : Option (ST) := lt (wI b 0 x1) (fun b_1 => lt (wI b_1 1 (0 : Int32)) (fun b_2 => lt (wI b_2 2 (0 : Int32)) (fun b_3 => lt (wI b_3 3 (0 : Int32)) (fun b_4 => some b_4))))
theorem yo_X2_renew : yX2_renew.cls = RX2 ∧ yX2_renew.cls ≠ "java/lang/invoke/MethodHandle" ∧ yX2_renew.cls ≠ "java/lang/invoke/VarHandle" ∧ (parseMethodDescriptor yX2_renew.desc).map (fun d => d.parameters.length) = some 1 := by decide +kernel
set_option maxHeartbeats 4000000 in
set_option maxRecDepth 100000 in
theorem c_X2_renew {l : Launch} {g : gT} {h : Nat → Nat} {b : ST} {w : Nat → ST} {x1 : Int32} {b' : ST} (hm : m_X2_renew b x1 = some (b')) : MetV l g yX2_renew cX2_renew 2 none 0 0 79 h (cC g h (b, w)) (cC g h (b', w)) [.ref (h 1), .int x1] := by
  refine MetV.ofX (by decide +kernel) (Nat.le_of_ble_eq_true rfl) ?_
  intro p e s m below meth c AV Q X hret ls hw hl
  replace X : Cx g p s m AV c cX2_renew RX2 2 := X
  replace hl : lv_has ls 2 [(0, .ref (h 1)), (1, .int x1)] := hl
  unfold m_X2_renew at hm
  refine lv_aload_n X.1 X.2.1 dX2_renew_0 rfl (lv_at hl 0 rfl) ?_
  refine lv_iload_n X.1 X.2.1 dX2_renew_1 rfl (lv_at hl 1 rfl) ?_
  refine pX2_stationCount X hw wq_3_2 dX2_renew_2 (fun H locs hw => ?_)
  obtain ⟨b_1, eb_1⟩ : ∃ y, y = wI b 0 x1 := ⟨_, rfl⟩
  rw [← eb_1] at hw
  replace hm := lt_e hm eb_1
  refine lv_aload_n X.1 X.2.1 dX2_renew_5 rfl (lv_at hl 0 rfl) ?_
  refine lv_iconst (v := 0) X.1 X.2.1 dX2_renew_6 (by decide) ?_
  refine pX2_linkCount X hw wq_6_3 dX2_renew_7 (fun H locs hw => ?_)
  obtain ⟨b_2, eb_2⟩ : ∃ y, y = wI b_1 1 (0 : Int32) := ⟨_, rfl⟩
  rw [← eb_2] at hw
  replace hm := lt_e hm eb_2
  refine lv_aload_n X.1 X.2.1 dX2_renew_10 rfl (lv_at hl 0 rfl) ?_
  refine lv_iconst (v := 0) X.1 X.2.1 dX2_renew_11 (by decide) ?_
  refine pX2_source X hw wq_6_4 dX2_renew_12 (fun H locs hw => ?_)
  obtain ⟨b_3, eb_3⟩ : ∃ y, y = wI b_2 2 (0 : Int32) := ⟨_, rfl⟩
  rw [← eb_3] at hw
  replace hm := lt_e hm eb_3
  refine lv_aload_n X.1 X.2.1 dX2_renew_15 rfl (lv_at hl 0 rfl) ?_
  refine lv_iconst (v := 0) X.1 X.2.1 dX2_renew_16 (by decide) ?_
  refine pX2_goals X hw wq_6_5 dX2_renew_17 (fun H locs hw => ?_)
  obtain ⟨b_4, eb_4⟩ : ∃ y, y = wI b_3 3 (0 : Int32) := ⟨_, rfl⟩
  rw [← eb_4] at hw
  replace hm := lt_e hm eb_4
  obtain rfl := Option.some.inj hm
  exact hret _ _ _ _ hw dX2_renew_20
def m_X2_stationCount (b : ST) : Option (Int32) := some (b.1 0)
theorem yo_X2_stationCount : yX2_stationCount.cls = RX2 ∧ yX2_stationCount.cls ≠ "java/lang/invoke/MethodHandle" ∧ yX2_stationCount.cls ≠ "java/lang/invoke/VarHandle" ∧ (parseMethodDescriptor yX2_stationCount.desc).map (fun d => d.parameters.length) = some 0 := by decide +kernel
set_option maxHeartbeats 4000000 in
set_option maxRecDepth 100000 in
theorem c_X2_stationCount {l : Launch} {g : gT} {h : Nat → Nat} {b : ST} {w : Nat → ST} {r : Int32} (hm : m_X2_stationCount b = some r) : MetI l g yX2_stationCount cX2_stationCount 1 (some .int) 0 0 79 h (cC g h (b, w)) (cC g h (b, w)) [.ref (h 1)] r := by
  refine MetI.ofX (by decide +kernel) (Nat.le_of_ble_eq_true rfl) ?_
  intro p e s m below meth c AV Q X hret ls hw hl
  replace X : Cx g p s m AV c cX2_stationCount RX2 1 := X
  replace hl : lv_has ls 1 [(0, .ref (h 1))] := hl
  unfold m_X2_stationCount at hm
  refine lv_aload_n X.1 X.2.1 dX2_stationCount_0 rfl (lv_at hl 0 rfl) ?_
  refine gX2_stationCount X hw wq_3_2 dX2_stationCount_1 ?_
  obtain rfl := Option.some.inj hm
  exact hret _ _ _ _ hw dX2_stationCount_4
def m_X2_linkCount (b : ST) : Option (Int32) := some (b.1 1)
theorem yo_X2_linkCount : yX2_linkCount.cls = RX2 ∧ yX2_linkCount.cls ≠ "java/lang/invoke/MethodHandle" ∧ yX2_linkCount.cls ≠ "java/lang/invoke/VarHandle" ∧ (parseMethodDescriptor yX2_linkCount.desc).map (fun d => d.parameters.length) = some 0 := by decide +kernel
set_option maxHeartbeats 4000000 in
set_option maxRecDepth 100000 in
theorem c_X2_linkCount {l : Launch} {g : gT} {h : Nat → Nat} {b : ST} {w : Nat → ST} {r : Int32} (hm : m_X2_linkCount b = some r) : MetI l g yX2_linkCount cX2_linkCount 1 (some .int) 0 0 79 h (cC g h (b, w)) (cC g h (b, w)) [.ref (h 1)] r := by
  refine MetI.ofX (by decide +kernel) (Nat.le_of_ble_eq_true rfl) ?_
  intro p e s m below meth c AV Q X hret ls hw hl
  replace X : Cx g p s m AV c cX2_linkCount RX2 1 := X
  replace hl : lv_has ls 1 [(0, .ref (h 1))] := hl
  unfold m_X2_linkCount at hm
  refine lv_aload_n X.1 X.2.1 dX2_linkCount_0 rfl (lv_at hl 0 rfl) ?_
  refine gX2_linkCount X hw wq_6_3 dX2_linkCount_1 ?_
  obtain rfl := Option.some.inj hm
  exact hret _ _ _ _ hw dX2_linkCount_4
def m_X2_sourceStation (b : ST) : Option (Int32) := some (b.1 2)
theorem yo_X2_sourceStation : yX2_sourceStation.cls = RX2 ∧ yX2_sourceStation.cls ≠ "java/lang/invoke/MethodHandle" ∧ yX2_sourceStation.cls ≠ "java/lang/invoke/VarHandle" ∧ (parseMethodDescriptor yX2_sourceStation.desc).map (fun d => d.parameters.length) = some 0 := by decide +kernel
set_option maxHeartbeats 4000000 in
set_option maxRecDepth 100000 in
theorem c_X2_sourceStation {l : Launch} {g : gT} {h : Nat → Nat} {b : ST} {w : Nat → ST} {r : Int32} (hm : m_X2_sourceStation b = some r) : MetI l g yX2_sourceStation cX2_sourceStation 1 (some .int) 0 0 79 h (cC g h (b, w)) (cC g h (b, w)) [.ref (h 1)] r := by
  refine MetI.ofX (by decide +kernel) (Nat.le_of_ble_eq_true rfl) ?_
  intro p e s m below meth c AV Q X hret ls hw hl
  replace X : Cx g p s m AV c cX2_sourceStation RX2 1 := X
  replace hl : lv_has ls 1 [(0, .ref (h 1))] := hl
  unfold m_X2_sourceStation at hm
  refine lv_aload_n X.1 X.2.1 dX2_sourceStation_0 rfl (lv_at hl 0 rfl) ?_
  refine gX2_source X hw wq_6_4 dX2_sourceStation_1 ?_
  obtain rfl := Option.some.inj hm
  exact hret _ _ _ _ hw dX2_sourceStation_4
def m_X2_goalBits (b : ST) : Option (Int32) := some (b.1 3)
theorem yo_X2_goalBits : yX2_goalBits.cls = RX2 ∧ yX2_goalBits.cls ≠ "java/lang/invoke/MethodHandle" ∧ yX2_goalBits.cls ≠ "java/lang/invoke/VarHandle" ∧ (parseMethodDescriptor yX2_goalBits.desc).map (fun d => d.parameters.length) = some 0 := by decide +kernel
set_option maxHeartbeats 4000000 in
set_option maxRecDepth 100000 in
theorem c_X2_goalBits {l : Launch} {g : gT} {h : Nat → Nat} {b : ST} {w : Nat → ST} {r : Int32} (hm : m_X2_goalBits b = some r) : MetI l g yX2_goalBits cX2_goalBits 1 (some .int) 0 0 79 h (cC g h (b, w)) (cC g h (b, w)) [.ref (h 1)] r := by
  refine MetI.ofX (by decide +kernel) (Nat.le_of_ble_eq_true rfl) ?_
  intro p e s m below meth c AV Q X hret ls hw hl
  replace X : Cx g p s m AV c cX2_goalBits RX2 1 := X
  replace hl : lv_has ls 1 [(0, .ref (h 1))] := hl
  unfold m_X2_goalBits at hm
  refine lv_aload_n X.1 X.2.1 dX2_goalBits_0 rfl (lv_at hl 0 rfl) ?_
  refine gX2_goals X hw wq_6_5 dX2_goalBits_1 ?_
  obtain rfl := Option.some.inj hm
  exact hret _ _ _ _ hw dX2_goalBits_4
def m_X2_allStations (b : ST) : Option (Int32) := lt (((1 : Int32) <<< ((b.1 0) &&& 31)) - (1 : Int32)) (fun x_1 => some x_1)
theorem yo_X2_allStations : yX2_allStations.cls = RX2 ∧ yX2_allStations.cls ≠ "java/lang/invoke/MethodHandle" ∧ yX2_allStations.cls ≠ "java/lang/invoke/VarHandle" ∧ (parseMethodDescriptor yX2_allStations.desc).map (fun d => d.parameters.length) = some 0 := by decide +kernel
set_option maxHeartbeats 4000000 in
set_option maxRecDepth 100000 in
theorem c_X2_allStations {l : Launch} {g : gT} {h : Nat → Nat} {b : ST} {w : Nat → ST} {r : Int32} (hm : m_X2_allStations b = some r) : MetI l g yX2_allStations cX2_allStations 1 (some .int) 0 0 79 h (cC g h (b, w)) (cC g h (b, w)) [.ref (h 1)] r := by
  refine MetI.ofX (by decide +kernel) (Nat.le_of_ble_eq_true rfl) ?_
  intro p e s m below meth c AV Q X hret ls hw hl
  replace X : Cx g p s m AV c cX2_allStations RX2 1 := X
  replace hl : lv_has ls 1 [(0, .ref (h 1))] := hl
  unfold m_X2_allStations at hm
  refine lv_iconst (v := 1) X.1 X.2.1 dX2_allStations_0 (by decide) ?_
  refine lv_aload_n X.1 X.2.1 dX2_allStations_1 rfl (lv_at hl 0 rfl) ?_
  refine gX2_stationCount X hw wq_3_2 dX2_allStations_2 ?_
  refine lv_ishl X.1 X.2.1 dX2_allStations_5 ?_
  refine lv_iconst (v := 1) X.1 X.2.1 dX2_allStations_6 (by decide) ?_
  refine lv_isub X.1 X.2.1 dX2_allStations_7 ?_
  refine lv_topi (fun x_1 ex_1 => ?_)
  replace hm := lt_e hm ex_1
  obtain rfl := Option.some.inj hm
  exact hret _ _ _ _ hw dX2_allStations_8
def m_X2_allLinks (b : ST) : Option (Int32) := lt (((1 : Int32) <<< ((b.1 1) &&& 31)) - (1 : Int32)) (fun x_1 => some x_1)
theorem yo_X2_allLinks : yX2_allLinks.cls = RX2 ∧ yX2_allLinks.cls ≠ "java/lang/invoke/MethodHandle" ∧ yX2_allLinks.cls ≠ "java/lang/invoke/VarHandle" ∧ (parseMethodDescriptor yX2_allLinks.desc).map (fun d => d.parameters.length) = some 0 := by decide +kernel
set_option maxHeartbeats 4000000 in
set_option maxRecDepth 100000 in
theorem c_X2_allLinks {l : Launch} {g : gT} {h : Nat → Nat} {b : ST} {w : Nat → ST} {r : Int32} (hm : m_X2_allLinks b = some r) : MetI l g yX2_allLinks cX2_allLinks 1 (some .int) 0 0 79 h (cC g h (b, w)) (cC g h (b, w)) [.ref (h 1)] r := by
  refine MetI.ofX (by decide +kernel) (Nat.le_of_ble_eq_true rfl) ?_
  intro p e s m below meth c AV Q X hret ls hw hl
  replace X : Cx g p s m AV c cX2_allLinks RX2 1 := X
  replace hl : lv_has ls 1 [(0, .ref (h 1))] := hl
  unfold m_X2_allLinks at hm
  refine lv_iconst (v := 1) X.1 X.2.1 dX2_allLinks_0 (by decide) ?_
  refine lv_aload_n X.1 X.2.1 dX2_allLinks_1 rfl (lv_at hl 0 rfl) ?_
  refine gX2_linkCount X hw wq_6_3 dX2_allLinks_2 ?_
  refine lv_ishl X.1 X.2.1 dX2_allLinks_5 ?_
  refine lv_iconst (v := 1) X.1 X.2.1 dX2_allLinks_6 (by decide) ?_
  refine lv_isub X.1 X.2.1 dX2_allLinks_7 ?_
  refine lv_topi (fun x_1 ex_1 => ?_)
  replace hm := lt_e hm ex_1
  obtain rfl := Option.some.inj hm
  exact hret _ _ _ _ hw dX2_allLinks_8
def m_X2_wantedStations (b : ST) : Option (Int32) := lt ((b.1 3) ||| ((1 : Int32) <<< ((b.1 2) &&& 31))) (fun x_1 => some x_1)
theorem yo_X2_wantedStations : yX2_wantedStations.cls = RX2 ∧ yX2_wantedStations.cls ≠ "java/lang/invoke/MethodHandle" ∧ yX2_wantedStations.cls ≠ "java/lang/invoke/VarHandle" ∧ (parseMethodDescriptor yX2_wantedStations.desc).map (fun d => d.parameters.length) = some 0 := by decide +kernel
set_option maxHeartbeats 4000000 in
set_option maxRecDepth 100000 in
theorem c_X2_wantedStations {l : Launch} {g : gT} {h : Nat → Nat} {b : ST} {w : Nat → ST} {r : Int32} (hm : m_X2_wantedStations b = some r) : MetI l g yX2_wantedStations cX2_wantedStations 1 (some .int) 0 0 79 h (cC g h (b, w)) (cC g h (b, w)) [.ref (h 1)] r := by
  refine MetI.ofX (by decide +kernel) (Nat.le_of_ble_eq_true rfl) ?_
  intro p e s m below meth c AV Q X hret ls hw hl
  replace X : Cx g p s m AV c cX2_wantedStations RX2 1 := X
  replace hl : lv_has ls 1 [(0, .ref (h 1))] := hl
  unfold m_X2_wantedStations at hm
  refine lv_aload_n X.1 X.2.1 dX2_wantedStations_0 rfl (lv_at hl 0 rfl) ?_
  refine gX2_goals X hw wq_6_5 dX2_wantedStations_1 ?_
  refine lv_iconst (v := 1) X.1 X.2.1 dX2_wantedStations_4 (by decide) ?_
  refine lv_aload_n X.1 X.2.1 dX2_wantedStations_5 rfl (lv_at hl 0 rfl) ?_
  refine gX2_source X hw wq_6_4 dX2_wantedStations_6 ?_
  refine lv_ishl X.1 X.2.1 dX2_wantedStations_9 ?_
  refine lv_ior X.1 X.2.1 dX2_wantedStations_10 ?_
  refine lv_topi (fun x_1 ex_1 => ?_)
  replace hm := lt_e hm ex_1
  obtain rfl := Option.some.inj hm
  exact hret _ _ _ _ hw dX2_wantedStations_11
def m_X2_hasStation (b : ST) (x1 : Int64) : Option (Int32) := if (lg_cmp x1 (0 : Int64)) < 0 then some (0 : Int32) else if 0 ≤ (lg_cmp x1 ((b.1 0).toInt64)) then some (0 : Int32) else some (1 : Int32)
theorem yo_X2_hasStation : yX2_hasStation.cls = RX2 ∧ yX2_hasStation.cls ≠ "java/lang/invoke/MethodHandle" ∧ yX2_hasStation.cls ≠ "java/lang/invoke/VarHandle" ∧ (parseMethodDescriptor yX2_hasStation.desc).map (fun d => d.parameters.length) = some 1 := by decide +kernel
set_option maxHeartbeats 4000000 in
set_option maxRecDepth 100000 in
theorem c_X2_hasStation {l : Launch} {g : gT} {h : Nat → Nat} {b : ST} {w : Nat → ST} {x1 : Int64} {r : Int32} (hm : m_X2_hasStation b x1 = some r) : MetI l g yX2_hasStation cX2_hasStation 3 (some .boolean) 0 0 79 h (cC g h (b, w)) (cC g h (b, w)) [.ref (h 1), .long x1] r := by
  refine MetZ.ofX (by decide +kernel) (Nat.le_of_ble_eq_true rfl) ?_
  intro p e s m below meth c AV Q X hret ls hw hl
  replace X : Cx g p s m AV c cX2_hasStation RX2 3 := X
  replace hl : lv_has ls 3 [(0, .ref (h 1)), (1, .long x1)] := hl
  unfold m_X2_hasStation at hm
  refine lv_lload_n X.1 X.2.1 dX2_hasStation_0 rfl (lv_at hl 1 rfl) ?_
  refine lv_lconst (v := 0) X.1 X.2.1 dX2_hasStation_1 (by decide) ?_
  refine W.lcmp X.1 X.2.1 dX2_hasStation_2 ?_
  refine lv_if_lt (tgt := 20) X.1 X.2.1 dX2_hasStation_3 (by decide) (fun c_1 => ?_) (fun c_1 => ?_)
  · replace hm := it_p hm c_1
    refine lv_iconst (v := 0) X.1 X.2.1 dX2_hasStation_20 (by decide) ?_
    obtain rfl := Option.some.inj hm
    exact hret _ _ _ _ hw dX2_hasStation_21 (Or.inl rfl)
  · replace hm := it_n hm c_1
    refine lv_lload_n X.1 X.2.1 dX2_hasStation_6 rfl (lv_at hl 1 rfl) ?_
    refine lv_aload_n X.1 X.2.1 dX2_hasStation_7 rfl (lv_at hl 0 rfl) ?_
    refine gX2_stationCount X hw wq_3_2 dX2_hasStation_8 ?_
    refine lv_i2l X.1 X.2.1 dX2_hasStation_11 rfl ?_
    refine W.lcmp X.1 X.2.1 dX2_hasStation_12 ?_
    refine lv_if_ge (tgt := 20) X.1 X.2.1 dX2_hasStation_13 (by decide) (fun c_2 => ?_) (fun c_2 => ?_)
    · replace hm := it_p hm c_2
      refine lv_iconst (v := 0) X.1 X.2.1 dX2_hasStation_20 (by decide) ?_
      obtain rfl := Option.some.inj hm
      exact hret _ _ _ _ hw dX2_hasStation_21 (Or.inl rfl)
    · replace hm := it_n hm c_2
      refine lv_iconst (v := 1) X.1 X.2.1 dX2_hasStation_16 (by decide) ?_
      refine lv_goto (tgt := 21) X.1 X.2.1 dX2_hasStation_17 (by decide) ?_
      obtain rfl := Option.some.inj hm
      exact hret _ _ _ _ hw dX2_hasStation_21 (Or.inr rfl)
def m_X2_hasLink (b : ST) (x1 : Int32) : Option (Int32) := if x1 < 0 then some (0 : Int32) else if (b.1 1) ≤ x1 then some (0 : Int32) else if (10 : Int32) ≤ x1 then some (0 : Int32) else some (1 : Int32)
theorem yo_X2_hasLink : yX2_hasLink.cls = RX2 ∧ yX2_hasLink.cls ≠ "java/lang/invoke/MethodHandle" ∧ yX2_hasLink.cls ≠ "java/lang/invoke/VarHandle" ∧ (parseMethodDescriptor yX2_hasLink.desc).map (fun d => d.parameters.length) = some 1 := by decide +kernel
set_option maxHeartbeats 4000000 in
set_option maxRecDepth 100000 in
theorem c_X2_hasLink {l : Launch} {g : gT} {h : Nat → Nat} {b : ST} {w : Nat → ST} {x1 : Int32} {r : Int32} (hm : m_X2_hasLink b x1 = some r) : MetI l g yX2_hasLink cX2_hasLink 2 (some .boolean) 0 0 79 h (cC g h (b, w)) (cC g h (b, w)) [.ref (h 1), .int x1] r := by
  refine MetZ.ofX (by decide +kernel) (Nat.le_of_ble_eq_true rfl) ?_
  intro p e s m below meth c AV Q X hret ls hw hl
  replace X : Cx g p s m AV c cX2_hasLink RX2 2 := X
  replace hl : lv_has ls 2 [(0, .ref (h 1)), (1, .int x1)] := hl
  unfold m_X2_hasLink at hm
  refine lv_iload_n X.1 X.2.1 dX2_hasLink_0 rfl (lv_at hl 1 rfl) ?_
  refine lv_if_lt (tgt := 22) X.1 X.2.1 dX2_hasLink_1 (by decide) (fun c_1 => ?_) (fun c_1 => ?_)
  · replace hm := it_p hm c_1
    refine lv_iconst (v := 0) X.1 X.2.1 dX2_hasLink_22 (by decide) ?_
    obtain rfl := Option.some.inj hm
    exact hret _ _ _ _ hw dX2_hasLink_23 (Or.inl rfl)
  · replace hm := it_n hm c_1
    refine lv_iload_n X.1 X.2.1 dX2_hasLink_4 rfl (lv_at hl 1 rfl) ?_
    refine lv_aload_n X.1 X.2.1 dX2_hasLink_5 rfl (lv_at hl 0 rfl) ?_
    refine gX2_linkCount X hw wq_6_3 dX2_hasLink_6 ?_
    refine lv_icmp_ge (tgt := 22) X.1 X.2.1 dX2_hasLink_9 (by decide) (fun c_2 => ?_) (fun c_2 => ?_)
    · replace hm := it_p hm c_2
      refine lv_iconst (v := 0) X.1 X.2.1 dX2_hasLink_22 (by decide) ?_
      obtain rfl := Option.some.inj hm
      exact hret _ _ _ _ hw dX2_hasLink_23 (Or.inl rfl)
    · replace hm := it_n hm c_2
      refine lv_iload_n X.1 X.2.1 dX2_hasLink_12 rfl (lv_at hl 1 rfl) ?_
      refine lv_bipush (v := 10) X.1 X.2.1 dX2_hasLink_13 (by decide) ?_
      refine lv_icmp_ge (tgt := 22) X.1 X.2.1 dX2_hasLink_15 (by decide) (fun c_3 => ?_) (fun c_3 => ?_)
      · replace hm := it_p hm c_3
        refine lv_iconst (v := 0) X.1 X.2.1 dX2_hasLink_22 (by decide) ?_
        obtain rfl := Option.some.inj hm
        exact hret _ _ _ _ hw dX2_hasLink_23 (Or.inl rfl)
      · replace hm := it_n hm c_3
        refine lv_iconst (v := 1) X.1 X.2.1 dX2_hasLink_18 (by decide) ?_
        refine lv_goto (tgt := 23) X.1 X.2.1 dX2_hasLink_19 (by decide) ?_
        obtain rfl := Option.some.inj hm
        exact hret _ _ _ _ hw dX2_hasLink_23 (Or.inr rfl)
def m_X2_hasRoom (b : ST) : Option (Int32) := if (10 : Int32) ≤ (b.1 1) then some (0 : Int32) else some (1 : Int32)
theorem yo_X2_hasRoom : yX2_hasRoom.cls = RX2 ∧ yX2_hasRoom.cls ≠ "java/lang/invoke/MethodHandle" ∧ yX2_hasRoom.cls ≠ "java/lang/invoke/VarHandle" ∧ (parseMethodDescriptor yX2_hasRoom.desc).map (fun d => d.parameters.length) = some 0 := by decide +kernel
set_option maxHeartbeats 4000000 in
set_option maxRecDepth 100000 in
theorem c_X2_hasRoom {l : Launch} {g : gT} {h : Nat → Nat} {b : ST} {w : Nat → ST} {r : Int32} (hm : m_X2_hasRoom b = some r) : MetI l g yX2_hasRoom cX2_hasRoom 1 (some .boolean) 0 0 79 h (cC g h (b, w)) (cC g h (b, w)) [.ref (h 1)] r := by
  refine MetZ.ofX (by decide +kernel) (Nat.le_of_ble_eq_true rfl) ?_
  intro p e s m below meth c AV Q X hret ls hw hl
  replace X : Cx g p s m AV c cX2_hasRoom RX2 1 := X
  replace hl : lv_has ls 1 [(0, .ref (h 1))] := hl
  unfold m_X2_hasRoom at hm
  refine lv_aload_n X.1 X.2.1 dX2_hasRoom_0 rfl (lv_at hl 0 rfl) ?_
  refine gX2_linkCount X hw wq_6_3 dX2_hasRoom_1 ?_
  refine lv_bipush (v := 10) X.1 X.2.1 dX2_hasRoom_4 (by decide) ?_
  refine lv_icmp_ge (tgt := 13) X.1 X.2.1 dX2_hasRoom_6 (by decide) (fun c_1 => ?_) (fun c_1 => ?_)
  · replace hm := it_p hm c_1
    refine lv_iconst (v := 0) X.1 X.2.1 dX2_hasRoom_13 (by decide) ?_
    obtain rfl := Option.some.inj hm
    exact hret _ _ _ _ hw dX2_hasRoom_14 (Or.inl rfl)
  · replace hm := it_n hm c_1
    refine lv_iconst (v := 1) X.1 X.2.1 dX2_hasRoom_9 (by decide) ?_
    refine lv_goto (tgt := 14) X.1 X.2.1 dX2_hasRoom_10 (by decide) ?_
    obtain rfl := Option.some.inj hm
    exact hret _ _ _ _ hw dX2_hasRoom_14 (Or.inr rfl)
def m_X2_mayLink (b : ST) (x1 : Int64) (x3 : Int64) (x5 : Int64) (x7 : Int64) : Option (Int32) := Option.bind (m_X2_hasStation b x1) (fun (r_2 : Int32) => if r_2 = 0 then some (0 : Int32) else Option.bind (m_X2_hasStation b x3) (fun (r_5 : Int32) => if r_5 = 0 then some (0 : Int32) else if (lg_cmp x1 x3) = 0 then some (0 : Int32) else Option.bind (m_X1_isChance x5 x7) (fun (r_9 : Int32) => if r_9 = 0 then some (0 : Int32) else some (1 : Int32))))
theorem yo_X2_mayLink : yX2_mayLink.cls = RX2 ∧ yX2_mayLink.cls ≠ "java/lang/invoke/MethodHandle" ∧ yX2_mayLink.cls ≠ "java/lang/invoke/VarHandle" ∧ (parseMethodDescriptor yX2_mayLink.desc).map (fun d => d.parameters.length) = some 4 := by decide +kernel
set_option maxHeartbeats 4000000 in
set_option maxRecDepth 100000 in
theorem c_X2_mayLink {l : Launch} {g : gT} {h : Nat → Nat} {b : ST} {w : Nat → ST} {x1 : Int64} {x3 : Int64} {x5 : Int64} {x7 : Int64} {r : Int32} (hm : m_X2_mayLink b x1 x3 x5 x7 = some r) : MetI l g yX2_mayLink cX2_mayLink 9 (some .boolean) 1 23 79 h (cC g h (b, w)) (cC g h (b, w)) [.ref (h 1), .long x1, .long x3, .long x5, .long x7] r := by
  refine MetZ.ofX (by decide +kernel) (Nat.le_of_ble_eq_true rfl) ?_
  intro p e s m below meth c AV Q X hret ls hw hl
  replace X : Cx g p s m AV c cX2_mayLink RX2 9 := X
  replace hl : lv_has ls 9 [(0, .ref (h 1)), (1, .long x1), (3, .long x3), (5, .long x5), (7, .long x7)] := hl
  unfold m_X2_mayLink at hm
  refine lv_aload_n X.1 X.2.1 dX2_mayLink_0 rfl (lv_at hl 0 rfl) ?_
  refine lv_lload_n X.1 X.2.1 dX2_mayLink_1 rfl (lv_at hl 1 rfl) ?_
  replace hm := ob_e hm
  obtain ⟨r_2, h_1, hm⟩ := hm
  refine k_Vi (k := 1) (As := [.long x1]) X hl.1 hw (c_X2_hasStation h_1) (by decide) (he_X2 g h _ _) rfl ⟨wq_6_14, wq_6_15, wq_6_16, wq_1_13, wq_6_17⟩ yo_X2_hasStation rfl ⟨Nat.le_of_ble_eq_true rfl, Nat.le_of_ble_eq_true rfl⟩ (Nat.le_of_ble_eq_true rfl) dX2_mayLink_2 (fun H locs hw => ?_)
  refine lv_if_eq (tgt := 36) X.1 X.2.1 dX2_mayLink_5 (by decide) (fun c_3 => ?_) (fun c_3 => ?_)
  · replace hm := it_p hm c_3
    refine lv_iconst (v := 0) X.1 X.2.1 dX2_mayLink_36 (by decide) ?_
    obtain rfl := Option.some.inj hm
    exact hret _ _ _ _ hw dX2_mayLink_37 (Or.inl rfl)
  · replace hm := it_n hm c_3
    refine lv_aload_n X.1 X.2.1 dX2_mayLink_8 rfl (lv_at hl 0 rfl) ?_
    refine lv_lload_n X.1 X.2.1 dX2_mayLink_9 rfl (lv_at hl 2 rfl) ?_
    replace hm := ob_e hm
    obtain ⟨r_5, h_4, hm⟩ := hm
    refine k_Vi (k := 1) (As := [.long x3]) X hl.1 hw (c_X2_hasStation h_4) (by decide) (he_X2 g h _ _) rfl ⟨wq_6_14, wq_6_15, wq_6_16, wq_1_13, wq_6_17⟩ yo_X2_hasStation rfl ⟨Nat.le_of_ble_eq_true rfl, Nat.le_of_ble_eq_true rfl⟩ (Nat.le_of_ble_eq_true rfl) dX2_mayLink_10 (fun H locs hw => ?_)
    refine lv_if_eq (tgt := 36) X.1 X.2.1 dX2_mayLink_13 (by decide) (fun c_6 => ?_) (fun c_6 => ?_)
    · replace hm := it_p hm c_6
      refine lv_iconst (v := 0) X.1 X.2.1 dX2_mayLink_36 (by decide) ?_
      obtain rfl := Option.some.inj hm
      exact hret _ _ _ _ hw dX2_mayLink_37 (Or.inl rfl)
    · replace hm := it_n hm c_6
      refine lv_lload_n X.1 X.2.1 dX2_mayLink_16 rfl (lv_at hl 1 rfl) ?_
      refine lv_lload_n X.1 X.2.1 dX2_mayLink_17 rfl (lv_at hl 2 rfl) ?_
      refine W.lcmp X.1 X.2.1 dX2_mayLink_18 ?_
      refine lv_if_eq (tgt := 36) X.1 X.2.1 dX2_mayLink_19 (by decide) (fun c_7 => ?_) (fun c_7 => ?_)
      · replace hm := it_p hm c_7
        refine lv_iconst (v := 0) X.1 X.2.1 dX2_mayLink_36 (by decide) ?_
        obtain rfl := Option.some.inj hm
        exact hret _ _ _ _ hw dX2_mayLink_37 (Or.inl rfl)
      · replace hm := it_n hm c_7
        refine lv_lload X.1 X.2.1 dX2_mayLink_22 (lv_at hl 3 rfl) ?_
        refine lv_lload X.1 X.2.1 dX2_mayLink_24 (lv_at hl 4 rfl) ?_
        replace hm := ob_e hm
        obtain ⟨r_9, h_8, hm⟩ := hm
        refine k_Si (As := [.long x5, .long x7]) X hl.1 hw (c_X1_isChance h_8) ⟨wq_6_18, wq_6_19, wq_6_20, wq_6_21⟩ yo_X1_isChance rfl ⟨Nat.le_of_ble_eq_true rfl, Nat.le_of_ble_eq_true rfl⟩ (Nat.le_of_ble_eq_true rfl) dX2_mayLink_26 (fun H locs hw => ?_)
        refine lv_if_eq (tgt := 36) X.1 X.2.1 dX2_mayLink_29 (by decide) (fun c_10 => ?_) (fun c_10 => ?_)
        · replace hm := it_p hm c_10
          refine lv_iconst (v := 0) X.1 X.2.1 dX2_mayLink_36 (by decide) ?_
          obtain rfl := Option.some.inj hm
          exact hret _ _ _ _ hw dX2_mayLink_37 (Or.inl rfl)
        · replace hm := it_n hm c_10
          refine lv_iconst (v := 1) X.1 X.2.1 dX2_mayLink_32 (by decide) ?_
          refine lv_goto (tgt := 37) X.1 X.2.1 dX2_mayLink_33 (by decide) ?_
          obtain rfl := Option.some.inj hm
          exact hret _ _ _ _ hw dX2_mayLink_37 (Or.inr rfl)
def m_X2_lesserOf (b : ST) (x1 : Int32) : Option (Int32) := Option.bind (m_X2_hasLink b x1) (fun (r_2 : Int32) => if r_2 = 0 then some (0 : Int32) else gd (¬ (x1 < 0 ∨ 10 ≤ x1.toNatClampNeg)) (some (b.2.2.1 0 x1.toNatClampNeg)))
theorem yo_X2_lesserOf : yX2_lesserOf.cls = RX2 ∧ yX2_lesserOf.cls ≠ "java/lang/invoke/MethodHandle" ∧ yX2_lesserOf.cls ≠ "java/lang/invoke/VarHandle" ∧ (parseMethodDescriptor yX2_lesserOf.desc).map (fun d => d.parameters.length) = some 1 := by decide +kernel
set_option maxHeartbeats 4000000 in
set_option maxRecDepth 100000 in
theorem c_X2_lesserOf {l : Launch} {g : gT} {h : Nat → Nat} {b : ST} {w : Nat → ST} {x1 : Int32} {r : Int32} (hm : m_X2_lesserOf b x1 = some r) : MetI l g yX2_lesserOf cX2_lesserOf 2 (some .int) 1 21 79 h (cC g h (b, w)) (cC g h (b, w)) [.ref (h 1), .int x1] r := by
  refine MetI.ofX (by decide +kernel) (Nat.le_of_ble_eq_true rfl) ?_
  intro p e s m below meth c AV Q X hret ls hw hl
  replace X : Cx g p s m AV c cX2_lesserOf RX2 2 := X
  replace hl : lv_has ls 2 [(0, .ref (h 1)), (1, .int x1)] := hl
  unfold m_X2_lesserOf at hm
  refine lv_aload_n X.1 X.2.1 dX2_lesserOf_0 rfl (lv_at hl 0 rfl) ?_
  refine lv_iload_n X.1 X.2.1 dX2_lesserOf_1 rfl (lv_at hl 1 rfl) ?_
  replace hm := ob_e hm
  obtain ⟨r_2, h_1, hm⟩ := hm
  refine k_Vi (k := 1) (As := [.int x1]) X hl.1 hw (c_X2_hasLink h_1) (by decide) (he_X2 g h _ _) rfl ⟨wq_7_22, wq_7_23, wq_8_0, wq_1_13, wq_8_1⟩ yo_X2_hasLink rfl ⟨Nat.le_of_ble_eq_true rfl, Nat.le_of_ble_eq_true rfl⟩ (Nat.le_of_ble_eq_true rfl) dX2_lesserOf_2 (fun H locs hw => ?_)
  refine lv_if_eq (tgt := 17) X.1 X.2.1 dX2_lesserOf_5 (by decide) (fun c_3 => ?_) (fun c_3 => ?_)
  · replace hm := it_p hm c_3
    refine lv_iconst (v := 0) X.1 X.2.1 dX2_lesserOf_17 (by decide) ?_
    obtain rfl := Option.some.inj hm
    exact hret _ _ _ _ hw dX2_lesserOf_18
  · replace hm := it_n hm c_3
    refine lv_aload_n X.1 X.2.1 dX2_lesserOf_8 rfl (lv_at hl 0 rfl) ?_
    refine gX2_lessers X hw wq_2_19 dX2_lesserOf_9 ?_
    refine lv_iload_n X.1 X.2.1 dX2_lesserOf_12 rfl (lv_at hl 1 rfl) ?_
    replace hm := gd_e hm
    obtain ⟨g_4, hm⟩ := hm
    refine lA0 X hw g_4 dX2_lesserOf_13 ?_
    refine lv_goto (tgt := 18) X.1 X.2.1 dX2_lesserOf_14 (by decide) ?_
    obtain rfl := Option.some.inj hm
    exact hret _ _ _ _ hw dX2_lesserOf_18
def m_X2_greaterOf (b : ST) (x1 : Int32) : Option (Int32) := Option.bind (m_X2_hasLink b x1) (fun (r_2 : Int32) => if r_2 = 0 then some (0 : Int32) else gd (¬ (x1 < 0 ∨ 10 ≤ x1.toNatClampNeg)) (some (b.2.2.1 1 x1.toNatClampNeg)))
theorem yo_X2_greaterOf : yX2_greaterOf.cls = RX2 ∧ yX2_greaterOf.cls ≠ "java/lang/invoke/MethodHandle" ∧ yX2_greaterOf.cls ≠ "java/lang/invoke/VarHandle" ∧ (parseMethodDescriptor yX2_greaterOf.desc).map (fun d => d.parameters.length) = some 1 := by decide +kernel
set_option maxHeartbeats 4000000 in
set_option maxRecDepth 100000 in
theorem c_X2_greaterOf {l : Launch} {g : gT} {h : Nat → Nat} {b : ST} {w : Nat → ST} {x1 : Int32} {r : Int32} (hm : m_X2_greaterOf b x1 = some r) : MetI l g yX2_greaterOf cX2_greaterOf 2 (some .int) 1 21 79 h (cC g h (b, w)) (cC g h (b, w)) [.ref (h 1), .int x1] r := by
  refine MetI.ofX (by decide +kernel) (Nat.le_of_ble_eq_true rfl) ?_
  intro p e s m below meth c AV Q X hret ls hw hl
  replace X : Cx g p s m AV c cX2_greaterOf RX2 2 := X
  replace hl : lv_has ls 2 [(0, .ref (h 1)), (1, .int x1)] := hl
  unfold m_X2_greaterOf at hm
  refine lv_aload_n X.1 X.2.1 dX2_greaterOf_0 rfl (lv_at hl 0 rfl) ?_
  refine lv_iload_n X.1 X.2.1 dX2_greaterOf_1 rfl (lv_at hl 1 rfl) ?_
  replace hm := ob_e hm
  obtain ⟨r_2, h_1, hm⟩ := hm
  refine k_Vi (k := 1) (As := [.int x1]) X hl.1 hw (c_X2_hasLink h_1) (by decide) (he_X2 g h _ _) rfl ⟨wq_7_22, wq_7_23, wq_8_0, wq_1_13, wq_8_1⟩ yo_X2_hasLink rfl ⟨Nat.le_of_ble_eq_true rfl, Nat.le_of_ble_eq_true rfl⟩ (Nat.le_of_ble_eq_true rfl) dX2_greaterOf_2 (fun H locs hw => ?_)
  refine lv_if_eq (tgt := 17) X.1 X.2.1 dX2_greaterOf_5 (by decide) (fun c_3 => ?_) (fun c_3 => ?_)
  · replace hm := it_p hm c_3
    refine lv_iconst (v := 0) X.1 X.2.1 dX2_greaterOf_17 (by decide) ?_
    obtain rfl := Option.some.inj hm
    exact hret _ _ _ _ hw dX2_greaterOf_18
  · replace hm := it_n hm c_3
    refine lv_aload_n X.1 X.2.1 dX2_greaterOf_8 rfl (lv_at hl 0 rfl) ?_
    refine gX2_greaters X hw wq_2_20 dX2_greaterOf_9 ?_
    refine lv_iload_n X.1 X.2.1 dX2_greaterOf_12 rfl (lv_at hl 1 rfl) ?_
    replace hm := gd_e hm
    obtain ⟨g_4, hm⟩ := hm
    refine lA1 X hw g_4 dX2_greaterOf_13 ?_
    refine lv_goto (tgt := 18) X.1 X.2.1 dX2_greaterOf_14 (by decide) ?_
    obtain rfl := Option.some.inj hm
    exact hret _ _ _ _ hw dX2_greaterOf_18
def m_X2_stationsIn (x0 : Int64) (x2 : Int32) : Option (Int32) := lt ((x0.toUInt64 >>> (((7 : Int32) * x2).toInt64.toUInt64 &&& Int64.toUInt64 63)).toInt64.toInt32 &&& (127 : Int32)) (fun x_1 => some x_1)
theorem yo_X2_stationsIn : yX2_stationsIn.cls ≠ "java/lang/invoke/MethodHandle" ∧ yX2_stationsIn.cls ≠ "java/lang/invoke/VarHandle" ∧ (parseMethodDescriptor yX2_stationsIn.desc).map (fun d => d.parameters.length) = some 2 := by decide +kernel
set_option maxHeartbeats 4000000 in
set_option maxRecDepth 100000 in
theorem c_X2_stationsIn {l : Launch} {g : gT} {n : Nat} {h : Nat → Nat} {cel : Nat → va_E} {x0 : Int64} {x2 : Int32} {r : Int32} (hm : m_X2_stationsIn x0 x2 = some r) : MetI l g yX2_stationsIn cX2_stationsIn 3 (some .int) 0 0 n h (cel) (cel) [.long x0, .int x2] r := by
  refine MetI.ofX (by decide +kernel) (Nat.le_of_ble_eq_true rfl) ?_
  intro p e s m below meth c AV Q X hret ls hw hl
  replace X : Cx g p s m AV c cX2_stationsIn RX2 3 := X
  replace hl : lv_has ls 3 [(0, .long x0), (2, .int x2)] := hl
  unfold m_X2_stationsIn at hm
  refine lv_lload_n X.1 X.2.1 dX2_stationsIn_0 rfl (lv_at hl 0 rfl) ?_
  refine lv_bipush (v := 7) X.1 X.2.1 dX2_stationsIn_1 (by decide) ?_
  refine lv_iload_n X.1 X.2.1 dX2_stationsIn_3 rfl (lv_at hl 1 rfl) ?_
  refine lv_imul X.1 X.2.1 dX2_stationsIn_4 ?_
  refine lv_lushr X.1 X.2.1 dX2_stationsIn_5 rfl ?_
  refine lv_l2i X.1 X.2.1 dX2_stationsIn_6 rfl ?_
  refine lv_bipush (v := 127) X.1 X.2.1 dX2_stationsIn_7 (by decide) ?_
  refine lv_iand X.1 X.2.1 dX2_stationsIn_9 ?_
  refine lv_topi (fun x_1 ex_1 => ?_)
  replace hm := lt_e hm ex_1
  obtain rfl := Option.some.inj hm
  exact hret _ _ _ _ hw dX2_stationsIn_10
def m_X2_joinedOver_L16 (x_5 : Int32) (σ : Int64 × Int32) : Option ((Int64 × Int32) ⊕ (Int64)) := (fun (q_21 : Int64 × Int32) => un q_21 (fun y_6 y_7 => if (7 : Int32) ≤ y_7 then some (.inr y_6) else if ((x_5.toUInt32 >>> (y_7.toUInt32 &&& Int32.toUInt32 31)).toInt32 &&& (1 : Int32)) = 0 then lt (y_7 + 1) (fun x_18 => some (.inl (y_6, x_18))) else lt (y_6 ||| (x_5.toInt64 <<< (((7 : Int32) * y_7).toInt64 &&& 63))) (fun x_19 => lt (y_7 + 1) (fun x_20 => some (.inl (x_19, x_20)))))) σ
def m_X2_joinedOver (x0 : Int64) (x2 : Int32) (x3 : Int32) : Option (Int64) := Option.bind (m_X2_stationsIn x0 x2) (fun (r_2 : Int32) => Option.bind (m_X2_stationsIn x0 x3) (fun (r_4 : Int32) => lt (r_2 ||| r_4) (fun x_5 => Option.bind (vLoop (m_X2_joinedOver_L16 x_5) FUEL (x0, (0 : Int32))) (fun (j_8 : Int64) => some j_8))))
theorem yo_X2_joinedOver : yX2_joinedOver.cls ≠ "java/lang/invoke/MethodHandle" ∧ yX2_joinedOver.cls ≠ "java/lang/invoke/VarHandle" ∧ (parseMethodDescriptor yX2_joinedOver.desc).map (fun d => d.parameters.length) = some 3 := by decide +kernel
set_option maxHeartbeats 4000000 in
set_option maxRecDepth 100000 in
theorem c_X2_joinedOver {l : Launch} {g : gT} {n : Nat} {h : Nat → Nat} {cel : Nat → va_E} {x0 : Int64} {x2 : Int32} {x3 : Int32} {r : Int64} (hm : m_X2_joinedOver x0 x2 x3 = some r) : MetL l g yX2_joinedOver cX2_joinedOver 6 (some .long) 1 22 n h (cel) (cel) [.long x0, .int x2, .int x3] r := by
  refine MetL.ofX (by decide +kernel) (Nat.le_of_ble_eq_true rfl) ?_
  intro p e s m below meth c AV Q X hret ls hw hl
  replace X : Cx g p s m AV c cX2_joinedOver RX2 6 := X
  replace hl : lv_has ls 6 [(0, .long x0), (2, .int x2), (3, .int x3)] := hl
  unfold m_X2_joinedOver at hm
  refine lv_lload_n X.1 X.2.1 dX2_joinedOver_0 rfl (lv_at hl 0 rfl) ?_
  refine lv_iload_n X.1 X.2.1 dX2_joinedOver_1 rfl (lv_at hl 1 rfl) ?_
  replace hm := ob_e hm
  obtain ⟨r_2, h_1, hm⟩ := hm
  refine k_Si (As := [.long x0, .int x2]) X hl.1 hw (c_X2_stationsIn h_1) ⟨wq_8_9, wq_8_10, wq_1_13, wq_8_11⟩ yo_X2_stationsIn rfl ⟨Nat.le_of_ble_eq_true rfl, Nat.le_of_ble_eq_true rfl⟩ (Nat.le_of_ble_eq_true rfl) dX2_joinedOver_2 (fun H locs hw => ?_)
  refine lv_lload_n X.1 X.2.1 dX2_joinedOver_5 rfl (lv_at hl 0 rfl) ?_
  refine lv_iload_n X.1 X.2.1 dX2_joinedOver_6 rfl (lv_at hl 2 rfl) ?_
  replace hm := ob_e hm
  obtain ⟨r_4, h_3, hm⟩ := hm
  refine k_Si (As := [.long x0, .int x3]) X hl.1 hw (c_X2_stationsIn h_3) ⟨wq_8_9, wq_8_10, wq_1_13, wq_8_11⟩ yo_X2_stationsIn rfl ⟨Nat.le_of_ble_eq_true rfl, Nat.le_of_ble_eq_true rfl⟩ (Nat.le_of_ble_eq_true rfl) dX2_joinedOver_7 (fun H locs hw => ?_)
  refine lv_ior X.1 X.2.1 dX2_joinedOver_10 ?_
  refine lv_topi (fun x_5 ex_5 => ?_)
  replace hm := lt_e hm ex_5
  refine lv_istore (lv' := [(4, .int x_5), (0, .long x0), (2, .int x2), (3, .int x3)]) X.1 X.2.1 dX2_joinedOver_11 hl (by decide) rfl (fun ls hl => ?_)
  refine lv_iconst (v := 0) X.1 X.2.1 dX2_joinedOver_13 (by decide) ?_
  refine lv_istore (lv' := [(5, .int (0 : Int32)), (4, .int x_5), (0, .long x0), (2, .int x2), (3, .int x3)]) X.1 X.2.1 dX2_joinedOver_14 hl (by decide) rfl (fun ls hl => ?_)
  replace hm := ob_e hm
  obtain ⟨j_8, hL_14, hm⟩ := hm
  have J_13 : ∀ (H : Heap) (locs : List Loc) (ls : Array Slot), Wd g n h (cel) s H locs → lv_has ls 6 [(0, .long j_8)] → W p l e (rW 1 22) s m AV below meth c H locs 0 0 Q (F0 m 51 ls []) := by
    intro H locs ls hw hl
    refine lv_lload_n X.1 X.2.1 dX2_joinedOver_51 rfl (lv_at hl 0 rfl) ?_
    obtain rfl := Option.some.inj hm
    exact hret _ _ _ _ hw dX2_joinedOver_52
  refine vLoop_ind (B := (m_X2_joinedOver_L16 x_5)) (fun σ => ∀ (H : Heap) (locs : List Loc) (ls : Array Slot), Wd g n h (cel) s H locs → lv_has ls 6 [(0, .long σ.1), (4, .int x_5), (5, .int σ.2)] → W p l e (rW 1 22) s m AV below meth c H locs 0 0 Q (F0 m 16 ls [])) (fun z' => z' = j_8) ?_ FUEL _ _ hL_14 rfl _ _ _ hw (lv_sub hl [2, 1, 0] rfl)
  intro σ z_12 hz_9 hn_10 hx_11
  obtain ⟨y_6, y_7⟩ := σ
  intro H locs ls hw hl
  replace hw : Wd g n h (cel) s H locs := hw
  replace hl : lv_has ls 6 [(0, .long y_6), (4, .int x_5), (5, .int y_7)] := hl
  unfold m_X2_joinedOver_L16 at hz_9
  replace hz_9 := un_e hz_9
  refine lv_iload X.1 X.2.1 dX2_joinedOver_16 (lv_at hl 2 rfl) ?_
  refine lv_bipush (v := 7) X.1 X.2.1 dX2_joinedOver_18 (by decide) ?_
  refine lv_icmp_ge (tgt := 51) X.1 X.2.1 dX2_joinedOver_20 (by decide) (fun c_16 => ?_) (fun c_16 => ?_)
  · replace hz_9 := it_p hz_9 c_16
    obtain rfl := hx_11 _ (Option.some.inj hz_9).symm
    exact J_13 _ _ _ hw (lv_sub hl [0] rfl)
  · replace hz_9 := it_n hz_9 c_16
    refine lv_iload X.1 X.2.1 dX2_joinedOver_23 (lv_at hl 1 rfl) ?_
    refine lv_iload X.1 X.2.1 dX2_joinedOver_25 (lv_at hl 2 rfl) ?_
    refine lv_iushr X.1 X.2.1 dX2_joinedOver_27 rfl ?_
    refine lv_iconst (v := 1) X.1 X.2.1 dX2_joinedOver_28 (by decide) ?_
    refine lv_iand X.1 X.2.1 dX2_joinedOver_29 ?_
    refine lv_if_eq (tgt := 45) X.1 X.2.1 dX2_joinedOver_30 (by decide) (fun c_17 => ?_) (fun c_17 => ?_)
    · replace hz_9 := it_p hz_9 c_17
      obtain ⟨x_18, ex_18⟩ : ∃ y : Int32, y = y_7 + 1 := ⟨_, rfl⟩
      replace hz_9 := lt_e hz_9 ex_18
      refine lv_iinc (v := x_18) (lv' := [(5, .int x_18), (0, .long y_6), (4, .int x_5)]) X.1 X.2.1 dX2_joinedOver_45 hl (k := 2) rfl (by rw [ex_18]; rfl) (by decide) rfl (fun ls hl => ?_)
      refine lv_goto (tgt := 16) X.1 X.2.1 dX2_joinedOver_48 (by decide) ?_
      exact hn_10 _ (Option.some.inj hz_9).symm _ _ _ hw (lv_sub hl [1, 2, 0] rfl)
    · replace hz_9 := it_n hz_9 c_17
      refine lv_lload_n X.1 X.2.1 dX2_joinedOver_33 rfl (lv_at hl 0 rfl) ?_
      refine lv_iload X.1 X.2.1 dX2_joinedOver_34 (lv_at hl 1 rfl) ?_
      refine lv_i2l X.1 X.2.1 dX2_joinedOver_36 rfl ?_
      refine lv_bipush (v := 7) X.1 X.2.1 dX2_joinedOver_37 (by decide) ?_
      refine lv_iload X.1 X.2.1 dX2_joinedOver_39 (lv_at hl 2 rfl) ?_
      refine lv_imul X.1 X.2.1 dX2_joinedOver_41 ?_
      refine lv_lshl X.1 X.2.1 dX2_joinedOver_42 rfl ?_
      refine lv_lor X.1 X.2.1 dX2_joinedOver_43 ?_
      refine lv_topl (fun x_19 ex_19 => ?_)
      replace hz_9 := lt_e hz_9 ex_19
      refine lv_lstore_n (lv' := [(0, .long x_19), (4, .int x_5), (5, .int y_7)]) X.1 X.2.1 dX2_joinedOver_44 rfl hl (by decide) rfl (fun ls hl => ?_)
      obtain ⟨x_20, ex_20⟩ : ∃ y : Int32, y = y_7 + 1 := ⟨_, rfl⟩
      replace hz_9 := lt_e hz_9 ex_20
      refine lv_iinc (v := x_20) (lv' := [(5, .int x_20), (0, .long x_19), (4, .int x_5)]) X.1 X.2.1 dX2_joinedOver_45 hl (k := 2) rfl (by rw [ex_20]; rfl) (by decide) rfl (fun ls hl => ?_)
      refine lv_goto (tgt := 16) X.1 X.2.1 dX2_joinedOver_48 (by decide) ?_
      exact hn_10 _ (Option.some.inj hz_9).symm _ _ _ hw (lv_sub hl [1, 2, 0] rfl)
def m_X2_addSetsWith_L6 (x1 : Int32) (x_1 : Int32) (σ : Int32 × ST) : Option ((Int32 × ST) ⊕ (ST)) := (fun (q_24 : Int32 × ST) => un q_24 (fun y_2 b_3 => if x_1 ≤ y_2 then some (.inr b_3) else if (1024 : Int32) ≤ (x_1 + y_2) then some (.inr b_3) else gd (¬ (y_2 < 0 ∨ 1024 ≤ y_2.toNatClampNeg)) (Option.bind (m_X2_lesserOf b_3 x1) (fun (r_16 : Int32) => Option.bind (m_X2_greaterOf b_3 x1) (fun (r_18 : Int32) => Option.bind (m_X2_joinedOver (b_3.2.2.2 0 y_2.toNatClampNeg) r_16 r_18) (fun (r_20 : Int64) => gd (¬ ((x_1 + y_2) < 0 ∨ 1024 ≤ (x_1 + y_2).toNatClampNeg)) (lt (wB b_3 0 (x_1 + y_2).toNatClampNeg r_20) (fun b_22 => lt (y_2 + 1) (fun x_23 => some (.inl (x_23, b_22))))))))))) σ
def m_X2_addSetsWith (b : ST) (x1 : Int32) : Option (ST) := lt ((1 : Int32) <<< (x1 &&& 31)) (fun x_1 => Option.bind (vLoop (m_X2_addSetsWith_L6 x1 x_1) FUEL ((0 : Int32), b)) (fun (b_4 : ST) => some b_4))
theorem yo_X2_addSetsWith : yX2_addSetsWith.cls = RX2 ∧ yX2_addSetsWith.cls ≠ "java/lang/invoke/MethodHandle" ∧ yX2_addSetsWith.cls ≠ "java/lang/invoke/VarHandle" ∧ (parseMethodDescriptor yX2_addSetsWith.desc).map (fun d => d.parameters.length) = some 1 := by decide +kernel
set_option maxHeartbeats 4000000 in
set_option maxRecDepth 100000 in
theorem c_X2_addSetsWith {l : Launch} {g : gT} {h : Nat → Nat} {b : ST} {w : Nat → ST} {x1 : Int32} {b' : ST} (hm : m_X2_addSetsWith b x1 = some (b')) : MetV l g yX2_addSetsWith cX2_addSetsWith 4 none 2 47 79 h (cC g h (b, w)) (cC g h (b', w)) [.ref (h 1), .int x1] := by
  refine MetV.ofX (by decide +kernel) (Nat.le_of_ble_eq_true rfl) ?_
  intro p e s m below meth c AV Q X hret ls hw hl
  replace X : Cx g p s m AV c cX2_addSetsWith RX2 4 := X
  replace hl : lv_has ls 4 [(0, .ref (h 1)), (1, .int x1)] := hl
  unfold m_X2_addSetsWith at hm
  refine lv_iconst (v := 1) X.1 X.2.1 dX2_addSetsWith_0 (by decide) ?_
  refine lv_iload_n X.1 X.2.1 dX2_addSetsWith_1 rfl (lv_at hl 1 rfl) ?_
  refine lv_ishl X.1 X.2.1 dX2_addSetsWith_2 ?_
  refine lv_topi (fun x_1 ex_1 => ?_)
  replace hm := lt_e hm ex_1
  refine lv_istore_n (lv' := [(2, .int x_1), (0, .ref (h 1)), (1, .int x1)]) X.1 X.2.1 dX2_addSetsWith_3 rfl hl (by decide) rfl (fun ls hl => ?_)
  refine lv_iconst (v := 0) X.1 X.2.1 dX2_addSetsWith_4 (by decide) ?_
  refine lv_istore_n (lv' := [(3, .int (0 : Int32)), (2, .int x_1), (0, .ref (h 1)), (1, .int x1)]) X.1 X.2.1 dX2_addSetsWith_5 rfl hl (by decide) rfl (fun ls hl => ?_)
  replace hm := ob_e hm
  obtain ⟨b_4, hL_10, hm⟩ := hm
  have J_9 : ∀ (H : Heap) (locs : List Loc) (ls : Array Slot), Wd g 79 h (cC g h (b_4, w)) s H locs → lv_has ls 4 [] → W p l e (rW 2 47) s m AV below meth c H locs 0 0 Q (F0 m 53 ls []) := by
    intro H locs ls hw hl
    obtain rfl := Option.some.inj hm
    exact hret _ _ _ _ hw dX2_addSetsWith_53
  refine vLoop_ind (B := (m_X2_addSetsWith_L6 x1 x_1)) (fun σ => ∀ (H : Heap) (locs : List Loc) (ls : Array Slot), Wd g 79 h (cC g h (σ.2, w)) s H locs → lv_has ls 4 [(0, .ref (h 1)), (1, .int x1), (2, .int x_1), (3, .int σ.1)] → W p l e (rW 2 47) s m AV below meth c H locs 0 0 Q (F0 m 6 ls [])) (fun z' => z' = b_4) ?_ FUEL _ _ hL_10 rfl _ _ _ hw (lv_sub hl [2, 3, 1, 0] rfl)
  intro σ z_8 hz_5 hn_6 hx_7
  obtain ⟨y_2, b_3⟩ := σ
  intro H locs ls hw hl
  replace hw : Wd g 79 h (cC g h (b_3, w)) s H locs := hw
  replace hl : lv_has ls 4 [(0, .ref (h 1)), (1, .int x1), (2, .int x_1), (3, .int y_2)] := hl
  unfold m_X2_addSetsWith_L6 at hz_5
  replace hz_5 := un_e hz_5
  refine lv_iload_n X.1 X.2.1 dX2_addSetsWith_6 rfl (lv_at hl 3 rfl) ?_
  refine lv_iload_n X.1 X.2.1 dX2_addSetsWith_7 rfl (lv_at hl 2 rfl) ?_
  refine lv_icmp_ge (tgt := 53) X.1 X.2.1 dX2_addSetsWith_8 (by decide) (fun c_12 => ?_) (fun c_12 => ?_)
  · replace hz_5 := it_p hz_5 c_12
    obtain rfl := hx_7 _ (Option.some.inj hz_5).symm
    exact J_9 _ _ _ hw (lv_sub hl [] rfl)
  · replace hz_5 := it_n hz_5 c_12
    refine lv_iload_n X.1 X.2.1 dX2_addSetsWith_11 rfl (lv_at hl 2 rfl) ?_
    refine lv_iload_n X.1 X.2.1 dX2_addSetsWith_12 rfl (lv_at hl 3 rfl) ?_
    refine lv_iadd X.1 X.2.1 dX2_addSetsWith_13 ?_
    refine lv_sipush (v := 1024) X.1 X.2.1 dX2_addSetsWith_14 (by decide) ?_
    refine lv_icmp_ge (tgt := 53) X.1 X.2.1 dX2_addSetsWith_17 (by decide) (fun c_13 => ?_) (fun c_13 => ?_)
    · replace hz_5 := it_p hz_5 c_13
      obtain rfl := hx_7 _ (Option.some.inj hz_5).symm
      exact J_9 _ _ _ hw (lv_sub hl [] rfl)
    · replace hz_5 := it_n hz_5 c_13
      refine lv_aload_n X.1 X.2.1 dX2_addSetsWith_20 rfl (lv_at hl 0 rfl) ?_
      refine gX2_joinings X hw wq_3_1 dX2_addSetsWith_21 ?_
      refine lv_iload_n X.1 X.2.1 dX2_addSetsWith_24 rfl (lv_at hl 2 rfl) ?_
      refine lv_iload_n X.1 X.2.1 dX2_addSetsWith_25 rfl (lv_at hl 3 rfl) ?_
      refine lv_iadd X.1 X.2.1 dX2_addSetsWith_26 ?_
      refine lv_aload_n X.1 X.2.1 dX2_addSetsWith_27 rfl (lv_at hl 0 rfl) ?_
      refine gX2_joinings X hw wq_3_1 dX2_addSetsWith_28 ?_
      refine lv_iload_n X.1 X.2.1 dX2_addSetsWith_31 rfl (lv_at hl 3 rfl) ?_
      replace hz_5 := gd_e hz_5
      obtain ⟨g_14, hz_5⟩ := hz_5
      refine lB0 X hw g_14 dX2_addSetsWith_32 ?_
      refine lv_aload_n X.1 X.2.1 dX2_addSetsWith_33 rfl (lv_at hl 0 rfl) ?_
      refine lv_iload_n X.1 X.2.1 dX2_addSetsWith_34 rfl (lv_at hl 1 rfl) ?_
      replace hz_5 := ob_e hz_5
      obtain ⟨r_16, h_15, hz_5⟩ := hz_5
      refine k_Vi (k := 1) (As := [.int x1]) X hl.1 hw (c_X2_lesserOf h_15) (by decide) (he_X2 g h _ _) rfl ⟨wq_7_18, wq_7_19, wq_7_20, wq_1_13, wq_7_21⟩ yo_X2_lesserOf rfl ⟨Nat.le_of_ble_eq_true rfl, Nat.le_of_ble_eq_true rfl⟩ (Nat.le_of_ble_eq_true rfl) dX2_addSetsWith_35 (fun H locs hw => ?_)
      refine lv_aload_n X.1 X.2.1 dX2_addSetsWith_38 rfl (lv_at hl 0 rfl) ?_
      refine lv_iload_n X.1 X.2.1 dX2_addSetsWith_39 rfl (lv_at hl 1 rfl) ?_
      replace hz_5 := ob_e hz_5
      obtain ⟨r_18, h_17, hz_5⟩ := hz_5
      refine k_Vi (k := 1) (As := [.int x1]) X hl.1 hw (c_X2_greaterOf h_17) (by decide) (he_X2 g h _ _) rfl ⟨wq_8_2, wq_8_3, wq_8_4, wq_1_13, wq_8_5⟩ yo_X2_greaterOf rfl ⟨Nat.le_of_ble_eq_true rfl, Nat.le_of_ble_eq_true rfl⟩ (Nat.le_of_ble_eq_true rfl) dX2_addSetsWith_40 (fun H locs hw => ?_)
      replace hz_5 := ob_e hz_5
      obtain ⟨r_20, h_19, hz_5⟩ := hz_5
      refine k_Sl (As := [.long (b_3.2.2.2 0 y_2.toNatClampNeg), .int r_16, .int r_18]) X hl.1 hw (c_X2_joinedOver h_19) ⟨wq_8_6, wq_8_7, wq_1_13, wq_8_8⟩ yo_X2_joinedOver rfl ⟨Nat.le_of_ble_eq_true rfl, Nat.le_of_ble_eq_true rfl⟩ (Nat.le_of_ble_eq_true rfl) dX2_addSetsWith_43 (fun H locs hw => ?_)
      replace hz_5 := gd_e hz_5
      obtain ⟨g_21, hz_5⟩ := hz_5
      refine sB0 X hw g_21 dX2_addSetsWith_46 (fun H locs hw => ?_)
      obtain ⟨b_22, eb_22⟩ : ∃ y, y = wB b_3 0 (x_1 + y_2).toNatClampNeg r_20 := ⟨_, rfl⟩
      rw [← eb_22] at hw
      replace hz_5 := lt_e hz_5 eb_22
      obtain ⟨x_23, ex_23⟩ : ∃ y : Int32, y = y_2 + 1 := ⟨_, rfl⟩
      replace hz_5 := lt_e hz_5 ex_23
      refine lv_iinc (v := x_23) (lv' := [(3, .int x_23), (0, .ref (h 1)), (1, .int x1), (2, .int x_1)]) X.1 X.2.1 dX2_addSetsWith_47 hl (k := 3) rfl (by rw [ex_23]; rfl) (by decide) rfl (fun ls hl => ?_)
      refine lv_goto (tgt := 6) X.1 X.2.1 dX2_addSetsWith_50 (by decide) ?_
      exact hn_6 _ (Option.some.inj hz_5).symm _ _ _ hw (lv_sub hl [1, 2, 3, 0] rfl)
def m_X2_addLink (b : ST) (x1 : Int32) (x2 : Int32) (x3 : Int32) (x4 : Int32) : Option (Int32 × ST) := lt (b.1 1) (fun x_1 => if x_1 < 0 then some ((-4 : Int32), b) else if x_1 < (10 : Int32) then lt (if x2 < x1 then x2 else x1) (fun x_5 => gd (¬ (x_1 < 0 ∨ 10 ≤ x_1.toNatClampNeg)) (lt (wA b 0 x_1.toNatClampNeg x_5) (fun b_7 => lt (if x1 < x2 then x2 else x1) (fun x_8 => gd (¬ (x_1 < 0 ∨ 10 ≤ x_1.toNatClampNeg)) (lt (wA b_7 1 x_1.toNatClampNeg x_8) (fun b_10 => gd (¬ (x_1 < 0 ∨ 10 ≤ x_1.toNatClampNeg)) (lt (wA b_10 2 x_1.toNatClampNeg x3) (fun b_12 => gd (¬ (x_1 < 0 ∨ 10 ≤ x_1.toNatClampNeg)) (lt (wA b_12 3 x_1.toNatClampNeg x4) (fun b_14 => gd (¬ (x_1 < 0 ∨ 10 ≤ x_1.toNatClampNeg)) (lt (wA b_14 4 x_1.toNatClampNeg (0 : Int32)) (fun b_16 => lt (wI b_16 1 (((b_16.1 1) + (1 : Int32)))) (fun b_17 => Option.bind (m_X2_addSetsWith b_17 x_1) (fun (b_19 : ST) => some (x_1, b_19))))))))))))))) else some ((-4 : Int32), b))
theorem yo_X2_addLink : yX2_addLink.cls = RX2 ∧ yX2_addLink.cls ≠ "java/lang/invoke/MethodHandle" ∧ yX2_addLink.cls ≠ "java/lang/invoke/VarHandle" ∧ (parseMethodDescriptor yX2_addLink.desc).map (fun d => d.parameters.length) = some 4 := by decide +kernel
set_option maxHeartbeats 4000000 in
set_option maxRecDepth 100000 in
theorem c_X2_addLink {l : Launch} {g : gT} {h : Nat → Nat} {b : ST} {w : Nat → ST} {x1 : Int32} {x2 : Int32} {x3 : Int32} {x4 : Int32} {r : Int32} {b' : ST} (hm : m_X2_addLink b x1 x2 x3 x4 = some (r, b')) : MetI l g yX2_addLink cX2_addLink 6 (some .int) 3 70 79 h (cC g h (b, w)) (cC g h (b', w)) [.ref (h 1), .int x1, .int x2, .int x3, .int x4] r := by
  refine MetI.ofX (by decide +kernel) (Nat.le_of_ble_eq_true rfl) ?_
  intro p e s m below meth c AV Q X hret ls hw hl
  replace X : Cx g p s m AV c cX2_addLink RX2 6 := X
  replace hl : lv_has ls 6 [(0, .ref (h 1)), (1, .int x1), (2, .int x2), (3, .int x3), (4, .int x4)] := hl
  unfold m_X2_addLink at hm
  refine lv_aload_n X.1 X.2.1 dX2_addLink_0 rfl (lv_at hl 0 rfl) ?_
  refine gX2_linkCount X hw wq_6_3 dX2_addLink_1 ?_
  refine lv_topi (fun x_1 ex_1 => ?_)
  replace hm := lt_e hm ex_1
  refine lv_istore (lv' := [(5, .int x_1), (0, .ref (h 1)), (1, .int x1), (2, .int x2), (3, .int x3), (4, .int x4)]) X.1 X.2.1 dX2_addLink_4 hl (by decide) rfl (fun ls hl => ?_)
  refine lv_iload X.1 X.2.1 dX2_addLink_6 (lv_at hl 0 rfl) ?_
  refine lv_if_lt (tgt := 18) X.1 X.2.1 dX2_addLink_8 (by decide) (fun c_2 => ?_) (fun c_2 => ?_)
  · replace hm := it_p hm c_2
    refine lv_bipush (v := -4) X.1 X.2.1 dX2_addLink_18 (by decide) ?_
    obtain ⟨rfl, rfl⟩ := Prod.mk.inj (Option.some.inj hm)
    exact hret _ _ _ _ hw dX2_addLink_20
  · replace hm := it_n hm c_2
    refine lv_iload X.1 X.2.1 dX2_addLink_11 (lv_at hl 0 rfl) ?_
    refine lv_bipush (v := 10) X.1 X.2.1 dX2_addLink_13 (by decide) ?_
    refine lv_icmp_lt (tgt := 21) X.1 X.2.1 dX2_addLink_15 (by decide) (fun c_4 => ?_) (fun c_4 => ?_)
    · replace hm := it_p hm c_4
      refine lv_aload_n X.1 X.2.1 dX2_addLink_21 rfl (lv_at hl 1 rfl) ?_
      refine gX2_lessers X hw wq_2_19 dX2_addLink_22 ?_
      refine lv_iload X.1 X.2.1 dX2_addLink_25 (lv_at hl 0 rfl) ?_
      refine lv_iload_n X.1 X.2.1 dX2_addLink_27 rfl (lv_at hl 2 rfl) ?_
      refine lv_iload_n X.1 X.2.1 dX2_addLink_28 rfl (lv_at hl 3 rfl) ?_
      refine x_min (ws' := []) X hl.1 wq_7_7 (Nat.le_of_ble_eq_true rfl) (Nat.le_of_ble_eq_true rfl) dX2_addLink_29 wq_7_8 wq_7_9 wq_7_10 ?_
      refine lv_topi (fun x_5 ex_5 => ?_)
      replace hm := lt_e hm ex_5
      replace hm := gd_e hm
      obtain ⟨g_6, hm⟩ := hm
      refine sA0 X hw g_6 dX2_addLink_32 (fun H locs hw => ?_)
      obtain ⟨b_7, eb_7⟩ : ∃ y, y = wA b 0 x_1.toNatClampNeg x_5 := ⟨_, rfl⟩
      rw [← eb_7] at hw
      replace hm := lt_e hm eb_7
      refine lv_aload_n X.1 X.2.1 dX2_addLink_33 rfl (lv_at hl 1 rfl) ?_
      refine gX2_greaters X hw wq_2_20 dX2_addLink_34 ?_
      refine lv_iload X.1 X.2.1 dX2_addLink_37 (lv_at hl 0 rfl) ?_
      refine lv_iload_n X.1 X.2.1 dX2_addLink_39 rfl (lv_at hl 2 rfl) ?_
      refine lv_iload_n X.1 X.2.1 dX2_addLink_40 rfl (lv_at hl 3 rfl) ?_
      refine x_max (ws' := []) X hl.1 wq_7_11 (Nat.le_of_ble_eq_true rfl) (Nat.le_of_ble_eq_true rfl) dX2_addLink_41 wq_7_12 wq_7_9 wq_7_13 ?_
      refine lv_topi (fun x_8 ex_8 => ?_)
      replace hm := lt_e hm ex_8
      replace hm := gd_e hm
      obtain ⟨g_9, hm⟩ := hm
      refine sA1 X hw g_9 dX2_addLink_44 (fun H locs hw => ?_)
      obtain ⟨b_10, eb_10⟩ : ∃ y, y = wA b_7 1 x_1.toNatClampNeg x_8 := ⟨_, rfl⟩
      rw [← eb_10] at hw
      replace hm := lt_e hm eb_10
      refine lv_aload_n X.1 X.2.1 dX2_addLink_45 rfl (lv_at hl 1 rfl) ?_
      refine gX2_aboves X hw wq_2_21 dX2_addLink_46 ?_
      refine lv_iload X.1 X.2.1 dX2_addLink_49 (lv_at hl 0 rfl) ?_
      refine lv_iload_n X.1 X.2.1 dX2_addLink_51 rfl (lv_at hl 4 rfl) ?_
      replace hm := gd_e hm
      obtain ⟨g_11, hm⟩ := hm
      refine sA2 X hw g_11 dX2_addLink_52 (fun H locs hw => ?_)
      obtain ⟨b_12, eb_12⟩ : ∃ y, y = wA b_10 2 x_1.toNatClampNeg x3 := ⟨_, rfl⟩
      rw [← eb_12] at hw
      replace hm := lt_e hm eb_12
      refine lv_aload_n X.1 X.2.1 dX2_addLink_53 rfl (lv_at hl 1 rfl) ?_
      refine gX2_belows X hw wq_2_22 dX2_addLink_54 ?_
      refine lv_iload X.1 X.2.1 dX2_addLink_57 (lv_at hl 0 rfl) ?_
      refine lv_iload X.1 X.2.1 dX2_addLink_59 (lv_at hl 5 rfl) ?_
      replace hm := gd_e hm
      obtain ⟨g_13, hm⟩ := hm
      refine sA3 X hw g_13 dX2_addLink_61 (fun H locs hw => ?_)
      obtain ⟨b_14, eb_14⟩ : ∃ y, y = wA b_12 3 x_1.toNatClampNeg x4 := ⟨_, rfl⟩
      rw [← eb_14] at hw
      replace hm := lt_e hm eb_14
      refine lv_aload_n X.1 X.2.1 dX2_addLink_62 rfl (lv_at hl 1 rfl) ?_
      refine gX2_seens X hw wq_2_23 dX2_addLink_63 ?_
      refine lv_iload X.1 X.2.1 dX2_addLink_66 (lv_at hl 0 rfl) ?_
      refine lv_iconst (v := 0) X.1 X.2.1 dX2_addLink_68 (by decide) ?_
      replace hm := gd_e hm
      obtain ⟨g_15, hm⟩ := hm
      refine sA4 X hw g_15 dX2_addLink_69 (fun H locs hw => ?_)
      obtain ⟨b_16, eb_16⟩ : ∃ y, y = wA b_14 4 x_1.toNatClampNeg (0 : Int32) := ⟨_, rfl⟩
      rw [← eb_16] at hw
      replace hm := lt_e hm eb_16
      refine lv_aload_n X.1 X.2.1 dX2_addLink_70 rfl (lv_at hl 1 rfl) ?_
      refine lv_dup X.1 X.2.1 dX2_addLink_71 rfl ?_
      refine gX2_linkCount X hw wq_6_3 dX2_addLink_72 ?_
      refine lv_iconst (v := 1) X.1 X.2.1 dX2_addLink_75 (by decide) ?_
      refine lv_iadd X.1 X.2.1 dX2_addLink_76 ?_
      refine pX2_linkCount X hw wq_6_3 dX2_addLink_77 (fun H locs hw => ?_)
      obtain ⟨b_17, eb_17⟩ : ∃ y, y = wI b_16 1 (((b_16.1 1) + (1 : Int32))) := ⟨_, rfl⟩
      rw [← eb_17] at hw
      replace hm := lt_e hm eb_17
      refine lv_aload_n X.1 X.2.1 dX2_addLink_80 rfl (lv_at hl 1 rfl) ?_
      refine lv_iload X.1 X.2.1 dX2_addLink_81 (lv_at hl 0 rfl) ?_
      replace hm := ob_e hm
      obtain ⟨b_19, h_18, hm⟩ := hm
      refine k_Vv (k := 1) (As := [.int x_1]) X hl.1 hw (c_X2_addSetsWith h_18) (by decide) (he_X2 g h _ _) rfl ⟨wq_7_14, wq_7_15, wq_7_16, wq_1_13, wq_7_17⟩ yo_X2_addSetsWith rfl ⟨Nat.le_of_ble_eq_true rfl, Nat.le_of_ble_eq_true rfl⟩ (Nat.le_of_ble_eq_true rfl) dX2_addLink_83 (fun H locs hw => ?_)
      refine lv_iload X.1 X.2.1 dX2_addLink_86 (lv_at hl 0 rfl) ?_
      obtain ⟨rfl, rfl⟩ := Prod.mk.inj (Option.some.inj hm)
      exact hret _ _ _ _ hw dX2_addLink_88
    · replace hm := it_n hm c_4
      refine lv_bipush (v := -4) X.1 X.2.1 dX2_addLink_18 (by decide) ?_
      obtain ⟨rfl, rfl⟩ := Prod.mk.inj (Option.some.inj hm)
      exact hret _ _ _ _ hw dX2_addLink_20
def m_X2_dropLast (b : ST) : Option (Int32 × ST) := if (b.1 1) ≤ 0 then some ((b.1 1), b) else lt (wI b 1 (((b.1 1) - (1 : Int32)))) (fun b_3 => some ((b_3.1 1), b_3))
theorem yo_X2_dropLast : yX2_dropLast.cls = RX2 ∧ yX2_dropLast.cls ≠ "java/lang/invoke/MethodHandle" ∧ yX2_dropLast.cls ≠ "java/lang/invoke/VarHandle" ∧ (parseMethodDescriptor yX2_dropLast.desc).map (fun d => d.parameters.length) = some 0 := by decide +kernel
set_option maxHeartbeats 4000000 in
set_option maxRecDepth 100000 in
theorem c_X2_dropLast {l : Launch} {g : gT} {h : Nat → Nat} {b : ST} {w : Nat → ST} {r : Int32} {b' : ST} (hm : m_X2_dropLast b = some (r, b')) : MetI l g yX2_dropLast cX2_dropLast 1 (some .int) 0 0 79 h (cC g h (b, w)) (cC g h (b', w)) [.ref (h 1)] r := by
  refine MetI.ofX (by decide +kernel) (Nat.le_of_ble_eq_true rfl) ?_
  intro p e s m below meth c AV Q X hret ls hw hl
  replace X : Cx g p s m AV c cX2_dropLast RX2 1 := X
  replace hl : lv_has ls 1 [(0, .ref (h 1))] := hl
  unfold m_X2_dropLast at hm
  refine lv_aload_n X.1 X.2.1 dX2_dropLast_0 rfl (lv_at hl 0 rfl) ?_
  refine gX2_linkCount X hw wq_6_3 dX2_dropLast_1 ?_
  refine lv_if_le (tgt := 17) X.1 X.2.1 dX2_dropLast_4 (by decide) (fun c_1 => ?_) (fun c_1 => ?_)
  · replace hm := it_p hm c_1
    refine lv_aload_n X.1 X.2.1 dX2_dropLast_17 rfl (lv_at hl 0 rfl) ?_
    refine gX2_linkCount X hw wq_6_3 dX2_dropLast_18 ?_
    obtain ⟨rfl, rfl⟩ := Prod.mk.inj (Option.some.inj hm)
    exact hret _ _ _ _ hw dX2_dropLast_21
  · replace hm := it_n hm c_1
    refine lv_aload_n X.1 X.2.1 dX2_dropLast_7 rfl (lv_at hl 0 rfl) ?_
    refine lv_dup X.1 X.2.1 dX2_dropLast_8 rfl ?_
    refine gX2_linkCount X hw wq_6_3 dX2_dropLast_9 ?_
    refine lv_iconst (v := 1) X.1 X.2.1 dX2_dropLast_12 (by decide) ?_
    refine lv_isub X.1 X.2.1 dX2_dropLast_13 ?_
    refine pX2_linkCount X hw wq_6_3 dX2_dropLast_14 (fun H locs hw => ?_)
    obtain ⟨b_3, eb_3⟩ : ∃ y, y = wI b 1 (((b.1 1) - (1 : Int32))) := ⟨_, rfl⟩
    rw [← eb_3] at hw
    replace hm := lt_e hm eb_3
    refine lv_aload_n X.1 X.2.1 dX2_dropLast_17 rfl (lv_at hl 0 rfl) ?_
    refine gX2_linkCount X hw wq_6_3 dX2_dropLast_18 ?_
    obtain ⟨rfl, rfl⟩ := Prod.mk.inj (Option.some.inj hm)
    exact hret _ _ _ _ hw dX2_dropLast_21
def m_X2_setChance (b : ST) (x1 : Int32) (x2 : Int32) (x3 : Int32) : Option (ST) := Option.bind (m_X2_hasLink b x1) (fun (r_2 : Int32) => if r_2 = 0 then some b else gd (¬ (x1 < 0 ∨ 10 ≤ x1.toNatClampNeg)) (lt (wA b 2 x1.toNatClampNeg x2) (fun b_5 => gd (¬ (x1 < 0 ∨ 10 ≤ x1.toNatClampNeg)) (lt (wA b_5 3 x1.toNatClampNeg x3) (fun b_7 => some b_7)))))
theorem yo_X2_setChance : yX2_setChance.cls = RX2 ∧ yX2_setChance.cls ≠ "java/lang/invoke/MethodHandle" ∧ yX2_setChance.cls ≠ "java/lang/invoke/VarHandle" ∧ (parseMethodDescriptor yX2_setChance.desc).map (fun d => d.parameters.length) = some 3 := by decide +kernel
set_option maxHeartbeats 4000000 in
set_option maxRecDepth 100000 in
theorem c_X2_setChance {l : Launch} {g : gT} {h : Nat → Nat} {b : ST} {w : Nat → ST} {x1 : Int32} {x2 : Int32} {x3 : Int32} {b' : ST} (hm : m_X2_setChance b x1 x2 x3 = some (b')) : MetV l g yX2_setChance cX2_setChance 4 none 1 21 79 h (cC g h (b, w)) (cC g h (b', w)) [.ref (h 1), .int x1, .int x2, .int x3] := by
  refine MetV.ofX (by decide +kernel) (Nat.le_of_ble_eq_true rfl) ?_
  intro p e s m below meth c AV Q X hret ls hw hl
  replace X : Cx g p s m AV c cX2_setChance RX2 4 := X
  replace hl : lv_has ls 4 [(0, .ref (h 1)), (1, .int x1), (2, .int x2), (3, .int x3)] := hl
  unfold m_X2_setChance at hm
  refine lv_aload_n X.1 X.2.1 dX2_setChance_0 rfl (lv_at hl 0 rfl) ?_
  refine lv_iload_n X.1 X.2.1 dX2_setChance_1 rfl (lv_at hl 1 rfl) ?_
  replace hm := ob_e hm
  obtain ⟨r_2, h_1, hm⟩ := hm
  refine k_Vi (k := 1) (As := [.int x1]) X hl.1 hw (c_X2_hasLink h_1) (by decide) (he_X2 g h _ _) rfl ⟨wq_7_22, wq_7_23, wq_8_0, wq_1_13, wq_8_1⟩ yo_X2_hasLink rfl ⟨Nat.le_of_ble_eq_true rfl, Nat.le_of_ble_eq_true rfl⟩ (Nat.le_of_ble_eq_true rfl) dX2_setChance_2 (fun H locs hw => ?_)
  refine lv_if_ne (tgt := 9) X.1 X.2.1 dX2_setChance_5 (by decide) (fun c_3 => ?_) (fun c_3 => ?_)
  · replace hm := it_n hm c_3
    refine lv_aload_n X.1 X.2.1 dX2_setChance_9 rfl (lv_at hl 0 rfl) ?_
    refine gX2_aboves X hw wq_2_21 dX2_setChance_10 ?_
    refine lv_iload_n X.1 X.2.1 dX2_setChance_13 rfl (lv_at hl 1 rfl) ?_
    refine lv_iload_n X.1 X.2.1 dX2_setChance_14 rfl (lv_at hl 2 rfl) ?_
    replace hm := gd_e hm
    obtain ⟨g_4, hm⟩ := hm
    refine sA2 X hw g_4 dX2_setChance_15 (fun H locs hw => ?_)
    obtain ⟨b_5, eb_5⟩ : ∃ y, y = wA b 2 x1.toNatClampNeg x2 := ⟨_, rfl⟩
    rw [← eb_5] at hw
    replace hm := lt_e hm eb_5
    refine lv_aload_n X.1 X.2.1 dX2_setChance_16 rfl (lv_at hl 0 rfl) ?_
    refine gX2_belows X hw wq_2_22 dX2_setChance_17 ?_
    refine lv_iload_n X.1 X.2.1 dX2_setChance_20 rfl (lv_at hl 1 rfl) ?_
    refine lv_iload_n X.1 X.2.1 dX2_setChance_21 rfl (lv_at hl 3 rfl) ?_
    replace hm := gd_e hm
    obtain ⟨g_6, hm⟩ := hm
    refine sA3 X hw g_6 dX2_setChance_22 (fun H locs hw => ?_)
    obtain ⟨b_7, eb_7⟩ : ∃ y, y = wA b_5 3 x1.toNatClampNeg x3 := ⟨_, rfl⟩
    rw [← eb_7] at hw
    replace hm := lt_e hm eb_7
    obtain rfl := Option.some.inj hm
    exact hret _ _ _ _ hw dX2_setChance_23
  · replace hm := it_p hm c_3
    obtain rfl := Option.some.inj hm
    exact hret _ _ _ _ hw dX2_setChance_8
def m_X2_setSeen (b : ST) (x1 : Int32) (x2 : Int32) : Option (ST) := Option.bind (m_X2_hasLink b x1) (fun (r_2 : Int32) => if r_2 = 0 then some b else gd (¬ (x1 < 0 ∨ 10 ≤ x1.toNatClampNeg)) (lt (wA b 4 x1.toNatClampNeg x2) (fun b_5 => some b_5)))
theorem yo_X2_setSeen : yX2_setSeen.cls = RX2 ∧ yX2_setSeen.cls ≠ "java/lang/invoke/MethodHandle" ∧ yX2_setSeen.cls ≠ "java/lang/invoke/VarHandle" ∧ (parseMethodDescriptor yX2_setSeen.desc).map (fun d => d.parameters.length) = some 2 := by decide +kernel
set_option maxHeartbeats 4000000 in
set_option maxRecDepth 100000 in
theorem c_X2_setSeen {l : Launch} {g : gT} {h : Nat → Nat} {b : ST} {w : Nat → ST} {x1 : Int32} {x2 : Int32} {b' : ST} (hm : m_X2_setSeen b x1 x2 = some (b')) : MetV l g yX2_setSeen cX2_setSeen 3 none 1 21 79 h (cC g h (b, w)) (cC g h (b', w)) [.ref (h 1), .int x1, .int x2] := by
  refine MetV.ofX (by decide +kernel) (Nat.le_of_ble_eq_true rfl) ?_
  intro p e s m below meth c AV Q X hret ls hw hl
  replace X : Cx g p s m AV c cX2_setSeen RX2 3 := X
  replace hl : lv_has ls 3 [(0, .ref (h 1)), (1, .int x1), (2, .int x2)] := hl
  unfold m_X2_setSeen at hm
  refine lv_aload_n X.1 X.2.1 dX2_setSeen_0 rfl (lv_at hl 0 rfl) ?_
  refine lv_iload_n X.1 X.2.1 dX2_setSeen_1 rfl (lv_at hl 1 rfl) ?_
  replace hm := ob_e hm
  obtain ⟨r_2, h_1, hm⟩ := hm
  refine k_Vi (k := 1) (As := [.int x1]) X hl.1 hw (c_X2_hasLink h_1) (by decide) (he_X2 g h _ _) rfl ⟨wq_7_22, wq_7_23, wq_8_0, wq_1_13, wq_8_1⟩ yo_X2_hasLink rfl ⟨Nat.le_of_ble_eq_true rfl, Nat.le_of_ble_eq_true rfl⟩ (Nat.le_of_ble_eq_true rfl) dX2_setSeen_2 (fun H locs hw => ?_)
  refine lv_if_eq (tgt := 15) X.1 X.2.1 dX2_setSeen_5 (by decide) (fun c_3 => ?_) (fun c_3 => ?_)
  · replace hm := it_p hm c_3
    obtain rfl := Option.some.inj hm
    exact hret _ _ _ _ hw dX2_setSeen_15
  · replace hm := it_n hm c_3
    refine lv_aload_n X.1 X.2.1 dX2_setSeen_8 rfl (lv_at hl 0 rfl) ?_
    refine gX2_seens X hw wq_2_23 dX2_setSeen_9 ?_
    refine lv_iload_n X.1 X.2.1 dX2_setSeen_12 rfl (lv_at hl 1 rfl) ?_
    refine lv_iload_n X.1 X.2.1 dX2_setSeen_13 rfl (lv_at hl 2 rfl) ?_
    replace hm := gd_e hm
    obtain ⟨g_4, hm⟩ := hm
    refine sA4 X hw g_4 dX2_setSeen_14 (fun H locs hw => ?_)
    obtain ⟨b_5, eb_5⟩ : ∃ y, y = wA b 4 x1.toNatClampNeg x2 := ⟨_, rfl⟩
    rw [← eb_5] at hw
    replace hm := lt_e hm eb_5
    obtain rfl := Option.some.inj hm
    exact hret _ _ _ _ hw dX2_setSeen_15
def m_X2_setSource (b : ST) (x1 : Int32) : Option (ST) := lt (wI b 2 x1) (fun b_1 => some b_1)
theorem yo_X2_setSource : yX2_setSource.cls = RX2 ∧ yX2_setSource.cls ≠ "java/lang/invoke/MethodHandle" ∧ yX2_setSource.cls ≠ "java/lang/invoke/VarHandle" ∧ (parseMethodDescriptor yX2_setSource.desc).map (fun d => d.parameters.length) = some 1 := by decide +kernel
set_option maxHeartbeats 4000000 in
set_option maxRecDepth 100000 in
theorem c_X2_setSource {l : Launch} {g : gT} {h : Nat → Nat} {b : ST} {w : Nat → ST} {x1 : Int32} {b' : ST} (hm : m_X2_setSource b x1 = some (b')) : MetV l g yX2_setSource cX2_setSource 2 none 0 0 79 h (cC g h (b, w)) (cC g h (b', w)) [.ref (h 1), .int x1] := by
  refine MetV.ofX (by decide +kernel) (Nat.le_of_ble_eq_true rfl) ?_
  intro p e s m below meth c AV Q X hret ls hw hl
  replace X : Cx g p s m AV c cX2_setSource RX2 2 := X
  replace hl : lv_has ls 2 [(0, .ref (h 1)), (1, .int x1)] := hl
  unfold m_X2_setSource at hm
  refine lv_aload_n X.1 X.2.1 dX2_setSource_0 rfl (lv_at hl 0 rfl) ?_
  refine lv_iload_n X.1 X.2.1 dX2_setSource_1 rfl (lv_at hl 1 rfl) ?_
  refine pX2_source X hw wq_6_4 dX2_setSource_2 (fun H locs hw => ?_)
  obtain ⟨b_1, eb_1⟩ : ∃ y, y = wI b 2 x1 := ⟨_, rfl⟩
  rw [← eb_1] at hw
  replace hm := lt_e hm eb_1
  obtain rfl := Option.some.inj hm
  exact hret _ _ _ _ hw dX2_setSource_5
def m_X2_setGoals (b : ST) (x1 : Int32) : Option (ST) := lt (wI b 3 x1) (fun b_1 => some b_1)
theorem yo_X2_setGoals : yX2_setGoals.cls = RX2 ∧ yX2_setGoals.cls ≠ "java/lang/invoke/MethodHandle" ∧ yX2_setGoals.cls ≠ "java/lang/invoke/VarHandle" ∧ (parseMethodDescriptor yX2_setGoals.desc).map (fun d => d.parameters.length) = some 1 := by decide +kernel
set_option maxHeartbeats 4000000 in
set_option maxRecDepth 100000 in
theorem c_X2_setGoals {l : Launch} {g : gT} {h : Nat → Nat} {b : ST} {w : Nat → ST} {x1 : Int32} {b' : ST} (hm : m_X2_setGoals b x1 = some (b')) : MetV l g yX2_setGoals cX2_setGoals 2 none 0 0 79 h (cC g h (b, w)) (cC g h (b', w)) [.ref (h 1), .int x1] := by
  refine MetV.ofX (by decide +kernel) (Nat.le_of_ble_eq_true rfl) ?_
  intro p e s m below meth c AV Q X hret ls hw hl
  replace X : Cx g p s m AV c cX2_setGoals RX2 2 := X
  replace hl : lv_has ls 2 [(0, .ref (h 1)), (1, .int x1)] := hl
  unfold m_X2_setGoals at hm
  refine lv_aload_n X.1 X.2.1 dX2_setGoals_0 rfl (lv_at hl 0 rfl) ?_
  refine lv_iload_n X.1 X.2.1 dX2_setGoals_1 rfl (lv_at hl 1 rfl) ?_
  refine pX2_goals X hw wq_6_5 dX2_setGoals_2 (fun H locs hw => ?_)
  obtain ⟨b_1, eb_1⟩ : ∃ y, y = wI b 3 x1 := ⟨_, rfl⟩
  rw [← eb_1] at hw
  replace hm := lt_e hm eb_1
  obtain rfl := Option.some.inj hm
  exact hret _ _ _ _ hw dX2_setGoals_5
def m_X2_aboveOf (b : ST) (x1 : Int32) : Option (Int32) := Option.bind (m_X2_hasLink b x1) (fun (r_2 : Int32) => if r_2 = 0 then some (0 : Int32) else gd (¬ (x1 < 0 ∨ 10 ≤ x1.toNatClampNeg)) (some (b.2.2.1 2 x1.toNatClampNeg)))
theorem yo_X2_aboveOf : yX2_aboveOf.cls = RX2 ∧ yX2_aboveOf.cls ≠ "java/lang/invoke/MethodHandle" ∧ yX2_aboveOf.cls ≠ "java/lang/invoke/VarHandle" ∧ (parseMethodDescriptor yX2_aboveOf.desc).map (fun d => d.parameters.length) = some 1 := by decide +kernel
set_option maxHeartbeats 4000000 in
set_option maxRecDepth 100000 in
theorem c_X2_aboveOf {l : Launch} {g : gT} {h : Nat → Nat} {b : ST} {w : Nat → ST} {x1 : Int32} {r : Int32} (hm : m_X2_aboveOf b x1 = some r) : MetI l g yX2_aboveOf cX2_aboveOf 2 (some .int) 1 21 79 h (cC g h (b, w)) (cC g h (b, w)) [.ref (h 1), .int x1] r := by
  refine MetI.ofX (by decide +kernel) (Nat.le_of_ble_eq_true rfl) ?_
  intro p e s m below meth c AV Q X hret ls hw hl
  replace X : Cx g p s m AV c cX2_aboveOf RX2 2 := X
  replace hl : lv_has ls 2 [(0, .ref (h 1)), (1, .int x1)] := hl
  unfold m_X2_aboveOf at hm
  refine lv_aload_n X.1 X.2.1 dX2_aboveOf_0 rfl (lv_at hl 0 rfl) ?_
  refine lv_iload_n X.1 X.2.1 dX2_aboveOf_1 rfl (lv_at hl 1 rfl) ?_
  replace hm := ob_e hm
  obtain ⟨r_2, h_1, hm⟩ := hm
  refine k_Vi (k := 1) (As := [.int x1]) X hl.1 hw (c_X2_hasLink h_1) (by decide) (he_X2 g h _ _) rfl ⟨wq_7_22, wq_7_23, wq_8_0, wq_1_13, wq_8_1⟩ yo_X2_hasLink rfl ⟨Nat.le_of_ble_eq_true rfl, Nat.le_of_ble_eq_true rfl⟩ (Nat.le_of_ble_eq_true rfl) dX2_aboveOf_2 (fun H locs hw => ?_)
  refine lv_if_eq (tgt := 17) X.1 X.2.1 dX2_aboveOf_5 (by decide) (fun c_3 => ?_) (fun c_3 => ?_)
  · replace hm := it_p hm c_3
    refine lv_iconst (v := 0) X.1 X.2.1 dX2_aboveOf_17 (by decide) ?_
    obtain rfl := Option.some.inj hm
    exact hret _ _ _ _ hw dX2_aboveOf_18
  · replace hm := it_n hm c_3
    refine lv_aload_n X.1 X.2.1 dX2_aboveOf_8 rfl (lv_at hl 0 rfl) ?_
    refine gX2_aboves X hw wq_2_21 dX2_aboveOf_9 ?_
    refine lv_iload_n X.1 X.2.1 dX2_aboveOf_12 rfl (lv_at hl 1 rfl) ?_
    replace hm := gd_e hm
    obtain ⟨g_4, hm⟩ := hm
    refine lA2 X hw g_4 dX2_aboveOf_13 ?_
    refine lv_goto (tgt := 18) X.1 X.2.1 dX2_aboveOf_14 (by decide) ?_
    obtain rfl := Option.some.inj hm
    exact hret _ _ _ _ hw dX2_aboveOf_18
def m_X2_belowOf (b : ST) (x1 : Int32) : Option (Int32) := Option.bind (m_X2_hasLink b x1) (fun (r_2 : Int32) => if r_2 = 0 then some (1 : Int32) else gd (¬ (x1 < 0 ∨ 10 ≤ x1.toNatClampNeg)) (some (b.2.2.1 3 x1.toNatClampNeg)))
theorem yo_X2_belowOf : yX2_belowOf.cls = RX2 ∧ yX2_belowOf.cls ≠ "java/lang/invoke/MethodHandle" ∧ yX2_belowOf.cls ≠ "java/lang/invoke/VarHandle" ∧ (parseMethodDescriptor yX2_belowOf.desc).map (fun d => d.parameters.length) = some 1 := by decide +kernel
set_option maxHeartbeats 4000000 in
set_option maxRecDepth 100000 in
theorem c_X2_belowOf {l : Launch} {g : gT} {h : Nat → Nat} {b : ST} {w : Nat → ST} {x1 : Int32} {r : Int32} (hm : m_X2_belowOf b x1 = some r) : MetI l g yX2_belowOf cX2_belowOf 2 (some .int) 1 21 79 h (cC g h (b, w)) (cC g h (b, w)) [.ref (h 1), .int x1] r := by
  refine MetI.ofX (by decide +kernel) (Nat.le_of_ble_eq_true rfl) ?_
  intro p e s m below meth c AV Q X hret ls hw hl
  replace X : Cx g p s m AV c cX2_belowOf RX2 2 := X
  replace hl : lv_has ls 2 [(0, .ref (h 1)), (1, .int x1)] := hl
  unfold m_X2_belowOf at hm
  refine lv_aload_n X.1 X.2.1 dX2_belowOf_0 rfl (lv_at hl 0 rfl) ?_
  refine lv_iload_n X.1 X.2.1 dX2_belowOf_1 rfl (lv_at hl 1 rfl) ?_
  replace hm := ob_e hm
  obtain ⟨r_2, h_1, hm⟩ := hm
  refine k_Vi (k := 1) (As := [.int x1]) X hl.1 hw (c_X2_hasLink h_1) (by decide) (he_X2 g h _ _) rfl ⟨wq_7_22, wq_7_23, wq_8_0, wq_1_13, wq_8_1⟩ yo_X2_hasLink rfl ⟨Nat.le_of_ble_eq_true rfl, Nat.le_of_ble_eq_true rfl⟩ (Nat.le_of_ble_eq_true rfl) dX2_belowOf_2 (fun H locs hw => ?_)
  refine lv_if_eq (tgt := 17) X.1 X.2.1 dX2_belowOf_5 (by decide) (fun c_3 => ?_) (fun c_3 => ?_)
  · replace hm := it_p hm c_3
    refine lv_iconst (v := 1) X.1 X.2.1 dX2_belowOf_17 (by decide) ?_
    obtain rfl := Option.some.inj hm
    exact hret _ _ _ _ hw dX2_belowOf_18
  · replace hm := it_n hm c_3
    refine lv_aload_n X.1 X.2.1 dX2_belowOf_8 rfl (lv_at hl 0 rfl) ?_
    refine gX2_belows X hw wq_2_22 dX2_belowOf_9 ?_
    refine lv_iload_n X.1 X.2.1 dX2_belowOf_12 rfl (lv_at hl 1 rfl) ?_
    replace hm := gd_e hm
    obtain ⟨g_4, hm⟩ := hm
    refine lA3 X hw g_4 dX2_belowOf_13 ?_
    refine lv_goto (tgt := 18) X.1 X.2.1 dX2_belowOf_14 (by decide) ?_
    obtain rfl := Option.some.inj hm
    exact hret _ _ _ _ hw dX2_belowOf_18
def m_X2_seenOf (b : ST) (x1 : Int32) : Option (Int32) := Option.bind (m_X2_hasLink b x1) (fun (r_2 : Int32) => if r_2 = 0 then some (0 : Int32) else gd (¬ (x1 < 0 ∨ 10 ≤ x1.toNatClampNeg)) (some (b.2.2.1 4 x1.toNatClampNeg)))
theorem yo_X2_seenOf : yX2_seenOf.cls = RX2 ∧ yX2_seenOf.cls ≠ "java/lang/invoke/MethodHandle" ∧ yX2_seenOf.cls ≠ "java/lang/invoke/VarHandle" ∧ (parseMethodDescriptor yX2_seenOf.desc).map (fun d => d.parameters.length) = some 1 := by decide +kernel
set_option maxHeartbeats 4000000 in
set_option maxRecDepth 100000 in
theorem c_X2_seenOf {l : Launch} {g : gT} {h : Nat → Nat} {b : ST} {w : Nat → ST} {x1 : Int32} {r : Int32} (hm : m_X2_seenOf b x1 = some r) : MetI l g yX2_seenOf cX2_seenOf 2 (some .int) 1 21 79 h (cC g h (b, w)) (cC g h (b, w)) [.ref (h 1), .int x1] r := by
  refine MetI.ofX (by decide +kernel) (Nat.le_of_ble_eq_true rfl) ?_
  intro p e s m below meth c AV Q X hret ls hw hl
  replace X : Cx g p s m AV c cX2_seenOf RX2 2 := X
  replace hl : lv_has ls 2 [(0, .ref (h 1)), (1, .int x1)] := hl
  unfold m_X2_seenOf at hm
  refine lv_aload_n X.1 X.2.1 dX2_seenOf_0 rfl (lv_at hl 0 rfl) ?_
  refine lv_iload_n X.1 X.2.1 dX2_seenOf_1 rfl (lv_at hl 1 rfl) ?_
  replace hm := ob_e hm
  obtain ⟨r_2, h_1, hm⟩ := hm
  refine k_Vi (k := 1) (As := [.int x1]) X hl.1 hw (c_X2_hasLink h_1) (by decide) (he_X2 g h _ _) rfl ⟨wq_7_22, wq_7_23, wq_8_0, wq_1_13, wq_8_1⟩ yo_X2_hasLink rfl ⟨Nat.le_of_ble_eq_true rfl, Nat.le_of_ble_eq_true rfl⟩ (Nat.le_of_ble_eq_true rfl) dX2_seenOf_2 (fun H locs hw => ?_)
  refine lv_if_eq (tgt := 17) X.1 X.2.1 dX2_seenOf_5 (by decide) (fun c_3 => ?_) (fun c_3 => ?_)
  · replace hm := it_p hm c_3
    refine lv_iconst (v := 0) X.1 X.2.1 dX2_seenOf_17 (by decide) ?_
    obtain rfl := Option.some.inj hm
    exact hret _ _ _ _ hw dX2_seenOf_18
  · replace hm := it_n hm c_3
    refine lv_aload_n X.1 X.2.1 dX2_seenOf_8 rfl (lv_at hl 0 rfl) ?_
    refine gX2_seens X hw wq_2_23 dX2_seenOf_9 ?_
    refine lv_iload_n X.1 X.2.1 dX2_seenOf_12 rfl (lv_at hl 1 rfl) ?_
    replace hm := gd_e hm
    obtain ⟨g_4, hm⟩ := hm
    refine lA4 X hw g_4 dX2_seenOf_13 ?_
    refine lv_goto (tgt := 18) X.1 X.2.1 dX2_seenOf_14 (by decide) ?_
    obtain rfl := Option.some.inj hm
    exact hret _ _ _ _ hw dX2_seenOf_18
def m_X2_upParts (b : ST) (x1 : Int32) : Option (Int32) := Option.bind (m_X2_seenOf b x1) (fun (r_2 : Int32) => if r_2 = 0 then Option.bind (m_X2_aboveOf b x1) (fun (r_6 : Int32) => some r_6) else if r_2 = (1 : Int32) then some (1 : Int32) else some (0 : Int32))
theorem yo_X2_upParts : yX2_upParts.cls = RX2 ∧ yX2_upParts.cls ≠ "java/lang/invoke/MethodHandle" ∧ yX2_upParts.cls ≠ "java/lang/invoke/VarHandle" ∧ (parseMethodDescriptor yX2_upParts.desc).map (fun d => d.parameters.length) = some 1 := by decide +kernel
set_option maxHeartbeats 4000000 in
set_option maxRecDepth 100000 in
theorem c_X2_upParts {l : Launch} {g : gT} {h : Nat → Nat} {b : ST} {w : Nat → ST} {x1 : Int32} {r : Int32} (hm : m_X2_upParts b x1 = some r) : MetI l g yX2_upParts cX2_upParts 3 (some .int) 2 42 79 h (cC g h (b, w)) (cC g h (b, w)) [.ref (h 1), .int x1] r := by
  refine MetI.ofX (by decide +kernel) (Nat.le_of_ble_eq_true rfl) ?_
  intro p e s m below meth c AV Q X hret ls hw hl
  replace X : Cx g p s m AV c cX2_upParts RX2 3 := X
  replace hl : lv_has ls 3 [(0, .ref (h 1)), (1, .int x1)] := hl
  unfold m_X2_upParts at hm
  refine lv_aload_n X.1 X.2.1 dX2_upParts_0 rfl (lv_at hl 0 rfl) ?_
  refine lv_iload_n X.1 X.2.1 dX2_upParts_1 rfl (lv_at hl 1 rfl) ?_
  replace hm := ob_e hm
  obtain ⟨r_2, h_1, hm⟩ := hm
  refine k_Vi (k := 1) (As := [.int x1]) X hl.1 hw (c_X2_seenOf h_1) (by decide) (he_X2 g h _ _) rfl ⟨wq_11_5, wq_8_18, wq_8_19, wq_1_13, wq_8_20⟩ yo_X2_seenOf rfl ⟨Nat.le_of_ble_eq_true rfl, Nat.le_of_ble_eq_true rfl⟩ (Nat.le_of_ble_eq_true rfl) dX2_upParts_2 (fun H locs hw => ?_)
  refine lv_istore_n (lv' := [(2, .int r_2), (0, .ref (h 1)), (1, .int x1)]) X.1 X.2.1 dX2_upParts_5 rfl hl (by decide) rfl (fun ls hl => ?_)
  refine lv_iload_n X.1 X.2.1 dX2_upParts_6 rfl (lv_at hl 0 rfl) ?_
  refine lv_if_ne (tgt := 16) X.1 X.2.1 dX2_upParts_7 (by decide) (fun c_3 => ?_) (fun c_3 => ?_)
  · replace hm := it_n hm c_3
    refine lv_iload_n X.1 X.2.1 dX2_upParts_16 rfl (lv_at hl 0 rfl) ?_
    refine lv_iconst (v := 1) X.1 X.2.1 dX2_upParts_17 (by decide) ?_
    refine lv_icmp_ne (tgt := 25) X.1 X.2.1 dX2_upParts_18 (by decide) (fun c_4 => ?_) (fun c_4 => ?_)
    · replace hm := it_n hm c_4
      refine lv_iconst (v := 0) X.1 X.2.1 dX2_upParts_25 (by decide) ?_
      obtain rfl := Option.some.inj hm
      exact hret _ _ _ _ hw dX2_upParts_26
    · replace hm := it_p hm c_4
      refine lv_iconst (v := 1) X.1 X.2.1 dX2_upParts_21 (by decide) ?_
      refine lv_goto (tgt := 26) X.1 X.2.1 dX2_upParts_22 (by decide) ?_
      obtain rfl := Option.some.inj hm
      exact hret _ _ _ _ hw dX2_upParts_26
  · replace hm := it_p hm c_3
    refine lv_aload_n X.1 X.2.1 dX2_upParts_10 rfl (lv_at hl 1 rfl) ?_
    refine lv_iload_n X.1 X.2.1 dX2_upParts_11 rfl (lv_at hl 2 rfl) ?_
    replace hm := ob_e hm
    obtain ⟨r_6, h_5, hm⟩ := hm
    refine k_Vi (k := 1) (As := [.int x1]) X hl.1 hw (c_X2_aboveOf h_5) (by decide) (he_X2 g h _ _) rfl ⟨wq_13_9, wq_13_10, wq_13_11, wq_1_13, wq_13_12⟩ yo_X2_aboveOf rfl ⟨Nat.le_of_ble_eq_true rfl, Nat.le_of_ble_eq_true rfl⟩ (Nat.le_of_ble_eq_true rfl) dX2_upParts_12 (fun H locs hw => ?_)
    obtain rfl := Option.some.inj hm
    exact hret _ _ _ _ hw dX2_upParts_15
def m_X2_wholeParts (b : ST) (x1 : Int32) : Option (Int32) := Option.bind (m_X2_seenOf b x1) (fun (r_2 : Int32) => if r_2 = 0 then Option.bind (m_X2_belowOf b x1) (fun (r_5 : Int32) => some r_5) else some (1 : Int32))
theorem yo_X2_wholeParts : yX2_wholeParts.cls = RX2 ∧ yX2_wholeParts.cls ≠ "java/lang/invoke/MethodHandle" ∧ yX2_wholeParts.cls ≠ "java/lang/invoke/VarHandle" ∧ (parseMethodDescriptor yX2_wholeParts.desc).map (fun d => d.parameters.length) = some 1 := by decide +kernel
set_option maxHeartbeats 4000000 in
set_option maxRecDepth 100000 in
theorem c_X2_wholeParts {l : Launch} {g : gT} {h : Nat → Nat} {b : ST} {w : Nat → ST} {x1 : Int32} {r : Int32} (hm : m_X2_wholeParts b x1 = some r) : MetI l g yX2_wholeParts cX2_wholeParts 2 (some .int) 2 42 79 h (cC g h (b, w)) (cC g h (b, w)) [.ref (h 1), .int x1] r := by
  refine MetI.ofX (by decide +kernel) (Nat.le_of_ble_eq_true rfl) ?_
  intro p e s m below meth c AV Q X hret ls hw hl
  replace X : Cx g p s m AV c cX2_wholeParts RX2 2 := X
  replace hl : lv_has ls 2 [(0, .ref (h 1)), (1, .int x1)] := hl
  unfold m_X2_wholeParts at hm
  refine lv_aload_n X.1 X.2.1 dX2_wholeParts_0 rfl (lv_at hl 0 rfl) ?_
  refine lv_iload_n X.1 X.2.1 dX2_wholeParts_1 rfl (lv_at hl 1 rfl) ?_
  replace hm := ob_e hm
  obtain ⟨r_2, h_1, hm⟩ := hm
  refine k_Vi (k := 1) (As := [.int x1]) X hl.1 hw (c_X2_seenOf h_1) (by decide) (he_X2 g h _ _) rfl ⟨wq_11_5, wq_8_18, wq_8_19, wq_1_13, wq_8_20⟩ yo_X2_seenOf rfl ⟨Nat.le_of_ble_eq_true rfl, Nat.le_of_ble_eq_true rfl⟩ (Nat.le_of_ble_eq_true rfl) dX2_wholeParts_2 (fun H locs hw => ?_)
  refine lv_if_ne (tgt := 16) X.1 X.2.1 dX2_wholeParts_5 (by decide) (fun c_3 => ?_) (fun c_3 => ?_)
  · replace hm := it_n hm c_3
    refine lv_iconst (v := 1) X.1 X.2.1 dX2_wholeParts_16 (by decide) ?_
    obtain rfl := Option.some.inj hm
    exact hret _ _ _ _ hw dX2_wholeParts_17
  · replace hm := it_p hm c_3
    refine lv_aload_n X.1 X.2.1 dX2_wholeParts_8 rfl (lv_at hl 0 rfl) ?_
    refine lv_iload_n X.1 X.2.1 dX2_wholeParts_9 rfl (lv_at hl 1 rfl) ?_
    replace hm := ob_e hm
    obtain ⟨r_5, h_4, hm⟩ := hm
    refine k_Vi (k := 1) (As := [.int x1]) X hl.1 hw (c_X2_belowOf h_4) (by decide) (he_X2 g h _ _) rfl ⟨wq_13_17, wq_13_18, wq_13_19, wq_1_13, wq_13_20⟩ yo_X2_belowOf rfl ⟨Nat.le_of_ble_eq_true rfl, Nat.le_of_ble_eq_true rfl⟩ (Nat.le_of_ble_eq_true rfl) dX2_wholeParts_10 (fun H locs hw => ?_)
    refine lv_goto (tgt := 17) X.1 X.2.1 dX2_wholeParts_13 (by decide) ?_
    obtain rfl := Option.some.inj hm
    exact hret _ _ _ _ hw dX2_wholeParts_17
def m_X2_linksSeen_L4 (x1 : Int32) (b : ST) (σ : Int32 × Int32) : Option ((Int32 × Int32) ⊕ (Int32)) := (fun (q_18 : Int32 × Int32) => un q_18 (fun y_1 y_2 => if (b.1 1) ≤ y_2 then some (.inr y_1) else Option.bind (m_X2_seenOf b y_2) (fun (r_13 : Int32) => if r_13 = x1 then lt (y_1 ||| ((1 : Int32) <<< (y_2 &&& 31))) (fun x_16 => lt (y_2 + 1) (fun x_17 => some (.inl (x_16, x_17)))) else lt (y_2 + 1) (fun x_15 => some (.inl (y_1, x_15)))))) σ
def m_X2_linksSeen (b : ST) (x1 : Int32) : Option (Int32) := Option.bind (vLoop (m_X2_linksSeen_L4 x1 b) FUEL ((0 : Int32), (0 : Int32))) (fun (j_3 : Int32) => some j_3)
theorem yo_X2_linksSeen : yX2_linksSeen.cls = RX2 ∧ yX2_linksSeen.cls ≠ "java/lang/invoke/MethodHandle" ∧ yX2_linksSeen.cls ≠ "java/lang/invoke/VarHandle" ∧ (parseMethodDescriptor yX2_linksSeen.desc).map (fun d => d.parameters.length) = some 1 := by decide +kernel
set_option maxHeartbeats 4000000 in
set_option maxRecDepth 100000 in
theorem c_X2_linksSeen {l : Launch} {g : gT} {h : Nat → Nat} {b : ST} {w : Nat → ST} {x1 : Int32} {r : Int32} (hm : m_X2_linksSeen b x1 = some r) : MetI l g yX2_linksSeen cX2_linksSeen 4 (some .int) 2 42 79 h (cC g h (b, w)) (cC g h (b, w)) [.ref (h 1), .int x1] r := by
  refine MetI.ofX (by decide +kernel) (Nat.le_of_ble_eq_true rfl) ?_
  intro p e s m below meth c AV Q X hret ls hw hl
  replace X : Cx g p s m AV c cX2_linksSeen RX2 4 := X
  replace hl : lv_has ls 4 [(0, .ref (h 1)), (1, .int x1)] := hl
  unfold m_X2_linksSeen at hm
  refine lv_iconst (v := 0) X.1 X.2.1 dX2_linksSeen_0 (by decide) ?_
  refine lv_istore_n (lv' := [(2, .int (0 : Int32)), (0, .ref (h 1)), (1, .int x1)]) X.1 X.2.1 dX2_linksSeen_1 rfl hl (by decide) rfl (fun ls hl => ?_)
  refine lv_iconst (v := 0) X.1 X.2.1 dX2_linksSeen_2 (by decide) ?_
  refine lv_istore_n (lv' := [(3, .int (0 : Int32)), (2, .int (0 : Int32)), (0, .ref (h 1)), (1, .int x1)]) X.1 X.2.1 dX2_linksSeen_3 rfl hl (by decide) rfl (fun ls hl => ?_)
  replace hm := ob_e hm
  obtain ⟨j_3, hL_9, hm⟩ := hm
  have J_8 : ∀ (H : Heap) (locs : List Loc) (ls : Array Slot), Wd g 79 h (cC g h (b, w)) s H locs → lv_has ls 4 [(2, .int j_3)] → W p l e (rW 2 42) s m AV below meth c H locs 0 0 Q (F0 m 33 ls []) := by
    intro H locs ls hw hl
    refine lv_iload_n X.1 X.2.1 dX2_linksSeen_33 rfl (lv_at hl 0 rfl) ?_
    obtain rfl := Option.some.inj hm
    exact hret _ _ _ _ hw dX2_linksSeen_34
  refine vLoop_ind (B := (m_X2_linksSeen_L4 x1 b)) (fun σ => ∀ (H : Heap) (locs : List Loc) (ls : Array Slot), Wd g 79 h (cC g h (b, w)) s H locs → lv_has ls 4 [(0, .ref (h 1)), (1, .int x1), (2, .int σ.1), (3, .int σ.2)] → W p l e (rW 2 42) s m AV below meth c H locs 0 0 Q (F0 m 4 ls [])) (fun z' => z' = j_3) ?_ FUEL _ _ hL_9 rfl _ _ _ hw (lv_sub hl [2, 3, 1, 0] rfl)
  intro σ z_7 hz_4 hn_5 hx_6
  obtain ⟨y_1, y_2⟩ := σ
  intro H locs ls hw hl
  replace hw : Wd g 79 h (cC g h (b, w)) s H locs := hw
  replace hl : lv_has ls 4 [(0, .ref (h 1)), (1, .int x1), (2, .int y_1), (3, .int y_2)] := hl
  unfold m_X2_linksSeen_L4 at hz_4
  replace hz_4 := un_e hz_4
  refine lv_iload_n X.1 X.2.1 dX2_linksSeen_4 rfl (lv_at hl 3 rfl) ?_
  refine lv_aload_n X.1 X.2.1 dX2_linksSeen_5 rfl (lv_at hl 0 rfl) ?_
  refine gX2_linkCount X hw wq_6_3 dX2_linksSeen_6 ?_
  refine lv_icmp_ge (tgt := 33) X.1 X.2.1 dX2_linksSeen_9 (by decide) (fun c_11 => ?_) (fun c_11 => ?_)
  · replace hz_4 := it_p hz_4 c_11
    obtain rfl := hx_6 _ (Option.some.inj hz_4).symm
    exact J_8 _ _ _ hw (lv_sub hl [2] rfl)
  · replace hz_4 := it_n hz_4 c_11
    refine lv_aload_n X.1 X.2.1 dX2_linksSeen_12 rfl (lv_at hl 0 rfl) ?_
    refine lv_iload_n X.1 X.2.1 dX2_linksSeen_13 rfl (lv_at hl 3 rfl) ?_
    replace hz_4 := ob_e hz_4
    obtain ⟨r_13, h_12, hz_4⟩ := hz_4
    refine k_Vi (k := 1) (As := [.int y_2]) X hl.1 hw (c_X2_seenOf h_12) (by decide) (he_X2 g h _ _) rfl ⟨wq_11_5, wq_8_18, wq_8_19, wq_1_13, wq_8_20⟩ yo_X2_seenOf rfl ⟨Nat.le_of_ble_eq_true rfl, Nat.le_of_ble_eq_true rfl⟩ (Nat.le_of_ble_eq_true rfl) dX2_linksSeen_14 (fun H locs hw => ?_)
    refine lv_iload_n X.1 X.2.1 dX2_linksSeen_17 rfl (lv_at hl 1 rfl) ?_
    refine lv_icmp_ne (tgt := 27) X.1 X.2.1 dX2_linksSeen_18 (by decide) (fun c_14 => ?_) (fun c_14 => ?_)
    · replace hz_4 := it_n hz_4 c_14
      obtain ⟨x_15, ex_15⟩ : ∃ y : Int32, y = y_2 + 1 := ⟨_, rfl⟩
      replace hz_4 := lt_e hz_4 ex_15
      refine lv_iinc (v := x_15) (lv' := [(3, .int x_15), (0, .ref (h 1)), (1, .int x1), (2, .int y_1)]) X.1 X.2.1 dX2_linksSeen_27 hl (k := 3) rfl (by rw [ex_15]; rfl) (by decide) rfl (fun ls hl => ?_)
      refine lv_goto (tgt := 4) X.1 X.2.1 dX2_linksSeen_30 (by decide) ?_
      exact hn_5 _ (Option.some.inj hz_4).symm _ _ _ hw (lv_sub hl [1, 2, 3, 0] rfl)
    · replace hz_4 := it_p hz_4 c_14
      refine lv_iload_n X.1 X.2.1 dX2_linksSeen_21 rfl (lv_at hl 2 rfl) ?_
      refine lv_iconst (v := 1) X.1 X.2.1 dX2_linksSeen_22 (by decide) ?_
      refine lv_iload_n X.1 X.2.1 dX2_linksSeen_23 rfl (lv_at hl 3 rfl) ?_
      refine lv_ishl X.1 X.2.1 dX2_linksSeen_24 ?_
      refine lv_ior X.1 X.2.1 dX2_linksSeen_25 ?_
      refine lv_topi (fun x_16 ex_16 => ?_)
      replace hz_4 := lt_e hz_4 ex_16
      refine lv_istore_n (lv' := [(2, .int x_16), (0, .ref (h 1)), (1, .int x1), (3, .int y_2)]) X.1 X.2.1 dX2_linksSeen_26 rfl hl (by decide) rfl (fun ls hl => ?_)
      obtain ⟨x_17, ex_17⟩ : ∃ y : Int32, y = y_2 + 1 := ⟨_, rfl⟩
      replace hz_4 := lt_e hz_4 ex_17
      refine lv_iinc (v := x_17) (lv' := [(3, .int x_17), (2, .int x_16), (0, .ref (h 1)), (1, .int x1)]) X.1 X.2.1 dX2_linksSeen_27 hl (k := 3) rfl (by rw [ex_17]; rfl) (by decide) rfl (fun ls hl => ?_)
      refine lv_goto (tgt := 4) X.1 X.2.1 dX2_linksSeen_30 (by decide) ?_
      exact hn_5 _ (Option.some.inj hz_4).symm _ _ _ hw (lv_sub hl [2, 3, 1, 0] rfl)
def m_X2_joinedWith (b : ST) (x1 : Int32) (x2 : Int32) : Option (Int32) := if x1 < 0 then some (0 : Int32) else if x1 < (1024 : Int32) then gd (¬ (x1 < 0 ∨ 1024 ≤ x1.toNatClampNeg)) (Option.bind (m_X2_stationsIn (b.2.2.2 0 x1.toNatClampNeg) x2) (fun (r_5 : Int32) => some r_5)) else some (0 : Int32)
theorem yo_X2_joinedWith : yX2_joinedWith.cls = RX2 ∧ yX2_joinedWith.cls ≠ "java/lang/invoke/MethodHandle" ∧ yX2_joinedWith.cls ≠ "java/lang/invoke/VarHandle" ∧ (parseMethodDescriptor yX2_joinedWith.desc).map (fun d => d.parameters.length) = some 2 := by decide +kernel
set_option maxHeartbeats 4000000 in
set_option maxRecDepth 100000 in
theorem c_X2_joinedWith {l : Launch} {g : gT} {h : Nat → Nat} {b : ST} {w : Nat → ST} {x1 : Int32} {x2 : Int32} {r : Int32} (hm : m_X2_joinedWith b x1 x2 = some r) : MetI l g yX2_joinedWith cX2_joinedWith 3 (some .int) 1 22 79 h (cC g h (b, w)) (cC g h (b, w)) [.ref (h 1), .int x1, .int x2] r := by
  refine MetI.ofX (by decide +kernel) (Nat.le_of_ble_eq_true rfl) ?_
  intro p e s m below meth c AV Q X hret ls hw hl
  replace X : Cx g p s m AV c cX2_joinedWith RX2 3 := X
  replace hl : lv_has ls 3 [(0, .ref (h 1)), (1, .int x1), (2, .int x2)] := hl
  unfold m_X2_joinedWith at hm
  refine lv_iload_n X.1 X.2.1 dX2_joinedWith_0 rfl (lv_at hl 1 rfl) ?_
  refine lv_if_lt (tgt := 11) X.1 X.2.1 dX2_joinedWith_1 (by decide) (fun c_1 => ?_) (fun c_1 => ?_)
  · replace hm := it_p hm c_1
    refine lv_iconst (v := 0) X.1 X.2.1 dX2_joinedWith_11 (by decide) ?_
    obtain rfl := Option.some.inj hm
    exact hret _ _ _ _ hw dX2_joinedWith_12
  · replace hm := it_n hm c_1
    refine lv_iload_n X.1 X.2.1 dX2_joinedWith_4 rfl (lv_at hl 1 rfl) ?_
    refine lv_sipush (v := 1024) X.1 X.2.1 dX2_joinedWith_5 (by decide) ?_
    refine lv_icmp_lt (tgt := 13) X.1 X.2.1 dX2_joinedWith_8 (by decide) (fun c_2 => ?_) (fun c_2 => ?_)
    · replace hm := it_p hm c_2
      refine lv_aload_n X.1 X.2.1 dX2_joinedWith_13 rfl (lv_at hl 0 rfl) ?_
      refine gX2_joinings X hw wq_3_1 dX2_joinedWith_14 ?_
      refine lv_iload_n X.1 X.2.1 dX2_joinedWith_17 rfl (lv_at hl 1 rfl) ?_
      replace hm := gd_e hm
      obtain ⟨g_3, hm⟩ := hm
      refine lB0 X hw g_3 dX2_joinedWith_18 ?_
      refine lv_iload_n X.1 X.2.1 dX2_joinedWith_19 rfl (lv_at hl 2 rfl) ?_
      replace hm := ob_e hm
      obtain ⟨r_5, h_4, hm⟩ := hm
      refine k_Si (As := [.long (b.2.2.2 0 x1.toNatClampNeg), .int x2]) X hl.1 hw (c_X2_stationsIn h_4) ⟨wq_8_9, wq_8_10, wq_1_13, wq_8_11⟩ yo_X2_stationsIn rfl ⟨Nat.le_of_ble_eq_true rfl, Nat.le_of_ble_eq_true rfl⟩ (Nat.le_of_ble_eq_true rfl) dX2_joinedWith_20 (fun H locs hw => ?_)
      obtain rfl := Option.some.inj hm
      exact hret _ _ _ _ hw dX2_joinedWith_23
    · replace hm := it_n hm c_2
      refine lv_iconst (v := 0) X.1 X.2.1 dX2_joinedWith_11 (by decide) ?_
      obtain rfl := Option.some.inj hm
      exact hret _ _ _ _ hw dX2_joinedWith_12
def m_X2_reaches (b : ST) (x1 : Int32) : Option (Int32) := Option.bind (m_X2_wantedStations b) (fun (r_2 : Int32) => Option.bind (m_X2_joinedWith b x1 (b.1 2)) (fun (r_4 : Int32) => if (r_2 &&& (r_4 ^^^ (-1 : Int32))) = 0 then some (1 : Int32) else some (0 : Int32)))
theorem yo_X2_reaches : yX2_reaches.cls = RX2 ∧ yX2_reaches.cls ≠ "java/lang/invoke/MethodHandle" ∧ yX2_reaches.cls ≠ "java/lang/invoke/VarHandle" ∧ (parseMethodDescriptor yX2_reaches.desc).map (fun d => d.parameters.length) = some 1 := by decide +kernel
set_option maxHeartbeats 4000000 in
set_option maxRecDepth 100000 in
theorem c_X2_reaches {l : Launch} {g : gT} {h : Nat → Nat} {b : ST} {w : Nat → ST} {x1 : Int32} {r : Int32} (hm : m_X2_reaches b x1 = some r) : MetI l g yX2_reaches cX2_reaches 2 (some .boolean) 2 44 79 h (cC g h (b, w)) (cC g h (b, w)) [.ref (h 1), .int x1] r := by
  refine MetZ.ofX (by decide +kernel) (Nat.le_of_ble_eq_true rfl) ?_
  intro p e s m below meth c AV Q X hret ls hw hl
  replace X : Cx g p s m AV c cX2_reaches RX2 2 := X
  replace hl : lv_has ls 2 [(0, .ref (h 1)), (1, .int x1)] := hl
  unfold m_X2_reaches at hm
  refine lv_aload_n X.1 X.2.1 dX2_reaches_0 rfl (lv_at hl 0 rfl) ?_
  replace hm := ob_e hm
  obtain ⟨r_2, h_1, hm⟩ := hm
  refine k_Vi (k := 1) (As := []) X hl.1 hw (c_X2_wantedStations h_1) (by decide) (he_X2 g h _ _) rfl ⟨wq_11_14, wq_10_15, wq_10_16, wq_1_13, wq_10_17⟩ yo_X2_wantedStations rfl ⟨Nat.le_of_ble_eq_true rfl, Nat.le_of_ble_eq_true rfl⟩ (Nat.le_of_ble_eq_true rfl) dX2_reaches_1 (fun H locs hw => ?_)
  refine lv_aload_n X.1 X.2.1 dX2_reaches_4 rfl (lv_at hl 0 rfl) ?_
  refine lv_iload_n X.1 X.2.1 dX2_reaches_5 rfl (lv_at hl 1 rfl) ?_
  refine lv_aload_n X.1 X.2.1 dX2_reaches_6 rfl (lv_at hl 0 rfl) ?_
  refine gX2_source X hw wq_6_4 dX2_reaches_7 ?_
  replace hm := ob_e hm
  obtain ⟨r_4, h_3, hm⟩ := hm
  refine k_Vi (k := 1) (As := [.int x1, .int (b.1 2)]) X hl.1 hw (c_X2_joinedWith h_3) (by decide) (he_X2 g h _ _) rfl ⟨wq_11_15, wq_11_16, wq_11_17, wq_1_13, wq_11_18⟩ yo_X2_joinedWith rfl ⟨Nat.le_of_ble_eq_true rfl, Nat.le_of_ble_eq_true rfl⟩ (Nat.le_of_ble_eq_true rfl) dX2_reaches_10 (fun H locs hw => ?_)
  refine lv_iconst (v := -1) X.1 X.2.1 dX2_reaches_13 (by decide) ?_
  refine lv_ixor X.1 X.2.1 dX2_reaches_14 ?_
  refine lv_iand X.1 X.2.1 dX2_reaches_15 ?_
  refine lv_if_ne (tgt := 23) X.1 X.2.1 dX2_reaches_16 (by decide) (fun c_5 => ?_) (fun c_5 => ?_)
  · replace hm := it_n hm c_5
    refine lv_iconst (v := 0) X.1 X.2.1 dX2_reaches_23 (by decide) ?_
    obtain rfl := Option.some.inj hm
    exact hret _ _ _ _ hw dX2_reaches_24 (Or.inl rfl)
  · replace hm := it_p hm c_5
    refine lv_iconst (v := 1) X.1 X.2.1 dX2_reaches_19 (by decide) ?_
    refine lv_goto (tgt := 24) X.1 X.2.1 dX2_reaches_20 (by decide) ?_
    obtain rfl := Option.some.inj hm
    exact hret _ _ _ _ hw dX2_reaches_24 (Or.inr rfl)
