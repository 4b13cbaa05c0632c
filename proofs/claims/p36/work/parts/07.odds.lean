def m_X3_spread_L8 (x2 : Int32) (x3 : Int32) (x_1 : Int32) (σ : Int32 × ST) : Option ((Int32 × ST) ⊕ (ST)) := (fun (q_22 : Int32 × ST) => un q_22 (fun y_2 b_3 => if x_1 ≤ y_2 then some (.inr b_3) else if (1024 : Int32) ≤ (x_1 + y_2) then some (.inr b_3) else gd (¬ (y_2 < 0 ∨ 1024 ≤ y_2.toNatClampNeg)) (gd (¬ ((x_1 + y_2) < 0 ∨ 1024 ≤ (x_1 + y_2).toNatClampNeg)) (lt (wB b_3 1 (x_1 + y_2).toNatClampNeg (((b_3.2.2.2 1 y_2.toNatClampNeg) * x2.toInt64))) (fun b_17 => gd (¬ (y_2 < 0 ∨ 1024 ≤ y_2.toNatClampNeg)) (gd (¬ (y_2 < 0 ∨ 1024 ≤ y_2.toNatClampNeg)) (lt (wB b_17 1 y_2.toNatClampNeg (((b_17.2.2.2 1 y_2.toNatClampNeg) * (x3 - x2).toInt64))) (fun b_20 => lt (y_2 + 1) (fun x_21 => some (.inl (x_21, b_20))))))))))) σ
def m_X3_spread (b : ST) (x1 : Int32) (x2 : Int32) (x3 : Int32) : Option (ST) := lt ((1 : Int32) <<< (x1 &&& 31)) (fun x_1 => Option.bind (vLoop (m_X3_spread_L8 x2 x3 x_1) FUEL ((0 : Int32), b)) (fun (b_4 : ST) => lt (wL b_4 0 (((b_4.2.1 0) * x3.toInt64))) (fun b_5 => some b_5)))
theorem yo_X3_spread : yX3_spread.cls = RX3 ∧ yX3_spread.cls ≠ "java/lang/invoke/MethodHandle" ∧ yX3_spread.cls ≠ "java/lang/invoke/VarHandle" ∧ (parseMethodDescriptor yX3_spread.desc).map (fun d => d.parameters.length) = some 3 := by decide +kernel
set_option maxHeartbeats 4000000 in
set_option maxRecDepth 100000 in
theorem c_X3_spread {l : Launch} {g : gT} {h : Nat → Nat} {b : ST} {w : Nat → ST} {x1 : Int32} {x2 : Int32} {x3 : Int32} {b' : ST} (hm : m_X3_spread b x1 x2 x3 = some (b')) : MetV l g yX3_spread cX3_spread 6 none 0 0 79 h (cC g h (b, w)) (cC g h (b', w)) [.ref (h 8), .int x1, .int x2, .int x3] := by
  refine MetV.ofX (by decide +kernel) (Nat.le_of_ble_eq_true rfl) ?_
  intro p e s m below meth c AV Q X hret ls hw hl
  replace X : Cx g p s m AV c cX3_spread RX3 6 := X
  replace hl : lv_has ls 6 [(0, .ref (h 8)), (1, .int x1), (2, .int x2), (3, .int x3)] := hl
  unfold m_X3_spread at hm
  refine lv_iconst (v := 1) X.1 X.2.1 dX3_spread_0 (by decide) ?_
  refine lv_iload_n X.1 X.2.1 dX3_spread_1 rfl (lv_at hl 1 rfl) ?_
  refine lv_ishl X.1 X.2.1 dX3_spread_2 ?_
  refine lv_topi (fun x_1 ex_1 => ?_)
  replace hm := lt_e hm ex_1
  refine lv_istore (lv' := [(4, .int x_1), (0, .ref (h 8)), (1, .int x1), (2, .int x2), (3, .int x3)]) X.1 X.2.1 dX3_spread_3 hl (by decide) rfl (fun ls hl => ?_)
  refine lv_iconst (v := 0) X.1 X.2.1 dX3_spread_5 (by decide) ?_
  refine lv_istore (lv' := [(5, .int (0 : Int32)), (4, .int x_1), (0, .ref (h 8)), (1, .int x1), (2, .int x2), (3, .int x3)]) X.1 X.2.1 dX3_spread_6 hl (by decide) rfl (fun ls hl => ?_)
  replace hm := ob_e hm
  obtain ⟨b_4, hL_11, hm⟩ := hm
  have J_10 : ∀ (H : Heap) (locs : List Loc) (ls : Array Slot), Wd g 79 h (cC g h (b_4, w)) s H locs → lv_has ls 6 [(0, .ref (h 8)), (3, .int x3)] → W p l e (rW 0 0) s m AV below meth c H locs 0 0 Q (F0 m 71 ls []) := by
    intro H locs ls hw hl
    refine lv_aload_n X.1 X.2.1 dX3_spread_71 rfl (lv_at hl 0 rfl) ?_
    refine lv_dup X.1 X.2.1 dX3_spread_72 rfl ?_
    refine gX3_whole X hw wq_3_9 dX3_spread_73 ?_
    refine lv_iload_n X.1 X.2.1 dX3_spread_76 rfl (lv_at hl 1 rfl) ?_
    refine lv_i2l X.1 X.2.1 dX3_spread_77 rfl ?_
    refine lv_lmul X.1 X.2.1 dX3_spread_78 ?_
    refine pX3_whole X hw wq_3_9 dX3_spread_79 (fun H locs hw => ?_)
    obtain ⟨b_5, eb_5⟩ : ∃ y, y = wL b_4 0 (((b_4.2.1 0) * x3.toInt64)) := ⟨_, rfl⟩
    rw [← eb_5] at hw
    replace hm := lt_e hm eb_5
    obtain rfl := Option.some.inj hm
    exact hret _ _ _ _ hw dX3_spread_82
  refine vLoop_ind (B := (m_X3_spread_L8 x2 x3 x_1)) (fun σ => ∀ (H : Heap) (locs : List Loc) (ls : Array Slot), Wd g 79 h (cC g h (σ.2, w)) s H locs → lv_has ls 6 [(0, .ref (h 8)), (2, .int x2), (3, .int x3), (4, .int x_1), (5, .int σ.1)] → W p l e (rW 0 0) s m AV below meth c H locs 0 0 Q (F0 m 8 ls [])) (fun z' => z' = b_4) ?_ FUEL _ _ hL_11 rfl _ _ _ hw (lv_sub hl [2, 4, 5, 1, 0] rfl)
  intro σ z_9 hz_6 hn_7 hx_8
  obtain ⟨y_2, b_3⟩ := σ
  intro H locs ls hw hl
  replace hw : Wd g 79 h (cC g h (b_3, w)) s H locs := hw
  replace hl : lv_has ls 6 [(0, .ref (h 8)), (2, .int x2), (3, .int x3), (4, .int x_1), (5, .int y_2)] := hl
  unfold m_X3_spread_L8 at hz_6
  replace hz_6 := un_e hz_6
  refine lv_iload X.1 X.2.1 dX3_spread_8 (lv_at hl 4 rfl) ?_
  refine lv_iload X.1 X.2.1 dX3_spread_10 (lv_at hl 3 rfl) ?_
  refine lv_icmp_ge (tgt := 71) X.1 X.2.1 dX3_spread_12 (by decide) (fun c_13 => ?_) (fun c_13 => ?_)
  · replace hz_6 := it_p hz_6 c_13
    obtain rfl := hx_8 _ (Option.some.inj hz_6).symm
    exact J_10 _ _ _ hw (lv_sub hl [0, 2] rfl)
  · replace hz_6 := it_n hz_6 c_13
    refine lv_iload X.1 X.2.1 dX3_spread_15 (lv_at hl 3 rfl) ?_
    refine lv_iload X.1 X.2.1 dX3_spread_17 (lv_at hl 4 rfl) ?_
    refine lv_iadd X.1 X.2.1 dX3_spread_19 ?_
    refine lv_sipush (v := 1024) X.1 X.2.1 dX3_spread_20 (by decide) ?_
    refine lv_icmp_ge (tgt := 71) X.1 X.2.1 dX3_spread_23 (by decide) (fun c_14 => ?_) (fun c_14 => ?_)
    · replace hz_6 := it_p hz_6 c_14
      obtain rfl := hx_8 _ (Option.some.inj hz_6).symm
      exact J_10 _ _ _ hw (lv_sub hl [0, 2] rfl)
    · replace hz_6 := it_n hz_6 c_14
      refine lv_aload_n X.1 X.2.1 dX3_spread_26 rfl (lv_at hl 0 rfl) ?_
      refine gX3_parts X hw wq_3_7 dX3_spread_27 ?_
      refine lv_iload X.1 X.2.1 dX3_spread_30 (lv_at hl 3 rfl) ?_
      refine lv_iload X.1 X.2.1 dX3_spread_32 (lv_at hl 4 rfl) ?_
      refine lv_iadd X.1 X.2.1 dX3_spread_34 ?_
      refine lv_aload_n X.1 X.2.1 dX3_spread_35 rfl (lv_at hl 0 rfl) ?_
      refine gX3_parts X hw wq_3_7 dX3_spread_36 ?_
      refine lv_iload X.1 X.2.1 dX3_spread_39 (lv_at hl 4 rfl) ?_
      replace hz_6 := gd_e hz_6
      obtain ⟨g_15, hz_6⟩ := hz_6
      refine lB1 X hw g_15 dX3_spread_41 ?_
      refine lv_iload_n X.1 X.2.1 dX3_spread_42 rfl (lv_at hl 1 rfl) ?_
      refine lv_i2l X.1 X.2.1 dX3_spread_43 rfl ?_
      refine lv_lmul X.1 X.2.1 dX3_spread_44 ?_
      replace hz_6 := gd_e hz_6
      obtain ⟨g_16, hz_6⟩ := hz_6
      refine sB1 X hw g_16 dX3_spread_45 (fun H locs hw => ?_)
      obtain ⟨b_17, eb_17⟩ : ∃ y, y = wB b_3 1 (x_1 + y_2).toNatClampNeg (((b_3.2.2.2 1 y_2.toNatClampNeg) * x2.toInt64)) := ⟨_, rfl⟩
      rw [← eb_17] at hw
      replace hz_6 := lt_e hz_6 eb_17
      refine lv_aload_n X.1 X.2.1 dX3_spread_46 rfl (lv_at hl 0 rfl) ?_
      refine gX3_parts X hw wq_3_7 dX3_spread_47 ?_
      refine lv_iload X.1 X.2.1 dX3_spread_50 (lv_at hl 4 rfl) ?_
      refine lv_aload_n X.1 X.2.1 dX3_spread_52 rfl (lv_at hl 0 rfl) ?_
      refine gX3_parts X hw wq_3_7 dX3_spread_53 ?_
      refine lv_iload X.1 X.2.1 dX3_spread_56 (lv_at hl 4 rfl) ?_
      replace hz_6 := gd_e hz_6
      obtain ⟨g_18, hz_6⟩ := hz_6
      refine lB1 X hw g_18 dX3_spread_58 ?_
      refine lv_iload_n X.1 X.2.1 dX3_spread_59 rfl (lv_at hl 2 rfl) ?_
      refine lv_iload_n X.1 X.2.1 dX3_spread_60 rfl (lv_at hl 1 rfl) ?_
      refine lv_isub X.1 X.2.1 dX3_spread_61 ?_
      refine lv_i2l X.1 X.2.1 dX3_spread_62 rfl ?_
      refine lv_lmul X.1 X.2.1 dX3_spread_63 ?_
      replace hz_6 := gd_e hz_6
      obtain ⟨g_19, hz_6⟩ := hz_6
      refine sB1 X hw g_19 dX3_spread_64 (fun H locs hw => ?_)
      obtain ⟨b_20, eb_20⟩ : ∃ y, y = wB b_17 1 y_2.toNatClampNeg (((b_17.2.2.2 1 y_2.toNatClampNeg) * (x3 - x2).toInt64)) := ⟨_, rfl⟩
      rw [← eb_20] at hw
      replace hz_6 := lt_e hz_6 eb_20
      obtain ⟨x_21, ex_21⟩ : ∃ y : Int32, y = y_2 + 1 := ⟨_, rfl⟩
      replace hz_6 := lt_e hz_6 ex_21
      refine lv_iinc (v := x_21) (lv' := [(5, .int x_21), (0, .ref (h 8)), (2, .int x2), (3, .int x3), (4, .int x_1)]) X.1 X.2.1 dX3_spread_65 hl (k := 4) rfl (by rw [ex_21]; rfl) (by decide) rfl (fun ls hl => ?_)
      refine lv_goto (tgt := 8) X.1 X.2.1 dX3_spread_68 (by decide) ?_
      exact hn_7 _ (Option.some.inj hz_6).symm _ _ _ hw (lv_sub hl [1, 2, 3, 4, 0] rfl)
def m_X3_fillWith_L15 (x1 : Int32) (x2 : Int32) (x3 : Int32) (σ : Int32 × ST) : Option ((Int32 × ST) ⊕ (ST)) := (fun (q_28 : Int32 × ST) => un q_28 (fun y_4 b_5 => Option.bind (m_X2_linkCount b_5) (fun (r_15 : Int32) => if r_15 ≤ y_4 then some (.inr b_5) else if y_4 = x1 then Option.bind (m_X3_spread b_5 y_4 x2 x3) (fun (b_26 : ST) => lt (y_4 + 1) (fun x_27 => some (.inl (x_27, b_26)))) else Option.bind (m_X2_upParts b_5 y_4) (fun (r_19 : Int32) => Option.bind (m_X2_wholeParts b_5 y_4) (fun (r_21 : Int32) => Option.bind (m_X3_spread b_5 y_4 r_19 r_21) (fun (b_23 : ST) => lt (y_4 + 1) (fun x_24 => some (.inl (x_24, b_23))))))))) σ
def m_X3_fillWith (b : ST) (x1 : Int32) (x2 : Int32) (x3 : Int32) : Option (ST) := gd (¬ ((0 : Int32) < 0 ∨ 1024 ≤ (0 : Int32).toNatClampNeg)) (lt (wB b 1 (0 : Int32).toNatClampNeg (1 : Int64)) (fun b_2 => lt (wL b_2 0 (1 : Int64)) (fun b_3 => Option.bind (vLoop (m_X3_fillWith_L15 x1 x2 x3) FUEL ((0 : Int32), b_3)) (fun (b_6 : ST) => some b_6))))
theorem yo_X3_fillWith : yX3_fillWith.cls = RX3 ∧ yX3_fillWith.cls ≠ "java/lang/invoke/MethodHandle" ∧ yX3_fillWith.cls ≠ "java/lang/invoke/VarHandle" ∧ (parseMethodDescriptor yX3_fillWith.desc).map (fun d => d.parameters.length) = some 3 := by decide +kernel
set_option maxHeartbeats 4000000 in
set_option maxRecDepth 100000 in
theorem c_X3_fillWith {l : Launch} {g : gT} {h : Nat → Nat} {b : ST} {w : Nat → ST} {x1 : Int32} {x2 : Int32} {x3 : Int32} {b' : ST} (hm : m_X3_fillWith b x1 x2 x3 = some (b')) : MetV l g yX3_fillWith cX3_fillWith 5 none 3 64 79 h (cC g h (b, w)) (cC g h (b', w)) [.ref (h 8), .int x1, .int x2, .int x3] := by
  refine MetV.ofX (by decide +kernel) (Nat.le_of_ble_eq_true rfl) ?_
  intro p e s m below meth c AV Q X hret ls hw hl
  replace X : Cx g p s m AV c cX3_fillWith RX3 5 := X
  replace hl : lv_has ls 5 [(0, .ref (h 8)), (1, .int x1), (2, .int x2), (3, .int x3)] := hl
  unfold m_X3_fillWith at hm
  refine lv_aload_n X.1 X.2.1 dX3_fillWith_0 rfl (lv_at hl 0 rfl) ?_
  refine gX3_parts X hw wq_3_7 dX3_fillWith_1 ?_
  refine lv_iconst (v := 0) X.1 X.2.1 dX3_fillWith_4 (by decide) ?_
  refine lv_lconst (v := 1) X.1 X.2.1 dX3_fillWith_5 (by decide) ?_
  replace hm := gd_e hm
  obtain ⟨g_1, hm⟩ := hm
  refine sB1 X hw g_1 dX3_fillWith_6 (fun H locs hw => ?_)
  obtain ⟨b_2, eb_2⟩ : ∃ y, y = wB b 1 (0 : Int32).toNatClampNeg (1 : Int64) := ⟨_, rfl⟩
  rw [← eb_2] at hw
  replace hm := lt_e hm eb_2
  refine lv_aload_n X.1 X.2.1 dX3_fillWith_7 rfl (lv_at hl 0 rfl) ?_
  refine lv_lconst (v := 1) X.1 X.2.1 dX3_fillWith_8 (by decide) ?_
  refine pX3_whole X hw wq_3_9 dX3_fillWith_9 (fun H locs hw => ?_)
  obtain ⟨b_3, eb_3⟩ : ∃ y, y = wL b_2 0 (1 : Int64) := ⟨_, rfl⟩
  rw [← eb_3] at hw
  replace hm := lt_e hm eb_3
  refine lv_iconst (v := 0) X.1 X.2.1 dX3_fillWith_12 (by decide) ?_
  refine lv_istore (lv' := [(4, .int (0 : Int32)), (0, .ref (h 8)), (1, .int x1), (2, .int x2), (3, .int x3)]) X.1 X.2.1 dX3_fillWith_13 hl (by decide) rfl (fun ls hl => ?_)
  replace hm := ob_e hm
  obtain ⟨b_6, hL_12, hm⟩ := hm
  have J_11 : ∀ (H : Heap) (locs : List Loc) (ls : Array Slot), Wd g 79 h (cC g h (b_6, w)) s H locs → lv_has ls 5 [] → W p l e (rW 3 64) s m AV below meth c H locs 0 0 Q (F0 m 74 ls []) := by
    intro H locs ls hw hl
    obtain rfl := Option.some.inj hm
    exact hret _ _ _ _ hw dX3_fillWith_74
  refine vLoop_ind (B := (m_X3_fillWith_L15 x1 x2 x3)) (fun σ => ∀ (H : Heap) (locs : List Loc) (ls : Array Slot), Wd g 79 h (cC g h (σ.2, w)) s H locs → lv_has ls 5 [(0, .ref (h 8)), (1, .int x1), (2, .int x2), (3, .int x3), (4, .int σ.1)] → W p l e (rW 3 64) s m AV below meth c H locs 0 0 Q (F0 m 15 ls [])) (fun z' => z' = b_6) ?_ FUEL _ _ hL_12 rfl _ _ _ hw (lv_sub hl [1, 2, 3, 4, 0] rfl)
  intro σ z_10 hz_7 hn_8 hx_9
  obtain ⟨y_4, b_5⟩ := σ
  intro H locs ls hw hl
  replace hw : Wd g 79 h (cC g h (b_5, w)) s H locs := hw
  replace hl : lv_has ls 5 [(0, .ref (h 8)), (1, .int x1), (2, .int x2), (3, .int x3), (4, .int y_4)] := hl
  unfold m_X3_fillWith_L15 at hz_7
  replace hz_7 := un_e hz_7
  refine lv_iload X.1 X.2.1 dX3_fillWith_15 (lv_at hl 4 rfl) ?_
  refine lv_aload_n X.1 X.2.1 dX3_fillWith_17 rfl (lv_at hl 0 rfl) ?_
  refine gX3_net X hw wq_3_8 dX3_fillWith_18 ?_
  replace hz_7 := ob_e hz_7
  obtain ⟨r_15, h_14, hz_7⟩ := hz_7
  refine k_Vi (k := 1) (As := []) X hl.1 hw (c_X2_linkCount h_14) (by decide) (he_X2 g h _ _) rfl ⟨wq_13_0, wq_10_11, wq_10_12, wq_1_13, wq_10_13⟩ yo_X2_linkCount rfl ⟨Nat.le_of_ble_eq_true rfl, Nat.le_of_ble_eq_true rfl⟩ (Nat.le_of_ble_eq_true rfl) dX3_fillWith_21 (fun H locs hw => ?_)
  refine lv_icmp_ge (tgt := 74) X.1 X.2.1 dX3_fillWith_24 (by decide) (fun c_16 => ?_) (fun c_16 => ?_)
  · replace hz_7 := it_p hz_7 c_16
    obtain rfl := hx_9 _ (Option.some.inj hz_7).symm
    exact J_11 _ _ _ hw (lv_sub hl [] rfl)
  · replace hz_7 := it_n hz_7 c_16
    refine lv_iload X.1 X.2.1 dX3_fillWith_27 (lv_at hl 4 rfl) ?_
    refine lv_iload_n X.1 X.2.1 dX3_fillWith_29 rfl (lv_at hl 1 rfl) ?_
    refine lv_icmp_ne (tgt := 44) X.1 X.2.1 dX3_fillWith_30 (by decide) (fun c_17 => ?_) (fun c_17 => ?_)
    · replace hz_7 := it_n hz_7 c_17
      refine lv_aload_n X.1 X.2.1 dX3_fillWith_44 rfl (lv_at hl 0 rfl) ?_
      refine lv_iload X.1 X.2.1 dX3_fillWith_45 (lv_at hl 4 rfl) ?_
      refine lv_aload_n X.1 X.2.1 dX3_fillWith_47 rfl (lv_at hl 0 rfl) ?_
      refine gX3_net X hw wq_3_8 dX3_fillWith_48 ?_
      refine lv_iload X.1 X.2.1 dX3_fillWith_51 (lv_at hl 4 rfl) ?_
      replace hz_7 := ob_e hz_7
      obtain ⟨r_19, h_18, hz_7⟩ := hz_7
      refine k_Vi (k := 1) (As := [.int y_4]) X hl.1 hw (c_X2_upParts h_18) (by decide) (he_X2 g h _ _) rfl ⟨wq_13_5, wq_13_6, wq_13_7, wq_1_13, wq_13_8⟩ yo_X2_upParts rfl ⟨Nat.le_of_ble_eq_true rfl, Nat.le_of_ble_eq_true rfl⟩ (Nat.le_of_ble_eq_true rfl) dX3_fillWith_53 (fun H locs hw => ?_)
      refine lv_aload_n X.1 X.2.1 dX3_fillWith_56 rfl (lv_at hl 0 rfl) ?_
      refine gX3_net X hw wq_3_8 dX3_fillWith_57 ?_
      refine lv_iload X.1 X.2.1 dX3_fillWith_60 (lv_at hl 4 rfl) ?_
      replace hz_7 := ob_e hz_7
      obtain ⟨r_21, h_20, hz_7⟩ := hz_7
      refine k_Vi (k := 1) (As := [.int y_4]) X hl.1 hw (c_X2_wholeParts h_20) (by decide) (he_X2 g h _ _) rfl ⟨wq_13_13, wq_13_14, wq_13_15, wq_1_13, wq_13_16⟩ yo_X2_wholeParts rfl ⟨Nat.le_of_ble_eq_true rfl, Nat.le_of_ble_eq_true rfl⟩ (Nat.le_of_ble_eq_true rfl) dX3_fillWith_62 (fun H locs hw => ?_)
      replace hz_7 := ob_e hz_7
      obtain ⟨b_23, h_22, hz_7⟩ := hz_7
      refine k_Vv (k := 8) (As := [.int y_4, .int r_19, .int r_21]) X hl.1 hw (c_X3_spread h_22) (by decide) (he_X3 g h _ _) rfl ⟨wq_13_1, wq_13_2, wq_13_3, wq_1_17, wq_13_4⟩ yo_X3_spread rfl ⟨Nat.le_of_ble_eq_true rfl, Nat.le_of_ble_eq_true rfl⟩ (Nat.le_of_ble_eq_true rfl) dX3_fillWith_65 (fun H locs hw => ?_)
      obtain ⟨x_24, ex_24⟩ : ∃ y : Int32, y = y_4 + 1 := ⟨_, rfl⟩
      replace hz_7 := lt_e hz_7 ex_24
      refine lv_iinc (v := x_24) (lv' := [(4, .int x_24), (0, .ref (h 8)), (1, .int x1), (2, .int x2), (3, .int x3)]) X.1 X.2.1 dX3_fillWith_68 hl (k := 4) rfl (by rw [ex_24]; rfl) (by decide) rfl (fun ls hl => ?_)
      refine lv_goto (tgt := 15) X.1 X.2.1 dX3_fillWith_71 (by decide) ?_
      exact hn_8 _ (Option.some.inj hz_7).symm _ _ _ hw (lv_sub hl [1, 2, 3, 4, 0] rfl)
    · replace hz_7 := it_p hz_7 c_17
      refine lv_aload_n X.1 X.2.1 dX3_fillWith_33 rfl (lv_at hl 0 rfl) ?_
      refine lv_iload X.1 X.2.1 dX3_fillWith_34 (lv_at hl 4 rfl) ?_
      refine lv_iload_n X.1 X.2.1 dX3_fillWith_36 rfl (lv_at hl 2 rfl) ?_
      refine lv_iload_n X.1 X.2.1 dX3_fillWith_37 rfl (lv_at hl 3 rfl) ?_
      replace hz_7 := ob_e hz_7
      obtain ⟨b_26, h_25, hz_7⟩ := hz_7
      refine k_Vv (k := 8) (As := [.int y_4, .int x2, .int x3]) X hl.1 hw (c_X3_spread h_25) (by decide) (he_X3 g h _ _) rfl ⟨wq_13_1, wq_13_2, wq_13_3, wq_1_17, wq_13_4⟩ yo_X3_spread rfl ⟨Nat.le_of_ble_eq_true rfl, Nat.le_of_ble_eq_true rfl⟩ (Nat.le_of_ble_eq_true rfl) dX3_fillWith_38 (fun H locs hw => ?_)
      refine lv_goto (tgt := 68) X.1 X.2.1 dX3_fillWith_41 (by decide) ?_
      obtain ⟨x_27, ex_27⟩ : ∃ y : Int32, y = y_4 + 1 := ⟨_, rfl⟩
      replace hz_7 := lt_e hz_7 ex_27
      refine lv_iinc (v := x_27) (lv' := [(4, .int x_27), (0, .ref (h 8)), (1, .int x1), (2, .int x2), (3, .int x3)]) X.1 X.2.1 dX3_fillWith_68 hl (k := 4) rfl (by rw [ex_27]; rfl) (by decide) rfl (fun ls hl => ?_)
      refine lv_goto (tgt := 15) X.1 X.2.1 dX3_fillWith_71 (by decide) ?_
      exact hn_8 _ (Option.some.inj hz_7).symm _ _ _ hw (lv_sub hl [1, 2, 3, 4, 0] rfl)
def m_X3_fill (b : ST) : Option (ST) := Option.bind (m_X3_fillWith b (-1 : Int32) (0 : Int32) (1 : Int32)) (fun (b_2 : ST) => some b_2)
theorem yo_X3_fill : yX3_fill.cls = RX3 ∧ yX3_fill.cls ≠ "java/lang/invoke/MethodHandle" ∧ yX3_fill.cls ≠ "java/lang/invoke/VarHandle" ∧ (parseMethodDescriptor yX3_fill.desc).map (fun d => d.parameters.length) = some 0 := by decide +kernel
set_option maxHeartbeats 4000000 in
set_option maxRecDepth 100000 in
theorem c_X3_fill {l : Launch} {g : gT} {h : Nat → Nat} {b : ST} {w : Nat → ST} {b' : ST} (hm : m_X3_fill b = some (b')) : MetV l g yX3_fill cX3_fill 1 none 4 88 79 h (cC g h (b, w)) (cC g h (b', w)) [.ref (h 8)] := by
  refine MetV.ofX (by decide +kernel) (Nat.le_of_ble_eq_true rfl) ?_
  intro p e s m below meth c AV Q X hret ls hw hl
  replace X : Cx g p s m AV c cX3_fill RX3 1 := X
  replace hl : lv_has ls 1 [(0, .ref (h 8))] := hl
  unfold m_X3_fill at hm
  refine lv_aload_n X.1 X.2.1 dX3_fill_0 rfl (lv_at hl 0 rfl) ?_
  refine lv_iconst (v := -1) X.1 X.2.1 dX3_fill_1 (by decide) ?_
  refine lv_iconst (v := 0) X.1 X.2.1 dX3_fill_2 (by decide) ?_
  refine lv_iconst (v := 1) X.1 X.2.1 dX3_fill_3 (by decide) ?_
  replace hm := ob_e hm
  obtain ⟨b_2, h_1, hm⟩ := hm
  refine k_Vv (k := 8) (As := [.int (-1 : Int32), .int (0 : Int32), .int (1 : Int32)]) X hl.1 hw (c_X3_fillWith h_1) (by decide) (he_X3 g h _ _) rfl ⟨wq_12_20, wq_12_21, wq_12_22, wq_1_17, wq_12_23⟩ yo_X3_fillWith rfl ⟨Nat.le_of_ble_eq_true rfl, Nat.le_of_ble_eq_true rfl⟩ (Nat.le_of_ble_eq_true rfl) dX3_fill_4 (fun H locs hw => ?_)
  obtain rfl := Option.some.inj hm
  exact hret _ _ _ _ hw dX3_fill_7
def m_X3_told (b : ST) (x1 : Int64) (x3 : Int32) : Option (Int64) := Option.bind (m_X1_told x1 (b.2.1 0) x3) (fun (r_2 : Int64) => some r_2)
theorem yo_X3_told : yX3_told.cls = RX3 ∧ yX3_told.cls ≠ "java/lang/invoke/MethodHandle" ∧ yX3_told.cls ≠ "java/lang/invoke/VarHandle" ∧ (parseMethodDescriptor yX3_told.desc).map (fun d => d.parameters.length) = some 2 := by decide +kernel
set_option maxHeartbeats 4000000 in
set_option maxRecDepth 100000 in
theorem c_X3_told {l : Launch} {g : gT} {h : Nat → Nat} {b : ST} {w : Nat → ST} {x1 : Int64} {x3 : Int32} {r : Int64} (hm : m_X3_told b x1 x3 = some r) : MetL l g yX3_told cX3_told 4 (some .long) 2 52 79 h (cC g h (b, w)) (cC g h (b, w)) [.ref (h 8), .long x1, .int x3] r := by
  refine MetL.ofX (by decide +kernel) (Nat.le_of_ble_eq_true rfl) ?_
  intro p e s m below meth c AV Q X hret ls hw hl
  replace X : Cx g p s m AV c cX3_told RX3 4 := X
  replace hl : lv_has ls 4 [(0, .ref (h 8)), (1, .long x1), (3, .int x3)] := hl
  unfold m_X3_told at hm
  refine lv_lload_n X.1 X.2.1 dX3_told_0 rfl (lv_at hl 1 rfl) ?_
  refine lv_aload_n X.1 X.2.1 dX3_told_1 rfl (lv_at hl 0 rfl) ?_
  refine gX3_whole X hw wq_3_9 dX3_told_2 ?_
  refine lv_iload_n X.1 X.2.1 dX3_told_5 rfl (lv_at hl 2 rfl) ?_
  replace hm := ob_e hm
  obtain ⟨r_2, h_1, hm⟩ := hm
  refine k_Sl (As := [.long x1, .long (b.2.1 0), .int x3]) X hl.1 hw (c_X1_told h_1) ⟨wq_14_7, wq_14_8, wq_6_20, wq_14_9⟩ yo_X1_told rfl ⟨Nat.le_of_ble_eq_true rfl, Nat.le_of_ble_eq_true rfl⟩ (Nat.le_of_ble_eq_true rfl) dX3_told_6 (fun H locs hw => ?_)
  obtain rfl := Option.some.inj hm
  exact hret _ _ _ _ hw dX3_told_9
def m_X3_reachParts_L4 (b : ST) (σ : Int64 × Int32) : Option ((Int64 × Int32) ⊕ (Int64)) := (fun (q_22 : Int64 × Int32) => un q_22 (fun y_1 y_2 => Option.bind (m_X2_allLinks b) (fun (r_12 : Int32) => if r_12 < y_2 then some (.inr y_1) else if (1024 : Int32) ≤ y_2 then some (.inr y_1) else Option.bind (m_X2_reaches b y_2) (fun (r_16 : Int32) => if r_16 = 0 then lt (y_2 + 1) (fun x_18 => some (.inl (y_1, x_18))) else gd (¬ (y_2 < 0 ∨ 1024 ≤ y_2.toNatClampNeg)) (lt (y_1 + (b.2.2.2 1 y_2.toNatClampNeg)) (fun x_20 => lt (y_2 + 1) (fun x_21 => some (.inl (x_20, x_21))))))))) σ
def m_X3_reachParts (b : ST) : Option (Int64) := Option.bind (vLoop (m_X3_reachParts_L4 b) FUEL ((0 : Int64), (0 : Int32))) (fun (j_3 : Int64) => some j_3)
theorem yo_X3_reachParts : yX3_reachParts.cls = RX3 ∧ yX3_reachParts.cls ≠ "java/lang/invoke/MethodHandle" ∧ yX3_reachParts.cls ≠ "java/lang/invoke/VarHandle" ∧ (parseMethodDescriptor yX3_reachParts.desc).map (fun d => d.parameters.length) = some 0 := by decide +kernel
set_option maxHeartbeats 4000000 in
set_option maxRecDepth 100000 in
theorem c_X3_reachParts {l : Launch} {g : gT} {h : Nat → Nat} {b : ST} {w : Nat → ST} {r : Int64} (hm : m_X3_reachParts b = some r) : MetL l g yX3_reachParts cX3_reachParts 4 (some .long) 3 65 79 h (cC g h (b, w)) (cC g h (b, w)) [.ref (h 8)] r := by
  refine MetL.ofX (by decide +kernel) (Nat.le_of_ble_eq_true rfl) ?_
  intro p e s m below meth c AV Q X hret ls hw hl
  replace X : Cx g p s m AV c cX3_reachParts RX3 4 := X
  replace hl : lv_has ls 4 [(0, .ref (h 8))] := hl
  unfold m_X3_reachParts at hm
  refine lv_lconst (v := 0) X.1 X.2.1 dX3_reachParts_0 (by decide) ?_
  refine lv_lstore_n (lv' := [(1, .long (0 : Int64)), (0, .ref (h 8))]) X.1 X.2.1 dX3_reachParts_1 rfl hl (by decide) rfl (fun ls hl => ?_)
  refine lv_iconst (v := 0) X.1 X.2.1 dX3_reachParts_2 (by decide) ?_
  refine lv_istore_n (lv' := [(3, .int (0 : Int32)), (1, .long (0 : Int64)), (0, .ref (h 8))]) X.1 X.2.1 dX3_reachParts_3 rfl hl (by decide) rfl (fun ls hl => ?_)
  replace hm := ob_e hm
  obtain ⟨j_3, hL_9, hm⟩ := hm
  have J_8 : ∀ (H : Heap) (locs : List Loc) (ls : Array Slot), Wd g 79 h (cC g h (b, w)) s H locs → lv_has ls 4 [(1, .long j_3)] → W p l e (rW 3 65) s m AV below meth c H locs 0 0 Q (F0 m 48 ls []) := by
    intro H locs ls hw hl
    refine lv_lload_n X.1 X.2.1 dX3_reachParts_48 rfl (lv_at hl 0 rfl) ?_
    obtain rfl := Option.some.inj hm
    exact hret _ _ _ _ hw dX3_reachParts_49
  refine vLoop_ind (B := (m_X3_reachParts_L4 b)) (fun σ => ∀ (H : Heap) (locs : List Loc) (ls : Array Slot), Wd g 79 h (cC g h (b, w)) s H locs → lv_has ls 4 [(0, .ref (h 8)), (1, .long σ.1), (3, .int σ.2)] → W p l e (rW 3 65) s m AV below meth c H locs 0 0 Q (F0 m 4 ls [])) (fun z' => z' = j_3) ?_ FUEL _ _ hL_9 rfl _ _ _ hw (lv_sub hl [2, 1, 0] rfl)
  intro σ z_7 hz_4 hn_5 hx_6
  obtain ⟨y_1, y_2⟩ := σ
  intro H locs ls hw hl
  replace hw : Wd g 79 h (cC g h (b, w)) s H locs := hw
  replace hl : lv_has ls 4 [(0, .ref (h 8)), (1, .long y_1), (3, .int y_2)] := hl
  unfold m_X3_reachParts_L4 at hz_4
  replace hz_4 := un_e hz_4
  refine lv_iload_n X.1 X.2.1 dX3_reachParts_4 rfl (lv_at hl 2 rfl) ?_
  refine lv_aload_n X.1 X.2.1 dX3_reachParts_5 rfl (lv_at hl 0 rfl) ?_
  refine gX3_net X hw wq_3_8 dX3_reachParts_6 ?_
  replace hz_4 := ob_e hz_4
  obtain ⟨r_12, h_11, hz_4⟩ := hz_4
  refine k_Vi (k := 1) (As := []) X hl.1 hw (c_X2_allLinks h_11) (by decide) (he_X2 g h _ _) rfl ⟨wq_14_1, wq_11_7, wq_11_8, wq_1_13, wq_11_9⟩ yo_X2_allLinks rfl ⟨Nat.le_of_ble_eq_true rfl, Nat.le_of_ble_eq_true rfl⟩ (Nat.le_of_ble_eq_true rfl) dX3_reachParts_9 (fun H locs hw => ?_)
  refine lv_icmp_gt (tgt := 48) X.1 X.2.1 dX3_reachParts_12 (by decide) (fun c_13 => ?_) (fun c_13 => ?_)
  · replace hz_4 := it_p hz_4 c_13
    obtain rfl := hx_6 _ (Option.some.inj hz_4).symm
    exact J_8 _ _ _ hw (lv_sub hl [1] rfl)
  · replace hz_4 := it_n hz_4 c_13
    refine lv_iload_n X.1 X.2.1 dX3_reachParts_15 rfl (lv_at hl 2 rfl) ?_
    refine lv_sipush (v := 1024) X.1 X.2.1 dX3_reachParts_16 (by decide) ?_
    refine lv_icmp_ge (tgt := 48) X.1 X.2.1 dX3_reachParts_19 (by decide) (fun c_14 => ?_) (fun c_14 => ?_)
    · replace hz_4 := it_p hz_4 c_14
      obtain rfl := hx_6 _ (Option.some.inj hz_4).symm
      exact J_8 _ _ _ hw (lv_sub hl [1] rfl)
    · replace hz_4 := it_n hz_4 c_14
      refine lv_aload_n X.1 X.2.1 dX3_reachParts_22 rfl (lv_at hl 0 rfl) ?_
      refine gX3_net X hw wq_3_8 dX3_reachParts_23 ?_
      refine lv_iload_n X.1 X.2.1 dX3_reachParts_26 rfl (lv_at hl 2 rfl) ?_
      replace hz_4 := ob_e hz_4
      obtain ⟨r_16, h_15, hz_4⟩ := hz_4
      refine k_Vi (k := 1) (As := [.int y_2]) X hl.1 hw (c_X2_reaches h_15) (by decide) (he_X2 g h _ _) rfl ⟨wq_14_2, wq_11_11, wq_11_12, wq_1_13, wq_11_13⟩ yo_X2_reaches rfl ⟨Nat.le_of_ble_eq_true rfl, Nat.le_of_ble_eq_true rfl⟩ (Nat.le_of_ble_eq_true rfl) dX3_reachParts_27 (fun H locs hw => ?_)
      refine lv_if_eq (tgt := 42) X.1 X.2.1 dX3_reachParts_30 (by decide) (fun c_17 => ?_) (fun c_17 => ?_)
      · replace hz_4 := it_p hz_4 c_17
        obtain ⟨x_18, ex_18⟩ : ∃ y : Int32, y = y_2 + 1 := ⟨_, rfl⟩
        replace hz_4 := lt_e hz_4 ex_18
        refine lv_iinc (v := x_18) (lv' := [(3, .int x_18), (0, .ref (h 8)), (1, .long y_1)]) X.1 X.2.1 dX3_reachParts_42 hl (k := 2) rfl (by rw [ex_18]; rfl) (by decide) rfl (fun ls hl => ?_)
        refine lv_goto (tgt := 4) X.1 X.2.1 dX3_reachParts_45 (by decide) ?_
        exact hn_5 _ (Option.some.inj hz_4).symm _ _ _ hw (lv_sub hl [1, 2, 0] rfl)
      · replace hz_4 := it_n hz_4 c_17
        refine lv_lload_n X.1 X.2.1 dX3_reachParts_33 rfl (lv_at hl 1 rfl) ?_
        refine lv_aload_n X.1 X.2.1 dX3_reachParts_34 rfl (lv_at hl 0 rfl) ?_
        refine gX3_parts X hw wq_3_7 dX3_reachParts_35 ?_
        refine lv_iload_n X.1 X.2.1 dX3_reachParts_38 rfl (lv_at hl 2 rfl) ?_
        replace hz_4 := gd_e hz_4
        obtain ⟨g_19, hz_4⟩ := hz_4
        refine lB1 X hw g_19 dX3_reachParts_39 ?_
        refine lv_ladd X.1 X.2.1 dX3_reachParts_40 ?_
        refine lv_topl (fun x_20 ex_20 => ?_)
        replace hz_4 := lt_e hz_4 ex_20
        refine lv_lstore_n (lv' := [(1, .long x_20), (0, .ref (h 8)), (3, .int y_2)]) X.1 X.2.1 dX3_reachParts_41 rfl hl (by decide) rfl (fun ls hl => ?_)
        obtain ⟨x_21, ex_21⟩ : ∃ y : Int32, y = y_2 + 1 := ⟨_, rfl⟩
        replace hz_4 := lt_e hz_4 ex_21
        refine lv_iinc (v := x_21) (lv' := [(3, .int x_21), (1, .long x_20), (0, .ref (h 8))]) X.1 X.2.1 dX3_reachParts_42 hl (k := 2) rfl (by rw [ex_21]; rfl) (by decide) rfl (fun ls hl => ?_)
        refine lv_goto (tgt := 4) X.1 X.2.1 dX3_reachParts_45 (by decide) ?_
        exact hn_5 _ (Option.some.inj hz_4).symm _ _ _ hw (lv_sub hl [2, 1, 0] rfl)
def m_X3_pairParts_L5 (x1 : Int32) (x2 : Int32) (b : ST) (σ : Int64 × Int32) : Option ((Int64 × Int32) ⊕ (Int64)) := (fun (q_22 : Int64 × Int32) => un q_22 (fun y_1 y_2 => Option.bind (m_X2_allLinks b) (fun (r_12 : Int32) => if r_12 < y_2 then some (.inr y_1) else if (1024 : Int32) ≤ y_2 then some (.inr y_1) else Option.bind (m_X2_joinedWith b y_2 x1) (fun (r_16 : Int32) => if ((r_16.toUInt32 >>> (x2.toUInt32 &&& Int32.toUInt32 31)).toInt32 &&& (1 : Int32)) = 0 then lt (y_2 + 1) (fun x_18 => some (.inl (y_1, x_18))) else gd (¬ (y_2 < 0 ∨ 1024 ≤ y_2.toNatClampNeg)) (lt (y_1 + (b.2.2.2 1 y_2.toNatClampNeg)) (fun x_20 => lt (y_2 + 1) (fun x_21 => some (.inl (x_20, x_21))))))))) σ
def m_X3_pairParts (b : ST) (x1 : Int32) (x2 : Int32) : Option (Int64) := Option.bind (vLoop (m_X3_pairParts_L5 x1 x2 b) FUEL ((0 : Int64), (0 : Int32))) (fun (j_3 : Int64) => some j_3)
theorem yo_X3_pairParts : yX3_pairParts.cls = RX3 ∧ yX3_pairParts.cls ≠ "java/lang/invoke/MethodHandle" ∧ yX3_pairParts.cls ≠ "java/lang/invoke/VarHandle" ∧ (parseMethodDescriptor yX3_pairParts.desc).map (fun d => d.parameters.length) = some 2 := by decide +kernel
set_option maxHeartbeats 4000000 in
set_option maxRecDepth 100000 in
theorem c_X3_pairParts {l : Launch} {g : gT} {h : Nat → Nat} {b : ST} {w : Nat → ST} {x1 : Int32} {x2 : Int32} {r : Int64} (hm : m_X3_pairParts b x1 x2 = some r) : MetL l g yX3_pairParts cX3_pairParts 6 (some .long) 2 44 79 h (cC g h (b, w)) (cC g h (b, w)) [.ref (h 8), .int x1, .int x2] r := by
  refine MetL.ofX (by decide +kernel) (Nat.le_of_ble_eq_true rfl) ?_
  intro p e s m below meth c AV Q X hret ls hw hl
  replace X : Cx g p s m AV c cX3_pairParts RX3 6 := X
  replace hl : lv_has ls 6 [(0, .ref (h 8)), (1, .int x1), (2, .int x2)] := hl
  unfold m_X3_pairParts at hm
  refine lv_lconst (v := 0) X.1 X.2.1 dX3_pairParts_0 (by decide) ?_
  refine lv_lstore_n (lv' := [(3, .long (0 : Int64)), (0, .ref (h 8)), (1, .int x1), (2, .int x2)]) X.1 X.2.1 dX3_pairParts_1 rfl hl (by decide) rfl (fun ls hl => ?_)
  refine lv_iconst (v := 0) X.1 X.2.1 dX3_pairParts_2 (by decide) ?_
  refine lv_istore (lv' := [(5, .int (0 : Int32)), (3, .long (0 : Int64)), (0, .ref (h 8)), (1, .int x1), (2, .int x2)]) X.1 X.2.1 dX3_pairParts_3 hl (by decide) rfl (fun ls hl => ?_)
  replace hm := ob_e hm
  obtain ⟨j_3, hL_9, hm⟩ := hm
  have J_8 : ∀ (H : Heap) (locs : List Loc) (ls : Array Slot), Wd g 79 h (cC g h (b, w)) s H locs → lv_has ls 6 [(3, .long j_3)] → W p l e (rW 2 44) s m AV below meth c H locs 0 0 Q (F0 m 58 ls []) := by
    intro H locs ls hw hl
    refine lv_lload_n X.1 X.2.1 dX3_pairParts_58 rfl (lv_at hl 0 rfl) ?_
    obtain rfl := Option.some.inj hm
    exact hret _ _ _ _ hw dX3_pairParts_59
  refine vLoop_ind (B := (m_X3_pairParts_L5 x1 x2 b)) (fun σ => ∀ (H : Heap) (locs : List Loc) (ls : Array Slot), Wd g 79 h (cC g h (b, w)) s H locs → lv_has ls 6 [(0, .ref (h 8)), (1, .int x1), (2, .int x2), (3, .long σ.1), (5, .int σ.2)] → W p l e (rW 2 44) s m AV below meth c H locs 0 0 Q (F0 m 5 ls [])) (fun z' => z' = j_3) ?_ FUEL _ _ hL_9 rfl _ _ _ hw (lv_sub hl [2, 3, 4, 1, 0] rfl)
  intro σ z_7 hz_4 hn_5 hx_6
  obtain ⟨y_1, y_2⟩ := σ
  intro H locs ls hw hl
  replace hw : Wd g 79 h (cC g h (b, w)) s H locs := hw
  replace hl : lv_has ls 6 [(0, .ref (h 8)), (1, .int x1), (2, .int x2), (3, .long y_1), (5, .int y_2)] := hl
  unfold m_X3_pairParts_L5 at hz_4
  replace hz_4 := un_e hz_4
  refine lv_iload X.1 X.2.1 dX3_pairParts_5 (lv_at hl 4 rfl) ?_
  refine lv_aload_n X.1 X.2.1 dX3_pairParts_7 rfl (lv_at hl 0 rfl) ?_
  refine gX3_net X hw wq_3_8 dX3_pairParts_8 ?_
  replace hz_4 := ob_e hz_4
  obtain ⟨r_12, h_11, hz_4⟩ := hz_4
  refine k_Vi (k := 1) (As := []) X hl.1 hw (c_X2_allLinks h_11) (by decide) (he_X2 g h _ _) rfl ⟨wq_14_1, wq_11_7, wq_11_8, wq_1_13, wq_11_9⟩ yo_X2_allLinks rfl ⟨Nat.le_of_ble_eq_true rfl, Nat.le_of_ble_eq_true rfl⟩ (Nat.le_of_ble_eq_true rfl) dX3_pairParts_11 (fun H locs hw => ?_)
  refine lv_icmp_gt (tgt := 58) X.1 X.2.1 dX3_pairParts_14 (by decide) (fun c_13 => ?_) (fun c_13 => ?_)
  · replace hz_4 := it_p hz_4 c_13
    obtain rfl := hx_6 _ (Option.some.inj hz_4).symm
    exact J_8 _ _ _ hw (lv_sub hl [3] rfl)
  · replace hz_4 := it_n hz_4 c_13
    refine lv_iload X.1 X.2.1 dX3_pairParts_17 (lv_at hl 4 rfl) ?_
    refine lv_sipush (v := 1024) X.1 X.2.1 dX3_pairParts_19 (by decide) ?_
    refine lv_icmp_ge (tgt := 58) X.1 X.2.1 dX3_pairParts_22 (by decide) (fun c_14 => ?_) (fun c_14 => ?_)
    · replace hz_4 := it_p hz_4 c_14
      obtain rfl := hx_6 _ (Option.some.inj hz_4).symm
      exact J_8 _ _ _ hw (lv_sub hl [3] rfl)
    · replace hz_4 := it_n hz_4 c_14
      refine lv_aload_n X.1 X.2.1 dX3_pairParts_25 rfl (lv_at hl 0 rfl) ?_
      refine gX3_net X hw wq_3_8 dX3_pairParts_26 ?_
      refine lv_iload X.1 X.2.1 dX3_pairParts_29 (lv_at hl 4 rfl) ?_
      refine lv_iload_n X.1 X.2.1 dX3_pairParts_31 rfl (lv_at hl 1 rfl) ?_
      replace hz_4 := ob_e hz_4
      obtain ⟨r_16, h_15, hz_4⟩ := hz_4
      refine k_Vi (k := 1) (As := [.int y_2, .int x1]) X hl.1 hw (c_X2_joinedWith h_15) (by decide) (he_X2 g h _ _) rfl ⟨wq_22_4, wq_11_16, wq_11_17, wq_1_13, wq_11_18⟩ yo_X2_joinedWith rfl ⟨Nat.le_of_ble_eq_true rfl, Nat.le_of_ble_eq_true rfl⟩ (Nat.le_of_ble_eq_true rfl) dX3_pairParts_32 (fun H locs hw => ?_)
      refine lv_iload_n X.1 X.2.1 dX3_pairParts_35 rfl (lv_at hl 2 rfl) ?_
      refine lv_iushr X.1 X.2.1 dX3_pairParts_36 rfl ?_
      refine lv_iconst (v := 1) X.1 X.2.1 dX3_pairParts_37 (by decide) ?_
      refine lv_iand X.1 X.2.1 dX3_pairParts_38 ?_
      refine lv_if_eq (tgt := 52) X.1 X.2.1 dX3_pairParts_39 (by decide) (fun c_17 => ?_) (fun c_17 => ?_)
      · replace hz_4 := it_p hz_4 c_17
        obtain ⟨x_18, ex_18⟩ : ∃ y : Int32, y = y_2 + 1 := ⟨_, rfl⟩
        replace hz_4 := lt_e hz_4 ex_18
        refine lv_iinc (v := x_18) (lv' := [(5, .int x_18), (0, .ref (h 8)), (1, .int x1), (2, .int x2), (3, .long y_1)]) X.1 X.2.1 dX3_pairParts_52 hl (k := 4) rfl (by rw [ex_18]; rfl) (by decide) rfl (fun ls hl => ?_)
        refine lv_goto (tgt := 5) X.1 X.2.1 dX3_pairParts_55 (by decide) ?_
        exact hn_5 _ (Option.some.inj hz_4).symm _ _ _ hw (lv_sub hl [1, 2, 3, 4, 0] rfl)
      · replace hz_4 := it_n hz_4 c_17
        refine lv_lload_n X.1 X.2.1 dX3_pairParts_42 rfl (lv_at hl 3 rfl) ?_
        refine lv_aload_n X.1 X.2.1 dX3_pairParts_43 rfl (lv_at hl 0 rfl) ?_
        refine gX3_parts X hw wq_3_7 dX3_pairParts_44 ?_
        refine lv_iload X.1 X.2.1 dX3_pairParts_47 (lv_at hl 4 rfl) ?_
        replace hz_4 := gd_e hz_4
        obtain ⟨g_19, hz_4⟩ := hz_4
        refine lB1 X hw g_19 dX3_pairParts_49 ?_
        refine lv_ladd X.1 X.2.1 dX3_pairParts_50 ?_
        refine lv_topl (fun x_20 ex_20 => ?_)
        replace hz_4 := lt_e hz_4 ex_20
        refine lv_lstore_n (lv' := [(3, .long x_20), (0, .ref (h 8)), (1, .int x1), (2, .int x2), (5, .int y_2)]) X.1 X.2.1 dX3_pairParts_51 rfl hl (by decide) rfl (fun ls hl => ?_)
        obtain ⟨x_21, ex_21⟩ : ∃ y : Int32, y = y_2 + 1 := ⟨_, rfl⟩
        replace hz_4 := lt_e hz_4 ex_21
        refine lv_iinc (v := x_21) (lv' := [(5, .int x_21), (3, .long x_20), (0, .ref (h 8)), (1, .int x1), (2, .int x2)]) X.1 X.2.1 dX3_pairParts_52 hl (k := 4) rfl (by rw [ex_21]; rfl) (by decide) rfl (fun ls hl => ?_)
        refine lv_goto (tgt := 5) X.1 X.2.1 dX3_pairParts_55 (by decide) ?_
        exact hn_5 _ (Option.some.inj hz_4).symm _ _ _ hw (lv_sub hl [2, 3, 4, 1, 0] rfl)
def m_X3_ruleParts_L4 (b : ST) (σ : Int64 × Int32) : Option ((Int64 × Int32) ⊕ (Int64)) := (fun (q_24 : Int64 × Int32) => un q_24 (fun y_1 y_2 => Option.bind (m_X2_allLinks b) (fun (r_12 : Int32) => if r_12 < y_2 then some (.inr y_1) else if (1024 : Int32) ≤ y_2 then some (.inr y_1) else gd (¬ (y_2 < 0 ∨ 1024 ≤ y_2.toNatClampNeg)) (Option.bind (m_X2_sourceStation b) (fun (r_17 : Int32) => Option.bind (m_X2_joinedWith b y_2 r_17) (fun (r_19 : Int32) => Option.bind (m_J6_bitCount_0f7a4 r_19) (fun (r_21 : Int32) => lt (y_1 + ((b.2.2.2 1 y_2.toNatClampNeg) * r_21.toInt64)) (fun x_22 => lt (y_2 + 1) (fun x_23 => some (.inl (x_22, x_23))))))))))) σ
def m_X3_ruleParts (b : ST) : Option (Int64) := Option.bind (vLoop (m_X3_ruleParts_L4 b) FUEL ((0 : Int64), (0 : Int32))) (fun (j_3 : Int64) => some j_3)
theorem yo_X3_ruleParts : yX3_ruleParts.cls = RX3 ∧ yX3_ruleParts.cls ≠ "java/lang/invoke/MethodHandle" ∧ yX3_ruleParts.cls ≠ "java/lang/invoke/VarHandle" ∧ (parseMethodDescriptor yX3_ruleParts.desc).map (fun d => d.parameters.length) = some 0 := by decide +kernel
set_option maxHeartbeats 4000000 in
set_option maxRecDepth 100000 in
theorem c_X3_ruleParts {l : Launch} {g : gT} {h : Nat → Nat} {b : ST} {w : Nat → ST} {r : Int64} (hm : m_X3_ruleParts b = some r) : MetL l g yX3_ruleParts cX3_ruleParts 4 (some .long) 2 44 79 h (cC g h (b, w)) (cC g h (b, w)) [.ref (h 8)] r := by
  refine MetL.ofX (by decide +kernel) (Nat.le_of_ble_eq_true rfl) ?_
  intro p e s m below meth c AV Q X hret ls hw hl
  replace X : Cx g p s m AV c cX3_ruleParts RX3 4 := X
  replace hl : lv_has ls 4 [(0, .ref (h 8))] := hl
  unfold m_X3_ruleParts at hm
  refine lv_lconst (v := 0) X.1 X.2.1 dX3_ruleParts_0 (by decide) ?_
  refine lv_lstore_n (lv' := [(1, .long (0 : Int64)), (0, .ref (h 8))]) X.1 X.2.1 dX3_ruleParts_1 rfl hl (by decide) rfl (fun ls hl => ?_)
  refine lv_iconst (v := 0) X.1 X.2.1 dX3_ruleParts_2 (by decide) ?_
  refine lv_istore_n (lv' := [(3, .int (0 : Int32)), (1, .long (0 : Int64)), (0, .ref (h 8))]) X.1 X.2.1 dX3_ruleParts_3 rfl hl (by decide) rfl (fun ls hl => ?_)
  replace hm := ob_e hm
  obtain ⟨j_3, hL_9, hm⟩ := hm
  have J_8 : ∀ (H : Heap) (locs : List Loc) (ls : Array Slot), Wd g 79 h (cC g h (b, w)) s H locs → lv_has ls 4 [(1, .long j_3)] → W p l e (rW 2 44) s m AV below meth c H locs 0 0 Q (F0 m 57 ls []) := by
    intro H locs ls hw hl
    refine lv_lload_n X.1 X.2.1 dX3_ruleParts_57 rfl (lv_at hl 0 rfl) ?_
    obtain rfl := Option.some.inj hm
    exact hret _ _ _ _ hw dX3_ruleParts_58
  refine vLoop_ind (B := (m_X3_ruleParts_L4 b)) (fun σ => ∀ (H : Heap) (locs : List Loc) (ls : Array Slot), Wd g 79 h (cC g h (b, w)) s H locs → lv_has ls 4 [(0, .ref (h 8)), (1, .long σ.1), (3, .int σ.2)] → W p l e (rW 2 44) s m AV below meth c H locs 0 0 Q (F0 m 4 ls [])) (fun z' => z' = j_3) ?_ FUEL _ _ hL_9 rfl _ _ _ hw (lv_sub hl [2, 1, 0] rfl)
  intro σ z_7 hz_4 hn_5 hx_6
  obtain ⟨y_1, y_2⟩ := σ
  intro H locs ls hw hl
  replace hw : Wd g 79 h (cC g h (b, w)) s H locs := hw
  replace hl : lv_has ls 4 [(0, .ref (h 8)), (1, .long y_1), (3, .int y_2)] := hl
  unfold m_X3_ruleParts_L4 at hz_4
  replace hz_4 := un_e hz_4
  refine lv_iload_n X.1 X.2.1 dX3_ruleParts_4 rfl (lv_at hl 2 rfl) ?_
  refine lv_aload_n X.1 X.2.1 dX3_ruleParts_5 rfl (lv_at hl 0 rfl) ?_
  refine gX3_net X hw wq_3_8 dX3_ruleParts_6 ?_
  replace hz_4 := ob_e hz_4
  obtain ⟨r_12, h_11, hz_4⟩ := hz_4
  refine k_Vi (k := 1) (As := []) X hl.1 hw (c_X2_allLinks h_11) (by decide) (he_X2 g h _ _) rfl ⟨wq_14_1, wq_11_7, wq_11_8, wq_1_13, wq_11_9⟩ yo_X2_allLinks rfl ⟨Nat.le_of_ble_eq_true rfl, Nat.le_of_ble_eq_true rfl⟩ (Nat.le_of_ble_eq_true rfl) dX3_ruleParts_9 (fun H locs hw => ?_)
  refine lv_icmp_gt (tgt := 57) X.1 X.2.1 dX3_ruleParts_12 (by decide) (fun c_13 => ?_) (fun c_13 => ?_)
  · replace hz_4 := it_p hz_4 c_13
    obtain rfl := hx_6 _ (Option.some.inj hz_4).symm
    exact J_8 _ _ _ hw (lv_sub hl [1] rfl)
  · replace hz_4 := it_n hz_4 c_13
    refine lv_iload_n X.1 X.2.1 dX3_ruleParts_15 rfl (lv_at hl 2 rfl) ?_
    refine lv_sipush (v := 1024) X.1 X.2.1 dX3_ruleParts_16 (by decide) ?_
    refine lv_icmp_ge (tgt := 57) X.1 X.2.1 dX3_ruleParts_19 (by decide) (fun c_14 => ?_) (fun c_14 => ?_)
    · replace hz_4 := it_p hz_4 c_14
      obtain rfl := hx_6 _ (Option.some.inj hz_4).symm
      exact J_8 _ _ _ hw (lv_sub hl [1] rfl)
    · replace hz_4 := it_n hz_4 c_14
      refine lv_lload_n X.1 X.2.1 dX3_ruleParts_22 rfl (lv_at hl 1 rfl) ?_
      refine lv_aload_n X.1 X.2.1 dX3_ruleParts_23 rfl (lv_at hl 0 rfl) ?_
      refine gX3_parts X hw wq_3_7 dX3_ruleParts_24 ?_
      refine lv_iload_n X.1 X.2.1 dX3_ruleParts_27 rfl (lv_at hl 2 rfl) ?_
      replace hz_4 := gd_e hz_4
      obtain ⟨g_15, hz_4⟩ := hz_4
      refine lB1 X hw g_15 dX3_ruleParts_28 ?_
      refine lv_aload_n X.1 X.2.1 dX3_ruleParts_29 rfl (lv_at hl 0 rfl) ?_
      refine gX3_net X hw wq_3_8 dX3_ruleParts_30 ?_
      refine lv_iload_n X.1 X.2.1 dX3_ruleParts_33 rfl (lv_at hl 2 rfl) ?_
      refine lv_aload_n X.1 X.2.1 dX3_ruleParts_34 rfl (lv_at hl 0 rfl) ?_
      refine gX3_net X hw wq_3_8 dX3_ruleParts_35 ?_
      replace hz_4 := ob_e hz_4
      obtain ⟨r_17, h_16, hz_4⟩ := hz_4
      refine k_Vi (k := 1) (As := []) X hl.1 hw (c_X2_sourceStation h_16) (by decide) (he_X2 g h _ _) rfl ⟨wq_22_13, wq_9_7, wq_9_8, wq_1_13, wq_9_9⟩ yo_X2_sourceStation rfl ⟨Nat.le_of_ble_eq_true rfl, Nat.le_of_ble_eq_true rfl⟩ (Nat.le_of_ble_eq_true rfl) dX3_ruleParts_38 (fun H locs hw => ?_)
      replace hz_4 := ob_e hz_4
      obtain ⟨r_19, h_18, hz_4⟩ := hz_4
      refine k_Vi (k := 1) (As := [.int y_2, .int r_17]) X hl.1 hw (c_X2_joinedWith h_18) (by decide) (he_X2 g h _ _) rfl ⟨wq_22_4, wq_11_16, wq_11_17, wq_1_13, wq_11_18⟩ yo_X2_joinedWith rfl ⟨Nat.le_of_ble_eq_true rfl, Nat.le_of_ble_eq_true rfl⟩ (Nat.le_of_ble_eq_true rfl) dX3_ruleParts_41 (fun H locs hw => ?_)
      replace hz_4 := ob_e hz_4
      obtain ⟨r_21, h_20, hz_4⟩ := hz_4
      refine k_Si (As := [.int r_19]) X hl.1 hw (c_J6_bitCount_0f7a4 h_20) ⟨wq_22_14, wq_10_19, wq_10_20, wq_10_21⟩ yo_J6_bitCount_0f7a4 rfl ⟨Nat.le_of_ble_eq_true rfl, Nat.le_of_ble_eq_true rfl⟩ (Nat.le_of_ble_eq_true rfl) dX3_ruleParts_44 (fun H locs hw => ?_)
      refine lv_i2l X.1 X.2.1 dX3_ruleParts_47 rfl ?_
      refine lv_lmul X.1 X.2.1 dX3_ruleParts_48 ?_
      refine lv_ladd X.1 X.2.1 dX3_ruleParts_49 ?_
      refine lv_topl (fun x_22 ex_22 => ?_)
      replace hz_4 := lt_e hz_4 ex_22
      refine lv_lstore_n (lv' := [(1, .long x_22), (0, .ref (h 8)), (3, .int y_2)]) X.1 X.2.1 dX3_ruleParts_50 rfl hl (by decide) rfl (fun ls hl => ?_)
      obtain ⟨x_23, ex_23⟩ : ∃ y : Int32, y = y_2 + 1 := ⟨_, rfl⟩
      replace hz_4 := lt_e hz_4 ex_23
      refine lv_iinc (v := x_23) (lv' := [(3, .int x_23), (1, .long x_22), (0, .ref (h 8))]) X.1 X.2.1 dX3_ruleParts_51 hl (k := 2) rfl (by rw [ex_23]; rfl) (by decide) rfl (fun ls hl => ?_)
      refine lv_goto (tgt := 4) X.1 X.2.1 dX3_ruleParts_54 (by decide) ?_
      exact hn_5 _ (Option.some.inj hz_4).symm _ _ _ hw (lv_sub hl [2, 1, 0] rfl)
def m_X3_worthParts_L22 (x_4 : Int32) (b : ST) (σ : Int64 × Int32) : Option ((Int64 × Int32) ⊕ (Int64)) := (fun (q_34 : Int64 × Int32) => un q_34 (fun y_5 y_6 => Option.bind (m_X2_allLinks b) (fun (r_16 : Int32) => if r_16 < y_6 then some (.inr y_5) else if (1024 : Int32) ≤ (y_6 ||| x_4) then some (.inr y_5) else if (y_6 &&& x_4) = 0 then Option.bind (m_X2_reaches b y_6) (fun (r_22 : Int32) => if r_22 = 0 then Option.bind (m_X2_reaches b (y_6 ||| x_4)) (fun (r_26 : Int32) => if r_26 = 0 then lt (y_6 + 1) (fun x_33 => some (.inl (y_5, x_33))) else gd (¬ (y_6 < 0 ∨ 1024 ≤ y_6.toNatClampNeg)) (lt (y_6 ||| x_4) (fun x_29 => gd (¬ (x_29 < 0 ∨ 1024 ≤ x_29.toNatClampNeg)) (lt (y_5 + ((b.2.2.2 1 y_6.toNatClampNeg) + (b.2.2.2 1 x_29.toNatClampNeg))) (fun x_31 => lt (y_6 + 1) (fun x_32 => some (.inl (x_31, x_32)))))))) else lt (y_6 + 1) (fun x_24 => some (.inl (y_5, x_24)))) else lt (y_6 + 1) (fun x_20 => some (.inl (y_5, x_20)))))) σ
def m_X3_worthParts (b : ST) (x1 : Int32) : Option (Int64) := Option.bind (m_X2_hasLink b x1) (fun (r_2 : Int32) => if r_2 = 0 then some (0 : Int64) else lt ((1 : Int32) <<< (x1 &&& 31)) (fun x_4 => Option.bind (vLoop (m_X3_worthParts_L22 x_4 b) FUEL ((0 : Int64), (0 : Int32))) (fun (j_7 : Int64) => some j_7)))
theorem yo_X3_worthParts : yX3_worthParts.cls = RX3 ∧ yX3_worthParts.cls ≠ "java/lang/invoke/MethodHandle" ∧ yX3_worthParts.cls ≠ "java/lang/invoke/VarHandle" ∧ (parseMethodDescriptor yX3_worthParts.desc).map (fun d => d.parameters.length) = some 1 := by decide +kernel
set_option maxHeartbeats 4000000 in
set_option maxRecDepth 100000 in
theorem c_X3_worthParts {l : Launch} {g : gT} {h : Nat → Nat} {b : ST} {w : Nat → ST} {x1 : Int32} {r : Int64} (hm : m_X3_worthParts b x1 = some r) : MetL l g yX3_worthParts cX3_worthParts 6 (some .long) 3 65 79 h (cC g h (b, w)) (cC g h (b, w)) [.ref (h 8), .int x1] r := by
  refine MetL.ofX (by decide +kernel) (Nat.le_of_ble_eq_true rfl) ?_
  intro p e s m below meth c AV Q X hret ls hw hl
  replace X : Cx g p s m AV c cX3_worthParts RX3 6 := X
  replace hl : lv_has ls 6 [(0, .ref (h 8)), (1, .int x1)] := hl
  unfold m_X3_worthParts at hm
  refine lv_aload_n X.1 X.2.1 dX3_worthParts_0 rfl (lv_at hl 0 rfl) ?_
  refine gX3_net X hw wq_3_8 dX3_worthParts_1 ?_
  refine lv_iload_n X.1 X.2.1 dX3_worthParts_4 rfl (lv_at hl 1 rfl) ?_
  replace hm := ob_e hm
  obtain ⟨r_2, h_1, hm⟩ := hm
  refine k_Vi (k := 1) (As := [.int x1]) X hl.1 hw (c_X2_hasLink h_1) (by decide) (he_X2 g h _ _) rfl ⟨wq_20_23, wq_7_23, wq_8_0, wq_1_13, wq_8_1⟩ yo_X2_hasLink rfl ⟨Nat.le_of_ble_eq_true rfl, Nat.le_of_ble_eq_true rfl⟩ (Nat.le_of_ble_eq_true rfl) dX3_worthParts_5 (fun H locs hw => ?_)
  refine lv_if_ne (tgt := 13) X.1 X.2.1 dX3_worthParts_8 (by decide) (fun c_3 => ?_) (fun c_3 => ?_)
  · replace hm := it_n hm c_3
    refine lv_iconst (v := 1) X.1 X.2.1 dX3_worthParts_13 (by decide) ?_
    refine lv_iload_n X.1 X.2.1 dX3_worthParts_14 rfl (lv_at hl 1 rfl) ?_
    refine lv_ishl X.1 X.2.1 dX3_worthParts_15 ?_
    refine lv_topi (fun x_4 ex_4 => ?_)
    replace hm := lt_e hm ex_4
    refine lv_istore_n (lv' := [(2, .int x_4), (0, .ref (h 8)), (1, .int x1)]) X.1 X.2.1 dX3_worthParts_16 rfl hl (by decide) rfl (fun ls hl => ?_)
    refine lv_lconst (v := 0) X.1 X.2.1 dX3_worthParts_17 (by decide) ?_
    refine lv_lstore_n (lv' := [(3, .long (0 : Int64)), (2, .int x_4), (0, .ref (h 8)), (1, .int x1)]) X.1 X.2.1 dX3_worthParts_18 rfl hl (by decide) rfl (fun ls hl => ?_)
    refine lv_iconst (v := 0) X.1 X.2.1 dX3_worthParts_19 (by decide) ?_
    refine lv_istore (lv' := [(5, .int (0 : Int32)), (3, .long (0 : Int64)), (2, .int x_4), (0, .ref (h 8)), (1, .int x1)]) X.1 X.2.1 dX3_worthParts_20 hl (by decide) rfl (fun ls hl => ?_)
    replace hm := ob_e hm
    obtain ⟨j_7, hL_13, hm⟩ := hm
    have J_12 : ∀ (H : Heap) (locs : List Loc) (ls : Array Slot), Wd g 79 h (cC g h (b, w)) s H locs → lv_has ls 6 [(3, .long j_7)] → W p l e (rW 3 65) s m AV below meth c H locs 0 0 Q (F0 m 106 ls []) := by
      intro H locs ls hw hl
      refine lv_lload_n X.1 X.2.1 dX3_worthParts_106 rfl (lv_at hl 0 rfl) ?_
      obtain rfl := Option.some.inj hm
      exact hret _ _ _ _ hw dX3_worthParts_107
    refine vLoop_ind (B := (m_X3_worthParts_L22 x_4 b)) (fun σ => ∀ (H : Heap) (locs : List Loc) (ls : Array Slot), Wd g 79 h (cC g h (b, w)) s H locs → lv_has ls 6 [(0, .ref (h 8)), (2, .int x_4), (3, .long σ.1), (5, .int σ.2)] → W p l e (rW 3 65) s m AV below meth c H locs 0 0 Q (F0 m 22 ls [])) (fun z' => z' = j_7) ?_ FUEL _ _ hL_13 rfl _ _ _ hw (lv_sub hl [3, 2, 1, 0] rfl)
    intro σ z_11 hz_8 hn_9 hx_10
    obtain ⟨y_5, y_6⟩ := σ
    intro H locs ls hw hl
    replace hw : Wd g 79 h (cC g h (b, w)) s H locs := hw
    replace hl : lv_has ls 6 [(0, .ref (h 8)), (2, .int x_4), (3, .long y_5), (5, .int y_6)] := hl
    unfold m_X3_worthParts_L22 at hz_8
    replace hz_8 := un_e hz_8
    refine lv_iload X.1 X.2.1 dX3_worthParts_22 (lv_at hl 3 rfl) ?_
    refine lv_aload_n X.1 X.2.1 dX3_worthParts_24 rfl (lv_at hl 0 rfl) ?_
    refine gX3_net X hw wq_3_8 dX3_worthParts_25 ?_
    replace hz_8 := ob_e hz_8
    obtain ⟨r_16, h_15, hz_8⟩ := hz_8
    refine k_Vi (k := 1) (As := []) X hl.1 hw (c_X2_allLinks h_15) (by decide) (he_X2 g h _ _) rfl ⟨wq_14_1, wq_11_7, wq_11_8, wq_1_13, wq_11_9⟩ yo_X2_allLinks rfl ⟨Nat.le_of_ble_eq_true rfl, Nat.le_of_ble_eq_true rfl⟩ (Nat.le_of_ble_eq_true rfl) dX3_worthParts_28 (fun H locs hw => ?_)
    refine lv_icmp_gt (tgt := 106) X.1 X.2.1 dX3_worthParts_31 (by decide) (fun c_17 => ?_) (fun c_17 => ?_)
    · replace hz_8 := it_p hz_8 c_17
      obtain rfl := hx_10 _ (Option.some.inj hz_8).symm
      exact J_12 _ _ _ hw (lv_sub hl [2] rfl)
    · replace hz_8 := it_n hz_8 c_17
      refine lv_iload X.1 X.2.1 dX3_worthParts_34 (lv_at hl 3 rfl) ?_
      refine lv_iload_n X.1 X.2.1 dX3_worthParts_36 rfl (lv_at hl 1 rfl) ?_
      refine lv_ior X.1 X.2.1 dX3_worthParts_37 ?_
      refine lv_sipush (v := 1024) X.1 X.2.1 dX3_worthParts_38 (by decide) ?_
      refine lv_icmp_ge (tgt := 106) X.1 X.2.1 dX3_worthParts_41 (by decide) (fun c_18 => ?_) (fun c_18 => ?_)
      · replace hz_8 := it_p hz_8 c_18
        obtain rfl := hx_10 _ (Option.some.inj hz_8).symm
        exact J_12 _ _ _ hw (lv_sub hl [2] rfl)
      · replace hz_8 := it_n hz_8 c_18
        refine lv_iload X.1 X.2.1 dX3_worthParts_44 (lv_at hl 3 rfl) ?_
        refine lv_iload_n X.1 X.2.1 dX3_worthParts_46 rfl (lv_at hl 1 rfl) ?_
        refine lv_iand X.1 X.2.1 dX3_worthParts_47 ?_
        refine lv_if_ne (tgt := 100) X.1 X.2.1 dX3_worthParts_48 (by decide) (fun c_19 => ?_) (fun c_19 => ?_)
        · replace hz_8 := it_n hz_8 c_19
          obtain ⟨x_20, ex_20⟩ : ∃ y : Int32, y = y_6 + 1 := ⟨_, rfl⟩
          replace hz_8 := lt_e hz_8 ex_20
          refine lv_iinc (v := x_20) (lv' := [(5, .int x_20), (0, .ref (h 8)), (2, .int x_4), (3, .long y_5)]) X.1 X.2.1 dX3_worthParts_100 hl (k := 3) rfl (by rw [ex_20]; rfl) (by decide) rfl (fun ls hl => ?_)
          refine lv_goto (tgt := 22) X.1 X.2.1 dX3_worthParts_103 (by decide) ?_
          exact hn_9 _ (Option.some.inj hz_8).symm _ _ _ hw (lv_sub hl [1, 2, 3, 0] rfl)
        · replace hz_8 := it_p hz_8 c_19
          refine lv_aload_n X.1 X.2.1 dX3_worthParts_51 rfl (lv_at hl 0 rfl) ?_
          refine gX3_net X hw wq_3_8 dX3_worthParts_52 ?_
          refine lv_iload X.1 X.2.1 dX3_worthParts_55 (lv_at hl 3 rfl) ?_
          replace hz_8 := ob_e hz_8
          obtain ⟨r_22, h_21, hz_8⟩ := hz_8
          refine k_Vi (k := 1) (As := [.int y_6]) X hl.1 hw (c_X2_reaches h_21) (by decide) (he_X2 g h _ _) rfl ⟨wq_14_2, wq_11_11, wq_11_12, wq_1_13, wq_11_13⟩ yo_X2_reaches rfl ⟨Nat.le_of_ble_eq_true rfl, Nat.le_of_ble_eq_true rfl⟩ (Nat.le_of_ble_eq_true rfl) dX3_worthParts_57 (fun H locs hw => ?_)
          refine lv_if_ne (tgt := 100) X.1 X.2.1 dX3_worthParts_60 (by decide) (fun c_23 => ?_) (fun c_23 => ?_)
          · replace hz_8 := it_n hz_8 c_23
            obtain ⟨x_24, ex_24⟩ : ∃ y : Int32, y = y_6 + 1 := ⟨_, rfl⟩
            replace hz_8 := lt_e hz_8 ex_24
            refine lv_iinc (v := x_24) (lv' := [(5, .int x_24), (0, .ref (h 8)), (2, .int x_4), (3, .long y_5)]) X.1 X.2.1 dX3_worthParts_100 hl (k := 3) rfl (by rw [ex_24]; rfl) (by decide) rfl (fun ls hl => ?_)
            refine lv_goto (tgt := 22) X.1 X.2.1 dX3_worthParts_103 (by decide) ?_
            exact hn_9 _ (Option.some.inj hz_8).symm _ _ _ hw (lv_sub hl [1, 2, 3, 0] rfl)
          · replace hz_8 := it_p hz_8 c_23
            refine lv_aload_n X.1 X.2.1 dX3_worthParts_63 rfl (lv_at hl 0 rfl) ?_
            refine gX3_net X hw wq_3_8 dX3_worthParts_64 ?_
            refine lv_iload X.1 X.2.1 dX3_worthParts_67 (lv_at hl 3 rfl) ?_
            refine lv_iload_n X.1 X.2.1 dX3_worthParts_69 rfl (lv_at hl 1 rfl) ?_
            refine lv_ior X.1 X.2.1 dX3_worthParts_70 ?_
            replace hz_8 := ob_e hz_8
            obtain ⟨r_26, h_25, hz_8⟩ := hz_8
            refine k_Vi (k := 1) (As := [.int (y_6 ||| x_4)]) X hl.1 hw (c_X2_reaches h_25) (by decide) (he_X2 g h _ _) rfl ⟨wq_14_2, wq_11_11, wq_11_12, wq_1_13, wq_11_13⟩ yo_X2_reaches rfl ⟨Nat.le_of_ble_eq_true rfl, Nat.le_of_ble_eq_true rfl⟩ (Nat.le_of_ble_eq_true rfl) dX3_worthParts_71 (fun H locs hw => ?_)
            refine lv_if_ne (tgt := 80) X.1 X.2.1 dX3_worthParts_74 (by decide) (fun c_27 => ?_) (fun c_27 => ?_)
            · replace hz_8 := it_n hz_8 c_27
              refine lv_lload_n X.1 X.2.1 dX3_worthParts_80 rfl (lv_at hl 2 rfl) ?_
              refine lv_aload_n X.1 X.2.1 dX3_worthParts_81 rfl (lv_at hl 0 rfl) ?_
              refine gX3_parts X hw wq_3_7 dX3_worthParts_82 ?_
              refine lv_iload X.1 X.2.1 dX3_worthParts_85 (lv_at hl 3 rfl) ?_
              replace hz_8 := gd_e hz_8
              obtain ⟨g_28, hz_8⟩ := hz_8
              refine lB1 X hw g_28 dX3_worthParts_87 ?_
              refine lv_aload_n X.1 X.2.1 dX3_worthParts_88 rfl (lv_at hl 0 rfl) ?_
              refine gX3_parts X hw wq_3_7 dX3_worthParts_89 ?_
              refine lv_iload X.1 X.2.1 dX3_worthParts_92 (lv_at hl 3 rfl) ?_
              refine lv_iload_n X.1 X.2.1 dX3_worthParts_94 rfl (lv_at hl 1 rfl) ?_
              refine lv_ior X.1 X.2.1 dX3_worthParts_95 ?_
              refine lv_topi (fun x_29 ex_29 => ?_)
              replace hz_8 := lt_e hz_8 ex_29
              replace hz_8 := gd_e hz_8
              obtain ⟨g_30, hz_8⟩ := hz_8
              refine lB1 X hw g_30 dX3_worthParts_96 ?_
              refine lv_ladd X.1 X.2.1 dX3_worthParts_97 ?_
              refine lv_ladd X.1 X.2.1 dX3_worthParts_98 ?_
              refine lv_topl (fun x_31 ex_31 => ?_)
              replace hz_8 := lt_e hz_8 ex_31
              refine lv_lstore_n (lv' := [(3, .long x_31), (0, .ref (h 8)), (2, .int x_4), (5, .int y_6)]) X.1 X.2.1 dX3_worthParts_99 rfl hl (by decide) rfl (fun ls hl => ?_)
              obtain ⟨x_32, ex_32⟩ : ∃ y : Int32, y = y_6 + 1 := ⟨_, rfl⟩
              replace hz_8 := lt_e hz_8 ex_32
              refine lv_iinc (v := x_32) (lv' := [(5, .int x_32), (3, .long x_31), (0, .ref (h 8)), (2, .int x_4)]) X.1 X.2.1 dX3_worthParts_100 hl (k := 3) rfl (by rw [ex_32]; rfl) (by decide) rfl (fun ls hl => ?_)
              refine lv_goto (tgt := 22) X.1 X.2.1 dX3_worthParts_103 (by decide) ?_
              exact hn_9 _ (Option.some.inj hz_8).symm _ _ _ hw (lv_sub hl [2, 3, 1, 0] rfl)
            · replace hz_8 := it_p hz_8 c_27
              refine lv_goto (tgt := 100) X.1 X.2.1 dX3_worthParts_77 (by decide) ?_
              obtain ⟨x_33, ex_33⟩ : ∃ y : Int32, y = y_6 + 1 := ⟨_, rfl⟩
              replace hz_8 := lt_e hz_8 ex_33
              refine lv_iinc (v := x_33) (lv' := [(5, .int x_33), (0, .ref (h 8)), (2, .int x_4), (3, .long y_5)]) X.1 X.2.1 dX3_worthParts_100 hl (k := 3) rfl (by rw [ex_33]; rfl) (by decide) rfl (fun ls hl => ?_)
              refine lv_goto (tgt := 22) X.1 X.2.1 dX3_worthParts_103 (by decide) ?_
              exact hn_9 _ (Option.some.inj hz_8).symm _ _ _ hw (lv_sub hl [1, 2, 3, 0] rfl)
  · replace hm := it_p hm c_3
    refine lv_lconst (v := 0) X.1 X.2.1 dX3_worthParts_11 (by decide) ?_
    obtain rfl := Option.some.inj hm
    exact hret _ _ _ _ hw dX3_worthParts_12
def m_X3_worthiestLink_L9 (b : ST) (σ : Int32 × Int64 × Int32) : Option ((Int32 × Int64 × Int32) ⊕ (Int32)) := (fun (q_24 : Int32 × Int64 × Int32) => un q_24 (fun y_1 q_24 => un q_24 (fun y_2 y_3 => Option.bind (m_X2_linkCount b) (fun (r_13 : Int32) => if r_13 ≤ y_3 then some (.inr y_1) else Option.bind (m_X2_seenOf b y_3) (fun (r_16 : Int32) => if r_16 = 0 then Option.bind (m_X3_worthParts b y_3) (fun (r_19 : Int64) => if 0 < (lg_cmp r_19 y_2) then lt (y_3 + 1) (fun x_21 => some (.inl (y_3, r_19, x_21))) else lt (y_3 + 1) (fun x_22 => some (.inl (y_1, y_2, x_22)))) else lt (y_3 + 1) (fun x_23 => some (.inl (y_1, y_2, x_23)))))))) σ
def m_X3_worthiestLink (b : ST) : Option (Int32) := Option.bind (vLoop (m_X3_worthiestLink_L9 b) FUEL ((-1 : Int32), (-1 : Int64), (0 : Int32))) (fun (j_4 : Int32) => some j_4)
theorem yo_X3_worthiestLink : yX3_worthiestLink.cls = RX3 ∧ yX3_worthiestLink.cls ≠ "java/lang/invoke/MethodHandle" ∧ yX3_worthiestLink.cls ≠ "java/lang/invoke/VarHandle" ∧ (parseMethodDescriptor yX3_worthiestLink.desc).map (fun d => d.parameters.length) = some 0 := by decide +kernel
set_option maxHeartbeats 4000000 in
set_option maxRecDepth 100000 in
theorem c_X3_worthiestLink {l : Launch} {g : gT} {h : Nat → Nat} {b : ST} {w : Nat → ST} {r : Int32} (hm : m_X3_worthiestLink b = some r) : MetI l g yX3_worthiestLink cX3_worthiestLink 7 (some .int) 4 90 79 h (cC g h (b, w)) (cC g h (b, w)) [.ref (h 8)] r := by
  refine MetI.ofX (by decide +kernel) (Nat.le_of_ble_eq_true rfl) ?_
  intro p e s m below meth c AV Q X hret ls hw hl
  replace X : Cx g p s m AV c cX3_worthiestLink RX3 7 := X
  replace hl : lv_has ls 7 [(0, .ref (h 8))] := hl
  unfold m_X3_worthiestLink at hm
  refine lv_iconst (v := -1) X.1 X.2.1 dX3_worthiestLink_0 (by decide) ?_
  refine lv_istore_n (lv' := [(1, .int (-1 : Int32)), (0, .ref (h 8))]) X.1 X.2.1 dX3_worthiestLink_1 rfl hl (by decide) rfl (fun ls hl => ?_)
  refine lv_ldc2 (v := -1) X.1 X.2.1 X.2.2.2.1 (X.2.2.2.2.1 _ wq_21_11) dX3_worthiestLink_2 ?_
  refine lv_lstore_n (lv' := [(2, .long (-1 : Int64)), (1, .int (-1 : Int32)), (0, .ref (h 8))]) X.1 X.2.1 dX3_worthiestLink_5 rfl hl (by decide) rfl (fun ls hl => ?_)
  refine lv_iconst (v := 0) X.1 X.2.1 dX3_worthiestLink_6 (by decide) ?_
  refine lv_istore (lv' := [(4, .int (0 : Int32)), (2, .long (-1 : Int64)), (1, .int (-1 : Int32)), (0, .ref (h 8))]) X.1 X.2.1 dX3_worthiestLink_7 hl (by decide) rfl (fun ls hl => ?_)
  replace hm := ob_e hm
  obtain ⟨j_4, hL_10, hm⟩ := hm
  have J_9 : ∀ (H : Heap) (locs : List Loc) (ls : Array Slot), Wd g 79 h (cC g h (b, w)) s H locs → lv_has ls 7 [(1, .int j_4)] → W p l e (rW 4 90) s m AV below meth c H locs 0 0 Q (F0 m 66 ls []) := by
    intro H locs ls hw hl
    refine lv_iload_n X.1 X.2.1 dX3_worthiestLink_66 rfl (lv_at hl 0 rfl) ?_
    obtain rfl := Option.some.inj hm
    exact hret _ _ _ _ hw dX3_worthiestLink_67
  refine vLoop_ind (B := (m_X3_worthiestLink_L9 b)) (fun σ => ∀ (H : Heap) (locs : List Loc) (ls : Array Slot), Wd g 79 h (cC g h (b, w)) s H locs → lv_has ls 7 [(0, .ref (h 8)), (1, .int σ.1), (2, .long σ.2.1), (4, .int σ.2.2)] → W p l e (rW 4 90) s m AV below meth c H locs 0 0 Q (F0 m 9 ls [])) (fun z' => z' = j_4) ?_ FUEL _ _ hL_10 rfl _ _ _ hw (lv_sub hl [3, 2, 1, 0] rfl)
  intro σ z_8 hz_5 hn_6 hx_7
  obtain ⟨y_1, y_2, y_3⟩ := σ
  intro H locs ls hw hl
  replace hw : Wd g 79 h (cC g h (b, w)) s H locs := hw
  replace hl : lv_has ls 7 [(0, .ref (h 8)), (1, .int y_1), (2, .long y_2), (4, .int y_3)] := hl
  unfold m_X3_worthiestLink_L9 at hz_5
  replace hz_5 := un_e hz_5
  replace hz_5 := un_e hz_5
  refine lv_iload X.1 X.2.1 dX3_worthiestLink_9 (lv_at hl 3 rfl) ?_
  refine lv_aload_n X.1 X.2.1 dX3_worthiestLink_11 rfl (lv_at hl 0 rfl) ?_
  refine gX3_net X hw wq_3_8 dX3_worthiestLink_12 ?_
  replace hz_5 := ob_e hz_5
  obtain ⟨r_13, h_12, hz_5⟩ := hz_5
  refine k_Vi (k := 1) (As := []) X hl.1 hw (c_X2_linkCount h_12) (by decide) (he_X2 g h _ _) rfl ⟨wq_13_0, wq_10_11, wq_10_12, wq_1_13, wq_10_13⟩ yo_X2_linkCount rfl ⟨Nat.le_of_ble_eq_true rfl, Nat.le_of_ble_eq_true rfl⟩ (Nat.le_of_ble_eq_true rfl) dX3_worthiestLink_15 (fun H locs hw => ?_)
  refine lv_icmp_ge (tgt := 66) X.1 X.2.1 dX3_worthiestLink_18 (by decide) (fun c_14 => ?_) (fun c_14 => ?_)
  · replace hz_5 := it_p hz_5 c_14
    obtain rfl := hx_7 _ (Option.some.inj hz_5).symm
    exact J_9 _ _ _ hw (lv_sub hl [1] rfl)
  · replace hz_5 := it_n hz_5 c_14
    refine lv_aload_n X.1 X.2.1 dX3_worthiestLink_21 rfl (lv_at hl 0 rfl) ?_
    refine gX3_net X hw wq_3_8 dX3_worthiestLink_22 ?_
    refine lv_iload X.1 X.2.1 dX3_worthiestLink_25 (lv_at hl 3 rfl) ?_
    replace hz_5 := ob_e hz_5
    obtain ⟨r_16, h_15, hz_5⟩ := hz_5
    refine k_Vi (k := 1) (As := [.int y_3]) X hl.1 hw (c_X2_seenOf h_15) (by decide) (he_X2 g h _ _) rfl ⟨wq_21_12, wq_8_18, wq_8_19, wq_1_13, wq_8_20⟩ yo_X2_seenOf rfl ⟨Nat.le_of_ble_eq_true rfl, Nat.le_of_ble_eq_true rfl⟩ (Nat.le_of_ble_eq_true rfl) dX3_worthiestLink_27 (fun H locs hw => ?_)
    refine lv_if_eq (tgt := 36) X.1 X.2.1 dX3_worthiestLink_30 (by decide) (fun c_17 => ?_) (fun c_17 => ?_)
    · replace hz_5 := it_p hz_5 c_17
      refine lv_aload_n X.1 X.2.1 dX3_worthiestLink_36 rfl (lv_at hl 0 rfl) ?_
      refine lv_iload X.1 X.2.1 dX3_worthiestLink_37 (lv_at hl 3 rfl) ?_
      replace hz_5 := ob_e hz_5
      obtain ⟨r_19, h_18, hz_5⟩ := hz_5
      refine k_Vl (k := 8) (As := [.int y_3]) X hl.1 hw (c_X3_worthParts h_18) (by decide) (he_X3 g h _ _) rfl ⟨wq_21_13, wq_20_20, wq_20_21, wq_1_17, wq_20_22⟩ yo_X3_worthParts rfl ⟨Nat.le_of_ble_eq_true rfl, Nat.le_of_ble_eq_true rfl⟩ (Nat.le_of_ble_eq_true rfl) dX3_worthiestLink_39 (fun H locs hw => ?_)
      refine lv_lstore (lv' := [(5, .long r_19), (0, .ref (h 8)), (1, .int y_1), (2, .long y_2), (4, .int y_3)]) X.1 X.2.1 dX3_worthiestLink_42 hl (by decide) rfl (fun ls hl => ?_)
      refine lv_lload X.1 X.2.1 dX3_worthiestLink_44 (lv_at hl 0 rfl) ?_
      refine lv_lload_n X.1 X.2.1 dX3_worthiestLink_46 rfl (lv_at hl 3 rfl) ?_
      refine W.lcmp X.1 X.2.1 dX3_worthiestLink_47 ?_
      refine lv_if_gt (tgt := 54) X.1 X.2.1 dX3_worthiestLink_48 (by decide) (fun c_20 => ?_) (fun c_20 => ?_)
      · replace hz_5 := it_p hz_5 c_20
        refine lv_lload X.1 X.2.1 dX3_worthiestLink_54 (lv_at hl 0 rfl) ?_
        refine lv_lstore_n (lv' := [(2, .long r_19), (5, .long r_19), (0, .ref (h 8)), (1, .int y_1), (4, .int y_3)]) X.1 X.2.1 dX3_worthiestLink_56 rfl hl (by decide) rfl (fun ls hl => ?_)
        refine lv_iload X.1 X.2.1 dX3_worthiestLink_57 (lv_at hl 4 rfl) ?_
        refine lv_istore_n (lv' := [(1, .int y_3), (2, .long r_19), (5, .long r_19), (0, .ref (h 8)), (4, .int y_3)]) X.1 X.2.1 dX3_worthiestLink_59 rfl hl (by decide) rfl (fun ls hl => ?_)
        obtain ⟨x_21, ex_21⟩ : ∃ y : Int32, y = y_3 + 1 := ⟨_, rfl⟩
        replace hz_5 := lt_e hz_5 ex_21
        refine lv_iinc (v := x_21) (lv' := [(4, .int x_21), (1, .int y_3), (2, .long r_19), (5, .long r_19), (0, .ref (h 8))]) X.1 X.2.1 dX3_worthiestLink_60 hl (k := 4) rfl (by rw [ex_21]; rfl) (by decide) rfl (fun ls hl => ?_)
        refine lv_goto (tgt := 9) X.1 X.2.1 dX3_worthiestLink_63 (by decide) ?_
        exact hn_6 _ (Option.some.inj hz_5).symm _ _ _ hw (lv_sub hl [4, 1, 2, 0] rfl)
      · replace hz_5 := it_n hz_5 c_20
        refine lv_goto (tgt := 60) X.1 X.2.1 dX3_worthiestLink_51 (by decide) ?_
        obtain ⟨x_22, ex_22⟩ : ∃ y : Int32, y = y_3 + 1 := ⟨_, rfl⟩
        replace hz_5 := lt_e hz_5 ex_22
        refine lv_iinc (v := x_22) (lv' := [(4, .int x_22), (5, .long r_19), (0, .ref (h 8)), (1, .int y_1), (2, .long y_2)]) X.1 X.2.1 dX3_worthiestLink_60 hl (k := 4) rfl (by rw [ex_22]; rfl) (by decide) rfl (fun ls hl => ?_)
        refine lv_goto (tgt := 9) X.1 X.2.1 dX3_worthiestLink_63 (by decide) ?_
        exact hn_6 _ (Option.some.inj hz_5).symm _ _ _ hw (lv_sub hl [2, 3, 4, 0] rfl)
    · replace hz_5 := it_n hz_5 c_17
      refine lv_goto (tgt := 60) X.1 X.2.1 dX3_worthiestLink_33 (by decide) ?_
      obtain ⟨x_23, ex_23⟩ : ∃ y : Int32, y = y_3 + 1 := ⟨_, rfl⟩
      replace hz_5 := lt_e hz_5 ex_23
      refine lv_iinc (v := x_23) (lv' := [(4, .int x_23), (0, .ref (h 8)), (1, .int y_1), (2, .long y_2)]) X.1 X.2.1 dX3_worthiestLink_60 hl (k := 3) rfl (by rw [ex_23]; rfl) (by decide) rfl (fun ls hl => ?_)
      refine lv_goto (tgt := 9) X.1 X.2.1 dX3_worthiestLink_63 (by decide) ?_
      exact hn_6 _ (Option.some.inj hz_5).symm _ _ _ hw (lv_sub hl [1, 2, 3, 0] rfl)
def m_X5_fill_L26 (σ : Int32 × ST) : Option ((Int32 × ST) ⊕ (ST)) := (fun (q_29 : Int32 × ST) => un q_29 (fun y_4 b_5 => Option.bind (m_X2_allLinks b_5) (fun (r_15 : Int32) => if r_15 < y_4 then some (.inr b_5) else Option.bind (m_J6_bitCount_0f7a4 y_4) (fun (r_18 : Int32) => if (11 : Int32) ≤ r_18 then lt (y_4 + 1) (fun x_20 => some (.inl (x_20, b_5))) else Option.bind (m_X2_reaches b_5 y_4) (fun (r_22 : Int32) => if r_22 = 0 then lt (y_4 + 1) (fun x_24 => some (.inl (x_24, b_5))) else gd (¬ (r_18 < 0 ∨ 11 ≤ r_18.toNatClampNeg)) (gd (¬ (r_18 < 0 ∨ 11 ≤ r_18.toNatClampNeg)) (lt (wA b_5 5 r_18.toNatClampNeg (((b_5.2.2.1 5 r_18.toNatClampNeg) + (1 : Int32)))) (fun b_27 => lt (y_4 + 1) (fun x_28 => some (.inl (x_28, b_27))))))))))) σ
def m_X5_fill_L2 (σ : Int32 × ST) : Option ((Int32 × ST) ⊕ (ST)) := (fun (q_41 : Int32 × ST) => un q_41 (fun y_1 b_2 => if (11 : Int32) ≤ y_1 then some (.inr b_2) else gd (¬ (y_1 < 0 ∨ 11 ≤ y_1.toNatClampNeg)) (lt (wA b_2 5 y_1.toNatClampNeg (0 : Int32)) (fun b_39 => lt (y_1 + 1) (fun x_40 => some (.inl (x_40, b_39))))))) σ
def m_X5_fill (b : ST) : Option (ST) := Option.bind (vLoop (m_X5_fill_L2) FUEL ((0 : Int32), b)) (fun (b_3 : ST) => Option.bind (vLoop (m_X5_fill_L26) FUEL ((0 : Int32), b_3)) (fun (b_6 : ST) => some b_6))
theorem yo_X5_fill : yX5_fill.cls = RX5 ∧ yX5_fill.cls ≠ "java/lang/invoke/MethodHandle" ∧ yX5_fill.cls ≠ "java/lang/invoke/VarHandle" ∧ (parseMethodDescriptor yX5_fill.desc).map (fun d => d.parameters.length) = some 0 := by decide +kernel
set_option maxHeartbeats 4000000 in
set_option maxRecDepth 100000 in
theorem c_X5_fill {l : Launch} {g : gT} {h : Nat → Nat} {b : ST} {w : Nat → ST} {b' : ST} (hm : m_X5_fill b = some (b')) : MetV l g yX5_fill cX5_fill 3 none 3 65 79 h (cC g h (b, w)) (cC g h (b', w)) [.ref (h 10)] := by
  refine MetV.ofX (by decide +kernel) (Nat.le_of_ble_eq_true rfl) ?_
  intro p e s m below meth c AV Q X hret ls hw hl
  replace X : Cx g p s m AV c cX5_fill RX5 3 := X
  replace hl : lv_has ls 3 [(0, .ref (h 10))] := hl
  unfold m_X5_fill at hm
  refine lv_iconst (v := 0) X.1 X.2.1 dX5_fill_0 (by decide) ?_
  refine lv_istore_n (lv' := [(1, .int (0 : Int32)), (0, .ref (h 10))]) X.1 X.2.1 dX5_fill_1 rfl hl (by decide) rfl (fun ls hl => ?_)
  replace hm := ob_e hm
  obtain ⟨b_3, hL_35, hm⟩ := hm
  have J_34 : ∀ (H : Heap) (locs : List Loc) (ls : Array Slot), Wd g 79 h (cC g h (b_3, w)) s H locs → lv_has ls 3 [(0, .ref (h 10))] → W p l e (rW 3 65) s m AV below meth c H locs 0 0 Q (F0 m 24 ls []) := by
    intro H locs ls hw hl
    refine lv_iconst (v := 0) X.1 X.2.1 dX5_fill_24 (by decide) ?_
    refine lv_istore_n (lv' := [(1, .int (0 : Int32)), (0, .ref (h 10))]) X.1 X.2.1 dX5_fill_25 rfl hl (by decide) rfl (fun ls hl => ?_)
    replace hm := ob_e hm
    obtain ⟨b_6, hL_12, hm⟩ := hm
    have J_11 : ∀ (H : Heap) (locs : List Loc) (ls : Array Slot), Wd g 79 h (cC g h (b_6, w)) s H locs → lv_has ls 3 [] → W p l e (rW 3 65) s m AV below meth c H locs 0 0 Q (F0 m 78 ls []) := by
      intro H locs ls hw hl
      obtain rfl := Option.some.inj hm
      exact hret _ _ _ _ hw dX5_fill_78
    refine vLoop_ind (B := (m_X5_fill_L26)) (fun σ => ∀ (H : Heap) (locs : List Loc) (ls : Array Slot), Wd g 79 h (cC g h (σ.2, w)) s H locs → lv_has ls 3 [(0, .ref (h 10)), (1, .int σ.1)] → W p l e (rW 3 65) s m AV below meth c H locs 0 0 Q (F0 m 26 ls [])) (fun z' => z' = b_6) ?_ FUEL _ _ hL_12 rfl _ _ _ hw (lv_sub hl [1, 0] rfl)
    intro σ z_10 hz_7 hn_8 hx_9
    obtain ⟨y_4, b_5⟩ := σ
    intro H locs ls hw hl
    replace hw : Wd g 79 h (cC g h (b_5, w)) s H locs := hw
    replace hl : lv_has ls 3 [(0, .ref (h 10)), (1, .int y_4)] := hl
    unfold m_X5_fill_L26 at hz_7
    replace hz_7 := un_e hz_7
    refine lv_iload_n X.1 X.2.1 dX5_fill_26 rfl (lv_at hl 1 rfl) ?_
    refine lv_aload_n X.1 X.2.1 dX5_fill_27 rfl (lv_at hl 0 rfl) ?_
    refine gX5_net X hw wq_3_15 dX5_fill_28 ?_
    replace hz_7 := ob_e hz_7
    obtain ⟨r_15, h_14, hz_7⟩ := hz_7
    refine k_Vi (k := 1) (As := []) X hl.1 hw (c_X2_allLinks h_14) (by decide) (he_X2 g h _ _) rfl ⟨wq_24_20, wq_11_7, wq_11_8, wq_1_13, wq_11_9⟩ yo_X2_allLinks rfl ⟨Nat.le_of_ble_eq_true rfl, Nat.le_of_ble_eq_true rfl⟩ (Nat.le_of_ble_eq_true rfl) dX5_fill_31 (fun H locs hw => ?_)
    refine lv_icmp_gt (tgt := 78) X.1 X.2.1 dX5_fill_34 (by decide) (fun c_16 => ?_) (fun c_16 => ?_)
    · replace hz_7 := it_p hz_7 c_16
      obtain rfl := hx_9 _ (Option.some.inj hz_7).symm
      exact J_11 _ _ _ hw (lv_sub hl [] rfl)
    · replace hz_7 := it_n hz_7 c_16
      refine lv_iload_n X.1 X.2.1 dX5_fill_37 rfl (lv_at hl 1 rfl) ?_
      replace hz_7 := ob_e hz_7
      obtain ⟨r_18, h_17, hz_7⟩ := hz_7
      refine k_Si (As := [.int y_4]) X hl.1 hw (c_J6_bitCount_0f7a4 h_17) ⟨wq_25_2, wq_10_19, wq_10_20, wq_10_21⟩ yo_J6_bitCount_0f7a4 rfl ⟨Nat.le_of_ble_eq_true rfl, Nat.le_of_ble_eq_true rfl⟩ (Nat.le_of_ble_eq_true rfl) dX5_fill_38 (fun H locs hw => ?_)
      refine lv_istore_n (lv' := [(2, .int r_18), (0, .ref (h 10)), (1, .int y_4)]) X.1 X.2.1 dX5_fill_41 rfl hl (by decide) rfl (fun ls hl => ?_)
      refine lv_iload_n X.1 X.2.1 dX5_fill_42 rfl (lv_at hl 0 rfl) ?_
      refine lv_aload_n X.1 X.2.1 dX5_fill_43 rfl (lv_at hl 1 rfl) ?_
      refine gX5_reaching X hw wq_3_14 dX5_fill_44 ?_
      refine eA5 X hw (v := 11) rfl dX5_fill_47 ?_
      refine lv_icmp_ge (tgt := 72) X.1 X.2.1 dX5_fill_48 (by decide) (fun c_19 => ?_) (fun c_19 => ?_)
      · replace hz_7 := it_p hz_7 c_19
        obtain ⟨x_20, ex_20⟩ : ∃ y : Int32, y = y_4 + 1 := ⟨_, rfl⟩
        replace hz_7 := lt_e hz_7 ex_20
        refine lv_iinc (v := x_20) (lv' := [(1, .int x_20), (2, .int r_18), (0, .ref (h 10))]) X.1 X.2.1 dX5_fill_72 hl (k := 2) rfl (by rw [ex_20]; rfl) (by decide) rfl (fun ls hl => ?_)
        refine lv_goto (tgt := 26) X.1 X.2.1 dX5_fill_75 (by decide) ?_
        exact hn_8 _ (Option.some.inj hz_7).symm _ _ _ hw (lv_sub hl [2, 0] rfl)
      · replace hz_7 := it_n hz_7 c_19
        refine lv_aload_n X.1 X.2.1 dX5_fill_51 rfl (lv_at hl 1 rfl) ?_
        refine gX5_net X hw wq_3_15 dX5_fill_52 ?_
        refine lv_iload_n X.1 X.2.1 dX5_fill_55 rfl (lv_at hl 2 rfl) ?_
        replace hz_7 := ob_e hz_7
        obtain ⟨r_22, h_21, hz_7⟩ := hz_7
        refine k_Vi (k := 1) (As := [.int y_4]) X hl.1 hw (c_X2_reaches h_21) (by decide) (he_X2 g h _ _) rfl ⟨wq_24_21, wq_11_11, wq_11_12, wq_1_13, wq_11_13⟩ yo_X2_reaches rfl ⟨Nat.le_of_ble_eq_true rfl, Nat.le_of_ble_eq_true rfl⟩ (Nat.le_of_ble_eq_true rfl) dX5_fill_56 (fun H locs hw => ?_)
        refine lv_if_eq (tgt := 72) X.1 X.2.1 dX5_fill_59 (by decide) (fun c_23 => ?_) (fun c_23 => ?_)
        · replace hz_7 := it_p hz_7 c_23
          obtain ⟨x_24, ex_24⟩ : ∃ y : Int32, y = y_4 + 1 := ⟨_, rfl⟩
          replace hz_7 := lt_e hz_7 ex_24
          refine lv_iinc (v := x_24) (lv' := [(1, .int x_24), (2, .int r_18), (0, .ref (h 10))]) X.1 X.2.1 dX5_fill_72 hl (k := 2) rfl (by rw [ex_24]; rfl) (by decide) rfl (fun ls hl => ?_)
          refine lv_goto (tgt := 26) X.1 X.2.1 dX5_fill_75 (by decide) ?_
          exact hn_8 _ (Option.some.inj hz_7).symm _ _ _ hw (lv_sub hl [2, 0] rfl)
        · replace hz_7 := it_n hz_7 c_23
          refine lv_aload_n X.1 X.2.1 dX5_fill_62 rfl (lv_at hl 1 rfl) ?_
          refine gX5_reaching X hw wq_3_14 dX5_fill_63 ?_
          refine lv_iload_n X.1 X.2.1 dX5_fill_66 rfl (lv_at hl 0 rfl) ?_
          refine lv_dup2_11 X.1 X.2.1 dX5_fill_67 rfl rfl ?_
          replace hz_7 := gd_e hz_7
          obtain ⟨g_25, hz_7⟩ := hz_7
          refine lA5 X hw g_25 dX5_fill_68 ?_
          refine lv_iconst (v := 1) X.1 X.2.1 dX5_fill_69 (by decide) ?_
          refine lv_iadd X.1 X.2.1 dX5_fill_70 ?_
          replace hz_7 := gd_e hz_7
          obtain ⟨g_26, hz_7⟩ := hz_7
          refine sA5 X hw g_26 dX5_fill_71 (fun H locs hw => ?_)
          obtain ⟨b_27, eb_27⟩ : ∃ y, y = wA b_5 5 r_18.toNatClampNeg (((b_5.2.2.1 5 r_18.toNatClampNeg) + (1 : Int32))) := ⟨_, rfl⟩
          rw [← eb_27] at hw
          replace hz_7 := lt_e hz_7 eb_27
          obtain ⟨x_28, ex_28⟩ : ∃ y : Int32, y = y_4 + 1 := ⟨_, rfl⟩
          replace hz_7 := lt_e hz_7 ex_28
          refine lv_iinc (v := x_28) (lv' := [(1, .int x_28), (2, .int r_18), (0, .ref (h 10))]) X.1 X.2.1 dX5_fill_72 hl (k := 2) rfl (by rw [ex_28]; rfl) (by decide) rfl (fun ls hl => ?_)
          refine lv_goto (tgt := 26) X.1 X.2.1 dX5_fill_75 (by decide) ?_
          exact hn_8 _ (Option.some.inj hz_7).symm _ _ _ hw (lv_sub hl [2, 0] rfl)
  refine vLoop_ind (B := (m_X5_fill_L2)) (fun σ => ∀ (H : Heap) (locs : List Loc) (ls : Array Slot), Wd g 79 h (cC g h (σ.2, w)) s H locs → lv_has ls 3 [(0, .ref (h 10)), (1, .int σ.1)] → W p l e (rW 3 65) s m AV below meth c H locs 0 0 Q (F0 m 2 ls [])) (fun z' => z' = b_3) ?_ FUEL _ _ hL_35 rfl _ _ _ hw (lv_sub hl [1, 0] rfl)
  intro σ z_33 hz_30 hn_31 hx_32
  obtain ⟨y_1, b_2⟩ := σ
  intro H locs ls hw hl
  replace hw : Wd g 79 h (cC g h (b_2, w)) s H locs := hw
  replace hl : lv_has ls 3 [(0, .ref (h 10)), (1, .int y_1)] := hl
  unfold m_X5_fill_L2 at hz_30
  replace hz_30 := un_e hz_30
  refine lv_iload_n X.1 X.2.1 dX5_fill_2 rfl (lv_at hl 1 rfl) ?_
  refine lv_aload_n X.1 X.2.1 dX5_fill_3 rfl (lv_at hl 0 rfl) ?_
  refine gX5_reaching X hw wq_3_14 dX5_fill_4 ?_
  refine eA5 X hw (v := 11) rfl dX5_fill_7 ?_
  refine lv_icmp_ge (tgt := 24) X.1 X.2.1 dX5_fill_8 (by decide) (fun c_37 => ?_) (fun c_37 => ?_)
  · replace hz_30 := it_p hz_30 c_37
    obtain rfl := hx_32 _ (Option.some.inj hz_30).symm
    exact J_34 _ _ _ hw (lv_sub hl [0] rfl)
  · replace hz_30 := it_n hz_30 c_37
    refine lv_aload_n X.1 X.2.1 dX5_fill_11 rfl (lv_at hl 0 rfl) ?_
    refine gX5_reaching X hw wq_3_14 dX5_fill_12 ?_
    refine lv_iload_n X.1 X.2.1 dX5_fill_15 rfl (lv_at hl 1 rfl) ?_
    refine lv_iconst (v := 0) X.1 X.2.1 dX5_fill_16 (by decide) ?_
    replace hz_30 := gd_e hz_30
    obtain ⟨g_38, hz_30⟩ := hz_30
    refine sA5 X hw g_38 dX5_fill_17 (fun H locs hw => ?_)
    obtain ⟨b_39, eb_39⟩ : ∃ y, y = wA b_2 5 y_1.toNatClampNeg (0 : Int32) := ⟨_, rfl⟩
    rw [← eb_39] at hw
    replace hz_30 := lt_e hz_30 eb_39
    obtain ⟨x_40, ex_40⟩ : ∃ y : Int32, y = y_1 + 1 := ⟨_, rfl⟩
    replace hz_30 := lt_e hz_30 ex_40
    refine lv_iinc (v := x_40) (lv' := [(1, .int x_40), (0, .ref (h 10))]) X.1 X.2.1 dX5_fill_18 hl (k := 1) rfl (by rw [ex_40]; rfl) (by decide) rfl (fun ls hl => ?_)
    refine lv_goto (tgt := 2) X.1 X.2.1 dX5_fill_21 (by decide) ?_
    exact hn_31 _ (Option.some.inj hz_30).symm _ _ _ hw (lv_sub hl [1, 0] rfl)
def m_X5_ofSize (b : ST) (x1 : Int32) : Option (Int32) := if x1 < 0 then some (0 : Int32) else if (11 : Int32) ≤ x1 then some (0 : Int32) else gd (¬ (x1 < 0 ∨ 11 ≤ x1.toNatClampNeg)) (some (b.2.2.1 5 x1.toNatClampNeg))
theorem yo_X5_ofSize : yX5_ofSize.cls = RX5 ∧ yX5_ofSize.cls ≠ "java/lang/invoke/MethodHandle" ∧ yX5_ofSize.cls ≠ "java/lang/invoke/VarHandle" ∧ (parseMethodDescriptor yX5_ofSize.desc).map (fun d => d.parameters.length) = some 1 := by decide +kernel
set_option maxHeartbeats 4000000 in
set_option maxRecDepth 100000 in
theorem c_X5_ofSize {l : Launch} {g : gT} {h : Nat → Nat} {b : ST} {w : Nat → ST} {x1 : Int32} {r : Int32} (hm : m_X5_ofSize b x1 = some r) : MetI l g yX5_ofSize cX5_ofSize 2 (some .int) 0 0 79 h (cC g h (b, w)) (cC g h (b, w)) [.ref (h 10), .int x1] r := by
  refine MetI.ofX (by decide +kernel) (Nat.le_of_ble_eq_true rfl) ?_
  intro p e s m below meth c AV Q X hret ls hw hl
  replace X : Cx g p s m AV c cX5_ofSize RX5 2 := X
  replace hl : lv_has ls 2 [(0, .ref (h 10)), (1, .int x1)] := hl
  unfold m_X5_ofSize at hm
  refine lv_iload_n X.1 X.2.1 dX5_ofSize_0 rfl (lv_at hl 1 rfl) ?_
  refine lv_if_lt (tgt := 22) X.1 X.2.1 dX5_ofSize_1 (by decide) (fun c_1 => ?_) (fun c_1 => ?_)
  · replace hm := it_p hm c_1
    refine lv_iconst (v := 0) X.1 X.2.1 dX5_ofSize_22 (by decide) ?_
    obtain rfl := Option.some.inj hm
    exact hret _ _ _ _ hw dX5_ofSize_23
  · replace hm := it_n hm c_1
    refine lv_iload_n X.1 X.2.1 dX5_ofSize_4 rfl (lv_at hl 1 rfl) ?_
    refine lv_aload_n X.1 X.2.1 dX5_ofSize_5 rfl (lv_at hl 0 rfl) ?_
    refine gX5_reaching X hw wq_3_14 dX5_ofSize_6 ?_
    refine eA5 X hw (v := 11) rfl dX5_ofSize_9 ?_
    refine lv_icmp_ge (tgt := 22) X.1 X.2.1 dX5_ofSize_10 (by decide) (fun c_2 => ?_) (fun c_2 => ?_)
    · replace hm := it_p hm c_2
      refine lv_iconst (v := 0) X.1 X.2.1 dX5_ofSize_22 (by decide) ?_
      obtain rfl := Option.some.inj hm
      exact hret _ _ _ _ hw dX5_ofSize_23
    · replace hm := it_n hm c_2
      refine lv_aload_n X.1 X.2.1 dX5_ofSize_13 rfl (lv_at hl 0 rfl) ?_
      refine gX5_reaching X hw wq_3_14 dX5_ofSize_14 ?_
      refine lv_iload_n X.1 X.2.1 dX5_ofSize_17 rfl (lv_at hl 1 rfl) ?_
      replace hm := gd_e hm
      obtain ⟨g_3, hm⟩ := hm
      refine lA5 X hw g_3 dX5_ofSize_18 ?_
      refine lv_goto (tgt := 23) X.1 X.2.1 dX5_ofSize_19 (by decide) ?_
      obtain rfl := Option.some.inj hm
      exact hret _ _ _ _ hw dX5_ofSize_23
def m_X5_times (x0 : Int64) (x2 : Int64) : Option (Int64) := if (lg_cmp x0 (0 : Int64)) < 0 then some (-1 : Int64) else if 0 ≤ (lg_cmp x2 (0 : Int64)) then if (lg_cmp x0 (0 : Int64)) ≤ 0 then some (x0 * x2) else gd (¬ x0 = 0) (if (lg_cmp x2 ((9223372036854775807 : Int64) / x0)) ≤ 0 then some (x0 * x2) else some (-1 : Int64)) else some (-1 : Int64)
theorem yo_X5_times : yX5_times.cls ≠ "java/lang/invoke/MethodHandle" ∧ yX5_times.cls ≠ "java/lang/invoke/VarHandle" ∧ (parseMethodDescriptor yX5_times.desc).map (fun d => d.parameters.length) = some 2 := by decide +kernel
set_option maxHeartbeats 4000000 in
set_option maxRecDepth 100000 in
theorem c_X5_times {l : Launch} {g : gT} {n : Nat} {h : Nat → Nat} {cel : Nat → va_E} {x0 : Int64} {x2 : Int64} {r : Int64} (hm : m_X5_times x0 x2 = some r) : MetL l g yX5_times cX5_times 4 (some .long) 0 0 n h (cel) (cel) [.long x0, .long x2] r := by
  refine MetL.ofX (by decide +kernel) (Nat.le_of_ble_eq_true rfl) ?_
  intro p e s m below meth c AV Q X hret ls hw hl
  replace X : Cx g p s m AV c cX5_times RX5 4 := X
  replace hl : lv_has ls 4 [(0, .long x0), (2, .long x2)] := hl
  unfold m_X5_times at hm
  refine lv_lload_n X.1 X.2.1 dX5_times_0 rfl (lv_at hl 0 rfl) ?_
  refine lv_lconst (v := 0) X.1 X.2.1 dX5_times_1 (by decide) ?_
  refine W.lcmp X.1 X.2.1 dX5_times_2 ?_
  refine lv_if_lt (tgt := 12) X.1 X.2.1 dX5_times_3 (by decide) (fun c_1 => ?_) (fun c_1 => ?_)
  · replace hm := it_p hm c_1
    refine lv_ldc2 (v := -1) X.1 X.2.1 X.2.2.2.1 (X.2.2.2.2.1 _ wq_26_20) dX5_times_12 ?_
    obtain rfl := Option.some.inj hm
    exact hret _ _ _ _ hw dX5_times_15
  · replace hm := it_n hm c_1
    refine lv_lload_n X.1 X.2.1 dX5_times_6 rfl (lv_at hl 1 rfl) ?_
    refine lv_lconst (v := 0) X.1 X.2.1 dX5_times_7 (by decide) ?_
    refine W.lcmp X.1 X.2.1 dX5_times_8 ?_
    refine lv_if_ge (tgt := 16) X.1 X.2.1 dX5_times_9 (by decide) (fun c_2 => ?_) (fun c_2 => ?_)
    · replace hm := it_p hm c_2
      refine lv_lload_n X.1 X.2.1 dX5_times_16 rfl (lv_at hl 0 rfl) ?_
      refine lv_lconst (v := 0) X.1 X.2.1 dX5_times_17 (by decide) ?_
      refine W.lcmp X.1 X.2.1 dX5_times_18 ?_
      refine lv_if_le (tgt := 36) X.1 X.2.1 dX5_times_19 (by decide) (fun c_3 => ?_) (fun c_3 => ?_)
      · replace hm := it_p hm c_3
        refine lv_lload_n X.1 X.2.1 dX5_times_36 rfl (lv_at hl 0 rfl) ?_
        refine lv_lload_n X.1 X.2.1 dX5_times_37 rfl (lv_at hl 1 rfl) ?_
        refine lv_lmul X.1 X.2.1 dX5_times_38 ?_
        obtain rfl := Option.some.inj hm
        exact hret _ _ _ _ hw dX5_times_39
      · replace hm := it_n hm c_3
        refine lv_lload_n X.1 X.2.1 dX5_times_22 rfl (lv_at hl 1 rfl) ?_
        refine lv_ldc2 (v := 9223372036854775807) X.1 X.2.1 X.2.2.2.1 (X.2.2.2.2.1 _ wq_27_5) dX5_times_23 ?_
        refine lv_lload_n X.1 X.2.1 dX5_times_26 rfl (lv_at hl 0 rfl) ?_
        replace hm := gd_e hm
        obtain ⟨g_4, hm⟩ := hm
        refine lv_ldiv X.1 X.2.1 dX5_times_27 g_4 ?_
        refine W.lcmp X.1 X.2.1 dX5_times_28 ?_
        refine lv_if_le (tgt := 36) X.1 X.2.1 dX5_times_29 (by decide) (fun c_5 => ?_) (fun c_5 => ?_)
        · replace hm := it_p hm c_5
          refine lv_lload_n X.1 X.2.1 dX5_times_36 rfl (lv_at hl 0 rfl) ?_
          refine lv_lload_n X.1 X.2.1 dX5_times_37 rfl (lv_at hl 1 rfl) ?_
          refine lv_lmul X.1 X.2.1 dX5_times_38 ?_
          obtain rfl := Option.some.inj hm
          exact hret _ _ _ _ hw dX5_times_39
        · replace hm := it_n hm c_5
          refine lv_ldc2 (v := -1) X.1 X.2.1 X.2.2.2.1 (X.2.2.2.2.1 _ wq_26_20) dX5_times_32 ?_
          obtain rfl := Option.some.inj hm
          exact hret _ _ _ _ hw dX5_times_35
    · replace hm := it_n hm c_2
      refine lv_ldc2 (v := -1) X.1 X.2.1 X.2.2.2.1 (X.2.2.2.2.1 _ wq_26_20) dX5_times_12 ?_
      obtain rfl := Option.some.inj hm
      exact hret _ _ _ _ hw dX5_times_15
def m_X5_power_L5 (x0 : Int64) (x2 : Int32) (σ : Int64 × Int32) : Option ((Int64 × Int32) ⊕ (Int64)) := (fun (q_15 : Int64 × Int32) => un q_15 (fun y_1 y_2 => if x2 ≤ y_2 then some (.inr y_1) else Option.bind (m_X5_times y_1 x0) (fun (r_13 : Int64) => lt (y_2 + 1) (fun x_14 => some (.inl (r_13, x_14)))))) σ
def m_X5_power (x0 : Int64) (x2 : Int32) : Option (Int64) := Option.bind (vLoop (m_X5_power_L5 x0 x2) FUEL ((1 : Int64), (0 : Int32))) (fun (j_3 : Int64) => some j_3)
theorem yo_X5_power : yX5_power.cls ≠ "java/lang/invoke/MethodHandle" ∧ yX5_power.cls ≠ "java/lang/invoke/VarHandle" ∧ (parseMethodDescriptor yX5_power.desc).map (fun d => d.parameters.length) = some 2 := by decide +kernel
set_option maxHeartbeats 4000000 in
set_option maxRecDepth 100000 in
theorem c_X5_power {l : Launch} {g : gT} {n : Nat} {h : Nat → Nat} {cel : Nat → va_E} {x0 : Int64} {x2 : Int32} {r : Int64} (hm : m_X5_power x0 x2 = some r) : MetL l g yX5_power cX5_power 6 (some .long) 1 23 n h (cel) (cel) [.long x0, .int x2] r := by
  refine MetL.ofX (by decide +kernel) (Nat.le_of_ble_eq_true rfl) ?_
  intro p e s m below meth c AV Q X hret ls hw hl
  replace X : Cx g p s m AV c cX5_power RX5 6 := X
  replace hl : lv_has ls 6 [(0, .long x0), (2, .int x2)] := hl
  unfold m_X5_power at hm
  refine lv_lconst (v := 1) X.1 X.2.1 dX5_power_0 (by decide) ?_
  refine lv_lstore_n (lv' := [(3, .long (1 : Int64)), (0, .long x0), (2, .int x2)]) X.1 X.2.1 dX5_power_1 rfl hl (by decide) rfl (fun ls hl => ?_)
  refine lv_iconst (v := 0) X.1 X.2.1 dX5_power_2 (by decide) ?_
  refine lv_istore (lv' := [(5, .int (0 : Int32)), (3, .long (1 : Int64)), (0, .long x0), (2, .int x2)]) X.1 X.2.1 dX5_power_3 hl (by decide) rfl (fun ls hl => ?_)
  replace hm := ob_e hm
  obtain ⟨j_3, hL_9, hm⟩ := hm
  have J_8 : ∀ (H : Heap) (locs : List Loc) (ls : Array Slot), Wd g n h (cel) s H locs → lv_has ls 6 [(3, .long j_3)] → W p l e (rW 1 23) s m AV below meth c H locs 0 0 Q (F0 m 23 ls []) := by
    intro H locs ls hw hl
    refine lv_lload_n X.1 X.2.1 dX5_power_23 rfl (lv_at hl 0 rfl) ?_
    obtain rfl := Option.some.inj hm
    exact hret _ _ _ _ hw dX5_power_24
  refine vLoop_ind (B := (m_X5_power_L5 x0 x2)) (fun σ => ∀ (H : Heap) (locs : List Loc) (ls : Array Slot), Wd g n h (cel) s H locs → lv_has ls 6 [(0, .long x0), (2, .int x2), (3, .long σ.1), (5, .int σ.2)] → W p l e (rW 1 23) s m AV below meth c H locs 0 0 Q (F0 m 5 ls [])) (fun z' => z' = j_3) ?_ FUEL _ _ hL_9 rfl _ _ _ hw (lv_sub hl [2, 3, 1, 0] rfl)
  intro σ z_7 hz_4 hn_5 hx_6
  obtain ⟨y_1, y_2⟩ := σ
  intro H locs ls hw hl
  replace hw : Wd g n h (cel) s H locs := hw
  replace hl : lv_has ls 6 [(0, .long x0), (2, .int x2), (3, .long y_1), (5, .int y_2)] := hl
  unfold m_X5_power_L5 at hz_4
  replace hz_4 := un_e hz_4
  refine lv_iload X.1 X.2.1 dX5_power_5 (lv_at hl 3 rfl) ?_
  refine lv_iload_n X.1 X.2.1 dX5_power_7 rfl (lv_at hl 1 rfl) ?_
  refine lv_icmp_ge (tgt := 23) X.1 X.2.1 dX5_power_8 (by decide) (fun c_11 => ?_) (fun c_11 => ?_)
  · replace hz_4 := it_p hz_4 c_11
    obtain rfl := hx_6 _ (Option.some.inj hz_4).symm
    exact J_8 _ _ _ hw (lv_sub hl [2] rfl)
  · replace hz_4 := it_n hz_4 c_11
    refine lv_lload_n X.1 X.2.1 dX5_power_11 rfl (lv_at hl 2 rfl) ?_
    refine lv_lload_n X.1 X.2.1 dX5_power_12 rfl (lv_at hl 0 rfl) ?_
    replace hz_4 := ob_e hz_4
    obtain ⟨r_13, h_12, hz_4⟩ := hz_4
    refine k_Sl (As := [.long y_1, .long x0]) X hl.1 hw (c_X5_times h_12) ⟨wq_27_2, wq_27_3, wq_1_21, wq_27_4⟩ yo_X5_times rfl ⟨Nat.le_of_ble_eq_true rfl, Nat.le_of_ble_eq_true rfl⟩ (Nat.le_of_ble_eq_true rfl) dX5_power_13 (fun H locs hw => ?_)
    refine lv_lstore_n (lv' := [(3, .long r_13), (0, .long x0), (2, .int x2), (5, .int y_2)]) X.1 X.2.1 dX5_power_16 rfl hl (by decide) rfl (fun ls hl => ?_)
    obtain ⟨x_14, ex_14⟩ : ∃ y : Int32, y = y_2 + 1 := ⟨_, rfl⟩
    replace hz_4 := lt_e hz_4 ex_14
    refine lv_iinc (v := x_14) (lv' := [(5, .int x_14), (3, .long r_13), (0, .long x0), (2, .int x2)]) X.1 X.2.1 dX5_power_17 hl (k := 3) rfl (by rw [ex_14]; rfl) (by decide) rfl (fun ls hl => ?_)
    refine lv_goto (tgt := 5) X.1 X.2.1 dX5_power_20 (by decide) ?_
    exact hn_5 _ (Option.some.inj hz_4).symm _ _ _ hw (lv_sub hl [2, 3, 1, 0] rfl)
def m_X5_plus (x0 : Int64) (x2 : Int64) : Option (Int64) := if (lg_cmp x0 (0 : Int64)) < 0 then some (-1 : Int64) else if (lg_cmp x2 (0 : Int64)) < 0 then some (-1 : Int64) else if (lg_cmp x0 ((9223372036854775807 : Int64) - x2)) ≤ 0 then some (x0 + x2) else some (-1 : Int64)
theorem yo_X5_plus : yX5_plus.cls ≠ "java/lang/invoke/MethodHandle" ∧ yX5_plus.cls ≠ "java/lang/invoke/VarHandle" ∧ (parseMethodDescriptor yX5_plus.desc).map (fun d => d.parameters.length) = some 2 := by decide +kernel
set_option maxHeartbeats 4000000 in
set_option maxRecDepth 100000 in
theorem c_X5_plus {l : Launch} {g : gT} {n : Nat} {h : Nat → Nat} {cel : Nat → va_E} {x0 : Int64} {x2 : Int64} {r : Int64} (hm : m_X5_plus x0 x2 = some r) : MetL l g yX5_plus cX5_plus 4 (some .long) 0 0 n h (cel) (cel) [.long x0, .long x2] r := by
  refine MetL.ofX (by decide +kernel) (Nat.le_of_ble_eq_true rfl) ?_
  intro p e s m below meth c AV Q X hret ls hw hl
  replace X : Cx g p s m AV c cX5_plus RX5 4 := X
  replace hl : lv_has ls 4 [(0, .long x0), (2, .long x2)] := hl
  unfold m_X5_plus at hm
  refine lv_lload_n X.1 X.2.1 dX5_plus_0 rfl (lv_at hl 0 rfl) ?_
  refine lv_lconst (v := 0) X.1 X.2.1 dX5_plus_1 (by decide) ?_
  refine W.lcmp X.1 X.2.1 dX5_plus_2 ?_
  refine lv_if_lt (tgt := 22) X.1 X.2.1 dX5_plus_3 (by decide) (fun c_1 => ?_) (fun c_1 => ?_)
  · replace hm := it_p hm c_1
    refine lv_ldc2 (v := -1) X.1 X.2.1 X.2.2.2.1 (X.2.2.2.2.1 _ wq_26_20) dX5_plus_22 ?_
    obtain rfl := Option.some.inj hm
    exact hret _ _ _ _ hw dX5_plus_25
  · replace hm := it_n hm c_1
    refine lv_lload_n X.1 X.2.1 dX5_plus_6 rfl (lv_at hl 1 rfl) ?_
    refine lv_lconst (v := 0) X.1 X.2.1 dX5_plus_7 (by decide) ?_
    refine W.lcmp X.1 X.2.1 dX5_plus_8 ?_
    refine lv_if_lt (tgt := 22) X.1 X.2.1 dX5_plus_9 (by decide) (fun c_2 => ?_) (fun c_2 => ?_)
    · replace hm := it_p hm c_2
      refine lv_ldc2 (v := -1) X.1 X.2.1 X.2.2.2.1 (X.2.2.2.2.1 _ wq_26_20) dX5_plus_22 ?_
      obtain rfl := Option.some.inj hm
      exact hret _ _ _ _ hw dX5_plus_25
    · replace hm := it_n hm c_2
      refine lv_lload_n X.1 X.2.1 dX5_plus_12 rfl (lv_at hl 0 rfl) ?_
      refine lv_ldc2 (v := 9223372036854775807) X.1 X.2.1 X.2.2.2.1 (X.2.2.2.2.1 _ wq_27_5) dX5_plus_13 ?_
      refine lv_lload_n X.1 X.2.1 dX5_plus_16 rfl (lv_at hl 1 rfl) ?_
      refine lv_lsub X.1 X.2.1 dX5_plus_17 ?_
      refine W.lcmp X.1 X.2.1 dX5_plus_18 ?_
      refine lv_if_le (tgt := 26) X.1 X.2.1 dX5_plus_19 (by decide) (fun c_3 => ?_) (fun c_3 => ?_)
      · replace hm := it_p hm c_3
        refine lv_lload_n X.1 X.2.1 dX5_plus_26 rfl (lv_at hl 0 rfl) ?_
        refine lv_lload_n X.1 X.2.1 dX5_plus_27 rfl (lv_at hl 1 rfl) ?_
        refine lv_ladd X.1 X.2.1 dX5_plus_28 ?_
        obtain rfl := Option.some.inj hm
        exact hret _ _ _ _ hw dX5_plus_29
      · replace hm := it_n hm c_3
        refine lv_ldc2 (v := -1) X.1 X.2.1 X.2.2.2.1 (X.2.2.2.2.1 _ wq_26_20) dX5_plus_22 ?_
        obtain rfl := Option.some.inj hm
        exact hret _ _ _ _ hw dX5_plus_25
def m_X5_likeParts_L15 (x1 : Int32) (x2 : Int32) (r_2 : Int32) (b : ST) (σ : Int64 × Int32) : Option ((Int64 × Int32) ⊕ (Int64)) := (fun (q_32 : Int64 × Int32) => un q_32 (fun y_3 y_4 => if r_2 < y_4 then some (.inr y_3) else Option.bind (m_X5_ofSize b y_4) (fun (r_20 : Int32) => Option.bind (m_X5_power (x1.toInt64) y_4) (fun (r_22 : Int64) => Option.bind (m_X5_times (r_20.toInt64) r_22) (fun (r_24 : Int64) => Option.bind (m_X5_power ((x2 - x1).toInt64) (r_2 - y_4)) (fun (r_26 : Int64) => Option.bind (m_X5_times r_24 r_26) (fun (r_28 : Int64) => Option.bind (m_X5_plus y_3 r_28) (fun (r_30 : Int64) => lt (y_4 + 1) (fun x_31 => some (.inl (r_30, x_31))))))))))) σ
def m_X5_likeParts (b : ST) (x1 : Int32) (x2 : Int32) (x3 : Int32) : Option (Int64) := Option.bind (m_X2_linkCount b) (fun (r_2 : Int32) => Option.bind (vLoop (m_X5_likeParts_L15 x1 x2 r_2 b) FUEL ((0 : Int64), (0 : Int32))) (fun (j_5 : Int64) => Option.bind (m_X5_power (x2.toInt64) r_2) (fun (r_7 : Int64) => if (lg_cmp j_5 (0 : Int64)) < 0 then some (-1 : Int64) else if 0 ≤ (lg_cmp r_7 (0 : Int64)) then if x3 = 0 then some j_5 else some r_7 else some (-1 : Int64))))
theorem yo_X5_likeParts : yX5_likeParts.cls = RX5 ∧ yX5_likeParts.cls ≠ "java/lang/invoke/MethodHandle" ∧ yX5_likeParts.cls ≠ "java/lang/invoke/VarHandle" ∧ (parseMethodDescriptor yX5_likeParts.desc).map (fun d => d.parameters.length) = some 3 := by decide +kernel
set_option maxHeartbeats 4000000 in
set_option maxRecDepth 100000 in
theorem c_X5_likeParts {l : Launch} {g : gT} {h : Nat → Nat} {b : ST} {w : Nat → ST} {x1 : Int32} {x2 : Int32} {x3 : Int32} {r : Int64} (hm : m_X5_likeParts b x1 x2 x3 = some r) : MetL l g yX5_likeParts cX5_likeParts 10 (some .long) 2 48 79 h (cC g h (b, w)) (cC g h (b, w)) [.ref (h 10), .int x1, .int x2, .int x3] r := by
  refine MetL.ofX (by decide +kernel) (Nat.le_of_ble_eq_true rfl) ?_
  intro p e s m below meth c AV Q X hret ls hw hl
  replace X : Cx g p s m AV c cX5_likeParts RX5 10 := X
  replace hl : lv_has ls 10 [(0, .ref (h 10)), (1, .int x1), (2, .int x2), (3, .int x3)] := hl
  unfold m_X5_likeParts at hm
  refine lv_aload_n X.1 X.2.1 dX5_likeParts_0 rfl (lv_at hl 0 rfl) ?_
  refine gX5_net X hw wq_3_15 dX5_likeParts_1 ?_
  replace hm := ob_e hm
  obtain ⟨r_2, h_1, hm⟩ := hm
  refine k_Vi (k := 1) (As := []) X hl.1 hw (c_X2_linkCount h_1) (by decide) (he_X2 g h _ _) rfl ⟨wq_26_21, wq_10_11, wq_10_12, wq_1_13, wq_10_13⟩ yo_X2_linkCount rfl ⟨Nat.le_of_ble_eq_true rfl, Nat.le_of_ble_eq_true rfl⟩ (Nat.le_of_ble_eq_true rfl) dX5_likeParts_4 (fun H locs hw => ?_)
  refine lv_istore (lv' := [(4, .int r_2), (0, .ref (h 10)), (1, .int x1), (2, .int x2), (3, .int x3)]) X.1 X.2.1 dX5_likeParts_7 hl (by decide) rfl (fun ls hl => ?_)
  refine lv_lconst (v := 0) X.1 X.2.1 dX5_likeParts_9 (by decide) ?_
  refine lv_lstore (lv' := [(5, .long (0 : Int64)), (4, .int r_2), (0, .ref (h 10)), (1, .int x1), (2, .int x2), (3, .int x3)]) X.1 X.2.1 dX5_likeParts_10 hl (by decide) rfl (fun ls hl => ?_)
  refine lv_iconst (v := 0) X.1 X.2.1 dX5_likeParts_12 (by decide) ?_
  refine lv_istore (lv' := [(7, .int (0 : Int32)), (5, .long (0 : Int64)), (4, .int r_2), (0, .ref (h 10)), (1, .int x1), (2, .int x2), (3, .int x3)]) X.1 X.2.1 dX5_likeParts_13 hl (by decide) rfl (fun ls hl => ?_)
  replace hm := ob_e hm
  obtain ⟨j_5, hL_16, hm⟩ := hm
  have J_15 : ∀ (H : Heap) (locs : List Loc) (ls : Array Slot), Wd g 79 h (cC g h (b, w)) s H locs → lv_has ls 10 [(2, .int x2), (3, .int x3), (4, .int r_2), (5, .long j_5)] → W p l e (rW 2 48) s m AV below meth c H locs 0 0 Q (F0 m 71 ls []) := by
    intro H locs ls hw hl
    refine lv_iload_n X.1 X.2.1 dX5_likeParts_71 rfl (lv_at hl 0 rfl) ?_
    refine lv_i2l X.1 X.2.1 dX5_likeParts_72 rfl ?_
    refine lv_iload X.1 X.2.1 dX5_likeParts_73 (lv_at hl 2 rfl) ?_
    replace hm := ob_e hm
    obtain ⟨r_7, h_6, hm⟩ := hm
    refine k_Sl (As := [.long x2.toInt64, .int r_2]) X hl.1 hw (c_X5_power h_6) ⟨wq_26_23, wq_27_0, wq_1_21, wq_27_1⟩ yo_X5_power rfl ⟨Nat.le_of_ble_eq_true rfl, Nat.le_of_ble_eq_true rfl⟩ (Nat.le_of_ble_eq_true rfl) dX5_likeParts_75 (fun H locs hw => ?_)
    refine lv_lstore (lv' := [(7, .long r_7), (2, .int x2), (3, .int x3), (4, .int r_2), (5, .long j_5)]) X.1 X.2.1 dX5_likeParts_78 hl (by decide) rfl (fun ls hl => ?_)
    refine lv_lload X.1 X.2.1 dX5_likeParts_80 (lv_at hl 4 rfl) ?_
    refine lv_lconst (v := 0) X.1 X.2.1 dX5_likeParts_82 (by decide) ?_
    refine W.lcmp X.1 X.2.1 dX5_likeParts_83 ?_
    refine lv_if_lt (tgt := 94) X.1 X.2.1 dX5_likeParts_84 (by decide) (fun c_8 => ?_) (fun c_8 => ?_)
    · replace hm := it_p hm c_8
      refine lv_ldc2 (v := -1) X.1 X.2.1 X.2.2.2.1 (X.2.2.2.2.1 _ wq_26_20) dX5_likeParts_94 ?_
      obtain rfl := Option.some.inj hm
      exact hret _ _ _ _ hw dX5_likeParts_97
    · replace hm := it_n hm c_8
      refine lv_lload X.1 X.2.1 dX5_likeParts_87 (lv_at hl 0 rfl) ?_
      refine lv_lconst (v := 0) X.1 X.2.1 dX5_likeParts_89 (by decide) ?_
      refine W.lcmp X.1 X.2.1 dX5_likeParts_90 ?_
      refine lv_if_ge (tgt := 98) X.1 X.2.1 dX5_likeParts_91 (by decide) (fun c_9 => ?_) (fun c_9 => ?_)
      · replace hm := it_p hm c_9
        refine lv_iload_n X.1 X.2.1 dX5_likeParts_98 rfl (lv_at hl 2 rfl) ?_
        refine lv_if_ne (tgt := 107) X.1 X.2.1 dX5_likeParts_99 (by decide) (fun c_10 => ?_) (fun c_10 => ?_)
        · replace hm := it_n hm c_10
          refine lv_lload X.1 X.2.1 dX5_likeParts_107 (lv_at hl 0 rfl) ?_
          obtain rfl := Option.some.inj hm
          exact hret _ _ _ _ hw dX5_likeParts_109
        · replace hm := it_p hm c_10
          refine lv_lload X.1 X.2.1 dX5_likeParts_102 (lv_at hl 4 rfl) ?_
          refine lv_goto (tgt := 109) X.1 X.2.1 dX5_likeParts_104 (by decide) ?_
          obtain rfl := Option.some.inj hm
          exact hret _ _ _ _ hw dX5_likeParts_109
      · replace hm := it_n hm c_9
        refine lv_ldc2 (v := -1) X.1 X.2.1 X.2.2.2.1 (X.2.2.2.2.1 _ wq_26_20) dX5_likeParts_94 ?_
        obtain rfl := Option.some.inj hm
        exact hret _ _ _ _ hw dX5_likeParts_97
  refine vLoop_ind (B := (m_X5_likeParts_L15 x1 x2 r_2 b)) (fun σ => ∀ (H : Heap) (locs : List Loc) (ls : Array Slot), Wd g 79 h (cC g h (b, w)) s H locs → lv_has ls 10 [(0, .ref (h 10)), (1, .int x1), (2, .int x2), (3, .int x3), (4, .int r_2), (5, .long σ.1), (7, .int σ.2)] → W p l e (rW 2 48) s m AV below meth c H locs 0 0 Q (F0 m 15 ls [])) (fun z' => z' = j_5) ?_ FUEL _ _ hL_16 rfl _ _ _ hw (lv_sub hl [3, 4, 5, 6, 2, 1, 0] rfl)
  intro σ z_14 hz_11 hn_12 hx_13
  obtain ⟨y_3, y_4⟩ := σ
  intro H locs ls hw hl
  replace hw : Wd g 79 h (cC g h (b, w)) s H locs := hw
  replace hl : lv_has ls 10 [(0, .ref (h 10)), (1, .int x1), (2, .int x2), (3, .int x3), (4, .int r_2), (5, .long y_3), (7, .int y_4)] := hl
  unfold m_X5_likeParts_L15 at hz_11
  replace hz_11 := un_e hz_11
  refine lv_iload X.1 X.2.1 dX5_likeParts_15 (lv_at hl 6 rfl) ?_
  refine lv_iload X.1 X.2.1 dX5_likeParts_17 (lv_at hl 4 rfl) ?_
  refine lv_icmp_gt (tgt := 71) X.1 X.2.1 dX5_likeParts_19 (by decide) (fun c_18 => ?_) (fun c_18 => ?_)
  · replace hz_11 := it_p hz_11 c_18
    obtain rfl := hx_13 _ (Option.some.inj hz_11).symm
    exact J_15 _ _ _ hw (lv_sub hl [2, 3, 4, 5] rfl)
  · replace hz_11 := it_n hz_11 c_18
    refine lv_aload_n X.1 X.2.1 dX5_likeParts_22 rfl (lv_at hl 0 rfl) ?_
    refine lv_iload X.1 X.2.1 dX5_likeParts_23 (lv_at hl 6 rfl) ?_
    replace hz_11 := ob_e hz_11
    obtain ⟨r_20, h_19, hz_11⟩ := hz_11
    refine k_Vi (k := 10) (As := [.int y_4]) X hl.1 hw (c_X5_ofSize h_19) (by decide) (he_X5 g h _ _) rfl ⟨wq_26_22, wq_25_16, wq_25_17, wq_1_21, wq_25_18⟩ yo_X5_ofSize rfl ⟨Nat.le_of_ble_eq_true rfl, Nat.le_of_ble_eq_true rfl⟩ (Nat.le_of_ble_eq_true rfl) dX5_likeParts_25 (fun H locs hw => ?_)
    refine lv_i2l X.1 X.2.1 dX5_likeParts_28 rfl ?_
    refine lv_iload_n X.1 X.2.1 dX5_likeParts_29 rfl (lv_at hl 1 rfl) ?_
    refine lv_i2l X.1 X.2.1 dX5_likeParts_30 rfl ?_
    refine lv_iload X.1 X.2.1 dX5_likeParts_31 (lv_at hl 6 rfl) ?_
    replace hz_11 := ob_e hz_11
    obtain ⟨r_22, h_21, hz_11⟩ := hz_11
    refine k_Sl (As := [.long x1.toInt64, .int y_4]) X hl.1 hw (c_X5_power h_21) ⟨wq_26_23, wq_27_0, wq_1_21, wq_27_1⟩ yo_X5_power rfl ⟨Nat.le_of_ble_eq_true rfl, Nat.le_of_ble_eq_true rfl⟩ (Nat.le_of_ble_eq_true rfl) dX5_likeParts_33 (fun H locs hw => ?_)
    replace hz_11 := ob_e hz_11
    obtain ⟨r_24, h_23, hz_11⟩ := hz_11
    refine k_Sl (As := [.long r_20.toInt64, .long r_22]) X hl.1 hw (c_X5_times h_23) ⟨wq_27_2, wq_27_3, wq_1_21, wq_27_4⟩ yo_X5_times rfl ⟨Nat.le_of_ble_eq_true rfl, Nat.le_of_ble_eq_true rfl⟩ (Nat.le_of_ble_eq_true rfl) dX5_likeParts_36 (fun H locs hw => ?_)
    refine lv_iload_n X.1 X.2.1 dX5_likeParts_39 rfl (lv_at hl 2 rfl) ?_
    refine lv_iload_n X.1 X.2.1 dX5_likeParts_40 rfl (lv_at hl 1 rfl) ?_
    refine lv_isub X.1 X.2.1 dX5_likeParts_41 ?_
    refine lv_i2l X.1 X.2.1 dX5_likeParts_42 rfl ?_
    refine lv_iload X.1 X.2.1 dX5_likeParts_43 (lv_at hl 4 rfl) ?_
    refine lv_iload X.1 X.2.1 dX5_likeParts_45 (lv_at hl 6 rfl) ?_
    refine lv_isub X.1 X.2.1 dX5_likeParts_47 ?_
    replace hz_11 := ob_e hz_11
    obtain ⟨r_26, h_25, hz_11⟩ := hz_11
    refine k_Sl (As := [.long (x2 - x1).toInt64, .int (r_2 - y_4)]) X hl.1 hw (c_X5_power h_25) ⟨wq_26_23, wq_27_0, wq_1_21, wq_27_1⟩ yo_X5_power rfl ⟨Nat.le_of_ble_eq_true rfl, Nat.le_of_ble_eq_true rfl⟩ (Nat.le_of_ble_eq_true rfl) dX5_likeParts_48 (fun H locs hw => ?_)
    replace hz_11 := ob_e hz_11
    obtain ⟨r_28, h_27, hz_11⟩ := hz_11
    refine k_Sl (As := [.long r_24, .long r_26]) X hl.1 hw (c_X5_times h_27) ⟨wq_27_2, wq_27_3, wq_1_21, wq_27_4⟩ yo_X5_times rfl ⟨Nat.le_of_ble_eq_true rfl, Nat.le_of_ble_eq_true rfl⟩ (Nat.le_of_ble_eq_true rfl) dX5_likeParts_51 (fun H locs hw => ?_)
    refine lv_lstore (lv' := [(8, .long r_28), (0, .ref (h 10)), (1, .int x1), (2, .int x2), (3, .int x3), (4, .int r_2), (5, .long y_3), (7, .int y_4)]) X.1 X.2.1 dX5_likeParts_54 hl (by decide) rfl (fun ls hl => ?_)
    refine lv_lload X.1 X.2.1 dX5_likeParts_56 (lv_at hl 6 rfl) ?_
    refine lv_lload X.1 X.2.1 dX5_likeParts_58 (lv_at hl 0 rfl) ?_
    replace hz_11 := ob_e hz_11
    obtain ⟨r_30, h_29, hz_11⟩ := hz_11
    refine k_Sl (As := [.long y_3, .long r_28]) X hl.1 hw (c_X5_plus h_29) ⟨wq_27_6, wq_27_7, wq_1_21, wq_27_8⟩ yo_X5_plus rfl ⟨Nat.le_of_ble_eq_true rfl, Nat.le_of_ble_eq_true rfl⟩ (Nat.le_of_ble_eq_true rfl) dX5_likeParts_60 (fun H locs hw => ?_)
    refine lv_lstore (lv' := [(5, .long r_30), (8, .long r_28), (0, .ref (h 10)), (1, .int x1), (2, .int x2), (3, .int x3), (4, .int r_2), (7, .int y_4)]) X.1 X.2.1 dX5_likeParts_63 hl (by decide) rfl (fun ls hl => ?_)
    obtain ⟨x_31, ex_31⟩ : ∃ y : Int32, y = y_4 + 1 := ⟨_, rfl⟩
    replace hz_11 := lt_e hz_11 ex_31
    refine lv_iinc (v := x_31) (lv' := [(7, .int x_31), (5, .long r_30), (8, .long r_28), (0, .ref (h 10)), (1, .int x1), (2, .int x2), (3, .int x3), (4, .int r_2)]) X.1 X.2.1 dX5_likeParts_65 hl (k := 7) rfl (by rw [ex_31]; rfl) (by decide) rfl (fun ls hl => ?_)
    refine lv_goto (tgt := 15) X.1 X.2.1 dX5_likeParts_68 (by decide) ?_
    exact hn_12 _ (Option.some.inj hz_11).symm _ _ _ hw (lv_sub hl [3, 4, 5, 6, 7, 1, 0] rfl)
def m_X5_lesserSize (x0 : Int32) (x1 : Int32) : Option (Int32) := Option.bind (m_J6_bitCount_0f7a4 x1) (fun (r_2 : Int32) => if x0 = (-1 : Int32) then some r_2 else lt (if r_2 < x0 then r_2 else x0) (fun x_4 => some x_4))
theorem yo_X5_lesserSize : yX5_lesserSize.cls ≠ "java/lang/invoke/MethodHandle" ∧ yX5_lesserSize.cls ≠ "java/lang/invoke/VarHandle" ∧ (parseMethodDescriptor yX5_lesserSize.desc).map (fun d => d.parameters.length) = some 2 := by decide +kernel
set_option maxHeartbeats 4000000 in
set_option maxRecDepth 100000 in
theorem c_X5_lesserSize {l : Launch} {g : gT} {n : Nat} {h : Nat → Nat} {cel : Nat → va_E} {x0 : Int32} {x1 : Int32} {r : Int32} (hm : m_X5_lesserSize x0 x1 = some r) : MetI l g yX5_lesserSize cX5_lesserSize 3 (some .int) 1 24 n h (cel) (cel) [.int x0, .int x1] r := by
  refine MetI.ofX (by decide +kernel) (Nat.le_of_ble_eq_true rfl) ?_
  intro p e s m below meth c AV Q X hret ls hw hl
  replace X : Cx g p s m AV c cX5_lesserSize RX5 3 := X
  replace hl : lv_has ls 3 [(0, .int x0), (1, .int x1)] := hl
  unfold m_X5_lesserSize at hm
  refine lv_iload_n X.1 X.2.1 dX5_lesserSize_0 rfl (lv_at hl 1 rfl) ?_
  replace hm := ob_e hm
  obtain ⟨r_2, h_1, hm⟩ := hm
  refine k_Si (As := [.int x1]) X hl.1 hw (c_J6_bitCount_0f7a4 h_1) ⟨wq_25_2, wq_10_19, wq_10_20, wq_10_21⟩ yo_J6_bitCount_0f7a4 rfl ⟨Nat.le_of_ble_eq_true rfl, Nat.le_of_ble_eq_true rfl⟩ (Nat.le_of_ble_eq_true rfl) dX5_lesserSize_1 (fun H locs hw => ?_)
  refine lv_istore_n (lv' := [(2, .int r_2), (0, .int x0), (1, .int x1)]) X.1 X.2.1 dX5_lesserSize_4 rfl hl (by decide) rfl (fun ls hl => ?_)
  refine lv_iload_n X.1 X.2.1 dX5_lesserSize_5 rfl (lv_at hl 1 rfl) ?_
  refine lv_iconst (v := -1) X.1 X.2.1 dX5_lesserSize_6 (by decide) ?_
  refine lv_icmp_ne (tgt := 14) X.1 X.2.1 dX5_lesserSize_7 (by decide) (fun c_3 => ?_) (fun c_3 => ?_)
  · replace hm := it_n hm c_3
    refine lv_iload_n X.1 X.2.1 dX5_lesserSize_14 rfl (lv_at hl 1 rfl) ?_
    refine lv_iload_n X.1 X.2.1 dX5_lesserSize_15 rfl (lv_at hl 0 rfl) ?_
    refine x_min (ws' := []) X hl.1 wq_25_1 (Nat.le_of_ble_eq_true rfl) (Nat.le_of_ble_eq_true rfl) dX5_lesserSize_16 wq_7_8 wq_7_9 wq_7_10 ?_
    refine lv_topi (fun x_4 ex_4 => ?_)
    replace hm := lt_e hm ex_4
    obtain rfl := Option.some.inj hm
    exact hret _ _ _ _ hw dX5_lesserSize_19
  · replace hm := it_p hm c_3
    refine lv_iload_n X.1 X.2.1 dX5_lesserSize_10 rfl (lv_at hl 0 rfl) ?_
    refine lv_goto (tgt := 19) X.1 X.2.1 dX5_lesserSize_11 (by decide) ?_
    obtain rfl := Option.some.inj hm
    exact hret _ _ _ _ hw dX5_lesserSize_19
def m_X5_leastCut_L4 (b : ST) (σ : Int32 × Int32) : Option ((Int32 × Int32) ⊕ (Int32)) := (fun (q_23 : Int32 × Int32) => un q_23 (fun y_1 y_2 => Option.bind (m_X2_allLinks b) (fun (r_12 : Int32) => if r_12 < y_2 then some (.inr y_1) else Option.bind (m_X2_allLinks b) (fun (r_15 : Int32) => Option.bind (m_X2_reaches b ((r_15 &&& (y_2 ^^^ (-1 : Int32))))) (fun (r_17 : Int32) => if r_17 = 0 then Option.bind (m_X5_lesserSize y_1 y_2) (fun (r_21 : Int32) => lt (y_2 + 1) (fun x_22 => some (.inl (r_21, x_22)))) else lt (y_2 + 1) (fun x_19 => some (.inl (y_1, x_19)))))))) σ
def m_X5_leastCut (b : ST) : Option (Int32) := Option.bind (vLoop (m_X5_leastCut_L4 b) FUEL ((-1 : Int32), (0 : Int32))) (fun (j_3 : Int32) => some j_3)
theorem yo_X5_leastCut : yX5_leastCut.cls = RX5 ∧ yX5_leastCut.cls ≠ "java/lang/invoke/MethodHandle" ∧ yX5_leastCut.cls ≠ "java/lang/invoke/VarHandle" ∧ (parseMethodDescriptor yX5_leastCut.desc).map (fun d => d.parameters.length) = some 0 := by decide +kernel
set_option maxHeartbeats 4000000 in
set_option maxRecDepth 100000 in
theorem c_X5_leastCut {l : Launch} {g : gT} {h : Nat → Nat} {b : ST} {w : Nat → ST} {r : Int32} (hm : m_X5_leastCut b = some r) : MetI l g yX5_leastCut cX5_leastCut 3 (some .int) 3 65 79 h (cC g h (b, w)) (cC g h (b, w)) [.ref (h 10)] r := by
  refine MetI.ofX (by decide +kernel) (Nat.le_of_ble_eq_true rfl) ?_
  intro p e s m below meth c AV Q X hret ls hw hl
  replace X : Cx g p s m AV c cX5_leastCut RX5 3 := X
  replace hl : lv_has ls 3 [(0, .ref (h 10))] := hl
  unfold m_X5_leastCut at hm
  refine lv_iconst (v := -1) X.1 X.2.1 dX5_leastCut_0 (by decide) ?_
  refine lv_istore_n (lv' := [(1, .int (-1 : Int32)), (0, .ref (h 10))]) X.1 X.2.1 dX5_leastCut_1 rfl hl (by decide) rfl (fun ls hl => ?_)
  refine lv_iconst (v := 0) X.1 X.2.1 dX5_leastCut_2 (by decide) ?_
  refine lv_istore_n (lv' := [(2, .int (0 : Int32)), (1, .int (-1 : Int32)), (0, .ref (h 10))]) X.1 X.2.1 dX5_leastCut_3 rfl hl (by decide) rfl (fun ls hl => ?_)
  replace hm := ob_e hm
  obtain ⟨j_3, hL_9, hm⟩ := hm
  have J_8 : ∀ (H : Heap) (locs : List Loc) (ls : Array Slot), Wd g 79 h (cC g h (b, w)) s H locs → lv_has ls 3 [(1, .int j_3)] → W p l e (rW 3 65) s m AV below meth c H locs 0 0 Q (F0 m 48 ls []) := by
    intro H locs ls hw hl
    refine lv_iload_n X.1 X.2.1 dX5_leastCut_48 rfl (lv_at hl 0 rfl) ?_
    obtain rfl := Option.some.inj hm
    exact hret _ _ _ _ hw dX5_leastCut_49
  refine vLoop_ind (B := (m_X5_leastCut_L4 b)) (fun σ => ∀ (H : Heap) (locs : List Loc) (ls : Array Slot), Wd g 79 h (cC g h (b, w)) s H locs → lv_has ls 3 [(0, .ref (h 10)), (1, .int σ.1), (2, .int σ.2)] → W p l e (rW 3 65) s m AV below meth c H locs 0 0 Q (F0 m 4 ls [])) (fun z' => z' = j_3) ?_ FUEL _ _ hL_9 rfl _ _ _ hw (lv_sub hl [2, 1, 0] rfl)
  intro σ z_7 hz_4 hn_5 hx_6
  obtain ⟨y_1, y_2⟩ := σ
  intro H locs ls hw hl
  replace hw : Wd g 79 h (cC g h (b, w)) s H locs := hw
  replace hl : lv_has ls 3 [(0, .ref (h 10)), (1, .int y_1), (2, .int y_2)] := hl
  unfold m_X5_leastCut_L4 at hz_4
  replace hz_4 := un_e hz_4
  refine lv_iload_n X.1 X.2.1 dX5_leastCut_4 rfl (lv_at hl 2 rfl) ?_
  refine lv_aload_n X.1 X.2.1 dX5_leastCut_5 rfl (lv_at hl 0 rfl) ?_
  refine gX5_net X hw wq_3_15 dX5_leastCut_6 ?_
  replace hz_4 := ob_e hz_4
  obtain ⟨r_12, h_11, hz_4⟩ := hz_4
  refine k_Vi (k := 1) (As := []) X hl.1 hw (c_X2_allLinks h_11) (by decide) (he_X2 g h _ _) rfl ⟨wq_24_20, wq_11_7, wq_11_8, wq_1_13, wq_11_9⟩ yo_X2_allLinks rfl ⟨Nat.le_of_ble_eq_true rfl, Nat.le_of_ble_eq_true rfl⟩ (Nat.le_of_ble_eq_true rfl) dX5_leastCut_9 (fun H locs hw => ?_)
  refine lv_icmp_gt (tgt := 48) X.1 X.2.1 dX5_leastCut_12 (by decide) (fun c_13 => ?_) (fun c_13 => ?_)
  · replace hz_4 := it_p hz_4 c_13
    obtain rfl := hx_6 _ (Option.some.inj hz_4).symm
    exact J_8 _ _ _ hw (lv_sub hl [1] rfl)
  · replace hz_4 := it_n hz_4 c_13
    refine lv_aload_n X.1 X.2.1 dX5_leastCut_15 rfl (lv_at hl 0 rfl) ?_
    refine gX5_net X hw wq_3_15 dX5_leastCut_16 ?_
    refine lv_aload_n X.1 X.2.1 dX5_leastCut_19 rfl (lv_at hl 0 rfl) ?_
    refine gX5_net X hw wq_3_15 dX5_leastCut_20 ?_
    replace hz_4 := ob_e hz_4
    obtain ⟨r_15, h_14, hz_4⟩ := hz_4
    refine k_Vi (k := 1) (As := []) X hl.1 hw (c_X2_allLinks h_14) (by decide) (he_X2 g h _ _) rfl ⟨wq_24_20, wq_11_7, wq_11_8, wq_1_13, wq_11_9⟩ yo_X2_allLinks rfl ⟨Nat.le_of_ble_eq_true rfl, Nat.le_of_ble_eq_true rfl⟩ (Nat.le_of_ble_eq_true rfl) dX5_leastCut_23 (fun H locs hw => ?_)
    refine lv_iload_n X.1 X.2.1 dX5_leastCut_26 rfl (lv_at hl 2 rfl) ?_
    refine lv_iconst (v := -1) X.1 X.2.1 dX5_leastCut_27 (by decide) ?_
    refine lv_ixor X.1 X.2.1 dX5_leastCut_28 ?_
    refine lv_iand X.1 X.2.1 dX5_leastCut_29 ?_
    replace hz_4 := ob_e hz_4
    obtain ⟨r_17, h_16, hz_4⟩ := hz_4
    refine k_Vi (k := 1) (As := [.int (r_15 &&& (y_2 ^^^ (-1 : Int32)))]) X hl.1 hw (c_X2_reaches h_16) (by decide) (he_X2 g h _ _) rfl ⟨wq_24_21, wq_11_11, wq_11_12, wq_1_13, wq_11_13⟩ yo_X2_reaches rfl ⟨Nat.le_of_ble_eq_true rfl, Nat.le_of_ble_eq_true rfl⟩ (Nat.le_of_ble_eq_true rfl) dX5_leastCut_30 (fun H locs hw => ?_)
    refine lv_if_ne (tgt := 42) X.1 X.2.1 dX5_leastCut_33 (by decide) (fun c_18 => ?_) (fun c_18 => ?_)
    · replace hz_4 := it_n hz_4 c_18
      obtain ⟨x_19, ex_19⟩ : ∃ y : Int32, y = y_2 + 1 := ⟨_, rfl⟩
      replace hz_4 := lt_e hz_4 ex_19
      refine lv_iinc (v := x_19) (lv' := [(2, .int x_19), (0, .ref (h 10)), (1, .int y_1)]) X.1 X.2.1 dX5_leastCut_42 hl (k := 2) rfl (by rw [ex_19]; rfl) (by decide) rfl (fun ls hl => ?_)
      refine lv_goto (tgt := 4) X.1 X.2.1 dX5_leastCut_45 (by decide) ?_
      exact hn_5 _ (Option.some.inj hz_4).symm _ _ _ hw (lv_sub hl [1, 2, 0] rfl)
    · replace hz_4 := it_p hz_4 c_18
      refine lv_iload_n X.1 X.2.1 dX5_leastCut_36 rfl (lv_at hl 1 rfl) ?_
      refine lv_iload_n X.1 X.2.1 dX5_leastCut_37 rfl (lv_at hl 2 rfl) ?_
      replace hz_4 := ob_e hz_4
      obtain ⟨r_21, h_20, hz_4⟩ := hz_4
      refine k_Si (As := [.int y_1, .int y_2]) X hl.1 hw (c_X5_lesserSize h_20) ⟨wq_24_22, wq_24_23, wq_1_21, wq_25_0⟩ yo_X5_lesserSize rfl ⟨Nat.le_of_ble_eq_true rfl, Nat.le_of_ble_eq_true rfl⟩ (Nat.le_of_ble_eq_true rfl) dX5_leastCut_38 (fun H locs hw => ?_)
      refine lv_istore_n (lv' := [(1, .int r_21), (0, .ref (h 10)), (2, .int y_2)]) X.1 X.2.1 dX5_leastCut_41 rfl hl (by decide) rfl (fun ls hl => ?_)
      obtain ⟨x_22, ex_22⟩ : ∃ y : Int32, y = y_2 + 1 := ⟨_, rfl⟩
      replace hz_4 := lt_e hz_4 ex_22
      refine lv_iinc (v := x_22) (lv' := [(2, .int x_22), (1, .int r_21), (0, .ref (h 10))]) X.1 X.2.1 dX5_leastCut_42 hl (k := 2) rfl (by rw [ex_22]; rfl) (by decide) rfl (fun ls hl => ?_)
      refine lv_goto (tgt := 4) X.1 X.2.1 dX5_leastCut_45 (by decide) ?_
      exact hn_5 _ (Option.some.inj hz_4).symm _ _ _ hw (lv_sub hl [2, 1, 0] rfl)
def m_X5_leastWay_L4 (b : ST) (σ : Int32 × Int32) : Option ((Int32 × Int32) ⊕ (Int32)) := (fun (q_21 : Int32 × Int32) => un q_21 (fun y_1 y_2 => Option.bind (m_X2_allLinks b) (fun (r_12 : Int32) => if r_12 < y_2 then some (.inr y_1) else Option.bind (m_X2_reaches b y_2) (fun (r_15 : Int32) => if r_15 = 0 then lt (y_2 + 1) (fun x_17 => some (.inl (y_1, x_17))) else Option.bind (m_X5_lesserSize y_1 y_2) (fun (r_19 : Int32) => lt (y_2 + 1) (fun x_20 => some (.inl (r_19, x_20)))))))) σ
def m_X5_leastWay (b : ST) : Option (Int32) := Option.bind (vLoop (m_X5_leastWay_L4 b) FUEL ((-1 : Int32), (0 : Int32))) (fun (j_3 : Int32) => some j_3)
theorem yo_X5_leastWay : yX5_leastWay.cls = RX5 ∧ yX5_leastWay.cls ≠ "java/lang/invoke/MethodHandle" ∧ yX5_leastWay.cls ≠ "java/lang/invoke/VarHandle" ∧ (parseMethodDescriptor yX5_leastWay.desc).map (fun d => d.parameters.length) = some 0 := by decide +kernel
set_option maxHeartbeats 4000000 in
set_option maxRecDepth 100000 in
theorem c_X5_leastWay {l : Launch} {g : gT} {h : Nat → Nat} {b : ST} {w : Nat → ST} {r : Int32} (hm : m_X5_leastWay b = some r) : MetI l g yX5_leastWay cX5_leastWay 3 (some .int) 3 65 79 h (cC g h (b, w)) (cC g h (b, w)) [.ref (h 10)] r := by
  refine MetI.ofX (by decide +kernel) (Nat.le_of_ble_eq_true rfl) ?_
  intro p e s m below meth c AV Q X hret ls hw hl
  replace X : Cx g p s m AV c cX5_leastWay RX5 3 := X
  replace hl : lv_has ls 3 [(0, .ref (h 10))] := hl
  unfold m_X5_leastWay at hm
  refine lv_iconst (v := -1) X.1 X.2.1 dX5_leastWay_0 (by decide) ?_
  refine lv_istore_n (lv' := [(1, .int (-1 : Int32)), (0, .ref (h 10))]) X.1 X.2.1 dX5_leastWay_1 rfl hl (by decide) rfl (fun ls hl => ?_)
  refine lv_iconst (v := 0) X.1 X.2.1 dX5_leastWay_2 (by decide) ?_
  refine lv_istore_n (lv' := [(2, .int (0 : Int32)), (1, .int (-1 : Int32)), (0, .ref (h 10))]) X.1 X.2.1 dX5_leastWay_3 rfl hl (by decide) rfl (fun ls hl => ?_)
  replace hm := ob_e hm
  obtain ⟨j_3, hL_9, hm⟩ := hm
  have J_8 : ∀ (H : Heap) (locs : List Loc) (ls : Array Slot), Wd g 79 h (cC g h (b, w)) s H locs → lv_has ls 3 [(1, .int j_3)] → W p l e (rW 3 65) s m AV below meth c H locs 0 0 Q (F0 m 38 ls []) := by
    intro H locs ls hw hl
    refine lv_iload_n X.1 X.2.1 dX5_leastWay_38 rfl (lv_at hl 0 rfl) ?_
    obtain rfl := Option.some.inj hm
    exact hret _ _ _ _ hw dX5_leastWay_39
  refine vLoop_ind (B := (m_X5_leastWay_L4 b)) (fun σ => ∀ (H : Heap) (locs : List Loc) (ls : Array Slot), Wd g 79 h (cC g h (b, w)) s H locs → lv_has ls 3 [(0, .ref (h 10)), (1, .int σ.1), (2, .int σ.2)] → W p l e (rW 3 65) s m AV below meth c H locs 0 0 Q (F0 m 4 ls [])) (fun z' => z' = j_3) ?_ FUEL _ _ hL_9 rfl _ _ _ hw (lv_sub hl [2, 1, 0] rfl)
  intro σ z_7 hz_4 hn_5 hx_6
  obtain ⟨y_1, y_2⟩ := σ
  intro H locs ls hw hl
  replace hw : Wd g 79 h (cC g h (b, w)) s H locs := hw
  replace hl : lv_has ls 3 [(0, .ref (h 10)), (1, .int y_1), (2, .int y_2)] := hl
  unfold m_X5_leastWay_L4 at hz_4
  replace hz_4 := un_e hz_4
  refine lv_iload_n X.1 X.2.1 dX5_leastWay_4 rfl (lv_at hl 2 rfl) ?_
  refine lv_aload_n X.1 X.2.1 dX5_leastWay_5 rfl (lv_at hl 0 rfl) ?_
  refine gX5_net X hw wq_3_15 dX5_leastWay_6 ?_
  replace hz_4 := ob_e hz_4
  obtain ⟨r_12, h_11, hz_4⟩ := hz_4
  refine k_Vi (k := 1) (As := []) X hl.1 hw (c_X2_allLinks h_11) (by decide) (he_X2 g h _ _) rfl ⟨wq_24_20, wq_11_7, wq_11_8, wq_1_13, wq_11_9⟩ yo_X2_allLinks rfl ⟨Nat.le_of_ble_eq_true rfl, Nat.le_of_ble_eq_true rfl⟩ (Nat.le_of_ble_eq_true rfl) dX5_leastWay_9 (fun H locs hw => ?_)
  refine lv_icmp_gt (tgt := 38) X.1 X.2.1 dX5_leastWay_12 (by decide) (fun c_13 => ?_) (fun c_13 => ?_)
  · replace hz_4 := it_p hz_4 c_13
    obtain rfl := hx_6 _ (Option.some.inj hz_4).symm
    exact J_8 _ _ _ hw (lv_sub hl [1] rfl)
  · replace hz_4 := it_n hz_4 c_13
    refine lv_aload_n X.1 X.2.1 dX5_leastWay_15 rfl (lv_at hl 0 rfl) ?_
    refine gX5_net X hw wq_3_15 dX5_leastWay_16 ?_
    refine lv_iload_n X.1 X.2.1 dX5_leastWay_19 rfl (lv_at hl 2 rfl) ?_
    replace hz_4 := ob_e hz_4
    obtain ⟨r_15, h_14, hz_4⟩ := hz_4
    refine k_Vi (k := 1) (As := [.int y_2]) X hl.1 hw (c_X2_reaches h_14) (by decide) (he_X2 g h _ _) rfl ⟨wq_24_21, wq_11_11, wq_11_12, wq_1_13, wq_11_13⟩ yo_X2_reaches rfl ⟨Nat.le_of_ble_eq_true rfl, Nat.le_of_ble_eq_true rfl⟩ (Nat.le_of_ble_eq_true rfl) dX5_leastWay_20 (fun H locs hw => ?_)
    refine lv_if_eq (tgt := 32) X.1 X.2.1 dX5_leastWay_23 (by decide) (fun c_16 => ?_) (fun c_16 => ?_)
    · replace hz_4 := it_p hz_4 c_16
      obtain ⟨x_17, ex_17⟩ : ∃ y : Int32, y = y_2 + 1 := ⟨_, rfl⟩
      replace hz_4 := lt_e hz_4 ex_17
      refine lv_iinc (v := x_17) (lv' := [(2, .int x_17), (0, .ref (h 10)), (1, .int y_1)]) X.1 X.2.1 dX5_leastWay_32 hl (k := 2) rfl (by rw [ex_17]; rfl) (by decide) rfl (fun ls hl => ?_)
      refine lv_goto (tgt := 4) X.1 X.2.1 dX5_leastWay_35 (by decide) ?_
      exact hn_5 _ (Option.some.inj hz_4).symm _ _ _ hw (lv_sub hl [1, 2, 0] rfl)
    · replace hz_4 := it_n hz_4 c_16
      refine lv_iload_n X.1 X.2.1 dX5_leastWay_26 rfl (lv_at hl 1 rfl) ?_
      refine lv_iload_n X.1 X.2.1 dX5_leastWay_27 rfl (lv_at hl 2 rfl) ?_
      replace hz_4 := ob_e hz_4
      obtain ⟨r_19, h_18, hz_4⟩ := hz_4
      refine k_Si (As := [.int y_1, .int y_2]) X hl.1 hw (c_X5_lesserSize h_18) ⟨wq_24_22, wq_24_23, wq_1_21, wq_25_0⟩ yo_X5_lesserSize rfl ⟨Nat.le_of_ble_eq_true rfl, Nat.le_of_ble_eq_true rfl⟩ (Nat.le_of_ble_eq_true rfl) dX5_leastWay_28 (fun H locs hw => ?_)
      refine lv_istore_n (lv' := [(1, .int r_19), (0, .ref (h 10)), (2, .int y_2)]) X.1 X.2.1 dX5_leastWay_31 rfl hl (by decide) rfl (fun ls hl => ?_)
      obtain ⟨x_20, ex_20⟩ : ∃ y : Int32, y = y_2 + 1 := ⟨_, rfl⟩
      replace hz_4 := lt_e hz_4 ex_20
      refine lv_iinc (v := x_20) (lv' := [(2, .int x_20), (1, .int r_19), (0, .ref (h 10))]) X.1 X.2.1 dX5_leastWay_32 hl (k := 2) rfl (by rw [ex_20]; rfl) (by decide) rfl (fun ls hl => ?_)
      refine lv_goto (tgt := 4) X.1 X.2.1 dX5_leastWay_35 (by decide) ?_
      exact hn_5 _ (Option.some.inj hz_4).symm _ _ _ hw (lv_sub hl [2, 1, 0] rfl)
def m_X6_openBehind_L6 (b : ST) (σ : Int32 × Int32) : Option ((Int32 × Int32) ⊕ (Int32)) := (fun (q_21 : Int32 × Int32) => un q_21 (fun y_2 y_3 => Option.bind (m_X2_linkCount b) (fun (r_13 : Int32) => if r_13 ≤ y_3 then some (.inr y_2) else Option.bind (m_X2_lesserOf b y_3) (fun (r_16 : Int32) => Option.bind (m_X2_greaterOf b y_3) (fun (r_18 : Int32) => lt (y_2 ||| (((1 : Int32) <<< (r_16 &&& 31)) ||| ((1 : Int32) <<< (r_18 &&& 31)))) (fun x_19 => lt (y_3 + 1) (fun x_20 => some (.inl (x_19, x_20))))))))) σ
def m_X6_openBehind (b : ST) (x1 : Int32) : Option (Int32) := lt (x1 + (1 : Int32)) (fun x_1 => Option.bind (vLoop (m_X6_openBehind_L6 b) FUEL ((0 : Int32), x_1)) (fun (j_4 : Int32) => some j_4))
theorem yo_X6_openBehind : yX6_openBehind.cls = RX6 ∧ yX6_openBehind.cls ≠ "java/lang/invoke/MethodHandle" ∧ yX6_openBehind.cls ≠ "java/lang/invoke/VarHandle" ∧ (parseMethodDescriptor yX6_openBehind.desc).map (fun d => d.parameters.length) = some 1 := by decide +kernel
set_option maxHeartbeats 4000000 in
set_option maxRecDepth 100000 in
theorem c_X6_openBehind {l : Launch} {g : gT} {h : Nat → Nat} {b : ST} {w : Nat → ST} {x1 : Int32} {r : Int32} (hm : m_X6_openBehind b x1 = some r) : MetI l g yX6_openBehind cX6_openBehind 4 (some .int) 2 42 79 h (cC g h (b, w)) (cC g h (b, w)) [.ref (h 12), .int x1] r := by
  refine MetI.ofX (by decide +kernel) (Nat.le_of_ble_eq_true rfl) ?_
  intro p e s m below meth c AV Q X hret ls hw hl
  replace X : Cx g p s m AV c cX6_openBehind RX6 4 := X
  replace hl : lv_has ls 4 [(0, .ref (h 12)), (1, .int x1)] := hl
  unfold m_X6_openBehind at hm
  refine lv_iconst (v := 0) X.1 X.2.1 dX6_openBehind_0 (by decide) ?_
  refine lv_istore_n (lv' := [(2, .int (0 : Int32)), (0, .ref (h 12)), (1, .int x1)]) X.1 X.2.1 dX6_openBehind_1 rfl hl (by decide) rfl (fun ls hl => ?_)
  refine lv_iload_n X.1 X.2.1 dX6_openBehind_2 rfl (lv_at hl 2 rfl) ?_
  refine lv_iconst (v := 1) X.1 X.2.1 dX6_openBehind_3 (by decide) ?_
  refine lv_iadd X.1 X.2.1 dX6_openBehind_4 ?_
  refine lv_topi (fun x_1 ex_1 => ?_)
  replace hm := lt_e hm ex_1
  refine lv_istore_n (lv' := [(3, .int x_1), (2, .int (0 : Int32)), (0, .ref (h 12)), (1, .int x1)]) X.1 X.2.1 dX6_openBehind_5 rfl hl (by decide) rfl (fun ls hl => ?_)
  replace hm := ob_e hm
  obtain ⟨j_4, hL_10, hm⟩ := hm
  have J_9 : ∀ (H : Heap) (locs : List Loc) (ls : Array Slot), Wd g 79 h (cC g h (b, w)) s H locs → lv_has ls 4 [(2, .int j_4)] → W p l e (rW 2 42) s m AV below meth c H locs 0 0 Q (F0 m 47 ls []) := by
    intro H locs ls hw hl
    refine lv_iload_n X.1 X.2.1 dX6_openBehind_47 rfl (lv_at hl 0 rfl) ?_
    obtain rfl := Option.some.inj hm
    exact hret _ _ _ _ hw dX6_openBehind_48
  refine vLoop_ind (B := (m_X6_openBehind_L6 b)) (fun σ => ∀ (H : Heap) (locs : List Loc) (ls : Array Slot), Wd g 79 h (cC g h (b, w)) s H locs → lv_has ls 4 [(0, .ref (h 12)), (2, .int σ.1), (3, .int σ.2)] → W p l e (rW 2 42) s m AV below meth c H locs 0 0 Q (F0 m 6 ls [])) (fun z' => z' = j_4) ?_ FUEL _ _ hL_10 rfl _ _ _ hw (lv_sub hl [2, 1, 0] rfl)
  intro σ z_8 hz_5 hn_6 hx_7
  obtain ⟨y_2, y_3⟩ := σ
  intro H locs ls hw hl
  replace hw : Wd g 79 h (cC g h (b, w)) s H locs := hw
  replace hl : lv_has ls 4 [(0, .ref (h 12)), (2, .int y_2), (3, .int y_3)] := hl
  unfold m_X6_openBehind_L6 at hz_5
  replace hz_5 := un_e hz_5
  refine lv_iload_n X.1 X.2.1 dX6_openBehind_6 rfl (lv_at hl 2 rfl) ?_
  refine lv_aload_n X.1 X.2.1 dX6_openBehind_7 rfl (lv_at hl 0 rfl) ?_
  refine gX6_net X hw wq_3_21 dX6_openBehind_8 ?_
  replace hz_5 := ob_e hz_5
  obtain ⟨r_13, h_12, hz_5⟩ := hz_5
  refine k_Vi (k := 1) (As := []) X hl.1 hw (c_X2_linkCount h_12) (by decide) (he_X2 g h _ _) rfl ⟨wq_23_0, wq_10_11, wq_10_12, wq_1_13, wq_10_13⟩ yo_X2_linkCount rfl ⟨Nat.le_of_ble_eq_true rfl, Nat.le_of_ble_eq_true rfl⟩ (Nat.le_of_ble_eq_true rfl) dX6_openBehind_11 (fun H locs hw => ?_)
  refine lv_icmp_ge (tgt := 47) X.1 X.2.1 dX6_openBehind_14 (by decide) (fun c_14 => ?_) (fun c_14 => ?_)
  · replace hz_5 := it_p hz_5 c_14
    obtain rfl := hx_7 _ (Option.some.inj hz_5).symm
    exact J_9 _ _ _ hw (lv_sub hl [1] rfl)
  · replace hz_5 := it_n hz_5 c_14
    refine lv_iload_n X.1 X.2.1 dX6_openBehind_17 rfl (lv_at hl 1 rfl) ?_
    refine lv_iconst (v := 1) X.1 X.2.1 dX6_openBehind_18 (by decide) ?_
    refine lv_aload_n X.1 X.2.1 dX6_openBehind_19 rfl (lv_at hl 0 rfl) ?_
    refine gX6_net X hw wq_3_21 dX6_openBehind_20 ?_
    refine lv_iload_n X.1 X.2.1 dX6_openBehind_23 rfl (lv_at hl 2 rfl) ?_
    replace hz_5 := ob_e hz_5
    obtain ⟨r_16, h_15, hz_5⟩ := hz_5
    refine k_Vi (k := 1) (As := [.int y_3]) X hl.1 hw (c_X2_lesserOf h_15) (by decide) (he_X2 g h _ _) rfl ⟨wq_23_9, wq_7_19, wq_7_20, wq_1_13, wq_7_21⟩ yo_X2_lesserOf rfl ⟨Nat.le_of_ble_eq_true rfl, Nat.le_of_ble_eq_true rfl⟩ (Nat.le_of_ble_eq_true rfl) dX6_openBehind_24 (fun H locs hw => ?_)
    refine lv_ishl X.1 X.2.1 dX6_openBehind_27 ?_
    refine lv_iconst (v := 1) X.1 X.2.1 dX6_openBehind_28 (by decide) ?_
    refine lv_aload_n X.1 X.2.1 dX6_openBehind_29 rfl (lv_at hl 0 rfl) ?_
    refine gX6_net X hw wq_3_21 dX6_openBehind_30 ?_
    refine lv_iload_n X.1 X.2.1 dX6_openBehind_33 rfl (lv_at hl 2 rfl) ?_
    replace hz_5 := ob_e hz_5
    obtain ⟨r_18, h_17, hz_5⟩ := hz_5
    refine k_Vi (k := 1) (As := [.int y_3]) X hl.1 hw (c_X2_greaterOf h_17) (by decide) (he_X2 g h _ _) rfl ⟨wq_23_10, wq_8_3, wq_8_4, wq_1_13, wq_8_5⟩ yo_X2_greaterOf rfl ⟨Nat.le_of_ble_eq_true rfl, Nat.le_of_ble_eq_true rfl⟩ (Nat.le_of_ble_eq_true rfl) dX6_openBehind_34 (fun H locs hw => ?_)
    refine lv_ishl X.1 X.2.1 dX6_openBehind_37 ?_
    refine lv_ior X.1 X.2.1 dX6_openBehind_38 ?_
    refine lv_ior X.1 X.2.1 dX6_openBehind_39 ?_
    refine lv_topi (fun x_19 ex_19 => ?_)
    replace hz_5 := lt_e hz_5 ex_19
    refine lv_istore_n (lv' := [(2, .int x_19), (0, .ref (h 12)), (3, .int y_3)]) X.1 X.2.1 dX6_openBehind_40 rfl hl (by decide) rfl (fun ls hl => ?_)
    obtain ⟨x_20, ex_20⟩ : ∃ y : Int32, y = y_3 + 1 := ⟨_, rfl⟩
    replace hz_5 := lt_e hz_5 ex_20
    refine lv_iinc (v := x_20) (lv' := [(3, .int x_20), (2, .int x_19), (0, .ref (h 12))]) X.1 X.2.1 dX6_openBehind_41 hl (k := 2) rfl (by rw [ex_20]; rfl) (by decide) rfl (fun ls hl => ?_)
    refine lv_goto (tgt := 6) X.1 X.2.1 dX6_openBehind_44 (by decide) ?_
    exact hn_6 _ (Option.some.inj hz_5).symm _ _ _ hw (lv_sub hl [2, 1, 0] rfl)
def m_X6_surelyUp_L4 (x1 : Int32) (b : ST) (σ : Int32 × Int32) : Option ((Int32 × Int32) ⊕ (Int32)) := (fun (q_20 : Int32 × Int32) => un q_20 (fun y_1 y_2 => if x1 < y_2 then some (.inr y_1) else Option.bind (m_X2_upParts b y_2) (fun (r_13 : Int32) => Option.bind (m_X2_wholeParts b y_2) (fun (r_15 : Int32) => if r_13 = r_15 then lt (y_1 ||| ((1 : Int32) <<< (y_2 &&& 31))) (fun x_18 => lt (y_2 + 1) (fun x_19 => some (.inl (x_18, x_19)))) else lt (y_2 + 1) (fun x_17 => some (.inl (y_1, x_17))))))) σ
def m_X6_surelyUp (b : ST) (x1 : Int32) : Option (Int32) := Option.bind (vLoop (m_X6_surelyUp_L4 x1 b) FUEL ((0 : Int32), (0 : Int32))) (fun (j_3 : Int32) => some j_3)
theorem yo_X6_surelyUp : yX6_surelyUp.cls = RX6 ∧ yX6_surelyUp.cls ≠ "java/lang/invoke/MethodHandle" ∧ yX6_surelyUp.cls ≠ "java/lang/invoke/VarHandle" ∧ (parseMethodDescriptor yX6_surelyUp.desc).map (fun d => d.parameters.length) = some 1 := by decide +kernel
set_option maxHeartbeats 4000000 in
set_option maxRecDepth 100000 in
theorem c_X6_surelyUp {l : Launch} {g : gT} {h : Nat → Nat} {b : ST} {w : Nat → ST} {x1 : Int32} {r : Int32} (hm : m_X6_surelyUp b x1 = some r) : MetI l g yX6_surelyUp cX6_surelyUp 4 (some .int) 3 64 79 h (cC g h (b, w)) (cC g h (b, w)) [.ref (h 12), .int x1] r := by
  refine MetI.ofX (by decide +kernel) (Nat.le_of_ble_eq_true rfl) ?_
  intro p e s m below meth c AV Q X hret ls hw hl
  replace X : Cx g p s m AV c cX6_surelyUp RX6 4 := X
  replace hl : lv_has ls 4 [(0, .ref (h 12)), (1, .int x1)] := hl
  unfold m_X6_surelyUp at hm
  refine lv_iconst (v := 0) X.1 X.2.1 dX6_surelyUp_0 (by decide) ?_
  refine lv_istore_n (lv' := [(2, .int (0 : Int32)), (0, .ref (h 12)), (1, .int x1)]) X.1 X.2.1 dX6_surelyUp_1 rfl hl (by decide) rfl (fun ls hl => ?_)
  refine lv_iconst (v := 0) X.1 X.2.1 dX6_surelyUp_2 (by decide) ?_
  refine lv_istore_n (lv' := [(3, .int (0 : Int32)), (2, .int (0 : Int32)), (0, .ref (h 12)), (1, .int x1)]) X.1 X.2.1 dX6_surelyUp_3 rfl hl (by decide) rfl (fun ls hl => ?_)
  replace hm := ob_e hm
  obtain ⟨j_3, hL_9, hm⟩ := hm
  have J_8 : ∀ (H : Heap) (locs : List Loc) (ls : Array Slot), Wd g 79 h (cC g h (b, w)) s H locs → lv_has ls 4 [(2, .int j_3)] → W p l e (rW 3 64) s m AV below meth c H locs 0 0 Q (F0 m 40 ls []) := by
    intro H locs ls hw hl
    refine lv_iload_n X.1 X.2.1 dX6_surelyUp_40 rfl (lv_at hl 0 rfl) ?_
    obtain rfl := Option.some.inj hm
    exact hret _ _ _ _ hw dX6_surelyUp_41
  refine vLoop_ind (B := (m_X6_surelyUp_L4 x1 b)) (fun σ => ∀ (H : Heap) (locs : List Loc) (ls : Array Slot), Wd g 79 h (cC g h (b, w)) s H locs → lv_has ls 4 [(0, .ref (h 12)), (1, .int x1), (2, .int σ.1), (3, .int σ.2)] → W p l e (rW 3 64) s m AV below meth c H locs 0 0 Q (F0 m 4 ls [])) (fun z' => z' = j_3) ?_ FUEL _ _ hL_9 rfl _ _ _ hw (lv_sub hl [2, 3, 1, 0] rfl)
  intro σ z_7 hz_4 hn_5 hx_6
  obtain ⟨y_1, y_2⟩ := σ
  intro H locs ls hw hl
  replace hw : Wd g 79 h (cC g h (b, w)) s H locs := hw
  replace hl : lv_has ls 4 [(0, .ref (h 12)), (1, .int x1), (2, .int y_1), (3, .int y_2)] := hl
  unfold m_X6_surelyUp_L4 at hz_4
  replace hz_4 := un_e hz_4
  refine lv_iload_n X.1 X.2.1 dX6_surelyUp_4 rfl (lv_at hl 3 rfl) ?_
  refine lv_iload_n X.1 X.2.1 dX6_surelyUp_5 rfl (lv_at hl 1 rfl) ?_
  refine lv_icmp_gt (tgt := 40) X.1 X.2.1 dX6_surelyUp_6 (by decide) (fun c_11 => ?_) (fun c_11 => ?_)
  · replace hz_4 := it_p hz_4 c_11
    obtain rfl := hx_6 _ (Option.some.inj hz_4).symm
    exact J_8 _ _ _ hw (lv_sub hl [2] rfl)
  · replace hz_4 := it_n hz_4 c_11
    refine lv_aload_n X.1 X.2.1 dX6_surelyUp_9 rfl (lv_at hl 0 rfl) ?_
    refine gX6_net X hw wq_3_21 dX6_surelyUp_10 ?_
    refine lv_iload_n X.1 X.2.1 dX6_surelyUp_13 rfl (lv_at hl 3 rfl) ?_
    replace hz_4 := ob_e hz_4
    obtain ⟨r_13, h_12, hz_4⟩ := hz_4
    refine k_Vi (k := 1) (As := [.int y_2]) X hl.1 hw (c_X2_upParts h_12) (by decide) (he_X2 g h _ _) rfl ⟨wq_23_15, wq_13_6, wq_13_7, wq_1_13, wq_13_8⟩ yo_X2_upParts rfl ⟨Nat.le_of_ble_eq_true rfl, Nat.le_of_ble_eq_true rfl⟩ (Nat.le_of_ble_eq_true rfl) dX6_surelyUp_14 (fun H locs hw => ?_)
    refine lv_aload_n X.1 X.2.1 dX6_surelyUp_17 rfl (lv_at hl 0 rfl) ?_
    refine gX6_net X hw wq_3_21 dX6_surelyUp_18 ?_
    refine lv_iload_n X.1 X.2.1 dX6_surelyUp_21 rfl (lv_at hl 3 rfl) ?_
    replace hz_4 := ob_e hz_4
    obtain ⟨r_15, h_14, hz_4⟩ := hz_4
    refine k_Vi (k := 1) (As := [.int y_2]) X hl.1 hw (c_X2_wholeParts h_14) (by decide) (he_X2 g h _ _) rfl ⟨wq_23_16, wq_13_14, wq_13_15, wq_1_13, wq_13_16⟩ yo_X2_wholeParts rfl ⟨Nat.le_of_ble_eq_true rfl, Nat.le_of_ble_eq_true rfl⟩ (Nat.le_of_ble_eq_true rfl) dX6_surelyUp_22 (fun H locs hw => ?_)
    refine lv_icmp_ne (tgt := 34) X.1 X.2.1 dX6_surelyUp_25 (by decide) (fun c_16 => ?_) (fun c_16 => ?_)
    · replace hz_4 := it_n hz_4 c_16
      obtain ⟨x_17, ex_17⟩ : ∃ y : Int32, y = y_2 + 1 := ⟨_, rfl⟩
      replace hz_4 := lt_e hz_4 ex_17
      refine lv_iinc (v := x_17) (lv' := [(3, .int x_17), (0, .ref (h 12)), (1, .int x1), (2, .int y_1)]) X.1 X.2.1 dX6_surelyUp_34 hl (k := 3) rfl (by rw [ex_17]; rfl) (by decide) rfl (fun ls hl => ?_)
      refine lv_goto (tgt := 4) X.1 X.2.1 dX6_surelyUp_37 (by decide) ?_
      exact hn_5 _ (Option.some.inj hz_4).symm _ _ _ hw (lv_sub hl [1, 2, 3, 0] rfl)
    · replace hz_4 := it_p hz_4 c_16
      refine lv_iload_n X.1 X.2.1 dX6_surelyUp_28 rfl (lv_at hl 2 rfl) ?_
      refine lv_iconst (v := 1) X.1 X.2.1 dX6_surelyUp_29 (by decide) ?_
      refine lv_iload_n X.1 X.2.1 dX6_surelyUp_30 rfl (lv_at hl 3 rfl) ?_
      refine lv_ishl X.1 X.2.1 dX6_surelyUp_31 ?_
      refine lv_ior X.1 X.2.1 dX6_surelyUp_32 ?_
      refine lv_topi (fun x_18 ex_18 => ?_)
      replace hz_4 := lt_e hz_4 ex_18
      refine lv_istore_n (lv' := [(2, .int x_18), (0, .ref (h 12)), (1, .int x1), (3, .int y_2)]) X.1 X.2.1 dX6_surelyUp_33 rfl hl (by decide) rfl (fun ls hl => ?_)
      obtain ⟨x_19, ex_19⟩ : ∃ y : Int32, y = y_2 + 1 := ⟨_, rfl⟩
      replace hz_4 := lt_e hz_4 ex_19
      refine lv_iinc (v := x_19) (lv' := [(3, .int x_19), (2, .int x_18), (0, .ref (h 12)), (1, .int x1)]) X.1 X.2.1 dX6_surelyUp_34 hl (k := 3) rfl (by rw [ex_19]; rfl) (by decide) rfl (fun ls hl => ?_)
      refine lv_goto (tgt := 4) X.1 X.2.1 dX6_surelyUp_37 (by decide) ?_
      exact hn_5 _ (Option.some.inj hz_4).symm _ _ _ hw (lv_sub hl [2, 3, 1, 0] rfl)
def m_X6_surelyDown_L4 (x1 : Int32) (b : ST) (σ : Int32 × Int32) : Option ((Int32 × Int32) ⊕ (Int32)) := (fun (q_18 : Int32 × Int32) => un q_18 (fun y_1 y_2 => if x1 < y_2 then some (.inr y_1) else Option.bind (m_X2_upParts b y_2) (fun (r_13 : Int32) => if r_13 = 0 then lt (y_1 ||| ((1 : Int32) <<< (y_2 &&& 31))) (fun x_16 => lt (y_2 + 1) (fun x_17 => some (.inl (x_16, x_17)))) else lt (y_2 + 1) (fun x_15 => some (.inl (y_1, x_15)))))) σ
def m_X6_surelyDown (b : ST) (x1 : Int32) : Option (Int32) := Option.bind (vLoop (m_X6_surelyDown_L4 x1 b) FUEL ((0 : Int32), (0 : Int32))) (fun (j_3 : Int32) => some j_3)
theorem yo_X6_surelyDown : yX6_surelyDown.cls = RX6 ∧ yX6_surelyDown.cls ≠ "java/lang/invoke/MethodHandle" ∧ yX6_surelyDown.cls ≠ "java/lang/invoke/VarHandle" ∧ (parseMethodDescriptor yX6_surelyDown.desc).map (fun d => d.parameters.length) = some 1 := by decide +kernel
set_option maxHeartbeats 4000000 in
set_option maxRecDepth 100000 in
theorem c_X6_surelyDown {l : Launch} {g : gT} {h : Nat → Nat} {b : ST} {w : Nat → ST} {x1 : Int32} {r : Int32} (hm : m_X6_surelyDown b x1 = some r) : MetI l g yX6_surelyDown cX6_surelyDown 4 (some .int) 3 64 79 h (cC g h (b, w)) (cC g h (b, w)) [.ref (h 12), .int x1] r := by
  refine MetI.ofX (by decide +kernel) (Nat.le_of_ble_eq_true rfl) ?_
  intro p e s m below meth c AV Q X hret ls hw hl
  replace X : Cx g p s m AV c cX6_surelyDown RX6 4 := X
  replace hl : lv_has ls 4 [(0, .ref (h 12)), (1, .int x1)] := hl
  unfold m_X6_surelyDown at hm
  refine lv_iconst (v := 0) X.1 X.2.1 dX6_surelyDown_0 (by decide) ?_
  refine lv_istore_n (lv' := [(2, .int (0 : Int32)), (0, .ref (h 12)), (1, .int x1)]) X.1 X.2.1 dX6_surelyDown_1 rfl hl (by decide) rfl (fun ls hl => ?_)
  refine lv_iconst (v := 0) X.1 X.2.1 dX6_surelyDown_2 (by decide) ?_
  refine lv_istore_n (lv' := [(3, .int (0 : Int32)), (2, .int (0 : Int32)), (0, .ref (h 12)), (1, .int x1)]) X.1 X.2.1 dX6_surelyDown_3 rfl hl (by decide) rfl (fun ls hl => ?_)
  replace hm := ob_e hm
  obtain ⟨j_3, hL_9, hm⟩ := hm
  have J_8 : ∀ (H : Heap) (locs : List Loc) (ls : Array Slot), Wd g 79 h (cC g h (b, w)) s H locs → lv_has ls 4 [(2, .int j_3)] → W p l e (rW 3 64) s m AV below meth c H locs 0 0 Q (F0 m 32 ls []) := by
    intro H locs ls hw hl
    refine lv_iload_n X.1 X.2.1 dX6_surelyDown_32 rfl (lv_at hl 0 rfl) ?_
    obtain rfl := Option.some.inj hm
    exact hret _ _ _ _ hw dX6_surelyDown_33
  refine vLoop_ind (B := (m_X6_surelyDown_L4 x1 b)) (fun σ => ∀ (H : Heap) (locs : List Loc) (ls : Array Slot), Wd g 79 h (cC g h (b, w)) s H locs → lv_has ls 4 [(0, .ref (h 12)), (1, .int x1), (2, .int σ.1), (3, .int σ.2)] → W p l e (rW 3 64) s m AV below meth c H locs 0 0 Q (F0 m 4 ls [])) (fun z' => z' = j_3) ?_ FUEL _ _ hL_9 rfl _ _ _ hw (lv_sub hl [2, 3, 1, 0] rfl)
  intro σ z_7 hz_4 hn_5 hx_6
  obtain ⟨y_1, y_2⟩ := σ
  intro H locs ls hw hl
  replace hw : Wd g 79 h (cC g h (b, w)) s H locs := hw
  replace hl : lv_has ls 4 [(0, .ref (h 12)), (1, .int x1), (2, .int y_1), (3, .int y_2)] := hl
  unfold m_X6_surelyDown_L4 at hz_4
  replace hz_4 := un_e hz_4
  refine lv_iload_n X.1 X.2.1 dX6_surelyDown_4 rfl (lv_at hl 3 rfl) ?_
  refine lv_iload_n X.1 X.2.1 dX6_surelyDown_5 rfl (lv_at hl 1 rfl) ?_
  refine lv_icmp_gt (tgt := 32) X.1 X.2.1 dX6_surelyDown_6 (by decide) (fun c_11 => ?_) (fun c_11 => ?_)
  · replace hz_4 := it_p hz_4 c_11
    obtain rfl := hx_6 _ (Option.some.inj hz_4).symm
    exact J_8 _ _ _ hw (lv_sub hl [2] rfl)
  · replace hz_4 := it_n hz_4 c_11
    refine lv_aload_n X.1 X.2.1 dX6_surelyDown_9 rfl (lv_at hl 0 rfl) ?_
    refine gX6_net X hw wq_3_21 dX6_surelyDown_10 ?_
    refine lv_iload_n X.1 X.2.1 dX6_surelyDown_13 rfl (lv_at hl 3 rfl) ?_
    replace hz_4 := ob_e hz_4
    obtain ⟨r_13, h_12, hz_4⟩ := hz_4
    refine k_Vi (k := 1) (As := [.int y_2]) X hl.1 hw (c_X2_upParts h_12) (by decide) (he_X2 g h _ _) rfl ⟨wq_23_15, wq_13_6, wq_13_7, wq_1_13, wq_13_8⟩ yo_X2_upParts rfl ⟨Nat.le_of_ble_eq_true rfl, Nat.le_of_ble_eq_true rfl⟩ (Nat.le_of_ble_eq_true rfl) dX6_surelyDown_14 (fun H locs hw => ?_)
    refine lv_if_ne (tgt := 26) X.1 X.2.1 dX6_surelyDown_17 (by decide) (fun c_14 => ?_) (fun c_14 => ?_)
    · replace hz_4 := it_n hz_4 c_14
      obtain ⟨x_15, ex_15⟩ : ∃ y : Int32, y = y_2 + 1 := ⟨_, rfl⟩
      replace hz_4 := lt_e hz_4 ex_15
      refine lv_iinc (v := x_15) (lv' := [(3, .int x_15), (0, .ref (h 12)), (1, .int x1), (2, .int y_1)]) X.1 X.2.1 dX6_surelyDown_26 hl (k := 3) rfl (by rw [ex_15]; rfl) (by decide) rfl (fun ls hl => ?_)
      refine lv_goto (tgt := 4) X.1 X.2.1 dX6_surelyDown_29 (by decide) ?_
      exact hn_5 _ (Option.some.inj hz_4).symm _ _ _ hw (lv_sub hl [1, 2, 3, 0] rfl)
    · replace hz_4 := it_p hz_4 c_14
      refine lv_iload_n X.1 X.2.1 dX6_surelyDown_20 rfl (lv_at hl 2 rfl) ?_
      refine lv_iconst (v := 1) X.1 X.2.1 dX6_surelyDown_21 (by decide) ?_
      refine lv_iload_n X.1 X.2.1 dX6_surelyDown_22 rfl (lv_at hl 3 rfl) ?_
      refine lv_ishl X.1 X.2.1 dX6_surelyDown_23 ?_
      refine lv_ior X.1 X.2.1 dX6_surelyDown_24 ?_
      refine lv_topi (fun x_16 ex_16 => ?_)
      replace hz_4 := lt_e hz_4 ex_16
      refine lv_istore_n (lv' := [(2, .int x_16), (0, .ref (h 12)), (1, .int x1), (3, .int y_2)]) X.1 X.2.1 dX6_surelyDown_25 rfl hl (by decide) rfl (fun ls hl => ?_)
      obtain ⟨x_17, ex_17⟩ : ∃ y : Int32, y = y_2 + 1 := ⟨_, rfl⟩
      replace hz_4 := lt_e hz_4 ex_17
      refine lv_iinc (v := x_17) (lv' := [(3, .int x_17), (2, .int x_16), (0, .ref (h 12)), (1, .int x1)]) X.1 X.2.1 dX6_surelyDown_26 hl (k := 3) rfl (by rw [ex_17]; rfl) (by decide) rfl (fun ls hl => ?_)
      refine lv_goto (tgt := 4) X.1 X.2.1 dX6_surelyDown_29 (by decide) ?_
      exact hn_5 _ (Option.some.inj hz_4).symm _ _ _ hw (lv_sub hl [2, 3, 1, 0] rfl)
def m_X6_isLost_L11 (x1 : Int32) (x2 : Int32) (r_2 : Int32) (b : ST) (σ : Int32) : Option ((Int32) ⊕ ((Unit) ⊕ (Int32))) := (fun (y_3 : Int32) => if (7 : Int32) ≤ y_3 then some (.inr (.inl ())) else if ((r_2.toUInt32 >>> (y_3.toUInt32 &&& Int32.toUInt32 31)).toInt32 &&& (1 : Int32)) = 0 then lt (y_3 + 1) (fun x_13 => some (.inl x_13)) else Option.bind (m_X2_joinedWith b x1 y_3) (fun (r_15 : Int32) => if (r_15 &&& x2) = 0 then some (.inr (.inr (1 : Int32))) else lt (y_3 + 1) (fun x_17 => some (.inl x_17)))) σ
def m_X6_isLost (b : ST) (x1 : Int32) (x2 : Int32) : Option (Int32) := Option.bind (m_X2_wantedStations b) (fun (r_2 : Int32) => Option.bind (vLoop (m_X6_isLost_L11 x1 x2 r_2 b) FUEL (0 : Int32)) (fun z => ex z (fun (_ : Unit) => some (0 : Int32)) (fun r_19 => some r_19)))
theorem yo_X6_isLost : yX6_isLost.cls = RX6 ∧ yX6_isLost.cls ≠ "java/lang/invoke/MethodHandle" ∧ yX6_isLost.cls ≠ "java/lang/invoke/VarHandle" ∧ (parseMethodDescriptor yX6_isLost.desc).map (fun d => d.parameters.length) = some 2 := by decide +kernel
set_option maxHeartbeats 4000000 in
set_option maxRecDepth 100000 in
theorem c_X6_isLost {l : Launch} {g : gT} {h : Nat → Nat} {b : ST} {w : Nat → ST} {x1 : Int32} {x2 : Int32} {r : Int32} (hm : m_X6_isLost b x1 x2 = some r) : MetI l g yX6_isLost cX6_isLost 5 (some .boolean) 2 44 79 h (cC g h (b, w)) (cC g h (b, w)) [.ref (h 12), .int x1, .int x2] r := by
  refine MetZ.ofX (by decide +kernel) (Nat.le_of_ble_eq_true rfl) ?_
  intro p e s m below meth c AV Q X hret ls hw hl
  replace X : Cx g p s m AV c cX6_isLost RX6 5 := X
  replace hl : lv_has ls 5 [(0, .ref (h 12)), (1, .int x1), (2, .int x2)] := hl
  unfold m_X6_isLost at hm
  refine lv_aload_n X.1 X.2.1 dX6_isLost_0 rfl (lv_at hl 0 rfl) ?_
  refine gX6_net X hw wq_3_21 dX6_isLost_1 ?_
  replace hm := ob_e hm
  obtain ⟨r_2, h_1, hm⟩ := hm
  refine k_Vi (k := 1) (As := []) X hl.1 hw (c_X2_wantedStations h_1) (by decide) (he_X2 g h _ _) rfl ⟨wq_24_2, wq_10_15, wq_10_16, wq_1_13, wq_10_17⟩ yo_X2_wantedStations rfl ⟨Nat.le_of_ble_eq_true rfl, Nat.le_of_ble_eq_true rfl⟩ (Nat.le_of_ble_eq_true rfl) dX6_isLost_4 (fun H locs hw => ?_)
  refine lv_istore_n (lv' := [(3, .int r_2), (0, .ref (h 12)), (1, .int x1), (2, .int x2)]) X.1 X.2.1 dX6_isLost_7 rfl hl (by decide) rfl (fun ls hl => ?_)
  refine lv_iconst (v := 0) X.1 X.2.1 dX6_isLost_8 (by decide) ?_
  refine lv_istore (lv' := [(4, .int (0 : Int32)), (3, .int r_2), (0, .ref (h 12)), (1, .int x1), (2, .int x2)]) X.1 X.2.1 dX6_isLost_9 hl (by decide) rfl (fun ls hl => ?_)
  replace hm := ob_e hm
  obtain ⟨z_18, hL_9, hm⟩ := hm
  have J_8 : z_18 = .inl () → ∀ (H : Heap) (locs : List Loc) (ls : Array Slot), Wd g 79 h (cC g h (b, w)) s H locs → lv_has ls 5 [] → W p l e (rW 2 44) s m AV below meth c H locs 0 0 Q (F0 m 50 ls []) := by
    intro hj
    subst hj
    replace hm := ex_l hm
    intro H locs ls hw hl
    refine lv_iconst (v := 0) X.1 X.2.1 dX6_isLost_50 (by decide) ?_
    obtain rfl := Option.some.inj hm
    exact hret _ _ _ _ hw dX6_isLost_51 (Or.inl rfl)
  refine vLoop_ind (B := (m_X6_isLost_L11 x1 x2 r_2 b)) (fun σ => ∀ (H : Heap) (locs : List Loc) (ls : Array Slot), Wd g 79 h (cC g h (b, w)) s H locs → lv_has ls 5 [(0, .ref (h 12)), (1, .int x1), (2, .int x2), (3, .int r_2), (4, .int σ)] → W p l e (rW 2 44) s m AV below meth c H locs 0 0 Q (F0 m 11 ls [])) (fun z' => z' = z_18) ?_ FUEL _ _ hL_9 rfl _ _ _ hw (lv_sub hl [2, 3, 4, 1, 0] rfl)
  intro σ z_7 hz_4 hn_5 hx_6
  obtain ⟨y_3, rfl⟩ : ∃ q, q = σ := ⟨_, rfl⟩
  intro H locs ls hw hl
  replace hw : Wd g 79 h (cC g h (b, w)) s H locs := hw
  replace hl : lv_has ls 5 [(0, .ref (h 12)), (1, .int x1), (2, .int x2), (3, .int r_2), (4, .int y_3)] := hl
  unfold m_X6_isLost_L11 at hz_4
  refine lv_iload X.1 X.2.1 dX6_isLost_11 (lv_at hl 4 rfl) ?_
  refine lv_bipush (v := 7) X.1 X.2.1 dX6_isLost_13 (by decide) ?_
  refine lv_icmp_ge (tgt := 50) X.1 X.2.1 dX6_isLost_15 (by decide) (fun c_11 => ?_) (fun c_11 => ?_)
  · replace hz_4 := it_p hz_4 c_11
    have he_10 := hx_6 _ (Option.some.inj hz_4).symm
    exact J_8 he_10.symm _ _ _ hw (lv_sub hl [] rfl)
  · replace hz_4 := it_n hz_4 c_11
    refine lv_iload_n X.1 X.2.1 dX6_isLost_18 rfl (lv_at hl 3 rfl) ?_
    refine lv_iload X.1 X.2.1 dX6_isLost_19 (lv_at hl 4 rfl) ?_
    refine lv_iushr X.1 X.2.1 dX6_isLost_21 rfl ?_
    refine lv_iconst (v := 1) X.1 X.2.1 dX6_isLost_22 (by decide) ?_
    refine lv_iand X.1 X.2.1 dX6_isLost_23 ?_
    refine lv_if_eq (tgt := 44) X.1 X.2.1 dX6_isLost_24 (by decide) (fun c_12 => ?_) (fun c_12 => ?_)
    · replace hz_4 := it_p hz_4 c_12
      obtain ⟨x_13, ex_13⟩ : ∃ y : Int32, y = y_3 + 1 := ⟨_, rfl⟩
      replace hz_4 := lt_e hz_4 ex_13
      refine lv_iinc (v := x_13) (lv' := [(4, .int x_13), (0, .ref (h 12)), (1, .int x1), (2, .int x2), (3, .int r_2)]) X.1 X.2.1 dX6_isLost_44 hl (k := 4) rfl (by rw [ex_13]; rfl) (by decide) rfl (fun ls hl => ?_)
      refine lv_goto (tgt := 11) X.1 X.2.1 dX6_isLost_47 (by decide) ?_
      exact hn_5 _ (Option.some.inj hz_4).symm _ _ _ hw (lv_sub hl [1, 2, 3, 4, 0] rfl)
    · replace hz_4 := it_n hz_4 c_12
      refine lv_aload_n X.1 X.2.1 dX6_isLost_27 rfl (lv_at hl 0 rfl) ?_
      refine gX6_net X hw wq_3_21 dX6_isLost_28 ?_
      refine lv_iload_n X.1 X.2.1 dX6_isLost_31 rfl (lv_at hl 1 rfl) ?_
      refine lv_iload X.1 X.2.1 dX6_isLost_32 (lv_at hl 4 rfl) ?_
      replace hz_4 := ob_e hz_4
      obtain ⟨r_15, h_14, hz_4⟩ := hz_4
      refine k_Vi (k := 1) (As := [.int x1, .int y_3]) X hl.1 hw (c_X2_joinedWith h_14) (by decide) (he_X2 g h _ _) rfl ⟨wq_24_3, wq_11_16, wq_11_17, wq_1_13, wq_11_18⟩ yo_X2_joinedWith rfl ⟨Nat.le_of_ble_eq_true rfl, Nat.le_of_ble_eq_true rfl⟩ (Nat.le_of_ble_eq_true rfl) dX6_isLost_34 (fun H locs hw => ?_)
      refine lv_iload_n X.1 X.2.1 dX6_isLost_37 rfl (lv_at hl 2 rfl) ?_
      refine lv_iand X.1 X.2.1 dX6_isLost_38 ?_
      refine lv_if_ne (tgt := 44) X.1 X.2.1 dX6_isLost_39 (by decide) (fun c_16 => ?_) (fun c_16 => ?_)
      · replace hz_4 := it_n hz_4 c_16
        obtain ⟨x_17, ex_17⟩ : ∃ y : Int32, y = y_3 + 1 := ⟨_, rfl⟩
        replace hz_4 := lt_e hz_4 ex_17
        refine lv_iinc (v := x_17) (lv' := [(4, .int x_17), (0, .ref (h 12)), (1, .int x1), (2, .int x2), (3, .int r_2)]) X.1 X.2.1 dX6_isLost_44 hl (k := 4) rfl (by rw [ex_17]; rfl) (by decide) rfl (fun ls hl => ?_)
        refine lv_goto (tgt := 11) X.1 X.2.1 dX6_isLost_47 (by decide) ?_
        exact hn_5 _ (Option.some.inj hz_4).symm _ _ _ hw (lv_sub hl [1, 2, 3, 4, 0] rfl)
      · replace hz_4 := it_p hz_4 c_16
        refine lv_iconst (v := 1) X.1 X.2.1 dX6_isLost_42 (by decide) ?_
        have he_10 := hx_6 _ (Option.some.inj hz_4).symm
        subst he_10
        replace hm := ex_r hm
        obtain rfl := Option.some.inj hm
        exact hret _ _ _ _ hw dX6_isLost_43 (Or.inr rfl)
def m_X6_lookOf_L14 (x1 : Int32) (x2 : Int32) (r_2 : Int32) (b : ST) (σ : Int64 × Int32) : Option ((Int64 × Int32) ⊕ (Int64)) := (fun (q_23 : Int64 × Int32) => un q_23 (fun y_3 y_4 => if (7 : Int32) ≤ y_4 then some (.inr y_3) else if ((x2.toUInt32 >>> (y_4.toUInt32 &&& Int32.toUInt32 31)).toInt32 &&& (1 : Int32)) = 0 then lt (y_4 + 1) (fun x_22 => some (.inl (y_3, x_22))) else Option.bind (m_X2_joinedWith b x1 y_4) (fun (r_16 : Int32) => lt (y_3 ||| ((r_16 &&& x2).toInt64 <<< (((7 : Int32) * y_4).toInt64 &&& 63))) (fun x_17 => if (r_16 &&& r_2) = 0 then lt (y_4 + 1) (fun x_19 => some (.inl (x_17, x_19))) else lt (x_17 ||| ((1 : Int64) <<< (((49 : Int32) + y_4).toInt64 &&& 63))) (fun x_20 => lt (y_4 + 1) (fun x_21 => some (.inl (x_20, x_21)))))))) σ
def m_X6_lookOf (b : ST) (x1 : Int32) (x2 : Int32) : Option (Int64) := Option.bind (m_X2_wantedStations b) (fun (r_2 : Int32) => Option.bind (vLoop (m_X6_lookOf_L14 x1 x2 r_2 b) FUEL ((0 : Int64), (0 : Int32))) (fun (j_5 : Int64) => some j_5))
theorem yo_X6_lookOf : yX6_lookOf.cls = RX6 ∧ yX6_lookOf.cls ≠ "java/lang/invoke/MethodHandle" ∧ yX6_lookOf.cls ≠ "java/lang/invoke/VarHandle" ∧ (parseMethodDescriptor yX6_lookOf.desc).map (fun d => d.parameters.length) = some 2 := by decide +kernel
set_option maxHeartbeats 4000000 in
set_option maxRecDepth 100000 in
theorem c_X6_lookOf {l : Launch} {g : gT} {h : Nat → Nat} {b : ST} {w : Nat → ST} {x1 : Int32} {x2 : Int32} {r : Int64} (hm : m_X6_lookOf b x1 x2 = some r) : MetL l g yX6_lookOf cX6_lookOf 8 (some .long) 2 44 79 h (cC g h (b, w)) (cC g h (b, w)) [.ref (h 12), .int x1, .int x2] r := by
  refine MetL.ofX (by decide +kernel) (Nat.le_of_ble_eq_true rfl) ?_
  intro p e s m below meth c AV Q X hret ls hw hl
  replace X : Cx g p s m AV c cX6_lookOf RX6 8 := X
  replace hl : lv_has ls 8 [(0, .ref (h 12)), (1, .int x1), (2, .int x2)] := hl
  unfold m_X6_lookOf at hm
  refine lv_aload_n X.1 X.2.1 dX6_lookOf_0 rfl (lv_at hl 0 rfl) ?_
  refine gX6_net X hw wq_3_21 dX6_lookOf_1 ?_
  replace hm := ob_e hm
  obtain ⟨r_2, h_1, hm⟩ := hm
  refine k_Vi (k := 1) (As := []) X hl.1 hw (c_X2_wantedStations h_1) (by decide) (he_X2 g h _ _) rfl ⟨wq_24_2, wq_10_15, wq_10_16, wq_1_13, wq_10_17⟩ yo_X2_wantedStations rfl ⟨Nat.le_of_ble_eq_true rfl, Nat.le_of_ble_eq_true rfl⟩ (Nat.le_of_ble_eq_true rfl) dX6_lookOf_4 (fun H locs hw => ?_)
  refine lv_istore_n (lv' := [(3, .int r_2), (0, .ref (h 12)), (1, .int x1), (2, .int x2)]) X.1 X.2.1 dX6_lookOf_7 rfl hl (by decide) rfl (fun ls hl => ?_)
  refine lv_lconst (v := 0) X.1 X.2.1 dX6_lookOf_8 (by decide) ?_
  refine lv_lstore (lv' := [(4, .long (0 : Int64)), (3, .int r_2), (0, .ref (h 12)), (1, .int x1), (2, .int x2)]) X.1 X.2.1 dX6_lookOf_9 hl (by decide) rfl (fun ls hl => ?_)
  refine lv_iconst (v := 0) X.1 X.2.1 dX6_lookOf_11 (by decide) ?_
  refine lv_istore (lv' := [(6, .int (0 : Int32)), (4, .long (0 : Int64)), (3, .int r_2), (0, .ref (h 12)), (1, .int x1), (2, .int x2)]) X.1 X.2.1 dX6_lookOf_12 hl (by decide) rfl (fun ls hl => ?_)
  replace hm := ob_e hm
  obtain ⟨j_5, hL_11, hm⟩ := hm
  have J_10 : ∀ (H : Heap) (locs : List Loc) (ls : Array Slot), Wd g 79 h (cC g h (b, w)) s H locs → lv_has ls 8 [(4, .long j_5)] → W p l e (rW 2 44) s m AV below meth c H locs 0 0 Q (F0 m 86 ls []) := by
    intro H locs ls hw hl
    refine lv_lload X.1 X.2.1 dX6_lookOf_86 (lv_at hl 0 rfl) ?_
    obtain rfl := Option.some.inj hm
    exact hret _ _ _ _ hw dX6_lookOf_88
  refine vLoop_ind (B := (m_X6_lookOf_L14 x1 x2 r_2 b)) (fun σ => ∀ (H : Heap) (locs : List Loc) (ls : Array Slot), Wd g 79 h (cC g h (b, w)) s H locs → lv_has ls 8 [(0, .ref (h 12)), (1, .int x1), (2, .int x2), (3, .int r_2), (4, .long σ.1), (6, .int σ.2)] → W p l e (rW 2 44) s m AV below meth c H locs 0 0 Q (F0 m 14 ls [])) (fun z' => z' = j_5) ?_ FUEL _ _ hL_11 rfl _ _ _ hw (lv_sub hl [3, 4, 5, 2, 1, 0] rfl)
  intro σ z_9 hz_6 hn_7 hx_8
  obtain ⟨y_3, y_4⟩ := σ
  intro H locs ls hw hl
  replace hw : Wd g 79 h (cC g h (b, w)) s H locs := hw
  replace hl : lv_has ls 8 [(0, .ref (h 12)), (1, .int x1), (2, .int x2), (3, .int r_2), (4, .long y_3), (6, .int y_4)] := hl
  unfold m_X6_lookOf_L14 at hz_6
  replace hz_6 := un_e hz_6
  refine lv_iload X.1 X.2.1 dX6_lookOf_14 (lv_at hl 5 rfl) ?_
  refine lv_bipush (v := 7) X.1 X.2.1 dX6_lookOf_16 (by decide) ?_
  refine lv_icmp_ge (tgt := 86) X.1 X.2.1 dX6_lookOf_18 (by decide) (fun c_13 => ?_) (fun c_13 => ?_)
  · replace hz_6 := it_p hz_6 c_13
    obtain rfl := hx_8 _ (Option.some.inj hz_6).symm
    exact J_10 _ _ _ hw (lv_sub hl [4] rfl)
  · replace hz_6 := it_n hz_6 c_13
    refine lv_iload_n X.1 X.2.1 dX6_lookOf_21 rfl (lv_at hl 2 rfl) ?_
    refine lv_iload X.1 X.2.1 dX6_lookOf_22 (lv_at hl 5 rfl) ?_
    refine lv_iushr X.1 X.2.1 dX6_lookOf_24 rfl ?_
    refine lv_iconst (v := 1) X.1 X.2.1 dX6_lookOf_25 (by decide) ?_
    refine lv_iand X.1 X.2.1 dX6_lookOf_26 ?_
    refine lv_if_ne (tgt := 33) X.1 X.2.1 dX6_lookOf_27 (by decide) (fun c_14 => ?_) (fun c_14 => ?_)
    · replace hz_6 := it_n hz_6 c_14
      refine lv_aload_n X.1 X.2.1 dX6_lookOf_33 rfl (lv_at hl 0 rfl) ?_
      refine gX6_net X hw wq_3_21 dX6_lookOf_34 ?_
      refine lv_iload_n X.1 X.2.1 dX6_lookOf_37 rfl (lv_at hl 1 rfl) ?_
      refine lv_iload X.1 X.2.1 dX6_lookOf_38 (lv_at hl 5 rfl) ?_
      replace hz_6 := ob_e hz_6
      obtain ⟨r_16, h_15, hz_6⟩ := hz_6
      refine k_Vi (k := 1) (As := [.int x1, .int y_4]) X hl.1 hw (c_X2_joinedWith h_15) (by decide) (he_X2 g h _ _) rfl ⟨wq_24_3, wq_11_16, wq_11_17, wq_1_13, wq_11_18⟩ yo_X2_joinedWith rfl ⟨Nat.le_of_ble_eq_true rfl, Nat.le_of_ble_eq_true rfl⟩ (Nat.le_of_ble_eq_true rfl) dX6_lookOf_40 (fun H locs hw => ?_)
      refine lv_istore (lv' := [(7, .int r_16), (0, .ref (h 12)), (1, .int x1), (2, .int x2), (3, .int r_2), (4, .long y_3), (6, .int y_4)]) X.1 X.2.1 dX6_lookOf_43 hl (by decide) rfl (fun ls hl => ?_)
      refine lv_lload X.1 X.2.1 dX6_lookOf_45 (lv_at hl 5 rfl) ?_
      refine lv_iload X.1 X.2.1 dX6_lookOf_47 (lv_at hl 0 rfl) ?_
      refine lv_iload_n X.1 X.2.1 dX6_lookOf_49 rfl (lv_at hl 3 rfl) ?_
      refine lv_iand X.1 X.2.1 dX6_lookOf_50 ?_
      refine lv_i2l X.1 X.2.1 dX6_lookOf_51 rfl ?_
      refine lv_bipush (v := 7) X.1 X.2.1 dX6_lookOf_52 (by decide) ?_
      refine lv_iload X.1 X.2.1 dX6_lookOf_54 (lv_at hl 6 rfl) ?_
      refine lv_imul X.1 X.2.1 dX6_lookOf_56 ?_
      refine lv_lshl X.1 X.2.1 dX6_lookOf_57 rfl ?_
      refine lv_lor X.1 X.2.1 dX6_lookOf_58 ?_
      refine lv_topl (fun x_17 ex_17 => ?_)
      replace hz_6 := lt_e hz_6 ex_17
      refine lv_lstore (lv' := [(4, .long x_17), (7, .int r_16), (0, .ref (h 12)), (1, .int x1), (2, .int x2), (3, .int r_2), (6, .int y_4)]) X.1 X.2.1 dX6_lookOf_59 hl (by decide) rfl (fun ls hl => ?_)
      refine lv_iload X.1 X.2.1 dX6_lookOf_61 (lv_at hl 1 rfl) ?_
      refine lv_iload_n X.1 X.2.1 dX6_lookOf_63 rfl (lv_at hl 5 rfl) ?_
      refine lv_iand X.1 X.2.1 dX6_lookOf_64 ?_
      refine lv_if_eq (tgt := 80) X.1 X.2.1 dX6_lookOf_65 (by decide) (fun c_18 => ?_) (fun c_18 => ?_)
      · replace hz_6 := it_p hz_6 c_18
        obtain ⟨x_19, ex_19⟩ : ∃ y : Int32, y = y_4 + 1 := ⟨_, rfl⟩
        replace hz_6 := lt_e hz_6 ex_19
        refine lv_iinc (v := x_19) (lv' := [(6, .int x_19), (4, .long x_17), (7, .int r_16), (0, .ref (h 12)), (1, .int x1), (2, .int x2), (3, .int r_2)]) X.1 X.2.1 dX6_lookOf_80 hl (k := 6) rfl (by rw [ex_19]; rfl) (by decide) rfl (fun ls hl => ?_)
        refine lv_goto (tgt := 14) X.1 X.2.1 dX6_lookOf_83 (by decide) ?_
        exact hn_7 _ (Option.some.inj hz_6).symm _ _ _ hw (lv_sub hl [3, 4, 5, 6, 1, 0] rfl)
      · replace hz_6 := it_n hz_6 c_18
        refine lv_lload X.1 X.2.1 dX6_lookOf_68 (lv_at hl 0 rfl) ?_
        refine lv_lconst (v := 1) X.1 X.2.1 dX6_lookOf_70 (by decide) ?_
        refine lv_bipush (v := 49) X.1 X.2.1 dX6_lookOf_71 (by decide) ?_
        refine lv_iload X.1 X.2.1 dX6_lookOf_73 (lv_at hl 6 rfl) ?_
        refine lv_iadd X.1 X.2.1 dX6_lookOf_75 ?_
        refine lv_lshl X.1 X.2.1 dX6_lookOf_76 rfl ?_
        refine lv_lor X.1 X.2.1 dX6_lookOf_77 ?_
        refine lv_topl (fun x_20 ex_20 => ?_)
        replace hz_6 := lt_e hz_6 ex_20
        refine lv_lstore (lv' := [(4, .long x_20), (7, .int r_16), (0, .ref (h 12)), (1, .int x1), (2, .int x2), (3, .int r_2), (6, .int y_4)]) X.1 X.2.1 dX6_lookOf_78 hl (by decide) rfl (fun ls hl => ?_)
        obtain ⟨x_21, ex_21⟩ : ∃ y : Int32, y = y_4 + 1 := ⟨_, rfl⟩
        replace hz_6 := lt_e hz_6 ex_21
        refine lv_iinc (v := x_21) (lv' := [(6, .int x_21), (4, .long x_20), (7, .int r_16), (0, .ref (h 12)), (1, .int x1), (2, .int x2), (3, .int r_2)]) X.1 X.2.1 dX6_lookOf_80 hl (k := 6) rfl (by rw [ex_21]; rfl) (by decide) rfl (fun ls hl => ?_)
        refine lv_goto (tgt := 14) X.1 X.2.1 dX6_lookOf_83 (by decide) ?_
        exact hn_7 _ (Option.some.inj hz_6).symm _ _ _ hw (lv_sub hl [3, 4, 5, 6, 1, 0] rfl)
    · replace hz_6 := it_p hz_6 c_14
      refine lv_goto (tgt := 80) X.1 X.2.1 dX6_lookOf_30 (by decide) ?_
      obtain ⟨x_22, ex_22⟩ : ∃ y : Int32, y = y_4 + 1 := ⟨_, rfl⟩
      replace hz_6 := lt_e hz_6 ex_22
      refine lv_iinc (v := x_22) (lv' := [(6, .int x_22), (0, .ref (h 12)), (1, .int x1), (2, .int x2), (3, .int r_2), (4, .long y_3)]) X.1 X.2.1 dX6_lookOf_80 hl (k := 5) rfl (by rw [ex_22]; rfl) (by decide) rfl (fun ls hl => ?_)
      refine lv_goto (tgt := 14) X.1 X.2.1 dX6_lookOf_83 (by decide) ?_
      exact hn_7 _ (Option.some.inj hz_6).symm _ _ _ hw (lv_sub hl [1, 2, 3, 4, 5, 0] rfl)
def m_X6_isAmong_L3 (x1 : Int64) (x3 : Int32) (b : ST) (σ : Int32) : Option ((Int32) ⊕ ((Unit) ⊕ (Int32))) := (fun (y_1 : Int32) => if x3 ≤ y_1 then some (.inr (.inl ())) else if (1024 : Int32) ≤ y_1 then some (.inr (.inl ())) else gd (¬ (y_1 < 0 ∨ 1024 ≤ y_1.toNatClampNeg)) (if (lg_cmp (b.2.2.2 2 y_1.toNatClampNeg) x1) = 0 then some (.inr (.inr (1 : Int32))) else lt (y_1 + 1) (fun x_13 => some (.inl x_13)))) σ
def m_X6_isAmong (b : ST) (x1 : Int64) (x3 : Int32) : Option (Int32) := Option.bind (vLoop (m_X6_isAmong_L3 x1 x3 b) FUEL (0 : Int32)) (fun z => ex z (fun (_ : Unit) => some (0 : Int32)) (fun r_15 => some r_15))
theorem yo_X6_isAmong : yX6_isAmong.cls = RX6 ∧ yX6_isAmong.cls ≠ "java/lang/invoke/MethodHandle" ∧ yX6_isAmong.cls ≠ "java/lang/invoke/VarHandle" ∧ (parseMethodDescriptor yX6_isAmong.desc).map (fun d => d.parameters.length) = some 2 := by decide +kernel
set_option maxHeartbeats 4000000 in
set_option maxRecDepth 100000 in
theorem c_X6_isAmong {l : Launch} {g : gT} {h : Nat → Nat} {b : ST} {w : Nat → ST} {x1 : Int64} {x3 : Int32} {r : Int32} (hm : m_X6_isAmong b x1 x3 = some r) : MetI l g yX6_isAmong cX6_isAmong 5 (some .boolean) 0 0 79 h (cC g h (b, w)) (cC g h (b, w)) [.ref (h 12), .long x1, .int x3] r := by
  refine MetZ.ofX (by decide +kernel) (Nat.le_of_ble_eq_true rfl) ?_
  intro p e s m below meth c AV Q X hret ls hw hl
  replace X : Cx g p s m AV c cX6_isAmong RX6 5 := X
  replace hl : lv_has ls 5 [(0, .ref (h 12)), (1, .long x1), (3, .int x3)] := hl
  unfold m_X6_isAmong at hm
  refine lv_iconst (v := 0) X.1 X.2.1 dX6_isAmong_0 (by decide) ?_
  refine lv_istore (lv' := [(4, .int (0 : Int32)), (0, .ref (h 12)), (1, .long x1), (3, .int x3)]) X.1 X.2.1 dX6_isAmong_1 hl (by decide) rfl (fun ls hl => ?_)
  replace hm := ob_e hm
  obtain ⟨z_14, hL_7, hm⟩ := hm
  have J_6 : z_14 = .inl () → ∀ (H : Heap) (locs : List Loc) (ls : Array Slot), Wd g 79 h (cC g h (b, w)) s H locs → lv_has ls 5 [] → W p l e (rW 0 0) s m AV below meth c H locs 0 0 Q (F0 m 39 ls []) := by
    intro hj
    subst hj
    replace hm := ex_l hm
    intro H locs ls hw hl
    refine lv_iconst (v := 0) X.1 X.2.1 dX6_isAmong_39 (by decide) ?_
    obtain rfl := Option.some.inj hm
    exact hret _ _ _ _ hw dX6_isAmong_40 (Or.inl rfl)
  refine vLoop_ind (B := (m_X6_isAmong_L3 x1 x3 b)) (fun σ => ∀ (H : Heap) (locs : List Loc) (ls : Array Slot), Wd g 79 h (cC g h (b, w)) s H locs → lv_has ls 5 [(0, .ref (h 12)), (1, .long x1), (3, .int x3), (4, .int σ)] → W p l e (rW 0 0) s m AV below meth c H locs 0 0 Q (F0 m 3 ls [])) (fun z' => z' = z_14) ?_ FUEL _ _ hL_7 rfl _ _ _ hw (lv_sub hl [1, 2, 3, 0] rfl)
  intro σ z_5 hz_2 hn_3 hx_4
  obtain ⟨y_1, rfl⟩ : ∃ q, q = σ := ⟨_, rfl⟩
  intro H locs ls hw hl
  replace hw : Wd g 79 h (cC g h (b, w)) s H locs := hw
  replace hl : lv_has ls 5 [(0, .ref (h 12)), (1, .long x1), (3, .int x3), (4, .int y_1)] := hl
  unfold m_X6_isAmong_L3 at hz_2
  refine lv_iload X.1 X.2.1 dX6_isAmong_3 (lv_at hl 3 rfl) ?_
  refine lv_iload_n X.1 X.2.1 dX6_isAmong_5 rfl (lv_at hl 2 rfl) ?_
  refine lv_icmp_ge (tgt := 39) X.1 X.2.1 dX6_isAmong_6 (by decide) (fun c_9 => ?_) (fun c_9 => ?_)
  · replace hz_2 := it_p hz_2 c_9
    have he_8 := hx_4 _ (Option.some.inj hz_2).symm
    exact J_6 he_8.symm _ _ _ hw (lv_sub hl [] rfl)
  · replace hz_2 := it_n hz_2 c_9
    refine lv_iload X.1 X.2.1 dX6_isAmong_9 (lv_at hl 3 rfl) ?_
    refine lv_aload_n X.1 X.2.1 dX6_isAmong_11 rfl (lv_at hl 0 rfl) ?_
    refine gX6_looks X hw wq_3_20 dX6_isAmong_12 ?_
    refine eB2 X hw (v := 1024) rfl dX6_isAmong_15 ?_
    refine lv_icmp_ge (tgt := 39) X.1 X.2.1 dX6_isAmong_16 (by decide) (fun c_10 => ?_) (fun c_10 => ?_)
    · replace hz_2 := it_p hz_2 c_10
      have he_8 := hx_4 _ (Option.some.inj hz_2).symm
      exact J_6 he_8.symm _ _ _ hw (lv_sub hl [] rfl)
    · replace hz_2 := it_n hz_2 c_10
      refine lv_aload_n X.1 X.2.1 dX6_isAmong_19 rfl (lv_at hl 0 rfl) ?_
      refine gX6_looks X hw wq_3_20 dX6_isAmong_20 ?_
      refine lv_iload X.1 X.2.1 dX6_isAmong_23 (lv_at hl 3 rfl) ?_
      replace hz_2 := gd_e hz_2
      obtain ⟨g_11, hz_2⟩ := hz_2
      refine lB2 X hw g_11 dX6_isAmong_25 ?_
      refine lv_lload_n X.1 X.2.1 dX6_isAmong_26 rfl (lv_at hl 1 rfl) ?_
      refine W.lcmp X.1 X.2.1 dX6_isAmong_27 ?_
      refine lv_if_ne (tgt := 33) X.1 X.2.1 dX6_isAmong_28 (by decide) (fun c_12 => ?_) (fun c_12 => ?_)
      · replace hz_2 := it_n hz_2 c_12
        obtain ⟨x_13, ex_13⟩ : ∃ y : Int32, y = y_1 + 1 := ⟨_, rfl⟩
        replace hz_2 := lt_e hz_2 ex_13
        refine lv_iinc (v := x_13) (lv' := [(4, .int x_13), (0, .ref (h 12)), (1, .long x1), (3, .int x3)]) X.1 X.2.1 dX6_isAmong_33 hl (k := 3) rfl (by rw [ex_13]; rfl) (by decide) rfl (fun ls hl => ?_)
        refine lv_goto (tgt := 3) X.1 X.2.1 dX6_isAmong_36 (by decide) ?_
        exact hn_3 _ (Option.some.inj hz_2).symm _ _ _ hw (lv_sub hl [1, 2, 3, 0] rfl)
      · replace hz_2 := it_p hz_2 c_12
        refine lv_iconst (v := 1) X.1 X.2.1 dX6_isAmong_31 (by decide) ?_
        have he_8 := hx_4 _ (Option.some.inj hz_2).symm
        subst he_8
        replace hm := ex_r hm
        obtain rfl := Option.some.inj hm
        exact hret _ _ _ _ hw dX6_isAmong_32 (Or.inr rfl)
def m_X6_widthBehind_L34 (r_2 : Int32) (r_4 : Int32) (r_6 : Int32) (x_7 : Int32) (σ : Int32 × Int32 × ST) : Option ((Int32 × Int32 × ST) ⊕ (Int32 × ST)) := (fun (q_49 : Int32 × Int32 × ST) => un q_49 (fun y_8 q_49 => un q_49 (fun y_9 b_10 => if x_7 < y_9 then some (.inr (y_8, b_10)) else if (1024 : Int32) ≤ y_9 then some (.inr (y_8, b_10)) else if (y_9 &&& r_4) = r_4 then if (y_9 &&& r_6) = 0 then Option.bind (m_X2_reaches b_10 y_9) (fun (r_29 : Int32) => if r_29 = 0 then Option.bind (m_X6_isLost b_10 y_9 r_2) (fun (r_33 : Int32) => if r_33 = 0 then Option.bind (m_X6_lookOf b_10 y_9 r_2) (fun (r_36 : Int64) => if (1024 : Int32) ≤ y_8 then lt (y_9 + 1) (fun x_38 => some (.inl (y_8, x_38, b_10))) else Option.bind (m_X6_isAmong b_10 r_36 y_8) (fun (r_40 : Int32) => if r_40 = 0 then lt (y_8 + 1) (fun x_43 => gd (¬ (y_8 < 0 ∨ 1024 ≤ y_8.toNatClampNeg)) (lt (wB b_10 2 y_8.toNatClampNeg r_36) (fun b_45 => lt (y_9 + 1) (fun x_46 => some (.inl (x_43, x_46, b_45)))))) else lt (y_9 + 1) (fun x_42 => some (.inl (y_8, x_42, b_10))))) else lt (y_9 + 1) (fun x_47 => some (.inl (y_8, x_47, b_10)))) else lt (y_9 + 1) (fun x_31 => some (.inl (y_8, x_31, b_10)))) else lt (y_9 + 1) (fun x_48 => some (.inl (y_8, x_48, b_10))) else lt (y_9 + 1) (fun x_26 => some (.inl (y_8, x_26, b_10)))))) σ
def m_X6_widthBehind (b : ST) (x1 : Int32) : Option (Int32 × ST) := Option.bind (m_X6_openBehind b x1) (fun (r_2 : Int32) => Option.bind (m_X6_surelyUp b x1) (fun (r_4 : Int32) => Option.bind (m_X6_surelyDown b x1) (fun (r_6 : Int32) => lt (((1 : Int32) <<< ((x1 + (1 : Int32)) &&& 31)) - (1 : Int32)) (fun x_7 => Option.bind (vLoop (m_X6_widthBehind_L34 r_2 r_4 r_6 x_7) FUEL ((0 : Int32), (0 : Int32), b)) (fun (q_50 : Int32 × ST) => un q_50 (fun j_11 b_12 => some (j_11, b_12)))))))
theorem yo_X6_widthBehind : yX6_widthBehind.cls = RX6 ∧ yX6_widthBehind.cls ≠ "java/lang/invoke/MethodHandle" ∧ yX6_widthBehind.cls ≠ "java/lang/invoke/VarHandle" ∧ (parseMethodDescriptor yX6_widthBehind.desc).map (fun d => d.parameters.length) = some 1 := by decide +kernel
set_option maxHeartbeats 4000000 in
set_option maxRecDepth 100000 in
theorem c_X6_widthBehind {l : Launch} {g : gT} {h : Nat → Nat} {b : ST} {w : Nat → ST} {x1 : Int32} {r : Int32} {b' : ST} (hm : m_X6_widthBehind b x1 = some (r, b')) : MetI l g yX6_widthBehind cX6_widthBehind 10 (some .int) 4 87 79 h (cC g h (b, w)) (cC g h (b', w)) [.ref (h 12), .int x1] r := by
  refine MetI.ofX (by decide +kernel) (Nat.le_of_ble_eq_true rfl) ?_
  intro p e s m below meth c AV Q X hret ls hw hl
  replace X : Cx g p s m AV c cX6_widthBehind RX6 10 := X
  replace hl : lv_has ls 10 [(0, .ref (h 12)), (1, .int x1)] := hl
  unfold m_X6_widthBehind at hm
  refine lv_aload_n X.1 X.2.1 dX6_widthBehind_0 rfl (lv_at hl 0 rfl) ?_
  refine lv_iload_n X.1 X.2.1 dX6_widthBehind_1 rfl (lv_at hl 1 rfl) ?_
  replace hm := ob_e hm
  obtain ⟨r_2, h_1, hm⟩ := hm
  refine k_Vi (k := 12) (As := [.int x1]) X hl.1 hw (c_X6_openBehind h_1) (by decide) (he_X6 g h _ _) rfl ⟨wq_23_5, wq_23_6, wq_23_7, wq_2_1, wq_23_8⟩ yo_X6_openBehind rfl ⟨Nat.le_of_ble_eq_true rfl, Nat.le_of_ble_eq_true rfl⟩ (Nat.le_of_ble_eq_true rfl) dX6_widthBehind_2 (fun H locs hw => ?_)
  refine lv_istore_n (lv' := [(2, .int r_2), (0, .ref (h 12)), (1, .int x1)]) X.1 X.2.1 dX6_widthBehind_5 rfl hl (by decide) rfl (fun ls hl => ?_)
  refine lv_aload_n X.1 X.2.1 dX6_widthBehind_6 rfl (lv_at hl 1 rfl) ?_
  refine lv_iload_n X.1 X.2.1 dX6_widthBehind_7 rfl (lv_at hl 2 rfl) ?_
  replace hm := ob_e hm
  obtain ⟨r_4, h_3, hm⟩ := hm
  refine k_Vi (k := 12) (As := [.int x1]) X hl.1 hw (c_X6_surelyUp h_3) (by decide) (he_X6 g h _ _) rfl ⟨wq_23_11, wq_23_12, wq_23_13, wq_2_1, wq_23_14⟩ yo_X6_surelyUp rfl ⟨Nat.le_of_ble_eq_true rfl, Nat.le_of_ble_eq_true rfl⟩ (Nat.le_of_ble_eq_true rfl) dX6_widthBehind_8 (fun H locs hw => ?_)
  refine lv_istore_n (lv' := [(3, .int r_4), (2, .int r_2), (0, .ref (h 12)), (1, .int x1)]) X.1 X.2.1 dX6_widthBehind_11 rfl hl (by decide) rfl (fun ls hl => ?_)
  refine lv_aload_n X.1 X.2.1 dX6_widthBehind_12 rfl (lv_at hl 2 rfl) ?_
  refine lv_iload_n X.1 X.2.1 dX6_widthBehind_13 rfl (lv_at hl 3 rfl) ?_
  replace hm := ob_e hm
  obtain ⟨r_6, h_5, hm⟩ := hm
  refine k_Vi (k := 12) (As := [.int x1]) X hl.1 hw (c_X6_surelyDown h_5) (by decide) (he_X6 g h _ _) rfl ⟨wq_23_17, wq_23_18, wq_23_19, wq_2_1, wq_23_20⟩ yo_X6_surelyDown rfl ⟨Nat.le_of_ble_eq_true rfl, Nat.le_of_ble_eq_true rfl⟩ (Nat.le_of_ble_eq_true rfl) dX6_widthBehind_14 (fun H locs hw => ?_)
  refine lv_istore (lv' := [(4, .int r_6), (3, .int r_4), (2, .int r_2), (0, .ref (h 12)), (1, .int x1)]) X.1 X.2.1 dX6_widthBehind_17 hl (by decide) rfl (fun ls hl => ?_)
  refine lv_iconst (v := 1) X.1 X.2.1 dX6_widthBehind_19 (by decide) ?_
  refine lv_iload_n X.1 X.2.1 dX6_widthBehind_20 rfl (lv_at hl 4 rfl) ?_
  refine lv_iconst (v := 1) X.1 X.2.1 dX6_widthBehind_21 (by decide) ?_
  refine lv_iadd X.1 X.2.1 dX6_widthBehind_22 ?_
  refine lv_ishl X.1 X.2.1 dX6_widthBehind_23 ?_
  refine lv_iconst (v := 1) X.1 X.2.1 dX6_widthBehind_24 (by decide) ?_
  refine lv_isub X.1 X.2.1 dX6_widthBehind_25 ?_
  refine lv_topi (fun x_7 ex_7 => ?_)
  replace hm := lt_e hm ex_7
  refine lv_istore (lv' := [(5, .int x_7), (4, .int r_6), (3, .int r_4), (2, .int r_2), (0, .ref (h 12)), (1, .int x1)]) X.1 X.2.1 dX6_widthBehind_26 hl (by decide) rfl (fun ls hl => ?_)
  refine lv_iconst (v := 0) X.1 X.2.1 dX6_widthBehind_28 (by decide) ?_
  refine lv_istore (lv' := [(6, .int (0 : Int32)), (5, .int x_7), (4, .int r_6), (3, .int r_4), (2, .int r_2), (0, .ref (h 12)), (1, .int x1)]) X.1 X.2.1 dX6_widthBehind_29 hl (by decide) rfl (fun ls hl => ?_)
  refine lv_iconst (v := 0) X.1 X.2.1 dX6_widthBehind_31 (by decide) ?_
  refine lv_istore (lv' := [(7, .int (0 : Int32)), (6, .int (0 : Int32)), (5, .int x_7), (4, .int r_6), (3, .int r_4), (2, .int r_2), (0, .ref (h 12)), (1, .int x1)]) X.1 X.2.1 dX6_widthBehind_32 hl (by decide) rfl (fun ls hl => ?_)
  replace hm := ob_e hm
  obtain ⟨⟨j_11, b_12⟩, hL_19, hm⟩ := hm
  replace hm := un_e hm
  have J_18 : ∀ (H : Heap) (locs : List Loc) (ls : Array Slot), Wd g 79 h (cC g h (b_12, w)) s H locs → lv_has ls 10 [(6, .int j_11)] → W p l e (rW 4 87) s m AV below meth c H locs 0 0 Q (F0 m 141 ls []) := by
    intro H locs ls hw hl
    refine lv_iload X.1 X.2.1 dX6_widthBehind_141 (lv_at hl 0 rfl) ?_
    obtain ⟨rfl, rfl⟩ := Prod.mk.inj (Option.some.inj hm)
    exact hret _ _ _ _ hw dX6_widthBehind_143
  refine vLoop_ind (B := (m_X6_widthBehind_L34 r_2 r_4 r_6 x_7)) (fun σ => ∀ (H : Heap) (locs : List Loc) (ls : Array Slot), Wd g 79 h (cC g h (σ.2.2, w)) s H locs → lv_has ls 10 [(0, .ref (h 12)), (2, .int r_2), (3, .int r_4), (4, .int r_6), (5, .int x_7), (6, .int σ.1), (7, .int σ.2.1)] → W p l e (rW 4 87) s m AV below meth c H locs 0 0 Q (F0 m 34 ls [])) (fun z' => z' = (j_11, b_12)) ?_ FUEL _ _ hL_19 rfl _ _ _ hw (lv_sub hl [6, 5, 4, 3, 2, 1, 0] rfl)
  intro σ z_17 hz_14 hn_15 hx_16
  obtain ⟨y_8, y_9, b_10⟩ := σ
  intro H locs ls hw hl
  replace hw : Wd g 79 h (cC g h (b_10, w)) s H locs := hw
  replace hl : lv_has ls 10 [(0, .ref (h 12)), (2, .int r_2), (3, .int r_4), (4, .int r_6), (5, .int x_7), (6, .int y_8), (7, .int y_9)] := hl
  unfold m_X6_widthBehind_L34 at hz_14
  replace hz_14 := un_e hz_14
  replace hz_14 := un_e hz_14
  refine lv_iload X.1 X.2.1 dX6_widthBehind_34 (lv_at hl 6 rfl) ?_
  refine lv_iload X.1 X.2.1 dX6_widthBehind_36 (lv_at hl 4 rfl) ?_
  refine lv_icmp_gt (tgt := 141) X.1 X.2.1 dX6_widthBehind_38 (by decide) (fun c_21 => ?_) (fun c_21 => ?_)
  · replace hz_14 := it_p hz_14 c_21
    obtain ⟨rfl, rfl⟩ := Prod.mk.inj (hx_16 _ (Option.some.inj hz_14).symm)
    exact J_18 _ _ _ hw (lv_sub hl [5] rfl)
  · replace hz_14 := it_n hz_14 c_21
    refine lv_iload X.1 X.2.1 dX6_widthBehind_41 (lv_at hl 6 rfl) ?_
    refine lv_sipush (v := 1024) X.1 X.2.1 dX6_widthBehind_43 (by decide) ?_
    refine lv_icmp_ge (tgt := 141) X.1 X.2.1 dX6_widthBehind_46 (by decide) (fun c_23 => ?_) (fun c_23 => ?_)
    · replace hz_14 := it_p hz_14 c_23
      obtain ⟨rfl, rfl⟩ := Prod.mk.inj (hx_16 _ (Option.some.inj hz_14).symm)
      exact J_18 _ _ _ hw (lv_sub hl [5] rfl)
    · replace hz_14 := it_n hz_14 c_23
      refine lv_iload X.1 X.2.1 dX6_widthBehind_49 (lv_at hl 6 rfl) ?_
      refine lv_iload_n X.1 X.2.1 dX6_widthBehind_51 rfl (lv_at hl 2 rfl) ?_
      refine lv_iand X.1 X.2.1 dX6_widthBehind_52 ?_
      refine lv_iload_n X.1 X.2.1 dX6_widthBehind_53 rfl (lv_at hl 2 rfl) ?_
      refine lv_icmp_ne (tgt := 135) X.1 X.2.1 dX6_widthBehind_54 (by decide) (fun c_25 => ?_) (fun c_25 => ?_)
      · replace hz_14 := it_n hz_14 c_25
        obtain ⟨x_26, ex_26⟩ : ∃ y : Int32, y = y_9 + 1 := ⟨_, rfl⟩
        replace hz_14 := lt_e hz_14 ex_26
        refine lv_iinc (v := x_26) (lv' := [(7, .int x_26), (0, .ref (h 12)), (2, .int r_2), (3, .int r_4), (4, .int r_6), (5, .int x_7), (6, .int y_8)]) X.1 X.2.1 dX6_widthBehind_135 hl (k := 6) rfl (by rw [ex_26]; rfl) (by decide) rfl (fun ls hl => ?_)
        refine lv_goto (tgt := 34) X.1 X.2.1 dX6_widthBehind_138 (by decide) ?_
        exact hn_15 _ (Option.some.inj hz_14).symm _ _ _ hw (lv_sub hl [1, 2, 3, 4, 5, 6, 0] rfl)
      · replace hz_14 := it_p hz_14 c_25
        refine lv_iload X.1 X.2.1 dX6_widthBehind_57 (lv_at hl 6 rfl) ?_
        refine lv_iload X.1 X.2.1 dX6_widthBehind_59 (lv_at hl 3 rfl) ?_
        refine lv_iand X.1 X.2.1 dX6_widthBehind_61 ?_
        refine lv_if_eq (tgt := 68) X.1 X.2.1 dX6_widthBehind_62 (by decide) (fun c_27 => ?_) (fun c_27 => ?_)
        · replace hz_14 := it_p hz_14 c_27
          refine lv_aload_n X.1 X.2.1 dX6_widthBehind_68 rfl (lv_at hl 0 rfl) ?_
          refine gX6_net X hw wq_3_21 dX6_widthBehind_69 ?_
          refine lv_iload X.1 X.2.1 dX6_widthBehind_72 (lv_at hl 6 rfl) ?_
          replace hz_14 := ob_e hz_14
          obtain ⟨r_29, h_28, hz_14⟩ := hz_14
          refine k_Vi (k := 1) (As := [.int y_9]) X hl.1 hw (c_X2_reaches h_28) (by decide) (he_X2 g h _ _) rfl ⟨wq_23_21, wq_11_11, wq_11_12, wq_1_13, wq_11_13⟩ yo_X2_reaches rfl ⟨Nat.le_of_ble_eq_true rfl, Nat.le_of_ble_eq_true rfl⟩ (Nat.le_of_ble_eq_true rfl) dX6_widthBehind_74 (fun H locs hw => ?_)
          refine lv_if_ne (tgt := 135) X.1 X.2.1 dX6_widthBehind_77 (by decide) (fun c_30 => ?_) (fun c_30 => ?_)
          · replace hz_14 := it_n hz_14 c_30
            obtain ⟨x_31, ex_31⟩ : ∃ y : Int32, y = y_9 + 1 := ⟨_, rfl⟩
            replace hz_14 := lt_e hz_14 ex_31
            refine lv_iinc (v := x_31) (lv' := [(7, .int x_31), (0, .ref (h 12)), (2, .int r_2), (3, .int r_4), (4, .int r_6), (5, .int x_7), (6, .int y_8)]) X.1 X.2.1 dX6_widthBehind_135 hl (k := 6) rfl (by rw [ex_31]; rfl) (by decide) rfl (fun ls hl => ?_)
            refine lv_goto (tgt := 34) X.1 X.2.1 dX6_widthBehind_138 (by decide) ?_
            exact hn_15 _ (Option.some.inj hz_14).symm _ _ _ hw (lv_sub hl [1, 2, 3, 4, 5, 6, 0] rfl)
          · replace hz_14 := it_p hz_14 c_30
            refine lv_aload_n X.1 X.2.1 dX6_widthBehind_80 rfl (lv_at hl 0 rfl) ?_
            refine lv_iload X.1 X.2.1 dX6_widthBehind_81 (lv_at hl 6 rfl) ?_
            refine lv_iload_n X.1 X.2.1 dX6_widthBehind_83 rfl (lv_at hl 1 rfl) ?_
            replace hz_14 := ob_e hz_14
            obtain ⟨r_33, h_32, hz_14⟩ := hz_14
            refine k_Vi (k := 12) (As := [.int y_9, .int r_2]) X hl.1 hw (c_X6_isLost h_32) (by decide) (he_X6 g h _ _) rfl ⟨wq_23_22, wq_23_23, wq_24_0, wq_2_1, wq_24_1⟩ yo_X6_isLost rfl ⟨Nat.le_of_ble_eq_true rfl, Nat.le_of_ble_eq_true rfl⟩ (Nat.le_of_ble_eq_true rfl) dX6_widthBehind_84 (fun H locs hw => ?_)
            refine lv_if_eq (tgt := 93) X.1 X.2.1 dX6_widthBehind_87 (by decide) (fun c_34 => ?_) (fun c_34 => ?_)
            · replace hz_14 := it_p hz_14 c_34
              refine lv_aload_n X.1 X.2.1 dX6_widthBehind_93 rfl (lv_at hl 0 rfl) ?_
              refine lv_iload X.1 X.2.1 dX6_widthBehind_94 (lv_at hl 6 rfl) ?_
              refine lv_iload_n X.1 X.2.1 dX6_widthBehind_96 rfl (lv_at hl 1 rfl) ?_
              replace hz_14 := ob_e hz_14
              obtain ⟨r_36, h_35, hz_14⟩ := hz_14
              refine k_Vl (k := 12) (As := [.int y_9, .int r_2]) X hl.1 hw (c_X6_lookOf h_35) (by decide) (he_X6 g h _ _) rfl ⟨wq_24_4, wq_24_5, wq_24_6, wq_2_1, wq_24_7⟩ yo_X6_lookOf rfl ⟨Nat.le_of_ble_eq_true rfl, Nat.le_of_ble_eq_true rfl⟩ (Nat.le_of_ble_eq_true rfl) dX6_widthBehind_97 (fun H locs hw => ?_)
              refine lv_lstore (lv' := [(8, .long r_36), (0, .ref (h 12)), (2, .int r_2), (3, .int r_4), (4, .int r_6), (5, .int x_7), (6, .int y_8), (7, .int y_9)]) X.1 X.2.1 dX6_widthBehind_100 hl (by decide) rfl (fun ls hl => ?_)
              refine lv_iload X.1 X.2.1 dX6_widthBehind_102 (lv_at hl 6 rfl) ?_
              refine lv_aload_n X.1 X.2.1 dX6_widthBehind_104 rfl (lv_at hl 1 rfl) ?_
              refine gX6_looks X hw wq_3_20 dX6_widthBehind_105 ?_
              refine eB2 X hw (v := 1024) rfl dX6_widthBehind_108 ?_
              refine lv_icmp_ge (tgt := 135) X.1 X.2.1 dX6_widthBehind_109 (by decide) (fun c_37 => ?_) (fun c_37 => ?_)
              · replace hz_14 := it_p hz_14 c_37
                obtain ⟨x_38, ex_38⟩ : ∃ y : Int32, y = y_9 + 1 := ⟨_, rfl⟩
                replace hz_14 := lt_e hz_14 ex_38
                refine lv_iinc (v := x_38) (lv' := [(7, .int x_38), (8, .long r_36), (0, .ref (h 12)), (2, .int r_2), (3, .int r_4), (4, .int r_6), (5, .int x_7), (6, .int y_8)]) X.1 X.2.1 dX6_widthBehind_135 hl (k := 7) rfl (by rw [ex_38]; rfl) (by decide) rfl (fun ls hl => ?_)
                refine lv_goto (tgt := 34) X.1 X.2.1 dX6_widthBehind_138 (by decide) ?_
                exact hn_15 _ (Option.some.inj hz_14).symm _ _ _ hw (lv_sub hl [2, 3, 4, 5, 6, 7, 0] rfl)
              · replace hz_14 := it_n hz_14 c_37
                refine lv_aload_n X.1 X.2.1 dX6_widthBehind_112 rfl (lv_at hl 1 rfl) ?_
                refine lv_lload X.1 X.2.1 dX6_widthBehind_113 (lv_at hl 0 rfl) ?_
                refine lv_iload X.1 X.2.1 dX6_widthBehind_115 (lv_at hl 6 rfl) ?_
                replace hz_14 := ob_e hz_14
                obtain ⟨r_40, h_39, hz_14⟩ := hz_14
                refine k_Vi (k := 12) (As := [.long r_36, .int y_8]) X hl.1 hw (c_X6_isAmong h_39) (by decide) (he_X6 g h _ _) rfl ⟨wq_24_8, wq_24_9, wq_24_10, wq_2_1, wq_24_11⟩ yo_X6_isAmong rfl ⟨Nat.le_of_ble_eq_true rfl, Nat.le_of_ble_eq_true rfl⟩ (Nat.le_of_ble_eq_true rfl) dX6_widthBehind_117 (fun H locs hw => ?_)
                refine lv_if_ne (tgt := 135) X.1 X.2.1 dX6_widthBehind_120 (by decide) (fun c_41 => ?_) (fun c_41 => ?_)
                · replace hz_14 := it_n hz_14 c_41
                  obtain ⟨x_42, ex_42⟩ : ∃ y : Int32, y = y_9 + 1 := ⟨_, rfl⟩
                  replace hz_14 := lt_e hz_14 ex_42
                  refine lv_iinc (v := x_42) (lv' := [(7, .int x_42), (8, .long r_36), (0, .ref (h 12)), (2, .int r_2), (3, .int r_4), (4, .int r_6), (5, .int x_7), (6, .int y_8)]) X.1 X.2.1 dX6_widthBehind_135 hl (k := 7) rfl (by rw [ex_42]; rfl) (by decide) rfl (fun ls hl => ?_)
                  refine lv_goto (tgt := 34) X.1 X.2.1 dX6_widthBehind_138 (by decide) ?_
                  exact hn_15 _ (Option.some.inj hz_14).symm _ _ _ hw (lv_sub hl [2, 3, 4, 5, 6, 7, 0] rfl)
                · replace hz_14 := it_p hz_14 c_41
                  refine lv_aload_n X.1 X.2.1 dX6_widthBehind_123 rfl (lv_at hl 1 rfl) ?_
                  refine gX6_looks X hw wq_3_20 dX6_widthBehind_124 ?_
                  refine lv_iload X.1 X.2.1 dX6_widthBehind_127 (lv_at hl 6 rfl) ?_
                  obtain ⟨x_43, ex_43⟩ : ∃ y : Int32, y = y_8 + 1 := ⟨_, rfl⟩
                  replace hz_14 := lt_e hz_14 ex_43
                  refine lv_iinc (v := x_43) (lv' := [(6, .int x_43), (8, .long r_36), (0, .ref (h 12)), (2, .int r_2), (3, .int r_4), (4, .int r_6), (5, .int x_7), (7, .int y_9)]) X.1 X.2.1 dX6_widthBehind_129 hl (k := 6) rfl (by rw [ex_43]; rfl) (by decide) rfl (fun ls hl => ?_)
                  refine lv_lload X.1 X.2.1 dX6_widthBehind_132 (lv_at hl 1 rfl) ?_
                  replace hz_14 := gd_e hz_14
                  obtain ⟨g_44, hz_14⟩ := hz_14
                  refine sB2 X hw g_44 dX6_widthBehind_134 (fun H locs hw => ?_)
                  obtain ⟨b_45, eb_45⟩ : ∃ y, y = wB b_10 2 y_8.toNatClampNeg r_36 := ⟨_, rfl⟩
                  rw [← eb_45] at hw
                  replace hz_14 := lt_e hz_14 eb_45
                  obtain ⟨x_46, ex_46⟩ : ∃ y : Int32, y = y_9 + 1 := ⟨_, rfl⟩
                  replace hz_14 := lt_e hz_14 ex_46
                  refine lv_iinc (v := x_46) (lv' := [(7, .int x_46), (6, .int x_43), (8, .long r_36), (0, .ref (h 12)), (2, .int r_2), (3, .int r_4), (4, .int r_6), (5, .int x_7)]) X.1 X.2.1 dX6_widthBehind_135 hl (k := 7) rfl (by rw [ex_46]; rfl) (by decide) rfl (fun ls hl => ?_)
                  refine lv_goto (tgt := 34) X.1 X.2.1 dX6_widthBehind_138 (by decide) ?_
                  exact hn_15 _ (Option.some.inj hz_14).symm _ _ _ hw (lv_sub hl [3, 4, 5, 6, 7, 1, 0] rfl)
            · replace hz_14 := it_n hz_14 c_34
              refine lv_goto (tgt := 135) X.1 X.2.1 dX6_widthBehind_90 (by decide) ?_
              obtain ⟨x_47, ex_47⟩ : ∃ y : Int32, y = y_9 + 1 := ⟨_, rfl⟩
              replace hz_14 := lt_e hz_14 ex_47
              refine lv_iinc (v := x_47) (lv' := [(7, .int x_47), (0, .ref (h 12)), (2, .int r_2), (3, .int r_4), (4, .int r_6), (5, .int x_7), (6, .int y_8)]) X.1 X.2.1 dX6_widthBehind_135 hl (k := 6) rfl (by rw [ex_47]; rfl) (by decide) rfl (fun ls hl => ?_)
              refine lv_goto (tgt := 34) X.1 X.2.1 dX6_widthBehind_138 (by decide) ?_
              exact hn_15 _ (Option.some.inj hz_14).symm _ _ _ hw (lv_sub hl [1, 2, 3, 4, 5, 6, 0] rfl)
        · replace hz_14 := it_n hz_14 c_27
          refine lv_goto (tgt := 135) X.1 X.2.1 dX6_widthBehind_65 (by decide) ?_
          obtain ⟨x_48, ex_48⟩ : ∃ y : Int32, y = y_9 + 1 := ⟨_, rfl⟩
          replace hz_14 := lt_e hz_14 ex_48
          refine lv_iinc (v := x_48) (lv' := [(7, .int x_48), (0, .ref (h 12)), (2, .int r_2), (3, .int r_4), (4, .int r_6), (5, .int x_7), (6, .int y_8)]) X.1 X.2.1 dX6_widthBehind_135 hl (k := 6) rfl (by rw [ex_48]; rfl) (by decide) rfl (fun ls hl => ?_)
          refine lv_goto (tgt := 34) X.1 X.2.1 dX6_widthBehind_138 (by decide) ?_
          exact hn_15 _ (Option.some.inj hz_14).symm _ _ _ hw (lv_sub hl [1, 2, 3, 4, 5, 6, 0] rfl)
def m_X6_greatestWidth_L4 (σ : Int32 × Int32 × ST) : Option ((Int32 × Int32 × ST) ⊕ (Int32 × ST)) := (fun (q_24 : Int32 × Int32 × ST) => un q_24 (fun y_1 q_24 => un q_24 (fun y_2 b_3 => Option.bind (m_X2_linkCount b_3) (fun (r_15 : Int32) => if r_15 ≤ y_2 then some (.inr (y_1, b_3)) else Option.bind (m_X6_widthBehind b_3 y_2) (fun (q_21 : Int32 × ST) => un q_21 (fun r_19 b_20 => lt (if y_1 < r_19 then r_19 else y_1) (fun x_22 => lt (y_2 + 1) (fun x_23 => some (.inl (x_22, x_23, b_20)))))))))) σ
def m_X6_greatestWidth (b : ST) : Option (Int32 × ST) := Option.bind (vLoop (m_X6_greatestWidth_L4) FUEL ((0 : Int32), (0 : Int32), b)) (fun (q_25 : Int32 × ST) => un q_25 (fun j_4 b_5 => some (j_4, b_5)))
theorem yo_X6_greatestWidth : yX6_greatestWidth.cls = RX6 ∧ yX6_greatestWidth.cls ≠ "java/lang/invoke/MethodHandle" ∧ yX6_greatestWidth.cls ≠ "java/lang/invoke/VarHandle" ∧ (parseMethodDescriptor yX6_greatestWidth.desc).map (fun d => d.parameters.length) = some 0 := by decide +kernel
set_option maxHeartbeats 4000000 in
set_option maxRecDepth 100000 in
theorem c_X6_greatestWidth {l : Launch} {g : gT} {h : Nat → Nat} {b : ST} {w : Nat → ST} {r : Int32} {b' : ST} (hm : m_X6_greatestWidth b = some (r, b')) : MetI l g yX6_greatestWidth cX6_greatestWidth 3 (some .int) 5 116 79 h (cC g h (b, w)) (cC g h (b', w)) [.ref (h 12)] r := by
  refine MetI.ofX (by decide +kernel) (Nat.le_of_ble_eq_true rfl) ?_
  intro p e s m below meth c AV Q X hret ls hw hl
  replace X : Cx g p s m AV c cX6_greatestWidth RX6 3 := X
  replace hl : lv_has ls 3 [(0, .ref (h 12))] := hl
  unfold m_X6_greatestWidth at hm
  refine lv_iconst (v := 0) X.1 X.2.1 dX6_greatestWidth_0 (by decide) ?_
  refine lv_istore_n (lv' := [(1, .int (0 : Int32)), (0, .ref (h 12))]) X.1 X.2.1 dX6_greatestWidth_1 rfl hl (by decide) rfl (fun ls hl => ?_)
  refine lv_iconst (v := 0) X.1 X.2.1 dX6_greatestWidth_2 (by decide) ?_
  refine lv_istore_n (lv' := [(2, .int (0 : Int32)), (1, .int (0 : Int32)), (0, .ref (h 12))]) X.1 X.2.1 dX6_greatestWidth_3 rfl hl (by decide) rfl (fun ls hl => ?_)
  replace hm := ob_e hm
  obtain ⟨⟨j_4, b_5⟩, hL_12, hm⟩ := hm
  replace hm := un_e hm
  have J_11 : ∀ (H : Heap) (locs : List Loc) (ls : Array Slot), Wd g 79 h (cC g h (b_5, w)) s H locs → lv_has ls 3 [(1, .int j_4)] → W p l e (rW 5 116) s m AV below meth c H locs 0 0 Q (F0 m 31 ls []) := by
    intro H locs ls hw hl
    refine lv_iload_n X.1 X.2.1 dX6_greatestWidth_31 rfl (lv_at hl 0 rfl) ?_
    obtain ⟨rfl, rfl⟩ := Prod.mk.inj (Option.some.inj hm)
    exact hret _ _ _ _ hw dX6_greatestWidth_32
  refine vLoop_ind (B := (m_X6_greatestWidth_L4)) (fun σ => ∀ (H : Heap) (locs : List Loc) (ls : Array Slot), Wd g 79 h (cC g h (σ.2.2, w)) s H locs → lv_has ls 3 [(0, .ref (h 12)), (1, .int σ.1), (2, .int σ.2.1)] → W p l e (rW 5 116) s m AV below meth c H locs 0 0 Q (F0 m 4 ls [])) (fun z' => z' = (j_4, b_5)) ?_ FUEL _ _ hL_12 rfl _ _ _ hw (lv_sub hl [2, 1, 0] rfl)
  intro σ z_10 hz_7 hn_8 hx_9
  obtain ⟨y_1, y_2, b_3⟩ := σ
  intro H locs ls hw hl
  replace hw : Wd g 79 h (cC g h (b_3, w)) s H locs := hw
  replace hl : lv_has ls 3 [(0, .ref (h 12)), (1, .int y_1), (2, .int y_2)] := hl
  unfold m_X6_greatestWidth_L4 at hz_7
  replace hz_7 := un_e hz_7
  replace hz_7 := un_e hz_7
  refine lv_iload_n X.1 X.2.1 dX6_greatestWidth_4 rfl (lv_at hl 2 rfl) ?_
  refine lv_aload_n X.1 X.2.1 dX6_greatestWidth_5 rfl (lv_at hl 0 rfl) ?_
  refine gX6_net X hw wq_3_21 dX6_greatestWidth_6 ?_
  replace hz_7 := ob_e hz_7
  obtain ⟨r_15, h_14, hz_7⟩ := hz_7
  refine k_Vi (k := 1) (As := []) X hl.1 hw (c_X2_linkCount h_14) (by decide) (he_X2 g h _ _) rfl ⟨wq_23_0, wq_10_11, wq_10_12, wq_1_13, wq_10_13⟩ yo_X2_linkCount rfl ⟨Nat.le_of_ble_eq_true rfl, Nat.le_of_ble_eq_true rfl⟩ (Nat.le_of_ble_eq_true rfl) dX6_greatestWidth_9 (fun H locs hw => ?_)
  refine lv_icmp_ge (tgt := 31) X.1 X.2.1 dX6_greatestWidth_12 (by decide) (fun c_16 => ?_) (fun c_16 => ?_)
  · replace hz_7 := it_p hz_7 c_16
    obtain ⟨rfl, rfl⟩ := Prod.mk.inj (hx_9 _ (Option.some.inj hz_7).symm)
    exact J_11 _ _ _ hw (lv_sub hl [1] rfl)
  · replace hz_7 := it_n hz_7 c_16
    refine lv_iload_n X.1 X.2.1 dX6_greatestWidth_15 rfl (lv_at hl 1 rfl) ?_
    refine lv_aload_n X.1 X.2.1 dX6_greatestWidth_16 rfl (lv_at hl 0 rfl) ?_
    refine lv_iload_n X.1 X.2.1 dX6_greatestWidth_17 rfl (lv_at hl 2 rfl) ?_
    replace hz_7 := ob_e hz_7
    obtain ⟨⟨r_19, b_20⟩, h_18, hz_7⟩ := hz_7
    replace hz_7 := un_e hz_7
    refine k_Vi (k := 12) (As := [.int y_2]) X hl.1 hw (c_X6_widthBehind h_18) (by decide) (he_X6 g h _ _) rfl ⟨wq_23_1, wq_23_2, wq_23_3, wq_2_1, wq_23_4⟩ yo_X6_widthBehind rfl ⟨Nat.le_of_ble_eq_true rfl, Nat.le_of_ble_eq_true rfl⟩ (Nat.le_of_ble_eq_true rfl) dX6_greatestWidth_18 (fun H locs hw => ?_)
    refine x_max (ws' := []) X hl.1 wq_22_23 (Nat.le_of_ble_eq_true rfl) (Nat.le_of_ble_eq_true rfl) dX6_greatestWidth_21 wq_7_12 wq_7_9 wq_7_13 ?_
    refine lv_topi (fun x_22 ex_22 => ?_)
    replace hz_7 := lt_e hz_7 ex_22
    refine lv_istore_n (lv' := [(1, .int x_22), (0, .ref (h 12)), (2, .int y_2)]) X.1 X.2.1 dX6_greatestWidth_24 rfl hl (by decide) rfl (fun ls hl => ?_)
    obtain ⟨x_23, ex_23⟩ : ∃ y : Int32, y = y_2 + 1 := ⟨_, rfl⟩
    replace hz_7 := lt_e hz_7 ex_23
    refine lv_iinc (v := x_23) (lv' := [(2, .int x_23), (1, .int x_22), (0, .ref (h 12))]) X.1 X.2.1 dX6_greatestWidth_25 hl (k := 2) rfl (by rw [ex_23]; rfl) (by decide) rfl (fun ls hl => ?_)
    refine lv_goto (tgt := 4) X.1 X.2.1 dX6_greatestWidth_28 (by decide) ?_
    exact hn_8 _ (Option.some.inj hz_7).symm _ _ _ hw (lv_sub hl [2, 1, 0] rfl)
