def m_X10_otherEnd (t : ST) (x1 : Int32) (x2 : Int32) (x3 : Int32) : Option (Int32) := lt (((10 : Int32) * x1) + x2) (fun x_1 => gd (¬ (x_1 < 0 ∨ 120 ≤ x_1.toNatClampNeg)) (if (t.2.2.1 9 x_1.toNatClampNeg) = x3 then lt (((10 : Int32) * x1) + x2) (fun x_6 => gd (¬ (x_6 < 0 ∨ 120 ≤ x_6.toNatClampNeg)) (some (t.2.2.1 10 x_6.toNatClampNeg))) else lt (((10 : Int32) * x1) + x2) (fun x_4 => gd (¬ (x_4 < 0 ∨ 120 ≤ x_4.toNatClampNeg)) (some (t.2.2.1 9 x_4.toNatClampNeg)))))
theorem yo_X10_otherEnd : yX10_otherEnd.cls = RX10 ∧ yX10_otherEnd.cls ≠ "java/lang/invoke/MethodHandle" ∧ yX10_otherEnd.cls ≠ "java/lang/invoke/VarHandle" ∧ (parseMethodDescriptor yX10_otherEnd.desc).map (fun d => d.parameters.length) = some 3 := by decide +kernel
set_option maxHeartbeats 4000000 in
set_option maxRecDepth 100000 in
theorem c_X10_otherEnd {l : Launch} {g : gT} {h : Nat → Nat} {t : ST} {x1 : Int32} {x2 : Int32} {x3 : Int32} {r : Int32} (hm : m_X10_otherEnd t x1 x2 x3 = some r) : MetI l g yX10_otherEnd cX10_otherEnd 4 (some .int) 0 0 20 h (cM g h t) (cM g h t) [.ref (h 0), .int x1, .int x2, .int x3] r := by
  refine MetI.ofX (by decide +kernel) (Nat.le_of_ble_eq_true rfl) ?_
  intro p e s m below meth c AV Q X hret ls hw hl
  replace X : Cx g p s m AV c cX10_otherEnd RX10 4 := X
  replace hl : lv_has ls 4 [(0, .ref (h 0)), (1, .int x1), (2, .int x2), (3, .int x3)] := hl
  unfold m_X10_otherEnd at hm
  refine lv_aload_n X.1 X.2.1 dX10_otherEnd_0 rfl (lv_at hl 0 rfl) ?_
  refine gX10_netOnes X hw wq_5_20 dX10_otherEnd_1 ?_
  refine lv_bipush (v := 10) X.1 X.2.1 dX10_otherEnd_4 (by decide) ?_
  refine lv_iload_n X.1 X.2.1 dX10_otherEnd_6 rfl (lv_at hl 1 rfl) ?_
  refine lv_imul X.1 X.2.1 dX10_otherEnd_7 ?_
  refine lv_iload_n X.1 X.2.1 dX10_otherEnd_8 rfl (lv_at hl 2 rfl) ?_
  refine lv_iadd X.1 X.2.1 dX10_otherEnd_9 ?_
  refine lv_topi (fun x_1 ex_1 => ?_)
  replace hm := lt_e hm ex_1
  replace hm := gd_e hm
  obtain ⟨g_2, hm⟩ := hm
  refine lMA9 X hw g_2 dX10_otherEnd_10 ?_
  refine lv_iload_n X.1 X.2.1 dX10_otherEnd_11 rfl (lv_at hl 3 rfl) ?_
  refine lv_icmp_ne (tgt := 29) X.1 X.2.1 dX10_otherEnd_12 (by decide) (fun c_3 => ?_) (fun c_3 => ?_)
  · replace hm := it_n hm c_3
    refine lv_aload_n X.1 X.2.1 dX10_otherEnd_29 rfl (lv_at hl 0 rfl) ?_
    refine gX10_netOnes X hw wq_5_20 dX10_otherEnd_30 ?_
    refine lv_bipush (v := 10) X.1 X.2.1 dX10_otherEnd_33 (by decide) ?_
    refine lv_iload_n X.1 X.2.1 dX10_otherEnd_35 rfl (lv_at hl 1 rfl) ?_
    refine lv_imul X.1 X.2.1 dX10_otherEnd_36 ?_
    refine lv_iload_n X.1 X.2.1 dX10_otherEnd_37 rfl (lv_at hl 2 rfl) ?_
    refine lv_iadd X.1 X.2.1 dX10_otherEnd_38 ?_
    refine lv_topi (fun x_4 ex_4 => ?_)
    replace hm := lt_e hm ex_4
    replace hm := gd_e hm
    obtain ⟨g_5, hm⟩ := hm
    refine lMA9 X hw g_5 dX10_otherEnd_39 ?_
    obtain rfl := Option.some.inj hm
    exact hret _ _ _ _ hw dX10_otherEnd_40
  · replace hm := it_p hm c_3
    refine lv_aload_n X.1 X.2.1 dX10_otherEnd_15 rfl (lv_at hl 0 rfl) ?_
    refine gX10_netOthers X hw wq_5_21 dX10_otherEnd_16 ?_
    refine lv_bipush (v := 10) X.1 X.2.1 dX10_otherEnd_19 (by decide) ?_
    refine lv_iload_n X.1 X.2.1 dX10_otherEnd_21 rfl (lv_at hl 1 rfl) ?_
    refine lv_imul X.1 X.2.1 dX10_otherEnd_22 ?_
    refine lv_iload_n X.1 X.2.1 dX10_otherEnd_23 rfl (lv_at hl 2 rfl) ?_
    refine lv_iadd X.1 X.2.1 dX10_otherEnd_24 ?_
    refine lv_topi (fun x_6 ex_6 => ?_)
    replace hm := lt_e hm ex_6
    replace hm := gd_e hm
    obtain ⟨g_7, hm⟩ := hm
    refine lMA10 X hw g_7 dX10_otherEnd_25 ?_
    refine lv_goto (tgt := 40) X.1 X.2.1 dX10_otherEnd_26 (by decide) ?_
    obtain rfl := Option.some.inj hm
    exact hret _ _ _ _ hw dX10_otherEnd_40
def m_X10_joinsBehind_L25 (x1 : Int32) (y_1 : Int32) (y_14 : Int32) (σ : Int32 × ST) : Option ((Int32 × ST) ⊕ ((ST) ⊕ (Int32 × ST))) := (fun (q_86 : Int32 × ST) => un q_86 (fun y_26 t_27 => if (2 : Int32) ≤ y_26 then some (.inr (.inl t_27)) else Option.bind (m_X10_has t_27 x1 y_1) (fun (r_39 : Int32) => if r_39 = 0 then some (.inr (.inl t_27)) else Option.bind (m_X10_has t_27 x1 y_14) (fun (r_42 : Int32) => if r_42 = 0 then some (.inr (.inl t_27)) else Option.bind (if y_26 = 0 then lt (((10 : Int32) * x1) + y_1) (fun x_84 => gd (¬ (x_84 < 0 ∨ 120 ≤ x_84.toNatClampNeg)) (some (t_27.2.2.1 9 x_84.toNatClampNeg))) else lt (((10 : Int32) * x1) + y_1) (fun x_82 => gd (¬ (x_82 < 0 ∨ 120 ≤ x_82.toNatClampNeg)) (some (t_27.2.2.1 10 x_82.toNatClampNeg)))) (fun (j_45 : Int32) => Option.bind (m_X10_isAt t_27 x1 y_14 j_45) (fun (r_47 : Int32) => if r_47 = 0 then lt (y_26 + 1) (fun x_49 => some (.inl (x_49, t_27))) else Option.bind (m_X10_isFree t_27 x1 j_45 (2 : Int32)) (fun (r_51 : Int32) => if r_51 = 0 then lt (y_26 + 1) (fun x_53 => some (.inl (x_53, t_27))) else lt (((10 : Int32) * x1) + y_1) (fun x_54 => gd (¬ (x_54 < 0 ∨ 120 ≤ x_54.toNatClampNeg)) (lt (t_27.2.2.1 11 x_54.toNatClampNeg) (fun x_56 => lt (((10 : Int32) * x1) + y_14) (fun x_57 => gd (¬ (x_57 < 0 ∨ 120 ≤ x_57.toNatClampNeg)) (lt (t_27.2.2.1 11 x_57.toNatClampNeg) (fun x_59 => Option.bind (m_X10_otherEnd t_27 x1 y_1 j_45) (fun (r_61 : Int32) => Option.bind (m_X10_otherEnd t_27 x1 y_14 j_45) (fun (r_63 : Int32) => gd (¬ ((((10 : Int32) * x1) + y_1) < 0 ∨ 120 ≤ (((10 : Int32) * x1) + y_1).toNatClampNeg)) (lt (wA t_27 9 (((10 : Int32) * x1) + y_1).toNatClampNeg r_61) (fun t_65 => gd (¬ ((((10 : Int32) * x1) + y_1) < 0 ∨ 120 ≤ (((10 : Int32) * x1) + y_1).toNatClampNeg)) (lt (wA t_65 10 (((10 : Int32) * x1) + y_1).toNatClampNeg r_63) (fun t_67 => Option.bind (if x_56 = 0 then some (0 : Int32) else if x_59 = 0 then some (0 : Int32) else if x_56 = (1 : Int32) then if x_59 = (1 : Int32) then some (1 : Int32) else some (2 : Int32) else some (2 : Int32)) (fun (j_69 : Int32) => gd (¬ ((((10 : Int32) * x1) + y_1) < 0 ∨ 120 ≤ (((10 : Int32) * x1) + y_1).toNatClampNeg)) (lt (wA t_67 11 (((10 : Int32) * x1) + y_1).toNatClampNeg j_69) (fun t_71 => Option.bind (m_X10_drops t_71 x1 y_14) (fun (t_73 : ST) => some (.inr (.inr ((1 : Int32), t_73)))))))))))))))))))))))))) σ
def m_X10_joinsBehind_L14 (x1 : Int32) (y_1 : Int32) (σ : Int32 × ST) : Option ((Int32 × ST) ⊕ ((ST) ⊕ (Int32 × ST))) := (fun (q_90 : Int32 × ST) => un q_90 (fun y_14 t_15 => if (t_15.1 4) ≤ y_14 then some (.inr (.inl t_15)) else Option.bind (vLoop (m_X10_joinsBehind_L25 x1 y_1 y_14) FUEL ((0 : Int32), t_15)) (fun z => ex z (fun (t_28 : ST) => lt (y_14 + 1) (fun x_29 => some (.inl (x_29, t_28)))) (fun r_88 => some (.inr (.inr r_88)))))) σ
def m_X10_joinsBehind_L2 (x1 : Int32) (σ : Int32 × ST) : Option ((Int32 × ST) ⊕ ((ST) ⊕ (Int32 × ST))) := (fun (q_94 : Int32 × ST) => un q_94 (fun y_1 t_2 => if (t_2.1 4) ≤ y_1 then some (.inr (.inl t_2)) else lt (y_1 + (1 : Int32)) (fun x_13 => Option.bind (vLoop (m_X10_joinsBehind_L14 x1 y_1) FUEL (x_13, t_2)) (fun z => ex z (fun (t_16 : ST) => lt (y_1 + 1) (fun x_17 => some (.inl (x_17, t_16)))) (fun r_92 => some (.inr (.inr r_92))))))) σ
def m_X10_joinsBehind (t : ST) (x1 : Int32) : Option (Int32 × ST) := Option.bind (vLoop (m_X10_joinsBehind_L2 x1) FUEL ((0 : Int32), t)) (fun z => ex z (fun (t_3 : ST) => some ((0 : Int32), t_3)) (fun r_96 => some r_96))
theorem yo_X10_joinsBehind : yX10_joinsBehind.cls = RX10 ∧ yX10_joinsBehind.cls ≠ "java/lang/invoke/MethodHandle" ∧ yX10_joinsBehind.cls ≠ "java/lang/invoke/VarHandle" ∧ (parseMethodDescriptor yX10_joinsBehind.desc).map (fun d => d.parameters.length) = some 1 := by decide +kernel
set_option maxHeartbeats 4000000 in
set_option maxRecDepth 100000 in
theorem c_X10_joinsBehind {l : Launch} {g : gT} {h : Nat → Nat} {t : ST} {x1 : Int32} {r : Int32} {t' : ST} (hm : m_X10_joinsBehind t x1 = some (r, t')) : MetI l g yX10_joinsBehind cX10_joinsBehind 10 (some .boolean) 3 70 20 h (cM g h t) (cM g h t') [.ref (h 0), .int x1] r := by
  refine MetZ.ofX (by decide +kernel) (Nat.le_of_ble_eq_true rfl) ?_
  intro p e s m below meth c AV Q X hret ls hw hl
  replace X : Cx g p s m AV c cX10_joinsBehind RX10 10 := X
  replace hl : lv_has ls 10 [(0, .ref (h 0)), (1, .int x1)] := hl
  unfold m_X10_joinsBehind at hm
  refine lv_iconst (v := 0) X.1 X.2.1 dX10_joinsBehind_0 (by decide) ?_
  refine lv_istore_n (lv' := [(2, .int (0 : Int32)), (0, .ref (h 0)), (1, .int x1)]) X.1 X.2.1 dX10_joinsBehind_1 rfl hl (by decide) rfl (fun ls hl => ?_)
  replace hm := ob_e hm
  obtain ⟨z_95, hL_10, hm⟩ := hm
  have J_9 : ∀ (t_3 : ST), z_95 = .inl t_3 → ∀ (H : Heap) (locs : List Loc) (ls : Array Slot), Wd g 20 h (cM g h t_3) s H locs → lv_has ls 10 [] → W p l e (rW 3 70) s m AV below meth c H locs 0 0 Q (F0 m 243 ls []) := by
    intro t_3 hj
    subst hj
    replace hm := ex_l hm
    intro H locs ls hw hl
    refine lv_iconst (v := 0) X.1 X.2.1 dX10_joinsBehind_243 (by decide) ?_
    obtain ⟨rfl, rfl⟩ := Prod.mk.inj (Option.some.inj hm)
    exact hret _ _ _ _ hw dX10_joinsBehind_244 (Or.inl rfl)
  refine vLoop_ind (B := (m_X10_joinsBehind_L2 x1)) (fun σ => ∀ (H : Heap) (locs : List Loc) (ls : Array Slot), Wd g 20 h (cM g h σ.2) s H locs → lv_has ls 10 [(0, .ref (h 0)), (1, .int x1), (2, .int σ.1)] → W p l e (rW 3 70) s m AV below meth c H locs 0 0 Q (F0 m 2 ls [])) (fun z' => z' = z_95) ?_ FUEL _ _ hL_10 rfl _ _ _ hw (lv_sub hl [1, 2, 0] rfl)
  intro σ z_8 hz_5 hn_6 hx_7
  obtain ⟨y_1, t_2⟩ := σ
  intro H locs ls hw hl
  replace hw : Wd g 20 h (cM g h t_2) s H locs := hw
  replace hl : lv_has ls 10 [(0, .ref (h 0)), (1, .int x1), (2, .int y_1)] := hl
  unfold m_X10_joinsBehind_L2 at hz_5
  replace hz_5 := un_e hz_5
  refine lv_iload_n X.1 X.2.1 dX10_joinsBehind_2 rfl (lv_at hl 2 rfl) ?_
  refine lv_aload_n X.1 X.2.1 dX10_joinsBehind_3 rfl (lv_at hl 0 rfl) ?_
  refine gX10_links X hw wq_7_2 dX10_joinsBehind_4 ?_
  refine lv_icmp_ge (tgt := 243) X.1 X.2.1 dX10_joinsBehind_7 (by decide) (fun c_12 => ?_) (fun c_12 => ?_)
  · replace hz_5 := it_p hz_5 c_12
    have he_11 := hx_7 _ (Option.some.inj hz_5).symm
    exact J_9 _ he_11.symm _ _ _ hw (lv_sub hl [] rfl)
  · replace hz_5 := it_n hz_5 c_12
    refine lv_iload_n X.1 X.2.1 dX10_joinsBehind_10 rfl (lv_at hl 2 rfl) ?_
    refine lv_iconst (v := 1) X.1 X.2.1 dX10_joinsBehind_11 (by decide) ?_
    refine lv_iadd X.1 X.2.1 dX10_joinsBehind_12 ?_
    refine lv_topi (fun x_13 ex_13 => ?_)
    replace hz_5 := lt_e hz_5 ex_13
    refine lv_istore_n (lv' := [(3, .int x_13), (0, .ref (h 0)), (1, .int x1), (2, .int y_1)]) X.1 X.2.1 dX10_joinsBehind_13 rfl hl (by decide) rfl (fun ls hl => ?_)
    replace hz_5 := ob_e hz_5
    obtain ⟨z_91, hL_23, hz_5⟩ := hz_5
    have J_22 : ∀ (t_16 : ST), z_91 = .inl t_16 → ∀ (H : Heap) (locs : List Loc) (ls : Array Slot), Wd g 20 h (cM g h t_16) s H locs → lv_has ls 10 [(0, .ref (h 0)), (1, .int x1), (2, .int y_1)] → W p l e (rW 3 70) s m AV below meth c H locs 0 0 Q (F0 m 237 ls []) := by
      intro t_16 hj
      subst hj
      replace hz_5 := ex_l hz_5
      intro H locs ls hw hl
      obtain ⟨x_17, ex_17⟩ : ∃ y : Int32, y = y_1 + 1 := ⟨_, rfl⟩
      replace hz_5 := lt_e hz_5 ex_17
      refine lv_iinc (v := x_17) (lv' := [(2, .int x_17), (0, .ref (h 0)), (1, .int x1)]) X.1 X.2.1 dX10_joinsBehind_237 hl (k := 2) rfl (by rw [ex_17]; rfl) (by decide) rfl (fun ls hl => ?_)
      refine lv_goto (tgt := 2) X.1 X.2.1 dX10_joinsBehind_240 (by decide) ?_
      exact hn_6 _ (Option.some.inj hz_5).symm _ _ _ hw (lv_sub hl [1, 2, 0] rfl)
    refine vLoop_ind (B := (m_X10_joinsBehind_L14 x1 y_1)) (fun σ => ∀ (H : Heap) (locs : List Loc) (ls : Array Slot), Wd g 20 h (cM g h σ.2) s H locs → lv_has ls 10 [(0, .ref (h 0)), (1, .int x1), (2, .int y_1), (3, .int σ.1)] → W p l e (rW 3 70) s m AV below meth c H locs 0 0 Q (F0 m 14 ls [])) (fun z' => z' = z_91) ?_ FUEL _ _ hL_23 rfl _ _ _ hw (lv_sub hl [1, 2, 3, 0] rfl)
    intro σ z_21 hz_18 hn_19 hx_20
    obtain ⟨y_14, t_15⟩ := σ
    intro H locs ls hw hl
    replace hw : Wd g 20 h (cM g h t_15) s H locs := hw
    replace hl : lv_has ls 10 [(0, .ref (h 0)), (1, .int x1), (2, .int y_1), (3, .int y_14)] := hl
    unfold m_X10_joinsBehind_L14 at hz_18
    replace hz_18 := un_e hz_18
    refine lv_iload_n X.1 X.2.1 dX10_joinsBehind_14 rfl (lv_at hl 3 rfl) ?_
    refine lv_aload_n X.1 X.2.1 dX10_joinsBehind_15 rfl (lv_at hl 0 rfl) ?_
    refine gX10_links X hw wq_7_2 dX10_joinsBehind_16 ?_
    refine lv_icmp_ge (tgt := 237) X.1 X.2.1 dX10_joinsBehind_19 (by decide) (fun c_25 => ?_) (fun c_25 => ?_)
    · replace hz_18 := it_p hz_18 c_25
      have he_24 := hx_20 _ (Option.some.inj hz_18).symm
      exact J_22 _ he_24.symm _ _ _ hw (lv_sub hl [0, 1, 2] rfl)
    · replace hz_18 := it_n hz_18 c_25
      refine lv_iconst (v := 0) X.1 X.2.1 dX10_joinsBehind_22 (by decide) ?_
      refine lv_istore (lv' := [(4, .int (0 : Int32)), (0, .ref (h 0)), (1, .int x1), (2, .int y_1), (3, .int y_14)]) X.1 X.2.1 dX10_joinsBehind_23 hl (by decide) rfl (fun ls hl => ?_)
      replace hz_18 := ob_e hz_18
      obtain ⟨z_87, hL_35, hz_18⟩ := hz_18
      have J_34 : ∀ (t_28 : ST), z_87 = .inl t_28 → ∀ (H : Heap) (locs : List Loc) (ls : Array Slot), Wd g 20 h (cM g h t_28) s H locs → lv_has ls 10 [(0, .ref (h 0)), (1, .int x1), (2, .int y_1), (3, .int y_14)] → W p l e (rW 3 70) s m AV below meth c H locs 0 0 Q (F0 m 231 ls []) := by
        intro t_28 hj
        subst hj
        replace hz_18 := ex_l hz_18
        intro H locs ls hw hl
        obtain ⟨x_29, ex_29⟩ : ∃ y : Int32, y = y_14 + 1 := ⟨_, rfl⟩
        replace hz_18 := lt_e hz_18 ex_29
        refine lv_iinc (v := x_29) (lv' := [(3, .int x_29), (0, .ref (h 0)), (1, .int x1), (2, .int y_1)]) X.1 X.2.1 dX10_joinsBehind_231 hl (k := 3) rfl (by rw [ex_29]; rfl) (by decide) rfl (fun ls hl => ?_)
        refine lv_goto (tgt := 14) X.1 X.2.1 dX10_joinsBehind_234 (by decide) ?_
        exact hn_19 _ (Option.some.inj hz_18).symm _ _ _ hw (lv_sub hl [1, 2, 3, 0] rfl)
      refine vLoop_ind (B := (m_X10_joinsBehind_L25 x1 y_1 y_14)) (fun σ => ∀ (H : Heap) (locs : List Loc) (ls : Array Slot), Wd g 20 h (cM g h σ.2) s H locs → lv_has ls 10 [(0, .ref (h 0)), (1, .int x1), (2, .int y_1), (3, .int y_14), (4, .int σ.1)] → W p l e (rW 3 70) s m AV below meth c H locs 0 0 Q (F0 m 25 ls [])) (fun z' => z' = z_87) ?_ FUEL _ _ hL_35 rfl _ _ _ hw (lv_sub hl [1, 2, 3, 4, 0] rfl)
      intro σ z_33 hz_30 hn_31 hx_32
      obtain ⟨y_26, t_27⟩ := σ
      intro H locs ls hw hl
      replace hw : Wd g 20 h (cM g h t_27) s H locs := hw
      replace hl : lv_has ls 10 [(0, .ref (h 0)), (1, .int x1), (2, .int y_1), (3, .int y_14), (4, .int y_26)] := hl
      unfold m_X10_joinsBehind_L25 at hz_30
      replace hz_30 := un_e hz_30
      refine lv_iload X.1 X.2.1 dX10_joinsBehind_25 (lv_at hl 4 rfl) ?_
      refine lv_iconst (v := 2) X.1 X.2.1 dX10_joinsBehind_27 (by decide) ?_
      refine lv_icmp_ge (tgt := 231) X.1 X.2.1 dX10_joinsBehind_28 (by decide) (fun c_37 => ?_) (fun c_37 => ?_)
      · replace hz_30 := it_p hz_30 c_37
        have he_36 := hx_32 _ (Option.some.inj hz_30).symm
        exact J_34 _ he_36.symm _ _ _ hw (lv_sub hl [0, 1, 2, 3] rfl)
      · replace hz_30 := it_n hz_30 c_37
        refine lv_aload_n X.1 X.2.1 dX10_joinsBehind_31 rfl (lv_at hl 0 rfl) ?_
        refine lv_iload_n X.1 X.2.1 dX10_joinsBehind_32 rfl (lv_at hl 1 rfl) ?_
        refine lv_iload_n X.1 X.2.1 dX10_joinsBehind_33 rfl (lv_at hl 2 rfl) ?_
        replace hz_30 := ob_e hz_30
        obtain ⟨r_39, h_38, hz_30⟩ := hz_30
        refine k_Vi (k := 0) (As := [.int x1, .int y_1]) X hl.1 hw (c_X10_has h_38) (by decide) (he_X10 g h _) rfl ⟨wq_26_3, wq_26_4, wq_26_5, wq_1_5, wq_26_6⟩ yo_X10_has rfl ⟨Nat.le_of_ble_eq_true rfl, Nat.le_of_ble_eq_true rfl⟩ (Nat.le_of_ble_eq_true rfl) dX10_joinsBehind_34 (fun H locs hw => ?_)
        refine lv_if_eq (tgt := 231) X.1 X.2.1 dX10_joinsBehind_37 (by decide) (fun c_40 => ?_) (fun c_40 => ?_)
        · replace hz_30 := it_p hz_30 c_40
          have he_36 := hx_32 _ (Option.some.inj hz_30).symm
          exact J_34 _ he_36.symm _ _ _ hw (lv_sub hl [0, 1, 2, 3] rfl)
        · replace hz_30 := it_n hz_30 c_40
          refine lv_aload_n X.1 X.2.1 dX10_joinsBehind_40 rfl (lv_at hl 0 rfl) ?_
          refine lv_iload_n X.1 X.2.1 dX10_joinsBehind_41 rfl (lv_at hl 1 rfl) ?_
          refine lv_iload_n X.1 X.2.1 dX10_joinsBehind_42 rfl (lv_at hl 3 rfl) ?_
          replace hz_30 := ob_e hz_30
          obtain ⟨r_42, h_41, hz_30⟩ := hz_30
          refine k_Vi (k := 0) (As := [.int x1, .int y_14]) X hl.1 hw (c_X10_has h_41) (by decide) (he_X10 g h _) rfl ⟨wq_26_3, wq_26_4, wq_26_5, wq_1_5, wq_26_6⟩ yo_X10_has rfl ⟨Nat.le_of_ble_eq_true rfl, Nat.le_of_ble_eq_true rfl⟩ (Nat.le_of_ble_eq_true rfl) dX10_joinsBehind_43 (fun H locs hw => ?_)
          refine lv_if_eq (tgt := 231) X.1 X.2.1 dX10_joinsBehind_46 (by decide) (fun c_43 => ?_) (fun c_43 => ?_)
          · replace hz_30 := it_p hz_30 c_43
            have he_36 := hx_32 _ (Option.some.inj hz_30).symm
            exact J_34 _ he_36.symm _ _ _ hw (lv_sub hl [0, 1, 2, 3] rfl)
          · replace hz_30 := it_n hz_30 c_43
            refine lv_iload X.1 X.2.1 dX10_joinsBehind_49 (lv_at hl 4 rfl) ?_
            replace hz_30 := ob_e hz_30
            obtain ⟨j_45, hg_80, hz_30⟩ := hz_30
            have J_81 : ∀ (H : Heap) (locs : List Loc) (ls : Array Slot), Wd g 20 h (cM g h t_27) s H locs → lv_has ls 10 [(0, .ref (h 0)), (1, .int x1), (2, .int y_1), (3, .int y_14), (4, .int y_26)] → W p l e (rW 3 70) s m AV below meth c H locs 0 0 Q (F0 m 79 ls [.int j_45]) := by
              intro H locs ls hw hl
              refine lv_istore (lv' := [(5, .int j_45), (0, .ref (h 0)), (1, .int x1), (2, .int y_1), (3, .int y_14), (4, .int y_26)]) X.1 X.2.1 dX10_joinsBehind_79 hl (by decide) rfl (fun ls hl => ?_)
              refine lv_aload_n X.1 X.2.1 dX10_joinsBehind_81 rfl (lv_at hl 1 rfl) ?_
              refine lv_iload_n X.1 X.2.1 dX10_joinsBehind_82 rfl (lv_at hl 2 rfl) ?_
              refine lv_iload_n X.1 X.2.1 dX10_joinsBehind_83 rfl (lv_at hl 4 rfl) ?_
              refine lv_iload X.1 X.2.1 dX10_joinsBehind_84 (lv_at hl 0 rfl) ?_
              replace hz_30 := ob_e hz_30
              obtain ⟨r_47, h_46, hz_30⟩ := hz_30
              refine k_Vi (k := 0) (As := [.int x1, .int y_14, .int j_45]) X hl.1 hw (c_X10_isAt h_46) (by decide) (he_X10 g h _) rfl ⟨wq_26_19, wq_26_20, wq_26_21, wq_1_5, wq_26_22⟩ yo_X10_isAt rfl ⟨Nat.le_of_ble_eq_true rfl, Nat.le_of_ble_eq_true rfl⟩ (Nat.le_of_ble_eq_true rfl) dX10_joinsBehind_86 (fun H locs hw => ?_)
              refine lv_if_eq (tgt := 225) X.1 X.2.1 dX10_joinsBehind_89 (by decide) (fun c_48 => ?_) (fun c_48 => ?_)
              · replace hz_30 := it_p hz_30 c_48
                obtain ⟨x_49, ex_49⟩ : ∃ y : Int32, y = y_26 + 1 := ⟨_, rfl⟩
                replace hz_30 := lt_e hz_30 ex_49
                refine lv_iinc (v := x_49) (lv' := [(4, .int x_49), (5, .int j_45), (0, .ref (h 0)), (1, .int x1), (2, .int y_1), (3, .int y_14)]) X.1 X.2.1 dX10_joinsBehind_225 hl (k := 5) rfl (by rw [ex_49]; rfl) (by decide) rfl (fun ls hl => ?_)
                refine lv_goto (tgt := 25) X.1 X.2.1 dX10_joinsBehind_228 (by decide) ?_
                exact hn_31 _ (Option.some.inj hz_30).symm _ _ _ hw (lv_sub hl [2, 3, 4, 5, 0] rfl)
              · replace hz_30 := it_n hz_30 c_48
                refine lv_aload_n X.1 X.2.1 dX10_joinsBehind_92 rfl (lv_at hl 1 rfl) ?_
                refine lv_iload_n X.1 X.2.1 dX10_joinsBehind_93 rfl (lv_at hl 2 rfl) ?_
                refine lv_iload X.1 X.2.1 dX10_joinsBehind_94 (lv_at hl 0 rfl) ?_
                refine lv_iconst (v := 2) X.1 X.2.1 dX10_joinsBehind_96 (by decide) ?_
                replace hz_30 := ob_e hz_30
                obtain ⟨r_51, h_50, hz_30⟩ := hz_30
                refine k_Vi (k := 0) (As := [.int x1, .int j_45, .int (2 : Int32)]) X hl.1 hw (c_X10_isFree h_50) (by decide) (he_X10 g h _) rfl ⟨wq_27_3, wq_27_4, wq_27_5, wq_1_5, wq_27_6⟩ yo_X10_isFree rfl ⟨Nat.le_of_ble_eq_true rfl, Nat.le_of_ble_eq_true rfl⟩ (Nat.le_of_ble_eq_true rfl) dX10_joinsBehind_97 (fun H locs hw => ?_)
                refine lv_if_eq (tgt := 225) X.1 X.2.1 dX10_joinsBehind_100 (by decide) (fun c_52 => ?_) (fun c_52 => ?_)
                · replace hz_30 := it_p hz_30 c_52
                  obtain ⟨x_53, ex_53⟩ : ∃ y : Int32, y = y_26 + 1 := ⟨_, rfl⟩
                  replace hz_30 := lt_e hz_30 ex_53
                  refine lv_iinc (v := x_53) (lv' := [(4, .int x_53), (5, .int j_45), (0, .ref (h 0)), (1, .int x1), (2, .int y_1), (3, .int y_14)]) X.1 X.2.1 dX10_joinsBehind_225 hl (k := 5) rfl (by rw [ex_53]; rfl) (by decide) rfl (fun ls hl => ?_)
                  refine lv_goto (tgt := 25) X.1 X.2.1 dX10_joinsBehind_228 (by decide) ?_
                  exact hn_31 _ (Option.some.inj hz_30).symm _ _ _ hw (lv_sub hl [2, 3, 4, 5, 0] rfl)
                · replace hz_30 := it_n hz_30 c_52
                  refine lv_aload_n X.1 X.2.1 dX10_joinsBehind_103 rfl (lv_at hl 1 rfl) ?_
                  refine gX10_netChances X hw wq_5_22 dX10_joinsBehind_104 ?_
                  refine lv_bipush (v := 10) X.1 X.2.1 dX10_joinsBehind_107 (by decide) ?_
                  refine lv_iload_n X.1 X.2.1 dX10_joinsBehind_109 rfl (lv_at hl 2 rfl) ?_
                  refine lv_imul X.1 X.2.1 dX10_joinsBehind_110 ?_
                  refine lv_iload_n X.1 X.2.1 dX10_joinsBehind_111 rfl (lv_at hl 3 rfl) ?_
                  refine lv_iadd X.1 X.2.1 dX10_joinsBehind_112 ?_
                  refine lv_topi (fun x_54 ex_54 => ?_)
                  replace hz_30 := lt_e hz_30 ex_54
                  replace hz_30 := gd_e hz_30
                  obtain ⟨g_55, hz_30⟩ := hz_30
                  refine lMA11 X hw g_55 dX10_joinsBehind_113 ?_
                  refine lv_topi (fun x_56 ex_56 => ?_)
                  replace hz_30 := lt_e hz_30 ex_56
                  refine lv_istore (lv' := [(6, .int x_56), (5, .int j_45), (0, .ref (h 0)), (1, .int x1), (2, .int y_1), (3, .int y_14), (4, .int y_26)]) X.1 X.2.1 dX10_joinsBehind_114 hl (by decide) rfl (fun ls hl => ?_)
                  refine lv_aload_n X.1 X.2.1 dX10_joinsBehind_116 rfl (lv_at hl 2 rfl) ?_
                  refine gX10_netChances X hw wq_5_22 dX10_joinsBehind_117 ?_
                  refine lv_bipush (v := 10) X.1 X.2.1 dX10_joinsBehind_120 (by decide) ?_
                  refine lv_iload_n X.1 X.2.1 dX10_joinsBehind_122 rfl (lv_at hl 3 rfl) ?_
                  refine lv_imul X.1 X.2.1 dX10_joinsBehind_123 ?_
                  refine lv_iload_n X.1 X.2.1 dX10_joinsBehind_124 rfl (lv_at hl 5 rfl) ?_
                  refine lv_iadd X.1 X.2.1 dX10_joinsBehind_125 ?_
                  refine lv_topi (fun x_57 ex_57 => ?_)
                  replace hz_30 := lt_e hz_30 ex_57
                  replace hz_30 := gd_e hz_30
                  obtain ⟨g_58, hz_30⟩ := hz_30
                  refine lMA11 X hw g_58 dX10_joinsBehind_126 ?_
                  refine lv_topi (fun x_59 ex_59 => ?_)
                  replace hz_30 := lt_e hz_30 ex_59
                  refine lv_istore (lv' := [(7, .int x_59), (6, .int x_56), (5, .int j_45), (0, .ref (h 0)), (1, .int x1), (2, .int y_1), (3, .int y_14), (4, .int y_26)]) X.1 X.2.1 dX10_joinsBehind_127 hl (by decide) rfl (fun ls hl => ?_)
                  refine lv_aload_n X.1 X.2.1 dX10_joinsBehind_129 rfl (lv_at hl 3 rfl) ?_
                  refine lv_iload_n X.1 X.2.1 dX10_joinsBehind_130 rfl (lv_at hl 4 rfl) ?_
                  refine lv_iload_n X.1 X.2.1 dX10_joinsBehind_131 rfl (lv_at hl 5 rfl) ?_
                  refine lv_iload X.1 X.2.1 dX10_joinsBehind_132 (lv_at hl 2 rfl) ?_
                  replace hz_30 := ob_e hz_30
                  obtain ⟨r_61, h_60, hz_30⟩ := hz_30
                  refine k_Vi (k := 0) (As := [.int x1, .int y_1, .int j_45]) X hl.1 hw (c_X10_otherEnd h_60) (by decide) (he_X10 g h _) rfl ⟨wq_27_15, wq_27_16, wq_27_17, wq_1_5, wq_27_18⟩ yo_X10_otherEnd rfl ⟨Nat.le_of_ble_eq_true rfl, Nat.le_of_ble_eq_true rfl⟩ (Nat.le_of_ble_eq_true rfl) dX10_joinsBehind_134 (fun H locs hw => ?_)
                  refine lv_istore (lv' := [(8, .int r_61), (7, .int x_59), (6, .int x_56), (5, .int j_45), (0, .ref (h 0)), (1, .int x1), (2, .int y_1), (3, .int y_14), (4, .int y_26)]) X.1 X.2.1 dX10_joinsBehind_137 hl (by decide) rfl (fun ls hl => ?_)
                  refine lv_aload_n X.1 X.2.1 dX10_joinsBehind_139 rfl (lv_at hl 4 rfl) ?_
                  refine lv_iload_n X.1 X.2.1 dX10_joinsBehind_140 rfl (lv_at hl 5 rfl) ?_
                  refine lv_iload_n X.1 X.2.1 dX10_joinsBehind_141 rfl (lv_at hl 7 rfl) ?_
                  refine lv_iload X.1 X.2.1 dX10_joinsBehind_142 (lv_at hl 3 rfl) ?_
                  replace hz_30 := ob_e hz_30
                  obtain ⟨r_63, h_62, hz_30⟩ := hz_30
                  refine k_Vi (k := 0) (As := [.int x1, .int y_14, .int j_45]) X hl.1 hw (c_X10_otherEnd h_62) (by decide) (he_X10 g h _) rfl ⟨wq_27_15, wq_27_16, wq_27_17, wq_1_5, wq_27_18⟩ yo_X10_otherEnd rfl ⟨Nat.le_of_ble_eq_true rfl, Nat.le_of_ble_eq_true rfl⟩ (Nat.le_of_ble_eq_true rfl) dX10_joinsBehind_144 (fun H locs hw => ?_)
                  refine lv_istore (lv' := [(9, .int r_63), (8, .int r_61), (7, .int x_59), (6, .int x_56), (5, .int j_45), (0, .ref (h 0)), (1, .int x1), (2, .int y_1), (3, .int y_14), (4, .int y_26)]) X.1 X.2.1 dX10_joinsBehind_147 hl (by decide) rfl (fun ls hl => ?_)
                  refine lv_aload_n X.1 X.2.1 dX10_joinsBehind_149 rfl (lv_at hl 5 rfl) ?_
                  refine gX10_netOnes X hw wq_5_20 dX10_joinsBehind_150 ?_
                  refine lv_bipush (v := 10) X.1 X.2.1 dX10_joinsBehind_153 (by decide) ?_
                  refine lv_iload_n X.1 X.2.1 dX10_joinsBehind_155 rfl (lv_at hl 6 rfl) ?_
                  refine lv_imul X.1 X.2.1 dX10_joinsBehind_156 ?_
                  refine lv_iload_n X.1 X.2.1 dX10_joinsBehind_157 rfl (lv_at hl 7 rfl) ?_
                  refine lv_iadd X.1 X.2.1 dX10_joinsBehind_158 ?_
                  refine lv_iload X.1 X.2.1 dX10_joinsBehind_159 (lv_at hl 1 rfl) ?_
                  replace hz_30 := gd_e hz_30
                  obtain ⟨g_64, hz_30⟩ := hz_30
                  refine sMA9 X hw g_64 dX10_joinsBehind_161 (fun H locs hw => ?_)
                  obtain ⟨t_65, et_65⟩ : ∃ y, y = wA t_27 9 (((10 : Int32) * x1) + y_1).toNatClampNeg r_61 := ⟨_, rfl⟩
                  rw [← et_65] at hw
                  replace hz_30 := lt_e hz_30 et_65
                  refine lv_aload_n X.1 X.2.1 dX10_joinsBehind_162 rfl (lv_at hl 5 rfl) ?_
                  refine gX10_netOthers X hw wq_5_21 dX10_joinsBehind_163 ?_
                  refine lv_bipush (v := 10) X.1 X.2.1 dX10_joinsBehind_166 (by decide) ?_
                  refine lv_iload_n X.1 X.2.1 dX10_joinsBehind_168 rfl (lv_at hl 6 rfl) ?_
                  refine lv_imul X.1 X.2.1 dX10_joinsBehind_169 ?_
                  refine lv_iload_n X.1 X.2.1 dX10_joinsBehind_170 rfl (lv_at hl 7 rfl) ?_
                  refine lv_iadd X.1 X.2.1 dX10_joinsBehind_171 ?_
                  refine lv_iload X.1 X.2.1 dX10_joinsBehind_172 (lv_at hl 0 rfl) ?_
                  replace hz_30 := gd_e hz_30
                  obtain ⟨g_66, hz_30⟩ := hz_30
                  refine sMA10 X hw g_66 dX10_joinsBehind_174 (fun H locs hw => ?_)
                  obtain ⟨t_67, et_67⟩ : ∃ y, y = wA t_65 10 (((10 : Int32) * x1) + y_1).toNatClampNeg r_63 := ⟨_, rfl⟩
                  rw [← et_67] at hw
                  replace hz_30 := lt_e hz_30 et_67
                  refine lv_aload_n X.1 X.2.1 dX10_joinsBehind_175 rfl (lv_at hl 5 rfl) ?_
                  refine gX10_netChances X hw wq_5_22 dX10_joinsBehind_176 ?_
                  refine lv_bipush (v := 10) X.1 X.2.1 dX10_joinsBehind_179 (by decide) ?_
                  refine lv_iload_n X.1 X.2.1 dX10_joinsBehind_181 rfl (lv_at hl 6 rfl) ?_
                  refine lv_imul X.1 X.2.1 dX10_joinsBehind_182 ?_
                  refine lv_iload_n X.1 X.2.1 dX10_joinsBehind_183 rfl (lv_at hl 7 rfl) ?_
                  refine lv_iadd X.1 X.2.1 dX10_joinsBehind_184 ?_
                  refine lv_iload X.1 X.2.1 dX10_joinsBehind_185 (lv_at hl 3 rfl) ?_
                  replace hz_30 := ob_e hz_30
                  obtain ⟨j_69, hg_75, hz_30⟩ := hz_30
                  have J_76 : ∀ (H : Heap) (locs : List Loc) (ls : Array Slot), Wd g 20 h (cM g h t_67) s H locs → lv_has ls 10 [(0, .ref (h 0)), (1, .int x1), (3, .int y_14)] → W p l e (rW 3 70) s m AV below meth c H locs 0 0 Q (F0 m 216 ls [.int j_69, .int (((10 : Int32) * x1) + y_1), .ref (h 14)]) := by
                    intro H locs ls hw hl
                    replace hz_30 := gd_e hz_30
                    obtain ⟨g_70, hz_30⟩ := hz_30
                    refine sMA11 X hw g_70 dX10_joinsBehind_216 (fun H locs hw => ?_)
                    obtain ⟨t_71, et_71⟩ : ∃ y, y = wA t_67 11 (((10 : Int32) * x1) + y_1).toNatClampNeg j_69 := ⟨_, rfl⟩
                    rw [← et_71] at hw
                    replace hz_30 := lt_e hz_30 et_71
                    refine lv_aload_n X.1 X.2.1 dX10_joinsBehind_217 rfl (lv_at hl 0 rfl) ?_
                    refine lv_iload_n X.1 X.2.1 dX10_joinsBehind_218 rfl (lv_at hl 1 rfl) ?_
                    refine lv_iload_n X.1 X.2.1 dX10_joinsBehind_219 rfl (lv_at hl 2 rfl) ?_
                    replace hz_30 := ob_e hz_30
                    obtain ⟨t_73, h_72, hz_30⟩ := hz_30
                    refine k_Vv (k := 0) (As := [.int x1, .int y_14]) X hl.1 hw (c_X10_drops h_72) (by decide) (he_X10 g h _) rfl ⟨wq_26_7, wq_26_8, wq_26_9, wq_1_5, wq_26_10⟩ yo_X10_drops rfl ⟨Nat.le_of_ble_eq_true rfl, Nat.le_of_ble_eq_true rfl⟩ (Nat.le_of_ble_eq_true rfl) dX10_joinsBehind_220 (fun H locs hw => ?_)
                    refine lv_iconst (v := 1) X.1 X.2.1 dX10_joinsBehind_223 (by decide) ?_
                    have he_36 := hx_32 _ (Option.some.inj hz_30).symm
                    subst he_36
                    replace hz_18 := ex_r hz_18
                    have he_24 := hx_20 _ (Option.some.inj hz_18).symm
                    subst he_24
                    replace hz_5 := ex_r hz_5
                    have he_11 := hx_7 _ (Option.some.inj hz_5).symm
                    subst he_11
                    replace hm := ex_r hm
                    obtain ⟨rfl, rfl⟩ := Prod.mk.inj (Option.some.inj hm)
                    exact hret _ _ _ _ hw dX10_joinsBehind_224 (Or.inr rfl)
                  refine lv_if_eq (tgt := 195) X.1 X.2.1 dX10_joinsBehind_187 (by decide) (fun c_68 => ?_) (fun c_68 => ?_)
                  · replace hg_75 := it_p hg_75 c_68
                    refine lv_iconst (v := 0) X.1 X.2.1 dX10_joinsBehind_195 (by decide) ?_
                    refine lv_goto (tgt := 216) X.1 X.2.1 dX10_joinsBehind_196 (by decide) ?_
                    obtain rfl := Option.some.inj hg_75
                    exact J_76 _ _ _ hw (lv_sub hl [5, 6, 8] rfl)
                  · replace hg_75 := it_n hg_75 c_68
                    refine lv_iload X.1 X.2.1 dX10_joinsBehind_190 (lv_at hl 2 rfl) ?_
                    refine lv_if_ne (tgt := 199) X.1 X.2.1 dX10_joinsBehind_192 (by decide) (fun c_77 => ?_) (fun c_77 => ?_)
                    · replace hg_75 := it_n hg_75 c_77
                      refine lv_iload X.1 X.2.1 dX10_joinsBehind_199 (lv_at hl 3 rfl) ?_
                      refine lv_iconst (v := 1) X.1 X.2.1 dX10_joinsBehind_201 (by decide) ?_
                      refine lv_icmp_ne (tgt := 215) X.1 X.2.1 dX10_joinsBehind_202 (by decide) (fun c_78 => ?_) (fun c_78 => ?_)
                      · replace hg_75 := it_n hg_75 c_78
                        refine lv_iconst (v := 2) X.1 X.2.1 dX10_joinsBehind_215 (by decide) ?_
                        obtain rfl := Option.some.inj hg_75
                        exact J_76 _ _ _ hw (lv_sub hl [5, 6, 8] rfl)
                      · replace hg_75 := it_p hg_75 c_78
                        refine lv_iload X.1 X.2.1 dX10_joinsBehind_205 (lv_at hl 2 rfl) ?_
                        refine lv_iconst (v := 1) X.1 X.2.1 dX10_joinsBehind_207 (by decide) ?_
                        refine lv_icmp_ne (tgt := 215) X.1 X.2.1 dX10_joinsBehind_208 (by decide) (fun c_79 => ?_) (fun c_79 => ?_)
                        · replace hg_75 := it_n hg_75 c_79
                          refine lv_iconst (v := 2) X.1 X.2.1 dX10_joinsBehind_215 (by decide) ?_
                          obtain rfl := Option.some.inj hg_75
                          exact J_76 _ _ _ hw (lv_sub hl [5, 6, 8] rfl)
                        · replace hg_75 := it_p hg_75 c_79
                          refine lv_iconst (v := 1) X.1 X.2.1 dX10_joinsBehind_211 (by decide) ?_
                          refine lv_goto (tgt := 216) X.1 X.2.1 dX10_joinsBehind_212 (by decide) ?_
                          obtain rfl := Option.some.inj hg_75
                          exact J_76 _ _ _ hw (lv_sub hl [5, 6, 8] rfl)
                    · replace hg_75 := it_p hg_75 c_77
                      refine lv_iconst (v := 0) X.1 X.2.1 dX10_joinsBehind_195 (by decide) ?_
                      refine lv_goto (tgt := 216) X.1 X.2.1 dX10_joinsBehind_196 (by decide) ?_
                      obtain rfl := Option.some.inj hg_75
                      exact J_76 _ _ _ hw (lv_sub hl [5, 6, 8] rfl)
            refine lv_if_ne (tgt := 68) X.1 X.2.1 dX10_joinsBehind_51 (by decide) (fun c_44 => ?_) (fun c_44 => ?_)
            · replace hg_80 := it_n hg_80 c_44
              refine lv_aload_n X.1 X.2.1 dX10_joinsBehind_68 rfl (lv_at hl 0 rfl) ?_
              refine gX10_netOthers X hw wq_5_21 dX10_joinsBehind_69 ?_
              refine lv_bipush (v := 10) X.1 X.2.1 dX10_joinsBehind_72 (by decide) ?_
              refine lv_iload_n X.1 X.2.1 dX10_joinsBehind_74 rfl (lv_at hl 1 rfl) ?_
              refine lv_imul X.1 X.2.1 dX10_joinsBehind_75 ?_
              refine lv_iload_n X.1 X.2.1 dX10_joinsBehind_76 rfl (lv_at hl 2 rfl) ?_
              refine lv_iadd X.1 X.2.1 dX10_joinsBehind_77 ?_
              refine lv_topi (fun x_82 ex_82 => ?_)
              replace hg_80 := lt_e hg_80 ex_82
              replace hg_80 := gd_e hg_80
              obtain ⟨g_83, hg_80⟩ := hg_80
              refine lMA10 X hw g_83 dX10_joinsBehind_78 ?_
              obtain rfl := Option.some.inj hg_80
              exact J_81 _ _ _ hw (lv_sub hl [0, 1, 2, 3, 4] rfl)
            · replace hg_80 := it_p hg_80 c_44
              refine lv_aload_n X.1 X.2.1 dX10_joinsBehind_54 rfl (lv_at hl 0 rfl) ?_
              refine gX10_netOnes X hw wq_5_20 dX10_joinsBehind_55 ?_
              refine lv_bipush (v := 10) X.1 X.2.1 dX10_joinsBehind_58 (by decide) ?_
              refine lv_iload_n X.1 X.2.1 dX10_joinsBehind_60 rfl (lv_at hl 1 rfl) ?_
              refine lv_imul X.1 X.2.1 dX10_joinsBehind_61 ?_
              refine lv_iload_n X.1 X.2.1 dX10_joinsBehind_62 rfl (lv_at hl 2 rfl) ?_
              refine lv_iadd X.1 X.2.1 dX10_joinsBehind_63 ?_
              refine lv_topi (fun x_84 ex_84 => ?_)
              replace hg_80 := lt_e hg_80 ex_84
              replace hg_80 := gd_e hg_80
              obtain ⟨g_85, hg_80⟩ := hg_80
              refine lMA9 X hw g_85 dX10_joinsBehind_64 ?_
              refine lv_goto (tgt := 79) X.1 X.2.1 dX10_joinsBehind_65 (by decide) ?_
              obtain rfl := Option.some.inj hg_80
              exact J_81 _ _ _ hw (lv_sub hl [0, 1, 2, 3, 4] rfl)
def m_X10_tidies_L2 (x1 : Int32) (σ : Int32 × ST) : Option ((Int32 × ST) ⊕ (ST)) := (fun (q_32 : Int32 × ST) => un q_32 (fun y_1 t_2 => if y_1 = 0 then some (.inr t_2) else Option.bind (m_X10_dropsOwn t_2 x1) (fun (q_15 : Int32 × ST) => un q_15 (fun r_13 t_14 => if r_13 = 0 then Option.bind (m_X10_joinsBeside t_14 x1) (fun (q_20 : Int32 × ST) => un q_20 (fun r_18 t_19 => if r_18 = 0 then Option.bind (m_X10_dropsEnds t_19 x1) (fun (q_25 : Int32 × ST) => un q_25 (fun r_23 t_24 => if r_23 = 0 then Option.bind (m_X10_joinsBehind t_24 x1) (fun (q_30 : Int32 × ST) => un q_30 (fun r_28 t_29 => if r_28 = 0 then some (.inl ((0 : Int32), t_29)) else some (.inl ((1 : Int32), t_29)))) else some (.inl ((1 : Int32), t_24)))) else some (.inl ((1 : Int32), t_19)))) else some (.inl ((1 : Int32), t_14)))))) σ
def m_X10_tidies (t : ST) (x1 : Int32) : Option (ST) := Option.bind (vLoop (m_X10_tidies_L2 x1) FUEL ((1 : Int32), t)) (fun (t_3 : ST) => some t_3)
theorem yo_X10_tidies : yX10_tidies.cls = RX10 ∧ yX10_tidies.cls ≠ "java/lang/invoke/MethodHandle" ∧ yX10_tidies.cls ≠ "java/lang/invoke/VarHandle" ∧ (parseMethodDescriptor yX10_tidies.desc).map (fun d => d.parameters.length) = some 1 := by decide +kernel
set_option maxHeartbeats 4000000 in
set_option maxRecDepth 100000 in
theorem c_X10_tidies {l : Launch} {g : gT} {h : Nat → Nat} {t : ST} {x1 : Int32} {t' : ST} (hm : m_X10_tidies t x1 = some (t')) : MetV l g yX10_tidies cX10_tidies 3 none 4 99 20 h (cM g h t) (cM g h t') [.ref (h 0), .int x1] := by
  refine MetV.ofX (by decide +kernel) (Nat.le_of_ble_eq_true rfl) ?_
  intro p e s m below meth c AV Q X hret ls hw hl
  replace X : Cx g p s m AV c cX10_tidies RX10 3 := X
  replace hl : lv_has ls 3 [(0, .ref (h 0)), (1, .int x1)] := hl
  unfold m_X10_tidies at hm
  refine lv_iconst (v := 1) X.1 X.2.1 dX10_tidies_0 (by decide) ?_
  refine lv_istore_n (lv' := [(2, .int (1 : Int32)), (0, .ref (h 0)), (1, .int x1)]) X.1 X.2.1 dX10_tidies_1 rfl hl (by decide) rfl (fun ls hl => ?_)
  replace hm := ob_e hm
  obtain ⟨t_3, hL_9, hm⟩ := hm
  have J_8 : ∀ (H : Heap) (locs : List Loc) (ls : Array Slot), Wd g 20 h (cM g h t_3) s H locs → lv_has ls 3 [] → W p l e (rW 4 99) s m AV below meth c H locs 0 0 Q (F0 m 47 ls []) := by
    intro H locs ls hw hl
    obtain rfl := Option.some.inj hm
    exact hret _ _ _ _ hw dX10_tidies_47
  refine vLoop_ind (B := (m_X10_tidies_L2 x1)) (fun σ => ∀ (H : Heap) (locs : List Loc) (ls : Array Slot), Wd g 20 h (cM g h σ.2) s H locs → lv_has ls 3 [(0, .ref (h 0)), (1, .int x1), (2, .int σ.1)] → W p l e (rW 4 99) s m AV below meth c H locs 0 0 Q (F0 m 2 ls [])) (fun z' => z' = t_3) ?_ FUEL _ _ hL_9 rfl _ _ _ hw (lv_sub hl [1, 2, 0] rfl)
  intro σ z_7 hz_4 hn_5 hx_6
  obtain ⟨y_1, t_2⟩ := σ
  intro H locs ls hw hl
  replace hw : Wd g 20 h (cM g h t_2) s H locs := hw
  replace hl : lv_has ls 3 [(0, .ref (h 0)), (1, .int x1), (2, .int y_1)] := hl
  unfold m_X10_tidies_L2 at hz_4
  replace hz_4 := un_e hz_4
  refine lv_iload_n X.1 X.2.1 dX10_tidies_2 rfl (lv_at hl 2 rfl) ?_
  refine lv_if_eq (tgt := 47) X.1 X.2.1 dX10_tidies_3 (by decide) (fun c_11 => ?_) (fun c_11 => ?_)
  · replace hz_4 := it_p hz_4 c_11
    obtain rfl := hx_6 _ (Option.some.inj hz_4).symm
    exact J_8 _ _ _ hw (lv_sub hl [] rfl)
  · replace hz_4 := it_n hz_4 c_11
    refine lv_aload_n X.1 X.2.1 dX10_tidies_6 rfl (lv_at hl 0 rfl) ?_
    refine lv_iload_n X.1 X.2.1 dX10_tidies_7 rfl (lv_at hl 1 rfl) ?_
    replace hz_4 := ob_e hz_4
    obtain ⟨⟨r_13, t_14⟩, h_12, hz_4⟩ := hz_4
    replace hz_4 := un_e hz_4
    refine k_Vi (k := 0) (As := [.int x1]) X hl.1 hw (c_X10_dropsOwn h_12) (by decide) (he_X10 g h _) rfl ⟨wq_25_23, wq_26_0, wq_26_1, wq_1_5, wq_26_2⟩ yo_X10_dropsOwn rfl ⟨Nat.le_of_ble_eq_true rfl, Nat.le_of_ble_eq_true rfl⟩ (Nat.le_of_ble_eq_true rfl) dX10_tidies_8 (fun H locs hw => ?_)
    refine lv_if_ne (tgt := 38) X.1 X.2.1 dX10_tidies_11 (by decide) (fun c_16 => ?_) (fun c_16 => ?_)
    · replace hz_4 := it_n hz_4 c_16
      refine lv_iconst (v := 1) X.1 X.2.1 dX10_tidies_38 (by decide) ?_
      refine lv_goto (tgt := 43) X.1 X.2.1 dX10_tidies_39 (by decide) ?_
      refine lv_istore_n (lv' := [(2, .int (1 : Int32)), (0, .ref (h 0)), (1, .int x1)]) X.1 X.2.1 dX10_tidies_43 rfl hl (by decide) rfl (fun ls hl => ?_)
      refine lv_goto (tgt := 2) X.1 X.2.1 dX10_tidies_44 (by decide) ?_
      exact hn_5 _ (Option.some.inj hz_4).symm _ _ _ hw (lv_sub hl [1, 2, 0] rfl)
    · replace hz_4 := it_p hz_4 c_16
      refine lv_aload_n X.1 X.2.1 dX10_tidies_14 rfl (lv_at hl 0 rfl) ?_
      refine lv_iload_n X.1 X.2.1 dX10_tidies_15 rfl (lv_at hl 1 rfl) ?_
      replace hz_4 := ob_e hz_4
      obtain ⟨⟨r_18, t_19⟩, h_17, hz_4⟩ := hz_4
      replace hz_4 := un_e hz_4
      refine k_Vi (k := 0) (As := [.int x1]) X hl.1 hw (c_X10_joinsBeside h_17) (by decide) (he_X10 g h _) rfl ⟨wq_26_11, wq_26_12, wq_26_13, wq_1_5, wq_26_14⟩ yo_X10_joinsBeside rfl ⟨Nat.le_of_ble_eq_true rfl, Nat.le_of_ble_eq_true rfl⟩ (Nat.le_of_ble_eq_true rfl) dX10_tidies_16 (fun H locs hw => ?_)
      refine lv_if_ne (tgt := 38) X.1 X.2.1 dX10_tidies_19 (by decide) (fun c_21 => ?_) (fun c_21 => ?_)
      · replace hz_4 := it_n hz_4 c_21
        refine lv_iconst (v := 1) X.1 X.2.1 dX10_tidies_38 (by decide) ?_
        refine lv_goto (tgt := 43) X.1 X.2.1 dX10_tidies_39 (by decide) ?_
        refine lv_istore_n (lv' := [(2, .int (1 : Int32)), (0, .ref (h 0)), (1, .int x1)]) X.1 X.2.1 dX10_tidies_43 rfl hl (by decide) rfl (fun ls hl => ?_)
        refine lv_goto (tgt := 2) X.1 X.2.1 dX10_tidies_44 (by decide) ?_
        exact hn_5 _ (Option.some.inj hz_4).symm _ _ _ hw (lv_sub hl [1, 2, 0] rfl)
      · replace hz_4 := it_p hz_4 c_21
        refine lv_aload_n X.1 X.2.1 dX10_tidies_22 rfl (lv_at hl 0 rfl) ?_
        refine lv_iload_n X.1 X.2.1 dX10_tidies_23 rfl (lv_at hl 1 rfl) ?_
        replace hz_4 := ob_e hz_4
        obtain ⟨⟨r_23, t_24⟩, h_22, hz_4⟩ := hz_4
        replace hz_4 := un_e hz_4
        refine k_Vi (k := 0) (As := [.int x1]) X hl.1 hw (c_X10_dropsEnds h_22) (by decide) (he_X10 g h _) rfl ⟨wq_26_23, wq_27_0, wq_27_1, wq_1_5, wq_27_2⟩ yo_X10_dropsEnds rfl ⟨Nat.le_of_ble_eq_true rfl, Nat.le_of_ble_eq_true rfl⟩ (Nat.le_of_ble_eq_true rfl) dX10_tidies_24 (fun H locs hw => ?_)
        refine lv_if_ne (tgt := 38) X.1 X.2.1 dX10_tidies_27 (by decide) (fun c_26 => ?_) (fun c_26 => ?_)
        · replace hz_4 := it_n hz_4 c_26
          refine lv_iconst (v := 1) X.1 X.2.1 dX10_tidies_38 (by decide) ?_
          refine lv_goto (tgt := 43) X.1 X.2.1 dX10_tidies_39 (by decide) ?_
          refine lv_istore_n (lv' := [(2, .int (1 : Int32)), (0, .ref (h 0)), (1, .int x1)]) X.1 X.2.1 dX10_tidies_43 rfl hl (by decide) rfl (fun ls hl => ?_)
          refine lv_goto (tgt := 2) X.1 X.2.1 dX10_tidies_44 (by decide) ?_
          exact hn_5 _ (Option.some.inj hz_4).symm _ _ _ hw (lv_sub hl [1, 2, 0] rfl)
        · replace hz_4 := it_p hz_4 c_26
          refine lv_aload_n X.1 X.2.1 dX10_tidies_30 rfl (lv_at hl 0 rfl) ?_
          refine lv_iload_n X.1 X.2.1 dX10_tidies_31 rfl (lv_at hl 1 rfl) ?_
          replace hz_4 := ob_e hz_4
          obtain ⟨⟨r_28, t_29⟩, h_27, hz_4⟩ := hz_4
          replace hz_4 := un_e hz_4
          refine k_Vi (k := 0) (As := [.int x1]) X hl.1 hw (c_X10_joinsBehind h_27) (by decide) (he_X10 g h _) rfl ⟨wq_27_11, wq_27_12, wq_27_13, wq_1_5, wq_27_14⟩ yo_X10_joinsBehind rfl ⟨Nat.le_of_ble_eq_true rfl, Nat.le_of_ble_eq_true rfl⟩ (Nat.le_of_ble_eq_true rfl) dX10_tidies_32 (fun H locs hw => ?_)
          refine lv_if_eq (tgt := 42) X.1 X.2.1 dX10_tidies_35 (by decide) (fun c_31 => ?_) (fun c_31 => ?_)
          · replace hz_4 := it_p hz_4 c_31
            refine lv_iconst (v := 0) X.1 X.2.1 dX10_tidies_42 (by decide) ?_
            refine lv_istore_n (lv' := [(2, .int (0 : Int32)), (0, .ref (h 0)), (1, .int x1)]) X.1 X.2.1 dX10_tidies_43 rfl hl (by decide) rfl (fun ls hl => ?_)
            refine lv_goto (tgt := 2) X.1 X.2.1 dX10_tidies_44 (by decide) ?_
            exact hn_5 _ (Option.some.inj hz_4).symm _ _ _ hw (lv_sub hl [1, 2, 0] rfl)
          · replace hz_4 := it_n hz_4 c_31
            refine lv_iconst (v := 1) X.1 X.2.1 dX10_tidies_38 (by decide) ?_
            refine lv_goto (tgt := 43) X.1 X.2.1 dX10_tidies_39 (by decide) ?_
            refine lv_istore_n (lv' := [(2, .int (1 : Int32)), (0, .ref (h 0)), (1, .int x1)]) X.1 X.2.1 dX10_tidies_43 rfl hl (by decide) rfl (fun ls hl => ?_)
            refine lv_goto (tgt := 2) X.1 X.2.1 dX10_tidies_44 (by decide) ?_
            exact hn_5 _ (Option.some.inj hz_4).symm _ _ _ hw (lv_sub hl [1, 2, 0] rfl)
def m_X10_isAnswered_L21 (x1 : Int32) (t : ST) (σ : Int32 × Int32) : Option ((Int32 × Int32) ⊕ (Int32)) := (fun (q_29 : Int32 × Int32) => un q_29 (fun y_6 y_7 => if (t.1 1) ≤ y_7 then some (.inr y_6) else if y_6 = 0 then gd (¬ (x1 < 0 ∨ 12 ≤ x1.toNatClampNeg)) (lt (((t.2.2.1 13 x1.toNatClampNeg) >>> (y_7 &&& 31)) &&& (1 : Int32)) (fun x_21 => if x_21 = (1 : Int32) then Option.bind (m_X10_linksAt t x1 y_7) (fun (r_25 : Int32) => if r_25 = 0 then lt (y_7 + 1) (fun x_28 => some (.inl ((1 : Int32), x_28))) else lt (y_7 + 1) (fun x_27 => some (.inl ((0 : Int32), x_27)))) else lt (y_7 + 1) (fun x_23 => some (.inl ((0 : Int32), x_23))))) else lt (y_7 + 1) (fun x_19 => some (.inl ((1 : Int32), x_19))))) σ
def m_X10_isAnswered (t : ST) (x1 : Int32) : Option (Int32) := gd (¬ (x1 < 0 ∨ 12 ≤ x1.toNatClampNeg)) (Option.bind (m_X10_bitsIn (t.2.2.1 13 x1.toNatClampNeg)) (fun (r_3 : Int32) => Option.bind (if r_3 = (1 : Int32) then some (1 : Int32) else some (0 : Int32)) (fun (j_5 : Int32) => Option.bind (vLoop (m_X10_isAnswered_L21 x1 t) FUEL (j_5, (0 : Int32))) (fun (j_8 : Int32) => gd (j_8 = 0 ∨ j_8 = 1) (some j_8)))))
theorem yo_X10_isAnswered : yX10_isAnswered.cls = RX10 ∧ yX10_isAnswered.cls ≠ "java/lang/invoke/MethodHandle" ∧ yX10_isAnswered.cls ≠ "java/lang/invoke/VarHandle" ∧ (parseMethodDescriptor yX10_isAnswered.desc).map (fun d => d.parameters.length) = some 1 := by decide +kernel
set_option maxHeartbeats 4000000 in
set_option maxRecDepth 100000 in
theorem c_X10_isAnswered {l : Launch} {g : gT} {h : Nat → Nat} {t : ST} {x1 : Int32} {r : Int32} (hm : m_X10_isAnswered t x1 = some r) : MetI l g yX10_isAnswered cX10_isAnswered 4 (some .boolean) 2 47 20 h (cM g h t) (cM g h t) [.ref (h 0), .int x1] r := by
  refine MetZ.ofX (by decide +kernel) (Nat.le_of_ble_eq_true rfl) ?_
  intro p e s m below meth c AV Q X hret ls hw hl
  replace X : Cx g p s m AV c cX10_isAnswered RX10 4 := X
  replace hl : lv_has ls 4 [(0, .ref (h 0)), (1, .int x1)] := hl
  unfold m_X10_isAnswered at hm
  refine lv_aload_n X.1 X.2.1 dX10_isAnswered_0 rfl (lv_at hl 0 rfl) ?_
  refine gX10_netWanted X hw wq_6_0 dX10_isAnswered_1 ?_
  refine lv_iload_n X.1 X.2.1 dX10_isAnswered_4 rfl (lv_at hl 1 rfl) ?_
  replace hm := gd_e hm
  obtain ⟨g_1, hm⟩ := hm
  refine lMA13 X hw g_1 dX10_isAnswered_5 ?_
  replace hm := ob_e hm
  obtain ⟨r_3, h_2, hm⟩ := hm
  refine k_Si (As := [.int (t.2.2.1 13 x1.toNatClampNeg)]) X hl.1 hw (c_X10_bitsIn h_2) ⟨wq_27_23, wq_28_0, wq_1_5, wq_28_1⟩ yo_X10_bitsIn rfl ⟨Nat.le_of_ble_eq_true rfl, Nat.le_of_ble_eq_true rfl⟩ (Nat.le_of_ble_eq_true rfl) dX10_isAnswered_6 (fun H locs hw => ?_)
  refine lv_iconst (v := 1) X.1 X.2.1 dX10_isAnswered_9 (by decide) ?_
  replace hm := ob_e hm
  obtain ⟨j_5, hg_30, hm⟩ := hm
  have J_31 : ∀ (H : Heap) (locs : List Loc) (ls : Array Slot), Wd g 20 h (cM g h t) s H locs → lv_has ls 4 [(0, .ref (h 0)), (1, .int x1)] → W p l e (rW 2 47) s m AV below meth c H locs 0 0 Q (F0 m 18 ls [.int j_5]) := by
    intro H locs ls hw hl
    refine lv_istore_n (lv' := [(2, .int j_5), (0, .ref (h 0)), (1, .int x1)]) X.1 X.2.1 dX10_isAnswered_18 rfl hl (by decide) rfl (fun ls hl => ?_)
    refine lv_iconst (v := 0) X.1 X.2.1 dX10_isAnswered_19 (by decide) ?_
    refine lv_istore_n (lv' := [(3, .int (0 : Int32)), (2, .int j_5), (0, .ref (h 0)), (1, .int x1)]) X.1 X.2.1 dX10_isAnswered_20 rfl hl (by decide) rfl (fun ls hl => ?_)
    replace hm := ob_e hm
    obtain ⟨j_8, hL_15, hm⟩ := hm
    have J_14 : ∀ (H : Heap) (locs : List Loc) (ls : Array Slot), Wd g 20 h (cM g h t) s H locs → lv_has ls 4 [(2, .int j_8)] → W p l e (rW 2 47) s m AV below meth c H locs 0 0 Q (F0 m 68 ls []) := by
      intro H locs ls hw hl
      refine lv_iload_n X.1 X.2.1 dX10_isAnswered_68 rfl (lv_at hl 0 rfl) ?_
      replace hm := gd_e hm
      obtain ⟨g_9, hm⟩ := hm
      obtain rfl := Option.some.inj hm
      exact hret _ _ _ _ hw dX10_isAnswered_69 g_9
    refine vLoop_ind (B := (m_X10_isAnswered_L21 x1 t)) (fun σ => ∀ (H : Heap) (locs : List Loc) (ls : Array Slot), Wd g 20 h (cM g h t) s H locs → lv_has ls 4 [(0, .ref (h 0)), (1, .int x1), (2, .int σ.1), (3, .int σ.2)] → W p l e (rW 2 47) s m AV below meth c H locs 0 0 Q (F0 m 21 ls [])) (fun z' => z' = j_8) ?_ FUEL _ _ hL_15 rfl _ _ _ hw (lv_sub hl [2, 3, 1, 0] rfl)
    intro σ z_13 hz_10 hn_11 hx_12
    obtain ⟨y_6, y_7⟩ := σ
    intro H locs ls hw hl
    replace hw : Wd g 20 h (cM g h t) s H locs := hw
    replace hl : lv_has ls 4 [(0, .ref (h 0)), (1, .int x1), (2, .int y_6), (3, .int y_7)] := hl
    unfold m_X10_isAnswered_L21 at hz_10
    replace hz_10 := un_e hz_10
    refine lv_iload_n X.1 X.2.1 dX10_isAnswered_21 rfl (lv_at hl 3 rfl) ?_
    refine lv_aload_n X.1 X.2.1 dX10_isAnswered_22 rfl (lv_at hl 0 rfl) ?_
    refine gX10_stations X hw wq_6_4 dX10_isAnswered_23 ?_
    refine lv_icmp_ge (tgt := 68) X.1 X.2.1 dX10_isAnswered_26 (by decide) (fun c_17 => ?_) (fun c_17 => ?_)
    · replace hz_10 := it_p hz_10 c_17
      obtain rfl := hx_12 _ (Option.some.inj hz_10).symm
      exact J_14 _ _ _ hw (lv_sub hl [2] rfl)
    · replace hz_10 := it_n hz_10 c_17
      refine lv_iload_n X.1 X.2.1 dX10_isAnswered_29 rfl (lv_at hl 2 rfl) ?_
      refine lv_if_ne (tgt := 56) X.1 X.2.1 dX10_isAnswered_30 (by decide) (fun c_18 => ?_) (fun c_18 => ?_)
      · replace hz_10 := it_n hz_10 c_18
        refine lv_iconst (v := 1) X.1 X.2.1 dX10_isAnswered_56 (by decide) ?_
        refine lv_goto (tgt := 61) X.1 X.2.1 dX10_isAnswered_57 (by decide) ?_
        refine lv_istore_n (lv' := [(2, .int (1 : Int32)), (0, .ref (h 0)), (1, .int x1), (3, .int y_7)]) X.1 X.2.1 dX10_isAnswered_61 rfl hl (by decide) rfl (fun ls hl => ?_)
        obtain ⟨x_19, ex_19⟩ : ∃ y : Int32, y = y_7 + 1 := ⟨_, rfl⟩
        replace hz_10 := lt_e hz_10 ex_19
        refine lv_iinc (v := x_19) (lv' := [(3, .int x_19), (2, .int (1 : Int32)), (0, .ref (h 0)), (1, .int x1)]) X.1 X.2.1 dX10_isAnswered_62 hl (k := 3) rfl (by rw [ex_19]; rfl) (by decide) rfl (fun ls hl => ?_)
        refine lv_goto (tgt := 21) X.1 X.2.1 dX10_isAnswered_65 (by decide) ?_
        exact hn_11 _ (Option.some.inj hz_10).symm _ _ _ hw (lv_sub hl [2, 3, 1, 0] rfl)
      · replace hz_10 := it_p hz_10 c_18
        refine lv_aload_n X.1 X.2.1 dX10_isAnswered_33 rfl (lv_at hl 0 rfl) ?_
        refine gX10_netWanted X hw wq_6_0 dX10_isAnswered_34 ?_
        refine lv_iload_n X.1 X.2.1 dX10_isAnswered_37 rfl (lv_at hl 1 rfl) ?_
        replace hz_10 := gd_e hz_10
        obtain ⟨g_20, hz_10⟩ := hz_10
        refine lMA13 X hw g_20 dX10_isAnswered_38 ?_
        refine lv_iload_n X.1 X.2.1 dX10_isAnswered_39 rfl (lv_at hl 3 rfl) ?_
        refine lv_ishr X.1 X.2.1 dX10_isAnswered_40 ?_
        refine lv_iconst (v := 1) X.1 X.2.1 dX10_isAnswered_41 (by decide) ?_
        refine lv_iand X.1 X.2.1 dX10_isAnswered_42 ?_
        refine lv_topi (fun x_21 ex_21 => ?_)
        replace hz_10 := lt_e hz_10 ex_21
        refine lv_iconst (v := 1) X.1 X.2.1 dX10_isAnswered_43 (by decide) ?_
        refine lv_icmp_ne (tgt := 60) X.1 X.2.1 dX10_isAnswered_44 (by decide) (fun c_22 => ?_) (fun c_22 => ?_)
        · replace hz_10 := it_n hz_10 c_22
          refine lv_iconst (v := 0) X.1 X.2.1 dX10_isAnswered_60 (by decide) ?_
          refine lv_istore_n (lv' := [(2, .int (0 : Int32)), (0, .ref (h 0)), (1, .int x1), (3, .int y_7)]) X.1 X.2.1 dX10_isAnswered_61 rfl hl (by decide) rfl (fun ls hl => ?_)
          obtain ⟨x_23, ex_23⟩ : ∃ y : Int32, y = y_7 + 1 := ⟨_, rfl⟩
          replace hz_10 := lt_e hz_10 ex_23
          refine lv_iinc (v := x_23) (lv' := [(3, .int x_23), (2, .int (0 : Int32)), (0, .ref (h 0)), (1, .int x1)]) X.1 X.2.1 dX10_isAnswered_62 hl (k := 3) rfl (by rw [ex_23]; rfl) (by decide) rfl (fun ls hl => ?_)
          refine lv_goto (tgt := 21) X.1 X.2.1 dX10_isAnswered_65 (by decide) ?_
          exact hn_11 _ (Option.some.inj hz_10).symm _ _ _ hw (lv_sub hl [2, 3, 1, 0] rfl)
        · replace hz_10 := it_p hz_10 c_22
          refine lv_aload_n X.1 X.2.1 dX10_isAnswered_47 rfl (lv_at hl 0 rfl) ?_
          refine lv_iload_n X.1 X.2.1 dX10_isAnswered_48 rfl (lv_at hl 1 rfl) ?_
          refine lv_iload_n X.1 X.2.1 dX10_isAnswered_49 rfl (lv_at hl 3 rfl) ?_
          replace hz_10 := ob_e hz_10
          obtain ⟨r_25, h_24, hz_10⟩ := hz_10
          refine k_Vi (k := 0) (As := [.int x1, .int y_7]) X hl.1 hw (c_X10_linksAt h_24) (by decide) (he_X10 g h _) rfl ⟨wq_27_7, wq_27_8, wq_27_9, wq_1_5, wq_27_10⟩ yo_X10_linksAt rfl ⟨Nat.le_of_ble_eq_true rfl, Nat.le_of_ble_eq_true rfl⟩ (Nat.le_of_ble_eq_true rfl) dX10_isAnswered_50 (fun H locs hw => ?_)
          refine lv_if_ne (tgt := 60) X.1 X.2.1 dX10_isAnswered_53 (by decide) (fun c_26 => ?_) (fun c_26 => ?_)
          · replace hz_10 := it_n hz_10 c_26
            refine lv_iconst (v := 0) X.1 X.2.1 dX10_isAnswered_60 (by decide) ?_
            refine lv_istore_n (lv' := [(2, .int (0 : Int32)), (0, .ref (h 0)), (1, .int x1), (3, .int y_7)]) X.1 X.2.1 dX10_isAnswered_61 rfl hl (by decide) rfl (fun ls hl => ?_)
            obtain ⟨x_27, ex_27⟩ : ∃ y : Int32, y = y_7 + 1 := ⟨_, rfl⟩
            replace hz_10 := lt_e hz_10 ex_27
            refine lv_iinc (v := x_27) (lv' := [(3, .int x_27), (2, .int (0 : Int32)), (0, .ref (h 0)), (1, .int x1)]) X.1 X.2.1 dX10_isAnswered_62 hl (k := 3) rfl (by rw [ex_27]; rfl) (by decide) rfl (fun ls hl => ?_)
            refine lv_goto (tgt := 21) X.1 X.2.1 dX10_isAnswered_65 (by decide) ?_
            exact hn_11 _ (Option.some.inj hz_10).symm _ _ _ hw (lv_sub hl [2, 3, 1, 0] rfl)
          · replace hz_10 := it_p hz_10 c_26
            refine lv_iconst (v := 1) X.1 X.2.1 dX10_isAnswered_56 (by decide) ?_
            refine lv_goto (tgt := 61) X.1 X.2.1 dX10_isAnswered_57 (by decide) ?_
            refine lv_istore_n (lv' := [(2, .int (1 : Int32)), (0, .ref (h 0)), (1, .int x1), (3, .int y_7)]) X.1 X.2.1 dX10_isAnswered_61 rfl hl (by decide) rfl (fun ls hl => ?_)
            obtain ⟨x_28, ex_28⟩ : ∃ y : Int32, y = y_7 + 1 := ⟨_, rfl⟩
            replace hz_10 := lt_e hz_10 ex_28
            refine lv_iinc (v := x_28) (lv' := [(3, .int x_28), (2, .int (1 : Int32)), (0, .ref (h 0)), (1, .int x1)]) X.1 X.2.1 dX10_isAnswered_62 hl (k := 3) rfl (by rw [ex_28]; rfl) (by decide) rfl (fun ls hl => ?_)
            refine lv_goto (tgt := 21) X.1 X.2.1 dX10_isAnswered_65 (by decide) ?_
            exact hn_11 _ (Option.some.inj hz_10).symm _ _ _ hw (lv_sub hl [2, 3, 1, 0] rfl)
  refine lv_icmp_ne (tgt := 17) X.1 X.2.1 dX10_isAnswered_10 (by decide) (fun c_4 => ?_) (fun c_4 => ?_)
  · replace hg_30 := it_n hg_30 c_4
    refine lv_iconst (v := 0) X.1 X.2.1 dX10_isAnswered_17 (by decide) ?_
    obtain rfl := Option.some.inj hg_30
    exact J_31 _ _ _ hw (lv_sub hl [0, 1] rfl)
  · replace hg_30 := it_p hg_30 c_4
    refine lv_iconst (v := 1) X.1 X.2.1 dX10_isAnswered_13 (by decide) ?_
    refine lv_goto (tgt := 18) X.1 X.2.1 dX10_isAnswered_14 (by decide) ?_
    obtain rfl := Option.some.inj hg_30
    exact J_31 _ _ _ hw (lv_sub hl [0, 1] rfl)
def m_X10_first_L2 (x1 : Int32) (t : ST) (σ : Int32) : Option ((Int32) ⊕ (Int32)) := (fun (y_1 : Int32) => Option.bind (m_X10_has t x1 y_1) (fun (r_11 : Int32) => if r_11 = 0 then lt (y_1 + 1) (fun x_13 => some (.inl x_13)) else some (.inr y_1))) σ
def m_X10_first (t : ST) (x1 : Int32) : Option (Int32) := Option.bind (vLoop (m_X10_first_L2 x1 t) FUEL (0 : Int32)) (fun (j_2 : Int32) => some j_2)
theorem yo_X10_first : yX10_first.cls = RX10 ∧ yX10_first.cls ≠ "java/lang/invoke/MethodHandle" ∧ yX10_first.cls ≠ "java/lang/invoke/VarHandle" ∧ (parseMethodDescriptor yX10_first.desc).map (fun d => d.parameters.length) = some 1 := by decide +kernel
set_option maxHeartbeats 4000000 in
set_option maxRecDepth 100000 in
theorem c_X10_first {l : Launch} {g : gT} {h : Nat → Nat} {t : ST} {x1 : Int32} {r : Int32} (hm : m_X10_first t x1 = some r) : MetI l g yX10_first cX10_first 3 (some .int) 1 22 20 h (cM g h t) (cM g h t) [.ref (h 0), .int x1] r := by
  refine MetI.ofX (by decide +kernel) (Nat.le_of_ble_eq_true rfl) ?_
  intro p e s m below meth c AV Q X hret ls hw hl
  replace X : Cx g p s m AV c cX10_first RX10 3 := X
  replace hl : lv_has ls 3 [(0, .ref (h 0)), (1, .int x1)] := hl
  unfold m_X10_first at hm
  refine lv_iconst (v := 0) X.1 X.2.1 dX10_first_0 (by decide) ?_
  refine lv_istore_n (lv' := [(2, .int (0 : Int32)), (0, .ref (h 0)), (1, .int x1)]) X.1 X.2.1 dX10_first_1 rfl hl (by decide) rfl (fun ls hl => ?_)
  replace hm := ob_e hm
  obtain ⟨j_2, hL_8, hm⟩ := hm
  have J_7 : ∀ (H : Heap) (locs : List Loc) (ls : Array Slot), Wd g 20 h (cM g h t) s H locs → lv_has ls 3 [(2, .int j_2)] → W p l e (rW 1 22) s m AV below meth c H locs 0 0 Q (F0 m 17 ls []) := by
    intro H locs ls hw hl
    refine lv_iload_n X.1 X.2.1 dX10_first_17 rfl (lv_at hl 0 rfl) ?_
    obtain rfl := Option.some.inj hm
    exact hret _ _ _ _ hw dX10_first_18
  refine vLoop_ind (B := (m_X10_first_L2 x1 t)) (fun σ => ∀ (H : Heap) (locs : List Loc) (ls : Array Slot), Wd g 20 h (cM g h t) s H locs → lv_has ls 3 [(0, .ref (h 0)), (1, .int x1), (2, .int σ)] → W p l e (rW 1 22) s m AV below meth c H locs 0 0 Q (F0 m 2 ls [])) (fun z' => z' = j_2) ?_ FUEL _ _ hL_8 rfl _ _ _ hw (lv_sub hl [1, 2, 0] rfl)
  intro σ z_6 hz_3 hn_4 hx_5
  obtain ⟨y_1, rfl⟩ : ∃ q, q = σ := ⟨_, rfl⟩
  intro H locs ls hw hl
  replace hw : Wd g 20 h (cM g h t) s H locs := hw
  replace hl : lv_has ls 3 [(0, .ref (h 0)), (1, .int x1), (2, .int y_1)] := hl
  unfold m_X10_first_L2 at hz_3
  refine lv_aload_n X.1 X.2.1 dX10_first_2 rfl (lv_at hl 0 rfl) ?_
  refine lv_iload_n X.1 X.2.1 dX10_first_3 rfl (lv_at hl 1 rfl) ?_
  refine lv_iload_n X.1 X.2.1 dX10_first_4 rfl (lv_at hl 2 rfl) ?_
  replace hz_3 := ob_e hz_3
  obtain ⟨r_11, h_10, hz_3⟩ := hz_3
  refine k_Vi (k := 0) (As := [.int x1, .int y_1]) X hl.1 hw (c_X10_has h_10) (by decide) (he_X10 g h _) rfl ⟨wq_26_3, wq_26_4, wq_26_5, wq_1_5, wq_26_6⟩ yo_X10_has rfl ⟨Nat.le_of_ble_eq_true rfl, Nat.le_of_ble_eq_true rfl⟩ (Nat.le_of_ble_eq_true rfl) dX10_first_5 (fun H locs hw => ?_)
  refine lv_if_ne (tgt := 17) X.1 X.2.1 dX10_first_8 (by decide) (fun c_12 => ?_) (fun c_12 => ?_)
  · replace hz_3 := it_n hz_3 c_12
    obtain rfl := hx_5 _ (Option.some.inj hz_3).symm
    exact J_7 _ _ _ hw (lv_sub hl [2] rfl)
  · replace hz_3 := it_p hz_3 c_12
    obtain ⟨x_13, ex_13⟩ : ∃ y : Int32, y = y_1 + 1 := ⟨_, rfl⟩
    replace hz_3 := lt_e hz_3 ex_13
    refine lv_iinc (v := x_13) (lv' := [(2, .int x_13), (0, .ref (h 0)), (1, .int x1)]) X.1 X.2.1 dX10_first_11 hl (k := 2) rfl (by rw [ex_13]; rfl) (by decide) rfl (fun ls hl => ?_)
    refine lv_goto (tgt := 2) X.1 X.2.1 dX10_first_14 (by decide) ?_
    exact hn_4 _ (Option.some.inj hz_3).symm _ _ _ hw (lv_sub hl [1, 2, 0] rfl)
def m_X10_puts_L106 (x1 : Int32) (x3 : Int32) (x_1 : Int32) (j_9 : Int32) (j_11 : Int32) (σ : Int32 × ST) : Option ((Int32 × ST) ⊕ (ST)) := (fun (q_65 : Int32 × ST) => un q_65 (fun y_21 t_22 => if (t_22.1 4) ≤ y_21 then some (.inr t_22) else lt (((10 : Int32) * x1) + y_21) (fun x_40 => gd (¬ (x_40 < 0 ∨ 120 ≤ x_40.toNatClampNeg)) (lt (t_22.2.2.1 9 x_40.toNatClampNeg) (fun x_42 => lt (((10 : Int32) * x1) + y_21) (fun x_43 => gd (¬ (x_43 < 0 ∨ 120 ≤ x_43.toNatClampNeg)) (lt (t_22.2.2.1 10 x_43.toNatClampNeg) (fun x_45 => Option.bind (if x3 = 0 then some x_42 else if x_42 = j_11 then some j_9 else some x_42) (fun (j_47 : Int32) => gd (¬ ((((10 : Int32) * x_1) + y_21) < 0 ∨ 120 ≤ (((10 : Int32) * x_1) + y_21).toNatClampNeg)) (lt (wA t_22 9 (((10 : Int32) * x_1) + y_21).toNatClampNeg j_47) (fun t_49 => Option.bind (if x3 = 0 then some x_45 else if x_45 = j_11 then some j_9 else some x_45) (fun (j_51 : Int32) => gd (¬ ((((10 : Int32) * x_1) + y_21) < 0 ∨ 120 ≤ (((10 : Int32) * x_1) + y_21).toNatClampNeg)) (lt (wA t_49 10 (((10 : Int32) * x_1) + y_21).toNatClampNeg j_51) (fun t_53 => lt (((10 : Int32) * x1) + y_21) (fun x_54 => gd (¬ (x_54 < 0 ∨ 120 ≤ x_54.toNatClampNeg)) (gd (¬ ((((10 : Int32) * x_1) + y_21) < 0 ∨ 120 ≤ (((10 : Int32) * x_1) + y_21).toNatClampNeg)) (lt (wA t_53 11 (((10 : Int32) * x_1) + y_21).toNatClampNeg (t_53.2.2.1 11 x_54.toNatClampNeg)) (fun t_57 => lt (y_21 + 1) (fun x_58 => some (.inl (x_58, t_57))))))))))))))))))))) σ
def m_X10_puts (t : ST) (x1 : Int32) (x2 : Int32) (x3 : Int32) : Option (ST) := lt (x1 + (1 : Int32)) (fun x_1 => lt (((10 : Int32) * x1) + x2) (fun x_2 => gd (¬ (x_2 < 0 ∨ 120 ≤ x_2.toNatClampNeg)) (lt (t.2.2.1 9 x_2.toNatClampNeg) (fun x_4 => lt (((10 : Int32) * x1) + x2) (fun x_5 => gd (¬ (x_5 < 0 ∨ 120 ≤ x_5.toNatClampNeg)) (lt (t.2.2.1 10 x_5.toNatClampNeg) (fun x_7 => Option.bind (if x_7 ≤ x_4 then some x_7 else some x_4) (fun (j_9 : Int32) => Option.bind (if x_7 ≤ x_4 then some x_4 else some x_7) (fun (j_11 : Int32) => gd (¬ (x1 < 0 ∨ 12 ≤ x1.toNatClampNeg)) (lt ((t.2.2.1 12 x1.toNatClampNeg) &&& (((1 : Int32) <<< (x2 &&& 31)) ^^^ (-1 : Int32))) (fun x_13 => gd (¬ (x_1 < 0 ∨ 12 ≤ x_1.toNatClampNeg)) (lt (wA t 12 x_1.toNatClampNeg x_13) (fun t_15 => gd (¬ (x1 < 0 ∨ 12 ≤ x1.toNatClampNeg)) (gd (¬ (x_1 < 0 ∨ 12 ≤ x_1.toNatClampNeg)) (lt (wA t_15 13 x_1.toNatClampNeg (t_15.2.2.1 13 x1.toNatClampNeg)) (fun t_18 => gd (¬ (x_1 < 0 ∨ 12 ≤ x_1.toNatClampNeg)) (lt (wA t_18 14 x_1.toNatClampNeg (0 : Int32)) (fun t_20 => Option.bind (vLoop (m_X10_puts_L106 x1 x3 x_1 j_9 j_11) FUEL ((0 : Int32), t_20)) (fun (t_23 : ST) => if x3 = 0 then some t_23 else gd (¬ (x1 < 0 ∨ 12 ≤ x1.toNatClampNeg)) (lt (((t_23.2.2.1 13 x1.toNatClampNeg) >>> (j_11 &&& 31)) &&& (1 : Int32)) (fun x_26 => if x_26 = (1 : Int32) then gd (¬ (x1 < 0 ∨ 12 ≤ x1.toNatClampNeg)) (lt ((t_23.2.2.1 13 x1.toNatClampNeg) &&& (((1 : Int32) <<< (j_11 &&& 31)) ^^^ (-1 : Int32))) (fun x_29 => gd (¬ (x_1 < 0 ∨ 12 ≤ x_1.toNatClampNeg)) (lt (wA t_23 13 x_1.toNatClampNeg ((x_29 ||| ((1 : Int32) <<< (j_9 &&& 31))))) (fun t_31 => some t_31)))) else some t_23)))))))))))))))))))))
theorem yo_X10_puts : yX10_puts.cls = RX10 ∧ yX10_puts.cls ≠ "java/lang/invoke/MethodHandle" ∧ yX10_puts.cls ≠ "java/lang/invoke/VarHandle" ∧ (parseMethodDescriptor yX10_puts.desc).map (fun d => d.parameters.length) = some 3 := by decide +kernel
set_option maxHeartbeats 4000000 in
set_option maxRecDepth 100000 in
theorem c_X10_puts {l : Launch} {g : gT} {h : Nat → Nat} {t : ST} {x1 : Int32} {x2 : Int32} {x3 : Int32} {t' : ST} (hm : m_X10_puts t x1 x2 x3 = some (t')) : MetV l g yX10_puts cX10_puts 12 none 0 0 20 h (cM g h t) (cM g h t') [.ref (h 0), .int x1, .int x2, .int x3] := by
  refine MetV.ofX (by decide +kernel) (Nat.le_of_ble_eq_true rfl) ?_
  intro p e s m below meth c AV Q X hret ls hw hl
  replace X : Cx g p s m AV c cX10_puts RX10 12 := X
  replace hl : lv_has ls 12 [(0, .ref (h 0)), (1, .int x1), (2, .int x2), (3, .int x3)] := hl
  unfold m_X10_puts at hm
  refine lv_iload_n X.1 X.2.1 dX10_puts_0 rfl (lv_at hl 1 rfl) ?_
  refine lv_iconst (v := 1) X.1 X.2.1 dX10_puts_1 (by decide) ?_
  refine lv_iadd X.1 X.2.1 dX10_puts_2 ?_
  refine lv_topi (fun x_1 ex_1 => ?_)
  replace hm := lt_e hm ex_1
  refine lv_istore (lv' := [(4, .int x_1), (0, .ref (h 0)), (1, .int x1), (2, .int x2), (3, .int x3)]) X.1 X.2.1 dX10_puts_3 hl (by decide) rfl (fun ls hl => ?_)
  refine lv_aload_n X.1 X.2.1 dX10_puts_5 rfl (lv_at hl 1 rfl) ?_
  refine gX10_netOnes X hw wq_5_20 dX10_puts_6 ?_
  refine lv_bipush (v := 10) X.1 X.2.1 dX10_puts_9 (by decide) ?_
  refine lv_iload_n X.1 X.2.1 dX10_puts_11 rfl (lv_at hl 2 rfl) ?_
  refine lv_imul X.1 X.2.1 dX10_puts_12 ?_
  refine lv_iload_n X.1 X.2.1 dX10_puts_13 rfl (lv_at hl 3 rfl) ?_
  refine lv_iadd X.1 X.2.1 dX10_puts_14 ?_
  refine lv_topi (fun x_2 ex_2 => ?_)
  replace hm := lt_e hm ex_2
  replace hm := gd_e hm
  obtain ⟨g_3, hm⟩ := hm
  refine lMA9 X hw g_3 dX10_puts_15 ?_
  refine lv_topi (fun x_4 ex_4 => ?_)
  replace hm := lt_e hm ex_4
  refine lv_istore (lv' := [(5, .int x_4), (4, .int x_1), (0, .ref (h 0)), (1, .int x1), (2, .int x2), (3, .int x3)]) X.1 X.2.1 dX10_puts_16 hl (by decide) rfl (fun ls hl => ?_)
  refine lv_aload_n X.1 X.2.1 dX10_puts_18 rfl (lv_at hl 2 rfl) ?_
  refine gX10_netOthers X hw wq_5_21 dX10_puts_19 ?_
  refine lv_bipush (v := 10) X.1 X.2.1 dX10_puts_22 (by decide) ?_
  refine lv_iload_n X.1 X.2.1 dX10_puts_24 rfl (lv_at hl 3 rfl) ?_
  refine lv_imul X.1 X.2.1 dX10_puts_25 ?_
  refine lv_iload_n X.1 X.2.1 dX10_puts_26 rfl (lv_at hl 4 rfl) ?_
  refine lv_iadd X.1 X.2.1 dX10_puts_27 ?_
  refine lv_topi (fun x_5 ex_5 => ?_)
  replace hm := lt_e hm ex_5
  replace hm := gd_e hm
  obtain ⟨g_6, hm⟩ := hm
  refine lMA10 X hw g_6 dX10_puts_28 ?_
  refine lv_topi (fun x_7 ex_7 => ?_)
  replace hm := lt_e hm ex_7
  refine lv_istore (lv' := [(6, .int x_7), (5, .int x_4), (4, .int x_1), (0, .ref (h 0)), (1, .int x1), (2, .int x2), (3, .int x3)]) X.1 X.2.1 dX10_puts_29 hl (by decide) rfl (fun ls hl => ?_)
  refine lv_iload X.1 X.2.1 dX10_puts_31 (lv_at hl 1 rfl) ?_
  refine lv_iload X.1 X.2.1 dX10_puts_33 (lv_at hl 0 rfl) ?_
  replace hm := ob_e hm
  obtain ⟨j_9, hg_68, hm⟩ := hm
  have J_69 : ∀ (H : Heap) (locs : List Loc) (ls : Array Slot), Wd g 20 h (cM g h t) s H locs → lv_has ls 12 [(0, .ref (h 0)), (1, .int x1), (2, .int x2), (3, .int x3), (4, .int x_1), (5, .int x_4), (6, .int x_7)] → W p l e (rW 0 0) s m AV below meth c H locs 0 0 Q (F0 m 45 ls [.int j_9]) := by
    intro H locs ls hw hl
    refine lv_istore (lv' := [(7, .int j_9), (0, .ref (h 0)), (1, .int x1), (2, .int x2), (3, .int x3), (4, .int x_1), (5, .int x_4), (6, .int x_7)]) X.1 X.2.1 dX10_puts_45 hl (by decide) rfl (fun ls hl => ?_)
    refine lv_iload X.1 X.2.1 dX10_puts_47 (lv_at hl 6 rfl) ?_
    refine lv_iload X.1 X.2.1 dX10_puts_49 (lv_at hl 7 rfl) ?_
    replace hm := ob_e hm
    obtain ⟨j_11, hg_66, hm⟩ := hm
    have J_67 : ∀ (H : Heap) (locs : List Loc) (ls : Array Slot), Wd g 20 h (cM g h t) s H locs → lv_has ls 12 [(0, .ref (h 0)), (1, .int x1), (2, .int x2), (3, .int x3), (4, .int x_1), (7, .int j_9)] → W p l e (rW 0 0) s m AV below meth c H locs 0 0 Q (F0 m 61 ls [.int j_11]) := by
      intro H locs ls hw hl
      refine lv_istore (lv' := [(8, .int j_11), (0, .ref (h 0)), (1, .int x1), (2, .int x2), (3, .int x3), (4, .int x_1), (7, .int j_9)]) X.1 X.2.1 dX10_puts_61 hl (by decide) rfl (fun ls hl => ?_)
      refine lv_aload_n X.1 X.2.1 dX10_puts_63 rfl (lv_at hl 1 rfl) ?_
      refine gX10_present X hw wq_5_23 dX10_puts_64 ?_
      refine lv_iload X.1 X.2.1 dX10_puts_67 (lv_at hl 5 rfl) ?_
      refine lv_aload_n X.1 X.2.1 dX10_puts_69 rfl (lv_at hl 1 rfl) ?_
      refine gX10_present X hw wq_5_23 dX10_puts_70 ?_
      refine lv_iload_n X.1 X.2.1 dX10_puts_73 rfl (lv_at hl 2 rfl) ?_
      replace hm := gd_e hm
      obtain ⟨g_12, hm⟩ := hm
      refine lMA12 X hw g_12 dX10_puts_74 ?_
      refine lv_iconst (v := 1) X.1 X.2.1 dX10_puts_75 (by decide) ?_
      refine lv_iload_n X.1 X.2.1 dX10_puts_76 rfl (lv_at hl 3 rfl) ?_
      refine lv_ishl X.1 X.2.1 dX10_puts_77 ?_
      refine lv_iconst (v := -1) X.1 X.2.1 dX10_puts_78 (by decide) ?_
      refine lv_ixor X.1 X.2.1 dX10_puts_79 ?_
      refine lv_iand X.1 X.2.1 dX10_puts_80 ?_
      refine lv_topi (fun x_13 ex_13 => ?_)
      replace hm := lt_e hm ex_13
      replace hm := gd_e hm
      obtain ⟨g_14, hm⟩ := hm
      refine sMA12 X hw g_14 dX10_puts_81 (fun H locs hw => ?_)
      obtain ⟨t_15, et_15⟩ : ∃ y, y = wA t 12 x_1.toNatClampNeg x_13 := ⟨_, rfl⟩
      rw [← et_15] at hw
      replace hm := lt_e hm et_15
      refine lv_aload_n X.1 X.2.1 dX10_puts_82 rfl (lv_at hl 1 rfl) ?_
      refine gX10_netWanted X hw wq_6_0 dX10_puts_83 ?_
      refine lv_iload X.1 X.2.1 dX10_puts_86 (lv_at hl 5 rfl) ?_
      refine lv_aload_n X.1 X.2.1 dX10_puts_88 rfl (lv_at hl 1 rfl) ?_
      refine gX10_netWanted X hw wq_6_0 dX10_puts_89 ?_
      refine lv_iload_n X.1 X.2.1 dX10_puts_92 rfl (lv_at hl 2 rfl) ?_
      replace hm := gd_e hm
      obtain ⟨g_16, hm⟩ := hm
      refine lMA13 X hw g_16 dX10_puts_93 ?_
      replace hm := gd_e hm
      obtain ⟨g_17, hm⟩ := hm
      refine sMA13 X hw g_17 dX10_puts_94 (fun H locs hw => ?_)
      obtain ⟨t_18, et_18⟩ : ∃ y, y = wA t_15 13 x_1.toNatClampNeg (t_15.2.2.1 13 x1.toNatClampNeg) := ⟨_, rfl⟩
      rw [← et_18] at hw
      replace hm := lt_e hm et_18
      refine lv_aload_n X.1 X.2.1 dX10_puts_95 rfl (lv_at hl 1 rfl) ?_
      refine gX10_stages X hw wq_6_1 dX10_puts_96 ?_
      refine lv_iload X.1 X.2.1 dX10_puts_99 (lv_at hl 5 rfl) ?_
      refine lv_iconst (v := 0) X.1 X.2.1 dX10_puts_101 (by decide) ?_
      replace hm := gd_e hm
      obtain ⟨g_19, hm⟩ := hm
      refine sMA14 X hw g_19 dX10_puts_102 (fun H locs hw => ?_)
      obtain ⟨t_20, et_20⟩ : ∃ y, y = wA t_18 14 x_1.toNatClampNeg (0 : Int32) := ⟨_, rfl⟩
      rw [← et_20] at hw
      replace hm := lt_e hm et_20
      refine lv_iconst (v := 0) X.1 X.2.1 dX10_puts_103 (by decide) ?_
      refine lv_istore (lv' := [(9, .int (0 : Int32)), (8, .int j_11), (0, .ref (h 0)), (1, .int x1), (2, .int x2), (3, .int x3), (4, .int x_1), (7, .int j_9)]) X.1 X.2.1 dX10_puts_104 hl (by decide) rfl (fun ls hl => ?_)
      replace hm := ob_e hm
      obtain ⟨t_23, hL_37, hm⟩ := hm
      have J_36 : ∀ (H : Heap) (locs : List Loc) (ls : Array Slot), Wd g 20 h (cM g h t_23) s H locs → lv_has ls 12 [(0, .ref (h 0)), (1, .int x1), (3, .int x3), (4, .int x_1), (7, .int j_9), (8, .int j_11)] → W p l e (rW 0 0) s m AV below meth c H locs 0 0 Q (F0 m 236 ls []) := by
        intro H locs ls hw hl
        refine lv_iload_n X.1 X.2.1 dX10_puts_236 rfl (lv_at hl 2 rfl) ?_
        refine lv_if_eq (tgt := 280) X.1 X.2.1 dX10_puts_237 (by decide) (fun c_24 => ?_) (fun c_24 => ?_)
        · replace hm := it_p hm c_24
          obtain rfl := Option.some.inj hm
          exact hret _ _ _ _ hw dX10_puts_280
        · replace hm := it_n hm c_24
          refine lv_aload_n X.1 X.2.1 dX10_puts_240 rfl (lv_at hl 0 rfl) ?_
          refine gX10_netWanted X hw wq_6_0 dX10_puts_241 ?_
          refine lv_iload_n X.1 X.2.1 dX10_puts_244 rfl (lv_at hl 1 rfl) ?_
          replace hm := gd_e hm
          obtain ⟨g_25, hm⟩ := hm
          refine lMA13 X hw g_25 dX10_puts_245 ?_
          refine lv_iload X.1 X.2.1 dX10_puts_246 (lv_at hl 5 rfl) ?_
          refine lv_ishr X.1 X.2.1 dX10_puts_248 ?_
          refine lv_iconst (v := 1) X.1 X.2.1 dX10_puts_249 (by decide) ?_
          refine lv_iand X.1 X.2.1 dX10_puts_250 ?_
          refine lv_topi (fun x_26 ex_26 => ?_)
          replace hm := lt_e hm ex_26
          refine lv_iconst (v := 1) X.1 X.2.1 dX10_puts_251 (by decide) ?_
          refine lv_icmp_ne (tgt := 280) X.1 X.2.1 dX10_puts_252 (by decide) (fun c_27 => ?_) (fun c_27 => ?_)
          · replace hm := it_n hm c_27
            obtain rfl := Option.some.inj hm
            exact hret _ _ _ _ hw dX10_puts_280
          · replace hm := it_p hm c_27
            refine lv_aload_n X.1 X.2.1 dX10_puts_255 rfl (lv_at hl 0 rfl) ?_
            refine gX10_netWanted X hw wq_6_0 dX10_puts_256 ?_
            refine lv_iload X.1 X.2.1 dX10_puts_259 (lv_at hl 3 rfl) ?_
            refine lv_aload_n X.1 X.2.1 dX10_puts_261 rfl (lv_at hl 0 rfl) ?_
            refine gX10_netWanted X hw wq_6_0 dX10_puts_262 ?_
            refine lv_iload_n X.1 X.2.1 dX10_puts_265 rfl (lv_at hl 1 rfl) ?_
            replace hm := gd_e hm
            obtain ⟨g_28, hm⟩ := hm
            refine lMA13 X hw g_28 dX10_puts_266 ?_
            refine lv_iconst (v := 1) X.1 X.2.1 dX10_puts_267 (by decide) ?_
            refine lv_iload X.1 X.2.1 dX10_puts_268 (lv_at hl 5 rfl) ?_
            refine lv_ishl X.1 X.2.1 dX10_puts_270 ?_
            refine lv_iconst (v := -1) X.1 X.2.1 dX10_puts_271 (by decide) ?_
            refine lv_ixor X.1 X.2.1 dX10_puts_272 ?_
            refine lv_iand X.1 X.2.1 dX10_puts_273 ?_
            refine lv_topi (fun x_29 ex_29 => ?_)
            replace hm := lt_e hm ex_29
            refine lv_iconst (v := 1) X.1 X.2.1 dX10_puts_274 (by decide) ?_
            refine lv_iload X.1 X.2.1 dX10_puts_275 (lv_at hl 4 rfl) ?_
            refine lv_ishl X.1 X.2.1 dX10_puts_277 ?_
            refine lv_ior X.1 X.2.1 dX10_puts_278 ?_
            replace hm := gd_e hm
            obtain ⟨g_30, hm⟩ := hm
            refine sMA13 X hw g_30 dX10_puts_279 (fun H locs hw => ?_)
            obtain ⟨t_31, et_31⟩ : ∃ y, y = wA t_23 13 x_1.toNatClampNeg ((x_29 ||| ((1 : Int32) <<< (j_9 &&& 31)))) := ⟨_, rfl⟩
            rw [← et_31] at hw
            replace hm := lt_e hm et_31
            obtain rfl := Option.some.inj hm
            exact hret _ _ _ _ hw dX10_puts_280
      refine vLoop_ind (B := (m_X10_puts_L106 x1 x3 x_1 j_9 j_11)) (fun σ => ∀ (H : Heap) (locs : List Loc) (ls : Array Slot), Wd g 20 h (cM g h σ.2) s H locs → lv_has ls 12 [(0, .ref (h 0)), (1, .int x1), (3, .int x3), (4, .int x_1), (7, .int j_9), (8, .int j_11), (9, .int σ.1)] → W p l e (rW 0 0) s m AV below meth c H locs 0 0 Q (F0 m 106 ls [])) (fun z' => z' = t_23) ?_ FUEL _ _ hL_37 rfl _ _ _ hw (lv_sub hl [2, 3, 5, 6, 7, 1, 0] rfl)
      intro σ z_35 hz_32 hn_33 hx_34
      obtain ⟨y_21, t_22⟩ := σ
      intro H locs ls hw hl
      replace hw : Wd g 20 h (cM g h t_22) s H locs := hw
      replace hl : lv_has ls 12 [(0, .ref (h 0)), (1, .int x1), (3, .int x3), (4, .int x_1), (7, .int j_9), (8, .int j_11), (9, .int y_21)] := hl
      unfold m_X10_puts_L106 at hz_32
      replace hz_32 := un_e hz_32
      refine lv_iload X.1 X.2.1 dX10_puts_106 (lv_at hl 6 rfl) ?_
      refine lv_aload_n X.1 X.2.1 dX10_puts_108 rfl (lv_at hl 0 rfl) ?_
      refine gX10_links X hw wq_7_2 dX10_puts_109 ?_
      refine lv_icmp_ge (tgt := 236) X.1 X.2.1 dX10_puts_112 (by decide) (fun c_39 => ?_) (fun c_39 => ?_)
      · replace hz_32 := it_p hz_32 c_39
        obtain rfl := hx_34 _ (Option.some.inj hz_32).symm
        exact J_36 _ _ _ hw (lv_sub hl [0, 1, 2, 3, 4, 5] rfl)
      · replace hz_32 := it_n hz_32 c_39
        refine lv_aload_n X.1 X.2.1 dX10_puts_115 rfl (lv_at hl 0 rfl) ?_
        refine gX10_netOnes X hw wq_5_20 dX10_puts_116 ?_
        refine lv_bipush (v := 10) X.1 X.2.1 dX10_puts_119 (by decide) ?_
        refine lv_iload_n X.1 X.2.1 dX10_puts_121 rfl (lv_at hl 1 rfl) ?_
        refine lv_imul X.1 X.2.1 dX10_puts_122 ?_
        refine lv_iload X.1 X.2.1 dX10_puts_123 (lv_at hl 6 rfl) ?_
        refine lv_iadd X.1 X.2.1 dX10_puts_125 ?_
        refine lv_topi (fun x_40 ex_40 => ?_)
        replace hz_32 := lt_e hz_32 ex_40
        replace hz_32 := gd_e hz_32
        obtain ⟨g_41, hz_32⟩ := hz_32
        refine lMA9 X hw g_41 dX10_puts_126 ?_
        refine lv_topi (fun x_42 ex_42 => ?_)
        replace hz_32 := lt_e hz_32 ex_42
        refine lv_istore (lv' := [(10, .int x_42), (0, .ref (h 0)), (1, .int x1), (3, .int x3), (4, .int x_1), (7, .int j_9), (8, .int j_11), (9, .int y_21)]) X.1 X.2.1 dX10_puts_127 hl (by decide) rfl (fun ls hl => ?_)
        refine lv_aload_n X.1 X.2.1 dX10_puts_129 rfl (lv_at hl 1 rfl) ?_
        refine gX10_netOthers X hw wq_5_21 dX10_puts_130 ?_
        refine lv_bipush (v := 10) X.1 X.2.1 dX10_puts_133 (by decide) ?_
        refine lv_iload_n X.1 X.2.1 dX10_puts_135 rfl (lv_at hl 2 rfl) ?_
        refine lv_imul X.1 X.2.1 dX10_puts_136 ?_
        refine lv_iload X.1 X.2.1 dX10_puts_137 (lv_at hl 7 rfl) ?_
        refine lv_iadd X.1 X.2.1 dX10_puts_139 ?_
        refine lv_topi (fun x_43 ex_43 => ?_)
        replace hz_32 := lt_e hz_32 ex_43
        replace hz_32 := gd_e hz_32
        obtain ⟨g_44, hz_32⟩ := hz_32
        refine lMA10 X hw g_44 dX10_puts_140 ?_
        refine lv_topi (fun x_45 ex_45 => ?_)
        replace hz_32 := lt_e hz_32 ex_45
        refine lv_istore (lv' := [(11, .int x_45), (10, .int x_42), (0, .ref (h 0)), (1, .int x1), (3, .int x3), (4, .int x_1), (7, .int j_9), (8, .int j_11), (9, .int y_21)]) X.1 X.2.1 dX10_puts_141 hl (by decide) rfl (fun ls hl => ?_)
        refine lv_aload_n X.1 X.2.1 dX10_puts_143 rfl (lv_at hl 2 rfl) ?_
        refine gX10_netOnes X hw wq_5_20 dX10_puts_144 ?_
        refine lv_bipush (v := 10) X.1 X.2.1 dX10_puts_147 (by decide) ?_
        refine lv_iload X.1 X.2.1 dX10_puts_149 (lv_at hl 5 rfl) ?_
        refine lv_imul X.1 X.2.1 dX10_puts_151 ?_
        refine lv_iload X.1 X.2.1 dX10_puts_152 (lv_at hl 8 rfl) ?_
        refine lv_iadd X.1 X.2.1 dX10_puts_154 ?_
        refine lv_iload_n X.1 X.2.1 dX10_puts_155 rfl (lv_at hl 4 rfl) ?_
        replace hz_32 := ob_e hz_32
        obtain ⟨j_47, hg_62, hz_32⟩ := hz_32
        have J_63 : ∀ (H : Heap) (locs : List Loc) (ls : Array Slot), Wd g 20 h (cM g h t_22) s H locs → lv_has ls 12 [(0, .ref (h 0)), (1, .int x1), (3, .int x3), (4, .int x_1), (7, .int j_9), (8, .int j_11), (9, .int y_21), (11, .int x_45)] → W p l e (rW 0 0) s m AV below meth c H locs 0 0 Q (F0 m 173 ls [.int j_47, .int (((10 : Int32) * x_1) + y_21), .ref (h 12)]) := by
          intro H locs ls hw hl
          replace hz_32 := gd_e hz_32
          obtain ⟨g_48, hz_32⟩ := hz_32
          refine sMA9 X hw g_48 dX10_puts_173 (fun H locs hw => ?_)
          obtain ⟨t_49, et_49⟩ : ∃ y, y = wA t_22 9 (((10 : Int32) * x_1) + y_21).toNatClampNeg j_47 := ⟨_, rfl⟩
          rw [← et_49] at hw
          replace hz_32 := lt_e hz_32 et_49
          refine lv_aload_n X.1 X.2.1 dX10_puts_174 rfl (lv_at hl 0 rfl) ?_
          refine gX10_netOthers X hw wq_5_21 dX10_puts_175 ?_
          refine lv_bipush (v := 10) X.1 X.2.1 dX10_puts_178 (by decide) ?_
          refine lv_iload X.1 X.2.1 dX10_puts_180 (lv_at hl 3 rfl) ?_
          refine lv_imul X.1 X.2.1 dX10_puts_182 ?_
          refine lv_iload X.1 X.2.1 dX10_puts_183 (lv_at hl 6 rfl) ?_
          refine lv_iadd X.1 X.2.1 dX10_puts_185 ?_
          refine lv_iload_n X.1 X.2.1 dX10_puts_186 rfl (lv_at hl 2 rfl) ?_
          replace hz_32 := ob_e hz_32
          obtain ⟨j_51, hg_59, hz_32⟩ := hz_32
          have J_60 : ∀ (H : Heap) (locs : List Loc) (ls : Array Slot), Wd g 20 h (cM g h t_49) s H locs → lv_has ls 12 [(0, .ref (h 0)), (1, .int x1), (3, .int x3), (4, .int x_1), (7, .int j_9), (8, .int j_11), (9, .int y_21)] → W p l e (rW 0 0) s m AV below meth c H locs 0 0 Q (F0 m 204 ls [.int j_51, .int (((10 : Int32) * x_1) + y_21), .ref (h 13)]) := by
            intro H locs ls hw hl
            replace hz_32 := gd_e hz_32
            obtain ⟨g_52, hz_32⟩ := hz_32
            refine sMA10 X hw g_52 dX10_puts_204 (fun H locs hw => ?_)
            obtain ⟨t_53, et_53⟩ : ∃ y, y = wA t_49 10 (((10 : Int32) * x_1) + y_21).toNatClampNeg j_51 := ⟨_, rfl⟩
            rw [← et_53] at hw
            replace hz_32 := lt_e hz_32 et_53
            refine lv_aload_n X.1 X.2.1 dX10_puts_205 rfl (lv_at hl 0 rfl) ?_
            refine gX10_netChances X hw wq_5_22 dX10_puts_206 ?_
            refine lv_bipush (v := 10) X.1 X.2.1 dX10_puts_209 (by decide) ?_
            refine lv_iload X.1 X.2.1 dX10_puts_211 (lv_at hl 3 rfl) ?_
            refine lv_imul X.1 X.2.1 dX10_puts_213 ?_
            refine lv_iload X.1 X.2.1 dX10_puts_214 (lv_at hl 6 rfl) ?_
            refine lv_iadd X.1 X.2.1 dX10_puts_216 ?_
            refine lv_aload_n X.1 X.2.1 dX10_puts_217 rfl (lv_at hl 0 rfl) ?_
            refine gX10_netChances X hw wq_5_22 dX10_puts_218 ?_
            refine lv_bipush (v := 10) X.1 X.2.1 dX10_puts_221 (by decide) ?_
            refine lv_iload_n X.1 X.2.1 dX10_puts_223 rfl (lv_at hl 1 rfl) ?_
            refine lv_imul X.1 X.2.1 dX10_puts_224 ?_
            refine lv_iload X.1 X.2.1 dX10_puts_225 (lv_at hl 6 rfl) ?_
            refine lv_iadd X.1 X.2.1 dX10_puts_227 ?_
            refine lv_topi (fun x_54 ex_54 => ?_)
            replace hz_32 := lt_e hz_32 ex_54
            replace hz_32 := gd_e hz_32
            obtain ⟨g_55, hz_32⟩ := hz_32
            refine lMA11 X hw g_55 dX10_puts_228 ?_
            replace hz_32 := gd_e hz_32
            obtain ⟨g_56, hz_32⟩ := hz_32
            refine sMA11 X hw g_56 dX10_puts_229 (fun H locs hw => ?_)
            obtain ⟨t_57, et_57⟩ : ∃ y, y = wA t_53 11 (((10 : Int32) * x_1) + y_21).toNatClampNeg (t_53.2.2.1 11 x_54.toNatClampNeg) := ⟨_, rfl⟩
            rw [← et_57] at hw
            replace hz_32 := lt_e hz_32 et_57
            obtain ⟨x_58, ex_58⟩ : ∃ y : Int32, y = y_21 + 1 := ⟨_, rfl⟩
            replace hz_32 := lt_e hz_32 ex_58
            refine lv_iinc (v := x_58) (lv' := [(9, .int x_58), (0, .ref (h 0)), (1, .int x1), (3, .int x3), (4, .int x_1), (7, .int j_9), (8, .int j_11)]) X.1 X.2.1 dX10_puts_230 hl (k := 6) rfl (by rw [ex_58]; rfl) (by decide) rfl (fun ls hl => ?_)
            refine lv_goto (tgt := 106) X.1 X.2.1 dX10_puts_233 (by decide) ?_
            exact hn_33 _ (Option.some.inj hz_32).symm _ _ _ hw (lv_sub hl [1, 2, 3, 4, 5, 6, 0] rfl)
          refine lv_if_eq (tgt := 202) X.1 X.2.1 dX10_puts_187 (by decide) (fun c_50 => ?_) (fun c_50 => ?_)
          · replace hg_59 := it_p hg_59 c_50
            refine lv_iload X.1 X.2.1 dX10_puts_202 (lv_at hl 7 rfl) ?_
            obtain rfl := Option.some.inj hg_59
            exact J_60 _ _ _ hw (lv_sub hl [0, 1, 2, 3, 4, 5, 6] rfl)
          · replace hg_59 := it_n hg_59 c_50
            refine lv_iload X.1 X.2.1 dX10_puts_190 (lv_at hl 7 rfl) ?_
            refine lv_iload X.1 X.2.1 dX10_puts_192 (lv_at hl 5 rfl) ?_
            refine lv_icmp_ne (tgt := 202) X.1 X.2.1 dX10_puts_194 (by decide) (fun c_61 => ?_) (fun c_61 => ?_)
            · replace hg_59 := it_n hg_59 c_61
              refine lv_iload X.1 X.2.1 dX10_puts_202 (lv_at hl 7 rfl) ?_
              obtain rfl := Option.some.inj hg_59
              exact J_60 _ _ _ hw (lv_sub hl [0, 1, 2, 3, 4, 5, 6] rfl)
            · replace hg_59 := it_p hg_59 c_61
              refine lv_iload X.1 X.2.1 dX10_puts_197 (lv_at hl 4 rfl) ?_
              refine lv_goto (tgt := 204) X.1 X.2.1 dX10_puts_199 (by decide) ?_
              obtain rfl := Option.some.inj hg_59
              exact J_60 _ _ _ hw (lv_sub hl [0, 1, 2, 3, 4, 5, 6] rfl)
        refine lv_if_eq (tgt := 171) X.1 X.2.1 dX10_puts_156 (by decide) (fun c_46 => ?_) (fun c_46 => ?_)
        · replace hg_62 := it_p hg_62 c_46
          refine lv_iload X.1 X.2.1 dX10_puts_171 (lv_at hl 1 rfl) ?_
          obtain rfl := Option.some.inj hg_62
          exact J_63 _ _ _ hw (lv_sub hl [2, 3, 4, 5, 6, 7, 8, 0] rfl)
        · replace hg_62 := it_n hg_62 c_46
          refine lv_iload X.1 X.2.1 dX10_puts_159 (lv_at hl 1 rfl) ?_
          refine lv_iload X.1 X.2.1 dX10_puts_161 (lv_at hl 7 rfl) ?_
          refine lv_icmp_ne (tgt := 171) X.1 X.2.1 dX10_puts_163 (by decide) (fun c_64 => ?_) (fun c_64 => ?_)
          · replace hg_62 := it_n hg_62 c_64
            refine lv_iload X.1 X.2.1 dX10_puts_171 (lv_at hl 1 rfl) ?_
            obtain rfl := Option.some.inj hg_62
            exact J_63 _ _ _ hw (lv_sub hl [2, 3, 4, 5, 6, 7, 8, 0] rfl)
          · replace hg_62 := it_p hg_62 c_64
            refine lv_iload X.1 X.2.1 dX10_puts_166 (lv_at hl 6 rfl) ?_
            refine lv_goto (tgt := 173) X.1 X.2.1 dX10_puts_168 (by decide) ?_
            obtain rfl := Option.some.inj hg_62
            exact J_63 _ _ _ hw (lv_sub hl [2, 3, 4, 5, 6, 7, 8, 0] rfl)
    refine lv_icmp_ge (tgt := 59) X.1 X.2.1 dX10_puts_51 (by decide) (fun c_10 => ?_) (fun c_10 => ?_)
    · replace hg_66 := it_p hg_66 c_10
      refine lv_iload X.1 X.2.1 dX10_puts_59 (lv_at hl 6 rfl) ?_
      obtain rfl := Option.some.inj hg_66
      exact J_67 _ _ _ hw (lv_sub hl [1, 2, 3, 4, 5, 0] rfl)
    · replace hg_66 := it_n hg_66 c_10
      refine lv_iload X.1 X.2.1 dX10_puts_54 (lv_at hl 7 rfl) ?_
      refine lv_goto (tgt := 61) X.1 X.2.1 dX10_puts_56 (by decide) ?_
      obtain rfl := Option.some.inj hg_66
      exact J_67 _ _ _ hw (lv_sub hl [1, 2, 3, 4, 5, 0] rfl)
  refine lv_icmp_ge (tgt := 43) X.1 X.2.1 dX10_puts_35 (by decide) (fun c_8 => ?_) (fun c_8 => ?_)
  · replace hg_68 := it_p hg_68 c_8
    refine lv_iload X.1 X.2.1 dX10_puts_43 (lv_at hl 0 rfl) ?_
    obtain rfl := Option.some.inj hg_68
    exact J_69 _ _ _ hw (lv_sub hl [3, 4, 5, 6, 2, 1, 0] rfl)
  · replace hg_68 := it_n hg_68 c_8
    refine lv_iload X.1 X.2.1 dX10_puts_38 (lv_at hl 1 rfl) ?_
    refine lv_goto (tgt := 45) X.1 X.2.1 dX10_puts_40 (by decide) ?_
    obtain rfl := Option.some.inj hg_68
    exact J_69 _ _ _ hw (lv_sub hl [3, 4, 5, 6, 2, 1, 0] rfl)
def m_X10_asks_L131 (σ : Int32 × ST) : Option ((Int32 × ST) ⊕ (ST)) := (fun (q_87 : Int32 × ST) => un q_87 (fun y_18 t_19 => if y_18 < 0 then some (.inr t_19) else gd (¬ (y_18 < 0 ∨ 12 ≤ y_18.toNatClampNeg)) (Option.bind (if (t_19.2.2.1 14 y_18.toNatClampNeg) = 0 then lt (wI t_19 6 (((t_19.1 6) + (1 : Int32)))) (fun t_72 => Option.bind (if (y_18 + (1 : Int32)) ≤ (t_72.1 7) then some (t_72.1 7) else some (y_18 + (1 : Int32))) (fun (j_74 : Int32) => lt (wI t_72 7 j_74) (fun t_75 => Option.bind (m_X10_tidies t_75 y_18) (fun (t_77 : ST) => Option.bind (m_X10_isAnswered t_77 y_18) (fun (r_79 : Int32) => if r_79 = 0 then gd (¬ (y_18 < 0 ∨ 12 ≤ y_18.toNatClampNeg)) (lt (wA t_77 14 y_18.toNatClampNeg (1 : Int32)) (fun t_82 => some t_82)) else gd (¬ (y_18 < 0 ∨ 12 ≤ y_18.toNatClampNeg)) (lt (wA t_77 14 y_18.toNatClampNeg (3 : Int32)) (fun t_84 => some t_84))))))) else some t_19) (fun (t_31 : ST) => gd (¬ (y_18 < 0 ∨ 12 ≤ y_18.toNatClampNeg)) (Option.bind (if (3 : Int32) ≤ (t_31.2.2.1 14 y_18.toNatClampNeg) then some (0 : Int32) else Option.bind (m_X10_first t_31 y_18) (fun (r_69 : Int32) => some r_69)) (fun (j_34 : Int32) => lt (((10 : Int32) * y_18) + j_34) (fun x_35 => gd (¬ (x_35 < 0 ∨ 120 ≤ x_35.toNatClampNeg)) (lt (t_31.2.2.1 11 x_35.toNatClampNeg) (fun x_37 => gd (¬ (y_18 < 0 ∨ 12 ≤ y_18.toNatClampNeg)) (if (t_31.2.2.1 14 y_18.toNatClampNeg) = (1 : Int32) then if x_37 = 0 then gd (¬ (y_18 < 0 ∨ 12 ≤ y_18.toNatClampNeg)) (if (3 : Int32) ≤ (t_31.2.2.1 14 y_18.toNatClampNeg) then lt (y_18 + (-1)) (fun x_53 => some (.inl (x_53, t_31))) else if x_37 = (1 : Int32) then lt (y_18 + (-1)) (fun x_55 => some (.inl (x_55, t_31))) else gd (¬ (y_18 < 0 ∨ 12 ≤ y_18.toNatClampNeg)) (lt (wA t_31 14 y_18.toNatClampNeg (3 : Int32)) (fun t_57 => Option.bind (m_X10_puts t_57 y_18 j_34 (0 : Int32)) (fun (t_59 : ST) => lt (y_18 + 1) (fun x_60 => some (.inl (x_60, t_59))))))) else gd (¬ (y_18 < 0 ∨ 12 ≤ y_18.toNatClampNeg)) (lt (wA t_31 14 y_18.toNatClampNeg (2 : Int32)) (fun t_62 => Option.bind (m_X10_puts t_62 y_18 j_34 (1 : Int32)) (fun (t_64 : ST) => lt (y_18 + 1) (fun x_65 => some (.inl (x_65, t_64)))))) else gd (¬ (y_18 < 0 ∨ 12 ≤ y_18.toNatClampNeg)) (if (3 : Int32) ≤ (t_31.2.2.1 14 y_18.toNatClampNeg) then lt (y_18 + (-1)) (fun x_42 => some (.inl (x_42, t_31))) else if x_37 = (1 : Int32) then lt (y_18 + (-1)) (fun x_44 => some (.inl (x_44, t_31))) else gd (¬ (y_18 < 0 ∨ 12 ≤ y_18.toNatClampNeg)) (lt (wA t_31 14 y_18.toNatClampNeg (3 : Int32)) (fun t_46 => Option.bind (m_X10_puts t_46 y_18 j_34 (0 : Int32)) (fun (t_48 : ST) => lt (y_18 + 1) (fun x_49 => some (.inl (x_49, t_48))))))))))))))))) σ
def m_X10_asks_L37 (σ : Int32 × ST) : Option ((Int32 × ST) ⊕ (ST)) := (fun (q_116 : Int32 × ST) => un q_116 (fun y_12 t_13 => if (t_13.1 4) ≤ y_12 then some (.inr t_13) else gd (¬ (y_12 < 0 ∨ 10 ≤ y_12.toNatClampNeg)) (gd (¬ (y_12 < 0 ∨ 120 ≤ y_12.toNatClampNeg)) (lt (wA t_13 9 y_12.toNatClampNeg (t_13.2.2.1 1 y_12.toNatClampNeg)) (fun t_98 => gd (¬ (y_12 < 0 ∨ 10 ≤ y_12.toNatClampNeg)) (gd (¬ (y_12 < 0 ∨ 120 ≤ y_12.toNatClampNeg)) (lt (wA t_98 10 y_12.toNatClampNeg (t_98.2.2.1 2 y_12.toNatClampNeg)) (fun t_101 => gd (¬ (y_12 < 0 ∨ 10 ≤ y_12.toNatClampNeg)) (if (t_101.2.2.1 6 y_12.toNatClampNeg) = 0 then gd (¬ (y_12 < 0 ∨ 120 ≤ y_12.toNatClampNeg)) (lt (wA t_101 11 y_12.toNatClampNeg (0 : Int32)) (fun t_114 => lt (y_12 + 1) (fun x_115 => some (.inl (x_115, t_114))))) else gd (¬ (y_12 < 0 ∨ 10 ≤ y_12.toNatClampNeg)) (gd (¬ (y_12 < 0 ∨ 10 ≤ y_12.toNatClampNeg)) (if (t_101.2.2.1 6 y_12.toNatClampNeg) = (t_101.2.2.1 7 y_12.toNatClampNeg) then gd (¬ (y_12 < 0 ∨ 120 ≤ y_12.toNatClampNeg)) (lt (wA t_101 11 y_12.toNatClampNeg (1 : Int32)) (fun t_111 => lt (y_12 + 1) (fun x_112 => some (.inl (x_112, t_111))))) else gd (¬ (y_12 < 0 ∨ 120 ≤ y_12.toNatClampNeg)) (lt (wA t_101 11 y_12.toNatClampNeg (2 : Int32)) (fun t_108 => lt (y_12 + 1) (fun x_109 => some (.inl (x_109, t_108)))))))))))))))) σ
def m_X10_asks (t : ST) : Option (ST) := Option.bind (m_X10_asItIs t) (fun (t_2 : ST) => lt (((1 : Int32) <<< ((t_2.1 4) &&& 31)) - (1 : Int32)) (fun x_3 => gd (¬ ((0 : Int32) < 0 ∨ 12 ≤ (0 : Int32).toNatClampNeg)) (lt (wA t_2 12 (0 : Int32).toNatClampNeg x_3) (fun t_5 => Option.bind (m_X10_wanted t_5) (fun (r_7 : Int32) => gd (¬ ((0 : Int32) < 0 ∨ 12 ≤ (0 : Int32).toNatClampNeg)) (lt (wA t_5 13 (0 : Int32).toNatClampNeg r_7) (fun t_9 => gd (¬ ((0 : Int32) < 0 ∨ 12 ≤ (0 : Int32).toNatClampNeg)) (lt (wA t_9 14 (0 : Int32).toNatClampNeg (0 : Int32)) (fun t_11 => Option.bind (vLoop (m_X10_asks_L37) FUEL ((0 : Int32), t_11)) (fun (t_14 : ST) => lt (wI t_14 6 (0 : Int32)) (fun t_15 => lt (wI t_15 7 (0 : Int32)) (fun t_16 => lt (wI t_16 8 (0 : Int32)) (fun t_17 => Option.bind (vLoop (m_X10_asks_L131) FUEL ((0 : Int32), t_17)) (fun (t_20 : ST) => some t_20))))))))))))))
theorem yo_X10_asks : yX10_asks.cls = RX10 ∧ yX10_asks.cls ≠ "java/lang/invoke/MethodHandle" ∧ yX10_asks.cls ≠ "java/lang/invoke/VarHandle" ∧ (parseMethodDescriptor yX10_asks.desc).map (fun d => d.parameters.length) = some 0 := by decide +kernel
set_option maxHeartbeats 4000000 in
set_option maxRecDepth 100000 in
theorem c_X10_asks {l : Launch} {g : gT} {h : Nat → Nat} {t : ST} {t' : ST} (hm : m_X10_asks t = some (t')) : MetV l g yX10_asks cX10_asks 4 none 5 121 20 h (cM g h t) (cM g h t') [.ref (h 0)] := by
  refine MetV.ofX (by decide +kernel) (Nat.le_of_ble_eq_true rfl) ?_
  intro p e s m below meth c AV Q X hret ls hw hl
  replace X : Cx g p s m AV c cX10_asks RX10 4 := X
  replace hl : lv_has ls 4 [(0, .ref (h 0))] := hl
  unfold m_X10_asks at hm
  refine lv_aload_n X.1 X.2.1 dX10_asks_0 rfl (lv_at hl 0 rfl) ?_
  replace hm := ob_e hm
  obtain ⟨t_2, h_1, hm⟩ := hm
  refine k_Vv (k := 0) (As := []) X hl.1 hw (c_X10_asItIs h_1) (by decide) (he_X10 g h _) rfl ⟨wq_18_4, wq_18_5, wq_18_6, wq_1_5, wq_18_7⟩ yo_X10_asItIs rfl ⟨Nat.le_of_ble_eq_true rfl, Nat.le_of_ble_eq_true rfl⟩ (Nat.le_of_ble_eq_true rfl) dX10_asks_1 (fun H locs hw => ?_)
  refine lv_aload_n X.1 X.2.1 dX10_asks_4 rfl (lv_at hl 0 rfl) ?_
  refine gX10_present X hw wq_5_23 dX10_asks_5 ?_
  refine lv_iconst (v := 0) X.1 X.2.1 dX10_asks_8 (by decide) ?_
  refine lv_iconst (v := 1) X.1 X.2.1 dX10_asks_9 (by decide) ?_
  refine lv_aload_n X.1 X.2.1 dX10_asks_10 rfl (lv_at hl 0 rfl) ?_
  refine gX10_links X hw wq_7_2 dX10_asks_11 ?_
  refine lv_ishl X.1 X.2.1 dX10_asks_14 ?_
  refine lv_iconst (v := 1) X.1 X.2.1 dX10_asks_15 (by decide) ?_
  refine lv_isub X.1 X.2.1 dX10_asks_16 ?_
  refine lv_topi (fun x_3 ex_3 => ?_)
  replace hm := lt_e hm ex_3
  replace hm := gd_e hm
  obtain ⟨g_4, hm⟩ := hm
  refine sMA12 X hw g_4 dX10_asks_17 (fun H locs hw => ?_)
  obtain ⟨t_5, et_5⟩ : ∃ y, y = wA t_2 12 (0 : Int32).toNatClampNeg x_3 := ⟨_, rfl⟩
  rw [← et_5] at hw
  replace hm := lt_e hm et_5
  refine lv_aload_n X.1 X.2.1 dX10_asks_18 rfl (lv_at hl 0 rfl) ?_
  refine gX10_netWanted X hw wq_6_0 dX10_asks_19 ?_
  refine lv_iconst (v := 0) X.1 X.2.1 dX10_asks_22 (by decide) ?_
  refine lv_aload_n X.1 X.2.1 dX10_asks_23 rfl (lv_at hl 0 rfl) ?_
  replace hm := ob_e hm
  obtain ⟨r_7, h_6, hm⟩ := hm
  refine k_Vi (k := 0) (As := []) X hl.1 hw (c_X10_wanted h_6) (by decide) (he_X10 g h _) rfl ⟨wq_18_8, wq_18_9, wq_18_10, wq_1_5, wq_18_11⟩ yo_X10_wanted rfl ⟨Nat.le_of_ble_eq_true rfl, Nat.le_of_ble_eq_true rfl⟩ (Nat.le_of_ble_eq_true rfl) dX10_asks_24 (fun H locs hw => ?_)
  replace hm := gd_e hm
  obtain ⟨g_8, hm⟩ := hm
  refine sMA13 X hw g_8 dX10_asks_27 (fun H locs hw => ?_)
  obtain ⟨t_9, et_9⟩ : ∃ y, y = wA t_5 13 (0 : Int32).toNatClampNeg r_7 := ⟨_, rfl⟩
  rw [← et_9] at hw
  replace hm := lt_e hm et_9
  refine lv_aload_n X.1 X.2.1 dX10_asks_28 rfl (lv_at hl 0 rfl) ?_
  refine gX10_stages X hw wq_6_1 dX10_asks_29 ?_
  refine lv_iconst (v := 0) X.1 X.2.1 dX10_asks_32 (by decide) ?_
  refine lv_iconst (v := 0) X.1 X.2.1 dX10_asks_33 (by decide) ?_
  replace hm := gd_e hm
  obtain ⟨g_10, hm⟩ := hm
  refine sMA14 X hw g_10 dX10_asks_34 (fun H locs hw => ?_)
  obtain ⟨t_11, et_11⟩ : ∃ y, y = wA t_9 14 (0 : Int32).toNatClampNeg (0 : Int32) := ⟨_, rfl⟩
  rw [← et_11] at hw
  replace hm := lt_e hm et_11
  refine lv_iconst (v := 0) X.1 X.2.1 dX10_asks_35 (by decide) ?_
  refine lv_istore_n (lv' := [(1, .int (0 : Int32)), (0, .ref (h 0))]) X.1 X.2.1 dX10_asks_36 rfl hl (by decide) rfl (fun ls hl => ?_)
  replace hm := ob_e hm
  obtain ⟨t_14, hL_93, hm⟩ := hm
  have J_92 : ∀ (H : Heap) (locs : List Loc) (ls : Array Slot), Wd g 20 h (cM g h t_14) s H locs → lv_has ls 4 [(0, .ref (h 0))] → W p l e (rW 5 121) s m AV below meth c H locs 0 0 Q (F0 m 114 ls []) := by
    intro H locs ls hw hl
    refine lv_aload_n X.1 X.2.1 dX10_asks_114 rfl (lv_at hl 0 rfl) ?_
    refine lv_iconst (v := 0) X.1 X.2.1 dX10_asks_115 (by decide) ?_
    refine pX10_steps X hw wq_25_16 dX10_asks_116 (fun H locs hw => ?_)
    obtain ⟨t_15, et_15⟩ : ∃ y, y = wI t_14 6 (0 : Int32) := ⟨_, rfl⟩
    rw [← et_15] at hw
    replace hm := lt_e hm et_15
    refine lv_aload_n X.1 X.2.1 dX10_asks_119 rfl (lv_at hl 0 rfl) ?_
    refine lv_iconst (v := 0) X.1 X.2.1 dX10_asks_120 (by decide) ?_
    refine pX10_deep X hw wq_25_17 dX10_asks_121 (fun H locs hw => ?_)
    obtain ⟨t_16, et_16⟩ : ∃ y, y = wI t_15 7 (0 : Int32) := ⟨_, rfl⟩
    rw [← et_16] at hw
    replace hm := lt_e hm et_16
    refine lv_aload_n X.1 X.2.1 dX10_asks_124 rfl (lv_at hl 0 rfl) ?_
    refine lv_iconst (v := 0) X.1 X.2.1 dX10_asks_125 (by decide) ?_
    refine pX10_tidy X hw wq_25_18 dX10_asks_126 (fun H locs hw => ?_)
    obtain ⟨t_17, et_17⟩ : ∃ y, y = wI t_16 8 (0 : Int32) := ⟨_, rfl⟩
    rw [← et_17] at hw
    replace hm := lt_e hm et_17
    refine lv_iconst (v := 0) X.1 X.2.1 dX10_asks_129 (by decide) ?_
    refine lv_istore_n (lv' := [(1, .int (0 : Int32)), (0, .ref (h 0))]) X.1 X.2.1 dX10_asks_130 rfl hl (by decide) rfl (fun ls hl => ?_)
    replace hm := ob_e hm
    obtain ⟨t_20, hL_26, hm⟩ := hm
    have J_25 : ∀ (H : Heap) (locs : List Loc) (ls : Array Slot), Wd g 20 h (cM g h t_20) s H locs → lv_has ls 4 [] → W p l e (rW 5 121) s m AV below meth c H locs 0 0 Q (F0 m 309 ls []) := by
      intro H locs ls hw hl
      obtain rfl := Option.some.inj hm
      exact hret _ _ _ _ hw dX10_asks_309
    refine vLoop_ind (B := (m_X10_asks_L131)) (fun σ => ∀ (H : Heap) (locs : List Loc) (ls : Array Slot), Wd g 20 h (cM g h σ.2) s H locs → lv_has ls 4 [(0, .ref (h 0)), (1, .int σ.1)] → W p l e (rW 5 121) s m AV below meth c H locs 0 0 Q (F0 m 131 ls [])) (fun z' => z' = t_20) ?_ FUEL _ _ hL_26 rfl _ _ _ hw (lv_sub hl [1, 0] rfl)
    intro σ z_24 hz_21 hn_22 hx_23
    obtain ⟨y_18, t_19⟩ := σ
    intro H locs ls hw hl
    replace hw : Wd g 20 h (cM g h t_19) s H locs := hw
    replace hl : lv_has ls 4 [(0, .ref (h 0)), (1, .int y_18)] := hl
    unfold m_X10_asks_L131 at hz_21
    replace hz_21 := un_e hz_21
    refine lv_iload_n X.1 X.2.1 dX10_asks_131 rfl (lv_at hl 1 rfl) ?_
    refine lv_if_lt (tgt := 309) X.1 X.2.1 dX10_asks_132 (by decide) (fun c_28 => ?_) (fun c_28 => ?_)
    · replace hz_21 := it_p hz_21 c_28
      obtain rfl := hx_23 _ (Option.some.inj hz_21).symm
      exact J_25 _ _ _ hw (lv_sub hl [] rfl)
    · replace hz_21 := it_n hz_21 c_28
      refine lv_aload_n X.1 X.2.1 dX10_asks_135 rfl (lv_at hl 0 rfl) ?_
      refine gX10_stages X hw wq_6_1 dX10_asks_136 ?_
      refine lv_iload_n X.1 X.2.1 dX10_asks_139 rfl (lv_at hl 1 rfl) ?_
      replace hz_21 := gd_e hz_21
      obtain ⟨g_29, hz_21⟩ := hz_21
      refine lMA14 X hw g_29 dX10_asks_140 ?_
      replace hz_21 := ob_e hz_21
      obtain ⟨t_31, hg_70, hz_21⟩ := hz_21
      have J_71 : ∀ (H : Heap) (locs : List Loc) (ls : Array Slot), Wd g 20 h (cM g h t_31) s H locs → lv_has ls 4 [(0, .ref (h 0)), (1, .int y_18)] → W p l e (rW 5 121) s m AV below meth c H locs 0 0 Q (F0 m 202 ls []) := by
        intro H locs ls hw hl
        refine lv_aload_n X.1 X.2.1 dX10_asks_202 rfl (lv_at hl 0 rfl) ?_
        refine gX10_stages X hw wq_6_1 dX10_asks_203 ?_
        refine lv_iload_n X.1 X.2.1 dX10_asks_206 rfl (lv_at hl 1 rfl) ?_
        replace hz_21 := gd_e hz_21
        obtain ⟨g_32, hz_21⟩ := hz_21
        refine lMA14 X hw g_32 dX10_asks_207 ?_
        refine lv_iconst (v := 3) X.1 X.2.1 dX10_asks_208 (by decide) ?_
        replace hz_21 := ob_e hz_21
        obtain ⟨j_34, hg_66, hz_21⟩ := hz_21
        have J_67 : ∀ (H : Heap) (locs : List Loc) (ls : Array Slot), Wd g 20 h (cM g h t_31) s H locs → lv_has ls 4 [(0, .ref (h 0)), (1, .int y_18)] → W p l e (rW 5 121) s m AV below meth c H locs 0 0 Q (F0 m 221 ls [.int j_34]) := by
          intro H locs ls hw hl
          refine lv_istore_n (lv' := [(2, .int j_34), (0, .ref (h 0)), (1, .int y_18)]) X.1 X.2.1 dX10_asks_221 rfl hl (by decide) rfl (fun ls hl => ?_)
          refine lv_aload_n X.1 X.2.1 dX10_asks_222 rfl (lv_at hl 1 rfl) ?_
          refine gX10_netChances X hw wq_5_22 dX10_asks_223 ?_
          refine lv_bipush (v := 10) X.1 X.2.1 dX10_asks_226 (by decide) ?_
          refine lv_iload_n X.1 X.2.1 dX10_asks_228 rfl (lv_at hl 2 rfl) ?_
          refine lv_imul X.1 X.2.1 dX10_asks_229 ?_
          refine lv_iload_n X.1 X.2.1 dX10_asks_230 rfl (lv_at hl 0 rfl) ?_
          refine lv_iadd X.1 X.2.1 dX10_asks_231 ?_
          refine lv_topi (fun x_35 ex_35 => ?_)
          replace hz_21 := lt_e hz_21 ex_35
          replace hz_21 := gd_e hz_21
          obtain ⟨g_36, hz_21⟩ := hz_21
          refine lMA11 X hw g_36 dX10_asks_232 ?_
          refine lv_topi (fun x_37 ex_37 => ?_)
          replace hz_21 := lt_e hz_21 ex_37
          refine lv_istore_n (lv' := [(3, .int x_37), (2, .int j_34), (0, .ref (h 0)), (1, .int y_18)]) X.1 X.2.1 dX10_asks_233 rfl hl (by decide) rfl (fun ls hl => ?_)
          refine lv_aload_n X.1 X.2.1 dX10_asks_234 rfl (lv_at hl 2 rfl) ?_
          refine gX10_stages X hw wq_6_1 dX10_asks_235 ?_
          refine lv_iload_n X.1 X.2.1 dX10_asks_238 rfl (lv_at hl 3 rfl) ?_
          replace hz_21 := gd_e hz_21
          obtain ⟨g_38, hz_21⟩ := hz_21
          refine lMA14 X hw g_38 dX10_asks_239 ?_
          refine lv_iconst (v := 1) X.1 X.2.1 dX10_asks_240 (by decide) ?_
          refine lv_icmp_ne (tgt := 268) X.1 X.2.1 dX10_asks_241 (by decide) (fun c_39 => ?_) (fun c_39 => ?_)
          · replace hz_21 := it_n hz_21 c_39
            refine lv_aload_n X.1 X.2.1 dX10_asks_268 rfl (lv_at hl 2 rfl) ?_
            refine gX10_stages X hw wq_6_1 dX10_asks_269 ?_
            refine lv_iload_n X.1 X.2.1 dX10_asks_272 rfl (lv_at hl 3 rfl) ?_
            replace hz_21 := gd_e hz_21
            obtain ⟨g_40, hz_21⟩ := hz_21
            refine lMA14 X hw g_40 dX10_asks_273 ?_
            refine lv_iconst (v := 3) X.1 X.2.1 dX10_asks_274 (by decide) ?_
            refine lv_icmp_ge (tgt := 303) X.1 X.2.1 dX10_asks_275 (by decide) (fun c_41 => ?_) (fun c_41 => ?_)
            · replace hz_21 := it_p hz_21 c_41
              obtain ⟨x_42, ex_42⟩ : ∃ y : Int32, y = y_18 + (-1) := ⟨_, rfl⟩
              replace hz_21 := lt_e hz_21 ex_42
              refine lv_iinc (v := x_42) (lv' := [(1, .int x_42), (3, .int x_37), (2, .int j_34), (0, .ref (h 0))]) X.1 X.2.1 dX10_asks_303 hl (k := 3) rfl (by rw [ex_42]; rfl) (by decide) rfl (fun ls hl => ?_)
              refine lv_goto (tgt := 131) X.1 X.2.1 dX10_asks_306 (by decide) ?_
              exact hn_22 _ (Option.some.inj hz_21).symm _ _ _ hw (lv_sub hl [3, 0] rfl)
            · replace hz_21 := it_n hz_21 c_41
              refine lv_iload_n X.1 X.2.1 dX10_asks_278 rfl (lv_at hl 0 rfl) ?_
              refine lv_iconst (v := 1) X.1 X.2.1 dX10_asks_279 (by decide) ?_
              refine lv_icmp_eq (tgt := 303) X.1 X.2.1 dX10_asks_280 (by decide) (fun c_43 => ?_) (fun c_43 => ?_)
              · replace hz_21 := it_p hz_21 c_43
                obtain ⟨x_44, ex_44⟩ : ∃ y : Int32, y = y_18 + (-1) := ⟨_, rfl⟩
                replace hz_21 := lt_e hz_21 ex_44
                refine lv_iinc (v := x_44) (lv' := [(1, .int x_44), (3, .int x_37), (2, .int j_34), (0, .ref (h 0))]) X.1 X.2.1 dX10_asks_303 hl (k := 3) rfl (by rw [ex_44]; rfl) (by decide) rfl (fun ls hl => ?_)
                refine lv_goto (tgt := 131) X.1 X.2.1 dX10_asks_306 (by decide) ?_
                exact hn_22 _ (Option.some.inj hz_21).symm _ _ _ hw (lv_sub hl [3, 0] rfl)
              · replace hz_21 := it_n hz_21 c_43
                refine lv_aload_n X.1 X.2.1 dX10_asks_283 rfl (lv_at hl 2 rfl) ?_
                refine gX10_stages X hw wq_6_1 dX10_asks_284 ?_
                refine lv_iload_n X.1 X.2.1 dX10_asks_287 rfl (lv_at hl 3 rfl) ?_
                refine lv_iconst (v := 3) X.1 X.2.1 dX10_asks_288 (by decide) ?_
                replace hz_21 := gd_e hz_21
                obtain ⟨g_45, hz_21⟩ := hz_21
                refine sMA14 X hw g_45 dX10_asks_289 (fun H locs hw => ?_)
                obtain ⟨t_46, et_46⟩ : ∃ y, y = wA t_31 14 y_18.toNatClampNeg (3 : Int32) := ⟨_, rfl⟩
                rw [← et_46] at hw
                replace hz_21 := lt_e hz_21 et_46
                refine lv_aload_n X.1 X.2.1 dX10_asks_290 rfl (lv_at hl 2 rfl) ?_
                refine lv_iload_n X.1 X.2.1 dX10_asks_291 rfl (lv_at hl 3 rfl) ?_
                refine lv_iload_n X.1 X.2.1 dX10_asks_292 rfl (lv_at hl 1 rfl) ?_
                refine lv_iconst (v := 0) X.1 X.2.1 dX10_asks_293 (by decide) ?_
                replace hz_21 := ob_e hz_21
                obtain ⟨t_48, h_47, hz_21⟩ := hz_21
                refine k_Vv (k := 0) (As := [.int y_18, .int j_34, .int (0 : Int32)]) X hl.1 hw (c_X10_puts h_47) (by decide) (he_X10 g h _) rfl ⟨wq_28_6, wq_28_7, wq_28_8, wq_1_5, wq_28_9⟩ yo_X10_puts rfl ⟨Nat.le_of_ble_eq_true rfl, Nat.le_of_ble_eq_true rfl⟩ (Nat.le_of_ble_eq_true rfl) dX10_asks_294 (fun H locs hw => ?_)
                obtain ⟨x_49, ex_49⟩ : ∃ y : Int32, y = y_18 + 1 := ⟨_, rfl⟩
                replace hz_21 := lt_e hz_21 ex_49
                refine lv_iinc (v := x_49) (lv' := [(1, .int x_49), (3, .int x_37), (2, .int j_34), (0, .ref (h 0))]) X.1 X.2.1 dX10_asks_297 hl (k := 3) rfl (by rw [ex_49]; rfl) (by decide) rfl (fun ls hl => ?_)
                refine lv_goto (tgt := 306) X.1 X.2.1 dX10_asks_300 (by decide) ?_
                refine lv_goto (tgt := 131) X.1 X.2.1 dX10_asks_306 (by decide) ?_
                exact hn_22 _ (Option.some.inj hz_21).symm _ _ _ hw (lv_sub hl [3, 0] rfl)
          · replace hz_21 := it_p hz_21 c_39
            refine lv_iload_n X.1 X.2.1 dX10_asks_244 rfl (lv_at hl 0 rfl) ?_
            refine lv_if_eq (tgt := 268) X.1 X.2.1 dX10_asks_245 (by decide) (fun c_50 => ?_) (fun c_50 => ?_)
            · replace hz_21 := it_p hz_21 c_50
              refine lv_aload_n X.1 X.2.1 dX10_asks_268 rfl (lv_at hl 2 rfl) ?_
              refine gX10_stages X hw wq_6_1 dX10_asks_269 ?_
              refine lv_iload_n X.1 X.2.1 dX10_asks_272 rfl (lv_at hl 3 rfl) ?_
              replace hz_21 := gd_e hz_21
              obtain ⟨g_51, hz_21⟩ := hz_21
              refine lMA14 X hw g_51 dX10_asks_273 ?_
              refine lv_iconst (v := 3) X.1 X.2.1 dX10_asks_274 (by decide) ?_
              refine lv_icmp_ge (tgt := 303) X.1 X.2.1 dX10_asks_275 (by decide) (fun c_52 => ?_) (fun c_52 => ?_)
              · replace hz_21 := it_p hz_21 c_52
                obtain ⟨x_53, ex_53⟩ : ∃ y : Int32, y = y_18 + (-1) := ⟨_, rfl⟩
                replace hz_21 := lt_e hz_21 ex_53
                refine lv_iinc (v := x_53) (lv' := [(1, .int x_53), (3, .int x_37), (2, .int j_34), (0, .ref (h 0))]) X.1 X.2.1 dX10_asks_303 hl (k := 3) rfl (by rw [ex_53]; rfl) (by decide) rfl (fun ls hl => ?_)
                refine lv_goto (tgt := 131) X.1 X.2.1 dX10_asks_306 (by decide) ?_
                exact hn_22 _ (Option.some.inj hz_21).symm _ _ _ hw (lv_sub hl [3, 0] rfl)
              · replace hz_21 := it_n hz_21 c_52
                refine lv_iload_n X.1 X.2.1 dX10_asks_278 rfl (lv_at hl 0 rfl) ?_
                refine lv_iconst (v := 1) X.1 X.2.1 dX10_asks_279 (by decide) ?_
                refine lv_icmp_eq (tgt := 303) X.1 X.2.1 dX10_asks_280 (by decide) (fun c_54 => ?_) (fun c_54 => ?_)
                · replace hz_21 := it_p hz_21 c_54
                  obtain ⟨x_55, ex_55⟩ : ∃ y : Int32, y = y_18 + (-1) := ⟨_, rfl⟩
                  replace hz_21 := lt_e hz_21 ex_55
                  refine lv_iinc (v := x_55) (lv' := [(1, .int x_55), (3, .int x_37), (2, .int j_34), (0, .ref (h 0))]) X.1 X.2.1 dX10_asks_303 hl (k := 3) rfl (by rw [ex_55]; rfl) (by decide) rfl (fun ls hl => ?_)
                  refine lv_goto (tgt := 131) X.1 X.2.1 dX10_asks_306 (by decide) ?_
                  exact hn_22 _ (Option.some.inj hz_21).symm _ _ _ hw (lv_sub hl [3, 0] rfl)
                · replace hz_21 := it_n hz_21 c_54
                  refine lv_aload_n X.1 X.2.1 dX10_asks_283 rfl (lv_at hl 2 rfl) ?_
                  refine gX10_stages X hw wq_6_1 dX10_asks_284 ?_
                  refine lv_iload_n X.1 X.2.1 dX10_asks_287 rfl (lv_at hl 3 rfl) ?_
                  refine lv_iconst (v := 3) X.1 X.2.1 dX10_asks_288 (by decide) ?_
                  replace hz_21 := gd_e hz_21
                  obtain ⟨g_56, hz_21⟩ := hz_21
                  refine sMA14 X hw g_56 dX10_asks_289 (fun H locs hw => ?_)
                  obtain ⟨t_57, et_57⟩ : ∃ y, y = wA t_31 14 y_18.toNatClampNeg (3 : Int32) := ⟨_, rfl⟩
                  rw [← et_57] at hw
                  replace hz_21 := lt_e hz_21 et_57
                  refine lv_aload_n X.1 X.2.1 dX10_asks_290 rfl (lv_at hl 2 rfl) ?_
                  refine lv_iload_n X.1 X.2.1 dX10_asks_291 rfl (lv_at hl 3 rfl) ?_
                  refine lv_iload_n X.1 X.2.1 dX10_asks_292 rfl (lv_at hl 1 rfl) ?_
                  refine lv_iconst (v := 0) X.1 X.2.1 dX10_asks_293 (by decide) ?_
                  replace hz_21 := ob_e hz_21
                  obtain ⟨t_59, h_58, hz_21⟩ := hz_21
                  refine k_Vv (k := 0) (As := [.int y_18, .int j_34, .int (0 : Int32)]) X hl.1 hw (c_X10_puts h_58) (by decide) (he_X10 g h _) rfl ⟨wq_28_6, wq_28_7, wq_28_8, wq_1_5, wq_28_9⟩ yo_X10_puts rfl ⟨Nat.le_of_ble_eq_true rfl, Nat.le_of_ble_eq_true rfl⟩ (Nat.le_of_ble_eq_true rfl) dX10_asks_294 (fun H locs hw => ?_)
                  obtain ⟨x_60, ex_60⟩ : ∃ y : Int32, y = y_18 + 1 := ⟨_, rfl⟩
                  replace hz_21 := lt_e hz_21 ex_60
                  refine lv_iinc (v := x_60) (lv' := [(1, .int x_60), (3, .int x_37), (2, .int j_34), (0, .ref (h 0))]) X.1 X.2.1 dX10_asks_297 hl (k := 3) rfl (by rw [ex_60]; rfl) (by decide) rfl (fun ls hl => ?_)
                  refine lv_goto (tgt := 306) X.1 X.2.1 dX10_asks_300 (by decide) ?_
                  refine lv_goto (tgt := 131) X.1 X.2.1 dX10_asks_306 (by decide) ?_
                  exact hn_22 _ (Option.some.inj hz_21).symm _ _ _ hw (lv_sub hl [3, 0] rfl)
            · replace hz_21 := it_n hz_21 c_50
              refine lv_aload_n X.1 X.2.1 dX10_asks_248 rfl (lv_at hl 2 rfl) ?_
              refine gX10_stages X hw wq_6_1 dX10_asks_249 ?_
              refine lv_iload_n X.1 X.2.1 dX10_asks_252 rfl (lv_at hl 3 rfl) ?_
              refine lv_iconst (v := 2) X.1 X.2.1 dX10_asks_253 (by decide) ?_
              replace hz_21 := gd_e hz_21
              obtain ⟨g_61, hz_21⟩ := hz_21
              refine sMA14 X hw g_61 dX10_asks_254 (fun H locs hw => ?_)
              obtain ⟨t_62, et_62⟩ : ∃ y, y = wA t_31 14 y_18.toNatClampNeg (2 : Int32) := ⟨_, rfl⟩
              rw [← et_62] at hw
              replace hz_21 := lt_e hz_21 et_62
              refine lv_aload_n X.1 X.2.1 dX10_asks_255 rfl (lv_at hl 2 rfl) ?_
              refine lv_iload_n X.1 X.2.1 dX10_asks_256 rfl (lv_at hl 3 rfl) ?_
              refine lv_iload_n X.1 X.2.1 dX10_asks_257 rfl (lv_at hl 1 rfl) ?_
              refine lv_iconst (v := 1) X.1 X.2.1 dX10_asks_258 (by decide) ?_
              replace hz_21 := ob_e hz_21
              obtain ⟨t_64, h_63, hz_21⟩ := hz_21
              refine k_Vv (k := 0) (As := [.int y_18, .int j_34, .int (1 : Int32)]) X hl.1 hw (c_X10_puts h_63) (by decide) (he_X10 g h _) rfl ⟨wq_28_6, wq_28_7, wq_28_8, wq_1_5, wq_28_9⟩ yo_X10_puts rfl ⟨Nat.le_of_ble_eq_true rfl, Nat.le_of_ble_eq_true rfl⟩ (Nat.le_of_ble_eq_true rfl) dX10_asks_259 (fun H locs hw => ?_)
              obtain ⟨x_65, ex_65⟩ : ∃ y : Int32, y = y_18 + 1 := ⟨_, rfl⟩
              replace hz_21 := lt_e hz_21 ex_65
              refine lv_iinc (v := x_65) (lv' := [(1, .int x_65), (3, .int x_37), (2, .int j_34), (0, .ref (h 0))]) X.1 X.2.1 dX10_asks_262 hl (k := 3) rfl (by rw [ex_65]; rfl) (by decide) rfl (fun ls hl => ?_)
              refine lv_goto (tgt := 306) X.1 X.2.1 dX10_asks_265 (by decide) ?_
              refine lv_goto (tgt := 131) X.1 X.2.1 dX10_asks_306 (by decide) ?_
              exact hn_22 _ (Option.some.inj hz_21).symm _ _ _ hw (lv_sub hl [3, 0] rfl)
        refine lv_icmp_ge (tgt := 220) X.1 X.2.1 dX10_asks_209 (by decide) (fun c_33 => ?_) (fun c_33 => ?_)
        · replace hg_66 := it_p hg_66 c_33
          refine lv_iconst (v := 0) X.1 X.2.1 dX10_asks_220 (by decide) ?_
          obtain rfl := Option.some.inj hg_66
          exact J_67 _ _ _ hw (lv_sub hl [0, 1] rfl)
        · replace hg_66 := it_n hg_66 c_33
          refine lv_aload_n X.1 X.2.1 dX10_asks_212 rfl (lv_at hl 0 rfl) ?_
          refine lv_iload_n X.1 X.2.1 dX10_asks_213 rfl (lv_at hl 1 rfl) ?_
          replace hg_66 := ob_e hg_66
          obtain ⟨r_69, h_68, hg_66⟩ := hg_66
          refine k_Vi (k := 0) (As := [.int y_18]) X hl.1 hw (c_X10_first h_68) (by decide) (he_X10 g h _) rfl ⟨wq_28_2, wq_28_3, wq_28_4, wq_1_5, wq_28_5⟩ yo_X10_first rfl ⟨Nat.le_of_ble_eq_true rfl, Nat.le_of_ble_eq_true rfl⟩ (Nat.le_of_ble_eq_true rfl) dX10_asks_214 (fun H locs hw => ?_)
          refine lv_goto (tgt := 221) X.1 X.2.1 dX10_asks_217 (by decide) ?_
          obtain rfl := Option.some.inj hg_66
          exact J_67 _ _ _ hw (lv_sub hl [0, 1] rfl)
      refine lv_if_ne (tgt := 202) X.1 X.2.1 dX10_asks_141 (by decide) (fun c_30 => ?_) (fun c_30 => ?_)
      · replace hg_70 := it_n hg_70 c_30
        obtain rfl := Option.some.inj hg_70
        exact J_71 _ _ _ hw (lv_sub hl [0, 1] rfl)
      · replace hg_70 := it_p hg_70 c_30
        refine lv_aload_n X.1 X.2.1 dX10_asks_144 rfl (lv_at hl 0 rfl) ?_
        refine lv_dup X.1 X.2.1 dX10_asks_145 rfl ?_
        refine gX10_steps X hw wq_25_16 dX10_asks_146 ?_
        refine lv_iconst (v := 1) X.1 X.2.1 dX10_asks_149 (by decide) ?_
        refine lv_iadd X.1 X.2.1 dX10_asks_150 ?_
        refine pX10_steps X hw wq_25_16 dX10_asks_151 (fun H locs hw => ?_)
        obtain ⟨t_72, et_72⟩ : ∃ y, y = wI t_19 6 (((t_19.1 6) + (1 : Int32))) := ⟨_, rfl⟩
        rw [← et_72] at hw
        replace hg_70 := lt_e hg_70 et_72
        refine lv_aload_n X.1 X.2.1 dX10_asks_154 rfl (lv_at hl 0 rfl) ?_
        refine lv_iload_n X.1 X.2.1 dX10_asks_155 rfl (lv_at hl 1 rfl) ?_
        refine lv_iconst (v := 1) X.1 X.2.1 dX10_asks_156 (by decide) ?_
        refine lv_iadd X.1 X.2.1 dX10_asks_157 ?_
        refine lv_aload_n X.1 X.2.1 dX10_asks_158 rfl (lv_at hl 0 rfl) ?_
        refine gX10_deep X hw wq_25_17 dX10_asks_159 ?_
        replace hg_70 := ob_e hg_70
        obtain ⟨j_74, hg_85, hg_70⟩ := hg_70
        have J_86 : ∀ (H : Heap) (locs : List Loc) (ls : Array Slot), Wd g 20 h (cM g h t_72) s H locs → lv_has ls 4 [(0, .ref (h 0)), (1, .int y_18)] → W p l e (rW 5 121) s m AV below meth c H locs 0 0 Q (F0 m 175 ls [.int j_74, .ref (h 0)]) := by
          intro H locs ls hw hl
          refine pX10_deep X hw wq_25_17 dX10_asks_175 (fun H locs hw => ?_)
          obtain ⟨t_75, et_75⟩ : ∃ y, y = wI t_72 7 j_74 := ⟨_, rfl⟩
          rw [← et_75] at hw
          replace hg_70 := lt_e hg_70 et_75
          refine lv_aload_n X.1 X.2.1 dX10_asks_178 rfl (lv_at hl 0 rfl) ?_
          refine lv_iload_n X.1 X.2.1 dX10_asks_179 rfl (lv_at hl 1 rfl) ?_
          replace hg_70 := ob_e hg_70
          obtain ⟨t_77, h_76, hg_70⟩ := hg_70
          refine k_Vv (k := 0) (As := [.int y_18]) X hl.1 hw (c_X10_tidies h_76) (by decide) (he_X10 g h _) rfl ⟨wq_25_19, wq_25_20, wq_25_21, wq_1_5, wq_25_22⟩ yo_X10_tidies rfl ⟨Nat.le_of_ble_eq_true rfl, Nat.le_of_ble_eq_true rfl⟩ (Nat.le_of_ble_eq_true rfl) dX10_asks_180 (fun H locs hw => ?_)
          refine lv_aload_n X.1 X.2.1 dX10_asks_183 rfl (lv_at hl 0 rfl) ?_
          refine gX10_stages X hw wq_6_1 dX10_asks_184 ?_
          refine lv_iload_n X.1 X.2.1 dX10_asks_187 rfl (lv_at hl 1 rfl) ?_
          refine lv_aload_n X.1 X.2.1 dX10_asks_188 rfl (lv_at hl 0 rfl) ?_
          refine lv_iload_n X.1 X.2.1 dX10_asks_189 rfl (lv_at hl 1 rfl) ?_
          replace hg_70 := ob_e hg_70
          obtain ⟨r_79, h_78, hg_70⟩ := hg_70
          refine k_Vi (k := 0) (As := [.int y_18]) X hl.1 hw (c_X10_isAnswered h_78) (by decide) (he_X10 g h _) rfl ⟨wq_27_19, wq_27_20, wq_27_21, wq_1_5, wq_27_22⟩ yo_X10_isAnswered rfl ⟨Nat.le_of_ble_eq_true rfl, Nat.le_of_ble_eq_true rfl⟩ (Nat.le_of_ble_eq_true rfl) dX10_asks_190 (fun H locs hw => ?_)
          refine lv_if_eq (tgt := 200) X.1 X.2.1 dX10_asks_193 (by decide) (fun c_80 => ?_) (fun c_80 => ?_)
          · replace hg_70 := it_p hg_70 c_80
            refine lv_iconst (v := 1) X.1 X.2.1 dX10_asks_200 (by decide) ?_
            replace hg_70 := gd_e hg_70
            obtain ⟨g_81, hg_70⟩ := hg_70
            refine sMA14 X hw g_81 dX10_asks_201 (fun H locs hw => ?_)
            obtain ⟨t_82, et_82⟩ : ∃ y, y = wA t_77 14 y_18.toNatClampNeg (1 : Int32) := ⟨_, rfl⟩
            rw [← et_82] at hw
            replace hg_70 := lt_e hg_70 et_82
            obtain rfl := Option.some.inj hg_70
            exact J_71 _ _ _ hw (lv_sub hl [0, 1] rfl)
          · replace hg_70 := it_n hg_70 c_80
            refine lv_iconst (v := 3) X.1 X.2.1 dX10_asks_196 (by decide) ?_
            refine lv_goto (tgt := 201) X.1 X.2.1 dX10_asks_197 (by decide) ?_
            replace hg_70 := gd_e hg_70
            obtain ⟨g_83, hg_70⟩ := hg_70
            refine sMA14 X hw g_83 dX10_asks_201 (fun H locs hw => ?_)
            obtain ⟨t_84, et_84⟩ : ∃ y, y = wA t_77 14 y_18.toNatClampNeg (3 : Int32) := ⟨_, rfl⟩
            rw [← et_84] at hw
            replace hg_70 := lt_e hg_70 et_84
            obtain rfl := Option.some.inj hg_70
            exact J_71 _ _ _ hw (lv_sub hl [0, 1] rfl)
        refine lv_icmp_le (tgt := 171) X.1 X.2.1 dX10_asks_162 (by decide) (fun c_73 => ?_) (fun c_73 => ?_)
        · replace hg_85 := it_p hg_85 c_73
          refine lv_aload_n X.1 X.2.1 dX10_asks_171 rfl (lv_at hl 0 rfl) ?_
          refine gX10_deep X hw wq_25_17 dX10_asks_172 ?_
          obtain rfl := Option.some.inj hg_85
          exact J_86 _ _ _ hw (lv_sub hl [0, 1] rfl)
        · replace hg_85 := it_n hg_85 c_73
          refine lv_iload_n X.1 X.2.1 dX10_asks_165 rfl (lv_at hl 1 rfl) ?_
          refine lv_iconst (v := 1) X.1 X.2.1 dX10_asks_166 (by decide) ?_
          refine lv_iadd X.1 X.2.1 dX10_asks_167 ?_
          refine lv_goto (tgt := 175) X.1 X.2.1 dX10_asks_168 (by decide) ?_
          obtain rfl := Option.some.inj hg_85
          exact J_86 _ _ _ hw (lv_sub hl [0, 1] rfl)
  refine vLoop_ind (B := (m_X10_asks_L37)) (fun σ => ∀ (H : Heap) (locs : List Loc) (ls : Array Slot), Wd g 20 h (cM g h σ.2) s H locs → lv_has ls 4 [(0, .ref (h 0)), (1, .int σ.1)] → W p l e (rW 5 121) s m AV below meth c H locs 0 0 Q (F0 m 37 ls [])) (fun z' => z' = t_14) ?_ FUEL _ _ hL_93 rfl _ _ _ hw (lv_sub hl [1, 0] rfl)
  intro σ z_91 hz_88 hn_89 hx_90
  obtain ⟨y_12, t_13⟩ := σ
  intro H locs ls hw hl
  replace hw : Wd g 20 h (cM g h t_13) s H locs := hw
  replace hl : lv_has ls 4 [(0, .ref (h 0)), (1, .int y_12)] := hl
  unfold m_X10_asks_L37 at hz_88
  replace hz_88 := un_e hz_88
  refine lv_iload_n X.1 X.2.1 dX10_asks_37 rfl (lv_at hl 1 rfl) ?_
  refine lv_aload_n X.1 X.2.1 dX10_asks_38 rfl (lv_at hl 0 rfl) ?_
  refine gX10_links X hw wq_7_2 dX10_asks_39 ?_
  refine lv_icmp_ge (tgt := 114) X.1 X.2.1 dX10_asks_42 (by decide) (fun c_95 => ?_) (fun c_95 => ?_)
  · replace hz_88 := it_p hz_88 c_95
    obtain rfl := hx_90 _ (Option.some.inj hz_88).symm
    exact J_92 _ _ _ hw (lv_sub hl [0] rfl)
  · replace hz_88 := it_n hz_88 c_95
    refine lv_aload_n X.1 X.2.1 dX10_asks_45 rfl (lv_at hl 0 rfl) ?_
    refine gX10_netOnes X hw wq_5_20 dX10_asks_46 ?_
    refine lv_iload_n X.1 X.2.1 dX10_asks_49 rfl (lv_at hl 1 rfl) ?_
    refine lv_aload_n X.1 X.2.1 dX10_asks_50 rfl (lv_at hl 0 rfl) ?_
    refine gX10_ones X hw wq_5_12 dX10_asks_51 ?_
    refine lv_iload_n X.1 X.2.1 dX10_asks_54 rfl (lv_at hl 1 rfl) ?_
    replace hz_88 := gd_e hz_88
    obtain ⟨g_96, hz_88⟩ := hz_88
    refine lMA1 X hw g_96 dX10_asks_55 ?_
    replace hz_88 := gd_e hz_88
    obtain ⟨g_97, hz_88⟩ := hz_88
    refine sMA9 X hw g_97 dX10_asks_56 (fun H locs hw => ?_)
    obtain ⟨t_98, et_98⟩ : ∃ y, y = wA t_13 9 y_12.toNatClampNeg (t_13.2.2.1 1 y_12.toNatClampNeg) := ⟨_, rfl⟩
    rw [← et_98] at hw
    replace hz_88 := lt_e hz_88 et_98
    refine lv_aload_n X.1 X.2.1 dX10_asks_57 rfl (lv_at hl 0 rfl) ?_
    refine gX10_netOthers X hw wq_5_21 dX10_asks_58 ?_
    refine lv_iload_n X.1 X.2.1 dX10_asks_61 rfl (lv_at hl 1 rfl) ?_
    refine lv_aload_n X.1 X.2.1 dX10_asks_62 rfl (lv_at hl 0 rfl) ?_
    refine gX10_others X hw wq_5_13 dX10_asks_63 ?_
    refine lv_iload_n X.1 X.2.1 dX10_asks_66 rfl (lv_at hl 1 rfl) ?_
    replace hz_88 := gd_e hz_88
    obtain ⟨g_99, hz_88⟩ := hz_88
    refine lMA2 X hw g_99 dX10_asks_67 ?_
    replace hz_88 := gd_e hz_88
    obtain ⟨g_100, hz_88⟩ := hz_88
    refine sMA10 X hw g_100 dX10_asks_68 (fun H locs hw => ?_)
    obtain ⟨t_101, et_101⟩ : ∃ y, y = wA t_98 10 y_12.toNatClampNeg (t_98.2.2.1 2 y_12.toNatClampNeg) := ⟨_, rfl⟩
    rw [← et_101] at hw
    replace hz_88 := lt_e hz_88 et_101
    refine lv_aload_n X.1 X.2.1 dX10_asks_69 rfl (lv_at hl 0 rfl) ?_
    refine gX10_netChances X hw wq_5_22 dX10_asks_70 ?_
    refine lv_iload_n X.1 X.2.1 dX10_asks_73 rfl (lv_at hl 1 rfl) ?_
    refine lv_aload_n X.1 X.2.1 dX10_asks_74 rfl (lv_at hl 0 rfl) ?_
    refine gX10_tops X hw wq_5_17 dX10_asks_75 ?_
    refine lv_iload_n X.1 X.2.1 dX10_asks_78 rfl (lv_at hl 1 rfl) ?_
    replace hz_88 := gd_e hz_88
    obtain ⟨g_102, hz_88⟩ := hz_88
    refine lMA6 X hw g_102 dX10_asks_79 ?_
    refine lv_if_ne (tgt := 87) X.1 X.2.1 dX10_asks_80 (by decide) (fun c_103 => ?_) (fun c_103 => ?_)
    · replace hz_88 := it_n hz_88 c_103
      refine lv_aload_n X.1 X.2.1 dX10_asks_87 rfl (lv_at hl 0 rfl) ?_
      refine gX10_tops X hw wq_5_17 dX10_asks_88 ?_
      refine lv_iload_n X.1 X.2.1 dX10_asks_91 rfl (lv_at hl 1 rfl) ?_
      replace hz_88 := gd_e hz_88
      obtain ⟨g_104, hz_88⟩ := hz_88
      refine lMA6 X hw g_104 dX10_asks_92 ?_
      refine lv_aload_n X.1 X.2.1 dX10_asks_93 rfl (lv_at hl 0 rfl) ?_
      refine gX10_bottoms X hw wq_5_18 dX10_asks_94 ?_
      refine lv_iload_n X.1 X.2.1 dX10_asks_97 rfl (lv_at hl 1 rfl) ?_
      replace hz_88 := gd_e hz_88
      obtain ⟨g_105, hz_88⟩ := hz_88
      refine lMA7 X hw g_105 dX10_asks_98 ?_
      refine lv_icmp_ne (tgt := 106) X.1 X.2.1 dX10_asks_99 (by decide) (fun c_106 => ?_) (fun c_106 => ?_)
      · replace hz_88 := it_n hz_88 c_106
        refine lv_iconst (v := 2) X.1 X.2.1 dX10_asks_106 (by decide) ?_
        replace hz_88 := gd_e hz_88
        obtain ⟨g_107, hz_88⟩ := hz_88
        refine sMA11 X hw g_107 dX10_asks_107 (fun H locs hw => ?_)
        obtain ⟨t_108, et_108⟩ : ∃ y, y = wA t_101 11 y_12.toNatClampNeg (2 : Int32) := ⟨_, rfl⟩
        rw [← et_108] at hw
        replace hz_88 := lt_e hz_88 et_108
        obtain ⟨x_109, ex_109⟩ : ∃ y : Int32, y = y_12 + 1 := ⟨_, rfl⟩
        replace hz_88 := lt_e hz_88 ex_109
        refine lv_iinc (v := x_109) (lv' := [(1, .int x_109), (0, .ref (h 0))]) X.1 X.2.1 dX10_asks_108 hl (k := 1) rfl (by rw [ex_109]; rfl) (by decide) rfl (fun ls hl => ?_)
        refine lv_goto (tgt := 37) X.1 X.2.1 dX10_asks_111 (by decide) ?_
        exact hn_89 _ (Option.some.inj hz_88).symm _ _ _ hw (lv_sub hl [1, 0] rfl)
      · replace hz_88 := it_p hz_88 c_106
        refine lv_iconst (v := 1) X.1 X.2.1 dX10_asks_102 (by decide) ?_
        refine lv_goto (tgt := 107) X.1 X.2.1 dX10_asks_103 (by decide) ?_
        replace hz_88 := gd_e hz_88
        obtain ⟨g_110, hz_88⟩ := hz_88
        refine sMA11 X hw g_110 dX10_asks_107 (fun H locs hw => ?_)
        obtain ⟨t_111, et_111⟩ : ∃ y, y = wA t_101 11 y_12.toNatClampNeg (1 : Int32) := ⟨_, rfl⟩
        rw [← et_111] at hw
        replace hz_88 := lt_e hz_88 et_111
        obtain ⟨x_112, ex_112⟩ : ∃ y : Int32, y = y_12 + 1 := ⟨_, rfl⟩
        replace hz_88 := lt_e hz_88 ex_112
        refine lv_iinc (v := x_112) (lv' := [(1, .int x_112), (0, .ref (h 0))]) X.1 X.2.1 dX10_asks_108 hl (k := 1) rfl (by rw [ex_112]; rfl) (by decide) rfl (fun ls hl => ?_)
        refine lv_goto (tgt := 37) X.1 X.2.1 dX10_asks_111 (by decide) ?_
        exact hn_89 _ (Option.some.inj hz_88).symm _ _ _ hw (lv_sub hl [1, 0] rfl)
    · replace hz_88 := it_p hz_88 c_103
      refine lv_iconst (v := 0) X.1 X.2.1 dX10_asks_83 (by decide) ?_
      refine lv_goto (tgt := 107) X.1 X.2.1 dX10_asks_84 (by decide) ?_
      replace hz_88 := gd_e hz_88
      obtain ⟨g_113, hz_88⟩ := hz_88
      refine sMA11 X hw g_113 dX10_asks_107 (fun H locs hw => ?_)
      obtain ⟨t_114, et_114⟩ : ∃ y, y = wA t_101 11 y_12.toNatClampNeg (0 : Int32) := ⟨_, rfl⟩
      rw [← et_114] at hw
      replace hz_88 := lt_e hz_88 et_114
      obtain ⟨x_115, ex_115⟩ : ∃ y : Int32, y = y_12 + 1 := ⟨_, rfl⟩
      replace hz_88 := lt_e hz_88 ex_115
      refine lv_iinc (v := x_115) (lv' := [(1, .int x_115), (0, .ref (h 0))]) X.1 X.2.1 dX10_asks_108 hl (k := 1) rfl (by rw [ex_115]; rfl) (by decide) rfl (fun ls hl => ?_)
      refine lv_goto (tgt := 37) X.1 X.2.1 dX10_asks_111 (by decide) ?_
      exact hn_89 _ (Option.some.inj hz_88).symm _ _ _ hw (lv_sub hl [1, 0] rfl)
def m_X10_joinedBy (t : ST) (x1 : Int32) : Option (Int64 × ST) := if (2 : Int32) ≤ x1 then if x1 = (2 : Int32) then some ((t.1 6).toInt64, t) else if x1 = (3 : Int32) then some ((t.1 7).toInt64, t) else some ((t.1 8).toInt64, t) else Option.bind (m_X10_reachBy t x1) (fun (q_10 : Int64 × ST) => un q_10 (fun r_8 t_9 => some (r_8, t_9)))
theorem yo_X10_joinedBy : yX10_joinedBy.cls = RX10 ∧ yX10_joinedBy.cls ≠ "java/lang/invoke/MethodHandle" ∧ yX10_joinedBy.cls ≠ "java/lang/invoke/VarHandle" ∧ (parseMethodDescriptor yX10_joinedBy.desc).map (fun d => d.parameters.length) = some 1 := by decide +kernel
set_option maxHeartbeats 4000000 in
set_option maxRecDepth 100000 in
theorem c_X10_joinedBy {l : Launch} {g : gT} {h : Nat → Nat} {t : ST} {x1 : Int32} {r : Int64} {t' : ST} (hm : m_X10_joinedBy t x1 = some (r, t')) : MetL l g yX10_joinedBy cX10_joinedBy 2 (some .long) 3 75 20 h (cM g h t) (cM g h t') [.ref (h 0), .int x1] r := by
  refine MetL.ofX (by decide +kernel) (Nat.le_of_ble_eq_true rfl) ?_
  intro p e s m below meth c AV Q X hret ls hw hl
  replace X : Cx g p s m AV c cX10_joinedBy RX10 2 := X
  replace hl : lv_has ls 2 [(0, .ref (h 0)), (1, .int x1)] := hl
  unfold m_X10_joinedBy at hm
  refine lv_iload_n X.1 X.2.1 dX10_joinedBy_0 rfl (lv_at hl 1 rfl) ?_
  refine lv_iconst (v := 2) X.1 X.2.1 dX10_joinedBy_1 (by decide) ?_
  refine lv_icmp_ge (tgt := 13) X.1 X.2.1 dX10_joinedBy_2 (by decide) (fun c_1 => ?_) (fun c_1 => ?_)
  · replace hm := it_p hm c_1
    refine lv_iload_n X.1 X.2.1 dX10_joinedBy_13 rfl (lv_at hl 1 rfl) ?_
    refine lv_iconst (v := 2) X.1 X.2.1 dX10_joinedBy_14 (by decide) ?_
    refine lv_icmp_ne (tgt := 26) X.1 X.2.1 dX10_joinedBy_15 (by decide) (fun c_2 => ?_) (fun c_2 => ?_)
    · replace hm := it_n hm c_2
      refine lv_iload_n X.1 X.2.1 dX10_joinedBy_26 rfl (lv_at hl 1 rfl) ?_
      refine lv_iconst (v := 3) X.1 X.2.1 dX10_joinedBy_27 (by decide) ?_
      refine lv_icmp_ne (tgt := 39) X.1 X.2.1 dX10_joinedBy_28 (by decide) (fun c_3 => ?_) (fun c_3 => ?_)
      · replace hm := it_n hm c_3
        refine lv_aload_n X.1 X.2.1 dX10_joinedBy_39 rfl (lv_at hl 0 rfl) ?_
        refine gX10_tidy X hw wq_25_18 dX10_joinedBy_40 ?_
        refine lv_i2l X.1 X.2.1 dX10_joinedBy_43 rfl ?_
        obtain ⟨rfl, rfl⟩ := Prod.mk.inj (Option.some.inj hm)
        exact hret _ _ _ _ hw dX10_joinedBy_44
      · replace hm := it_p hm c_3
        refine lv_aload_n X.1 X.2.1 dX10_joinedBy_31 rfl (lv_at hl 0 rfl) ?_
        refine gX10_deep X hw wq_25_17 dX10_joinedBy_32 ?_
        refine lv_i2l X.1 X.2.1 dX10_joinedBy_35 rfl ?_
        refine lv_goto (tgt := 44) X.1 X.2.1 dX10_joinedBy_36 (by decide) ?_
        obtain ⟨rfl, rfl⟩ := Prod.mk.inj (Option.some.inj hm)
        exact hret _ _ _ _ hw dX10_joinedBy_44
    · replace hm := it_p hm c_2
      refine lv_aload_n X.1 X.2.1 dX10_joinedBy_18 rfl (lv_at hl 0 rfl) ?_
      refine gX10_steps X hw wq_25_16 dX10_joinedBy_19 ?_
      refine lv_i2l X.1 X.2.1 dX10_joinedBy_22 rfl ?_
      refine lv_goto (tgt := 44) X.1 X.2.1 dX10_joinedBy_23 (by decide) ?_
      obtain ⟨rfl, rfl⟩ := Prod.mk.inj (Option.some.inj hm)
      exact hret _ _ _ _ hw dX10_joinedBy_44
  · replace hm := it_n hm c_1
    refine lv_aload_n X.1 X.2.1 dX10_joinedBy_5 rfl (lv_at hl 0 rfl) ?_
    refine lv_iload_n X.1 X.2.1 dX10_joinedBy_6 rfl (lv_at hl 1 rfl) ?_
    replace hm := ob_e hm
    obtain ⟨⟨r_8, t_9⟩, h_7, hm⟩ := hm
    replace hm := un_e hm
    refine k_Vl (k := 0) (As := [.int x1]) X hl.1 hw (c_X10_reachBy h_7) (by decide) (he_X10 g h _) rfl ⟨wq_18_0, wq_18_1, wq_18_2, wq_1_5, wq_18_3⟩ yo_X10_reachBy rfl ⟨Nat.le_of_ble_eq_true rfl, Nat.le_of_ble_eq_true rfl⟩ (Nat.le_of_ble_eq_true rfl) dX10_joinedBy_7 (fun H locs hw => ?_)
    refine lv_goto (tgt := 44) X.1 X.2.1 dX10_joinedBy_10 (by decide) ?_
    obtain ⟨rfl, rfl⟩ := Prod.mk.inj (Option.some.inj hm)
    exact hret _ _ _ _ hw dX10_joinedBy_44
def m_X10_joined (t : ST) (x1 : Int32) : Option (Int64 × ST) := Option.bind (m_X10_in (x1.toInt64) (0 : Int64) (4 : Int64)) (fun (r_2 : Int32) => if r_2 = 0 then Option.bind (m_X10_no (-2 : Int32)) (fun (r_12 : Int64) => some (r_12, t)) else Option.bind (m_X10_asks t) (fun (t_5 : ST) => Option.bind (m_X10_joinedBy t_5 x1) (fun (q_9 : Int64 × ST) => un q_9 (fun r_7 t_8 => some (r_7, t_8)))))
theorem yo_X10_joined : yX10_joined.cls = RX10 ∧ yX10_joined.cls ≠ "java/lang/invoke/MethodHandle" ∧ yX10_joined.cls ≠ "java/lang/invoke/VarHandle" ∧ (parseMethodDescriptor yX10_joined.desc).map (fun d => d.parameters.length) = some 1 := by decide +kernel
set_option maxHeartbeats 4000000 in
set_option maxRecDepth 100000 in
theorem c_X10_joined {l : Launch} {g : gT} {h : Nat → Nat} {t : ST} {x1 : Int32} {r : Int64} {t' : ST} (hm : m_X10_joined t x1 = some (r, t')) : MetL l g yX10_joined cX10_joined 2 (some .long) 6 144 20 h (cM g h t) (cM g h t') [.ref (h 0), .int x1] r := by
  refine MetL.ofX (by decide +kernel) (Nat.le_of_ble_eq_true rfl) ?_
  intro p e s m below meth c AV Q X hret ls hw hl
  replace X : Cx g p s m AV c cX10_joined RX10 2 := X
  replace hl : lv_has ls 2 [(0, .ref (h 0)), (1, .int x1)] := hl
  unfold m_X10_joined at hm
  refine lv_iload_n X.1 X.2.1 dX10_joined_0 rfl (lv_at hl 1 rfl) ?_
  refine lv_i2l X.1 X.2.1 dX10_joined_1 rfl ?_
  refine lv_lconst (v := 0) X.1 X.2.1 dX10_joined_2 (by decide) ?_
  refine lv_ldc2 (v := 4) X.1 X.2.1 X.2.2.2.1 (X.2.2.2.2.1 _ wq_14_19) dX10_joined_3 ?_
  replace hm := ob_e hm
  obtain ⟨r_2, h_1, hm⟩ := hm
  refine k_Si (As := [.long x1.toInt64, .long (0 : Int64), .long (4 : Int64)]) X hl.1 hw (c_X10_in h_1) ⟨wq_7_5, wq_7_6, wq_1_5, wq_7_7⟩ yo_X10_in rfl ⟨Nat.le_of_ble_eq_true rfl, Nat.le_of_ble_eq_true rfl⟩ (Nat.le_of_ble_eq_true rfl) dX10_joined_6 (fun H locs hw => ?_)
  refine lv_if_ne (tgt := 18) X.1 X.2.1 dX10_joined_9 (by decide) (fun c_3 => ?_) (fun c_3 => ?_)
  · replace hm := it_n hm c_3
    refine lv_aload_n X.1 X.2.1 dX10_joined_18 rfl (lv_at hl 0 rfl) ?_
    replace hm := ob_e hm
    obtain ⟨t_5, h_4, hm⟩ := hm
    refine k_Vv (k := 0) (As := []) X hl.1 hw (c_X10_asks h_4) (by decide) (he_X10 g h _) rfl ⟨wq_25_12, wq_25_13, wq_25_14, wq_1_5, wq_25_15⟩ yo_X10_asks rfl ⟨Nat.le_of_ble_eq_true rfl, Nat.le_of_ble_eq_true rfl⟩ (Nat.le_of_ble_eq_true rfl) dX10_joined_19 (fun H locs hw => ?_)
    refine lv_aload_n X.1 X.2.1 dX10_joined_22 rfl (lv_at hl 0 rfl) ?_
    refine lv_iload_n X.1 X.2.1 dX10_joined_23 rfl (lv_at hl 1 rfl) ?_
    replace hm := ob_e hm
    obtain ⟨⟨r_7, t_8⟩, h_6, hm⟩ := hm
    replace hm := un_e hm
    refine k_Vl (k := 0) (As := [.int x1]) X hl.1 hw (c_X10_joinedBy h_6) (by decide) (he_X10 g h _) rfl ⟨wq_28_10, wq_28_11, wq_28_12, wq_1_5, wq_28_13⟩ yo_X10_joinedBy rfl ⟨Nat.le_of_ble_eq_true rfl, Nat.le_of_ble_eq_true rfl⟩ (Nat.le_of_ble_eq_true rfl) dX10_joined_24 (fun H locs hw => ?_)
    obtain ⟨rfl, rfl⟩ := Prod.mk.inj (Option.some.inj hm)
    exact hret _ _ _ _ hw dX10_joined_27
  · replace hm := it_p hm c_3
    refine lv_bipush (v := -2) X.1 X.2.1 dX10_joined_12 (by decide) ?_
    replace hm := ob_e hm
    obtain ⟨r_12, h_11, hm⟩ := hm
    refine k_Sl (As := [.int (-2 : Int32)]) X hl.1 hw (c_X10_no h_11) ⟨wq_19_10, wq_19_11, wq_1_5, wq_19_12⟩ yo_X10_no rfl ⟨Nat.le_of_ble_eq_true rfl, Nat.le_of_ble_eq_true rfl⟩ (Nat.le_of_ble_eq_true rfl) dX10_joined_14 (fun H locs hw => ?_)
    obtain ⟨rfl, rfl⟩ := Prod.mk.inj (Option.some.inj hm)
    exact hret _ _ _ _ hw dX10_joined_17
def m_X10_type (t : ST) (x1 : Int32) : Option (Int32 × ST) := Option.bind (m_X10_in (x1.toInt64) (0 : Int64) (255 : Int64)) (fun (r_2 : Int32) => if r_2 = 0 then some ((-2 : Int32), t) else if (t.1 9) = (60 : Int32) then some ((-4 : Int32), t) else gd (¬ ((t.1 9) < 0 ∨ 60 ≤ (t.1 9).toNatClampNeg)) (lt (wA t 15 (t.1 9).toNatClampNeg x1) (fun t_6 => lt (wI t_6 9 (((t_6.1 9) + (1 : Int32)))) (fun t_7 => some ((t_7.1 9), t_7)))))
theorem yo_X10_type : yX10_type.cls = RX10 ∧ yX10_type.cls ≠ "java/lang/invoke/MethodHandle" ∧ yX10_type.cls ≠ "java/lang/invoke/VarHandle" ∧ (parseMethodDescriptor yX10_type.desc).map (fun d => d.parameters.length) = some 1 := by decide +kernel
set_option maxHeartbeats 4000000 in
set_option maxRecDepth 100000 in
theorem c_X10_type {l : Launch} {g : gT} {h : Nat → Nat} {t : ST} {x1 : Int32} {r : Int32} {t' : ST} (hm : m_X10_type t x1 = some (r, t')) : MetI l g yX10_type cX10_type 2 (some .int) 1 25 20 h (cM g h t) (cM g h t') [.ref (h 0), .int x1] r := by
  refine MetI.ofX (by decide +kernel) (Nat.le_of_ble_eq_true rfl) ?_
  intro p e s m below meth c AV Q X hret ls hw hl
  replace X : Cx g p s m AV c cX10_type RX10 2 := X
  replace hl : lv_has ls 2 [(0, .ref (h 0)), (1, .int x1)] := hl
  unfold m_X10_type at hm
  refine lv_iload_n X.1 X.2.1 dX10_type_0 rfl (lv_at hl 1 rfl) ?_
  refine lv_i2l X.1 X.2.1 dX10_type_1 rfl ?_
  refine lv_lconst (v := 0) X.1 X.2.1 dX10_type_2 (by decide) ?_
  refine lv_ldc2 (v := 255) X.1 X.2.1 X.2.2.2.1 (X.2.2.2.2.1 _ wq_40_8) dX10_type_3 ?_
  replace hm := ob_e hm
  obtain ⟨r_2, h_1, hm⟩ := hm
  refine k_Si (As := [.long x1.toInt64, .long (0 : Int64), .long (255 : Int64)]) X hl.1 hw (c_X10_in h_1) ⟨wq_7_5, wq_7_6, wq_1_5, wq_7_7⟩ yo_X10_in rfl ⟨Nat.le_of_ble_eq_true rfl, Nat.le_of_ble_eq_true rfl⟩ (Nat.le_of_ble_eq_true rfl) dX10_type_6 (fun H locs hw => ?_)
  refine lv_if_ne (tgt := 15) X.1 X.2.1 dX10_type_9 (by decide) (fun c_3 => ?_) (fun c_3 => ?_)
  · replace hm := it_n hm c_3
    refine lv_aload_n X.1 X.2.1 dX10_type_15 rfl (lv_at hl 0 rfl) ?_
    refine gX10_bytes X hw wq_40_9 dX10_type_16 ?_
    refine lv_bipush (v := 60) X.1 X.2.1 dX10_type_19 (by decide) ?_
    refine lv_icmp_ne (tgt := 27) X.1 X.2.1 dX10_type_21 (by decide) (fun c_4 => ?_) (fun c_4 => ?_)
    · replace hm := it_n hm c_4
      refine lv_aload_n X.1 X.2.1 dX10_type_27 rfl (lv_at hl 0 rfl) ?_
      refine gX10_orders X hw wq_6_2 dX10_type_28 ?_
      refine lv_aload_n X.1 X.2.1 dX10_type_31 rfl (lv_at hl 0 rfl) ?_
      refine gX10_bytes X hw wq_40_9 dX10_type_32 ?_
      refine lv_iload_n X.1 X.2.1 dX10_type_35 rfl (lv_at hl 1 rfl) ?_
      replace hm := gd_e hm
      obtain ⟨g_5, hm⟩ := hm
      refine sMA15 X hw g_5 dX10_type_36 (fun H locs hw => ?_)
      obtain ⟨t_6, et_6⟩ : ∃ y, y = wA t 15 (t.1 9).toNatClampNeg x1 := ⟨_, rfl⟩
      rw [← et_6] at hw
      replace hm := lt_e hm et_6
      refine lv_aload_n X.1 X.2.1 dX10_type_37 rfl (lv_at hl 0 rfl) ?_
      refine lv_dup X.1 X.2.1 dX10_type_38 rfl ?_
      refine gX10_bytes X hw wq_40_9 dX10_type_39 ?_
      refine lv_iconst (v := 1) X.1 X.2.1 dX10_type_42 (by decide) ?_
      refine lv_iadd X.1 X.2.1 dX10_type_43 ?_
      refine pX10_bytes X hw wq_40_9 dX10_type_44 (fun H locs hw => ?_)
      obtain ⟨t_7, et_7⟩ : ∃ y, y = wI t_6 9 (((t_6.1 9) + (1 : Int32))) := ⟨_, rfl⟩
      rw [← et_7] at hw
      replace hm := lt_e hm et_7
      refine lv_aload_n X.1 X.2.1 dX10_type_47 rfl (lv_at hl 0 rfl) ?_
      refine gX10_bytes X hw wq_40_9 dX10_type_48 ?_
      obtain ⟨rfl, rfl⟩ := Prod.mk.inj (Option.some.inj hm)
      exact hret _ _ _ _ hw dX10_type_51
    · replace hm := it_p hm c_4
      refine lv_bipush (v := -4) X.1 X.2.1 dX10_type_24 (by decide) ?_
      obtain ⟨rfl, rfl⟩ := Prod.mk.inj (Option.some.inj hm)
      exact hret _ _ _ _ hw dX10_type_26
  · replace hm := it_p hm c_3
    refine lv_bipush (v := -2) X.1 X.2.1 dX10_type_12 (by decide) ?_
    obtain ⟨rfl, rfl⟩ := Prod.mk.inj (Option.some.inj hm)
    exact hret _ _ _ _ hw dX10_type_14
def m_X10_wipe (t : ST) : Option (Int32 × ST) := lt (t.1 9) (fun x_1 => lt (wI t 9 (0 : Int32)) (fun t_2 => some (x_1, t_2)))
theorem yo_X10_wipe : yX10_wipe.cls = RX10 ∧ yX10_wipe.cls ≠ "java/lang/invoke/MethodHandle" ∧ yX10_wipe.cls ≠ "java/lang/invoke/VarHandle" ∧ (parseMethodDescriptor yX10_wipe.desc).map (fun d => d.parameters.length) = some 0 := by decide +kernel
set_option maxHeartbeats 4000000 in
set_option maxRecDepth 100000 in
theorem c_X10_wipe {l : Launch} {g : gT} {h : Nat → Nat} {t : ST} {r : Int32} {t' : ST} (hm : m_X10_wipe t = some (r, t')) : MetI l g yX10_wipe cX10_wipe 2 (some .int) 0 0 20 h (cM g h t) (cM g h t') [.ref (h 0)] r := by
  refine MetI.ofX (by decide +kernel) (Nat.le_of_ble_eq_true rfl) ?_
  intro p e s m below meth c AV Q X hret ls hw hl
  replace X : Cx g p s m AV c cX10_wipe RX10 2 := X
  replace hl : lv_has ls 2 [(0, .ref (h 0))] := hl
  unfold m_X10_wipe at hm
  refine lv_aload_n X.1 X.2.1 dX10_wipe_0 rfl (lv_at hl 0 rfl) ?_
  refine gX10_bytes X hw wq_40_9 dX10_wipe_1 ?_
  refine lv_topi (fun x_1 ex_1 => ?_)
  replace hm := lt_e hm ex_1
  refine lv_istore_n (lv' := [(1, .int x_1), (0, .ref (h 0))]) X.1 X.2.1 dX10_wipe_4 rfl hl (by decide) rfl (fun ls hl => ?_)
  refine lv_aload_n X.1 X.2.1 dX10_wipe_5 rfl (lv_at hl 1 rfl) ?_
  refine lv_iconst (v := 0) X.1 X.2.1 dX10_wipe_6 (by decide) ?_
  refine pX10_bytes X hw wq_40_9 dX10_wipe_7 (fun H locs hw => ?_)
  obtain ⟨t_2, et_2⟩ : ∃ y, y = wI t 9 (0 : Int32) := ⟨_, rfl⟩
  rw [← et_2] at hw
  replace hm := lt_e hm et_2
  refine lv_iload_n X.1 X.2.1 dX10_wipe_10 rfl (lv_at hl 0 rfl) ?_
  obtain ⟨rfl, rfl⟩ := Prod.mk.inj (Option.some.inj hm)
  exact hret _ _ _ _ hw dX10_wipe_11
def m_X10_letter (t : ST) (x1 : Int32) (x2 : Int32) : Option (Int32) := if x2 ≤ x1 then some (0 : Int32) else gd (¬ (x1 < 0 ∨ 60 ≤ x1.toNatClampNeg)) (some (t.2.2.1 15 x1.toNatClampNeg))
theorem yo_X10_letter : yX10_letter.cls = RX10 ∧ yX10_letter.cls ≠ "java/lang/invoke/MethodHandle" ∧ yX10_letter.cls ≠ "java/lang/invoke/VarHandle" ∧ (parseMethodDescriptor yX10_letter.desc).map (fun d => d.parameters.length) = some 2 := by decide +kernel
set_option maxHeartbeats 4000000 in
set_option maxRecDepth 100000 in
theorem c_X10_letter {l : Launch} {g : gT} {h : Nat → Nat} {t : ST} {x1 : Int32} {x2 : Int32} {r : Int32} (hm : m_X10_letter t x1 x2 = some r) : MetI l g yX10_letter cX10_letter 3 (some .int) 0 0 20 h (cM g h t) (cM g h t) [.ref (h 0), .int x1, .int x2] r := by
  refine MetI.ofX (by decide +kernel) (Nat.le_of_ble_eq_true rfl) ?_
  intro p e s m below meth c AV Q X hret ls hw hl
  replace X : Cx g p s m AV c cX10_letter RX10 3 := X
  replace hl : lv_has ls 3 [(0, .ref (h 0)), (1, .int x1), (2, .int x2)] := hl
  unfold m_X10_letter at hm
  refine lv_iload_n X.1 X.2.1 dX10_letter_0 rfl (lv_at hl 1 rfl) ?_
  refine lv_iload_n X.1 X.2.1 dX10_letter_1 rfl (lv_at hl 2 rfl) ?_
  refine lv_icmp_ge (tgt := 14) X.1 X.2.1 dX10_letter_2 (by decide) (fun c_1 => ?_) (fun c_1 => ?_)
  · replace hm := it_p hm c_1
    refine lv_iconst (v := 0) X.1 X.2.1 dX10_letter_14 (by decide) ?_
    obtain rfl := Option.some.inj hm
    exact hret _ _ _ _ hw dX10_letter_15
  · replace hm := it_n hm c_1
    refine lv_aload_n X.1 X.2.1 dX10_letter_5 rfl (lv_at hl 0 rfl) ?_
    refine gX10_orders X hw wq_6_2 dX10_letter_6 ?_
    refine lv_iload_n X.1 X.2.1 dX10_letter_9 rfl (lv_at hl 1 rfl) ?_
    replace hm := gd_e hm
    obtain ⟨g_2, hm⟩ := hm
    refine lMA15 X hw g_2 dX10_letter_10 ?_
    refine lv_goto (tgt := 15) X.1 X.2.1 dX10_letter_11 (by decide) ?_
    obtain rfl := Option.some.inj hm
    exact hret _ _ _ _ hw dX10_letter_15
def m_X10_isWord (t : ST) (x1 : Int32) (x2 : Int32) (x3 : Int32) (x4 : Int32) (x5 : Int32) (x6 : Int32) : Option (Int32) := gd (¬ (x1 < 0 ∨ 60 ≤ x1.toNatClampNeg)) (Option.bind (if (t.2.2.1 15 x1.toNatClampNeg) = x3 then Option.bind (m_X10_letter t ((x1 + (1 : Int32))) (t.1 9)) (fun (r_20 : Int32) => if r_20 = x4 then some (1 : Int32) else some (0 : Int32)) else some (0 : Int32)) (fun (j_3 : Int32) => Option.bind (if j_3 = 0 then some (0 : Int32) else if x2 < (3 : Int32) then some (1 : Int32) else Option.bind (m_X10_letter t ((x1 + (2 : Int32))) (t.1 9)) (fun (r_15 : Int32) => if r_15 = x5 then some (1 : Int32) else some (0 : Int32))) (fun (j_5 : Int32) => if j_5 = 0 then some (0 : Int32) else if x2 < (4 : Int32) then some (1 : Int32) else Option.bind (m_X10_letter t ((x1 + (3 : Int32))) (t.1 9)) (fun (r_9 : Int32) => if r_9 = x6 then some (1 : Int32) else some (0 : Int32)))))
theorem yo_X10_isWord : yX10_isWord.cls = RX10 ∧ yX10_isWord.cls ≠ "java/lang/invoke/MethodHandle" ∧ yX10_isWord.cls ≠ "java/lang/invoke/VarHandle" ∧ (parseMethodDescriptor yX10_isWord.desc).map (fun d => d.parameters.length) = some 6 := by decide +kernel
set_option maxHeartbeats 4000000 in
set_option maxRecDepth 100000 in
theorem c_X10_isWord {l : Launch} {g : gT} {h : Nat → Nat} {t : ST} {x1 : Int32} {x2 : Int32} {x3 : Int32} {x4 : Int32} {x5 : Int32} {x6 : Int32} {r : Int32} (hm : m_X10_isWord t x1 x2 x3 x4 x5 x6 = some r) : MetI l g yX10_isWord cX10_isWord 8 (some .boolean) 1 22 20 h (cM g h t) (cM g h t) [.ref (h 0), .int x1, .int x2, .int x3, .int x4, .int x5, .int x6] r := by
  refine MetZ.ofX (by decide +kernel) (Nat.le_of_ble_eq_true rfl) ?_
  intro p e s m below meth c AV Q X hret ls hw hl
  replace X : Cx g p s m AV c cX10_isWord RX10 8 := X
  replace hl : lv_has ls 8 [(0, .ref (h 0)), (1, .int x1), (2, .int x2), (3, .int x3), (4, .int x4), (5, .int x5), (6, .int x6)] := hl
  unfold m_X10_isWord at hm
  refine lv_aload_n X.1 X.2.1 dX10_isWord_0 rfl (lv_at hl 0 rfl) ?_
  refine gX10_orders X hw wq_6_2 dX10_isWord_1 ?_
  refine lv_iload_n X.1 X.2.1 dX10_isWord_4 rfl (lv_at hl 1 rfl) ?_
  replace hm := gd_e hm
  obtain ⟨g_1, hm⟩ := hm
  refine lMA15 X hw g_1 dX10_isWord_5 ?_
  refine lv_iload_n X.1 X.2.1 dX10_isWord_6 rfl (lv_at hl 3 rfl) ?_
  replace hm := ob_e hm
  obtain ⟨j_3, hg_17, hm⟩ := hm
  have J_18 : ∀ (H : Heap) (locs : List Loc) (ls : Array Slot), Wd g 20 h (cM g h t) s H locs → lv_has ls 8 [(0, .ref (h 0)), (1, .int x1), (2, .int x2), (5, .int x5), (6, .int x6)] → W p l e (rW 1 22) s m AV below meth c H locs 0 0 Q (F0 m 31 ls [.int j_3]) := by
    intro H locs ls hw hl
    refine lv_istore (lv' := [(7, .int j_3), (0, .ref (h 0)), (1, .int x1), (2, .int x2), (5, .int x5), (6, .int x6)]) X.1 X.2.1 dX10_isWord_31 hl (by decide) rfl (fun ls hl => ?_)
    refine lv_iload X.1 X.2.1 dX10_isWord_33 (lv_at hl 0 rfl) ?_
    replace hm := ob_e hm
    obtain ⟨j_5, hg_11, hm⟩ := hm
    have J_12 : ∀ (H : Heap) (locs : List Loc) (ls : Array Slot), Wd g 20 h (cM g h t) s H locs → lv_has ls 8 [(0, .ref (h 0)), (1, .int x1), (2, .int x2), (6, .int x6)] → W p l e (rW 1 22) s m AV below meth c H locs 0 0 Q (F0 m 64 ls [.int j_5]) := by
      intro H locs ls hw hl
      refine lv_istore (lv' := [(7, .int j_5), (0, .ref (h 0)), (1, .int x1), (2, .int x2), (6, .int x6)]) X.1 X.2.1 dX10_isWord_64 hl (by decide) rfl (fun ls hl => ?_)
      refine lv_iload X.1 X.2.1 dX10_isWord_66 (lv_at hl 0 rfl) ?_
      refine lv_if_eq (tgt := 96) X.1 X.2.1 dX10_isWord_68 (by decide) (fun c_6 => ?_) (fun c_6 => ?_)
      · replace hm := it_p hm c_6
        refine lv_iconst (v := 0) X.1 X.2.1 dX10_isWord_96 (by decide) ?_
        obtain rfl := Option.some.inj hm
        exact hret _ _ _ _ hw dX10_isWord_97 (Or.inl rfl)
      · replace hm := it_n hm c_6
        refine lv_iload_n X.1 X.2.1 dX10_isWord_71 rfl (lv_at hl 3 rfl) ?_
        refine lv_iconst (v := 4) X.1 X.2.1 dX10_isWord_72 (by decide) ?_
        refine lv_icmp_lt (tgt := 92) X.1 X.2.1 dX10_isWord_73 (by decide) (fun c_7 => ?_) (fun c_7 => ?_)
        · replace hm := it_p hm c_7
          refine lv_iconst (v := 1) X.1 X.2.1 dX10_isWord_92 (by decide) ?_
          refine lv_goto (tgt := 97) X.1 X.2.1 dX10_isWord_93 (by decide) ?_
          obtain rfl := Option.some.inj hm
          exact hret _ _ _ _ hw dX10_isWord_97 (Or.inr rfl)
        · replace hm := it_n hm c_7
          refine lv_aload_n X.1 X.2.1 dX10_isWord_76 rfl (lv_at hl 1 rfl) ?_
          refine lv_iload_n X.1 X.2.1 dX10_isWord_77 rfl (lv_at hl 2 rfl) ?_
          refine lv_iconst (v := 3) X.1 X.2.1 dX10_isWord_78 (by decide) ?_
          refine lv_iadd X.1 X.2.1 dX10_isWord_79 ?_
          refine lv_aload_n X.1 X.2.1 dX10_isWord_80 rfl (lv_at hl 1 rfl) ?_
          refine gX10_bytes X hw wq_40_9 dX10_isWord_81 ?_
          replace hm := ob_e hm
          obtain ⟨r_9, h_8, hm⟩ := hm
          refine k_Vi (k := 0) (As := [.int (x1 + (3 : Int32)), .int (t.1 9)]) X hl.1 hw (c_X10_letter h_8) (by decide) (he_X10 g h _) rfl ⟨wq_45_23, wq_46_0, wq_46_1, wq_1_5, wq_46_2⟩ yo_X10_letter rfl ⟨Nat.le_of_ble_eq_true rfl, Nat.le_of_ble_eq_true rfl⟩ (Nat.le_of_ble_eq_true rfl) dX10_isWord_84 (fun H locs hw => ?_)
          refine lv_iload X.1 X.2.1 dX10_isWord_87 (lv_at hl 4 rfl) ?_
          refine lv_icmp_ne (tgt := 96) X.1 X.2.1 dX10_isWord_89 (by decide) (fun c_10 => ?_) (fun c_10 => ?_)
          · replace hm := it_n hm c_10
            refine lv_iconst (v := 0) X.1 X.2.1 dX10_isWord_96 (by decide) ?_
            obtain rfl := Option.some.inj hm
            exact hret _ _ _ _ hw dX10_isWord_97 (Or.inl rfl)
          · replace hm := it_p hm c_10
            refine lv_iconst (v := 1) X.1 X.2.1 dX10_isWord_92 (by decide) ?_
            refine lv_goto (tgt := 97) X.1 X.2.1 dX10_isWord_93 (by decide) ?_
            obtain rfl := Option.some.inj hm
            exact hret _ _ _ _ hw dX10_isWord_97 (Or.inr rfl)
    refine lv_if_eq (tgt := 63) X.1 X.2.1 dX10_isWord_35 (by decide) (fun c_4 => ?_) (fun c_4 => ?_)
    · replace hg_11 := it_p hg_11 c_4
      refine lv_iconst (v := 0) X.1 X.2.1 dX10_isWord_63 (by decide) ?_
      obtain rfl := Option.some.inj hg_11
      exact J_12 _ _ _ hw (lv_sub hl [1, 2, 3, 5] rfl)
    · replace hg_11 := it_n hg_11 c_4
      refine lv_iload_n X.1 X.2.1 dX10_isWord_38 rfl (lv_at hl 3 rfl) ?_
      refine lv_iconst (v := 3) X.1 X.2.1 dX10_isWord_39 (by decide) ?_
      refine lv_icmp_lt (tgt := 59) X.1 X.2.1 dX10_isWord_40 (by decide) (fun c_13 => ?_) (fun c_13 => ?_)
      · replace hg_11 := it_p hg_11 c_13
        refine lv_iconst (v := 1) X.1 X.2.1 dX10_isWord_59 (by decide) ?_
        refine lv_goto (tgt := 64) X.1 X.2.1 dX10_isWord_60 (by decide) ?_
        obtain rfl := Option.some.inj hg_11
        exact J_12 _ _ _ hw (lv_sub hl [1, 2, 3, 5] rfl)
      · replace hg_11 := it_n hg_11 c_13
        refine lv_aload_n X.1 X.2.1 dX10_isWord_43 rfl (lv_at hl 1 rfl) ?_
        refine lv_iload_n X.1 X.2.1 dX10_isWord_44 rfl (lv_at hl 2 rfl) ?_
        refine lv_iconst (v := 2) X.1 X.2.1 dX10_isWord_45 (by decide) ?_
        refine lv_iadd X.1 X.2.1 dX10_isWord_46 ?_
        refine lv_aload_n X.1 X.2.1 dX10_isWord_47 rfl (lv_at hl 1 rfl) ?_
        refine gX10_bytes X hw wq_40_9 dX10_isWord_48 ?_
        replace hg_11 := ob_e hg_11
        obtain ⟨r_15, h_14, hg_11⟩ := hg_11
        refine k_Vi (k := 0) (As := [.int (x1 + (2 : Int32)), .int (t.1 9)]) X hl.1 hw (c_X10_letter h_14) (by decide) (he_X10 g h _) rfl ⟨wq_45_23, wq_46_0, wq_46_1, wq_1_5, wq_46_2⟩ yo_X10_letter rfl ⟨Nat.le_of_ble_eq_true rfl, Nat.le_of_ble_eq_true rfl⟩ (Nat.le_of_ble_eq_true rfl) dX10_isWord_51 (fun H locs hw => ?_)
        refine lv_iload X.1 X.2.1 dX10_isWord_54 (lv_at hl 4 rfl) ?_
        refine lv_icmp_ne (tgt := 63) X.1 X.2.1 dX10_isWord_56 (by decide) (fun c_16 => ?_) (fun c_16 => ?_)
        · replace hg_11 := it_n hg_11 c_16
          refine lv_iconst (v := 0) X.1 X.2.1 dX10_isWord_63 (by decide) ?_
          obtain rfl := Option.some.inj hg_11
          exact J_12 _ _ _ hw (lv_sub hl [1, 2, 3, 5] rfl)
        · replace hg_11 := it_p hg_11 c_16
          refine lv_iconst (v := 1) X.1 X.2.1 dX10_isWord_59 (by decide) ?_
          refine lv_goto (tgt := 64) X.1 X.2.1 dX10_isWord_60 (by decide) ?_
          obtain rfl := Option.some.inj hg_11
          exact J_12 _ _ _ hw (lv_sub hl [1, 2, 3, 5] rfl)
  refine lv_icmp_ne (tgt := 30) X.1 X.2.1 dX10_isWord_7 (by decide) (fun c_2 => ?_) (fun c_2 => ?_)
  · replace hg_17 := it_n hg_17 c_2
    refine lv_iconst (v := 0) X.1 X.2.1 dX10_isWord_30 (by decide) ?_
    obtain rfl := Option.some.inj hg_17
    exact J_18 _ _ _ hw (lv_sub hl [0, 1, 2, 5, 6] rfl)
  · replace hg_17 := it_p hg_17 c_2
    refine lv_aload_n X.1 X.2.1 dX10_isWord_10 rfl (lv_at hl 0 rfl) ?_
    refine lv_iload_n X.1 X.2.1 dX10_isWord_11 rfl (lv_at hl 1 rfl) ?_
    refine lv_iconst (v := 1) X.1 X.2.1 dX10_isWord_12 (by decide) ?_
    refine lv_iadd X.1 X.2.1 dX10_isWord_13 ?_
    refine lv_aload_n X.1 X.2.1 dX10_isWord_14 rfl (lv_at hl 0 rfl) ?_
    refine gX10_bytes X hw wq_40_9 dX10_isWord_15 ?_
    replace hg_17 := ob_e hg_17
    obtain ⟨r_20, h_19, hg_17⟩ := hg_17
    refine k_Vi (k := 0) (As := [.int (x1 + (1 : Int32)), .int (t.1 9)]) X hl.1 hw (c_X10_letter h_19) (by decide) (he_X10 g h _) rfl ⟨wq_45_23, wq_46_0, wq_46_1, wq_1_5, wq_46_2⟩ yo_X10_letter rfl ⟨Nat.le_of_ble_eq_true rfl, Nat.le_of_ble_eq_true rfl⟩ (Nat.le_of_ble_eq_true rfl) dX10_isWord_18 (fun H locs hw => ?_)
    refine lv_iload X.1 X.2.1 dX10_isWord_21 (lv_at hl 4 rfl) ?_
    refine lv_icmp_ne (tgt := 30) X.1 X.2.1 dX10_isWord_23 (by decide) (fun c_21 => ?_) (fun c_21 => ?_)
    · replace hg_17 := it_n hg_17 c_21
      refine lv_iconst (v := 0) X.1 X.2.1 dX10_isWord_30 (by decide) ?_
      obtain rfl := Option.some.inj hg_17
      exact J_18 _ _ _ hw (lv_sub hl [0, 1, 2, 5, 6] rfl)
    · replace hg_17 := it_p hg_17 c_21
      refine lv_iconst (v := 1) X.1 X.2.1 dX10_isWord_26 (by decide) ?_
      refine lv_goto (tgt := 31) X.1 X.2.1 dX10_isWord_27 (by decide) ?_
      obtain rfl := Option.some.inj hg_17
      exact J_18 _ _ _ hw (lv_sub hl [0, 1, 2, 5, 6] rfl)
def m_X10_wordOf (t : ST) (x1 : Int32) (x2 : Int32) : Option (Int32) := Option.bind ((if x2 = (2 : Int32) then Option.bind (m_X10_isWord t x1 (2 : Int32) (117 : Int32) (112 : Int32) (0 : Int32) (0 : Int32)) (fun (r_34 : Int32) => if r_34 = 0 then some (.inl ()) else some (.inr (1 : Int32))) else some (.inl ())) : Option ((Unit) ⊕ (Int32))) (fun z_36 => ex z_36 (fun (_ : Unit) => if x2 = (3 : Int32) then Option.bind (m_X10_isWord t x1 (3 : Int32) (97 : Int32) (108 : Int32) (108 : Int32) (0 : Int32)) (fun (r_29 : Int32) => if r_29 = 0 then some (0 : Int32) else some (6 : Int32)) else if x2 = (4 : Int32) then Option.bind (m_X10_isWord t x1 (4 : Int32) (100 : Int32) (111 : Int32) (119 : Int32) (110 : Int32)) (fun (r_5 : Int32) => Option.bind (if r_5 = 0 then Option.bind (m_X10_isWord t x1 (4 : Int32) (102 : Int32) (114 : Int32) (101 : Int32) (101 : Int32)) (fun (r_26 : Int32) => if r_26 = 0 then some (0 : Int32) else some (3 : Int32)) else some (2 : Int32)) (fun (j_7 : Int32) => Option.bind (m_X10_isWord t x1 (4 : Int32) (103 : Int32) (111 : Int32) (97 : Int32) (108 : Int32)) (fun (r_9 : Int32) => Option.bind (if r_9 = 0 then some j_7 else some (4 : Int32)) (fun (j_11 : Int32) => Option.bind (m_X10_isWord t x1 (4 : Int32) (102 : Int32) (114 : Int32) (111 : Int32) (109 : Int32)) (fun (r_13 : Int32) => Option.bind (if r_13 = 0 then some j_11 else some (5 : Int32)) (fun (j_15 : Int32) => Option.bind (m_X10_isWord t x1 (4 : Int32) (110 : Int32) (111 : Int32) (110 : Int32) (101 : Int32)) (fun (r_17 : Int32) => if r_17 = 0 then some j_15 else some (7 : Int32)))))))) else some (0 : Int32)) (fun r => some r))
theorem yo_X10_wordOf : yX10_wordOf.cls = RX10 ∧ yX10_wordOf.cls ≠ "java/lang/invoke/MethodHandle" ∧ yX10_wordOf.cls ≠ "java/lang/invoke/VarHandle" ∧ (parseMethodDescriptor yX10_wordOf.desc).map (fun d => d.parameters.length) = some 2 := by decide +kernel
set_option maxHeartbeats 4000000 in
set_option maxRecDepth 100000 in
theorem c_X10_wordOf {l : Launch} {g : gT} {h : Nat → Nat} {t : ST} {x1 : Int32} {x2 : Int32} {r : Int32} (hm : m_X10_wordOf t x1 x2 = some r) : MetI l g yX10_wordOf cX10_wordOf 4 (some .int) 2 49 20 h (cM g h t) (cM g h t) [.ref (h 0), .int x1, .int x2] r := by
  refine MetI.ofX (by decide +kernel) (Nat.le_of_ble_eq_true rfl) ?_
  intro p e s m below meth c AV Q X hret ls hw hl
  replace X : Cx g p s m AV c cX10_wordOf RX10 4 := X
  replace hl : lv_has ls 4 [(0, .ref (h 0)), (1, .int x1), (2, .int x2)] := hl
  unfold m_X10_wordOf at hm
  refine lv_iload_n X.1 X.2.1 dX10_wordOf_0 rfl (lv_at hl 2 rfl) ?_
  refine lv_iconst (v := 2) X.1 X.2.1 dX10_wordOf_1 (by decide) ?_
  replace hm := ob_e hm
  obtain ⟨z_36, hg_31, hm⟩ := hm
  have J_32 : z_36 = .inl () → ∀ (H : Heap) (locs : List Loc) (ls : Array Slot), Wd g 20 h (cM g h t) s H locs → lv_has ls 4 [(0, .ref (h 0)), (1, .int x1), (2, .int x2)] → W p l e (rW 2 49) s m AV below meth c H locs 0 0 Q (F0 m 22 ls []) := by
    intro hj
    subst hj
    replace hm := ex_l hm
    intro H locs ls hw hl
    refine lv_iload_n X.1 X.2.1 dX10_wordOf_22 rfl (lv_at hl 2 rfl) ?_
    refine lv_iconst (v := 3) X.1 X.2.1 dX10_wordOf_23 (by decide) ?_
    refine lv_icmp_ne (tgt := 50) X.1 X.2.1 dX10_wordOf_24 (by decide) (fun c_2 => ?_) (fun c_2 => ?_)
    · replace hm := it_n hm c_2
      refine lv_iload_n X.1 X.2.1 dX10_wordOf_50 rfl (lv_at hl 2 rfl) ?_
      refine lv_iconst (v := 4) X.1 X.2.1 dX10_wordOf_51 (by decide) ?_
      refine lv_icmp_eq (tgt := 57) X.1 X.2.1 dX10_wordOf_52 (by decide) (fun c_3 => ?_) (fun c_3 => ?_)
      · replace hm := it_p hm c_3
        refine lv_aload_n X.1 X.2.1 dX10_wordOf_57 rfl (lv_at hl 0 rfl) ?_
        refine lv_iload_n X.1 X.2.1 dX10_wordOf_58 rfl (lv_at hl 1 rfl) ?_
        refine lv_iconst (v := 4) X.1 X.2.1 dX10_wordOf_59 (by decide) ?_
        refine lv_bipush (v := 100) X.1 X.2.1 dX10_wordOf_60 (by decide) ?_
        refine lv_bipush (v := 111) X.1 X.2.1 dX10_wordOf_62 (by decide) ?_
        refine lv_bipush (v := 119) X.1 X.2.1 dX10_wordOf_64 (by decide) ?_
        refine lv_bipush (v := 110) X.1 X.2.1 dX10_wordOf_66 (by decide) ?_
        replace hm := ob_e hm
        obtain ⟨r_5, h_4, hm⟩ := hm
        refine k_Vi (k := 0) (As := [.int x1, .int (4 : Int32), .int (100 : Int32), .int (111 : Int32), .int (119 : Int32), .int (110 : Int32)]) X hl.1 hw (c_X10_isWord h_4) (by decide) (he_X10 g h _) rfl ⟨wq_45_19, wq_45_20, wq_45_21, wq_1_5, wq_45_22⟩ yo_X10_isWord rfl ⟨Nat.le_of_ble_eq_true rfl, Nat.le_of_ble_eq_true rfl⟩ (Nat.le_of_ble_eq_true rfl) dX10_wordOf_68 (fun H locs hw => ?_)
        replace hm := ob_e hm
        obtain ⟨j_7, hg_23, hm⟩ := hm
        have J_24 : ∀ (H : Heap) (locs : List Loc) (ls : Array Slot), Wd g 20 h (cM g h t) s H locs → lv_has ls 4 [(0, .ref (h 0)), (1, .int x1)] → W p l e (rW 2 49) s m AV below meth c H locs 0 0 Q (F0 m 100 ls [.int j_7]) := by
          intro H locs ls hw hl
          refine lv_istore_n (lv' := [(3, .int j_7), (0, .ref (h 0)), (1, .int x1)]) X.1 X.2.1 dX10_wordOf_100 rfl hl (by decide) rfl (fun ls hl => ?_)
          refine lv_aload_n X.1 X.2.1 dX10_wordOf_101 rfl (lv_at hl 1 rfl) ?_
          refine lv_iload_n X.1 X.2.1 dX10_wordOf_102 rfl (lv_at hl 2 rfl) ?_
          refine lv_iconst (v := 4) X.1 X.2.1 dX10_wordOf_103 (by decide) ?_
          refine lv_bipush (v := 103) X.1 X.2.1 dX10_wordOf_104 (by decide) ?_
          refine lv_bipush (v := 111) X.1 X.2.1 dX10_wordOf_106 (by decide) ?_
          refine lv_bipush (v := 97) X.1 X.2.1 dX10_wordOf_108 (by decide) ?_
          refine lv_bipush (v := 108) X.1 X.2.1 dX10_wordOf_110 (by decide) ?_
          replace hm := ob_e hm
          obtain ⟨r_9, h_8, hm⟩ := hm
          refine k_Vi (k := 0) (As := [.int x1, .int (4 : Int32), .int (103 : Int32), .int (111 : Int32), .int (97 : Int32), .int (108 : Int32)]) X hl.1 hw (c_X10_isWord h_8) (by decide) (he_X10 g h _) rfl ⟨wq_45_19, wq_45_20, wq_45_21, wq_1_5, wq_45_22⟩ yo_X10_isWord rfl ⟨Nat.le_of_ble_eq_true rfl, Nat.le_of_ble_eq_true rfl⟩ (Nat.le_of_ble_eq_true rfl) dX10_wordOf_112 (fun H locs hw => ?_)
          replace hm := ob_e hm
          obtain ⟨j_11, hg_21, hm⟩ := hm
          have J_22 : ∀ (H : Heap) (locs : List Loc) (ls : Array Slot), Wd g 20 h (cM g h t) s H locs → lv_has ls 4 [(0, .ref (h 0)), (1, .int x1)] → W p l e (rW 2 49) s m AV below meth c H locs 0 0 Q (F0 m 123 ls [.int j_11]) := by
            intro H locs ls hw hl
            refine lv_istore_n (lv' := [(3, .int j_11), (0, .ref (h 0)), (1, .int x1)]) X.1 X.2.1 dX10_wordOf_123 rfl hl (by decide) rfl (fun ls hl => ?_)
            refine lv_aload_n X.1 X.2.1 dX10_wordOf_124 rfl (lv_at hl 1 rfl) ?_
            refine lv_iload_n X.1 X.2.1 dX10_wordOf_125 rfl (lv_at hl 2 rfl) ?_
            refine lv_iconst (v := 4) X.1 X.2.1 dX10_wordOf_126 (by decide) ?_
            refine lv_bipush (v := 102) X.1 X.2.1 dX10_wordOf_127 (by decide) ?_
            refine lv_bipush (v := 114) X.1 X.2.1 dX10_wordOf_129 (by decide) ?_
            refine lv_bipush (v := 111) X.1 X.2.1 dX10_wordOf_131 (by decide) ?_
            refine lv_bipush (v := 109) X.1 X.2.1 dX10_wordOf_133 (by decide) ?_
            replace hm := ob_e hm
            obtain ⟨r_13, h_12, hm⟩ := hm
            refine k_Vi (k := 0) (As := [.int x1, .int (4 : Int32), .int (102 : Int32), .int (114 : Int32), .int (111 : Int32), .int (109 : Int32)]) X hl.1 hw (c_X10_isWord h_12) (by decide) (he_X10 g h _) rfl ⟨wq_45_19, wq_45_20, wq_45_21, wq_1_5, wq_45_22⟩ yo_X10_isWord rfl ⟨Nat.le_of_ble_eq_true rfl, Nat.le_of_ble_eq_true rfl⟩ (Nat.le_of_ble_eq_true rfl) dX10_wordOf_135 (fun H locs hw => ?_)
            replace hm := ob_e hm
            obtain ⟨j_15, hg_19, hm⟩ := hm
            have J_20 : ∀ (H : Heap) (locs : List Loc) (ls : Array Slot), Wd g 20 h (cM g h t) s H locs → lv_has ls 4 [(0, .ref (h 0)), (1, .int x1)] → W p l e (rW 2 49) s m AV below meth c H locs 0 0 Q (F0 m 146 ls [.int j_15]) := by
              intro H locs ls hw hl
              refine lv_istore_n (lv' := [(3, .int j_15), (0, .ref (h 0)), (1, .int x1)]) X.1 X.2.1 dX10_wordOf_146 rfl hl (by decide) rfl (fun ls hl => ?_)
              refine lv_aload_n X.1 X.2.1 dX10_wordOf_147 rfl (lv_at hl 1 rfl) ?_
              refine lv_iload_n X.1 X.2.1 dX10_wordOf_148 rfl (lv_at hl 2 rfl) ?_
              refine lv_iconst (v := 4) X.1 X.2.1 dX10_wordOf_149 (by decide) ?_
              refine lv_bipush (v := 110) X.1 X.2.1 dX10_wordOf_150 (by decide) ?_
              refine lv_bipush (v := 111) X.1 X.2.1 dX10_wordOf_152 (by decide) ?_
              refine lv_bipush (v := 110) X.1 X.2.1 dX10_wordOf_154 (by decide) ?_
              refine lv_bipush (v := 101) X.1 X.2.1 dX10_wordOf_156 (by decide) ?_
              replace hm := ob_e hm
              obtain ⟨r_17, h_16, hm⟩ := hm
              refine k_Vi (k := 0) (As := [.int x1, .int (4 : Int32), .int (110 : Int32), .int (111 : Int32), .int (110 : Int32), .int (101 : Int32)]) X hl.1 hw (c_X10_isWord h_16) (by decide) (he_X10 g h _) rfl ⟨wq_45_19, wq_45_20, wq_45_21, wq_1_5, wq_45_22⟩ yo_X10_isWord rfl ⟨Nat.le_of_ble_eq_true rfl, Nat.le_of_ble_eq_true rfl⟩ (Nat.le_of_ble_eq_true rfl) dX10_wordOf_158 (fun H locs hw => ?_)
              refine lv_if_eq (tgt := 169) X.1 X.2.1 dX10_wordOf_161 (by decide) (fun c_18 => ?_) (fun c_18 => ?_)
              · replace hm := it_p hm c_18
                refine lv_iload_n X.1 X.2.1 dX10_wordOf_169 rfl (lv_at hl 0 rfl) ?_
                obtain rfl := Option.some.inj hm
                exact hret _ _ _ _ hw dX10_wordOf_170
              · replace hm := it_n hm c_18
                refine lv_bipush (v := 7) X.1 X.2.1 dX10_wordOf_164 (by decide) ?_
                refine lv_goto (tgt := 170) X.1 X.2.1 dX10_wordOf_166 (by decide) ?_
                obtain rfl := Option.some.inj hm
                exact hret _ _ _ _ hw dX10_wordOf_170
            refine lv_if_eq (tgt := 145) X.1 X.2.1 dX10_wordOf_138 (by decide) (fun c_14 => ?_) (fun c_14 => ?_)
            · replace hg_19 := it_p hg_19 c_14
              refine lv_iload_n X.1 X.2.1 dX10_wordOf_145 rfl (lv_at hl 0 rfl) ?_
              obtain rfl := Option.some.inj hg_19
              exact J_20 _ _ _ hw (lv_sub hl [1, 2] rfl)
            · replace hg_19 := it_n hg_19 c_14
              refine lv_iconst (v := 5) X.1 X.2.1 dX10_wordOf_141 (by decide) ?_
              refine lv_goto (tgt := 146) X.1 X.2.1 dX10_wordOf_142 (by decide) ?_
              obtain rfl := Option.some.inj hg_19
              exact J_20 _ _ _ hw (lv_sub hl [1, 2] rfl)
          refine lv_if_eq (tgt := 122) X.1 X.2.1 dX10_wordOf_115 (by decide) (fun c_10 => ?_) (fun c_10 => ?_)
          · replace hg_21 := it_p hg_21 c_10
            refine lv_iload_n X.1 X.2.1 dX10_wordOf_122 rfl (lv_at hl 0 rfl) ?_
            obtain rfl := Option.some.inj hg_21
            exact J_22 _ _ _ hw (lv_sub hl [1, 2] rfl)
          · replace hg_21 := it_n hg_21 c_10
            refine lv_iconst (v := 4) X.1 X.2.1 dX10_wordOf_118 (by decide) ?_
            refine lv_goto (tgt := 123) X.1 X.2.1 dX10_wordOf_119 (by decide) ?_
            obtain rfl := Option.some.inj hg_21
            exact J_22 _ _ _ hw (lv_sub hl [1, 2] rfl)
        refine lv_if_eq (tgt := 78) X.1 X.2.1 dX10_wordOf_71 (by decide) (fun c_6 => ?_) (fun c_6 => ?_)
        · replace hg_23 := it_p hg_23 c_6
          refine lv_aload_n X.1 X.2.1 dX10_wordOf_78 rfl (lv_at hl 0 rfl) ?_
          refine lv_iload_n X.1 X.2.1 dX10_wordOf_79 rfl (lv_at hl 1 rfl) ?_
          refine lv_iconst (v := 4) X.1 X.2.1 dX10_wordOf_80 (by decide) ?_
          refine lv_bipush (v := 102) X.1 X.2.1 dX10_wordOf_81 (by decide) ?_
          refine lv_bipush (v := 114) X.1 X.2.1 dX10_wordOf_83 (by decide) ?_
          refine lv_bipush (v := 101) X.1 X.2.1 dX10_wordOf_85 (by decide) ?_
          refine lv_bipush (v := 101) X.1 X.2.1 dX10_wordOf_87 (by decide) ?_
          replace hg_23 := ob_e hg_23
          obtain ⟨r_26, h_25, hg_23⟩ := hg_23
          refine k_Vi (k := 0) (As := [.int x1, .int (4 : Int32), .int (102 : Int32), .int (114 : Int32), .int (101 : Int32), .int (101 : Int32)]) X hl.1 hw (c_X10_isWord h_25) (by decide) (he_X10 g h _) rfl ⟨wq_45_19, wq_45_20, wq_45_21, wq_1_5, wq_45_22⟩ yo_X10_isWord rfl ⟨Nat.le_of_ble_eq_true rfl, Nat.le_of_ble_eq_true rfl⟩ (Nat.le_of_ble_eq_true rfl) dX10_wordOf_89 (fun H locs hw => ?_)
          refine lv_if_eq (tgt := 99) X.1 X.2.1 dX10_wordOf_92 (by decide) (fun c_27 => ?_) (fun c_27 => ?_)
          · replace hg_23 := it_p hg_23 c_27
            refine lv_iconst (v := 0) X.1 X.2.1 dX10_wordOf_99 (by decide) ?_
            obtain rfl := Option.some.inj hg_23
            exact J_24 _ _ _ hw (lv_sub hl [0, 1] rfl)
          · replace hg_23 := it_n hg_23 c_27
            refine lv_iconst (v := 3) X.1 X.2.1 dX10_wordOf_95 (by decide) ?_
            refine lv_goto (tgt := 100) X.1 X.2.1 dX10_wordOf_96 (by decide) ?_
            obtain rfl := Option.some.inj hg_23
            exact J_24 _ _ _ hw (lv_sub hl [0, 1] rfl)
        · replace hg_23 := it_n hg_23 c_6
          refine lv_iconst (v := 2) X.1 X.2.1 dX10_wordOf_74 (by decide) ?_
          refine lv_goto (tgt := 100) X.1 X.2.1 dX10_wordOf_75 (by decide) ?_
          obtain rfl := Option.some.inj hg_23
          exact J_24 _ _ _ hw (lv_sub hl [0, 1] rfl)
      · replace hm := it_n hm c_3
        refine lv_iconst (v := 0) X.1 X.2.1 dX10_wordOf_55 (by decide) ?_
        obtain rfl := Option.some.inj hm
        exact hret _ _ _ _ hw dX10_wordOf_56
    · replace hm := it_p hm c_2
      refine lv_aload_n X.1 X.2.1 dX10_wordOf_27 rfl (lv_at hl 0 rfl) ?_
      refine lv_iload_n X.1 X.2.1 dX10_wordOf_28 rfl (lv_at hl 1 rfl) ?_
      refine lv_iconst (v := 3) X.1 X.2.1 dX10_wordOf_29 (by decide) ?_
      refine lv_bipush (v := 97) X.1 X.2.1 dX10_wordOf_30 (by decide) ?_
      refine lv_bipush (v := 108) X.1 X.2.1 dX10_wordOf_32 (by decide) ?_
      refine lv_bipush (v := 108) X.1 X.2.1 dX10_wordOf_34 (by decide) ?_
      refine lv_iconst (v := 0) X.1 X.2.1 dX10_wordOf_36 (by decide) ?_
      replace hm := ob_e hm
      obtain ⟨r_29, h_28, hm⟩ := hm
      refine k_Vi (k := 0) (As := [.int x1, .int (3 : Int32), .int (97 : Int32), .int (108 : Int32), .int (108 : Int32), .int (0 : Int32)]) X hl.1 hw (c_X10_isWord h_28) (by decide) (he_X10 g h _) rfl ⟨wq_45_19, wq_45_20, wq_45_21, wq_1_5, wq_45_22⟩ yo_X10_isWord rfl ⟨Nat.le_of_ble_eq_true rfl, Nat.le_of_ble_eq_true rfl⟩ (Nat.le_of_ble_eq_true rfl) dX10_wordOf_37 (fun H locs hw => ?_)
      refine lv_if_eq (tgt := 48) X.1 X.2.1 dX10_wordOf_40 (by decide) (fun c_30 => ?_) (fun c_30 => ?_)
      · replace hm := it_p hm c_30
        refine lv_iconst (v := 0) X.1 X.2.1 dX10_wordOf_48 (by decide) ?_
        obtain rfl := Option.some.inj hm
        exact hret _ _ _ _ hw dX10_wordOf_49
      · replace hm := it_n hm c_30
        refine lv_bipush (v := 6) X.1 X.2.1 dX10_wordOf_43 (by decide) ?_
        refine lv_goto (tgt := 49) X.1 X.2.1 dX10_wordOf_45 (by decide) ?_
        obtain rfl := Option.some.inj hm
        exact hret _ _ _ _ hw dX10_wordOf_49
  refine lv_icmp_ne (tgt := 22) X.1 X.2.1 dX10_wordOf_2 (by decide) (fun c_1 => ?_) (fun c_1 => ?_)
  · replace hg_31 := it_n hg_31 c_1
    exact J_32 (Option.some.inj hg_31).symm _ _ _ hw (lv_sub hl [0, 1, 2] rfl)
  · replace hg_31 := it_p hg_31 c_1
    refine lv_aload_n X.1 X.2.1 dX10_wordOf_5 rfl (lv_at hl 0 rfl) ?_
    refine lv_iload_n X.1 X.2.1 dX10_wordOf_6 rfl (lv_at hl 1 rfl) ?_
    refine lv_iconst (v := 2) X.1 X.2.1 dX10_wordOf_7 (by decide) ?_
    refine lv_bipush (v := 117) X.1 X.2.1 dX10_wordOf_8 (by decide) ?_
    refine lv_bipush (v := 112) X.1 X.2.1 dX10_wordOf_10 (by decide) ?_
    refine lv_iconst (v := 0) X.1 X.2.1 dX10_wordOf_12 (by decide) ?_
    refine lv_iconst (v := 0) X.1 X.2.1 dX10_wordOf_13 (by decide) ?_
    replace hg_31 := ob_e hg_31
    obtain ⟨r_34, h_33, hg_31⟩ := hg_31
    refine k_Vi (k := 0) (As := [.int x1, .int (2 : Int32), .int (117 : Int32), .int (112 : Int32), .int (0 : Int32), .int (0 : Int32)]) X hl.1 hw (c_X10_isWord h_33) (by decide) (he_X10 g h _) rfl ⟨wq_45_19, wq_45_20, wq_45_21, wq_1_5, wq_45_22⟩ yo_X10_isWord rfl ⟨Nat.le_of_ble_eq_true rfl, Nat.le_of_ble_eq_true rfl⟩ (Nat.le_of_ble_eq_true rfl) dX10_wordOf_14 (fun H locs hw => ?_)
    refine lv_if_eq (tgt := 22) X.1 X.2.1 dX10_wordOf_17 (by decide) (fun c_35 => ?_) (fun c_35 => ?_)
    · replace hg_31 := it_p hg_31 c_35
      exact J_32 (Option.some.inj hg_31).symm _ _ _ hw (lv_sub hl [0, 1, 2] rfl)
    · replace hg_31 := it_n hg_31 c_35
      refine lv_iconst (v := 1) X.1 X.2.1 dX10_wordOf_20 (by decide) ?_
      obtain rfl := Option.some.inj hg_31
      replace hm := ex_r hm
      obtain rfl := Option.some.inj hm
      exact hret _ _ _ _ hw dX10_wordOf_21
def m_X10_does_L2 (x1 : Int32) (x2 : Int32) (t : ST) (σ : Int32) : Option ((Int32) ⊕ (Int32)) := (fun (y_1 : Int32) => if x2 ≤ (x1 + y_1) then some (.inr y_1) else lt (x1 + y_1) (fun x_149 => gd (¬ (x_149 < 0 ∨ 60 ≤ x_149.toNatClampNeg)) (Option.bind (m_X10_in ((t.2.2.1 15 x_149.toNatClampNeg).toInt64) (97 : Int64) (122 : Int64)) (fun (r_152 : Int32) => if r_152 = 0 then some (.inr y_1) else lt (y_1 + 1) (fun x_154 => some (.inl x_154)))))) σ
def m_X10_does (t : ST) (x1 : Int32) (x2 : Int32) : Option (Int32 × ST) := Option.bind (vLoop (m_X10_does_L2 x1 x2 t) FUEL (0 : Int32)) (fun (j_2 : Int32) => Option.bind (if j_2 = 0 then some (0 : Int32) else Option.bind (m_X10_wordOf t x1 j_2) (fun (r_140 : Int32) => some r_140)) (fun (j_4 : Int32) => if j_4 = 0 then some ((1 : Int32), t) else lt ((x2 - x1) - j_2) (fun x_6 => if j_4 ≤ (5 : Int32) then if x_6 = (1 : Int32) then lt (x1 + j_2) (fun x_10 => gd (¬ (x_10 < 0 ∨ 60 ≤ x_10.toNatClampNeg)) (Option.bind (m_X10_in ((t.2.2.1 15 x_10.toNatClampNeg).toInt64) (48 : Int64) (57 : Int64)) (fun (r_13 : Int32) => if r_13 = 0 then some ((2 : Int32), t) else Option.bind (if j_4 ≤ (5 : Int32) then lt (x1 + j_2) (fun x_72 => gd (¬ (x_72 < 0 ∨ 60 ≤ x_72.toNatClampNeg)) (some ((t.2.2.1 15 x_72.toNatClampNeg) - (48 : Int32)))) else some (0 : Int32)) (fun (j_16 : Int32) => if (4 : Int32) ≤ j_4 then Option.bind ((if (6 : Int32) ≤ j_4 then some (.inl ()) else Option.bind (m_X10_isStation t (j_16.toInt64)) (fun (r_42 : Int32) => if r_42 = 0 then some (.inr ((3 : Int32), t)) else some (.inl ()))) : Option ((Unit) ⊕ (Int32 × ST))) (fun z_45 => ex z_45 (fun (_ : Unit) => Option.bind (if (4 : Int32) ≤ j_4 then some t else gd (¬ (3 : Int32) = 0) (gd (¬ (j_16 < 0 ∨ 10 ≤ j_16.toNatClampNeg)) (lt (wA t 5 j_16.toNatClampNeg ((j_4 - j_4 / (3 : Int32) * (3 : Int32)))) (fun t_38 => some t_38)))) (fun (t_20 : ST) => Option.bind (if j_4 = (4 : Int32) then some ((t_20.1 3) ^^^ ((1 : Int32) <<< (j_16 &&& 31))) else if j_4 = (6 : Int32) then lt (((1 : Int32) <<< ((t_20.1 1) &&& 31)) - (1 : Int32)) (fun x_33 => some x_33) else if j_4 = (7 : Int32) then some (0 : Int32) else some (t_20.1 3)) (fun (j_22 : Int32) => lt (wI t_20 3 j_22) (fun t_23 => if j_4 = (5 : Int32) then lt (wI t_23 2 j_16) (fun t_27 => some ((0 : Int32), t_27)) else lt (wI t_23 2 (t_23.1 2)) (fun t_25 => some ((0 : Int32), t_25)))))) (fun r => some r)) else Option.bind (m_X10_isLink t j_16) (fun (r_47 : Int32) => if r_47 = 0 then some ((3 : Int32), t) else Option.bind (if (4 : Int32) ≤ j_4 then some t else gd (¬ (3 : Int32) = 0) (gd (¬ (j_16 < 0 ∨ 10 ≤ j_16.toNatClampNeg)) (lt (wA t 5 j_16.toNatClampNeg ((j_4 - j_4 / (3 : Int32) * (3 : Int32)))) (fun t_68 => some t_68)))) (fun (t_50 : ST) => Option.bind (if j_4 = (4 : Int32) then some ((t_50.1 3) ^^^ ((1 : Int32) <<< (j_16 &&& 31))) else if j_4 = (6 : Int32) then lt (((1 : Int32) <<< ((t_50.1 1) &&& 31)) - (1 : Int32)) (fun x_63 => some x_63) else if j_4 = (7 : Int32) then some (0 : Int32) else some (t_50.1 3)) (fun (j_52 : Int32) => lt (wI t_50 3 j_52) (fun t_53 => if j_4 = (5 : Int32) then lt (wI t_53 2 j_16) (fun t_57 => some ((0 : Int32), t_57)) else lt (wI t_53 2 (t_53.1 2)) (fun t_55 => some ((0 : Int32), t_55)))))))))) else some ((2 : Int32), t) else if x_6 = 0 then Option.bind (if j_4 ≤ (5 : Int32) then lt (x1 + j_2) (fun x_133 => gd (¬ (x_133 < 0 ∨ 60 ≤ x_133.toNatClampNeg)) (some ((t.2.2.1 15 x_133.toNatClampNeg) - (48 : Int32)))) else some (0 : Int32)) (fun (j_77 : Int32) => if (4 : Int32) ≤ j_4 then Option.bind ((if (6 : Int32) ≤ j_4 then some (.inl ()) else Option.bind (m_X10_isStation t (j_77.toInt64)) (fun (r_103 : Int32) => if r_103 = 0 then some (.inr ((3 : Int32), t)) else some (.inl ()))) : Option ((Unit) ⊕ (Int32 × ST))) (fun z_106 => ex z_106 (fun (_ : Unit) => Option.bind (if (4 : Int32) ≤ j_4 then some t else gd (¬ (3 : Int32) = 0) (gd (¬ (j_77 < 0 ∨ 10 ≤ j_77.toNatClampNeg)) (lt (wA t 5 j_77.toNatClampNeg ((j_4 - j_4 / (3 : Int32) * (3 : Int32)))) (fun t_99 => some t_99)))) (fun (t_81 : ST) => Option.bind (if j_4 = (4 : Int32) then some ((t_81.1 3) ^^^ ((1 : Int32) <<< (j_77 &&& 31))) else if j_4 = (6 : Int32) then lt (((1 : Int32) <<< ((t_81.1 1) &&& 31)) - (1 : Int32)) (fun x_94 => some x_94) else if j_4 = (7 : Int32) then some (0 : Int32) else some (t_81.1 3)) (fun (j_83 : Int32) => lt (wI t_81 3 j_83) (fun t_84 => if j_4 = (5 : Int32) then lt (wI t_84 2 j_77) (fun t_88 => some ((0 : Int32), t_88)) else lt (wI t_84 2 (t_84.1 2)) (fun t_86 => some ((0 : Int32), t_86)))))) (fun r => some r)) else Option.bind (m_X10_isLink t j_77) (fun (r_108 : Int32) => if r_108 = 0 then some ((3 : Int32), t) else Option.bind (if (4 : Int32) ≤ j_4 then some t else gd (¬ (3 : Int32) = 0) (gd (¬ (j_77 < 0 ∨ 10 ≤ j_77.toNatClampNeg)) (lt (wA t 5 j_77.toNatClampNeg ((j_4 - j_4 / (3 : Int32) * (3 : Int32)))) (fun t_129 => some t_129)))) (fun (t_111 : ST) => Option.bind (if j_4 = (4 : Int32) then some ((t_111.1 3) ^^^ ((1 : Int32) <<< (j_77 &&& 31))) else if j_4 = (6 : Int32) then lt (((1 : Int32) <<< ((t_111.1 1) &&& 31)) - (1 : Int32)) (fun x_124 => some x_124) else if j_4 = (7 : Int32) then some (0 : Int32) else some (t_111.1 3)) (fun (j_113 : Int32) => lt (wI t_111 3 j_113) (fun t_114 => if j_4 = (5 : Int32) then lt (wI t_114 2 j_77) (fun t_118 => some ((0 : Int32), t_118)) else lt (wI t_114 2 (t_114.1 2)) (fun t_116 => some ((0 : Int32), t_116))))))) else some ((2 : Int32), t))))
theorem yo_X10_does : yX10_does.cls = RX10 ∧ yX10_does.cls ≠ "java/lang/invoke/MethodHandle" ∧ yX10_does.cls ≠ "java/lang/invoke/VarHandle" ∧ (parseMethodDescriptor yX10_does.desc).map (fun d => d.parameters.length) = some 2 := by decide +kernel
set_option maxHeartbeats 4000000 in
set_option maxRecDepth 100000 in
theorem c_X10_does {l : Launch} {g : gT} {h : Nat → Nat} {t : ST} {x1 : Int32} {x2 : Int32} {r : Int32} {t' : ST} (hm : m_X10_does t x1 x2 = some (r, t')) : MetI l g yX10_does cX10_does 7 (some .int) 3 72 20 h (cM g h t) (cM g h t') [.ref (h 0), .int x1, .int x2] r := by
  refine MetI.ofX (by decide +kernel) (Nat.le_of_ble_eq_true rfl) ?_
  intro p e s m below meth c AV Q X hret ls hw hl
  replace X : Cx g p s m AV c cX10_does RX10 7 := X
  replace hl : lv_has ls 7 [(0, .ref (h 0)), (1, .int x1), (2, .int x2)] := hl
  unfold m_X10_does at hm
  refine lv_iconst (v := 0) X.1 X.2.1 dX10_does_0 (by decide) ?_
  refine lv_istore_n (lv' := [(3, .int (0 : Int32)), (0, .ref (h 0)), (1, .int x1), (2, .int x2)]) X.1 X.2.1 dX10_does_1 rfl hl (by decide) rfl (fun ls hl => ?_)
  replace hm := ob_e hm
  obtain ⟨j_2, hL_146, hm⟩ := hm
  have J_145 : ∀ (H : Heap) (locs : List Loc) (ls : Array Slot), Wd g 20 h (cM g h t) s H locs → lv_has ls 7 [(0, .ref (h 0)), (1, .int x1), (2, .int x2), (3, .int j_2)] → W p l e (rW 3 72) s m AV below meth c H locs 0 0 Q (F0 m 36 ls []) := by
    intro H locs ls hw hl
    refine lv_iload_n X.1 X.2.1 dX10_does_36 rfl (lv_at hl 3 rfl) ?_
    replace hm := ob_e hm
    obtain ⟨j_4, hg_137, hm⟩ := hm
    have J_138 : ∀ (H : Heap) (locs : List Loc) (ls : Array Slot), Wd g 20 h (cM g h t) s H locs → lv_has ls 7 [(0, .ref (h 0)), (1, .int x1), (2, .int x2), (3, .int j_2)] → W p l e (rW 3 72) s m AV below meth c H locs 0 0 Q (F0 m 50 ls [.int j_4]) := by
      intro H locs ls hw hl
      refine lv_istore (lv' := [(4, .int j_4), (0, .ref (h 0)), (1, .int x1), (2, .int x2), (3, .int j_2)]) X.1 X.2.1 dX10_does_50 hl (by decide) rfl (fun ls hl => ?_)
      refine lv_iload X.1 X.2.1 dX10_does_52 (lv_at hl 0 rfl) ?_
      refine lv_if_ne (tgt := 59) X.1 X.2.1 dX10_does_54 (by decide) (fun c_5 => ?_) (fun c_5 => ?_)
      · replace hm := it_n hm c_5
        refine lv_iload_n X.1 X.2.1 dX10_does_59 rfl (lv_at hl 3 rfl) ?_
        refine lv_iload_n X.1 X.2.1 dX10_does_60 rfl (lv_at hl 2 rfl) ?_
        refine lv_isub X.1 X.2.1 dX10_does_61 ?_
        refine lv_iload_n X.1 X.2.1 dX10_does_62 rfl (lv_at hl 4 rfl) ?_
        refine lv_isub X.1 X.2.1 dX10_does_63 ?_
        refine lv_topi (fun x_6 ex_6 => ?_)
        replace hm := lt_e hm ex_6
        refine lv_istore (lv' := [(5, .int x_6), (4, .int j_4), (0, .ref (h 0)), (1, .int x1), (2, .int x2), (3, .int j_2)]) X.1 X.2.1 dX10_does_64 hl (by decide) rfl (fun ls hl => ?_)
        refine lv_iload X.1 X.2.1 dX10_does_66 (lv_at hl 1 rfl) ?_
        refine lv_iconst (v := 5) X.1 X.2.1 dX10_does_68 (by decide) ?_
        refine lv_icmp_le (tgt := 80) X.1 X.2.1 dX10_does_69 (by decide) (fun c_7 => ?_) (fun c_7 => ?_)
        · replace hm := it_p hm c_7
          refine lv_iload X.1 X.2.1 dX10_does_80 (lv_at hl 0 rfl) ?_
          refine lv_iconst (v := 1) X.1 X.2.1 dX10_does_82 (by decide) ?_
          refine lv_icmp_ne (tgt := 107) X.1 X.2.1 dX10_does_83 (by decide) (fun c_8 => ?_) (fun c_8 => ?_)
          · replace hm := it_n hm c_8
            refine lv_iconst (v := 2) X.1 X.2.1 dX10_does_107 (by decide) ?_
            obtain ⟨rfl, rfl⟩ := Prod.mk.inj (Option.some.inj hm)
            exact hret _ _ _ _ hw dX10_does_108
          · replace hm := it_p hm c_8
            refine lv_aload_n X.1 X.2.1 dX10_does_86 rfl (lv_at hl 2 rfl) ?_
            refine gX10_orders X hw wq_6_2 dX10_does_87 ?_
            refine lv_iload_n X.1 X.2.1 dX10_does_90 rfl (lv_at hl 3 rfl) ?_
            refine lv_iload_n X.1 X.2.1 dX10_does_91 rfl (lv_at hl 5 rfl) ?_
            refine lv_iadd X.1 X.2.1 dX10_does_92 ?_
            refine lv_topi (fun x_10 ex_10 => ?_)
            replace hm := lt_e hm ex_10
            replace hm := gd_e hm
            obtain ⟨g_11, hm⟩ := hm
            refine lMA15 X hw g_11 dX10_does_93 ?_
            refine lv_i2l X.1 X.2.1 dX10_does_94 rfl ?_
            refine lv_ldc2 (v := 48) X.1 X.2.1 X.2.2.2.1 (X.2.2.2.2.1 _ wq_45_13) dX10_does_95 ?_
            refine lv_ldc2 (v := 57) X.1 X.2.1 X.2.2.2.1 (X.2.2.2.2.1 _ wq_45_14) dX10_does_98 ?_
            replace hm := ob_e hm
            obtain ⟨r_13, h_12, hm⟩ := hm
            refine k_Si (As := [.long (t.2.2.1 15 x_10.toNatClampNeg).toInt64, .long (48 : Int64), .long (57 : Int64)]) X hl.1 hw (c_X10_in h_12) ⟨wq_7_5, wq_7_6, wq_1_5, wq_7_7⟩ yo_X10_in rfl ⟨Nat.le_of_ble_eq_true rfl, Nat.le_of_ble_eq_true rfl⟩ (Nat.le_of_ble_eq_true rfl) dX10_does_101 (fun H locs hw => ?_)
            refine lv_if_ne (tgt := 109) X.1 X.2.1 dX10_does_104 (by decide) (fun c_14 => ?_) (fun c_14 => ?_)
            · replace hm := it_n hm c_14
              refine lv_iload X.1 X.2.1 dX10_does_109 (lv_at hl 1 rfl) ?_
              refine lv_iconst (v := 5) X.1 X.2.1 dX10_does_111 (by decide) ?_
              replace hm := ob_e hm
              obtain ⟨j_16, hg_70, hm⟩ := hm
              have J_71 : ∀ (H : Heap) (locs : List Loc) (ls : Array Slot), Wd g 20 h (cM g h t) s H locs → lv_has ls 7 [(0, .ref (h 0)), (4, .int j_4)] → W p l e (rW 3 72) s m AV below meth c H locs 0 0 Q (F0 m 130 ls [.int j_16]) := by
                intro H locs ls hw hl
                refine lv_istore (lv' := [(6, .int j_16), (0, .ref (h 0)), (4, .int j_4)]) X.1 X.2.1 dX10_does_130 hl (by decide) rfl (fun ls hl => ?_)
                refine lv_iload X.1 X.2.1 dX10_does_132 (lv_at hl 2 rfl) ?_
                refine lv_iconst (v := 4) X.1 X.2.1 dX10_does_134 (by decide) ?_
                refine lv_icmp_ge (tgt := 150) X.1 X.2.1 dX10_does_135 (by decide) (fun c_17 => ?_) (fun c_17 => ?_)
                · replace hm := it_p hm c_17
                  refine lv_iload X.1 X.2.1 dX10_does_150 (lv_at hl 2 rfl) ?_
                  refine lv_bipush (v := 6) X.1 X.2.1 dX10_does_152 (by decide) ?_
                  replace hm := ob_e hm
                  obtain ⟨z_45, hg_39, hm⟩ := hm
                  have J_40 : z_45 = .inl () → ∀ (H : Heap) (locs : List Loc) (ls : Array Slot), Wd g 20 h (cM g h t) s H locs → lv_has ls 7 [(0, .ref (h 0)), (4, .int j_4), (6, .int j_16)] → W p l e (rW 3 72) s m AV below meth c H locs 0 0 Q (F0 m 169 ls []) := by
                    intro hj
                    subst hj
                    replace hm := ex_l hm
                    intro H locs ls hw hl
                    refine lv_iload X.1 X.2.1 dX10_does_169 (lv_at hl 1 rfl) ?_
                    refine lv_iconst (v := 4) X.1 X.2.1 dX10_does_171 (by decide) ?_
                    replace hm := ob_e hm
                    obtain ⟨t_20, hg_34, hm⟩ := hm
                    have J_35 : ∀ (H : Heap) (locs : List Loc) (ls : Array Slot), Wd g 20 h (cM g h t_20) s H locs → lv_has ls 7 [(0, .ref (h 0)), (4, .int j_4), (6, .int j_16)] → W p l e (rW 3 72) s m AV below meth c H locs 0 0 Q (F0 m 186 ls []) := by
                      intro H locs ls hw hl
                      refine lv_aload_n X.1 X.2.1 dX10_does_186 rfl (lv_at hl 0 rfl) ?_
                      refine lv_iload X.1 X.2.1 dX10_does_187 (lv_at hl 1 rfl) ?_
                      refine lv_iconst (v := 4) X.1 X.2.1 dX10_does_189 (by decide) ?_
                      replace hm := ob_e hm
                      obtain ⟨j_22, hg_29, hm⟩ := hm
                      have J_30 : ∀ (H : Heap) (locs : List Loc) (ls : Array Slot), Wd g 20 h (cM g h t_20) s H locs → lv_has ls 7 [(0, .ref (h 0)), (4, .int j_4), (6, .int j_16)] → W p l e (rW 3 72) s m AV below meth c H locs 0 0 Q (F0 m 238 ls [.int j_22, .ref (h 0)]) := by
                        intro H locs ls hw hl
                        refine pX10_goals X hw wq_7_3 dX10_does_238 (fun H locs hw => ?_)
                        obtain ⟨t_23, et_23⟩ : ∃ y, y = wI t_20 3 j_22 := ⟨_, rfl⟩
                        rw [← et_23] at hw
                        replace hm := lt_e hm et_23
                        refine lv_aload_n X.1 X.2.1 dX10_does_241 rfl (lv_at hl 0 rfl) ?_
                        refine lv_iload X.1 X.2.1 dX10_does_242 (lv_at hl 1 rfl) ?_
                        refine lv_iconst (v := 5) X.1 X.2.1 dX10_does_244 (by decide) ?_
                        refine lv_icmp_ne (tgt := 253) X.1 X.2.1 dX10_does_245 (by decide) (fun c_24 => ?_) (fun c_24 => ?_)
                        · replace hm := it_n hm c_24
                          refine lv_aload_n X.1 X.2.1 dX10_does_253 rfl (lv_at hl 0 rfl) ?_
                          refine gX10_source X hw wq_7_4 dX10_does_254 ?_
                          refine pX10_source X hw wq_7_4 dX10_does_257 (fun H locs hw => ?_)
                          obtain ⟨t_25, et_25⟩ : ∃ y, y = wI t_23 2 (t_23.1 2) := ⟨_, rfl⟩
                          rw [← et_25] at hw
                          replace hm := lt_e hm et_25
                          refine lv_iconst (v := 0) X.1 X.2.1 dX10_does_260 (by decide) ?_
                          obtain ⟨rfl, rfl⟩ := Prod.mk.inj (Option.some.inj hm)
                          exact hret _ _ _ _ hw dX10_does_261
                        · replace hm := it_p hm c_24
                          refine lv_iload X.1 X.2.1 dX10_does_248 (lv_at hl 2 rfl) ?_
                          refine lv_goto (tgt := 257) X.1 X.2.1 dX10_does_250 (by decide) ?_
                          refine pX10_source X hw wq_7_4 dX10_does_257 (fun H locs hw => ?_)
                          obtain ⟨t_27, et_27⟩ : ∃ y, y = wI t_23 2 j_16 := ⟨_, rfl⟩
                          rw [← et_27] at hw
                          replace hm := lt_e hm et_27
                          refine lv_iconst (v := 0) X.1 X.2.1 dX10_does_260 (by decide) ?_
                          obtain ⟨rfl, rfl⟩ := Prod.mk.inj (Option.some.inj hm)
                          exact hret _ _ _ _ hw dX10_does_261
                      refine lv_icmp_ne (tgt := 205) X.1 X.2.1 dX10_does_190 (by decide) (fun c_21 => ?_) (fun c_21 => ?_)
                      · replace hg_29 := it_n hg_29 c_21
                        refine lv_iload X.1 X.2.1 dX10_does_205 (lv_at hl 1 rfl) ?_
                        refine lv_bipush (v := 6) X.1 X.2.1 dX10_does_207 (by decide) ?_
                        refine lv_icmp_ne (tgt := 223) X.1 X.2.1 dX10_does_209 (by decide) (fun c_31 => ?_) (fun c_31 => ?_)
                        · replace hg_29 := it_n hg_29 c_31
                          refine lv_iload X.1 X.2.1 dX10_does_223 (lv_at hl 1 rfl) ?_
                          refine lv_bipush (v := 7) X.1 X.2.1 dX10_does_225 (by decide) ?_
                          refine lv_icmp_ne (tgt := 234) X.1 X.2.1 dX10_does_227 (by decide) (fun c_32 => ?_) (fun c_32 => ?_)
                          · replace hg_29 := it_n hg_29 c_32
                            refine lv_aload_n X.1 X.2.1 dX10_does_234 rfl (lv_at hl 0 rfl) ?_
                            refine gX10_goals X hw wq_7_3 dX10_does_235 ?_
                            obtain rfl := Option.some.inj hg_29
                            exact J_30 _ _ _ hw (lv_sub hl [0, 1, 2] rfl)
                          · replace hg_29 := it_p hg_29 c_32
                            refine lv_iconst (v := 0) X.1 X.2.1 dX10_does_230 (by decide) ?_
                            refine lv_goto (tgt := 238) X.1 X.2.1 dX10_does_231 (by decide) ?_
                            obtain rfl := Option.some.inj hg_29
                            exact J_30 _ _ _ hw (lv_sub hl [0, 1, 2] rfl)
                        · replace hg_29 := it_p hg_29 c_31
                          refine lv_iconst (v := 1) X.1 X.2.1 dX10_does_212 (by decide) ?_
                          refine lv_aload_n X.1 X.2.1 dX10_does_213 rfl (lv_at hl 0 rfl) ?_
                          refine gX10_stations X hw wq_6_4 dX10_does_214 ?_
                          refine lv_ishl X.1 X.2.1 dX10_does_217 ?_
                          refine lv_iconst (v := 1) X.1 X.2.1 dX10_does_218 (by decide) ?_
                          refine lv_isub X.1 X.2.1 dX10_does_219 ?_
                          refine lv_topi (fun x_33 ex_33 => ?_)
                          replace hg_29 := lt_e hg_29 ex_33
                          refine lv_goto (tgt := 238) X.1 X.2.1 dX10_does_220 (by decide) ?_
                          obtain rfl := Option.some.inj hg_29
                          exact J_30 _ _ _ hw (lv_sub hl [0, 1, 2] rfl)
                      · replace hg_29 := it_p hg_29 c_21
                        refine lv_aload_n X.1 X.2.1 dX10_does_193 rfl (lv_at hl 0 rfl) ?_
                        refine gX10_goals X hw wq_7_3 dX10_does_194 ?_
                        refine lv_iconst (v := 1) X.1 X.2.1 dX10_does_197 (by decide) ?_
                        refine lv_iload X.1 X.2.1 dX10_does_198 (lv_at hl 2 rfl) ?_
                        refine lv_ishl X.1 X.2.1 dX10_does_200 ?_
                        refine lv_ixor X.1 X.2.1 dX10_does_201 ?_
                        refine lv_goto (tgt := 238) X.1 X.2.1 dX10_does_202 (by decide) ?_
                        obtain rfl := Option.some.inj hg_29
                        exact J_30 _ _ _ hw (lv_sub hl [0, 1, 2] rfl)
                    refine lv_icmp_ge (tgt := 186) X.1 X.2.1 dX10_does_172 (by decide) (fun c_19 => ?_) (fun c_19 => ?_)
                    · replace hg_34 := it_p hg_34 c_19
                      obtain rfl := Option.some.inj hg_34
                      exact J_35 _ _ _ hw (lv_sub hl [0, 1, 2] rfl)
                    · replace hg_34 := it_n hg_34 c_19
                      refine lv_aload_n X.1 X.2.1 dX10_does_175 rfl (lv_at hl 0 rfl) ?_
                      refine gX10_seens X hw wq_5_16 dX10_does_176 ?_
                      refine lv_iload X.1 X.2.1 dX10_does_179 (lv_at hl 2 rfl) ?_
                      refine lv_iload X.1 X.2.1 dX10_does_181 (lv_at hl 1 rfl) ?_
                      refine lv_iconst (v := 3) X.1 X.2.1 dX10_does_183 (by decide) ?_
                      replace hg_34 := gd_e hg_34
                      obtain ⟨g_36, hg_34⟩ := hg_34
                      refine lv_irem X.1 X.2.1 dX10_does_184 g_36 ?_
                      replace hg_34 := gd_e hg_34
                      obtain ⟨g_37, hg_34⟩ := hg_34
                      refine sMA5 X hw g_37 dX10_does_185 (fun H locs hw => ?_)
                      obtain ⟨t_38, et_38⟩ : ∃ y, y = wA t 5 j_16.toNatClampNeg ((j_4 - j_4 / (3 : Int32) * (3 : Int32))) := ⟨_, rfl⟩
                      rw [← et_38] at hw
                      replace hg_34 := lt_e hg_34 et_38
                      obtain rfl := Option.some.inj hg_34
                      exact J_35 _ _ _ hw (lv_sub hl [0, 1, 2] rfl)
                  refine lv_icmp_ge (tgt := 169) X.1 X.2.1 dX10_does_154 (by decide) (fun c_18 => ?_) (fun c_18 => ?_)
                  · replace hg_39 := it_p hg_39 c_18
                    exact J_40 (Option.some.inj hg_39).symm _ _ _ hw (lv_sub hl [1, 2, 0] rfl)
                  · replace hg_39 := it_n hg_39 c_18
                    refine lv_aload_n X.1 X.2.1 dX10_does_157 rfl (lv_at hl 1 rfl) ?_
                    refine lv_iload X.1 X.2.1 dX10_does_158 (lv_at hl 0 rfl) ?_
                    refine lv_i2l X.1 X.2.1 dX10_does_160 rfl ?_
                    replace hg_39 := ob_e hg_39
                    obtain ⟨r_42, h_41, hg_39⟩ := hg_39
                    refine k_Vi (k := 0) (As := [.long j_16.toInt64]) X hl.1 hw (c_X10_isStation h_41) (by decide) (he_X10 g h _) rfl ⟨wq_9_22, wq_9_23, wq_10_0, wq_1_5, wq_10_1⟩ yo_X10_isStation rfl ⟨Nat.le_of_ble_eq_true rfl, Nat.le_of_ble_eq_true rfl⟩ (Nat.le_of_ble_eq_true rfl) dX10_does_161 (fun H locs hw => ?_)
                    refine lv_if_ne (tgt := 169) X.1 X.2.1 dX10_does_164 (by decide) (fun c_43 => ?_) (fun c_43 => ?_)
                    · replace hg_39 := it_n hg_39 c_43
                      exact J_40 (Option.some.inj hg_39).symm _ _ _ hw (lv_sub hl [1, 2, 0] rfl)
                    · replace hg_39 := it_p hg_39 c_43
                      refine lv_iconst (v := 3) X.1 X.2.1 dX10_does_167 (by decide) ?_
                      obtain rfl := Option.some.inj hg_39
                      replace hm := ex_r hm
                      obtain ⟨rfl, rfl⟩ := Prod.mk.inj (Option.some.inj hm)
                      exact hret _ _ _ _ hw dX10_does_168
                · replace hm := it_n hm c_17
                  refine lv_aload_n X.1 X.2.1 dX10_does_138 rfl (lv_at hl 1 rfl) ?_
                  refine lv_iload X.1 X.2.1 dX10_does_139 (lv_at hl 0 rfl) ?_
                  replace hm := ob_e hm
                  obtain ⟨r_47, h_46, hm⟩ := hm
                  refine k_Vi (k := 0) (As := [.int j_16]) X hl.1 hw (c_X10_isLink h_46) (by decide) (he_X10 g h _) rfl ⟨wq_12_0, wq_12_1, wq_12_2, wq_1_5, wq_12_3⟩ yo_X10_isLink rfl ⟨Nat.le_of_ble_eq_true rfl, Nat.le_of_ble_eq_true rfl⟩ (Nat.le_of_ble_eq_true rfl) dX10_does_141 (fun H locs hw => ?_)
                  refine lv_if_ne (tgt := 169) X.1 X.2.1 dX10_does_144 (by decide) (fun c_48 => ?_) (fun c_48 => ?_)
                  · replace hm := it_n hm c_48
                    refine lv_iload X.1 X.2.1 dX10_does_169 (lv_at hl 2 rfl) ?_
                    refine lv_iconst (v := 4) X.1 X.2.1 dX10_does_171 (by decide) ?_
                    replace hm := ob_e hm
                    obtain ⟨t_50, hg_64, hm⟩ := hm
                    have J_65 : ∀ (H : Heap) (locs : List Loc) (ls : Array Slot), Wd g 20 h (cM g h t_50) s H locs → lv_has ls 7 [(0, .ref (h 0)), (4, .int j_4), (6, .int j_16)] → W p l e (rW 3 72) s m AV below meth c H locs 0 0 Q (F0 m 186 ls []) := by
                      intro H locs ls hw hl
                      refine lv_aload_n X.1 X.2.1 dX10_does_186 rfl (lv_at hl 0 rfl) ?_
                      refine lv_iload X.1 X.2.1 dX10_does_187 (lv_at hl 1 rfl) ?_
                      refine lv_iconst (v := 4) X.1 X.2.1 dX10_does_189 (by decide) ?_
                      replace hm := ob_e hm
                      obtain ⟨j_52, hg_59, hm⟩ := hm
                      have J_60 : ∀ (H : Heap) (locs : List Loc) (ls : Array Slot), Wd g 20 h (cM g h t_50) s H locs → lv_has ls 7 [(0, .ref (h 0)), (4, .int j_4), (6, .int j_16)] → W p l e (rW 3 72) s m AV below meth c H locs 0 0 Q (F0 m 238 ls [.int j_52, .ref (h 0)]) := by
                        intro H locs ls hw hl
                        refine pX10_goals X hw wq_7_3 dX10_does_238 (fun H locs hw => ?_)
                        obtain ⟨t_53, et_53⟩ : ∃ y, y = wI t_50 3 j_52 := ⟨_, rfl⟩
                        rw [← et_53] at hw
                        replace hm := lt_e hm et_53
                        refine lv_aload_n X.1 X.2.1 dX10_does_241 rfl (lv_at hl 0 rfl) ?_
                        refine lv_iload X.1 X.2.1 dX10_does_242 (lv_at hl 1 rfl) ?_
                        refine lv_iconst (v := 5) X.1 X.2.1 dX10_does_244 (by decide) ?_
                        refine lv_icmp_ne (tgt := 253) X.1 X.2.1 dX10_does_245 (by decide) (fun c_54 => ?_) (fun c_54 => ?_)
                        · replace hm := it_n hm c_54
                          refine lv_aload_n X.1 X.2.1 dX10_does_253 rfl (lv_at hl 0 rfl) ?_
                          refine gX10_source X hw wq_7_4 dX10_does_254 ?_
                          refine pX10_source X hw wq_7_4 dX10_does_257 (fun H locs hw => ?_)
                          obtain ⟨t_55, et_55⟩ : ∃ y, y = wI t_53 2 (t_53.1 2) := ⟨_, rfl⟩
                          rw [← et_55] at hw
                          replace hm := lt_e hm et_55
                          refine lv_iconst (v := 0) X.1 X.2.1 dX10_does_260 (by decide) ?_
                          obtain ⟨rfl, rfl⟩ := Prod.mk.inj (Option.some.inj hm)
                          exact hret _ _ _ _ hw dX10_does_261
                        · replace hm := it_p hm c_54
                          refine lv_iload X.1 X.2.1 dX10_does_248 (lv_at hl 2 rfl) ?_
                          refine lv_goto (tgt := 257) X.1 X.2.1 dX10_does_250 (by decide) ?_
                          refine pX10_source X hw wq_7_4 dX10_does_257 (fun H locs hw => ?_)
                          obtain ⟨t_57, et_57⟩ : ∃ y, y = wI t_53 2 j_16 := ⟨_, rfl⟩
                          rw [← et_57] at hw
                          replace hm := lt_e hm et_57
                          refine lv_iconst (v := 0) X.1 X.2.1 dX10_does_260 (by decide) ?_
                          obtain ⟨rfl, rfl⟩ := Prod.mk.inj (Option.some.inj hm)
                          exact hret _ _ _ _ hw dX10_does_261
                      refine lv_icmp_ne (tgt := 205) X.1 X.2.1 dX10_does_190 (by decide) (fun c_51 => ?_) (fun c_51 => ?_)
                      · replace hg_59 := it_n hg_59 c_51
                        refine lv_iload X.1 X.2.1 dX10_does_205 (lv_at hl 1 rfl) ?_
                        refine lv_bipush (v := 6) X.1 X.2.1 dX10_does_207 (by decide) ?_
                        refine lv_icmp_ne (tgt := 223) X.1 X.2.1 dX10_does_209 (by decide) (fun c_61 => ?_) (fun c_61 => ?_)
                        · replace hg_59 := it_n hg_59 c_61
                          refine lv_iload X.1 X.2.1 dX10_does_223 (lv_at hl 1 rfl) ?_
                          refine lv_bipush (v := 7) X.1 X.2.1 dX10_does_225 (by decide) ?_
                          refine lv_icmp_ne (tgt := 234) X.1 X.2.1 dX10_does_227 (by decide) (fun c_62 => ?_) (fun c_62 => ?_)
                          · replace hg_59 := it_n hg_59 c_62
                            refine lv_aload_n X.1 X.2.1 dX10_does_234 rfl (lv_at hl 0 rfl) ?_
                            refine gX10_goals X hw wq_7_3 dX10_does_235 ?_
                            obtain rfl := Option.some.inj hg_59
                            exact J_60 _ _ _ hw (lv_sub hl [0, 1, 2] rfl)
                          · replace hg_59 := it_p hg_59 c_62
                            refine lv_iconst (v := 0) X.1 X.2.1 dX10_does_230 (by decide) ?_
                            refine lv_goto (tgt := 238) X.1 X.2.1 dX10_does_231 (by decide) ?_
                            obtain rfl := Option.some.inj hg_59
                            exact J_60 _ _ _ hw (lv_sub hl [0, 1, 2] rfl)
                        · replace hg_59 := it_p hg_59 c_61
                          refine lv_iconst (v := 1) X.1 X.2.1 dX10_does_212 (by decide) ?_
                          refine lv_aload_n X.1 X.2.1 dX10_does_213 rfl (lv_at hl 0 rfl) ?_
                          refine gX10_stations X hw wq_6_4 dX10_does_214 ?_
                          refine lv_ishl X.1 X.2.1 dX10_does_217 ?_
                          refine lv_iconst (v := 1) X.1 X.2.1 dX10_does_218 (by decide) ?_
                          refine lv_isub X.1 X.2.1 dX10_does_219 ?_
                          refine lv_topi (fun x_63 ex_63 => ?_)
                          replace hg_59 := lt_e hg_59 ex_63
                          refine lv_goto (tgt := 238) X.1 X.2.1 dX10_does_220 (by decide) ?_
                          obtain rfl := Option.some.inj hg_59
                          exact J_60 _ _ _ hw (lv_sub hl [0, 1, 2] rfl)
                      · replace hg_59 := it_p hg_59 c_51
                        refine lv_aload_n X.1 X.2.1 dX10_does_193 rfl (lv_at hl 0 rfl) ?_
                        refine gX10_goals X hw wq_7_3 dX10_does_194 ?_
                        refine lv_iconst (v := 1) X.1 X.2.1 dX10_does_197 (by decide) ?_
                        refine lv_iload X.1 X.2.1 dX10_does_198 (lv_at hl 2 rfl) ?_
                        refine lv_ishl X.1 X.2.1 dX10_does_200 ?_
                        refine lv_ixor X.1 X.2.1 dX10_does_201 ?_
                        refine lv_goto (tgt := 238) X.1 X.2.1 dX10_does_202 (by decide) ?_
                        obtain rfl := Option.some.inj hg_59
                        exact J_60 _ _ _ hw (lv_sub hl [0, 1, 2] rfl)
                    refine lv_icmp_ge (tgt := 186) X.1 X.2.1 dX10_does_172 (by decide) (fun c_49 => ?_) (fun c_49 => ?_)
                    · replace hg_64 := it_p hg_64 c_49
                      obtain rfl := Option.some.inj hg_64
                      exact J_65 _ _ _ hw (lv_sub hl [1, 2, 0] rfl)
                    · replace hg_64 := it_n hg_64 c_49
                      refine lv_aload_n X.1 X.2.1 dX10_does_175 rfl (lv_at hl 1 rfl) ?_
                      refine gX10_seens X hw wq_5_16 dX10_does_176 ?_
                      refine lv_iload X.1 X.2.1 dX10_does_179 (lv_at hl 0 rfl) ?_
                      refine lv_iload X.1 X.2.1 dX10_does_181 (lv_at hl 2 rfl) ?_
                      refine lv_iconst (v := 3) X.1 X.2.1 dX10_does_183 (by decide) ?_
                      replace hg_64 := gd_e hg_64
                      obtain ⟨g_66, hg_64⟩ := hg_64
                      refine lv_irem X.1 X.2.1 dX10_does_184 g_66 ?_
                      replace hg_64 := gd_e hg_64
                      obtain ⟨g_67, hg_64⟩ := hg_64
                      refine sMA5 X hw g_67 dX10_does_185 (fun H locs hw => ?_)
                      obtain ⟨t_68, et_68⟩ : ∃ y, y = wA t 5 j_16.toNatClampNeg ((j_4 - j_4 / (3 : Int32) * (3 : Int32))) := ⟨_, rfl⟩
                      rw [← et_68] at hw
                      replace hg_64 := lt_e hg_64 et_68
                      obtain rfl := Option.some.inj hg_64
                      exact J_65 _ _ _ hw (lv_sub hl [1, 2, 0] rfl)
                  · replace hm := it_p hm c_48
                    refine lv_goto (tgt := 167) X.1 X.2.1 dX10_does_147 (by decide) ?_
                    refine lv_iconst (v := 3) X.1 X.2.1 dX10_does_167 (by decide) ?_
                    obtain ⟨rfl, rfl⟩ := Prod.mk.inj (Option.some.inj hm)
                    exact hret _ _ _ _ hw dX10_does_168
              refine lv_icmp_le (tgt := 119) X.1 X.2.1 dX10_does_112 (by decide) (fun c_15 => ?_) (fun c_15 => ?_)
              · replace hg_70 := it_p hg_70 c_15
                refine lv_aload_n X.1 X.2.1 dX10_does_119 rfl (lv_at hl 2 rfl) ?_
                refine gX10_orders X hw wq_6_2 dX10_does_120 ?_
                refine lv_iload_n X.1 X.2.1 dX10_does_123 rfl (lv_at hl 3 rfl) ?_
                refine lv_iload_n X.1 X.2.1 dX10_does_124 rfl (lv_at hl 5 rfl) ?_
                refine lv_iadd X.1 X.2.1 dX10_does_125 ?_
                refine lv_topi (fun x_72 ex_72 => ?_)
                replace hg_70 := lt_e hg_70 ex_72
                replace hg_70 := gd_e hg_70
                obtain ⟨g_73, hg_70⟩ := hg_70
                refine lMA15 X hw g_73 dX10_does_126 ?_
                refine lv_bipush (v := 48) X.1 X.2.1 dX10_does_127 (by decide) ?_
                refine lv_isub X.1 X.2.1 dX10_does_129 ?_
                obtain rfl := Option.some.inj hg_70
                exact J_71 _ _ _ hw (lv_sub hl [2, 1] rfl)
              · replace hg_70 := it_n hg_70 c_15
                refine lv_iconst (v := 0) X.1 X.2.1 dX10_does_115 (by decide) ?_
                refine lv_goto (tgt := 130) X.1 X.2.1 dX10_does_116 (by decide) ?_
                obtain rfl := Option.some.inj hg_70
                exact J_71 _ _ _ hw (lv_sub hl [2, 1] rfl)
            · replace hm := it_p hm c_14
              refine lv_iconst (v := 2) X.1 X.2.1 dX10_does_107 (by decide) ?_
              obtain ⟨rfl, rfl⟩ := Prod.mk.inj (Option.some.inj hm)
              exact hret _ _ _ _ hw dX10_does_108
        · replace hm := it_n hm c_7
          refine lv_iload X.1 X.2.1 dX10_does_72 (lv_at hl 0 rfl) ?_
          refine lv_if_eq (tgt := 109) X.1 X.2.1 dX10_does_74 (by decide) (fun c_75 => ?_) (fun c_75 => ?_)
          · replace hm := it_p hm c_75
            refine lv_iload X.1 X.2.1 dX10_does_109 (lv_at hl 1 rfl) ?_
            refine lv_iconst (v := 5) X.1 X.2.1 dX10_does_111 (by decide) ?_
            replace hm := ob_e hm
            obtain ⟨j_77, hg_131, hm⟩ := hm
            have J_132 : ∀ (H : Heap) (locs : List Loc) (ls : Array Slot), Wd g 20 h (cM g h t) s H locs → lv_has ls 7 [(0, .ref (h 0)), (4, .int j_4)] → W p l e (rW 3 72) s m AV below meth c H locs 0 0 Q (F0 m 130 ls [.int j_77]) := by
              intro H locs ls hw hl
              refine lv_istore (lv' := [(6, .int j_77), (0, .ref (h 0)), (4, .int j_4)]) X.1 X.2.1 dX10_does_130 hl (by decide) rfl (fun ls hl => ?_)
              refine lv_iload X.1 X.2.1 dX10_does_132 (lv_at hl 2 rfl) ?_
              refine lv_iconst (v := 4) X.1 X.2.1 dX10_does_134 (by decide) ?_
              refine lv_icmp_ge (tgt := 150) X.1 X.2.1 dX10_does_135 (by decide) (fun c_78 => ?_) (fun c_78 => ?_)
              · replace hm := it_p hm c_78
                refine lv_iload X.1 X.2.1 dX10_does_150 (lv_at hl 2 rfl) ?_
                refine lv_bipush (v := 6) X.1 X.2.1 dX10_does_152 (by decide) ?_
                replace hm := ob_e hm
                obtain ⟨z_106, hg_100, hm⟩ := hm
                have J_101 : z_106 = .inl () → ∀ (H : Heap) (locs : List Loc) (ls : Array Slot), Wd g 20 h (cM g h t) s H locs → lv_has ls 7 [(0, .ref (h 0)), (4, .int j_4), (6, .int j_77)] → W p l e (rW 3 72) s m AV below meth c H locs 0 0 Q (F0 m 169 ls []) := by
                  intro hj
                  subst hj
                  replace hm := ex_l hm
                  intro H locs ls hw hl
                  refine lv_iload X.1 X.2.1 dX10_does_169 (lv_at hl 1 rfl) ?_
                  refine lv_iconst (v := 4) X.1 X.2.1 dX10_does_171 (by decide) ?_
                  replace hm := ob_e hm
                  obtain ⟨t_81, hg_95, hm⟩ := hm
                  have J_96 : ∀ (H : Heap) (locs : List Loc) (ls : Array Slot), Wd g 20 h (cM g h t_81) s H locs → lv_has ls 7 [(0, .ref (h 0)), (4, .int j_4), (6, .int j_77)] → W p l e (rW 3 72) s m AV below meth c H locs 0 0 Q (F0 m 186 ls []) := by
                    intro H locs ls hw hl
                    refine lv_aload_n X.1 X.2.1 dX10_does_186 rfl (lv_at hl 0 rfl) ?_
                    refine lv_iload X.1 X.2.1 dX10_does_187 (lv_at hl 1 rfl) ?_
                    refine lv_iconst (v := 4) X.1 X.2.1 dX10_does_189 (by decide) ?_
                    replace hm := ob_e hm
                    obtain ⟨j_83, hg_90, hm⟩ := hm
                    have J_91 : ∀ (H : Heap) (locs : List Loc) (ls : Array Slot), Wd g 20 h (cM g h t_81) s H locs → lv_has ls 7 [(0, .ref (h 0)), (4, .int j_4), (6, .int j_77)] → W p l e (rW 3 72) s m AV below meth c H locs 0 0 Q (F0 m 238 ls [.int j_83, .ref (h 0)]) := by
                      intro H locs ls hw hl
                      refine pX10_goals X hw wq_7_3 dX10_does_238 (fun H locs hw => ?_)
                      obtain ⟨t_84, et_84⟩ : ∃ y, y = wI t_81 3 j_83 := ⟨_, rfl⟩
                      rw [← et_84] at hw
                      replace hm := lt_e hm et_84
                      refine lv_aload_n X.1 X.2.1 dX10_does_241 rfl (lv_at hl 0 rfl) ?_
                      refine lv_iload X.1 X.2.1 dX10_does_242 (lv_at hl 1 rfl) ?_
                      refine lv_iconst (v := 5) X.1 X.2.1 dX10_does_244 (by decide) ?_
                      refine lv_icmp_ne (tgt := 253) X.1 X.2.1 dX10_does_245 (by decide) (fun c_85 => ?_) (fun c_85 => ?_)
                      · replace hm := it_n hm c_85
                        refine lv_aload_n X.1 X.2.1 dX10_does_253 rfl (lv_at hl 0 rfl) ?_
                        refine gX10_source X hw wq_7_4 dX10_does_254 ?_
                        refine pX10_source X hw wq_7_4 dX10_does_257 (fun H locs hw => ?_)
                        obtain ⟨t_86, et_86⟩ : ∃ y, y = wI t_84 2 (t_84.1 2) := ⟨_, rfl⟩
                        rw [← et_86] at hw
                        replace hm := lt_e hm et_86
                        refine lv_iconst (v := 0) X.1 X.2.1 dX10_does_260 (by decide) ?_
                        obtain ⟨rfl, rfl⟩ := Prod.mk.inj (Option.some.inj hm)
                        exact hret _ _ _ _ hw dX10_does_261
                      · replace hm := it_p hm c_85
                        refine lv_iload X.1 X.2.1 dX10_does_248 (lv_at hl 2 rfl) ?_
                        refine lv_goto (tgt := 257) X.1 X.2.1 dX10_does_250 (by decide) ?_
                        refine pX10_source X hw wq_7_4 dX10_does_257 (fun H locs hw => ?_)
                        obtain ⟨t_88, et_88⟩ : ∃ y, y = wI t_84 2 j_77 := ⟨_, rfl⟩
                        rw [← et_88] at hw
                        replace hm := lt_e hm et_88
                        refine lv_iconst (v := 0) X.1 X.2.1 dX10_does_260 (by decide) ?_
                        obtain ⟨rfl, rfl⟩ := Prod.mk.inj (Option.some.inj hm)
                        exact hret _ _ _ _ hw dX10_does_261
                    refine lv_icmp_ne (tgt := 205) X.1 X.2.1 dX10_does_190 (by decide) (fun c_82 => ?_) (fun c_82 => ?_)
                    · replace hg_90 := it_n hg_90 c_82
                      refine lv_iload X.1 X.2.1 dX10_does_205 (lv_at hl 1 rfl) ?_
                      refine lv_bipush (v := 6) X.1 X.2.1 dX10_does_207 (by decide) ?_
                      refine lv_icmp_ne (tgt := 223) X.1 X.2.1 dX10_does_209 (by decide) (fun c_92 => ?_) (fun c_92 => ?_)
                      · replace hg_90 := it_n hg_90 c_92
                        refine lv_iload X.1 X.2.1 dX10_does_223 (lv_at hl 1 rfl) ?_
                        refine lv_bipush (v := 7) X.1 X.2.1 dX10_does_225 (by decide) ?_
                        refine lv_icmp_ne (tgt := 234) X.1 X.2.1 dX10_does_227 (by decide) (fun c_93 => ?_) (fun c_93 => ?_)
                        · replace hg_90 := it_n hg_90 c_93
                          refine lv_aload_n X.1 X.2.1 dX10_does_234 rfl (lv_at hl 0 rfl) ?_
                          refine gX10_goals X hw wq_7_3 dX10_does_235 ?_
                          obtain rfl := Option.some.inj hg_90
                          exact J_91 _ _ _ hw (lv_sub hl [0, 1, 2] rfl)
                        · replace hg_90 := it_p hg_90 c_93
                          refine lv_iconst (v := 0) X.1 X.2.1 dX10_does_230 (by decide) ?_
                          refine lv_goto (tgt := 238) X.1 X.2.1 dX10_does_231 (by decide) ?_
                          obtain rfl := Option.some.inj hg_90
                          exact J_91 _ _ _ hw (lv_sub hl [0, 1, 2] rfl)
                      · replace hg_90 := it_p hg_90 c_92
                        refine lv_iconst (v := 1) X.1 X.2.1 dX10_does_212 (by decide) ?_
                        refine lv_aload_n X.1 X.2.1 dX10_does_213 rfl (lv_at hl 0 rfl) ?_
                        refine gX10_stations X hw wq_6_4 dX10_does_214 ?_
                        refine lv_ishl X.1 X.2.1 dX10_does_217 ?_
                        refine lv_iconst (v := 1) X.1 X.2.1 dX10_does_218 (by decide) ?_
                        refine lv_isub X.1 X.2.1 dX10_does_219 ?_
                        refine lv_topi (fun x_94 ex_94 => ?_)
                        replace hg_90 := lt_e hg_90 ex_94
                        refine lv_goto (tgt := 238) X.1 X.2.1 dX10_does_220 (by decide) ?_
                        obtain rfl := Option.some.inj hg_90
                        exact J_91 _ _ _ hw (lv_sub hl [0, 1, 2] rfl)
                    · replace hg_90 := it_p hg_90 c_82
                      refine lv_aload_n X.1 X.2.1 dX10_does_193 rfl (lv_at hl 0 rfl) ?_
                      refine gX10_goals X hw wq_7_3 dX10_does_194 ?_
                      refine lv_iconst (v := 1) X.1 X.2.1 dX10_does_197 (by decide) ?_
                      refine lv_iload X.1 X.2.1 dX10_does_198 (lv_at hl 2 rfl) ?_
                      refine lv_ishl X.1 X.2.1 dX10_does_200 ?_
                      refine lv_ixor X.1 X.2.1 dX10_does_201 ?_
                      refine lv_goto (tgt := 238) X.1 X.2.1 dX10_does_202 (by decide) ?_
                      obtain rfl := Option.some.inj hg_90
                      exact J_91 _ _ _ hw (lv_sub hl [0, 1, 2] rfl)
                  refine lv_icmp_ge (tgt := 186) X.1 X.2.1 dX10_does_172 (by decide) (fun c_80 => ?_) (fun c_80 => ?_)
                  · replace hg_95 := it_p hg_95 c_80
                    obtain rfl := Option.some.inj hg_95
                    exact J_96 _ _ _ hw (lv_sub hl [0, 1, 2] rfl)
                  · replace hg_95 := it_n hg_95 c_80
                    refine lv_aload_n X.1 X.2.1 dX10_does_175 rfl (lv_at hl 0 rfl) ?_
                    refine gX10_seens X hw wq_5_16 dX10_does_176 ?_
                    refine lv_iload X.1 X.2.1 dX10_does_179 (lv_at hl 2 rfl) ?_
                    refine lv_iload X.1 X.2.1 dX10_does_181 (lv_at hl 1 rfl) ?_
                    refine lv_iconst (v := 3) X.1 X.2.1 dX10_does_183 (by decide) ?_
                    replace hg_95 := gd_e hg_95
                    obtain ⟨g_97, hg_95⟩ := hg_95
                    refine lv_irem X.1 X.2.1 dX10_does_184 g_97 ?_
                    replace hg_95 := gd_e hg_95
                    obtain ⟨g_98, hg_95⟩ := hg_95
                    refine sMA5 X hw g_98 dX10_does_185 (fun H locs hw => ?_)
                    obtain ⟨t_99, et_99⟩ : ∃ y, y = wA t 5 j_77.toNatClampNeg ((j_4 - j_4 / (3 : Int32) * (3 : Int32))) := ⟨_, rfl⟩
                    rw [← et_99] at hw
                    replace hg_95 := lt_e hg_95 et_99
                    obtain rfl := Option.some.inj hg_95
                    exact J_96 _ _ _ hw (lv_sub hl [0, 1, 2] rfl)
                refine lv_icmp_ge (tgt := 169) X.1 X.2.1 dX10_does_154 (by decide) (fun c_79 => ?_) (fun c_79 => ?_)
                · replace hg_100 := it_p hg_100 c_79
                  exact J_101 (Option.some.inj hg_100).symm _ _ _ hw (lv_sub hl [1, 2, 0] rfl)
                · replace hg_100 := it_n hg_100 c_79
                  refine lv_aload_n X.1 X.2.1 dX10_does_157 rfl (lv_at hl 1 rfl) ?_
                  refine lv_iload X.1 X.2.1 dX10_does_158 (lv_at hl 0 rfl) ?_
                  refine lv_i2l X.1 X.2.1 dX10_does_160 rfl ?_
                  replace hg_100 := ob_e hg_100
                  obtain ⟨r_103, h_102, hg_100⟩ := hg_100
                  refine k_Vi (k := 0) (As := [.long j_77.toInt64]) X hl.1 hw (c_X10_isStation h_102) (by decide) (he_X10 g h _) rfl ⟨wq_9_22, wq_9_23, wq_10_0, wq_1_5, wq_10_1⟩ yo_X10_isStation rfl ⟨Nat.le_of_ble_eq_true rfl, Nat.le_of_ble_eq_true rfl⟩ (Nat.le_of_ble_eq_true rfl) dX10_does_161 (fun H locs hw => ?_)
                  refine lv_if_ne (tgt := 169) X.1 X.2.1 dX10_does_164 (by decide) (fun c_104 => ?_) (fun c_104 => ?_)
                  · replace hg_100 := it_n hg_100 c_104
                    exact J_101 (Option.some.inj hg_100).symm _ _ _ hw (lv_sub hl [1, 2, 0] rfl)
                  · replace hg_100 := it_p hg_100 c_104
                    refine lv_iconst (v := 3) X.1 X.2.1 dX10_does_167 (by decide) ?_
                    obtain rfl := Option.some.inj hg_100
                    replace hm := ex_r hm
                    obtain ⟨rfl, rfl⟩ := Prod.mk.inj (Option.some.inj hm)
                    exact hret _ _ _ _ hw dX10_does_168
              · replace hm := it_n hm c_78
                refine lv_aload_n X.1 X.2.1 dX10_does_138 rfl (lv_at hl 1 rfl) ?_
                refine lv_iload X.1 X.2.1 dX10_does_139 (lv_at hl 0 rfl) ?_
                replace hm := ob_e hm
                obtain ⟨r_108, h_107, hm⟩ := hm
                refine k_Vi (k := 0) (As := [.int j_77]) X hl.1 hw (c_X10_isLink h_107) (by decide) (he_X10 g h _) rfl ⟨wq_12_0, wq_12_1, wq_12_2, wq_1_5, wq_12_3⟩ yo_X10_isLink rfl ⟨Nat.le_of_ble_eq_true rfl, Nat.le_of_ble_eq_true rfl⟩ (Nat.le_of_ble_eq_true rfl) dX10_does_141 (fun H locs hw => ?_)
                refine lv_if_ne (tgt := 169) X.1 X.2.1 dX10_does_144 (by decide) (fun c_109 => ?_) (fun c_109 => ?_)
                · replace hm := it_n hm c_109
                  refine lv_iload X.1 X.2.1 dX10_does_169 (lv_at hl 2 rfl) ?_
                  refine lv_iconst (v := 4) X.1 X.2.1 dX10_does_171 (by decide) ?_
                  replace hm := ob_e hm
                  obtain ⟨t_111, hg_125, hm⟩ := hm
                  have J_126 : ∀ (H : Heap) (locs : List Loc) (ls : Array Slot), Wd g 20 h (cM g h t_111) s H locs → lv_has ls 7 [(0, .ref (h 0)), (4, .int j_4), (6, .int j_77)] → W p l e (rW 3 72) s m AV below meth c H locs 0 0 Q (F0 m 186 ls []) := by
                    intro H locs ls hw hl
                    refine lv_aload_n X.1 X.2.1 dX10_does_186 rfl (lv_at hl 0 rfl) ?_
                    refine lv_iload X.1 X.2.1 dX10_does_187 (lv_at hl 1 rfl) ?_
                    refine lv_iconst (v := 4) X.1 X.2.1 dX10_does_189 (by decide) ?_
                    replace hm := ob_e hm
                    obtain ⟨j_113, hg_120, hm⟩ := hm
                    have J_121 : ∀ (H : Heap) (locs : List Loc) (ls : Array Slot), Wd g 20 h (cM g h t_111) s H locs → lv_has ls 7 [(0, .ref (h 0)), (4, .int j_4), (6, .int j_77)] → W p l e (rW 3 72) s m AV below meth c H locs 0 0 Q (F0 m 238 ls [.int j_113, .ref (h 0)]) := by
                      intro H locs ls hw hl
                      refine pX10_goals X hw wq_7_3 dX10_does_238 (fun H locs hw => ?_)
                      obtain ⟨t_114, et_114⟩ : ∃ y, y = wI t_111 3 j_113 := ⟨_, rfl⟩
                      rw [← et_114] at hw
                      replace hm := lt_e hm et_114
                      refine lv_aload_n X.1 X.2.1 dX10_does_241 rfl (lv_at hl 0 rfl) ?_
                      refine lv_iload X.1 X.2.1 dX10_does_242 (lv_at hl 1 rfl) ?_
                      refine lv_iconst (v := 5) X.1 X.2.1 dX10_does_244 (by decide) ?_
                      refine lv_icmp_ne (tgt := 253) X.1 X.2.1 dX10_does_245 (by decide) (fun c_115 => ?_) (fun c_115 => ?_)
                      · replace hm := it_n hm c_115
                        refine lv_aload_n X.1 X.2.1 dX10_does_253 rfl (lv_at hl 0 rfl) ?_
                        refine gX10_source X hw wq_7_4 dX10_does_254 ?_
                        refine pX10_source X hw wq_7_4 dX10_does_257 (fun H locs hw => ?_)
                        obtain ⟨t_116, et_116⟩ : ∃ y, y = wI t_114 2 (t_114.1 2) := ⟨_, rfl⟩
                        rw [← et_116] at hw
                        replace hm := lt_e hm et_116
                        refine lv_iconst (v := 0) X.1 X.2.1 dX10_does_260 (by decide) ?_
                        obtain ⟨rfl, rfl⟩ := Prod.mk.inj (Option.some.inj hm)
                        exact hret _ _ _ _ hw dX10_does_261
                      · replace hm := it_p hm c_115
                        refine lv_iload X.1 X.2.1 dX10_does_248 (lv_at hl 2 rfl) ?_
                        refine lv_goto (tgt := 257) X.1 X.2.1 dX10_does_250 (by decide) ?_
                        refine pX10_source X hw wq_7_4 dX10_does_257 (fun H locs hw => ?_)
                        obtain ⟨t_118, et_118⟩ : ∃ y, y = wI t_114 2 j_77 := ⟨_, rfl⟩
                        rw [← et_118] at hw
                        replace hm := lt_e hm et_118
                        refine lv_iconst (v := 0) X.1 X.2.1 dX10_does_260 (by decide) ?_
                        obtain ⟨rfl, rfl⟩ := Prod.mk.inj (Option.some.inj hm)
                        exact hret _ _ _ _ hw dX10_does_261
                    refine lv_icmp_ne (tgt := 205) X.1 X.2.1 dX10_does_190 (by decide) (fun c_112 => ?_) (fun c_112 => ?_)
                    · replace hg_120 := it_n hg_120 c_112
                      refine lv_iload X.1 X.2.1 dX10_does_205 (lv_at hl 1 rfl) ?_
                      refine lv_bipush (v := 6) X.1 X.2.1 dX10_does_207 (by decide) ?_
                      refine lv_icmp_ne (tgt := 223) X.1 X.2.1 dX10_does_209 (by decide) (fun c_122 => ?_) (fun c_122 => ?_)
                      · replace hg_120 := it_n hg_120 c_122
                        refine lv_iload X.1 X.2.1 dX10_does_223 (lv_at hl 1 rfl) ?_
                        refine lv_bipush (v := 7) X.1 X.2.1 dX10_does_225 (by decide) ?_
                        refine lv_icmp_ne (tgt := 234) X.1 X.2.1 dX10_does_227 (by decide) (fun c_123 => ?_) (fun c_123 => ?_)
                        · replace hg_120 := it_n hg_120 c_123
                          refine lv_aload_n X.1 X.2.1 dX10_does_234 rfl (lv_at hl 0 rfl) ?_
                          refine gX10_goals X hw wq_7_3 dX10_does_235 ?_
                          obtain rfl := Option.some.inj hg_120
                          exact J_121 _ _ _ hw (lv_sub hl [0, 1, 2] rfl)
                        · replace hg_120 := it_p hg_120 c_123
                          refine lv_iconst (v := 0) X.1 X.2.1 dX10_does_230 (by decide) ?_
                          refine lv_goto (tgt := 238) X.1 X.2.1 dX10_does_231 (by decide) ?_
                          obtain rfl := Option.some.inj hg_120
                          exact J_121 _ _ _ hw (lv_sub hl [0, 1, 2] rfl)
                      · replace hg_120 := it_p hg_120 c_122
                        refine lv_iconst (v := 1) X.1 X.2.1 dX10_does_212 (by decide) ?_
                        refine lv_aload_n X.1 X.2.1 dX10_does_213 rfl (lv_at hl 0 rfl) ?_
                        refine gX10_stations X hw wq_6_4 dX10_does_214 ?_
                        refine lv_ishl X.1 X.2.1 dX10_does_217 ?_
                        refine lv_iconst (v := 1) X.1 X.2.1 dX10_does_218 (by decide) ?_
                        refine lv_isub X.1 X.2.1 dX10_does_219 ?_
                        refine lv_topi (fun x_124 ex_124 => ?_)
                        replace hg_120 := lt_e hg_120 ex_124
                        refine lv_goto (tgt := 238) X.1 X.2.1 dX10_does_220 (by decide) ?_
                        obtain rfl := Option.some.inj hg_120
                        exact J_121 _ _ _ hw (lv_sub hl [0, 1, 2] rfl)
                    · replace hg_120 := it_p hg_120 c_112
                      refine lv_aload_n X.1 X.2.1 dX10_does_193 rfl (lv_at hl 0 rfl) ?_
                      refine gX10_goals X hw wq_7_3 dX10_does_194 ?_
                      refine lv_iconst (v := 1) X.1 X.2.1 dX10_does_197 (by decide) ?_
                      refine lv_iload X.1 X.2.1 dX10_does_198 (lv_at hl 2 rfl) ?_
                      refine lv_ishl X.1 X.2.1 dX10_does_200 ?_
                      refine lv_ixor X.1 X.2.1 dX10_does_201 ?_
                      refine lv_goto (tgt := 238) X.1 X.2.1 dX10_does_202 (by decide) ?_
                      obtain rfl := Option.some.inj hg_120
                      exact J_121 _ _ _ hw (lv_sub hl [0, 1, 2] rfl)
                  refine lv_icmp_ge (tgt := 186) X.1 X.2.1 dX10_does_172 (by decide) (fun c_110 => ?_) (fun c_110 => ?_)
                  · replace hg_125 := it_p hg_125 c_110
                    obtain rfl := Option.some.inj hg_125
                    exact J_126 _ _ _ hw (lv_sub hl [1, 2, 0] rfl)
                  · replace hg_125 := it_n hg_125 c_110
                    refine lv_aload_n X.1 X.2.1 dX10_does_175 rfl (lv_at hl 1 rfl) ?_
                    refine gX10_seens X hw wq_5_16 dX10_does_176 ?_
                    refine lv_iload X.1 X.2.1 dX10_does_179 (lv_at hl 0 rfl) ?_
                    refine lv_iload X.1 X.2.1 dX10_does_181 (lv_at hl 2 rfl) ?_
                    refine lv_iconst (v := 3) X.1 X.2.1 dX10_does_183 (by decide) ?_
                    replace hg_125 := gd_e hg_125
                    obtain ⟨g_127, hg_125⟩ := hg_125
                    refine lv_irem X.1 X.2.1 dX10_does_184 g_127 ?_
                    replace hg_125 := gd_e hg_125
                    obtain ⟨g_128, hg_125⟩ := hg_125
                    refine sMA5 X hw g_128 dX10_does_185 (fun H locs hw => ?_)
                    obtain ⟨t_129, et_129⟩ : ∃ y, y = wA t 5 j_77.toNatClampNeg ((j_4 - j_4 / (3 : Int32) * (3 : Int32))) := ⟨_, rfl⟩
                    rw [← et_129] at hw
                    replace hg_125 := lt_e hg_125 et_129
                    obtain rfl := Option.some.inj hg_125
                    exact J_126 _ _ _ hw (lv_sub hl [1, 2, 0] rfl)
                · replace hm := it_p hm c_109
                  refine lv_goto (tgt := 167) X.1 X.2.1 dX10_does_147 (by decide) ?_
                  refine lv_iconst (v := 3) X.1 X.2.1 dX10_does_167 (by decide) ?_
                  obtain ⟨rfl, rfl⟩ := Prod.mk.inj (Option.some.inj hm)
                  exact hret _ _ _ _ hw dX10_does_168
            refine lv_icmp_le (tgt := 119) X.1 X.2.1 dX10_does_112 (by decide) (fun c_76 => ?_) (fun c_76 => ?_)
            · replace hg_131 := it_p hg_131 c_76
              refine lv_aload_n X.1 X.2.1 dX10_does_119 rfl (lv_at hl 2 rfl) ?_
              refine gX10_orders X hw wq_6_2 dX10_does_120 ?_
              refine lv_iload_n X.1 X.2.1 dX10_does_123 rfl (lv_at hl 3 rfl) ?_
              refine lv_iload_n X.1 X.2.1 dX10_does_124 rfl (lv_at hl 5 rfl) ?_
              refine lv_iadd X.1 X.2.1 dX10_does_125 ?_
              refine lv_topi (fun x_133 ex_133 => ?_)
              replace hg_131 := lt_e hg_131 ex_133
              replace hg_131 := gd_e hg_131
              obtain ⟨g_134, hg_131⟩ := hg_131
              refine lMA15 X hw g_134 dX10_does_126 ?_
              refine lv_bipush (v := 48) X.1 X.2.1 dX10_does_127 (by decide) ?_
              refine lv_isub X.1 X.2.1 dX10_does_129 ?_
              obtain rfl := Option.some.inj hg_131
              exact J_132 _ _ _ hw (lv_sub hl [2, 1] rfl)
            · replace hg_131 := it_n hg_131 c_76
              refine lv_iconst (v := 0) X.1 X.2.1 dX10_does_115 (by decide) ?_
              refine lv_goto (tgt := 130) X.1 X.2.1 dX10_does_116 (by decide) ?_
              obtain rfl := Option.some.inj hg_131
              exact J_132 _ _ _ hw (lv_sub hl [2, 1] rfl)
          · replace hm := it_n hm c_75
            refine lv_goto (tgt := 107) X.1 X.2.1 dX10_does_77 (by decide) ?_
            refine lv_iconst (v := 2) X.1 X.2.1 dX10_does_107 (by decide) ?_
            obtain ⟨rfl, rfl⟩ := Prod.mk.inj (Option.some.inj hm)
            exact hret _ _ _ _ hw dX10_does_108
      · replace hm := it_p hm c_5
        refine lv_iconst (v := 1) X.1 X.2.1 dX10_does_57 (by decide) ?_
        obtain ⟨rfl, rfl⟩ := Prod.mk.inj (Option.some.inj hm)
        exact hret _ _ _ _ hw dX10_does_58
    refine lv_if_ne (tgt := 44) X.1 X.2.1 dX10_does_37 (by decide) (fun c_3 => ?_) (fun c_3 => ?_)
    · replace hg_137 := it_n hg_137 c_3
      refine lv_aload_n X.1 X.2.1 dX10_does_44 rfl (lv_at hl 0 rfl) ?_
      refine lv_iload_n X.1 X.2.1 dX10_does_45 rfl (lv_at hl 1 rfl) ?_
      refine lv_iload_n X.1 X.2.1 dX10_does_46 rfl (lv_at hl 3 rfl) ?_
      replace hg_137 := ob_e hg_137
      obtain ⟨r_140, h_139, hg_137⟩ := hg_137
      refine k_Vi (k := 0) (As := [.int x1, .int j_2]) X hl.1 hw (c_X10_wordOf h_139) (by decide) (he_X10 g h _) rfl ⟨wq_45_15, wq_45_16, wq_45_17, wq_1_5, wq_45_18⟩ yo_X10_wordOf rfl ⟨Nat.le_of_ble_eq_true rfl, Nat.le_of_ble_eq_true rfl⟩ (Nat.le_of_ble_eq_true rfl) dX10_does_47 (fun H locs hw => ?_)
      obtain rfl := Option.some.inj hg_137
      exact J_138 _ _ _ hw (lv_sub hl [0, 1, 2, 3] rfl)
    · replace hg_137 := it_p hg_137 c_3
      refine lv_iconst (v := 0) X.1 X.2.1 dX10_does_40 (by decide) ?_
      refine lv_goto (tgt := 50) X.1 X.2.1 dX10_does_41 (by decide) ?_
      obtain rfl := Option.some.inj hg_137
      exact J_138 _ _ _ hw (lv_sub hl [0, 1, 2, 3] rfl)
  refine vLoop_ind (B := (m_X10_does_L2 x1 x2 t)) (fun σ => ∀ (H : Heap) (locs : List Loc) (ls : Array Slot), Wd g 20 h (cM g h t) s H locs → lv_has ls 7 [(0, .ref (h 0)), (1, .int x1), (2, .int x2), (3, .int σ)] → W p l e (rW 3 72) s m AV below meth c H locs 0 0 Q (F0 m 2 ls [])) (fun z' => z' = j_2) ?_ FUEL _ _ hL_146 rfl _ _ _ hw (lv_sub hl [1, 2, 3, 0] rfl)
  intro σ z_144 hz_141 hn_142 hx_143
  obtain ⟨y_1, rfl⟩ : ∃ q, q = σ := ⟨_, rfl⟩
  intro H locs ls hw hl
  replace hw : Wd g 20 h (cM g h t) s H locs := hw
  replace hl : lv_has ls 7 [(0, .ref (h 0)), (1, .int x1), (2, .int x2), (3, .int y_1)] := hl
  unfold m_X10_does_L2 at hz_141
  refine lv_iload_n X.1 X.2.1 dX10_does_2 rfl (lv_at hl 1 rfl) ?_
  refine lv_iload_n X.1 X.2.1 dX10_does_3 rfl (lv_at hl 3 rfl) ?_
  refine lv_iadd X.1 X.2.1 dX10_does_4 ?_
  refine lv_iload_n X.1 X.2.1 dX10_does_5 rfl (lv_at hl 2 rfl) ?_
  refine lv_icmp_ge (tgt := 36) X.1 X.2.1 dX10_does_6 (by decide) (fun c_148 => ?_) (fun c_148 => ?_)
  · replace hz_141 := it_p hz_141 c_148
    obtain rfl := hx_143 _ (Option.some.inj hz_141).symm
    exact J_145 _ _ _ hw (lv_sub hl [0, 1, 2, 3] rfl)
  · replace hz_141 := it_n hz_141 c_148
    refine lv_aload_n X.1 X.2.1 dX10_does_9 rfl (lv_at hl 0 rfl) ?_
    refine gX10_orders X hw wq_6_2 dX10_does_10 ?_
    refine lv_iload_n X.1 X.2.1 dX10_does_13 rfl (lv_at hl 1 rfl) ?_
    refine lv_iload_n X.1 X.2.1 dX10_does_14 rfl (lv_at hl 3 rfl) ?_
    refine lv_iadd X.1 X.2.1 dX10_does_15 ?_
    refine lv_topi (fun x_149 ex_149 => ?_)
    replace hz_141 := lt_e hz_141 ex_149
    replace hz_141 := gd_e hz_141
    obtain ⟨g_150, hz_141⟩ := hz_141
    refine lMA15 X hw g_150 dX10_does_16 ?_
    refine lv_i2l X.1 X.2.1 dX10_does_17 rfl ?_
    refine lv_ldc2 (v := 97) X.1 X.2.1 X.2.2.2.1 (X.2.2.2.2.1 _ wq_45_11) dX10_does_18 ?_
    refine lv_ldc2 (v := 122) X.1 X.2.1 X.2.2.2.1 (X.2.2.2.2.1 _ wq_45_12) dX10_does_21 ?_
    replace hz_141 := ob_e hz_141
    obtain ⟨r_152, h_151, hz_141⟩ := hz_141
    refine k_Si (As := [.long (t.2.2.1 15 x_149.toNatClampNeg).toInt64, .long (97 : Int64), .long (122 : Int64)]) X hl.1 hw (c_X10_in h_151) ⟨wq_7_5, wq_7_6, wq_1_5, wq_7_7⟩ yo_X10_in rfl ⟨Nat.le_of_ble_eq_true rfl, Nat.le_of_ble_eq_true rfl⟩ (Nat.le_of_ble_eq_true rfl) dX10_does_24 (fun H locs hw => ?_)
    refine lv_if_eq (tgt := 36) X.1 X.2.1 dX10_does_27 (by decide) (fun c_153 => ?_) (fun c_153 => ?_)
    · replace hz_141 := it_p hz_141 c_153
      obtain rfl := hx_143 _ (Option.some.inj hz_141).symm
      exact J_145 _ _ _ hw (lv_sub hl [0, 1, 2, 3] rfl)
    · replace hz_141 := it_n hz_141 c_153
      obtain ⟨x_154, ex_154⟩ : ∃ y : Int32, y = y_1 + 1 := ⟨_, rfl⟩
      replace hz_141 := lt_e hz_141 ex_154
      refine lv_iinc (v := x_154) (lv' := [(3, .int x_154), (0, .ref (h 0)), (1, .int x1), (2, .int x2)]) X.1 X.2.1 dX10_does_30 hl (k := 3) rfl (by rw [ex_154]; rfl) (by decide) rfl (fun ls hl => ?_)
      refine lv_goto (tgt := 2) X.1 X.2.1 dX10_does_33 (by decide) ?_
      exact hn_142 _ (Option.some.inj hz_141).symm _ _ _ hw (lv_sub hl [1, 2, 3, 0] rfl)
