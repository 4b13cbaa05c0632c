def m_J6_numberOfTrailingZeros_0f7a4 (x0 : Int32) : Option (Int32) := lt ((x0 ^^^ (-1 : Int32)) &&& (x0 - (1 : Int32))) (fun x_1 => if 0 < x_1 then Option.bind (if x_1 ≤ (65536 : Int32) then some (x_1, (1 : Int32)) else lt (((1 : Int32) + 16)) (fun x_32 => lt (x_1.toUInt32 >>> ((16 : Int32).toUInt32 &&& Int32.toUInt32 31)).toInt32 (fun x_33 => some (x_33, x_32)))) (fun (q_35 : Int32 × Int32) => un q_35 (fun j_4 j_5 => Option.bind (if j_4 ≤ (256 : Int32) then some (j_4, j_5) else lt (j_5 + 8) (fun x_25 => lt (j_4.toUInt32 >>> ((8 : Int32).toUInt32 &&& Int32.toUInt32 31)).toInt32 (fun x_26 => some (x_26, x_25)))) (fun (q_28 : Int32 × Int32) => un q_28 (fun j_7 j_8 => Option.bind (if j_7 ≤ (16 : Int32) then some (j_7, j_8) else lt (j_8 + 4) (fun x_18 => lt (j_7.toUInt32 >>> ((4 : Int32).toUInt32 &&& Int32.toUInt32 31)).toInt32 (fun x_19 => some (x_19, x_18)))) (fun (q_21 : Int32 × Int32) => un q_21 (fun j_10 j_11 => if j_10 ≤ (4 : Int32) then some (j_11 + (j_10.toUInt32 >>> ((1 : Int32).toUInt32 &&& Int32.toUInt32 31)).toInt32) else lt (j_11 + 2) (fun x_13 => lt (j_10.toUInt32 >>> ((2 : Int32).toUInt32 &&& Int32.toUInt32 31)).toInt32 (fun x_14 => some (x_13 + (x_14.toUInt32 >>> ((1 : Int32).toUInt32 &&& Int32.toUInt32 31)).toInt32))))))))) else some (x_1 &&& (32 : Int32)))
theorem yo_J6_numberOfTrailingZeros_0f7a4 : yJ6_numberOfTrailingZeros_0f7a4.cls ≠ "java/lang/invoke/MethodHandle" ∧ yJ6_numberOfTrailingZeros_0f7a4.cls ≠ "java/lang/invoke/VarHandle" ∧ (parseMethodDescriptor yJ6_numberOfTrailingZeros_0f7a4.desc).map (fun d => d.parameters.length) = some 1 := by decide +kernel
set_option maxHeartbeats 4000000 in
set_option maxRecDepth 100000 in
theorem c_J6_numberOfTrailingZeros_0f7a4 {l : Launch} {g : gT} {n : Nat} {h : Nat → Nat} {cel : Nat → va_E} {x0 : Int32} {r : Int32} (hm : m_J6_numberOfTrailingZeros_0f7a4 x0 = some r) : MetI l g yJ6_numberOfTrailingZeros_0f7a4 cJ6_numberOfTrailingZeros_0f7a4 2 (some .int) 0 0 n h (cel) (cel) [.int x0] r := by
  refine MetI.ofX (by decide +kernel) (Nat.le_of_ble_eq_true rfl) ?_
  intro p e s m below meth c AV Q X hret ls hw hl
  replace X : Cx g p s m AV c cJ6_numberOfTrailingZeros_0f7a4 RJ6 2 := X
  replace hl : lv_has ls 2 [(0, .int x0)] := hl
  unfold m_J6_numberOfTrailingZeros_0f7a4 at hm
  refine lv_iload_n X.1 X.2.1 dJ6_numberOfTrailingZeros_0f7a4_0 rfl (lv_at hl 0 rfl) ?_
  refine lv_iconst (v := -1) X.1 X.2.1 dJ6_numberOfTrailingZeros_0f7a4_1 (by decide) ?_
  refine lv_ixor X.1 X.2.1 dJ6_numberOfTrailingZeros_0f7a4_2 ?_
  refine lv_iload_n X.1 X.2.1 dJ6_numberOfTrailingZeros_0f7a4_3 rfl (lv_at hl 0 rfl) ?_
  refine lv_iconst (v := 1) X.1 X.2.1 dJ6_numberOfTrailingZeros_0f7a4_4 (by decide) ?_
  refine lv_isub X.1 X.2.1 dJ6_numberOfTrailingZeros_0f7a4_5 ?_
  refine lv_iand X.1 X.2.1 dJ6_numberOfTrailingZeros_0f7a4_6 ?_
  refine lv_topi (fun x_1 ex_1 => ?_)
  replace hm := lt_e hm ex_1
  refine lv_istore_n (lv' := [(0, .int x_1)]) X.1 X.2.1 dJ6_numberOfTrailingZeros_0f7a4_7 rfl hl (by decide) rfl (fun ls hl => ?_)
  refine lv_iload_n X.1 X.2.1 dJ6_numberOfTrailingZeros_0f7a4_8 rfl (lv_at hl 0 rfl) ?_
  refine lv_if_gt (tgt := 17) X.1 X.2.1 dJ6_numberOfTrailingZeros_0f7a4_9 (by decide) (fun c_2 => ?_) (fun c_2 => ?_)
  · replace hm := it_p hm c_2
    refine lv_iconst (v := 1) X.1 X.2.1 dJ6_numberOfTrailingZeros_0f7a4_17 (by decide) ?_
    refine lv_istore_n (lv' := [(1, .int (1 : Int32)), (0, .int x_1)]) X.1 X.2.1 dJ6_numberOfTrailingZeros_0f7a4_18 rfl hl (by decide) rfl (fun ls hl => ?_)
    refine lv_iload_n X.1 X.2.1 dJ6_numberOfTrailingZeros_0f7a4_19 rfl (lv_at hl 1 rfl) ?_
    refine lv_ldcw (v := 65536) X.1 X.2.1 X.2.2.2.1 (X.2.2.2.2.1 _ wq_17_15) dJ6_numberOfTrailingZeros_0f7a4_20 ?_
    replace hm := ob_e hm
    obtain ⟨⟨j_4, j_5⟩, hg_29, hm⟩ := hm
    replace hm := un_e hm
    have J_30 : ∀ (H : Heap) (locs : List Loc) (ls : Array Slot), Wd g n h (cel) s H locs → lv_has ls 2 [(0, .int j_4), (1, .int j_5)] → W p l e (rW 0 0) s m AV below meth c H locs 0 0 Q (F0 m 34 ls []) := by
      intro H locs ls hw hl
      refine lv_iload_n X.1 X.2.1 dJ6_numberOfTrailingZeros_0f7a4_34 rfl (lv_at hl 0 rfl) ?_
      refine lv_sipush (v := 256) X.1 X.2.1 dJ6_numberOfTrailingZeros_0f7a4_35 (by decide) ?_
      replace hm := ob_e hm
      obtain ⟨⟨j_7, j_8⟩, hg_22, hm⟩ := hm
      replace hm := un_e hm
      have J_23 : ∀ (H : Heap) (locs : List Loc) (ls : Array Slot), Wd g n h (cel) s H locs → lv_has ls 2 [(0, .int j_7), (1, .int j_8)] → W p l e (rW 0 0) s m AV below meth c H locs 0 0 Q (F0 m 49 ls []) := by
        intro H locs ls hw hl
        refine lv_iload_n X.1 X.2.1 dJ6_numberOfTrailingZeros_0f7a4_49 rfl (lv_at hl 0 rfl) ?_
        refine lv_bipush (v := 16) X.1 X.2.1 dJ6_numberOfTrailingZeros_0f7a4_50 (by decide) ?_
        replace hm := ob_e hm
        obtain ⟨⟨j_10, j_11⟩, hg_15, hm⟩ := hm
        replace hm := un_e hm
        have J_16 : ∀ (H : Heap) (locs : List Loc) (ls : Array Slot), Wd g n h (cel) s H locs → lv_has ls 2 [(0, .int j_10), (1, .int j_11)] → W p l e (rW 0 0) s m AV below meth c H locs 0 0 Q (F0 m 62 ls []) := by
          intro H locs ls hw hl
          refine lv_iload_n X.1 X.2.1 dJ6_numberOfTrailingZeros_0f7a4_62 rfl (lv_at hl 0 rfl) ?_
          refine lv_iconst (v := 4) X.1 X.2.1 dJ6_numberOfTrailingZeros_0f7a4_63 (by decide) ?_
          refine lv_icmp_le (tgt := 74) X.1 X.2.1 dJ6_numberOfTrailingZeros_0f7a4_64 (by decide) (fun c_12 => ?_) (fun c_12 => ?_)
          · replace hm := it_p hm c_12
            refine lv_iload_n X.1 X.2.1 dJ6_numberOfTrailingZeros_0f7a4_74 rfl (lv_at hl 1 rfl) ?_
            refine lv_iload_n X.1 X.2.1 dJ6_numberOfTrailingZeros_0f7a4_75 rfl (lv_at hl 0 rfl) ?_
            refine lv_iconst (v := 1) X.1 X.2.1 dJ6_numberOfTrailingZeros_0f7a4_76 (by decide) ?_
            refine lv_iushr X.1 X.2.1 dJ6_numberOfTrailingZeros_0f7a4_77 rfl ?_
            refine lv_iadd X.1 X.2.1 dJ6_numberOfTrailingZeros_0f7a4_78 ?_
            obtain rfl := Option.some.inj hm
            exact hret _ _ _ _ hw dJ6_numberOfTrailingZeros_0f7a4_79
          · replace hm := it_n hm c_12
            obtain ⟨x_13, ex_13⟩ : ∃ y : Int32, y = j_11 + 2 := ⟨_, rfl⟩
            replace hm := lt_e hm ex_13
            refine lv_iinc (v := x_13) (lv' := [(1, .int x_13), (0, .int j_10)]) X.1 X.2.1 dJ6_numberOfTrailingZeros_0f7a4_67 hl (k := 1) rfl (by rw [ex_13]; rfl) (by decide) rfl (fun ls hl => ?_)
            refine lv_iload_n X.1 X.2.1 dJ6_numberOfTrailingZeros_0f7a4_70 rfl (lv_at hl 1 rfl) ?_
            refine lv_iconst (v := 2) X.1 X.2.1 dJ6_numberOfTrailingZeros_0f7a4_71 (by decide) ?_
            refine lv_iushr X.1 X.2.1 dJ6_numberOfTrailingZeros_0f7a4_72 rfl ?_
            refine lv_topi (fun x_14 ex_14 => ?_)
            replace hm := lt_e hm ex_14
            refine lv_istore_n (lv' := [(0, .int x_14), (1, .int x_13)]) X.1 X.2.1 dJ6_numberOfTrailingZeros_0f7a4_73 rfl hl (by decide) rfl (fun ls hl => ?_)
            refine lv_iload_n X.1 X.2.1 dJ6_numberOfTrailingZeros_0f7a4_74 rfl (lv_at hl 1 rfl) ?_
            refine lv_iload_n X.1 X.2.1 dJ6_numberOfTrailingZeros_0f7a4_75 rfl (lv_at hl 0 rfl) ?_
            refine lv_iconst (v := 1) X.1 X.2.1 dJ6_numberOfTrailingZeros_0f7a4_76 (by decide) ?_
            refine lv_iushr X.1 X.2.1 dJ6_numberOfTrailingZeros_0f7a4_77 rfl ?_
            refine lv_iadd X.1 X.2.1 dJ6_numberOfTrailingZeros_0f7a4_78 ?_
            obtain rfl := Option.some.inj hm
            exact hret _ _ _ _ hw dJ6_numberOfTrailingZeros_0f7a4_79
        refine lv_icmp_le (tgt := 62) X.1 X.2.1 dJ6_numberOfTrailingZeros_0f7a4_52 (by decide) (fun c_9 => ?_) (fun c_9 => ?_)
        · replace hg_15 := it_p hg_15 c_9
          obtain ⟨rfl, rfl⟩ := Prod.mk.inj (Option.some.inj hg_15)
          exact J_16 _ _ _ hw (lv_sub hl [0, 1] rfl)
        · replace hg_15 := it_n hg_15 c_9
          obtain ⟨x_18, ex_18⟩ : ∃ y : Int32, y = j_8 + 4 := ⟨_, rfl⟩
          replace hg_15 := lt_e hg_15 ex_18
          refine lv_iinc (v := x_18) (lv' := [(1, .int x_18), (0, .int j_7)]) X.1 X.2.1 dJ6_numberOfTrailingZeros_0f7a4_55 hl (k := 1) rfl (by rw [ex_18]; rfl) (by decide) rfl (fun ls hl => ?_)
          refine lv_iload_n X.1 X.2.1 dJ6_numberOfTrailingZeros_0f7a4_58 rfl (lv_at hl 1 rfl) ?_
          refine lv_iconst (v := 4) X.1 X.2.1 dJ6_numberOfTrailingZeros_0f7a4_59 (by decide) ?_
          refine lv_iushr X.1 X.2.1 dJ6_numberOfTrailingZeros_0f7a4_60 rfl ?_
          refine lv_topi (fun x_19 ex_19 => ?_)
          replace hg_15 := lt_e hg_15 ex_19
          refine lv_istore_n (lv' := [(0, .int x_19), (1, .int x_18)]) X.1 X.2.1 dJ6_numberOfTrailingZeros_0f7a4_61 rfl hl (by decide) rfl (fun ls hl => ?_)
          obtain ⟨rfl, rfl⟩ := Prod.mk.inj (Option.some.inj hg_15)
          exact J_16 _ _ _ hw (lv_sub hl [0, 1] rfl)
      refine lv_icmp_le (tgt := 49) X.1 X.2.1 dJ6_numberOfTrailingZeros_0f7a4_38 (by decide) (fun c_6 => ?_) (fun c_6 => ?_)
      · replace hg_22 := it_p hg_22 c_6
        obtain ⟨rfl, rfl⟩ := Prod.mk.inj (Option.some.inj hg_22)
        exact J_23 _ _ _ hw (lv_sub hl [0, 1] rfl)
      · replace hg_22 := it_n hg_22 c_6
        obtain ⟨x_25, ex_25⟩ : ∃ y : Int32, y = j_5 + 8 := ⟨_, rfl⟩
        replace hg_22 := lt_e hg_22 ex_25
        refine lv_iinc (v := x_25) (lv' := [(1, .int x_25), (0, .int j_4)]) X.1 X.2.1 dJ6_numberOfTrailingZeros_0f7a4_41 hl (k := 1) rfl (by rw [ex_25]; rfl) (by decide) rfl (fun ls hl => ?_)
        refine lv_iload_n X.1 X.2.1 dJ6_numberOfTrailingZeros_0f7a4_44 rfl (lv_at hl 1 rfl) ?_
        refine lv_bipush (v := 8) X.1 X.2.1 dJ6_numberOfTrailingZeros_0f7a4_45 (by decide) ?_
        refine lv_iushr X.1 X.2.1 dJ6_numberOfTrailingZeros_0f7a4_47 rfl ?_
        refine lv_topi (fun x_26 ex_26 => ?_)
        replace hg_22 := lt_e hg_22 ex_26
        refine lv_istore_n (lv' := [(0, .int x_26), (1, .int x_25)]) X.1 X.2.1 dJ6_numberOfTrailingZeros_0f7a4_48 rfl hl (by decide) rfl (fun ls hl => ?_)
        obtain ⟨rfl, rfl⟩ := Prod.mk.inj (Option.some.inj hg_22)
        exact J_23 _ _ _ hw (lv_sub hl [0, 1] rfl)
    refine lv_icmp_le (tgt := 34) X.1 X.2.1 dJ6_numberOfTrailingZeros_0f7a4_23 (by decide) (fun c_3 => ?_) (fun c_3 => ?_)
    · replace hg_29 := it_p hg_29 c_3
      obtain ⟨rfl, rfl⟩ := Prod.mk.inj (Option.some.inj hg_29)
      exact J_30 _ _ _ hw (lv_sub hl [1, 0] rfl)
    · replace hg_29 := it_n hg_29 c_3
      obtain ⟨x_32, ex_32⟩ : ∃ y : Int32, y = ((1 : Int32) + 16) := ⟨_, rfl⟩
      replace hg_29 := lt_e hg_29 ex_32
      refine lv_iinc (v := x_32) (lv' := [(1, .int x_32), (0, .int x_1)]) X.1 X.2.1 dJ6_numberOfTrailingZeros_0f7a4_26 hl (k := 0) rfl (by rw [ex_32]; rfl) (by decide) rfl (fun ls hl => ?_)
      refine lv_iload_n X.1 X.2.1 dJ6_numberOfTrailingZeros_0f7a4_29 rfl (lv_at hl 1 rfl) ?_
      refine lv_bipush (v := 16) X.1 X.2.1 dJ6_numberOfTrailingZeros_0f7a4_30 (by decide) ?_
      refine lv_iushr X.1 X.2.1 dJ6_numberOfTrailingZeros_0f7a4_32 rfl ?_
      refine lv_topi (fun x_33 ex_33 => ?_)
      replace hg_29 := lt_e hg_29 ex_33
      refine lv_istore_n (lv' := [(0, .int x_33), (1, .int x_32)]) X.1 X.2.1 dJ6_numberOfTrailingZeros_0f7a4_33 rfl hl (by decide) rfl (fun ls hl => ?_)
      obtain ⟨rfl, rfl⟩ := Prod.mk.inj (Option.some.inj hg_29)
      exact J_30 _ _ _ hw (lv_sub hl [0, 1] rfl)
  · replace hm := it_n hm c_2
    refine lv_iload_n X.1 X.2.1 dJ6_numberOfTrailingZeros_0f7a4_12 rfl (lv_at hl 0 rfl) ?_
    refine lv_bipush (v := 32) X.1 X.2.1 dJ6_numberOfTrailingZeros_0f7a4_13 (by decide) ?_
    refine lv_iand X.1 X.2.1 dJ6_numberOfTrailingZeros_0f7a4_15 ?_
    obtain rfl := Option.some.inj hm
    exact hret _ _ _ _ hw dJ6_numberOfTrailingZeros_0f7a4_16
def m_J6_bitCount_0f7a4 (x0 : Int32) : Option (Int32) := lt (x0 - ((x0.toUInt32 >>> ((1 : Int32).toUInt32 &&& Int32.toUInt32 31)).toInt32 &&& (1431655765 : Int32))) (fun x_1 => lt ((x_1 &&& (858993459 : Int32)) + ((x_1.toUInt32 >>> ((2 : Int32).toUInt32 &&& Int32.toUInt32 31)).toInt32 &&& (858993459 : Int32))) (fun x_2 => lt ((x_2 + (x_2.toUInt32 >>> ((4 : Int32).toUInt32 &&& Int32.toUInt32 31)).toInt32) &&& (252645135 : Int32)) (fun x_3 => lt (x_3 + (x_3.toUInt32 >>> ((8 : Int32).toUInt32 &&& Int32.toUInt32 31)).toInt32) (fun x_4 => lt (x_4 + (x_4.toUInt32 >>> ((16 : Int32).toUInt32 &&& Int32.toUInt32 31)).toInt32) (fun x_5 => some (x_5 &&& (63 : Int32)))))))
theorem yo_J6_bitCount_0f7a4 : yJ6_bitCount_0f7a4.cls ≠ "java/lang/invoke/MethodHandle" ∧ yJ6_bitCount_0f7a4.cls ≠ "java/lang/invoke/VarHandle" ∧ (parseMethodDescriptor yJ6_bitCount_0f7a4.desc).map (fun d => d.parameters.length) = some 1 := by decide +kernel
set_option maxHeartbeats 4000000 in
set_option maxRecDepth 100000 in
theorem c_J6_bitCount_0f7a4 {l : Launch} {g : gT} {n : Nat} {h : Nat → Nat} {cel : Nat → va_E} {x0 : Int32} {r : Int32} (hm : m_J6_bitCount_0f7a4 x0 = some r) : MetI l g yJ6_bitCount_0f7a4 cJ6_bitCount_0f7a4 1 (some .int) 0 0 n h (cel) (cel) [.int x0] r := by
  refine MetI.ofX (by decide +kernel) (Nat.le_of_ble_eq_true rfl) ?_
  intro p e s m below meth c AV Q X hret ls hw hl
  replace X : Cx g p s m AV c cJ6_bitCount_0f7a4 RJ6 1 := X
  replace hl : lv_has ls 1 [(0, .int x0)] := hl
  unfold m_J6_bitCount_0f7a4 at hm
  refine lv_iload_n X.1 X.2.1 dJ6_bitCount_0f7a4_0 rfl (lv_at hl 0 rfl) ?_
  refine lv_iload_n X.1 X.2.1 dJ6_bitCount_0f7a4_1 rfl (lv_at hl 0 rfl) ?_
  refine lv_iconst (v := 1) X.1 X.2.1 dJ6_bitCount_0f7a4_2 (by decide) ?_
  refine lv_iushr X.1 X.2.1 dJ6_bitCount_0f7a4_3 rfl ?_
  refine lv_ldcw (v := 1431655765) X.1 X.2.1 X.2.2.2.1 (X.2.2.2.2.1 _ wq_10_22) dJ6_bitCount_0f7a4_4 ?_
  refine lv_iand X.1 X.2.1 dJ6_bitCount_0f7a4_7 ?_
  refine lv_isub X.1 X.2.1 dJ6_bitCount_0f7a4_8 ?_
  refine lv_topi (fun x_1 ex_1 => ?_)
  replace hm := lt_e hm ex_1
  refine lv_istore_n (lv' := [(0, .int x_1)]) X.1 X.2.1 dJ6_bitCount_0f7a4_9 rfl hl (by decide) rfl (fun ls hl => ?_)
  refine lv_iload_n X.1 X.2.1 dJ6_bitCount_0f7a4_10 rfl (lv_at hl 0 rfl) ?_
  refine lv_ldcw (v := 858993459) X.1 X.2.1 X.2.2.2.1 (X.2.2.2.2.1 _ wq_10_23) dJ6_bitCount_0f7a4_11 ?_
  refine lv_iand X.1 X.2.1 dJ6_bitCount_0f7a4_14 ?_
  refine lv_iload_n X.1 X.2.1 dJ6_bitCount_0f7a4_15 rfl (lv_at hl 0 rfl) ?_
  refine lv_iconst (v := 2) X.1 X.2.1 dJ6_bitCount_0f7a4_16 (by decide) ?_
  refine lv_iushr X.1 X.2.1 dJ6_bitCount_0f7a4_17 rfl ?_
  refine lv_ldcw (v := 858993459) X.1 X.2.1 X.2.2.2.1 (X.2.2.2.2.1 _ wq_10_23) dJ6_bitCount_0f7a4_18 ?_
  refine lv_iand X.1 X.2.1 dJ6_bitCount_0f7a4_21 ?_
  refine lv_iadd X.1 X.2.1 dJ6_bitCount_0f7a4_22 ?_
  refine lv_topi (fun x_2 ex_2 => ?_)
  replace hm := lt_e hm ex_2
  refine lv_istore_n (lv' := [(0, .int x_2)]) X.1 X.2.1 dJ6_bitCount_0f7a4_23 rfl hl (by decide) rfl (fun ls hl => ?_)
  refine lv_iload_n X.1 X.2.1 dJ6_bitCount_0f7a4_24 rfl (lv_at hl 0 rfl) ?_
  refine lv_iload_n X.1 X.2.1 dJ6_bitCount_0f7a4_25 rfl (lv_at hl 0 rfl) ?_
  refine lv_iconst (v := 4) X.1 X.2.1 dJ6_bitCount_0f7a4_26 (by decide) ?_
  refine lv_iushr X.1 X.2.1 dJ6_bitCount_0f7a4_27 rfl ?_
  refine lv_iadd X.1 X.2.1 dJ6_bitCount_0f7a4_28 ?_
  refine lv_ldcw (v := 252645135) X.1 X.2.1 X.2.2.2.1 (X.2.2.2.2.1 _ wq_11_0) dJ6_bitCount_0f7a4_29 ?_
  refine lv_iand X.1 X.2.1 dJ6_bitCount_0f7a4_32 ?_
  refine lv_topi (fun x_3 ex_3 => ?_)
  replace hm := lt_e hm ex_3
  refine lv_istore_n (lv' := [(0, .int x_3)]) X.1 X.2.1 dJ6_bitCount_0f7a4_33 rfl hl (by decide) rfl (fun ls hl => ?_)
  refine lv_iload_n X.1 X.2.1 dJ6_bitCount_0f7a4_34 rfl (lv_at hl 0 rfl) ?_
  refine lv_iload_n X.1 X.2.1 dJ6_bitCount_0f7a4_35 rfl (lv_at hl 0 rfl) ?_
  refine lv_bipush (v := 8) X.1 X.2.1 dJ6_bitCount_0f7a4_36 (by decide) ?_
  refine lv_iushr X.1 X.2.1 dJ6_bitCount_0f7a4_38 rfl ?_
  refine lv_iadd X.1 X.2.1 dJ6_bitCount_0f7a4_39 ?_
  refine lv_topi (fun x_4 ex_4 => ?_)
  replace hm := lt_e hm ex_4
  refine lv_istore_n (lv' := [(0, .int x_4)]) X.1 X.2.1 dJ6_bitCount_0f7a4_40 rfl hl (by decide) rfl (fun ls hl => ?_)
  refine lv_iload_n X.1 X.2.1 dJ6_bitCount_0f7a4_41 rfl (lv_at hl 0 rfl) ?_
  refine lv_iload_n X.1 X.2.1 dJ6_bitCount_0f7a4_42 rfl (lv_at hl 0 rfl) ?_
  refine lv_bipush (v := 16) X.1 X.2.1 dJ6_bitCount_0f7a4_43 (by decide) ?_
  refine lv_iushr X.1 X.2.1 dJ6_bitCount_0f7a4_45 rfl ?_
  refine lv_iadd X.1 X.2.1 dJ6_bitCount_0f7a4_46 ?_
  refine lv_topi (fun x_5 ex_5 => ?_)
  replace hm := lt_e hm ex_5
  refine lv_istore_n (lv' := [(0, .int x_5)]) X.1 X.2.1 dJ6_bitCount_0f7a4_47 rfl hl (by decide) rfl (fun ls hl => ?_)
  refine lv_iload_n X.1 X.2.1 dJ6_bitCount_0f7a4_48 rfl (lv_at hl 0 rfl) ?_
  refine lv_bipush (v := 63) X.1 X.2.1 dJ6_bitCount_0f7a4_49 (by decide) ?_
  refine lv_iand X.1 X.2.1 dJ6_bitCount_0f7a4_51 ?_
  obtain rfl := Option.some.inj hm
  exact hret _ _ _ _ hw dJ6_bitCount_0f7a4_52
