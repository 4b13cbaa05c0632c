def m_L_up (x0 : Int32) (x1 : Int32) : Option (Int32) := gd (¬ x1 = 0) (some ((x0 &&& (2147483647 : Int32)) - (x0 &&& (2147483647 : Int32)) / x1 * x1))
theorem yo_L_up : yL_up.cls ≠ "java/lang/invoke/MethodHandle" ∧ yL_up.cls ≠ "java/lang/invoke/VarHandle" ∧ (parseMethodDescriptor yL_up.desc).map (fun d => d.parameters.length) = some 2 := by decide +kernel
set_option maxHeartbeats 4000000 in
set_option maxRecDepth 100000 in
theorem c_L_up {l : Launch} {g : gT} {n : Nat} {h : Nat → Nat} {cel : Nat → va_E} {x0 : Int32} {x1 : Int32} {r : Int32} (hm : m_L_up x0 x1 = some r) : MetI l g yL_up cL_up 2 (some .int) 0 0 n h (cel) (cel) [.int x0, .int x1] r := by
  refine MetI.ofX (by decide +kernel) (Nat.le_of_ble_eq_true rfl) ?_
  intro p e s m below meth c AV Q X hret ls hw hl
  replace X : Cx g p s m AV c cL_up RL 2 := X
  replace hl : lv_has ls 2 [(0, .int x0), (1, .int x1)] := hl
  unfold m_L_up at hm
  refine lv_iload_n X.1 X.2.1 dL_up_0 rfl (lv_at hl 0 rfl) ?_
  refine lv_ldc (v := 2147483647) X.1 X.2.1 X.2.2.2.1 (X.2.2.2.2.1 _ wq_5_14) dL_up_1 ?_
  refine lv_iand X.1 X.2.1 dL_up_3 ?_
  refine lv_iload_n X.1 X.2.1 dL_up_4 rfl (lv_at hl 1 rfl) ?_
  replace hm := gd_e hm
  obtain ⟨g_1, hm⟩ := hm
  refine lv_irem X.1 X.2.1 dL_up_5 g_1 ?_
  obtain rfl := Option.some.inj hm
  exact hret _ _ _ _ hw dL_up_6
def m_L_divisor_L28 (σ : Int64 × Int64) : Option ((Int64 × Int64) ⊕ (Int64)) := (fun (q_18 : Int64 × Int64) => un q_18 (fun y_5 y_6 => if (lg_cmp y_6 (0 : Int64)) ≤ 0 then some (.inr y_5) else gd (¬ y_6 = 0) (lt (y_5 - y_5 / y_6 * y_6) (fun x_17 => some (.inl (y_6, x_17)))))) σ
def m_L_divisor (x0 : Int64) (x2 : Int64) : Option (Int64) := Option.bind (if 0 ≤ (lg_cmp x0 (0 : Int64)) then some x0 else some (-x0)) (fun (j_2 : Int64) => Option.bind (if 0 ≤ (lg_cmp x2 (0 : Int64)) then some x2 else some (-x2)) (fun (j_4 : Int64) => Option.bind (vLoop (m_L_divisor_L28) FUEL (j_2, j_4)) (fun (j_7 : Int64) => some j_7)))
theorem yo_L_divisor : yL_divisor.cls ≠ "java/lang/invoke/MethodHandle" ∧ yL_divisor.cls ≠ "java/lang/invoke/VarHandle" ∧ (parseMethodDescriptor yL_divisor.desc).map (fun d => d.parameters.length) = some 2 := by decide +kernel
set_option maxHeartbeats 4000000 in
set_option maxRecDepth 100000 in
theorem c_L_divisor {l : Launch} {g : gT} {n : Nat} {h : Nat → Nat} {cel : Nat → va_E} {x0 : Int64} {x2 : Int64} {r : Int64} (hm : m_L_divisor x0 x2 = some r) : MetL l g yL_divisor cL_divisor 10 (some .long) 0 0 n h (cel) (cel) [.long x0, .long x2] r := by
  refine MetL.ofX (by decide +kernel) (Nat.le_of_ble_eq_true rfl) ?_
  intro p e s m below meth c AV Q X hret ls hw hl
  replace X : Cx g p s m AV c cL_divisor RL 10 := X
  replace hl : lv_has ls 10 [(0, .long x0), (2, .long x2)] := hl
  unfold m_L_divisor at hm
  refine lv_lload_n X.1 X.2.1 dL_divisor_0 rfl (lv_at hl 0 rfl) ?_
  refine lv_lconst (v := 0) X.1 X.2.1 dL_divisor_1 (by decide) ?_
  refine W.lcmp X.1 X.2.1 dL_divisor_2 ?_
  replace hm := ob_e hm
  obtain ⟨j_2, hg_21, hm⟩ := hm
  have J_22 : ∀ (H : Heap) (locs : List Loc) (ls : Array Slot), Wd g n h (cel) s H locs → lv_has ls 10 [(2, .long x2)] → W p l e (rW 0 0) s m AV below meth c H locs 0 0 Q (F0 m 12 ls [.long j_2]) := by
    intro H locs ls hw hl
    refine lv_lstore (lv' := [(4, .long j_2), (2, .long x2)]) X.1 X.2.1 dL_divisor_12 hl (by decide) rfl (fun ls hl => ?_)
    refine lv_lload_n X.1 X.2.1 dL_divisor_14 rfl (lv_at hl 1 rfl) ?_
    refine lv_lconst (v := 0) X.1 X.2.1 dL_divisor_15 (by decide) ?_
    refine W.lcmp X.1 X.2.1 dL_divisor_16 ?_
    replace hm := ob_e hm
    obtain ⟨j_4, hg_19, hm⟩ := hm
    have J_20 : ∀ (H : Heap) (locs : List Loc) (ls : Array Slot), Wd g n h (cel) s H locs → lv_has ls 10 [(4, .long j_2)] → W p l e (rW 0 0) s m AV below meth c H locs 0 0 Q (F0 m 26 ls [.long j_4]) := by
      intro H locs ls hw hl
      refine lv_lstore (lv' := [(6, .long j_4), (4, .long j_2)]) X.1 X.2.1 dL_divisor_26 hl (by decide) rfl (fun ls hl => ?_)
      replace hm := ob_e hm
      obtain ⟨j_7, hL_13, hm⟩ := hm
      have J_12 : ∀ (H : Heap) (locs : List Loc) (ls : Array Slot), Wd g n h (cel) s H locs → lv_has ls 10 [(4, .long j_7)] → W p l e (rW 0 0) s m AV below meth c H locs 0 0 Q (F0 m 53 ls []) := by
        intro H locs ls hw hl
        refine lv_lload X.1 X.2.1 dL_divisor_53 (lv_at hl 0 rfl) ?_
        obtain rfl := Option.some.inj hm
        exact hret _ _ _ _ hw dL_divisor_55
      refine vLoop_ind (B := (m_L_divisor_L28)) (fun σ => ∀ (H : Heap) (locs : List Loc) (ls : Array Slot), Wd g n h (cel) s H locs → lv_has ls 10 [(4, .long σ.1), (6, .long σ.2)] → W p l e (rW 0 0) s m AV below meth c H locs 0 0 Q (F0 m 28 ls [])) (fun z' => z' = j_7) ?_ FUEL _ _ hL_13 rfl _ _ _ hw (lv_sub hl [1, 0] rfl)
      intro σ z_11 hz_8 hn_9 hx_10
      obtain ⟨y_5, y_6⟩ := σ
      intro H locs ls hw hl
      replace hw : Wd g n h (cel) s H locs := hw
      replace hl : lv_has ls 10 [(4, .long y_5), (6, .long y_6)] := hl
      unfold m_L_divisor_L28 at hz_8
      replace hz_8 := un_e hz_8
      refine lv_lload X.1 X.2.1 dL_divisor_28 (lv_at hl 1 rfl) ?_
      refine lv_lconst (v := 0) X.1 X.2.1 dL_divisor_30 (by decide) ?_
      refine W.lcmp X.1 X.2.1 dL_divisor_31 ?_
      refine lv_if_le (tgt := 53) X.1 X.2.1 dL_divisor_32 (by decide) (fun c_15 => ?_) (fun c_15 => ?_)
      · replace hz_8 := it_p hz_8 c_15
        obtain rfl := hx_10 _ (Option.some.inj hz_8).symm
        exact J_12 _ _ _ hw (lv_sub hl [0] rfl)
      · replace hz_8 := it_n hz_8 c_15
        refine lv_lload X.1 X.2.1 dL_divisor_35 (lv_at hl 0 rfl) ?_
        refine lv_lload X.1 X.2.1 dL_divisor_37 (lv_at hl 1 rfl) ?_
        replace hz_8 := gd_e hz_8
        obtain ⟨g_16, hz_8⟩ := hz_8
        refine lv_lrem X.1 X.2.1 dL_divisor_39 g_16 ?_
        refine lv_topl (fun x_17 ex_17 => ?_)
        replace hz_8 := lt_e hz_8 ex_17
        refine lv_lstore (lv' := [(8, .long x_17), (4, .long y_5), (6, .long y_6)]) X.1 X.2.1 dL_divisor_40 hl (by decide) rfl (fun ls hl => ?_)
        refine lv_lload X.1 X.2.1 dL_divisor_42 (lv_at hl 2 rfl) ?_
        refine lv_lstore (lv' := [(4, .long y_6), (8, .long x_17), (6, .long y_6)]) X.1 X.2.1 dL_divisor_44 hl (by decide) rfl (fun ls hl => ?_)
        refine lv_lload X.1 X.2.1 dL_divisor_46 (lv_at hl 1 rfl) ?_
        refine lv_lstore (lv' := [(6, .long x_17), (4, .long y_6), (8, .long x_17)]) X.1 X.2.1 dL_divisor_48 hl (by decide) rfl (fun ls hl => ?_)
        refine lv_goto (tgt := 28) X.1 X.2.1 dL_divisor_50 (by decide) ?_
        exact hn_9 _ (Option.some.inj hz_8).symm _ _ _ hw (lv_sub hl [1, 0] rfl)
    refine lv_if_ge (tgt := 25) X.1 X.2.1 dL_divisor_17 (by decide) (fun c_3 => ?_) (fun c_3 => ?_)
    · replace hg_19 := it_p hg_19 c_3
      refine lv_lload_n X.1 X.2.1 dL_divisor_25 rfl (lv_at hl 1 rfl) ?_
      obtain rfl := Option.some.inj hg_19
      exact J_20 _ _ _ hw (lv_sub hl [0] rfl)
    · replace hg_19 := it_n hg_19 c_3
      refine lv_lload_n X.1 X.2.1 dL_divisor_20 rfl (lv_at hl 1 rfl) ?_
      refine lv_lneg X.1 X.2.1 dL_divisor_21 ?_
      refine lv_goto (tgt := 26) X.1 X.2.1 dL_divisor_22 (by decide) ?_
      obtain rfl := Option.some.inj hg_19
      exact J_20 _ _ _ hw (lv_sub hl [0] rfl)
  refine lv_if_ge (tgt := 11) X.1 X.2.1 dL_divisor_3 (by decide) (fun c_1 => ?_) (fun c_1 => ?_)
  · replace hg_21 := it_p hg_21 c_1
    refine lv_lload_n X.1 X.2.1 dL_divisor_11 rfl (lv_at hl 0 rfl) ?_
    obtain rfl := Option.some.inj hg_21
    exact J_22 _ _ _ hw (lv_sub hl [1] rfl)
  · replace hg_21 := it_n hg_21 c_1
    refine lv_lload_n X.1 X.2.1 dL_divisor_6 rfl (lv_at hl 0 rfl) ?_
    refine lv_lneg X.1 X.2.1 dL_divisor_7 ?_
    refine lv_goto (tgt := 12) X.1 X.2.1 dL_divisor_8 (by decide) ?_
    obtain rfl := Option.some.inj hg_21
    exact J_22 _ _ _ hw (lv_sub hl [1] rfl)
def m_L_less (x0 : Int64) (x2 : Int64) (x4 : Int64) (x6 : Int64) : Option (Int32) := Option.bind (m_L_divisor x2 x6) (fun (r_2 : Int64) => gd (¬ r_2 = 0) (gd (¬ r_2 = 0) (if 0 ≤ (lg_cmp (x0 * (x6 / r_2)) (x4 * (x2 / r_2))) then some (0 : Int32) else some (1 : Int32))))
theorem yo_L_less : yL_less.cls ≠ "java/lang/invoke/MethodHandle" ∧ yL_less.cls ≠ "java/lang/invoke/VarHandle" ∧ (parseMethodDescriptor yL_less.desc).map (fun d => d.parameters.length) = some 4 := by decide +kernel
set_option maxHeartbeats 4000000 in
set_option maxRecDepth 100000 in
theorem c_L_less {l : Launch} {g : gT} {n : Nat} {h : Nat → Nat} {cel : Nat → va_E} {x0 : Int64} {x2 : Int64} {x4 : Int64} {x6 : Int64} {r : Int32} (hm : m_L_less x0 x2 x4 x6 = some r) : MetI l g yL_less cL_less 10 (some .boolean) 1 29 n h (cel) (cel) [.long x0, .long x2, .long x4, .long x6] r := by
  refine MetZ.ofX (by decide +kernel) (Nat.le_of_ble_eq_true rfl) ?_
  intro p e s m below meth c AV Q X hret ls hw hl
  replace X : Cx g p s m AV c cL_less RL 10 := X
  replace hl : lv_has ls 10 [(0, .long x0), (2, .long x2), (4, .long x4), (6, .long x6)] := hl
  unfold m_L_less at hm
  refine lv_lload_n X.1 X.2.1 dL_less_0 rfl (lv_at hl 1 rfl) ?_
  refine lv_lload X.1 X.2.1 dL_less_1 (lv_at hl 3 rfl) ?_
  replace hm := ob_e hm
  obtain ⟨r_2, h_1, hm⟩ := hm
  refine k_Sl (As := [.long x2, .long x6]) X hl.1 hw (c_L_divisor h_1) ⟨wq_14_13, wq_14_14, wq_5_5, wq_14_15⟩ yo_L_divisor rfl ⟨Nat.le_of_ble_eq_true rfl, Nat.le_of_ble_eq_true rfl⟩ (Nat.le_of_ble_eq_true rfl) dL_less_3 (fun H locs hw => ?_)
  refine lv_lstore (lv' := [(8, .long r_2), (0, .long x0), (2, .long x2), (4, .long x4), (6, .long x6)]) X.1 X.2.1 dL_less_6 hl (by decide) rfl (fun ls hl => ?_)
  refine lv_lload_n X.1 X.2.1 dL_less_8 rfl (lv_at hl 1 rfl) ?_
  refine lv_lload X.1 X.2.1 dL_less_9 (lv_at hl 4 rfl) ?_
  refine lv_lload X.1 X.2.1 dL_less_11 (lv_at hl 0 rfl) ?_
  replace hm := gd_e hm
  obtain ⟨g_3, hm⟩ := hm
  refine lv_ldiv X.1 X.2.1 dL_less_13 g_3 ?_
  refine lv_lmul X.1 X.2.1 dL_less_14 ?_
  refine lv_lload X.1 X.2.1 dL_less_15 (lv_at hl 3 rfl) ?_
  refine lv_lload_n X.1 X.2.1 dL_less_17 rfl (lv_at hl 2 rfl) ?_
  refine lv_lload X.1 X.2.1 dL_less_18 (lv_at hl 0 rfl) ?_
  replace hm := gd_e hm
  obtain ⟨g_4, hm⟩ := hm
  refine lv_ldiv X.1 X.2.1 dL_less_20 g_4 ?_
  refine lv_lmul X.1 X.2.1 dL_less_21 ?_
  refine W.lcmp X.1 X.2.1 dL_less_22 ?_
  refine lv_if_ge (tgt := 30) X.1 X.2.1 dL_less_23 (by decide) (fun c_5 => ?_) (fun c_5 => ?_)
  · replace hm := it_p hm c_5
    refine lv_iconst (v := 0) X.1 X.2.1 dL_less_30 (by decide) ?_
    obtain rfl := Option.some.inj hm
    exact hret _ _ _ _ hw dL_less_31 (Or.inl rfl)
  · replace hm := it_n hm c_5
    refine lv_iconst (v := 1) X.1 X.2.1 dL_less_26 (by decide) ?_
    refine lv_goto (tgt := 31) X.1 X.2.1 dL_less_27 (by decide) ?_
    obtain rfl := Option.some.inj hm
    exact hret _ _ _ _ hw dL_less_31 (Or.inr rfl)
