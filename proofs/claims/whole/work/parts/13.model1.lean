def m_X10_sets (t : ST) (x1 : Int32) : Option (Int32) := Option.bind (m_X10_in (x1.toInt64) (0 : Int64) ((t.1 4).toInt64)) (fun (r_2 : Int32) => if r_2 = 0 then some (-2 : Int32) else Option.bind (m_X10_setsOf t x1) (fun (r_5 : Int32) => some r_5))
theorem yo_X10_sets : yX10_sets.cls = RX10 ∧ yX10_sets.cls ≠ "java/lang/invoke/MethodHandle" ∧ yX10_sets.cls ≠ "java/lang/invoke/VarHandle" ∧ (parseMethodDescriptor yX10_sets.desc).map (fun d => d.parameters.length) = some 1 := by decide +kernel
set_option maxHeartbeats 4000000 in
set_option maxRecDepth 100000 in
theorem c_X10_sets {l : Launch} {g : gT} {h : Nat → Nat} {t : ST} {x1 : Int32} {r : Int32} (hm : m_X10_sets t x1 = some r) : MetI l g yX10_sets cX10_sets 2 (some .int) 3 71 20 h (cM g h t) (cM g h t) [.ref (h 0), .int x1] r := by
  refine MetI.ofX (by decide +kernel) (Nat.le_of_ble_eq_true rfl) ?_
  intro p e s m below meth c AV Q X hret ls hw hl
  replace X : Cx g p s m AV c cX10_sets RX10 2 := X
  replace hl : lv_has ls 2 [(0, .ref (h 0)), (1, .int x1)] := hl
  unfold m_X10_sets at hm
  refine lv_iload_n X.1 X.2.1 dX10_sets_0 rfl (lv_at hl 1 rfl) ?_
  refine lv_i2l X.1 X.2.1 dX10_sets_1 rfl ?_
  refine lv_lconst (v := 0) X.1 X.2.1 dX10_sets_2 (by decide) ?_
  refine lv_aload_n X.1 X.2.1 dX10_sets_3 rfl (lv_at hl 0 rfl) ?_
  refine gX10_links X hw wq_7_2 dX10_sets_4 ?_
  refine lv_i2l X.1 X.2.1 dX10_sets_7 rfl ?_
  replace hm := ob_e hm
  obtain ⟨r_2, h_1, hm⟩ := hm
  refine k_Si (As := [.long x1.toInt64, .long (0 : Int64), .long (t.1 4).toInt64]) X hl.1 hw (c_X10_in h_1) ⟨wq_7_5, wq_7_6, wq_1_5, wq_7_7⟩ yo_X10_in rfl ⟨Nat.le_of_ble_eq_true rfl, Nat.le_of_ble_eq_true rfl⟩ (Nat.le_of_ble_eq_true rfl) dX10_sets_8 (fun H locs hw => ?_)
  refine lv_if_eq (tgt := 22) X.1 X.2.1 dX10_sets_11 (by decide) (fun c_3 => ?_) (fun c_3 => ?_)
  · replace hm := it_p hm c_3
    refine lv_bipush (v := -2) X.1 X.2.1 dX10_sets_22 (by decide) ?_
    obtain rfl := Option.some.inj hm
    exact hret _ _ _ _ hw dX10_sets_24
  · replace hm := it_n hm c_3
    refine lv_aload_n X.1 X.2.1 dX10_sets_14 rfl (lv_at hl 0 rfl) ?_
    refine lv_iload_n X.1 X.2.1 dX10_sets_15 rfl (lv_at hl 1 rfl) ?_
    replace hm := ob_e hm
    obtain ⟨r_5, h_4, hm⟩ := hm
    refine k_Vi (k := 0) (As := [.int x1]) X hl.1 hw (c_X10_setsOf h_4) (by decide) (he_X10 g h _) rfl ⟨wq_34_6, wq_34_7, wq_34_8, wq_1_5, wq_34_9⟩ yo_X10_setsOf rfl ⟨Nat.le_of_ble_eq_true rfl, Nat.le_of_ble_eq_true rfl⟩ (Nat.le_of_ble_eq_true rfl) dX10_sets_16 (fun H locs hw => ?_)
    refine lv_goto (tgt := 24) X.1 X.2.1 dX10_sets_19 (by decide) ?_
    obtain rfl := Option.some.inj hm
    exact hret _ _ _ _ hw dX10_sets_24
def m_X10_times (t : ST) (x1 : Int64) (x3 : Int64) : Option (Int64 × ST) := if (t.1 5) = 0 then if (lg_cmp x1 (0 : Int64)) ≤ 0 then lt (wI t 5 (0 : Int32)) (fun t_5 => some ((x1 * x3), t_5)) else gd (¬ x1 = 0) (if (lg_cmp x3 ((9223372036854775807 : Int64) / x1)) ≤ 0 then lt (wI t 5 (0 : Int32)) (fun t_9 => some ((x1 * x3), t_9)) else lt (wI t 5 (1 : Int32)) (fun t_11 => some ((x1 * x3), t_11))) else lt (wI t 5 (1 : Int32)) (fun t_2 => some ((x1 * x3), t_2))
theorem yo_X10_times : yX10_times.cls = RX10 ∧ yX10_times.cls ≠ "java/lang/invoke/MethodHandle" ∧ yX10_times.cls ≠ "java/lang/invoke/VarHandle" ∧ (parseMethodDescriptor yX10_times.desc).map (fun d => d.parameters.length) = some 2 := by decide +kernel
set_option maxHeartbeats 4000000 in
set_option maxRecDepth 100000 in
theorem c_X10_times {l : Launch} {g : gT} {h : Nat → Nat} {t : ST} {x1 : Int64} {x3 : Int64} {r : Int64} {t' : ST} (hm : m_X10_times t x1 x3 = some (r, t')) : MetL l g yX10_times cX10_times 5 (some .long) 0 0 20 h (cM g h t) (cM g h t') [.ref (h 0), .long x1, .long x3] r := by
  refine MetL.ofX (by decide +kernel) (Nat.le_of_ble_eq_true rfl) ?_
  intro p e s m below meth c AV Q X hret ls hw hl
  replace X : Cx g p s m AV c cX10_times RX10 5 := X
  replace hl : lv_has ls 5 [(0, .ref (h 0)), (1, .long x1), (3, .long x3)] := hl
  unfold m_X10_times at hm
  refine lv_aload_n X.1 X.2.1 dX10_times_0 rfl (lv_at hl 0 rfl) ?_
  refine lv_aload_n X.1 X.2.1 dX10_times_1 rfl (lv_at hl 0 rfl) ?_
  refine gX10_over X hw wq_35_20 dX10_times_2 ?_
  refine lv_if_ne (tgt := 24) X.1 X.2.1 dX10_times_5 (by decide) (fun c_1 => ?_) (fun c_1 => ?_)
  · replace hm := it_n hm c_1
    refine lv_iconst (v := 1) X.1 X.2.1 dX10_times_24 (by decide) ?_
    refine lv_goto (tgt := 29) X.1 X.2.1 dX10_times_25 (by decide) ?_
    refine pX10_over X hw wq_35_20 (Or.inr rfl) dX10_times_29 (fun H locs hw => ?_)
    obtain ⟨t_2, et_2⟩ : ∃ y, y = wI t 5 (1 : Int32) := ⟨_, rfl⟩
    rw [← et_2] at hw
    replace hm := lt_e hm et_2
    refine lv_lload_n X.1 X.2.1 dX10_times_32 rfl (lv_at hl 1 rfl) ?_
    refine lv_lload_n X.1 X.2.1 dX10_times_33 rfl (lv_at hl 2 rfl) ?_
    refine lv_lmul X.1 X.2.1 dX10_times_34 ?_
    obtain ⟨rfl, rfl⟩ := Prod.mk.inj (Option.some.inj hm)
    exact hret _ _ _ _ hw dX10_times_35
  · replace hm := it_p hm c_1
    refine lv_lload_n X.1 X.2.1 dX10_times_8 rfl (lv_at hl 1 rfl) ?_
    refine lv_lconst (v := 0) X.1 X.2.1 dX10_times_9 (by decide) ?_
    refine W.lcmp X.1 X.2.1 dX10_times_10 ?_
    refine lv_if_le (tgt := 28) X.1 X.2.1 dX10_times_11 (by decide) (fun c_4 => ?_) (fun c_4 => ?_)
    · replace hm := it_p hm c_4
      refine lv_iconst (v := 0) X.1 X.2.1 dX10_times_28 (by decide) ?_
      refine pX10_over X hw wq_35_20 (Or.inl rfl) dX10_times_29 (fun H locs hw => ?_)
      obtain ⟨t_5, et_5⟩ : ∃ y, y = wI t 5 (0 : Int32) := ⟨_, rfl⟩
      rw [← et_5] at hw
      replace hm := lt_e hm et_5
      refine lv_lload_n X.1 X.2.1 dX10_times_32 rfl (lv_at hl 1 rfl) ?_
      refine lv_lload_n X.1 X.2.1 dX10_times_33 rfl (lv_at hl 2 rfl) ?_
      refine lv_lmul X.1 X.2.1 dX10_times_34 ?_
      obtain ⟨rfl, rfl⟩ := Prod.mk.inj (Option.some.inj hm)
      exact hret _ _ _ _ hw dX10_times_35
    · replace hm := it_n hm c_4
      refine lv_lload_n X.1 X.2.1 dX10_times_14 rfl (lv_at hl 2 rfl) ?_
      refine lv_ldc2 (v := 9223372036854775807) X.1 X.2.1 X.2.2.2.1 (X.2.2.2.2.1 _ wq_35_21) dX10_times_15 ?_
      refine lv_lload_n X.1 X.2.1 dX10_times_18 rfl (lv_at hl 1 rfl) ?_
      replace hm := gd_e hm
      obtain ⟨g_7, hm⟩ := hm
      refine lv_ldiv X.1 X.2.1 dX10_times_19 g_7 ?_
      refine W.lcmp X.1 X.2.1 dX10_times_20 ?_
      refine lv_if_le (tgt := 28) X.1 X.2.1 dX10_times_21 (by decide) (fun c_8 => ?_) (fun c_8 => ?_)
      · replace hm := it_p hm c_8
        refine lv_iconst (v := 0) X.1 X.2.1 dX10_times_28 (by decide) ?_
        refine pX10_over X hw wq_35_20 (Or.inl rfl) dX10_times_29 (fun H locs hw => ?_)
        obtain ⟨t_9, et_9⟩ : ∃ y, y = wI t 5 (0 : Int32) := ⟨_, rfl⟩
        rw [← et_9] at hw
        replace hm := lt_e hm et_9
        refine lv_lload_n X.1 X.2.1 dX10_times_32 rfl (lv_at hl 1 rfl) ?_
        refine lv_lload_n X.1 X.2.1 dX10_times_33 rfl (lv_at hl 2 rfl) ?_
        refine lv_lmul X.1 X.2.1 dX10_times_34 ?_
        obtain ⟨rfl, rfl⟩ := Prod.mk.inj (Option.some.inj hm)
        exact hret _ _ _ _ hw dX10_times_35
      · replace hm := it_n hm c_8
        refine lv_iconst (v := 1) X.1 X.2.1 dX10_times_24 (by decide) ?_
        refine lv_goto (tgt := 29) X.1 X.2.1 dX10_times_25 (by decide) ?_
        refine pX10_over X hw wq_35_20 (Or.inr rfl) dX10_times_29 (fun H locs hw => ?_)
        obtain ⟨t_11, et_11⟩ : ∃ y, y = wI t 5 (1 : Int32) := ⟨_, rfl⟩
        rw [← et_11] at hw
        replace hm := lt_e hm et_11
        refine lv_lload_n X.1 X.2.1 dX10_times_32 rfl (lv_at hl 1 rfl) ?_
        refine lv_lload_n X.1 X.2.1 dX10_times_33 rfl (lv_at hl 2 rfl) ?_
        refine lv_lmul X.1 X.2.1 dX10_times_34 ?_
        obtain ⟨rfl, rfl⟩ := Prod.mk.inj (Option.some.inj hm)
        exact hret _ _ _ _ hw dX10_times_35
def m_X10_power_L6 (x1 : Int64) (x3 : Int32) (σ : Int64 × Int32 × ST) : Option ((Int64 × Int32 × ST) ⊕ (Int64 × ST)) := (fun (q_21 : Int64 × Int32 × ST) => un q_21 (fun y_1 q_21 => un q_21 (fun y_2 t_3 => if x3 ≤ y_2 then some (.inr (y_1, t_3)) else Option.bind (m_X10_times t_3 y_1 x1) (fun (q_19 : Int64 × ST) => un q_19 (fun r_17 t_18 => lt (y_2 + 1) (fun x_20 => some (.inl (r_17, x_20, t_18)))))))) σ
def m_X10_power (t : ST) (x1 : Int64) (x3 : Int32) : Option (Int64 × ST) := Option.bind (vLoop (m_X10_power_L6 x1 x3) FUEL ((1 : Int64), (0 : Int32), t)) (fun (q_22 : Int64 × ST) => un q_22 (fun j_4 t_5 => some (j_4, t_5)))
theorem yo_X10_power : yX10_power.cls = RX10 ∧ yX10_power.cls ≠ "java/lang/invoke/MethodHandle" ∧ yX10_power.cls ≠ "java/lang/invoke/VarHandle" ∧ (parseMethodDescriptor yX10_power.desc).map (fun d => d.parameters.length) = some 2 := by decide +kernel
set_option maxHeartbeats 4000000 in
set_option maxRecDepth 100000 in
theorem c_X10_power {l : Launch} {g : gT} {h : Nat → Nat} {t : ST} {x1 : Int64} {x3 : Int32} {r : Int64} {t' : ST} (hm : m_X10_power t x1 x3 = some (r, t')) : MetL l g yX10_power cX10_power 7 (some .long) 1 24 20 h (cM g h t) (cM g h t') [.ref (h 0), .long x1, .int x3] r := by
  refine MetL.ofX (by decide +kernel) (Nat.le_of_ble_eq_true rfl) ?_
  intro p e s m below meth c AV Q X hret ls hw hl
  replace X : Cx g p s m AV c cX10_power RX10 7 := X
  replace hl : lv_has ls 7 [(0, .ref (h 0)), (1, .long x1), (3, .int x3)] := hl
  unfold m_X10_power at hm
  refine lv_lconst (v := 1) X.1 X.2.1 dX10_power_0 (by decide) ?_
  refine lv_lstore (lv' := [(4, .long (1 : Int64)), (0, .ref (h 0)), (1, .long x1), (3, .int x3)]) X.1 X.2.1 dX10_power_1 hl (by decide) rfl (fun ls hl => ?_)
  refine lv_iconst (v := 0) X.1 X.2.1 dX10_power_3 (by decide) ?_
  refine lv_istore (lv' := [(6, .int (0 : Int32)), (4, .long (1 : Int64)), (0, .ref (h 0)), (1, .long x1), (3, .int x3)]) X.1 X.2.1 dX10_power_4 hl (by decide) rfl (fun ls hl => ?_)
  replace hm := ob_e hm
  obtain ⟨⟨j_4, t_5⟩, hL_12, hm⟩ := hm
  replace hm := un_e hm
  have J_11 : ∀ (H : Heap) (locs : List Loc) (ls : Array Slot), Wd g 20 h (cM g h t_5) s H locs → lv_has ls 7 [(4, .long j_4)] → W p l e (rW 1 24) s m AV below meth c H locs 0 0 Q (F0 m 27 ls []) := by
    intro H locs ls hw hl
    refine lv_lload X.1 X.2.1 dX10_power_27 (lv_at hl 0 rfl) ?_
    obtain ⟨rfl, rfl⟩ := Prod.mk.inj (Option.some.inj hm)
    exact hret _ _ _ _ hw dX10_power_29
  refine vLoop_ind (B := (m_X10_power_L6 x1 x3)) (fun σ => ∀ (H : Heap) (locs : List Loc) (ls : Array Slot), Wd g 20 h (cM g h σ.2.2) s H locs → lv_has ls 7 [(0, .ref (h 0)), (1, .long x1), (3, .int x3), (4, .long σ.1), (6, .int σ.2.1)] → W p l e (rW 1 24) s m AV below meth c H locs 0 0 Q (F0 m 6 ls [])) (fun z' => z' = (j_4, t_5)) ?_ FUEL _ _ hL_12 rfl _ _ _ hw (lv_sub hl [2, 3, 4, 1, 0] rfl)
  intro σ z_10 hz_7 hn_8 hx_9
  obtain ⟨y_1, y_2, t_3⟩ := σ
  intro H locs ls hw hl
  replace hw : Wd g 20 h (cM g h t_3) s H locs := hw
  replace hl : lv_has ls 7 [(0, .ref (h 0)), (1, .long x1), (3, .int x3), (4, .long y_1), (6, .int y_2)] := hl
  unfold m_X10_power_L6 at hz_7
  replace hz_7 := un_e hz_7
  replace hz_7 := un_e hz_7
  refine lv_iload X.1 X.2.1 dX10_power_6 (lv_at hl 4 rfl) ?_
  refine lv_iload_n X.1 X.2.1 dX10_power_8 rfl (lv_at hl 2 rfl) ?_
  refine lv_icmp_ge (tgt := 27) X.1 X.2.1 dX10_power_9 (by decide) (fun c_14 => ?_) (fun c_14 => ?_)
  · replace hz_7 := it_p hz_7 c_14
    obtain ⟨rfl, rfl⟩ := Prod.mk.inj (hx_9 _ (Option.some.inj hz_7).symm)
    exact J_11 _ _ _ hw (lv_sub hl [3] rfl)
  · replace hz_7 := it_n hz_7 c_14
    refine lv_aload_n X.1 X.2.1 dX10_power_12 rfl (lv_at hl 0 rfl) ?_
    refine lv_lload X.1 X.2.1 dX10_power_13 (lv_at hl 3 rfl) ?_
    refine lv_lload_n X.1 X.2.1 dX10_power_15 rfl (lv_at hl 1 rfl) ?_
    replace hz_7 := ob_e hz_7
    obtain ⟨⟨r_17, t_18⟩, h_16, hz_7⟩ := hz_7
    replace hz_7 := un_e hz_7
    refine k_Vl (k := 0) (As := [.long y_1, .long x1]) X hl.1 hw (c_X10_times h_16) (by decide) (he_X10 g h _) rfl ⟨wq_36_2, wq_36_3, wq_36_4, wq_1_5, wq_36_5⟩ yo_X10_times rfl ⟨Nat.le_of_ble_eq_true rfl, Nat.le_of_ble_eq_true rfl⟩ (Nat.le_of_ble_eq_true rfl) dX10_power_16 (fun H locs hw => ?_)
    refine lv_lstore (lv' := [(4, .long r_17), (0, .ref (h 0)), (1, .long x1), (3, .int x3), (6, .int y_2)]) X.1 X.2.1 dX10_power_19 hl (by decide) rfl (fun ls hl => ?_)
    obtain ⟨x_20, ex_20⟩ : ∃ y : Int32, y = y_2 + 1 := ⟨_, rfl⟩
    replace hz_7 := lt_e hz_7 ex_20
    refine lv_iinc (v := x_20) (lv' := [(6, .int x_20), (4, .long r_17), (0, .ref (h 0)), (1, .long x1), (3, .int x3)]) X.1 X.2.1 dX10_power_21 hl (k := 4) rfl (by rw [ex_20]; rfl) (by decide) rfl (fun ls hl => ?_)
    refine lv_goto (tgt := 6) X.1 X.2.1 dX10_power_24 (by decide) ?_
    exact hn_8 _ (Option.some.inj hz_7).symm _ _ _ hw (lv_sub hl [2, 3, 4, 1, 0] rfl)
def m_X10_likeBy_L11 (x1 : Int32) (x2 : Int32) (σ : Int64 × Int32 × ST) : Option ((Int64 × Int32 × ST) ⊕ (Int64 × ST)) := (fun (q_56 : Int64 × Int32 × ST) => un q_56 (fun y_2 q_56 => un q_56 (fun y_3 t_4 => if (t_4.1 4) < y_3 then some (.inr (y_2, t_4)) else if (t_4.1 5) = 0 then Option.bind (m_X10_setsOf t_4 y_3) (fun (r_30 : Int32) => Option.bind (m_X10_power t_4 (x1.toInt64) y_3) (fun (q_34 : Int64 × ST) => un q_34 (fun r_32 t_33 => Option.bind (m_X10_times t_33 (r_30.toInt64) r_32) (fun (q_38 : Int64 × ST) => un q_38 (fun r_36 t_37 => Option.bind (m_X10_power t_37 ((x2 - x1).toInt64) (((t_37.1 4) - y_3))) (fun (q_42 : Int64 × ST) => un q_42 (fun r_40 t_41 => Option.bind (m_X10_times t_41 r_36 r_40) (fun (q_46 : Int64 × ST) => un q_46 (fun r_44 t_45 => Option.bind (if (t_45.1 5) = 0 then if (lg_cmp r_44 ((9223372036854775807 : Int64) - y_2)) ≤ 0 then some (0 : Int32) else some (1 : Int32) else some (1 : Int32)) (fun (j_48 : Int32) => gd (j_48 = 0 ∨ j_48 = 1) (lt (wI t_45 5 j_48) (fun t_50 => lt (y_2 + r_44) (fun x_51 => lt (y_3 + 1) (fun x_52 => some (.inl (x_51, x_52, t_50)))))))))))))))) else some (.inr (y_2, t_4))))) σ
def m_X10_likeBy (t : ST) (x1 : Int32) (x2 : Int32) (x3 : Int32) : Option (Int64 × ST) := lt (wI t 5 (0 : Int32)) (fun t_1 => Option.bind (vLoop (m_X10_likeBy_L11 x1 x2) FUEL ((0 : Int64), (0 : Int32), t_1)) (fun (q_57 : Int64 × ST) => un q_57 (fun j_5 t_6 => Option.bind (m_X10_power t_6 (x2.toInt64) (t_6.1 4)) (fun (q_10 : Int64 × ST) => un q_10 (fun r_8 t_9 => if (t_9.1 5) = 0 then if x3 = 0 then some (j_5, t_9) else some (r_8, t_9) else Option.bind (m_X10_no (-5 : Int32)) (fun (r_16 : Int64) => some (r_16, t_9)))))))
theorem yo_X10_likeBy : yX10_likeBy.cls = RX10 ∧ yX10_likeBy.cls ≠ "java/lang/invoke/MethodHandle" ∧ yX10_likeBy.cls ≠ "java/lang/invoke/VarHandle" ∧ (parseMethodDescriptor yX10_likeBy.desc).map (fun d => d.parameters.length) = some 3 := by decide +kernel
set_option maxHeartbeats 4000000 in
set_option maxRecDepth 100000 in
theorem c_X10_likeBy {l : Launch} {g : gT} {h : Nat → Nat} {t : ST} {x1 : Int32} {x2 : Int32} {x3 : Int32} {r : Int64} {t' : ST} (hm : m_X10_likeBy t x1 x2 x3 = some (r, t')) : MetL l g yX10_likeBy cX10_likeBy 9 (some .long) 3 71 20 h (cM g h t) (cM g h t') [.ref (h 0), .int x1, .int x2, .int x3] r := by
  refine MetL.ofX (by decide +kernel) (Nat.le_of_ble_eq_true rfl) ?_
  intro p e s m below meth c AV Q X hret ls hw hl
  replace X : Cx g p s m AV c cX10_likeBy RX10 9 := X
  replace hl : lv_has ls 9 [(0, .ref (h 0)), (1, .int x1), (2, .int x2), (3, .int x3)] := hl
  unfold m_X10_likeBy at hm
  refine lv_aload_n X.1 X.2.1 dX10_likeBy_0 rfl (lv_at hl 0 rfl) ?_
  refine lv_iconst (v := 0) X.1 X.2.1 dX10_likeBy_1 (by decide) ?_
  refine pX10_over X hw wq_35_20 (Or.inl rfl) dX10_likeBy_2 (fun H locs hw => ?_)
  obtain ⟨t_1, et_1⟩ : ∃ y, y = wI t 5 (0 : Int32) := ⟨_, rfl⟩
  rw [← et_1] at hw
  replace hm := lt_e hm et_1
  refine lv_lconst (v := 0) X.1 X.2.1 dX10_likeBy_5 (by decide) ?_
  refine lv_lstore (lv' := [(4, .long (0 : Int64)), (0, .ref (h 0)), (1, .int x1), (2, .int x2), (3, .int x3)]) X.1 X.2.1 dX10_likeBy_6 hl (by decide) rfl (fun ls hl => ?_)
  refine lv_iconst (v := 0) X.1 X.2.1 dX10_likeBy_8 (by decide) ?_
  refine lv_istore (lv' := [(6, .int (0 : Int32)), (4, .long (0 : Int64)), (0, .ref (h 0)), (1, .int x1), (2, .int x2), (3, .int x3)]) X.1 X.2.1 dX10_likeBy_9 hl (by decide) rfl (fun ls hl => ?_)
  replace hm := ob_e hm
  obtain ⟨⟨j_5, t_6⟩, hL_23, hm⟩ := hm
  replace hm := un_e hm
  have J_22 : ∀ (H : Heap) (locs : List Loc) (ls : Array Slot), Wd g 20 h (cM g h t_6) s H locs → lv_has ls 9 [(0, .ref (h 0)), (2, .int x2), (3, .int x3), (4, .long j_5)] → W p l e (rW 3 71) s m AV below meth c H locs 0 0 Q (F0 m 108 ls []) := by
    intro H locs ls hw hl
    refine lv_aload_n X.1 X.2.1 dX10_likeBy_108 rfl (lv_at hl 0 rfl) ?_
    refine lv_iload_n X.1 X.2.1 dX10_likeBy_109 rfl (lv_at hl 1 rfl) ?_
    refine lv_i2l X.1 X.2.1 dX10_likeBy_110 rfl ?_
    refine lv_aload_n X.1 X.2.1 dX10_likeBy_111 rfl (lv_at hl 0 rfl) ?_
    refine gX10_links X hw wq_7_2 dX10_likeBy_112 ?_
    replace hm := ob_e hm
    obtain ⟨⟨r_8, t_9⟩, h_7, hm⟩ := hm
    replace hm := un_e hm
    refine k_Vl (k := 0) (As := [.long x2.toInt64, .int (t_6.1 4)]) X hl.1 hw (c_X10_power h_7) (by decide) (he_X10 g h _) rfl ⟨wq_35_22, wq_35_23, wq_36_0, wq_1_5, wq_36_1⟩ yo_X10_power rfl ⟨Nat.le_of_ble_eq_true rfl, Nat.le_of_ble_eq_true rfl⟩ (Nat.le_of_ble_eq_true rfl) dX10_likeBy_115 (fun H locs hw => ?_)
    refine lv_lstore (lv' := [(6, .long r_8), (0, .ref (h 0)), (2, .int x2), (3, .int x3), (4, .long j_5)]) X.1 X.2.1 dX10_likeBy_118 hl (by decide) rfl (fun ls hl => ?_)
    refine lv_aload_n X.1 X.2.1 dX10_likeBy_120 rfl (lv_at hl 1 rfl) ?_
    refine gX10_over X hw wq_35_20 dX10_likeBy_121 ?_
    refine lv_if_eq (tgt := 135) X.1 X.2.1 dX10_likeBy_124 (by decide) (fun c_11 => ?_) (fun c_11 => ?_)
    · replace hm := it_p hm c_11
      refine lv_iload_n X.1 X.2.1 dX10_likeBy_135 rfl (lv_at hl 3 rfl) ?_
      refine lv_if_ne (tgt := 144) X.1 X.2.1 dX10_likeBy_136 (by decide) (fun c_12 => ?_) (fun c_12 => ?_)
      · replace hm := it_n hm c_12
        refine lv_lload X.1 X.2.1 dX10_likeBy_144 (lv_at hl 0 rfl) ?_
        obtain ⟨rfl, rfl⟩ := Prod.mk.inj (Option.some.inj hm)
        exact hret _ _ _ _ hw dX10_likeBy_146
      · replace hm := it_p hm c_12
        refine lv_lload X.1 X.2.1 dX10_likeBy_139 (lv_at hl 4 rfl) ?_
        refine lv_goto (tgt := 146) X.1 X.2.1 dX10_likeBy_141 (by decide) ?_
        obtain ⟨rfl, rfl⟩ := Prod.mk.inj (Option.some.inj hm)
        exact hret _ _ _ _ hw dX10_likeBy_146
    · replace hm := it_n hm c_11
      refine lv_bipush (v := -5) X.1 X.2.1 dX10_likeBy_127 (by decide) ?_
      replace hm := ob_e hm
      obtain ⟨r_16, h_15, hm⟩ := hm
      refine k_Sl (As := [.int (-5 : Int32)]) X hl.1 hw (c_X10_no h_15) ⟨wq_19_10, wq_19_11, wq_1_5, wq_19_12⟩ yo_X10_no rfl ⟨Nat.le_of_ble_eq_true rfl, Nat.le_of_ble_eq_true rfl⟩ (Nat.le_of_ble_eq_true rfl) dX10_likeBy_129 (fun H locs hw => ?_)
      refine lv_goto (tgt := 146) X.1 X.2.1 dX10_likeBy_132 (by decide) ?_
      obtain ⟨rfl, rfl⟩ := Prod.mk.inj (Option.some.inj hm)
      exact hret _ _ _ _ hw dX10_likeBy_146
  refine vLoop_ind (B := (m_X10_likeBy_L11 x1 x2)) (fun σ => ∀ (H : Heap) (locs : List Loc) (ls : Array Slot), Wd g 20 h (cM g h σ.2.2) s H locs → lv_has ls 9 [(0, .ref (h 0)), (1, .int x1), (2, .int x2), (3, .int x3), (4, .long σ.1), (6, .int σ.2.1)] → W p l e (rW 3 71) s m AV below meth c H locs 0 0 Q (F0 m 11 ls [])) (fun z' => z' = (j_5, t_6)) ?_ FUEL _ _ hL_23 rfl _ _ _ hw (lv_sub hl [2, 3, 4, 5, 1, 0] rfl)
  intro σ z_21 hz_18 hn_19 hx_20
  obtain ⟨y_2, y_3, t_4⟩ := σ
  intro H locs ls hw hl
  replace hw : Wd g 20 h (cM g h t_4) s H locs := hw
  replace hl : lv_has ls 9 [(0, .ref (h 0)), (1, .int x1), (2, .int x2), (3, .int x3), (4, .long y_2), (6, .int y_3)] := hl
  unfold m_X10_likeBy_L11 at hz_18
  replace hz_18 := un_e hz_18
  replace hz_18 := un_e hz_18
  refine lv_iload X.1 X.2.1 dX10_likeBy_11 (lv_at hl 5 rfl) ?_
  refine lv_aload_n X.1 X.2.1 dX10_likeBy_13 rfl (lv_at hl 0 rfl) ?_
  refine gX10_links X hw wq_7_2 dX10_likeBy_14 ?_
  refine lv_icmp_gt (tgt := 108) X.1 X.2.1 dX10_likeBy_17 (by decide) (fun c_25 => ?_) (fun c_25 => ?_)
  · replace hz_18 := it_p hz_18 c_25
    obtain ⟨rfl, rfl⟩ := Prod.mk.inj (hx_20 _ (Option.some.inj hz_18).symm)
    exact J_22 _ _ _ hw (lv_sub hl [0, 2, 3, 4] rfl)
  · replace hz_18 := it_n hz_18 c_25
    refine lv_aload_n X.1 X.2.1 dX10_likeBy_20 rfl (lv_at hl 0 rfl) ?_
    refine gX10_over X hw wq_35_20 dX10_likeBy_21 ?_
    refine lv_if_ne (tgt := 108) X.1 X.2.1 dX10_likeBy_24 (by decide) (fun c_27 => ?_) (fun c_27 => ?_)
    · replace hz_18 := it_n hz_18 c_27
      obtain ⟨rfl, rfl⟩ := Prod.mk.inj (hx_20 _ (Option.some.inj hz_18).symm)
      exact J_22 _ _ _ hw (lv_sub hl [0, 2, 3, 4] rfl)
    · replace hz_18 := it_p hz_18 c_27
      refine lv_aload_n X.1 X.2.1 dX10_likeBy_27 rfl (lv_at hl 0 rfl) ?_
      refine lv_aload_n X.1 X.2.1 dX10_likeBy_28 rfl (lv_at hl 0 rfl) ?_
      refine lv_aload_n X.1 X.2.1 dX10_likeBy_29 rfl (lv_at hl 0 rfl) ?_
      refine lv_iload X.1 X.2.1 dX10_likeBy_30 (lv_at hl 5 rfl) ?_
      replace hz_18 := ob_e hz_18
      obtain ⟨r_30, h_29, hz_18⟩ := hz_18
      refine k_Vi (k := 0) (As := [.int y_3]) X hl.1 hw (c_X10_setsOf h_29) (by decide) (he_X10 g h _) rfl ⟨wq_34_6, wq_34_7, wq_34_8, wq_1_5, wq_34_9⟩ yo_X10_setsOf rfl ⟨Nat.le_of_ble_eq_true rfl, Nat.le_of_ble_eq_true rfl⟩ (Nat.le_of_ble_eq_true rfl) dX10_likeBy_32 (fun H locs hw => ?_)
      refine lv_i2l X.1 X.2.1 dX10_likeBy_35 rfl ?_
      refine lv_aload_n X.1 X.2.1 dX10_likeBy_36 rfl (lv_at hl 0 rfl) ?_
      refine lv_iload_n X.1 X.2.1 dX10_likeBy_37 rfl (lv_at hl 1 rfl) ?_
      refine lv_i2l X.1 X.2.1 dX10_likeBy_38 rfl ?_
      refine lv_iload X.1 X.2.1 dX10_likeBy_39 (lv_at hl 5 rfl) ?_
      replace hz_18 := ob_e hz_18
      obtain ⟨⟨r_32, t_33⟩, h_31, hz_18⟩ := hz_18
      replace hz_18 := un_e hz_18
      refine k_Vl (k := 0) (As := [.long x1.toInt64, .int y_3]) X hl.1 hw (c_X10_power h_31) (by decide) (he_X10 g h _) rfl ⟨wq_35_22, wq_35_23, wq_36_0, wq_1_5, wq_36_1⟩ yo_X10_power rfl ⟨Nat.le_of_ble_eq_true rfl, Nat.le_of_ble_eq_true rfl⟩ (Nat.le_of_ble_eq_true rfl) dX10_likeBy_41 (fun H locs hw => ?_)
      replace hz_18 := ob_e hz_18
      obtain ⟨⟨r_36, t_37⟩, h_35, hz_18⟩ := hz_18
      replace hz_18 := un_e hz_18
      refine k_Vl (k := 0) (As := [.long r_30.toInt64, .long r_32]) X hl.1 hw (c_X10_times h_35) (by decide) (he_X10 g h _) rfl ⟨wq_36_2, wq_36_3, wq_36_4, wq_1_5, wq_36_5⟩ yo_X10_times rfl ⟨Nat.le_of_ble_eq_true rfl, Nat.le_of_ble_eq_true rfl⟩ (Nat.le_of_ble_eq_true rfl) dX10_likeBy_44 (fun H locs hw => ?_)
      refine lv_aload_n X.1 X.2.1 dX10_likeBy_47 rfl (lv_at hl 0 rfl) ?_
      refine lv_iload_n X.1 X.2.1 dX10_likeBy_48 rfl (lv_at hl 2 rfl) ?_
      refine lv_iload_n X.1 X.2.1 dX10_likeBy_49 rfl (lv_at hl 1 rfl) ?_
      refine lv_isub X.1 X.2.1 dX10_likeBy_50 ?_
      refine lv_i2l X.1 X.2.1 dX10_likeBy_51 rfl ?_
      refine lv_aload_n X.1 X.2.1 dX10_likeBy_52 rfl (lv_at hl 0 rfl) ?_
      refine gX10_links X hw wq_7_2 dX10_likeBy_53 ?_
      refine lv_iload X.1 X.2.1 dX10_likeBy_56 (lv_at hl 5 rfl) ?_
      refine lv_isub X.1 X.2.1 dX10_likeBy_58 ?_
      replace hz_18 := ob_e hz_18
      obtain ⟨⟨r_40, t_41⟩, h_39, hz_18⟩ := hz_18
      replace hz_18 := un_e hz_18
      refine k_Vl (k := 0) (As := [.long (x2 - x1).toInt64, .int ((t_37.1 4) - y_3)]) X hl.1 hw (c_X10_power h_39) (by decide) (he_X10 g h _) rfl ⟨wq_35_22, wq_35_23, wq_36_0, wq_1_5, wq_36_1⟩ yo_X10_power rfl ⟨Nat.le_of_ble_eq_true rfl, Nat.le_of_ble_eq_true rfl⟩ (Nat.le_of_ble_eq_true rfl) dX10_likeBy_59 (fun H locs hw => ?_)
      replace hz_18 := ob_e hz_18
      obtain ⟨⟨r_44, t_45⟩, h_43, hz_18⟩ := hz_18
      replace hz_18 := un_e hz_18
      refine k_Vl (k := 0) (As := [.long r_36, .long r_40]) X hl.1 hw (c_X10_times h_43) (by decide) (he_X10 g h _) rfl ⟨wq_36_2, wq_36_3, wq_36_4, wq_1_5, wq_36_5⟩ yo_X10_times rfl ⟨Nat.le_of_ble_eq_true rfl, Nat.le_of_ble_eq_true rfl⟩ (Nat.le_of_ble_eq_true rfl) dX10_likeBy_62 (fun H locs hw => ?_)
      refine lv_lstore (lv' := [(7, .long r_44), (0, .ref (h 0)), (1, .int x1), (2, .int x2), (3, .int x3), (4, .long y_2), (6, .int y_3)]) X.1 X.2.1 dX10_likeBy_65 hl (by decide) rfl (fun ls hl => ?_)
      refine lv_aload_n X.1 X.2.1 dX10_likeBy_67 rfl (lv_at hl 1 rfl) ?_
      refine lv_aload_n X.1 X.2.1 dX10_likeBy_68 rfl (lv_at hl 1 rfl) ?_
      refine gX10_over X hw wq_35_20 dX10_likeBy_69 ?_
      replace hz_18 := ob_e hz_18
      obtain ⟨j_48, hg_53, hz_18⟩ := hz_18
      have J_54 : ∀ (H : Heap) (locs : List Loc) (ls : Array Slot), Wd g 20 h (cM g h t_45) s H locs → lv_has ls 9 [(0, .ref (h 0)), (1, .int x1), (2, .int x2), (3, .int x3), (4, .long y_2), (6, .int y_3), (7, .long r_44)] → W p l e (rW 3 71) s m AV below meth c H locs 0 0 Q (F0 m 92 ls [.int j_48, .ref (h 0)]) := by
        intro H locs ls hw hl
        replace hz_18 := gd_e hz_18
        obtain ⟨g_49, hz_18⟩ := hz_18
        refine pX10_over X hw wq_35_20 g_49 dX10_likeBy_92 (fun H locs hw => ?_)
        obtain ⟨t_50, et_50⟩ : ∃ y, y = wI t_45 5 j_48 := ⟨_, rfl⟩
        rw [← et_50] at hw
        replace hz_18 := lt_e hz_18 et_50
        refine lv_lload X.1 X.2.1 dX10_likeBy_95 (lv_at hl 4 rfl) ?_
        refine lv_lload X.1 X.2.1 dX10_likeBy_97 (lv_at hl 6 rfl) ?_
        refine lv_ladd X.1 X.2.1 dX10_likeBy_99 ?_
        refine lv_topl (fun x_51 ex_51 => ?_)
        replace hz_18 := lt_e hz_18 ex_51
        refine lv_lstore (lv' := [(4, .long x_51), (0, .ref (h 0)), (1, .int x1), (2, .int x2), (3, .int x3), (6, .int y_3), (7, .long r_44)]) X.1 X.2.1 dX10_likeBy_100 hl (by decide) rfl (fun ls hl => ?_)
        obtain ⟨x_52, ex_52⟩ : ∃ y : Int32, y = y_3 + 1 := ⟨_, rfl⟩
        replace hz_18 := lt_e hz_18 ex_52
        refine lv_iinc (v := x_52) (lv' := [(6, .int x_52), (4, .long x_51), (0, .ref (h 0)), (1, .int x1), (2, .int x2), (3, .int x3), (7, .long r_44)]) X.1 X.2.1 dX10_likeBy_102 hl (k := 5) rfl (by rw [ex_52]; rfl) (by decide) rfl (fun ls hl => ?_)
        refine lv_goto (tgt := 11) X.1 X.2.1 dX10_likeBy_105 (by decide) ?_
        exact hn_19 _ (Option.some.inj hz_18).symm _ _ _ hw (lv_sub hl [2, 3, 4, 5, 1, 0] rfl)
      refine lv_if_ne (tgt := 87) X.1 X.2.1 dX10_likeBy_72 (by decide) (fun c_47 => ?_) (fun c_47 => ?_)
      · replace hg_53 := it_n hg_53 c_47
        refine lv_iconst (v := 1) X.1 X.2.1 dX10_likeBy_87 (by decide) ?_
        refine lv_goto (tgt := 92) X.1 X.2.1 dX10_likeBy_88 (by decide) ?_
        obtain rfl := Option.some.inj hg_53
        exact J_54 _ _ _ hw (lv_sub hl [1, 2, 3, 4, 5, 6, 0] rfl)
      · replace hg_53 := it_p hg_53 c_47
        refine lv_lload X.1 X.2.1 dX10_likeBy_75 (lv_at hl 0 rfl) ?_
        refine lv_ldc2 (v := 9223372036854775807) X.1 X.2.1 X.2.2.2.1 (X.2.2.2.2.1 _ wq_35_21) dX10_likeBy_77 ?_
        refine lv_lload X.1 X.2.1 dX10_likeBy_80 (lv_at hl 5 rfl) ?_
        refine lv_lsub X.1 X.2.1 dX10_likeBy_82 ?_
        refine W.lcmp X.1 X.2.1 dX10_likeBy_83 ?_
        refine lv_if_le (tgt := 91) X.1 X.2.1 dX10_likeBy_84 (by decide) (fun c_55 => ?_) (fun c_55 => ?_)
        · replace hg_53 := it_p hg_53 c_55
          refine lv_iconst (v := 0) X.1 X.2.1 dX10_likeBy_91 (by decide) ?_
          obtain rfl := Option.some.inj hg_53
          exact J_54 _ _ _ hw (lv_sub hl [1, 2, 3, 4, 5, 6, 0] rfl)
        · replace hg_53 := it_n hg_53 c_55
          refine lv_iconst (v := 1) X.1 X.2.1 dX10_likeBy_87 (by decide) ?_
          refine lv_goto (tgt := 92) X.1 X.2.1 dX10_likeBy_88 (by decide) ?_
          obtain rfl := Option.some.inj hg_53
          exact J_54 _ _ _ hw (lv_sub hl [1, 2, 3, 4, 5, 6, 0] rfl)
def m_X10_like (t : ST) (x1 : Int32) (x2 : Int32) (x3 : Int32) : Option (Int64 × ST) := Option.bind (m_X10_in (x2.toInt64) (1 : Int64) (99 : Int64)) (fun (r_2 : Int32) => if r_2 = 0 then Option.bind (m_X10_no (-2 : Int32)) (fun (r_5 : Int64) => some (r_5, t)) else Option.bind (m_X10_in (x1.toInt64) (0 : Int64) (x2.toInt64)) (fun (r_8 : Int32) => if r_8 = 0 then Option.bind (m_X10_no (-2 : Int32)) (fun (r_11 : Int64) => some (r_11, t)) else Option.bind (m_X10_isTwo x3) (fun (r_14 : Int32) => if r_14 = 0 then Option.bind (m_X10_no (-2 : Int32)) (fun (r_17 : Int64) => some (r_17, t)) else Option.bind (m_X10_likeBy t x1 x2 x3) (fun (q_22 : Int64 × ST) => un q_22 (fun r_20 t_21 => some (r_20, t_21))))))
theorem yo_X10_like : yX10_like.cls = RX10 ∧ yX10_like.cls ≠ "java/lang/invoke/MethodHandle" ∧ yX10_like.cls ≠ "java/lang/invoke/VarHandle" ∧ (parseMethodDescriptor yX10_like.desc).map (fun d => d.parameters.length) = some 3 := by decide +kernel
set_option maxHeartbeats 4000000 in
set_option maxRecDepth 100000 in
theorem c_X10_like {l : Launch} {g : gT} {h : Nat → Nat} {t : ST} {x1 : Int32} {x2 : Int32} {x3 : Int32} {r : Int64} {t' : ST} (hm : m_X10_like t x1 x2 x3 = some (r, t')) : MetL l g yX10_like cX10_like 4 (some .long) 4 99 20 h (cM g h t) (cM g h t') [.ref (h 0), .int x1, .int x2, .int x3] r := by
  refine MetL.ofX (by decide +kernel) (Nat.le_of_ble_eq_true rfl) ?_
  intro p e s m below meth c AV Q X hret ls hw hl
  replace X : Cx g p s m AV c cX10_like RX10 4 := X
  replace hl : lv_has ls 4 [(0, .ref (h 0)), (1, .int x1), (2, .int x2), (3, .int x3)] := hl
  unfold m_X10_like at hm
  refine lv_iload_n X.1 X.2.1 dX10_like_0 rfl (lv_at hl 2 rfl) ?_
  refine lv_i2l X.1 X.2.1 dX10_like_1 rfl ?_
  refine lv_lconst (v := 1) X.1 X.2.1 dX10_like_2 (by decide) ?_
  refine lv_ldc2 (v := 99) X.1 X.2.1 X.2.2.2.1 (X.2.2.2.2.1 _ wq_35_15) dX10_like_3 ?_
  replace hm := ob_e hm
  obtain ⟨r_2, h_1, hm⟩ := hm
  refine k_Si (As := [.long x2.toInt64, .long (1 : Int64), .long (99 : Int64)]) X hl.1 hw (c_X10_in h_1) ⟨wq_7_5, wq_7_6, wq_1_5, wq_7_7⟩ yo_X10_in rfl ⟨Nat.le_of_ble_eq_true rfl, Nat.le_of_ble_eq_true rfl⟩ (Nat.le_of_ble_eq_true rfl) dX10_like_6 (fun H locs hw => ?_)
  refine lv_if_eq (tgt := 40) X.1 X.2.1 dX10_like_9 (by decide) (fun c_3 => ?_) (fun c_3 => ?_)
  · replace hm := it_p hm c_3
    refine lv_bipush (v := -2) X.1 X.2.1 dX10_like_40 (by decide) ?_
    replace hm := ob_e hm
    obtain ⟨r_5, h_4, hm⟩ := hm
    refine k_Sl (As := [.int (-2 : Int32)]) X hl.1 hw (c_X10_no h_4) ⟨wq_19_10, wq_19_11, wq_1_5, wq_19_12⟩ yo_X10_no rfl ⟨Nat.le_of_ble_eq_true rfl, Nat.le_of_ble_eq_true rfl⟩ (Nat.le_of_ble_eq_true rfl) dX10_like_42 (fun H locs hw => ?_)
    obtain ⟨rfl, rfl⟩ := Prod.mk.inj (Option.some.inj hm)
    exact hret _ _ _ _ hw dX10_like_45
  · replace hm := it_n hm c_3
    refine lv_iload_n X.1 X.2.1 dX10_like_12 rfl (lv_at hl 1 rfl) ?_
    refine lv_i2l X.1 X.2.1 dX10_like_13 rfl ?_
    refine lv_lconst (v := 0) X.1 X.2.1 dX10_like_14 (by decide) ?_
    refine lv_iload_n X.1 X.2.1 dX10_like_15 rfl (lv_at hl 2 rfl) ?_
    refine lv_i2l X.1 X.2.1 dX10_like_16 rfl ?_
    replace hm := ob_e hm
    obtain ⟨r_8, h_7, hm⟩ := hm
    refine k_Si (As := [.long x1.toInt64, .long (0 : Int64), .long x2.toInt64]) X hl.1 hw (c_X10_in h_7) ⟨wq_7_5, wq_7_6, wq_1_5, wq_7_7⟩ yo_X10_in rfl ⟨Nat.le_of_ble_eq_true rfl, Nat.le_of_ble_eq_true rfl⟩ (Nat.le_of_ble_eq_true rfl) dX10_like_17 (fun H locs hw => ?_)
    refine lv_if_eq (tgt := 40) X.1 X.2.1 dX10_like_20 (by decide) (fun c_9 => ?_) (fun c_9 => ?_)
    · replace hm := it_p hm c_9
      refine lv_bipush (v := -2) X.1 X.2.1 dX10_like_40 (by decide) ?_
      replace hm := ob_e hm
      obtain ⟨r_11, h_10, hm⟩ := hm
      refine k_Sl (As := [.int (-2 : Int32)]) X hl.1 hw (c_X10_no h_10) ⟨wq_19_10, wq_19_11, wq_1_5, wq_19_12⟩ yo_X10_no rfl ⟨Nat.le_of_ble_eq_true rfl, Nat.le_of_ble_eq_true rfl⟩ (Nat.le_of_ble_eq_true rfl) dX10_like_42 (fun H locs hw => ?_)
      obtain ⟨rfl, rfl⟩ := Prod.mk.inj (Option.some.inj hm)
      exact hret _ _ _ _ hw dX10_like_45
    · replace hm := it_n hm c_9
      refine lv_iload_n X.1 X.2.1 dX10_like_23 rfl (lv_at hl 3 rfl) ?_
      replace hm := ob_e hm
      obtain ⟨r_14, h_13, hm⟩ := hm
      refine k_Si (As := [.int x3]) X hl.1 hw (c_X10_isTwo h_13) ⟨wq_17_21, wq_17_22, wq_1_5, wq_17_23⟩ yo_X10_isTwo rfl ⟨Nat.le_of_ble_eq_true rfl, Nat.le_of_ble_eq_true rfl⟩ (Nat.le_of_ble_eq_true rfl) dX10_like_24 (fun H locs hw => ?_)
      refine lv_if_eq (tgt := 40) X.1 X.2.1 dX10_like_27 (by decide) (fun c_15 => ?_) (fun c_15 => ?_)
      · replace hm := it_p hm c_15
        refine lv_bipush (v := -2) X.1 X.2.1 dX10_like_40 (by decide) ?_
        replace hm := ob_e hm
        obtain ⟨r_17, h_16, hm⟩ := hm
        refine k_Sl (As := [.int (-2 : Int32)]) X hl.1 hw (c_X10_no h_16) ⟨wq_19_10, wq_19_11, wq_1_5, wq_19_12⟩ yo_X10_no rfl ⟨Nat.le_of_ble_eq_true rfl, Nat.le_of_ble_eq_true rfl⟩ (Nat.le_of_ble_eq_true rfl) dX10_like_42 (fun H locs hw => ?_)
        obtain ⟨rfl, rfl⟩ := Prod.mk.inj (Option.some.inj hm)
        exact hret _ _ _ _ hw dX10_like_45
      · replace hm := it_n hm c_15
        refine lv_aload_n X.1 X.2.1 dX10_like_30 rfl (lv_at hl 0 rfl) ?_
        refine lv_iload_n X.1 X.2.1 dX10_like_31 rfl (lv_at hl 1 rfl) ?_
        refine lv_iload_n X.1 X.2.1 dX10_like_32 rfl (lv_at hl 2 rfl) ?_
        refine lv_iload_n X.1 X.2.1 dX10_like_33 rfl (lv_at hl 3 rfl) ?_
        replace hm := ob_e hm
        obtain ⟨⟨r_20, t_21⟩, h_19, hm⟩ := hm
        replace hm := un_e hm
        refine k_Vl (k := 0) (As := [.int x1, .int x2, .int x3]) X hl.1 hw (c_X10_likeBy h_19) (by decide) (he_X10 g h _) rfl ⟨wq_35_16, wq_35_17, wq_35_18, wq_1_5, wq_35_19⟩ yo_X10_likeBy rfl ⟨Nat.le_of_ble_eq_true rfl, Nat.le_of_ble_eq_true rfl⟩ (Nat.le_of_ble_eq_true rfl) dX10_like_34 (fun H locs hw => ?_)
        refine lv_goto (tgt := 45) X.1 X.2.1 dX10_like_37 (by decide) ?_
        obtain ⟨rfl, rfl⟩ := Prod.mk.inj (Option.some.inj hm)
        exact hret _ _ _ _ hw dX10_like_45
def m_X10_leastWay_L2 (t : ST) (σ : Int32) : Option ((Int32) ⊕ ((Unit) ⊕ (Int32))) := (fun (y_1 : Int32) => if (t.1 4) < y_1 then some (.inr (.inl ())) else Option.bind (m_X10_setsOf t y_1) (fun (r_11 : Int32) => if r_11 ≤ 0 then lt (y_1 + 1) (fun x_13 => some (.inl x_13)) else some (.inr (.inr y_1)))) σ
def m_X10_leastWay (t : ST) : Option (Int32) := Option.bind (vLoop (m_X10_leastWay_L2 t) FUEL (0 : Int32)) (fun z => ex z (fun (_ : Unit) => some (-1 : Int32)) (fun r_15 => some r_15))
theorem yo_X10_leastWay : yX10_leastWay.cls = RX10 ∧ yX10_leastWay.cls ≠ "java/lang/invoke/MethodHandle" ∧ yX10_leastWay.cls ≠ "java/lang/invoke/VarHandle" ∧ (parseMethodDescriptor yX10_leastWay.desc).map (fun d => d.parameters.length) = some 0 := by decide +kernel
set_option maxHeartbeats 4000000 in
set_option maxRecDepth 100000 in
theorem c_X10_leastWay {l : Launch} {g : gT} {h : Nat → Nat} {t : ST} {r : Int32} (hm : m_X10_leastWay t = some r) : MetI l g yX10_leastWay cX10_leastWay 2 (some .int) 3 71 20 h (cM g h t) (cM g h t) [.ref (h 0)] r := by
  refine MetI.ofX (by decide +kernel) (Nat.le_of_ble_eq_true rfl) ?_
  intro p e s m below meth c AV Q X hret ls hw hl
  replace X : Cx g p s m AV c cX10_leastWay RX10 2 := X
  replace hl : lv_has ls 2 [(0, .ref (h 0))] := hl
  unfold m_X10_leastWay at hm
  refine lv_iconst (v := 0) X.1 X.2.1 dX10_leastWay_0 (by decide) ?_
  refine lv_istore_n (lv' := [(1, .int (0 : Int32)), (0, .ref (h 0))]) X.1 X.2.1 dX10_leastWay_1 rfl hl (by decide) rfl (fun ls hl => ?_)
  replace hm := ob_e hm
  obtain ⟨z_14, hL_7, hm⟩ := hm
  have J_6 : z_14 = .inl () → ∀ (H : Heap) (locs : List Loc) (ls : Array Slot), Wd g 20 h (cM g h t) s H locs → lv_has ls 2 [] → W p l e (rW 3 71) s m AV below meth c H locs 0 0 Q (F0 m 26 ls []) := by
    intro hj
    subst hj
    replace hm := ex_l hm
    intro H locs ls hw hl
    refine lv_iconst (v := -1) X.1 X.2.1 dX10_leastWay_26 (by decide) ?_
    obtain rfl := Option.some.inj hm
    exact hret _ _ _ _ hw dX10_leastWay_27
  refine vLoop_ind (B := (m_X10_leastWay_L2 t)) (fun σ => ∀ (H : Heap) (locs : List Loc) (ls : Array Slot), Wd g 20 h (cM g h t) s H locs → lv_has ls 2 [(0, .ref (h 0)), (1, .int σ)] → W p l e (rW 3 71) s m AV below meth c H locs 0 0 Q (F0 m 2 ls [])) (fun z' => z' = z_14) ?_ FUEL _ _ hL_7 rfl _ _ _ hw (lv_sub hl [1, 0] rfl)
  intro σ z_5 hz_2 hn_3 hx_4
  obtain ⟨y_1, rfl⟩ : ∃ q, q = σ := ⟨_, rfl⟩
  intro H locs ls hw hl
  replace hw : Wd g 20 h (cM g h t) s H locs := hw
  replace hl : lv_has ls 2 [(0, .ref (h 0)), (1, .int y_1)] := hl
  unfold m_X10_leastWay_L2 at hz_2
  refine lv_iload_n X.1 X.2.1 dX10_leastWay_2 rfl (lv_at hl 1 rfl) ?_
  refine lv_aload_n X.1 X.2.1 dX10_leastWay_3 rfl (lv_at hl 0 rfl) ?_
  refine gX10_links X hw wq_7_2 dX10_leastWay_4 ?_
  refine lv_icmp_gt (tgt := 26) X.1 X.2.1 dX10_leastWay_7 (by decide) (fun c_9 => ?_) (fun c_9 => ?_)
  · replace hz_2 := it_p hz_2 c_9
    have he_8 := hx_4 _ (Option.some.inj hz_2).symm
    exact J_6 he_8.symm _ _ _ hw (lv_sub hl [] rfl)
  · replace hz_2 := it_n hz_2 c_9
    refine lv_aload_n X.1 X.2.1 dX10_leastWay_10 rfl (lv_at hl 0 rfl) ?_
    refine lv_iload_n X.1 X.2.1 dX10_leastWay_11 rfl (lv_at hl 1 rfl) ?_
    replace hz_2 := ob_e hz_2
    obtain ⟨r_11, h_10, hz_2⟩ := hz_2
    refine k_Vi (k := 0) (As := [.int y_1]) X hl.1 hw (c_X10_setsOf h_10) (by decide) (he_X10 g h _) rfl ⟨wq_34_6, wq_34_7, wq_34_8, wq_1_5, wq_34_9⟩ yo_X10_setsOf rfl ⟨Nat.le_of_ble_eq_true rfl, Nat.le_of_ble_eq_true rfl⟩ (Nat.le_of_ble_eq_true rfl) dX10_leastWay_12 (fun H locs hw => ?_)
    refine lv_if_le (tgt := 20) X.1 X.2.1 dX10_leastWay_15 (by decide) (fun c_12 => ?_) (fun c_12 => ?_)
    · replace hz_2 := it_p hz_2 c_12
      obtain ⟨x_13, ex_13⟩ : ∃ y : Int32, y = y_1 + 1 := ⟨_, rfl⟩
      replace hz_2 := lt_e hz_2 ex_13
      refine lv_iinc (v := x_13) (lv' := [(1, .int x_13), (0, .ref (h 0))]) X.1 X.2.1 dX10_leastWay_20 hl (k := 1) rfl (by rw [ex_13]; rfl) (by decide) rfl (fun ls hl => ?_)
      refine lv_goto (tgt := 2) X.1 X.2.1 dX10_leastWay_23 (by decide) ?_
      exact hn_3 _ (Option.some.inj hz_2).symm _ _ _ hw (lv_sub hl [1, 0] rfl)
    · replace hz_2 := it_n hz_2 c_12
      refine lv_iload_n X.1 X.2.1 dX10_leastWay_18 rfl (lv_at hl 1 rfl) ?_
      have he_8 := hx_4 _ (Option.some.inj hz_2).symm
      subst he_8
      replace hm := ex_r hm
      obtain rfl := Option.some.inj hm
      exact hret _ _ _ _ hw dX10_leastWay_19
def m_X10_leastCut_L4 (t : ST) (σ : Int32 × Int32) : Option ((Int32 × Int32) ⊕ (Int32)) := (fun (q_26 : Int32 × Int32) => un q_26 (fun y_1 y_2 => if ((1 : Int32) <<< ((t.1 4) &&& 31)) ≤ y_2 then some (.inr y_1) else Option.bind (m_X10_bitsIn y_2) (fun (r_13 : Int32) => lt ((t.1 4) - r_13) (fun x_14 => Option.bind (m_X10_wanted t) (fun (r_16 : Int32) => Option.bind (m_X10_reaches t y_2 r_16) (fun (r_18 : Int32) => if r_18 = 0 then if y_1 = (-1 : Int32) then lt (y_2 + 1) (fun x_22 => some (.inl (x_14, x_22))) else if y_1 ≤ x_14 then lt (y_2 + 1) (fun x_24 => some (.inl (y_1, x_24))) else lt (y_2 + 1) (fun x_25 => some (.inl (x_14, x_25))) else lt (y_2 + 1) (fun x_20 => some (.inl (y_1, x_20))))))))) σ
def m_X10_leastCut (t : ST) : Option (Int32) := Option.bind (vLoop (m_X10_leastCut_L4 t) FUEL ((-1 : Int32), (0 : Int32))) (fun (j_3 : Int32) => some j_3)
theorem yo_X10_leastCut : yX10_leastCut.cls = RX10 ∧ yX10_leastCut.cls ≠ "java/lang/invoke/MethodHandle" ∧ yX10_leastCut.cls ≠ "java/lang/invoke/VarHandle" ∧ (parseMethodDescriptor yX10_leastCut.desc).map (fun d => d.parameters.length) = some 0 := by decide +kernel
set_option maxHeartbeats 4000000 in
set_option maxRecDepth 100000 in
theorem c_X10_leastCut {l : Launch} {g : gT} {h : Nat → Nat} {t : ST} {r : Int32} (hm : m_X10_leastCut t = some r) : MetI l g yX10_leastCut cX10_leastCut 4 (some .int) 2 48 20 h (cM g h t) (cM g h t) [.ref (h 0)] r := by
  refine MetI.ofX (by decide +kernel) (Nat.le_of_ble_eq_true rfl) ?_
  intro p e s m below meth c AV Q X hret ls hw hl
  replace X : Cx g p s m AV c cX10_leastCut RX10 4 := X
  replace hl : lv_has ls 4 [(0, .ref (h 0))] := hl
  unfold m_X10_leastCut at hm
  refine lv_iconst (v := -1) X.1 X.2.1 dX10_leastCut_0 (by decide) ?_
  refine lv_istore_n (lv' := [(1, .int (-1 : Int32)), (0, .ref (h 0))]) X.1 X.2.1 dX10_leastCut_1 rfl hl (by decide) rfl (fun ls hl => ?_)
  refine lv_iconst (v := 0) X.1 X.2.1 dX10_leastCut_2 (by decide) ?_
  refine lv_istore_n (lv' := [(2, .int (0 : Int32)), (1, .int (-1 : Int32)), (0, .ref (h 0))]) X.1 X.2.1 dX10_leastCut_3 rfl hl (by decide) rfl (fun ls hl => ?_)
  replace hm := ob_e hm
  obtain ⟨j_3, hL_9, hm⟩ := hm
  have J_8 : ∀ (H : Heap) (locs : List Loc) (ls : Array Slot), Wd g 20 h (cM g h t) s H locs → lv_has ls 4 [(1, .int j_3)] → W p l e (rW 2 48) s m AV below meth c H locs 0 0 Q (F0 m 58 ls []) := by
    intro H locs ls hw hl
    refine lv_iload_n X.1 X.2.1 dX10_leastCut_58 rfl (lv_at hl 0 rfl) ?_
    obtain rfl := Option.some.inj hm
    exact hret _ _ _ _ hw dX10_leastCut_59
  refine vLoop_ind (B := (m_X10_leastCut_L4 t)) (fun σ => ∀ (H : Heap) (locs : List Loc) (ls : Array Slot), Wd g 20 h (cM g h t) s H locs → lv_has ls 4 [(0, .ref (h 0)), (1, .int σ.1), (2, .int σ.2)] → W p l e (rW 2 48) s m AV below meth c H locs 0 0 Q (F0 m 4 ls [])) (fun z' => z' = j_3) ?_ FUEL _ _ hL_9 rfl _ _ _ hw (lv_sub hl [2, 1, 0] rfl)
  intro σ z_7 hz_4 hn_5 hx_6
  obtain ⟨y_1, y_2⟩ := σ
  intro H locs ls hw hl
  replace hw : Wd g 20 h (cM g h t) s H locs := hw
  replace hl : lv_has ls 4 [(0, .ref (h 0)), (1, .int y_1), (2, .int y_2)] := hl
  unfold m_X10_leastCut_L4 at hz_4
  replace hz_4 := un_e hz_4
  refine lv_iload_n X.1 X.2.1 dX10_leastCut_4 rfl (lv_at hl 2 rfl) ?_
  refine lv_iconst (v := 1) X.1 X.2.1 dX10_leastCut_5 (by decide) ?_
  refine lv_aload_n X.1 X.2.1 dX10_leastCut_6 rfl (lv_at hl 0 rfl) ?_
  refine gX10_links X hw wq_7_2 dX10_leastCut_7 ?_
  refine lv_ishl X.1 X.2.1 dX10_leastCut_10 ?_
  refine lv_icmp_ge (tgt := 58) X.1 X.2.1 dX10_leastCut_11 (by decide) (fun c_11 => ?_) (fun c_11 => ?_)
  · replace hz_4 := it_p hz_4 c_11
    obtain rfl := hx_6 _ (Option.some.inj hz_4).symm
    exact J_8 _ _ _ hw (lv_sub hl [1] rfl)
  · replace hz_4 := it_n hz_4 c_11
    refine lv_aload_n X.1 X.2.1 dX10_leastCut_14 rfl (lv_at hl 0 rfl) ?_
    refine gX10_links X hw wq_7_2 dX10_leastCut_15 ?_
    refine lv_iload_n X.1 X.2.1 dX10_leastCut_18 rfl (lv_at hl 2 rfl) ?_
    replace hz_4 := ob_e hz_4
    obtain ⟨r_13, h_12, hz_4⟩ := hz_4
    refine k_Si (As := [.int y_2]) X hl.1 hw (c_X10_bitsIn h_12) ⟨wq_27_23, wq_28_0, wq_1_5, wq_28_1⟩ yo_X10_bitsIn rfl ⟨Nat.le_of_ble_eq_true rfl, Nat.le_of_ble_eq_true rfl⟩ (Nat.le_of_ble_eq_true rfl) dX10_leastCut_19 (fun H locs hw => ?_)
    refine lv_isub X.1 X.2.1 dX10_leastCut_22 ?_
    refine lv_topi (fun x_14 ex_14 => ?_)
    replace hz_4 := lt_e hz_4 ex_14
    refine lv_istore_n (lv' := [(3, .int x_14), (0, .ref (h 0)), (1, .int y_1), (2, .int y_2)]) X.1 X.2.1 dX10_leastCut_23 rfl hl (by decide) rfl (fun ls hl => ?_)
    refine lv_aload_n X.1 X.2.1 dX10_leastCut_24 rfl (lv_at hl 1 rfl) ?_
    refine lv_iload_n X.1 X.2.1 dX10_leastCut_25 rfl (lv_at hl 3 rfl) ?_
    refine lv_aload_n X.1 X.2.1 dX10_leastCut_26 rfl (lv_at hl 1 rfl) ?_
    replace hz_4 := ob_e hz_4
    obtain ⟨r_16, h_15, hz_4⟩ := hz_4
    refine k_Vi (k := 0) (As := []) X hl.1 hw (c_X10_wanted h_15) (by decide) (he_X10 g h _) rfl ⟨wq_18_8, wq_18_9, wq_18_10, wq_1_5, wq_18_11⟩ yo_X10_wanted rfl ⟨Nat.le_of_ble_eq_true rfl, Nat.le_of_ble_eq_true rfl⟩ (Nat.le_of_ble_eq_true rfl) dX10_leastCut_27 (fun H locs hw => ?_)
    replace hz_4 := ob_e hz_4
    obtain ⟨r_18, h_17, hz_4⟩ := hz_4
    refine k_Vi (k := 0) (As := [.int y_2, .int r_16]) X hl.1 hw (c_X10_reaches h_17) (by decide) (he_X10 g h _) rfl ⟨wq_31_2, wq_31_3, wq_31_4, wq_1_5, wq_31_5⟩ yo_X10_reaches rfl ⟨Nat.le_of_ble_eq_true rfl, Nat.le_of_ble_eq_true rfl⟩ (Nat.le_of_ble_eq_true rfl) dX10_leastCut_30 (fun H locs hw => ?_)
    refine lv_if_ne (tgt := 50) X.1 X.2.1 dX10_leastCut_33 (by decide) (fun c_19 => ?_) (fun c_19 => ?_)
    · replace hz_4 := it_n hz_4 c_19
      refine lv_iload_n X.1 X.2.1 dX10_leastCut_50 rfl (lv_at hl 2 rfl) ?_
      refine lv_istore_n (lv' := [(1, .int y_1), (3, .int x_14), (0, .ref (h 0)), (2, .int y_2)]) X.1 X.2.1 dX10_leastCut_51 rfl hl (by decide) rfl (fun ls hl => ?_)
      obtain ⟨x_20, ex_20⟩ : ∃ y : Int32, y = y_2 + 1 := ⟨_, rfl⟩
      replace hz_4 := lt_e hz_4 ex_20
      refine lv_iinc (v := x_20) (lv' := [(2, .int x_20), (1, .int y_1), (3, .int x_14), (0, .ref (h 0))]) X.1 X.2.1 dX10_leastCut_52 hl (k := 3) rfl (by rw [ex_20]; rfl) (by decide) rfl (fun ls hl => ?_)
      refine lv_goto (tgt := 4) X.1 X.2.1 dX10_leastCut_55 (by decide) ?_
      exact hn_5 _ (Option.some.inj hz_4).symm _ _ _ hw (lv_sub hl [3, 1, 0] rfl)
    · replace hz_4 := it_p hz_4 c_19
      refine lv_iload_n X.1 X.2.1 dX10_leastCut_36 rfl (lv_at hl 2 rfl) ?_
      refine lv_iconst (v := -1) X.1 X.2.1 dX10_leastCut_37 (by decide) ?_
      refine lv_icmp_eq (tgt := 46) X.1 X.2.1 dX10_leastCut_38 (by decide) (fun c_21 => ?_) (fun c_21 => ?_)
      · replace hz_4 := it_p hz_4 c_21
        refine lv_iload_n X.1 X.2.1 dX10_leastCut_46 rfl (lv_at hl 0 rfl) ?_
        refine lv_goto (tgt := 51) X.1 X.2.1 dX10_leastCut_47 (by decide) ?_
        refine lv_istore_n (lv' := [(1, .int x_14), (3, .int x_14), (0, .ref (h 0)), (2, .int y_2)]) X.1 X.2.1 dX10_leastCut_51 rfl hl (by decide) rfl (fun ls hl => ?_)
        obtain ⟨x_22, ex_22⟩ : ∃ y : Int32, y = y_2 + 1 := ⟨_, rfl⟩
        replace hz_4 := lt_e hz_4 ex_22
        refine lv_iinc (v := x_22) (lv' := [(2, .int x_22), (1, .int x_14), (3, .int x_14), (0, .ref (h 0))]) X.1 X.2.1 dX10_leastCut_52 hl (k := 3) rfl (by rw [ex_22]; rfl) (by decide) rfl (fun ls hl => ?_)
        refine lv_goto (tgt := 4) X.1 X.2.1 dX10_leastCut_55 (by decide) ?_
        exact hn_5 _ (Option.some.inj hz_4).symm _ _ _ hw (lv_sub hl [3, 1, 0] rfl)
      · replace hz_4 := it_n hz_4 c_21
        refine lv_iload_n X.1 X.2.1 dX10_leastCut_41 rfl (lv_at hl 0 rfl) ?_
        refine lv_iload_n X.1 X.2.1 dX10_leastCut_42 rfl (lv_at hl 2 rfl) ?_
        refine lv_icmp_ge (tgt := 50) X.1 X.2.1 dX10_leastCut_43 (by decide) (fun c_23 => ?_) (fun c_23 => ?_)
        · replace hz_4 := it_p hz_4 c_23
          refine lv_iload_n X.1 X.2.1 dX10_leastCut_50 rfl (lv_at hl 2 rfl) ?_
          refine lv_istore_n (lv' := [(1, .int y_1), (3, .int x_14), (0, .ref (h 0)), (2, .int y_2)]) X.1 X.2.1 dX10_leastCut_51 rfl hl (by decide) rfl (fun ls hl => ?_)
          obtain ⟨x_24, ex_24⟩ : ∃ y : Int32, y = y_2 + 1 := ⟨_, rfl⟩
          replace hz_4 := lt_e hz_4 ex_24
          refine lv_iinc (v := x_24) (lv' := [(2, .int x_24), (1, .int y_1), (3, .int x_14), (0, .ref (h 0))]) X.1 X.2.1 dX10_leastCut_52 hl (k := 3) rfl (by rw [ex_24]; rfl) (by decide) rfl (fun ls hl => ?_)
          refine lv_goto (tgt := 4) X.1 X.2.1 dX10_leastCut_55 (by decide) ?_
          exact hn_5 _ (Option.some.inj hz_4).symm _ _ _ hw (lv_sub hl [3, 1, 0] rfl)
        · replace hz_4 := it_n hz_4 c_23
          refine lv_iload_n X.1 X.2.1 dX10_leastCut_46 rfl (lv_at hl 0 rfl) ?_
          refine lv_goto (tgt := 51) X.1 X.2.1 dX10_leastCut_47 (by decide) ?_
          refine lv_istore_n (lv' := [(1, .int x_14), (3, .int x_14), (0, .ref (h 0)), (2, .int y_2)]) X.1 X.2.1 dX10_leastCut_51 rfl hl (by decide) rfl (fun ls hl => ?_)
          obtain ⟨x_25, ex_25⟩ : ∃ y : Int32, y = y_2 + 1 := ⟨_, rfl⟩
          replace hz_4 := lt_e hz_4 ex_25
          refine lv_iinc (v := x_25) (lv' := [(2, .int x_25), (1, .int x_14), (3, .int x_14), (0, .ref (h 0))]) X.1 X.2.1 dX10_leastCut_52 hl (k := 3) rfl (by rw [ex_25]; rfl) (by decide) rfl (fun ls hl => ?_)
          refine lv_goto (tgt := 4) X.1 X.2.1 dX10_leastCut_55 (by decide) ?_
          exact hn_5 _ (Option.some.inj hz_4).symm _ _ _ hw (lv_sub hl [3, 1, 0] rfl)
def m_X10_least (t : ST) (x1 : Int32) : Option (Int32) := Option.bind (m_X10_isTwo x1) (fun (r_2 : Int32) => if r_2 = 0 then some (-2 : Int32) else if x1 = 0 then Option.bind (m_X10_leastCut t) (fun (r_8 : Int32) => some r_8) else Option.bind (m_X10_leastWay t) (fun (r_6 : Int32) => some r_6))
theorem yo_X10_least : yX10_least.cls = RX10 ∧ yX10_least.cls ≠ "java/lang/invoke/MethodHandle" ∧ yX10_least.cls ≠ "java/lang/invoke/VarHandle" ∧ (parseMethodDescriptor yX10_least.desc).map (fun d => d.parameters.length) = some 1 := by decide +kernel
set_option maxHeartbeats 4000000 in
set_option maxRecDepth 100000 in
theorem c_X10_least {l : Launch} {g : gT} {h : Nat → Nat} {t : ST} {x1 : Int32} {r : Int32} (hm : m_X10_least t x1 = some r) : MetI l g yX10_least cX10_least 2 (some .int) 4 92 20 h (cM g h t) (cM g h t) [.ref (h 0), .int x1] r := by
  refine MetI.ofX (by decide +kernel) (Nat.le_of_ble_eq_true rfl) ?_
  intro p e s m below meth c AV Q X hret ls hw hl
  replace X : Cx g p s m AV c cX10_least RX10 2 := X
  replace hl : lv_has ls 2 [(0, .ref (h 0)), (1, .int x1)] := hl
  unfold m_X10_least at hm
  refine lv_iload_n X.1 X.2.1 dX10_least_0 rfl (lv_at hl 1 rfl) ?_
  replace hm := ob_e hm
  obtain ⟨r_2, h_1, hm⟩ := hm
  refine k_Si (As := [.int x1]) X hl.1 hw (c_X10_isTwo h_1) ⟨wq_17_21, wq_17_22, wq_1_5, wq_17_23⟩ yo_X10_isTwo rfl ⟨Nat.le_of_ble_eq_true rfl, Nat.le_of_ble_eq_true rfl⟩ (Nat.le_of_ble_eq_true rfl) dX10_least_1 (fun H locs hw => ?_)
  refine lv_if_ne (tgt := 12) X.1 X.2.1 dX10_least_4 (by decide) (fun c_3 => ?_) (fun c_3 => ?_)
  · replace hm := it_n hm c_3
    refine lv_iload_n X.1 X.2.1 dX10_least_12 rfl (lv_at hl 1 rfl) ?_
    refine lv_if_ne (tgt := 23) X.1 X.2.1 dX10_least_13 (by decide) (fun c_4 => ?_) (fun c_4 => ?_)
    · replace hm := it_n hm c_4
      refine lv_aload_n X.1 X.2.1 dX10_least_23 rfl (lv_at hl 0 rfl) ?_
      replace hm := ob_e hm
      obtain ⟨r_6, h_5, hm⟩ := hm
      refine k_Vi (k := 0) (As := []) X hl.1 hw (c_X10_leastWay h_5) (by decide) (he_X10 g h _) rfl ⟨wq_37_6, wq_37_7, wq_37_8, wq_1_5, wq_37_9⟩ yo_X10_leastWay rfl ⟨Nat.le_of_ble_eq_true rfl, Nat.le_of_ble_eq_true rfl⟩ (Nat.le_of_ble_eq_true rfl) dX10_least_24 (fun H locs hw => ?_)
      obtain rfl := Option.some.inj hm
      exact hret _ _ _ _ hw dX10_least_27
    · replace hm := it_p hm c_4
      refine lv_aload_n X.1 X.2.1 dX10_least_16 rfl (lv_at hl 0 rfl) ?_
      replace hm := ob_e hm
      obtain ⟨r_8, h_7, hm⟩ := hm
      refine k_Vi (k := 0) (As := []) X hl.1 hw (c_X10_leastCut h_7) (by decide) (he_X10 g h _) rfl ⟨wq_37_2, wq_37_3, wq_37_4, wq_1_5, wq_37_5⟩ yo_X10_leastCut rfl ⟨Nat.le_of_ble_eq_true rfl, Nat.le_of_ble_eq_true rfl⟩ (Nat.le_of_ble_eq_true rfl) dX10_least_17 (fun H locs hw => ?_)
      refine lv_goto (tgt := 27) X.1 X.2.1 dX10_least_20 (by decide) ?_
      obtain rfl := Option.some.inj hm
      exact hret _ _ _ _ hw dX10_least_27
  · replace hm := it_p hm c_3
    refine lv_bipush (v := -2) X.1 X.2.1 dX10_least_7 (by decide) ?_
    refine lv_goto (tgt := 27) X.1 X.2.1 dX10_least_9 (by decide) ?_
    obtain rfl := Option.some.inj hm
    exact hret _ _ _ _ hw dX10_least_27
def m_X10_worthAbove (t : ST) (x1 : Int32) : Option (Int64 × ST) := Option.bind (m_X10_asItIs t) (fun (t_2 : ST) => gd (¬ (x1 < 0 ∨ 10 ≤ x1.toNatClampNeg)) (lt (wA t_2 7 x1.toNatClampNeg (1 : Int32)) (fun t_4 => gd (¬ (x1 < 0 ∨ 10 ≤ x1.toNatClampNeg)) (lt (wA t_4 6 x1.toNatClampNeg (1 : Int32)) (fun t_6 => Option.bind (m_X10_wanted t_6) (fun (r_8 : Int32) => Option.bind (m_X10_above t_6 (t_6.1 2) r_8) (fun (r_10 : Int64) => gd (¬ (x1 < 0 ∨ 10 ≤ x1.toNatClampNeg)) (lt (wA t_6 6 x1.toNatClampNeg (0 : Int32)) (fun t_12 => Option.bind (m_X10_wanted t_12) (fun (r_14 : Int32) => Option.bind (m_X10_above t_12 (t_12.1 2) r_14) (fun (r_16 : Int64) => some ((r_10 - r_16), t_12))))))))))))
theorem yo_X10_worthAbove : yX10_worthAbove.cls = RX10 ∧ yX10_worthAbove.cls ≠ "java/lang/invoke/MethodHandle" ∧ yX10_worthAbove.cls ≠ "java/lang/invoke/VarHandle" ∧ (parseMethodDescriptor yX10_worthAbove.desc).map (fun d => d.parameters.length) = some 1 := by decide +kernel
set_option maxHeartbeats 4000000 in
set_option maxRecDepth 100000 in
theorem c_X10_worthAbove {l : Launch} {g : gT} {h : Nat → Nat} {t : ST} {x1 : Int32} {r : Int64} {t' : ST} (hm : m_X10_worthAbove t x1 = some (r, t')) : MetL l g yX10_worthAbove cX10_worthAbove 4 (some .long) 2 53 20 h (cM g h t) (cM g h t') [.ref (h 0), .int x1] r := by
  refine MetL.ofX (by decide +kernel) (Nat.le_of_ble_eq_true rfl) ?_
  intro p e s m below meth c AV Q X hret ls hw hl
  replace X : Cx g p s m AV c cX10_worthAbove RX10 4 := X
  replace hl : lv_has ls 4 [(0, .ref (h 0)), (1, .int x1)] := hl
  unfold m_X10_worthAbove at hm
  refine lv_aload_n X.1 X.2.1 dX10_worthAbove_0 rfl (lv_at hl 0 rfl) ?_
  replace hm := ob_e hm
  obtain ⟨t_2, h_1, hm⟩ := hm
  refine k_Vv (k := 0) (As := []) X hl.1 hw (c_X10_asItIs h_1) (by decide) (he_X10 g h _) rfl ⟨wq_18_4, wq_18_5, wq_18_6, wq_1_5, wq_18_7⟩ yo_X10_asItIs rfl ⟨Nat.le_of_ble_eq_true rfl, Nat.le_of_ble_eq_true rfl⟩ (Nat.le_of_ble_eq_true rfl) dX10_worthAbove_1 (fun H locs hw => ?_)
  refine lv_aload_n X.1 X.2.1 dX10_worthAbove_4 rfl (lv_at hl 0 rfl) ?_
  refine gX10_bottoms X hw wq_5_18 dX10_worthAbove_5 ?_
  refine lv_iload_n X.1 X.2.1 dX10_worthAbove_8 rfl (lv_at hl 1 rfl) ?_
  refine lv_iconst (v := 1) X.1 X.2.1 dX10_worthAbove_9 (by decide) ?_
  replace hm := gd_e hm
  obtain ⟨g_3, hm⟩ := hm
  refine sMA7 X hw g_3 dX10_worthAbove_10 (fun H locs hw => ?_)
  obtain ⟨t_4, et_4⟩ : ∃ y, y = wA t_2 7 x1.toNatClampNeg (1 : Int32) := ⟨_, rfl⟩
  rw [← et_4] at hw
  replace hm := lt_e hm et_4
  refine lv_aload_n X.1 X.2.1 dX10_worthAbove_11 rfl (lv_at hl 0 rfl) ?_
  refine gX10_tops X hw wq_5_17 dX10_worthAbove_12 ?_
  refine lv_iload_n X.1 X.2.1 dX10_worthAbove_15 rfl (lv_at hl 1 rfl) ?_
  refine lv_iconst (v := 1) X.1 X.2.1 dX10_worthAbove_16 (by decide) ?_
  replace hm := gd_e hm
  obtain ⟨g_5, hm⟩ := hm
  refine sMA6 X hw g_5 dX10_worthAbove_17 (fun H locs hw => ?_)
  obtain ⟨t_6, et_6⟩ : ∃ y, y = wA t_4 6 x1.toNatClampNeg (1 : Int32) := ⟨_, rfl⟩
  rw [← et_6] at hw
  replace hm := lt_e hm et_6
  refine lv_aload_n X.1 X.2.1 dX10_worthAbove_18 rfl (lv_at hl 0 rfl) ?_
  refine lv_aload_n X.1 X.2.1 dX10_worthAbove_19 rfl (lv_at hl 0 rfl) ?_
  refine gX10_source X hw wq_7_4 dX10_worthAbove_20 ?_
  refine lv_aload_n X.1 X.2.1 dX10_worthAbove_23 rfl (lv_at hl 0 rfl) ?_
  replace hm := ob_e hm
  obtain ⟨r_8, h_7, hm⟩ := hm
  refine k_Vi (k := 0) (As := []) X hl.1 hw (c_X10_wanted h_7) (by decide) (he_X10 g h _) rfl ⟨wq_18_8, wq_18_9, wq_18_10, wq_1_5, wq_18_11⟩ yo_X10_wanted rfl ⟨Nat.le_of_ble_eq_true rfl, Nat.le_of_ble_eq_true rfl⟩ (Nat.le_of_ble_eq_true rfl) dX10_worthAbove_24 (fun H locs hw => ?_)
  replace hm := ob_e hm
  obtain ⟨r_10, h_9, hm⟩ := hm
  refine k_Vl (k := 0) (As := [.int (t_6.1 2), .int r_8]) X hl.1 hw (c_X10_above h_9) (by decide) (he_X10 g h _) rfl ⟨wq_18_12, wq_18_13, wq_18_14, wq_1_5, wq_18_15⟩ yo_X10_above rfl ⟨Nat.le_of_ble_eq_true rfl, Nat.le_of_ble_eq_true rfl⟩ (Nat.le_of_ble_eq_true rfl) dX10_worthAbove_27 (fun H locs hw => ?_)
  refine lv_lstore_n (lv' := [(2, .long r_10), (0, .ref (h 0)), (1, .int x1)]) X.1 X.2.1 dX10_worthAbove_30 rfl hl (by decide) rfl (fun ls hl => ?_)
  refine lv_aload_n X.1 X.2.1 dX10_worthAbove_31 rfl (lv_at hl 1 rfl) ?_
  refine gX10_tops X hw wq_5_17 dX10_worthAbove_32 ?_
  refine lv_iload_n X.1 X.2.1 dX10_worthAbove_35 rfl (lv_at hl 2 rfl) ?_
  refine lv_iconst (v := 0) X.1 X.2.1 dX10_worthAbove_36 (by decide) ?_
  replace hm := gd_e hm
  obtain ⟨g_11, hm⟩ := hm
  refine sMA6 X hw g_11 dX10_worthAbove_37 (fun H locs hw => ?_)
  obtain ⟨t_12, et_12⟩ : ∃ y, y = wA t_6 6 x1.toNatClampNeg (0 : Int32) := ⟨_, rfl⟩
  rw [← et_12] at hw
  replace hm := lt_e hm et_12
  refine lv_lload_n X.1 X.2.1 dX10_worthAbove_38 rfl (lv_at hl 0 rfl) ?_
  refine lv_aload_n X.1 X.2.1 dX10_worthAbove_39 rfl (lv_at hl 1 rfl) ?_
  refine lv_aload_n X.1 X.2.1 dX10_worthAbove_40 rfl (lv_at hl 1 rfl) ?_
  refine gX10_source X hw wq_7_4 dX10_worthAbove_41 ?_
  refine lv_aload_n X.1 X.2.1 dX10_worthAbove_44 rfl (lv_at hl 1 rfl) ?_
  replace hm := ob_e hm
  obtain ⟨r_14, h_13, hm⟩ := hm
  refine k_Vi (k := 0) (As := []) X hl.1 hw (c_X10_wanted h_13) (by decide) (he_X10 g h _) rfl ⟨wq_18_8, wq_18_9, wq_18_10, wq_1_5, wq_18_11⟩ yo_X10_wanted rfl ⟨Nat.le_of_ble_eq_true rfl, Nat.le_of_ble_eq_true rfl⟩ (Nat.le_of_ble_eq_true rfl) dX10_worthAbove_45 (fun H locs hw => ?_)
  replace hm := ob_e hm
  obtain ⟨r_16, h_15, hm⟩ := hm
  refine k_Vl (k := 0) (As := [.int (t_12.1 2), .int r_14]) X hl.1 hw (c_X10_above h_15) (by decide) (he_X10 g h _) rfl ⟨wq_18_12, wq_18_13, wq_18_14, wq_1_5, wq_18_15⟩ yo_X10_above rfl ⟨Nat.le_of_ble_eq_true rfl, Nat.le_of_ble_eq_true rfl⟩ (Nat.le_of_ble_eq_true rfl) dX10_worthAbove_48 (fun H locs hw => ?_)
  refine lv_lsub X.1 X.2.1 dX10_worthAbove_51 ?_
  obtain ⟨rfl, rfl⟩ := Prod.mk.inj (Option.some.inj hm)
  exact hret _ _ _ _ hw dX10_worthAbove_52
def m_X10_worthBy (t : ST) (x1 : Int32) (x2 : Int32) : Option (Int64 × ST) := Option.bind (m_X10_worthAbove t x1) (fun (q_4 : Int64 × ST) => un q_4 (fun r_2 t_3 => Option.bind (m_X10_below t_3) (fun (r_6 : Int64) => Option.bind (m_X10_part r_2 r_6 x2) (fun (r_8 : Int64) => some (r_8, t_3)))))
theorem yo_X10_worthBy : yX10_worthBy.cls = RX10 ∧ yX10_worthBy.cls ≠ "java/lang/invoke/MethodHandle" ∧ yX10_worthBy.cls ≠ "java/lang/invoke/VarHandle" ∧ (parseMethodDescriptor yX10_worthBy.desc).map (fun d => d.parameters.length) = some 2 := by decide +kernel
set_option maxHeartbeats 4000000 in
set_option maxRecDepth 100000 in
theorem c_X10_worthBy {l : Launch} {g : gT} {h : Nat → Nat} {t : ST} {x1 : Int32} {x2 : Int32} {r : Int64} {t' : ST} (hm : m_X10_worthBy t x1 x2 = some (r, t')) : MetL l g yX10_worthBy cX10_worthBy 5 (some .long) 3 76 20 h (cM g h t) (cM g h t') [.ref (h 0), .int x1, .int x2] r := by
  refine MetL.ofX (by decide +kernel) (Nat.le_of_ble_eq_true rfl) ?_
  intro p e s m below meth c AV Q X hret ls hw hl
  replace X : Cx g p s m AV c cX10_worthBy RX10 5 := X
  replace hl : lv_has ls 5 [(0, .ref (h 0)), (1, .int x1), (2, .int x2)] := hl
  unfold m_X10_worthBy at hm
  refine lv_aload_n X.1 X.2.1 dX10_worthBy_0 rfl (lv_at hl 0 rfl) ?_
  refine lv_iload_n X.1 X.2.1 dX10_worthBy_1 rfl (lv_at hl 1 rfl) ?_
  replace hm := ob_e hm
  obtain ⟨⟨r_2, t_3⟩, h_1, hm⟩ := hm
  replace hm := un_e hm
  refine k_Vl (k := 0) (As := [.int x1]) X hl.1 hw (c_X10_worthAbove h_1) (by decide) (he_X10 g h _) rfl ⟨wq_38_3, wq_38_4, wq_38_5, wq_1_5, wq_38_6⟩ yo_X10_worthAbove rfl ⟨Nat.le_of_ble_eq_true rfl, Nat.le_of_ble_eq_true rfl⟩ (Nat.le_of_ble_eq_true rfl) dX10_worthBy_2 (fun H locs hw => ?_)
  refine lv_lstore_n (lv' := [(3, .long r_2), (0, .ref (h 0)), (1, .int x1), (2, .int x2)]) X.1 X.2.1 dX10_worthBy_5 rfl hl (by decide) rfl (fun ls hl => ?_)
  refine lv_lload_n X.1 X.2.1 dX10_worthBy_6 rfl (lv_at hl 0 rfl) ?_
  refine lv_aload_n X.1 X.2.1 dX10_worthBy_7 rfl (lv_at hl 1 rfl) ?_
  replace hm := ob_e hm
  obtain ⟨r_6, h_5, hm⟩ := hm
  refine k_Vl (k := 0) (As := []) X hl.1 hw (c_X10_below h_5) (by decide) (he_X10 g h _) rfl ⟨wq_19_0, wq_19_1, wq_19_2, wq_1_5, wq_19_3⟩ yo_X10_below rfl ⟨Nat.le_of_ble_eq_true rfl, Nat.le_of_ble_eq_true rfl⟩ (Nat.le_of_ble_eq_true rfl) dX10_worthBy_8 (fun H locs hw => ?_)
  refine lv_iload_n X.1 X.2.1 dX10_worthBy_11 rfl (lv_at hl 3 rfl) ?_
  replace hm := ob_e hm
  obtain ⟨r_8, h_7, hm⟩ := hm
  refine k_Sl (As := [.long r_2, .long r_6, .int x2]) X hl.1 hw (c_X10_part h_7) ⟨wq_19_4, wq_19_5, wq_1_5, wq_19_6⟩ yo_X10_part rfl ⟨Nat.le_of_ble_eq_true rfl, Nat.le_of_ble_eq_true rfl⟩ (Nat.le_of_ble_eq_true rfl) dX10_worthBy_12 (fun H locs hw => ?_)
  obtain ⟨rfl, rfl⟩ := Prod.mk.inj (Option.some.inj hm)
  exact hret _ _ _ _ hw dX10_worthBy_15
def m_X10_worth (t : ST) (x1 : Int32) (x2 : Int32) : Option (Int64 × ST) := Option.bind (m_X10_isLink t x1) (fun (r_2 : Int32) => if r_2 = 0 then Option.bind (m_X10_no (-2 : Int32)) (fun (r_5 : Int64) => some (r_5, t)) else Option.bind (m_X10_isTwo x2) (fun (r_8 : Int32) => if r_8 = 0 then Option.bind (m_X10_no (-2 : Int32)) (fun (r_11 : Int64) => some (r_11, t)) else Option.bind (m_X10_worthBy t x1 x2) (fun (q_16 : Int64 × ST) => un q_16 (fun r_14 t_15 => some (r_14, t_15)))))
theorem yo_X10_worth : yX10_worth.cls = RX10 ∧ yX10_worth.cls ≠ "java/lang/invoke/MethodHandle" ∧ yX10_worth.cls ≠ "java/lang/invoke/VarHandle" ∧ (parseMethodDescriptor yX10_worth.desc).map (fun d => d.parameters.length) = some 2 := by decide +kernel
set_option maxHeartbeats 4000000 in
set_option maxRecDepth 100000 in
theorem c_X10_worth {l : Launch} {g : gT} {h : Nat → Nat} {t : ST} {x1 : Int32} {x2 : Int32} {r : Int64} {t' : ST} (hm : m_X10_worth t x1 x2 = some (r, t')) : MetL l g yX10_worth cX10_worth 3 (some .long) 4 100 20 h (cM g h t) (cM g h t') [.ref (h 0), .int x1, .int x2] r := by
  refine MetL.ofX (by decide +kernel) (Nat.le_of_ble_eq_true rfl) ?_
  intro p e s m below meth c AV Q X hret ls hw hl
  replace X : Cx g p s m AV c cX10_worth RX10 3 := X
  replace hl : lv_has ls 3 [(0, .ref (h 0)), (1, .int x1), (2, .int x2)] := hl
  unfold m_X10_worth at hm
  refine lv_aload_n X.1 X.2.1 dX10_worth_0 rfl (lv_at hl 0 rfl) ?_
  refine lv_iload_n X.1 X.2.1 dX10_worth_1 rfl (lv_at hl 1 rfl) ?_
  replace hm := ob_e hm
  obtain ⟨r_2, h_1, hm⟩ := hm
  refine k_Vi (k := 0) (As := [.int x1]) X hl.1 hw (c_X10_isLink h_1) (by decide) (he_X10 g h _) rfl ⟨wq_12_0, wq_12_1, wq_12_2, wq_1_5, wq_12_3⟩ yo_X10_isLink rfl ⟨Nat.le_of_ble_eq_true rfl, Nat.le_of_ble_eq_true rfl⟩ (Nat.le_of_ble_eq_true rfl) dX10_worth_2 (fun H locs hw => ?_)
  refine lv_if_eq (tgt := 24) X.1 X.2.1 dX10_worth_5 (by decide) (fun c_3 => ?_) (fun c_3 => ?_)
  · replace hm := it_p hm c_3
    refine lv_bipush (v := -2) X.1 X.2.1 dX10_worth_24 (by decide) ?_
    replace hm := ob_e hm
    obtain ⟨r_5, h_4, hm⟩ := hm
    refine k_Sl (As := [.int (-2 : Int32)]) X hl.1 hw (c_X10_no h_4) ⟨wq_19_10, wq_19_11, wq_1_5, wq_19_12⟩ yo_X10_no rfl ⟨Nat.le_of_ble_eq_true rfl, Nat.le_of_ble_eq_true rfl⟩ (Nat.le_of_ble_eq_true rfl) dX10_worth_26 (fun H locs hw => ?_)
    obtain ⟨rfl, rfl⟩ := Prod.mk.inj (Option.some.inj hm)
    exact hret _ _ _ _ hw dX10_worth_29
  · replace hm := it_n hm c_3
    refine lv_iload_n X.1 X.2.1 dX10_worth_8 rfl (lv_at hl 2 rfl) ?_
    replace hm := ob_e hm
    obtain ⟨r_8, h_7, hm⟩ := hm
    refine k_Si (As := [.int x2]) X hl.1 hw (c_X10_isTwo h_7) ⟨wq_17_21, wq_17_22, wq_1_5, wq_17_23⟩ yo_X10_isTwo rfl ⟨Nat.le_of_ble_eq_true rfl, Nat.le_of_ble_eq_true rfl⟩ (Nat.le_of_ble_eq_true rfl) dX10_worth_9 (fun H locs hw => ?_)
    refine lv_if_eq (tgt := 24) X.1 X.2.1 dX10_worth_12 (by decide) (fun c_9 => ?_) (fun c_9 => ?_)
    · replace hm := it_p hm c_9
      refine lv_bipush (v := -2) X.1 X.2.1 dX10_worth_24 (by decide) ?_
      replace hm := ob_e hm
      obtain ⟨r_11, h_10, hm⟩ := hm
      refine k_Sl (As := [.int (-2 : Int32)]) X hl.1 hw (c_X10_no h_10) ⟨wq_19_10, wq_19_11, wq_1_5, wq_19_12⟩ yo_X10_no rfl ⟨Nat.le_of_ble_eq_true rfl, Nat.le_of_ble_eq_true rfl⟩ (Nat.le_of_ble_eq_true rfl) dX10_worth_26 (fun H locs hw => ?_)
      obtain ⟨rfl, rfl⟩ := Prod.mk.inj (Option.some.inj hm)
      exact hret _ _ _ _ hw dX10_worth_29
    · replace hm := it_n hm c_9
      refine lv_aload_n X.1 X.2.1 dX10_worth_15 rfl (lv_at hl 0 rfl) ?_
      refine lv_iload_n X.1 X.2.1 dX10_worth_16 rfl (lv_at hl 1 rfl) ?_
      refine lv_iload_n X.1 X.2.1 dX10_worth_17 rfl (lv_at hl 2 rfl) ?_
      replace hm := ob_e hm
      obtain ⟨⟨r_14, t_15⟩, h_13, hm⟩ := hm
      replace hm := un_e hm
      refine k_Vl (k := 0) (As := [.int x1, .int x2]) X hl.1 hw (c_X10_worthBy h_13) (by decide) (he_X10 g h _) rfl ⟨wq_37_23, wq_38_0, wq_38_1, wq_1_5, wq_38_2⟩ yo_X10_worthBy rfl ⟨Nat.le_of_ble_eq_true rfl, Nat.le_of_ble_eq_true rfl⟩ (Nat.le_of_ble_eq_true rfl) dX10_worth_18 (fun H locs hw => ?_)
      refine lv_goto (tgt := 29) X.1 X.2.1 dX10_worth_21 (by decide) ?_
      obtain ⟨rfl, rfl⟩ := Prod.mk.inj (Option.some.inj hm)
      exact hret _ _ _ _ hw dX10_worth_29
def m_X10_worthiestNow_L10 (σ : Int32 × Int64 × Int64 × Int32 × ST) : Option ((Int32 × Int64 × Int64 × Int32 × ST) ⊕ (Int32 × ST)) := (fun (q_46 : Int32 × Int64 × Int64 × Int32 × ST) => un q_46 (fun y_1 q_46 => un q_46 (fun y_2 q_46 => un q_46 (fun y_3 q_46 => un q_46 (fun y_4 t_5 => if (t_5.1 4) ≤ y_4 then some (.inr (y_1, t_5)) else Option.bind (m_X10_worthAbove t_5 y_4) (fun (q_21 : Int64 × ST) => un q_21 (fun r_19 t_20 => Option.bind (m_X10_below t_20) (fun (r_23 : Int64) => Option.bind (m_X10_divisor r_23 y_3) (fun (r_25 : Int64) => gd (¬ (y_4 < 0 ∨ 10 ≤ y_4.toNatClampNeg)) (Option.bind (if (t_20.2.2.1 5 y_4.toNatClampNeg) = 0 then if y_1 = (-1 : Int32) then some (1 : Int32) else gd (¬ r_25 = 0) (gd (¬ r_25 = 0) (if (lg_cmp (r_19 * (y_3 / r_25)) (y_2 * (r_23 / r_25))) ≤ 0 then some (0 : Int32) else some (1 : Int32))) else some (0 : Int32)) (fun (j_28 : Int32) => Option.bind (if j_28 = 0 then some y_1 else some y_4) (fun (j_30 : Int32) => Option.bind (if j_28 = 0 then some y_2 else some r_19) (fun (j_32 : Int64) => if j_28 = 0 then lt (y_4 + 1) (fun x_34 => some (.inl (j_30, j_32, y_3, x_34, t_20))) else lt (y_4 + 1) (fun x_35 => some (.inl (j_30, j_32, r_23, x_35, t_20)))))))))))))))) σ
def m_X10_worthiestNow (t : ST) : Option (Int32 × ST) := Option.bind (vLoop (m_X10_worthiestNow_L10) FUEL ((-1 : Int32), (0 : Int64), (1 : Int64), (0 : Int32), t)) (fun (q_47 : Int32 × ST) => un q_47 (fun j_6 t_7 => some (j_6, t_7)))
theorem yo_X10_worthiestNow : yX10_worthiestNow.cls = RX10 ∧ yX10_worthiestNow.cls ≠ "java/lang/invoke/MethodHandle" ∧ yX10_worthiestNow.cls ≠ "java/lang/invoke/VarHandle" ∧ (parseMethodDescriptor yX10_worthiestNow.desc).map (fun d => d.parameters.length) = some 0 := by decide +kernel
set_option maxHeartbeats 4000000 in
set_option maxRecDepth 100000 in
theorem c_X10_worthiestNow {l : Launch} {g : gT} {h : Nat → Nat} {t : ST} {r : Int32} {t' : ST} (hm : m_X10_worthiestNow t = some (r, t')) : MetI l g yX10_worthiestNow cX10_worthiestNow 14 (some .int) 3 76 20 h (cM g h t) (cM g h t') [.ref (h 0)] r := by
  refine MetI.ofX (by decide +kernel) (Nat.le_of_ble_eq_true rfl) ?_
  intro p e s m below meth c AV Q X hret ls hw hl
  replace X : Cx g p s m AV c cX10_worthiestNow RX10 14 := X
  replace hl : lv_has ls 14 [(0, .ref (h 0))] := hl
  unfold m_X10_worthiestNow at hm
  refine lv_iconst (v := -1) X.1 X.2.1 dX10_worthiestNow_0 (by decide) ?_
  refine lv_istore_n (lv' := [(1, .int (-1 : Int32)), (0, .ref (h 0))]) X.1 X.2.1 dX10_worthiestNow_1 rfl hl (by decide) rfl (fun ls hl => ?_)
  refine lv_lconst (v := 0) X.1 X.2.1 dX10_worthiestNow_2 (by decide) ?_
  refine lv_lstore_n (lv' := [(2, .long (0 : Int64)), (1, .int (-1 : Int32)), (0, .ref (h 0))]) X.1 X.2.1 dX10_worthiestNow_3 rfl hl (by decide) rfl (fun ls hl => ?_)
  refine lv_lconst (v := 1) X.1 X.2.1 dX10_worthiestNow_4 (by decide) ?_
  refine lv_lstore (lv' := [(4, .long (1 : Int64)), (2, .long (0 : Int64)), (1, .int (-1 : Int32)), (0, .ref (h 0))]) X.1 X.2.1 dX10_worthiestNow_5 hl (by decide) rfl (fun ls hl => ?_)
  refine lv_iconst (v := 0) X.1 X.2.1 dX10_worthiestNow_7 (by decide) ?_
  refine lv_istore (lv' := [(6, .int (0 : Int32)), (4, .long (1 : Int64)), (2, .long (0 : Int64)), (1, .int (-1 : Int32)), (0, .ref (h 0))]) X.1 X.2.1 dX10_worthiestNow_8 hl (by decide) rfl (fun ls hl => ?_)
  replace hm := ob_e hm
  obtain ⟨⟨j_6, t_7⟩, hL_14, hm⟩ := hm
  replace hm := un_e hm
  have J_13 : ∀ (H : Heap) (locs : List Loc) (ls : Array Slot), Wd g 20 h (cM g h t_7) s H locs → lv_has ls 14 [(1, .int j_6)] → W p l e (rW 3 76) s m AV below meth c H locs 0 0 Q (F0 m 127 ls []) := by
    intro H locs ls hw hl
    refine lv_iload_n X.1 X.2.1 dX10_worthiestNow_127 rfl (lv_at hl 0 rfl) ?_
    obtain ⟨rfl, rfl⟩ := Prod.mk.inj (Option.some.inj hm)
    exact hret _ _ _ _ hw dX10_worthiestNow_128
  refine vLoop_ind (B := (m_X10_worthiestNow_L10)) (fun σ => ∀ (H : Heap) (locs : List Loc) (ls : Array Slot), Wd g 20 h (cM g h σ.2.2.2.2) s H locs → lv_has ls 14 [(0, .ref (h 0)), (1, .int σ.1), (2, .long σ.2.1), (4, .long σ.2.2.1), (6, .int σ.2.2.2.1)] → W p l e (rW 3 76) s m AV below meth c H locs 0 0 Q (F0 m 10 ls [])) (fun z' => z' = (j_6, t_7)) ?_ FUEL _ _ hL_14 rfl _ _ _ hw (lv_sub hl [4, 3, 2, 1, 0] rfl)
  intro σ z_12 hz_9 hn_10 hx_11
  obtain ⟨y_1, y_2, y_3, y_4, t_5⟩ := σ
  intro H locs ls hw hl
  replace hw : Wd g 20 h (cM g h t_5) s H locs := hw
  replace hl : lv_has ls 14 [(0, .ref (h 0)), (1, .int y_1), (2, .long y_2), (4, .long y_3), (6, .int y_4)] := hl
  unfold m_X10_worthiestNow_L10 at hz_9
  replace hz_9 := un_e hz_9
  replace hz_9 := un_e hz_9
  replace hz_9 := un_e hz_9
  replace hz_9 := un_e hz_9
  refine lv_iload X.1 X.2.1 dX10_worthiestNow_10 (lv_at hl 4 rfl) ?_
  refine lv_aload_n X.1 X.2.1 dX10_worthiestNow_12 rfl (lv_at hl 0 rfl) ?_
  refine gX10_links X hw wq_7_2 dX10_worthiestNow_13 ?_
  refine lv_icmp_ge (tgt := 127) X.1 X.2.1 dX10_worthiestNow_16 (by decide) (fun c_16 => ?_) (fun c_16 => ?_)
  · replace hz_9 := it_p hz_9 c_16
    obtain ⟨rfl, rfl⟩ := Prod.mk.inj (hx_11 _ (Option.some.inj hz_9).symm)
    exact J_13 _ _ _ hw (lv_sub hl [1] rfl)
  · replace hz_9 := it_n hz_9 c_16
    refine lv_aload_n X.1 X.2.1 dX10_worthiestNow_19 rfl (lv_at hl 0 rfl) ?_
    refine lv_iload X.1 X.2.1 dX10_worthiestNow_20 (lv_at hl 4 rfl) ?_
    replace hz_9 := ob_e hz_9
    obtain ⟨⟨r_19, t_20⟩, h_18, hz_9⟩ := hz_9
    replace hz_9 := un_e hz_9
    refine k_Vl (k := 0) (As := [.int y_4]) X hl.1 hw (c_X10_worthAbove h_18) (by decide) (he_X10 g h _) rfl ⟨wq_38_3, wq_38_4, wq_38_5, wq_1_5, wq_38_6⟩ yo_X10_worthAbove rfl ⟨Nat.le_of_ble_eq_true rfl, Nat.le_of_ble_eq_true rfl⟩ (Nat.le_of_ble_eq_true rfl) dX10_worthiestNow_22 (fun H locs hw => ?_)
    refine lv_lstore (lv' := [(7, .long r_19), (0, .ref (h 0)), (1, .int y_1), (2, .long y_2), (4, .long y_3), (6, .int y_4)]) X.1 X.2.1 dX10_worthiestNow_25 hl (by decide) rfl (fun ls hl => ?_)
    refine lv_aload_n X.1 X.2.1 dX10_worthiestNow_27 rfl (lv_at hl 1 rfl) ?_
    replace hz_9 := ob_e hz_9
    obtain ⟨r_23, h_22, hz_9⟩ := hz_9
    refine k_Vl (k := 0) (As := []) X hl.1 hw (c_X10_below h_22) (by decide) (he_X10 g h _) rfl ⟨wq_19_0, wq_19_1, wq_19_2, wq_1_5, wq_19_3⟩ yo_X10_below rfl ⟨Nat.le_of_ble_eq_true rfl, Nat.le_of_ble_eq_true rfl⟩ (Nat.le_of_ble_eq_true rfl) dX10_worthiestNow_28 (fun H locs hw => ?_)
    refine lv_lstore (lv' := [(9, .long r_23), (7, .long r_19), (0, .ref (h 0)), (1, .int y_1), (2, .long y_2), (4, .long y_3), (6, .int y_4)]) X.1 X.2.1 dX10_worthiestNow_31 hl (by decide) rfl (fun ls hl => ?_)
    refine lv_lload X.1 X.2.1 dX10_worthiestNow_33 (lv_at hl 0 rfl) ?_
    refine lv_lload X.1 X.2.1 dX10_worthiestNow_35 (lv_at hl 5 rfl) ?_
    replace hz_9 := ob_e hz_9
    obtain ⟨r_25, h_24, hz_9⟩ := hz_9
    refine k_Sl (As := [.long r_23, .long y_3]) X hl.1 hw (c_X10_divisor h_24) ⟨wq_19_7, wq_19_8, wq_1_5, wq_19_9⟩ yo_X10_divisor rfl ⟨Nat.le_of_ble_eq_true rfl, Nat.le_of_ble_eq_true rfl⟩ (Nat.le_of_ble_eq_true rfl) dX10_worthiestNow_37 (fun H locs hw => ?_)
    refine lv_lstore (lv' := [(11, .long r_25), (9, .long r_23), (7, .long r_19), (0, .ref (h 0)), (1, .int y_1), (2, .long y_2), (4, .long y_3), (6, .int y_4)]) X.1 X.2.1 dX10_worthiestNow_40 hl (by decide) rfl (fun ls hl => ?_)
    refine lv_aload_n X.1 X.2.1 dX10_worthiestNow_42 rfl (lv_at hl 3 rfl) ?_
    refine gX10_seens X hw wq_5_16 dX10_worthiestNow_43 ?_
    refine lv_iload X.1 X.2.1 dX10_worthiestNow_46 (lv_at hl 7 rfl) ?_
    replace hz_9 := gd_e hz_9
    obtain ⟨g_26, hz_9⟩ := hz_9
    refine lMA5 X hw g_26 dX10_worthiestNow_48 ?_
    replace hz_9 := ob_e hz_9
    obtain ⟨j_28, hg_40, hz_9⟩ := hz_9
    have J_41 : ∀ (H : Heap) (locs : List Loc) (ls : Array Slot), Wd g 20 h (cM g h t_20) s H locs → lv_has ls 14 [(0, .ref (h 0)), (1, .int y_1), (2, .long y_2), (4, .long y_3), (6, .int y_4), (7, .long r_19), (9, .long r_23)] → W p l e (rW 3 76) s m AV below meth c H locs 0 0 Q (F0 m 81 ls [.int j_28]) := by
      intro H locs ls hw hl
      refine lv_istore (lv' := [(13, .int j_28), (0, .ref (h 0)), (1, .int y_1), (2, .long y_2), (4, .long y_3), (6, .int y_4), (7, .long r_19), (9, .long r_23)]) X.1 X.2.1 dX10_worthiestNow_81 hl (by decide) rfl (fun ls hl => ?_)
      refine lv_iload X.1 X.2.1 dX10_worthiestNow_83 (lv_at hl 0 rfl) ?_
      replace hz_9 := ob_e hz_9
      obtain ⟨j_30, hg_38, hz_9⟩ := hz_9
      have J_39 : ∀ (H : Heap) (locs : List Loc) (ls : Array Slot), Wd g 20 h (cM g h t_20) s H locs → lv_has ls 14 [(0, .ref (h 0)), (2, .long y_2), (4, .long y_3), (6, .int y_4), (7, .long r_19), (9, .long r_23), (13, .int j_28)] → W p l e (rW 3 76) s m AV below meth c H locs 0 0 Q (F0 m 94 ls [.int j_30]) := by
        intro H locs ls hw hl
        refine lv_istore_n (lv' := [(1, .int j_30), (0, .ref (h 0)), (2, .long y_2), (4, .long y_3), (6, .int y_4), (7, .long r_19), (9, .long r_23), (13, .int j_28)]) X.1 X.2.1 dX10_worthiestNow_94 rfl hl (by decide) rfl (fun ls hl => ?_)
        refine lv_iload X.1 X.2.1 dX10_worthiestNow_95 (lv_at hl 7 rfl) ?_
        replace hz_9 := ob_e hz_9
        obtain ⟨j_32, hg_36, hz_9⟩ := hz_9
        have J_37 : ∀ (H : Heap) (locs : List Loc) (ls : Array Slot), Wd g 20 h (cM g h t_20) s H locs → lv_has ls 14 [(0, .ref (h 0)), (1, .int j_30), (4, .long y_3), (6, .int y_4), (9, .long r_23), (13, .int j_28)] → W p l e (rW 3 76) s m AV below meth c H locs 0 0 Q (F0 m 106 ls [.long j_32]) := by
          intro H locs ls hw hl
          refine lv_lstore_n (lv' := [(2, .long j_32), (0, .ref (h 0)), (1, .int j_30), (4, .long y_3), (6, .int y_4), (9, .long r_23), (13, .int j_28)]) X.1 X.2.1 dX10_worthiestNow_106 rfl hl (by decide) rfl (fun ls hl => ?_)
          refine lv_iload X.1 X.2.1 dX10_worthiestNow_107 (lv_at hl 6 rfl) ?_
          refine lv_if_eq (tgt := 117) X.1 X.2.1 dX10_worthiestNow_109 (by decide) (fun c_33 => ?_) (fun c_33 => ?_)
          · replace hz_9 := it_p hz_9 c_33
            refine lv_lload X.1 X.2.1 dX10_worthiestNow_117 (lv_at hl 3 rfl) ?_
            refine lv_lstore (lv' := [(4, .long y_3), (2, .long j_32), (0, .ref (h 0)), (1, .int j_30), (6, .int y_4), (9, .long r_23), (13, .int j_28)]) X.1 X.2.1 dX10_worthiestNow_119 hl (by decide) rfl (fun ls hl => ?_)
            obtain ⟨x_34, ex_34⟩ : ∃ y : Int32, y = y_4 + 1 := ⟨_, rfl⟩
            replace hz_9 := lt_e hz_9 ex_34
            refine lv_iinc (v := x_34) (lv' := [(6, .int x_34), (4, .long y_3), (2, .long j_32), (0, .ref (h 0)), (1, .int j_30), (9, .long r_23), (13, .int j_28)]) X.1 X.2.1 dX10_worthiestNow_121 hl (k := 4) rfl (by rw [ex_34]; rfl) (by decide) rfl (fun ls hl => ?_)
            refine lv_goto (tgt := 10) X.1 X.2.1 dX10_worthiestNow_124 (by decide) ?_
            exact hn_10 _ (Option.some.inj hz_9).symm _ _ _ hw (lv_sub hl [3, 4, 2, 1, 0] rfl)
          · replace hz_9 := it_n hz_9 c_33
            refine lv_lload X.1 X.2.1 dX10_worthiestNow_112 (lv_at hl 5 rfl) ?_
            refine lv_goto (tgt := 119) X.1 X.2.1 dX10_worthiestNow_114 (by decide) ?_
            refine lv_lstore (lv' := [(4, .long r_23), (2, .long j_32), (0, .ref (h 0)), (1, .int j_30), (6, .int y_4), (9, .long r_23), (13, .int j_28)]) X.1 X.2.1 dX10_worthiestNow_119 hl (by decide) rfl (fun ls hl => ?_)
            obtain ⟨x_35, ex_35⟩ : ∃ y : Int32, y = y_4 + 1 := ⟨_, rfl⟩
            replace hz_9 := lt_e hz_9 ex_35
            refine lv_iinc (v := x_35) (lv' := [(6, .int x_35), (4, .long r_23), (2, .long j_32), (0, .ref (h 0)), (1, .int j_30), (9, .long r_23), (13, .int j_28)]) X.1 X.2.1 dX10_worthiestNow_121 hl (k := 4) rfl (by rw [ex_35]; rfl) (by decide) rfl (fun ls hl => ?_)
            refine lv_goto (tgt := 10) X.1 X.2.1 dX10_worthiestNow_124 (by decide) ?_
            exact hn_10 _ (Option.some.inj hz_9).symm _ _ _ hw (lv_sub hl [3, 4, 2, 1, 0] rfl)
        refine lv_if_eq (tgt := 105) X.1 X.2.1 dX10_worthiestNow_97 (by decide) (fun c_31 => ?_) (fun c_31 => ?_)
        · replace hg_36 := it_p hg_36 c_31
          refine lv_lload_n X.1 X.2.1 dX10_worthiestNow_105 rfl (lv_at hl 2 rfl) ?_
          obtain rfl := Option.some.inj hg_36
          exact J_37 _ _ _ hw (lv_sub hl [1, 0, 3, 4, 6, 7] rfl)
        · replace hg_36 := it_n hg_36 c_31
          refine lv_lload X.1 X.2.1 dX10_worthiestNow_100 (lv_at hl 5 rfl) ?_
          refine lv_goto (tgt := 106) X.1 X.2.1 dX10_worthiestNow_102 (by decide) ?_
          obtain rfl := Option.some.inj hg_36
          exact J_37 _ _ _ hw (lv_sub hl [1, 0, 3, 4, 6, 7] rfl)
      refine lv_if_eq (tgt := 93) X.1 X.2.1 dX10_worthiestNow_85 (by decide) (fun c_29 => ?_) (fun c_29 => ?_)
      · replace hg_38 := it_p hg_38 c_29
        refine lv_iload_n X.1 X.2.1 dX10_worthiestNow_93 rfl (lv_at hl 2 rfl) ?_
        obtain rfl := Option.some.inj hg_38
        exact J_39 _ _ _ hw (lv_sub hl [1, 3, 4, 5, 6, 7, 0] rfl)
      · replace hg_38 := it_n hg_38 c_29
        refine lv_iload X.1 X.2.1 dX10_worthiestNow_88 (lv_at hl 5 rfl) ?_
        refine lv_goto (tgt := 94) X.1 X.2.1 dX10_worthiestNow_90 (by decide) ?_
        obtain rfl := Option.some.inj hg_38
        exact J_39 _ _ _ hw (lv_sub hl [1, 3, 4, 5, 6, 7, 0] rfl)
    refine lv_if_ne (tgt := 80) X.1 X.2.1 dX10_worthiestNow_49 (by decide) (fun c_27 => ?_) (fun c_27 => ?_)
    · replace hg_40 := it_n hg_40 c_27
      refine lv_iconst (v := 0) X.1 X.2.1 dX10_worthiestNow_80 (by decide) ?_
      obtain rfl := Option.some.inj hg_40
      exact J_41 _ _ _ hw (lv_sub hl [3, 4, 5, 6, 7, 2, 1] rfl)
    · replace hg_40 := it_p hg_40 c_27
      refine lv_iload_n X.1 X.2.1 dX10_worthiestNow_52 rfl (lv_at hl 4 rfl) ?_
      refine lv_iconst (v := -1) X.1 X.2.1 dX10_worthiestNow_53 (by decide) ?_
      refine lv_icmp_eq (tgt := 76) X.1 X.2.1 dX10_worthiestNow_54 (by decide) (fun c_42 => ?_) (fun c_42 => ?_)
      · replace hg_40 := it_p hg_40 c_42
        refine lv_iconst (v := 1) X.1 X.2.1 dX10_worthiestNow_76 (by decide) ?_
        refine lv_goto (tgt := 81) X.1 X.2.1 dX10_worthiestNow_77 (by decide) ?_
        obtain rfl := Option.some.inj hg_40
        exact J_41 _ _ _ hw (lv_sub hl [3, 4, 5, 6, 7, 2, 1] rfl)
      · replace hg_40 := it_n hg_40 c_42
        refine lv_lload X.1 X.2.1 dX10_worthiestNow_57 (lv_at hl 2 rfl) ?_
        refine lv_lload X.1 X.2.1 dX10_worthiestNow_59 (lv_at hl 6 rfl) ?_
        refine lv_lload X.1 X.2.1 dX10_worthiestNow_61 (lv_at hl 0 rfl) ?_
        replace hg_40 := gd_e hg_40
        obtain ⟨g_43, hg_40⟩ := hg_40
        refine lv_ldiv X.1 X.2.1 dX10_worthiestNow_63 g_43 ?_
        refine lv_lmul X.1 X.2.1 dX10_worthiestNow_64 ?_
        refine lv_lload_n X.1 X.2.1 dX10_worthiestNow_65 rfl (lv_at hl 5 rfl) ?_
        refine lv_lload X.1 X.2.1 dX10_worthiestNow_66 (lv_at hl 1 rfl) ?_
        refine lv_lload X.1 X.2.1 dX10_worthiestNow_68 (lv_at hl 0 rfl) ?_
        replace hg_40 := gd_e hg_40
        obtain ⟨g_44, hg_40⟩ := hg_40
        refine lv_ldiv X.1 X.2.1 dX10_worthiestNow_70 g_44 ?_
        refine lv_lmul X.1 X.2.1 dX10_worthiestNow_71 ?_
        refine W.lcmp X.1 X.2.1 dX10_worthiestNow_72 ?_
        refine lv_if_le (tgt := 80) X.1 X.2.1 dX10_worthiestNow_73 (by decide) (fun c_45 => ?_) (fun c_45 => ?_)
        · replace hg_40 := it_p hg_40 c_45
          refine lv_iconst (v := 0) X.1 X.2.1 dX10_worthiestNow_80 (by decide) ?_
          obtain rfl := Option.some.inj hg_40
          exact J_41 _ _ _ hw (lv_sub hl [3, 4, 5, 6, 7, 2, 1] rfl)
        · replace hg_40 := it_n hg_40 c_45
          refine lv_iconst (v := 1) X.1 X.2.1 dX10_worthiestNow_76 (by decide) ?_
          refine lv_goto (tgt := 81) X.1 X.2.1 dX10_worthiestNow_77 (by decide) ?_
          obtain rfl := Option.some.inj hg_40
          exact J_41 _ _ _ hw (lv_sub hl [3, 4, 5, 6, 7, 2, 1] rfl)
def m_X10_worthiest (t : ST) : Option (Int32 × ST) := Option.bind (m_X10_worthiestNow t) (fun (q_4 : Int32 × ST) => un q_4 (fun r_2 t_3 => some (r_2, t_3)))
theorem yo_X10_worthiest : yX10_worthiest.cls = RX10 ∧ yX10_worthiest.cls ≠ "java/lang/invoke/MethodHandle" ∧ yX10_worthiest.cls ≠ "java/lang/invoke/VarHandle" ∧ (parseMethodDescriptor yX10_worthiest.desc).map (fun d => d.parameters.length) = some 0 := by decide +kernel
set_option maxHeartbeats 4000000 in
set_option maxRecDepth 100000 in
theorem c_X10_worthiest {l : Launch} {g : gT} {h : Nat → Nat} {t : ST} {r : Int32} {t' : ST} (hm : m_X10_worthiest t = some (r, t')) : MetI l g yX10_worthiest cX10_worthiest 1 (some .int) 4 109 20 h (cM g h t) (cM g h t') [.ref (h 0)] r := by
  refine MetI.ofX (by decide +kernel) (Nat.le_of_ble_eq_true rfl) ?_
  intro p e s m below meth c AV Q X hret ls hw hl
  replace X : Cx g p s m AV c cX10_worthiest RX10 1 := X
  replace hl : lv_has ls 1 [(0, .ref (h 0))] := hl
  unfold m_X10_worthiest at hm
  refine lv_aload_n X.1 X.2.1 dX10_worthiest_0 rfl (lv_at hl 0 rfl) ?_
  replace hm := ob_e hm
  obtain ⟨⟨r_2, t_3⟩, h_1, hm⟩ := hm
  replace hm := un_e hm
  refine k_Vi (k := 0) (As := []) X hl.1 hw (c_X10_worthiestNow h_1) (by decide) (he_X10 g h _) rfl ⟨wq_38_22, wq_38_23, wq_39_0, wq_1_5, wq_39_1⟩ yo_X10_worthiestNow rfl ⟨Nat.le_of_ble_eq_true rfl, Nat.le_of_ble_eq_true rfl⟩ (Nat.le_of_ble_eq_true rfl) dX10_worthiest_1 (fun H locs hw => ?_)
  obtain ⟨rfl, rfl⟩ := Prod.mk.inj (Option.some.inj hm)
  exact hret _ _ _ _ hw dX10_worthiest_4
def m_X10_betterBy (t : ST) (x1 : Int32) (x2 : Int32) (x3 : Int32) (x4 : Int32) : Option (Int64 × ST) := Option.bind (m_X10_asItIs t) (fun (t_2 : ST) => gd (¬ (x1 < 0 ∨ 10 ≤ x1.toNatClampNeg)) (lt (wA t_2 6 x1.toNatClampNeg x2) (fun t_4 => gd (¬ (x1 < 0 ∨ 10 ≤ x1.toNatClampNeg)) (lt (wA t_4 7 x1.toNatClampNeg x3) (fun t_6 => Option.bind (m_X10_wanted t_6) (fun (r_8 : Int32) => Option.bind (m_X10_above t_6 (t_6.1 2) r_8) (fun (r_10 : Int64) => Option.bind (m_X10_below t_6) (fun (r_12 : Int64) => Option.bind (m_X10_part r_10 r_12 x4) (fun (r_14 : Int64) => some (r_14, t_6))))))))))
theorem yo_X10_betterBy : yX10_betterBy.cls = RX10 ∧ yX10_betterBy.cls ≠ "java/lang/invoke/MethodHandle" ∧ yX10_betterBy.cls ≠ "java/lang/invoke/VarHandle" ∧ (parseMethodDescriptor yX10_betterBy.desc).map (fun d => d.parameters.length) = some 4 := by decide +kernel
set_option maxHeartbeats 4000000 in
set_option maxRecDepth 100000 in
theorem c_X10_betterBy {l : Launch} {g : gT} {h : Nat → Nat} {t : ST} {x1 : Int32} {x2 : Int32} {x3 : Int32} {x4 : Int32} {r : Int64} {t' : ST} (hm : m_X10_betterBy t x1 x2 x3 x4 = some (r, t')) : MetL l g yX10_betterBy cX10_betterBy 5 (some .long) 2 54 20 h (cM g h t) (cM g h t') [.ref (h 0), .int x1, .int x2, .int x3, .int x4] r := by
  refine MetL.ofX (by decide +kernel) (Nat.le_of_ble_eq_true rfl) ?_
  intro p e s m below meth c AV Q X hret ls hw hl
  replace X : Cx g p s m AV c cX10_betterBy RX10 5 := X
  replace hl : lv_has ls 5 [(0, .ref (h 0)), (1, .int x1), (2, .int x2), (3, .int x3), (4, .int x4)] := hl
  unfold m_X10_betterBy at hm
  refine lv_aload_n X.1 X.2.1 dX10_betterBy_0 rfl (lv_at hl 0 rfl) ?_
  replace hm := ob_e hm
  obtain ⟨t_2, h_1, hm⟩ := hm
  refine k_Vv (k := 0) (As := []) X hl.1 hw (c_X10_asItIs h_1) (by decide) (he_X10 g h _) rfl ⟨wq_18_4, wq_18_5, wq_18_6, wq_1_5, wq_18_7⟩ yo_X10_asItIs rfl ⟨Nat.le_of_ble_eq_true rfl, Nat.le_of_ble_eq_true rfl⟩ (Nat.le_of_ble_eq_true rfl) dX10_betterBy_1 (fun H locs hw => ?_)
  refine lv_aload_n X.1 X.2.1 dX10_betterBy_4 rfl (lv_at hl 0 rfl) ?_
  refine gX10_tops X hw wq_5_17 dX10_betterBy_5 ?_
  refine lv_iload_n X.1 X.2.1 dX10_betterBy_8 rfl (lv_at hl 1 rfl) ?_
  refine lv_iload_n X.1 X.2.1 dX10_betterBy_9 rfl (lv_at hl 2 rfl) ?_
  replace hm := gd_e hm
  obtain ⟨g_3, hm⟩ := hm
  refine sMA6 X hw g_3 dX10_betterBy_10 (fun H locs hw => ?_)
  obtain ⟨t_4, et_4⟩ : ∃ y, y = wA t_2 6 x1.toNatClampNeg x2 := ⟨_, rfl⟩
  rw [← et_4] at hw
  replace hm := lt_e hm et_4
  refine lv_aload_n X.1 X.2.1 dX10_betterBy_11 rfl (lv_at hl 0 rfl) ?_
  refine gX10_bottoms X hw wq_5_18 dX10_betterBy_12 ?_
  refine lv_iload_n X.1 X.2.1 dX10_betterBy_15 rfl (lv_at hl 1 rfl) ?_
  refine lv_iload_n X.1 X.2.1 dX10_betterBy_16 rfl (lv_at hl 3 rfl) ?_
  replace hm := gd_e hm
  obtain ⟨g_5, hm⟩ := hm
  refine sMA7 X hw g_5 dX10_betterBy_17 (fun H locs hw => ?_)
  obtain ⟨t_6, et_6⟩ : ∃ y, y = wA t_4 7 x1.toNatClampNeg x3 := ⟨_, rfl⟩
  rw [← et_6] at hw
  replace hm := lt_e hm et_6
  refine lv_aload_n X.1 X.2.1 dX10_betterBy_18 rfl (lv_at hl 0 rfl) ?_
  refine lv_aload_n X.1 X.2.1 dX10_betterBy_19 rfl (lv_at hl 0 rfl) ?_
  refine gX10_source X hw wq_7_4 dX10_betterBy_20 ?_
  refine lv_aload_n X.1 X.2.1 dX10_betterBy_23 rfl (lv_at hl 0 rfl) ?_
  replace hm := ob_e hm
  obtain ⟨r_8, h_7, hm⟩ := hm
  refine k_Vi (k := 0) (As := []) X hl.1 hw (c_X10_wanted h_7) (by decide) (he_X10 g h _) rfl ⟨wq_18_8, wq_18_9, wq_18_10, wq_1_5, wq_18_11⟩ yo_X10_wanted rfl ⟨Nat.le_of_ble_eq_true rfl, Nat.le_of_ble_eq_true rfl⟩ (Nat.le_of_ble_eq_true rfl) dX10_betterBy_24 (fun H locs hw => ?_)
  replace hm := ob_e hm
  obtain ⟨r_10, h_9, hm⟩ := hm
  refine k_Vl (k := 0) (As := [.int (t_6.1 2), .int r_8]) X hl.1 hw (c_X10_above h_9) (by decide) (he_X10 g h _) rfl ⟨wq_18_12, wq_18_13, wq_18_14, wq_1_5, wq_18_15⟩ yo_X10_above rfl ⟨Nat.le_of_ble_eq_true rfl, Nat.le_of_ble_eq_true rfl⟩ (Nat.le_of_ble_eq_true rfl) dX10_betterBy_27 (fun H locs hw => ?_)
  refine lv_aload_n X.1 X.2.1 dX10_betterBy_30 rfl (lv_at hl 0 rfl) ?_
  replace hm := ob_e hm
  obtain ⟨r_12, h_11, hm⟩ := hm
  refine k_Vl (k := 0) (As := []) X hl.1 hw (c_X10_below h_11) (by decide) (he_X10 g h _) rfl ⟨wq_19_0, wq_19_1, wq_19_2, wq_1_5, wq_19_3⟩ yo_X10_below rfl ⟨Nat.le_of_ble_eq_true rfl, Nat.le_of_ble_eq_true rfl⟩ (Nat.le_of_ble_eq_true rfl) dX10_betterBy_31 (fun H locs hw => ?_)
  refine lv_iload X.1 X.2.1 dX10_betterBy_34 (lv_at hl 4 rfl) ?_
  replace hm := ob_e hm
  obtain ⟨r_14, h_13, hm⟩ := hm
  refine k_Sl (As := [.long r_10, .long r_12, .int x4]) X hl.1 hw (c_X10_part h_13) ⟨wq_19_4, wq_19_5, wq_1_5, wq_19_6⟩ yo_X10_part rfl ⟨Nat.le_of_ble_eq_true rfl, Nat.le_of_ble_eq_true rfl⟩ (Nat.le_of_ble_eq_true rfl) dX10_betterBy_36 (fun H locs hw => ?_)
  obtain ⟨rfl, rfl⟩ := Prod.mk.inj (Option.some.inj hm)
  exact hret _ _ _ _ hw dX10_betterBy_39
def m_X10_better (t : ST) (x1 : Int32) (x2 : Int32) (x3 : Int32) (x4 : Int32) : Option (Int64 × ST) := Option.bind (m_X10_isLink t x1) (fun (r_2 : Int32) => if r_2 = 0 then Option.bind (m_X10_no (-2 : Int32)) (fun (r_5 : Int64) => some (r_5, t)) else Option.bind (m_X10_isChance (x2.toInt64) (x3.toInt64)) (fun (r_8 : Int32) => if r_8 = 0 then Option.bind (m_X10_no (-2 : Int32)) (fun (r_11 : Int64) => some (r_11, t)) else Option.bind (m_X10_isTwo x4) (fun (r_14 : Int32) => if r_14 = 0 then Option.bind (m_X10_no (-2 : Int32)) (fun (r_17 : Int64) => some (r_17, t)) else Option.bind (m_X10_betterBy t x1 x2 x3 x4) (fun (q_22 : Int64 × ST) => un q_22 (fun r_20 t_21 => some (r_20, t_21))))))
theorem yo_X10_better : yX10_better.cls = RX10 ∧ yX10_better.cls ≠ "java/lang/invoke/MethodHandle" ∧ yX10_better.cls ≠ "java/lang/invoke/VarHandle" ∧ (parseMethodDescriptor yX10_better.desc).map (fun d => d.parameters.length) = some 4 := by decide +kernel
set_option maxHeartbeats 4000000 in
set_option maxRecDepth 100000 in
theorem c_X10_better {l : Launch} {g : gT} {h : Nat → Nat} {t : ST} {x1 : Int32} {x2 : Int32} {x3 : Int32} {x4 : Int32} {r : Int64} {t' : ST} (hm : m_X10_better t x1 x2 x3 x4 = some (r, t')) : MetL l g yX10_better cX10_better 5 (some .long) 3 78 20 h (cM g h t) (cM g h t') [.ref (h 0), .int x1, .int x2, .int x3, .int x4] r := by
  refine MetL.ofX (by decide +kernel) (Nat.le_of_ble_eq_true rfl) ?_
  intro p e s m below meth c AV Q X hret ls hw hl
  replace X : Cx g p s m AV c cX10_better RX10 5 := X
  replace hl : lv_has ls 5 [(0, .ref (h 0)), (1, .int x1), (2, .int x2), (3, .int x3), (4, .int x4)] := hl
  unfold m_X10_better at hm
  refine lv_aload_n X.1 X.2.1 dX10_better_0 rfl (lv_at hl 0 rfl) ?_
  refine lv_iload_n X.1 X.2.1 dX10_better_1 rfl (lv_at hl 1 rfl) ?_
  replace hm := ob_e hm
  obtain ⟨r_2, h_1, hm⟩ := hm
  refine k_Vi (k := 0) (As := [.int x1]) X hl.1 hw (c_X10_isLink h_1) (by decide) (he_X10 g h _) rfl ⟨wq_12_0, wq_12_1, wq_12_2, wq_1_5, wq_12_3⟩ yo_X10_isLink rfl ⟨Nat.le_of_ble_eq_true rfl, Nat.le_of_ble_eq_true rfl⟩ (Nat.le_of_ble_eq_true rfl) dX10_better_2 (fun H locs hw => ?_)
  refine lv_if_eq (tgt := 38) X.1 X.2.1 dX10_better_5 (by decide) (fun c_3 => ?_) (fun c_3 => ?_)
  · replace hm := it_p hm c_3
    refine lv_bipush (v := -2) X.1 X.2.1 dX10_better_38 (by decide) ?_
    replace hm := ob_e hm
    obtain ⟨r_5, h_4, hm⟩ := hm
    refine k_Sl (As := [.int (-2 : Int32)]) X hl.1 hw (c_X10_no h_4) ⟨wq_19_10, wq_19_11, wq_1_5, wq_19_12⟩ yo_X10_no rfl ⟨Nat.le_of_ble_eq_true rfl, Nat.le_of_ble_eq_true rfl⟩ (Nat.le_of_ble_eq_true rfl) dX10_better_40 (fun H locs hw => ?_)
    obtain ⟨rfl, rfl⟩ := Prod.mk.inj (Option.some.inj hm)
    exact hret _ _ _ _ hw dX10_better_43
  · replace hm := it_n hm c_3
    refine lv_iload_n X.1 X.2.1 dX10_better_8 rfl (lv_at hl 2 rfl) ?_
    refine lv_i2l X.1 X.2.1 dX10_better_9 rfl ?_
    refine lv_iload_n X.1 X.2.1 dX10_better_10 rfl (lv_at hl 3 rfl) ?_
    refine lv_i2l X.1 X.2.1 dX10_better_11 rfl ?_
    replace hm := ob_e hm
    obtain ⟨r_8, h_7, hm⟩ := hm
    refine k_Si (As := [.long x2.toInt64, .long x3.toInt64]) X hl.1 hw (c_X10_isChance h_7) ⟨wq_10_2, wq_10_3, wq_1_5, wq_10_4⟩ yo_X10_isChance rfl ⟨Nat.le_of_ble_eq_true rfl, Nat.le_of_ble_eq_true rfl⟩ (Nat.le_of_ble_eq_true rfl) dX10_better_12 (fun H locs hw => ?_)
    refine lv_if_eq (tgt := 38) X.1 X.2.1 dX10_better_15 (by decide) (fun c_9 => ?_) (fun c_9 => ?_)
    · replace hm := it_p hm c_9
      refine lv_bipush (v := -2) X.1 X.2.1 dX10_better_38 (by decide) ?_
      replace hm := ob_e hm
      obtain ⟨r_11, h_10, hm⟩ := hm
      refine k_Sl (As := [.int (-2 : Int32)]) X hl.1 hw (c_X10_no h_10) ⟨wq_19_10, wq_19_11, wq_1_5, wq_19_12⟩ yo_X10_no rfl ⟨Nat.le_of_ble_eq_true rfl, Nat.le_of_ble_eq_true rfl⟩ (Nat.le_of_ble_eq_true rfl) dX10_better_40 (fun H locs hw => ?_)
      obtain ⟨rfl, rfl⟩ := Prod.mk.inj (Option.some.inj hm)
      exact hret _ _ _ _ hw dX10_better_43
    · replace hm := it_n hm c_9
      refine lv_iload X.1 X.2.1 dX10_better_18 (lv_at hl 4 rfl) ?_
      replace hm := ob_e hm
      obtain ⟨r_14, h_13, hm⟩ := hm
      refine k_Si (As := [.int x4]) X hl.1 hw (c_X10_isTwo h_13) ⟨wq_17_21, wq_17_22, wq_1_5, wq_17_23⟩ yo_X10_isTwo rfl ⟨Nat.le_of_ble_eq_true rfl, Nat.le_of_ble_eq_true rfl⟩ (Nat.le_of_ble_eq_true rfl) dX10_better_20 (fun H locs hw => ?_)
      refine lv_if_eq (tgt := 38) X.1 X.2.1 dX10_better_23 (by decide) (fun c_15 => ?_) (fun c_15 => ?_)
      · replace hm := it_p hm c_15
        refine lv_bipush (v := -2) X.1 X.2.1 dX10_better_38 (by decide) ?_
        replace hm := ob_e hm
        obtain ⟨r_17, h_16, hm⟩ := hm
        refine k_Sl (As := [.int (-2 : Int32)]) X hl.1 hw (c_X10_no h_16) ⟨wq_19_10, wq_19_11, wq_1_5, wq_19_12⟩ yo_X10_no rfl ⟨Nat.le_of_ble_eq_true rfl, Nat.le_of_ble_eq_true rfl⟩ (Nat.le_of_ble_eq_true rfl) dX10_better_40 (fun H locs hw => ?_)
        obtain ⟨rfl, rfl⟩ := Prod.mk.inj (Option.some.inj hm)
        exact hret _ _ _ _ hw dX10_better_43
      · replace hm := it_n hm c_15
        refine lv_aload_n X.1 X.2.1 dX10_better_26 rfl (lv_at hl 0 rfl) ?_
        refine lv_iload_n X.1 X.2.1 dX10_better_27 rfl (lv_at hl 1 rfl) ?_
        refine lv_iload_n X.1 X.2.1 dX10_better_28 rfl (lv_at hl 2 rfl) ?_
        refine lv_iload_n X.1 X.2.1 dX10_better_29 rfl (lv_at hl 3 rfl) ?_
        refine lv_iload X.1 X.2.1 dX10_better_30 (lv_at hl 4 rfl) ?_
        replace hm := ob_e hm
        obtain ⟨⟨r_20, t_21⟩, h_19, hm⟩ := hm
        replace hm := un_e hm
        refine k_Vl (k := 0) (As := [.int x1, .int x2, .int x3, .int x4]) X hl.1 hw (c_X10_betterBy h_19) (by decide) (he_X10 g h _) rfl ⟨wq_39_11, wq_39_12, wq_39_13, wq_1_5, wq_39_14⟩ yo_X10_betterBy rfl ⟨Nat.le_of_ble_eq_true rfl, Nat.le_of_ble_eq_true rfl⟩ (Nat.le_of_ble_eq_true rfl) dX10_better_32 (fun H locs hw => ?_)
        refine lv_goto (tgt := 43) X.1 X.2.1 dX10_better_35 (by decide) ?_
        obtain ⟨rfl, rfl⟩ := Prod.mk.inj (Option.some.inj hm)
        exact hret _ _ _ _ hw dX10_better_43
def m_X10_isOpen_L7 (x1 : Int32) (t : ST) (σ : Int32 × Int32) : Option ((Int32 × Int32) ⊕ (Int32)) := (fun (q_23 : Int32 × Int32) => un q_23 (fun y_2 y_3 => if (t.1 4) ≤ y_3 then some (.inr y_2) else if y_2 = 0 then gd (¬ (y_3 < 0 ∨ 10 ≤ y_3.toNatClampNeg)) (if (t.2.2.1 1 y_3.toNatClampNeg) = x1 then lt (y_3 + 1) (fun x_18 => some (.inl ((1 : Int32), x_18))) else gd (¬ (y_3 < 0 ∨ 10 ≤ y_3.toNatClampNeg)) (if (t.2.2.1 2 y_3.toNatClampNeg) = x1 then lt (y_3 + 1) (fun x_22 => some (.inl ((1 : Int32), x_22))) else lt (y_3 + 1) (fun x_21 => some (.inl ((0 : Int32), x_21))))) else lt (y_3 + 1) (fun x_15 => some (.inl ((1 : Int32), x_15))))) σ
def m_X10_isOpen (t : ST) (x1 : Int32) (x2 : Int32) : Option (Int32) := lt (x2 + (1 : Int32)) (fun x_1 => Option.bind (vLoop (m_X10_isOpen_L7 x1 t) FUEL ((0 : Int32), x_1)) (fun (j_4 : Int32) => gd (j_4 = 0 ∨ j_4 = 1) (some j_4)))
theorem yo_X10_isOpen : yX10_isOpen.cls = RX10 ∧ yX10_isOpen.cls ≠ "java/lang/invoke/MethodHandle" ∧ yX10_isOpen.cls ≠ "java/lang/invoke/VarHandle" ∧ (parseMethodDescriptor yX10_isOpen.desc).map (fun d => d.parameters.length) = some 2 := by decide +kernel
set_option maxHeartbeats 4000000 in
set_option maxRecDepth 100000 in
theorem c_X10_isOpen {l : Launch} {g : gT} {h : Nat → Nat} {t : ST} {x1 : Int32} {x2 : Int32} {r : Int32} (hm : m_X10_isOpen t x1 x2 = some r) : MetI l g yX10_isOpen cX10_isOpen 5 (some .boolean) 0 0 20 h (cM g h t) (cM g h t) [.ref (h 0), .int x1, .int x2] r := by
  refine MetZ.ofX (by decide +kernel) (Nat.le_of_ble_eq_true rfl) ?_
  intro p e s m below meth c AV Q X hret ls hw hl
  replace X : Cx g p s m AV c cX10_isOpen RX10 5 := X
  replace hl : lv_has ls 5 [(0, .ref (h 0)), (1, .int x1), (2, .int x2)] := hl
  unfold m_X10_isOpen at hm
  refine lv_iconst (v := 0) X.1 X.2.1 dX10_isOpen_0 (by decide) ?_
  refine lv_istore_n (lv' := [(3, .int (0 : Int32)), (0, .ref (h 0)), (1, .int x1), (2, .int x2)]) X.1 X.2.1 dX10_isOpen_1 rfl hl (by decide) rfl (fun ls hl => ?_)
  refine lv_iload_n X.1 X.2.1 dX10_isOpen_2 rfl (lv_at hl 3 rfl) ?_
  refine lv_iconst (v := 1) X.1 X.2.1 dX10_isOpen_3 (by decide) ?_
  refine lv_iadd X.1 X.2.1 dX10_isOpen_4 ?_
  refine lv_topi (fun x_1 ex_1 => ?_)
  replace hm := lt_e hm ex_1
  refine lv_istore (lv' := [(4, .int x_1), (3, .int (0 : Int32)), (0, .ref (h 0)), (1, .int x1), (2, .int x2)]) X.1 X.2.1 dX10_isOpen_5 hl (by decide) rfl (fun ls hl => ?_)
  replace hm := ob_e hm
  obtain ⟨j_4, hL_11, hm⟩ := hm
  have J_10 : ∀ (H : Heap) (locs : List Loc) (ls : Array Slot), Wd g 20 h (cM g h t) s H locs → lv_has ls 5 [(3, .int j_4)] → W p l e (rW 0 0) s m AV below meth c H locs 0 0 Q (F0 m 54 ls []) := by
    intro H locs ls hw hl
    refine lv_iload_n X.1 X.2.1 dX10_isOpen_54 rfl (lv_at hl 0 rfl) ?_
    replace hm := gd_e hm
    obtain ⟨g_5, hm⟩ := hm
    obtain rfl := Option.some.inj hm
    exact hret _ _ _ _ hw dX10_isOpen_55 g_5
  refine vLoop_ind (B := (m_X10_isOpen_L7 x1 t)) (fun σ => ∀ (H : Heap) (locs : List Loc) (ls : Array Slot), Wd g 20 h (cM g h t) s H locs → lv_has ls 5 [(0, .ref (h 0)), (1, .int x1), (3, .int σ.1), (4, .int σ.2)] → W p l e (rW 0 0) s m AV below meth c H locs 0 0 Q (F0 m 7 ls [])) (fun z' => z' = j_4) ?_ FUEL _ _ hL_11 rfl _ _ _ hw (lv_sub hl [2, 3, 1, 0] rfl)
  intro σ z_9 hz_6 hn_7 hx_8
  obtain ⟨y_2, y_3⟩ := σ
  intro H locs ls hw hl
  replace hw : Wd g 20 h (cM g h t) s H locs := hw
  replace hl : lv_has ls 5 [(0, .ref (h 0)), (1, .int x1), (3, .int y_2), (4, .int y_3)] := hl
  unfold m_X10_isOpen_L7 at hz_6
  replace hz_6 := un_e hz_6
  refine lv_iload X.1 X.2.1 dX10_isOpen_7 (lv_at hl 3 rfl) ?_
  refine lv_aload_n X.1 X.2.1 dX10_isOpen_9 rfl (lv_at hl 0 rfl) ?_
  refine gX10_links X hw wq_7_2 dX10_isOpen_10 ?_
  refine lv_icmp_ge (tgt := 54) X.1 X.2.1 dX10_isOpen_13 (by decide) (fun c_13 => ?_) (fun c_13 => ?_)
  · replace hz_6 := it_p hz_6 c_13
    obtain rfl := hx_8 _ (Option.some.inj hz_6).symm
    exact J_10 _ _ _ hw (lv_sub hl [2] rfl)
  · replace hz_6 := it_n hz_6 c_13
    refine lv_iload_n X.1 X.2.1 dX10_isOpen_16 rfl (lv_at hl 2 rfl) ?_
    refine lv_if_ne (tgt := 42) X.1 X.2.1 dX10_isOpen_17 (by decide) (fun c_14 => ?_) (fun c_14 => ?_)
    · replace hz_6 := it_n hz_6 c_14
      refine lv_iconst (v := 1) X.1 X.2.1 dX10_isOpen_42 (by decide) ?_
      refine lv_goto (tgt := 47) X.1 X.2.1 dX10_isOpen_43 (by decide) ?_
      refine lv_istore_n (lv' := [(3, .int (1 : Int32)), (0, .ref (h 0)), (1, .int x1), (4, .int y_3)]) X.1 X.2.1 dX10_isOpen_47 rfl hl (by decide) rfl (fun ls hl => ?_)
      obtain ⟨x_15, ex_15⟩ : ∃ y : Int32, y = y_3 + 1 := ⟨_, rfl⟩
      replace hz_6 := lt_e hz_6 ex_15
      refine lv_iinc (v := x_15) (lv' := [(4, .int x_15), (3, .int (1 : Int32)), (0, .ref (h 0)), (1, .int x1)]) X.1 X.2.1 dX10_isOpen_48 hl (k := 3) rfl (by rw [ex_15]; rfl) (by decide) rfl (fun ls hl => ?_)
      refine lv_goto (tgt := 7) X.1 X.2.1 dX10_isOpen_51 (by decide) ?_
      exact hn_7 _ (Option.some.inj hz_6).symm _ _ _ hw (lv_sub hl [2, 3, 1, 0] rfl)
    · replace hz_6 := it_p hz_6 c_14
      refine lv_aload_n X.1 X.2.1 dX10_isOpen_20 rfl (lv_at hl 0 rfl) ?_
      refine gX10_ones X hw wq_5_12 dX10_isOpen_21 ?_
      refine lv_iload X.1 X.2.1 dX10_isOpen_24 (lv_at hl 3 rfl) ?_
      replace hz_6 := gd_e hz_6
      obtain ⟨g_16, hz_6⟩ := hz_6
      refine lMA1 X hw g_16 dX10_isOpen_26 ?_
      refine lv_iload_n X.1 X.2.1 dX10_isOpen_27 rfl (lv_at hl 1 rfl) ?_
      refine lv_icmp_eq (tgt := 42) X.1 X.2.1 dX10_isOpen_28 (by decide) (fun c_17 => ?_) (fun c_17 => ?_)
      · replace hz_6 := it_p hz_6 c_17
        refine lv_iconst (v := 1) X.1 X.2.1 dX10_isOpen_42 (by decide) ?_
        refine lv_goto (tgt := 47) X.1 X.2.1 dX10_isOpen_43 (by decide) ?_
        refine lv_istore_n (lv' := [(3, .int (1 : Int32)), (0, .ref (h 0)), (1, .int x1), (4, .int y_3)]) X.1 X.2.1 dX10_isOpen_47 rfl hl (by decide) rfl (fun ls hl => ?_)
        obtain ⟨x_18, ex_18⟩ : ∃ y : Int32, y = y_3 + 1 := ⟨_, rfl⟩
        replace hz_6 := lt_e hz_6 ex_18
        refine lv_iinc (v := x_18) (lv' := [(4, .int x_18), (3, .int (1 : Int32)), (0, .ref (h 0)), (1, .int x1)]) X.1 X.2.1 dX10_isOpen_48 hl (k := 3) rfl (by rw [ex_18]; rfl) (by decide) rfl (fun ls hl => ?_)
        refine lv_goto (tgt := 7) X.1 X.2.1 dX10_isOpen_51 (by decide) ?_
        exact hn_7 _ (Option.some.inj hz_6).symm _ _ _ hw (lv_sub hl [2, 3, 1, 0] rfl)
      · replace hz_6 := it_n hz_6 c_17
        refine lv_aload_n X.1 X.2.1 dX10_isOpen_31 rfl (lv_at hl 0 rfl) ?_
        refine gX10_others X hw wq_5_13 dX10_isOpen_32 ?_
        refine lv_iload X.1 X.2.1 dX10_isOpen_35 (lv_at hl 3 rfl) ?_
        replace hz_6 := gd_e hz_6
        obtain ⟨g_19, hz_6⟩ := hz_6
        refine lMA2 X hw g_19 dX10_isOpen_37 ?_
        refine lv_iload_n X.1 X.2.1 dX10_isOpen_38 rfl (lv_at hl 1 rfl) ?_
        refine lv_icmp_ne (tgt := 46) X.1 X.2.1 dX10_isOpen_39 (by decide) (fun c_20 => ?_) (fun c_20 => ?_)
        · replace hz_6 := it_n hz_6 c_20
          refine lv_iconst (v := 0) X.1 X.2.1 dX10_isOpen_46 (by decide) ?_
          refine lv_istore_n (lv' := [(3, .int (0 : Int32)), (0, .ref (h 0)), (1, .int x1), (4, .int y_3)]) X.1 X.2.1 dX10_isOpen_47 rfl hl (by decide) rfl (fun ls hl => ?_)
          obtain ⟨x_21, ex_21⟩ : ∃ y : Int32, y = y_3 + 1 := ⟨_, rfl⟩
          replace hz_6 := lt_e hz_6 ex_21
          refine lv_iinc (v := x_21) (lv' := [(4, .int x_21), (3, .int (0 : Int32)), (0, .ref (h 0)), (1, .int x1)]) X.1 X.2.1 dX10_isOpen_48 hl (k := 3) rfl (by rw [ex_21]; rfl) (by decide) rfl (fun ls hl => ?_)
          refine lv_goto (tgt := 7) X.1 X.2.1 dX10_isOpen_51 (by decide) ?_
          exact hn_7 _ (Option.some.inj hz_6).symm _ _ _ hw (lv_sub hl [2, 3, 1, 0] rfl)
        · replace hz_6 := it_p hz_6 c_20
          refine lv_iconst (v := 1) X.1 X.2.1 dX10_isOpen_42 (by decide) ?_
          refine lv_goto (tgt := 47) X.1 X.2.1 dX10_isOpen_43 (by decide) ?_
          refine lv_istore_n (lv' := [(3, .int (1 : Int32)), (0, .ref (h 0)), (1, .int x1), (4, .int y_3)]) X.1 X.2.1 dX10_isOpen_47 rfl hl (by decide) rfl (fun ls hl => ?_)
          obtain ⟨x_22, ex_22⟩ : ∃ y : Int32, y = y_3 + 1 := ⟨_, rfl⟩
          replace hz_6 := lt_e hz_6 ex_22
          refine lv_iinc (v := x_22) (lv' := [(4, .int x_22), (3, .int (1 : Int32)), (0, .ref (h 0)), (1, .int x1)]) X.1 X.2.1 dX10_isOpen_48 hl (k := 3) rfl (by rw [ex_22]; rfl) (by decide) rfl (fun ls hl => ?_)
          refine lv_goto (tgt := 7) X.1 X.2.1 dX10_isOpen_51 (by decide) ?_
          exact hn_7 _ (Option.some.inj hz_6).symm _ _ _ hw (lv_sub hl [2, 3, 1, 0] rfl)
def m_X10_keyOf_L71 (x2 : Int32) (r_18 : Int32) (σ : Int32 × Int32) : Option ((Int32 × Int32) ⊕ (Int32)) := (fun (q_48 : Int32 × Int32) => un q_48 (fun y_21 y_22 => if y_22 < 0 then some (.inr y_21) else lt (((r_18 &&& x2) >>> (y_22 &&& 31)) &&& (1 : Int32)) (fun x_44 => if x_44 = (1 : Int32) then lt (y_22 + (-1)) (fun x_47 => some (.inl (y_22, x_47))) else lt (y_22 + (-1)) (fun x_46 => some (.inl (y_21, x_46)))))) σ
def m_X10_keyOf_L22 (x1 : Int32) (x2 : Int32) (r_2 : Int32) (t : ST) (σ : Int32 × Int32) : Option ((Int32 × Int32) ⊕ ((Int32) ⊕ (Int32))) := (fun (q_53 : Int32 × Int32) => un q_53 (fun y_6 y_7 => if (t.1 1) ≤ y_7 then some (.inr (.inl y_6)) else Option.bind (m_X10_joinedWith t x1 y_7) (fun (r_18 : Int32) => Option.bind ((if ((r_2 >>> (y_7 &&& 31)) &&& (1 : Int32)) = (1 : Int32) then if (r_18 &&& x2) = 0 then some (.inr (.inr (.inr (-1 : Int32)))) else some (.inl ()) else some (.inl ())) : Option ((Unit) ⊕ ((Int32 × Int32) ⊕ ((Int32) ⊕ (Int32))))) (fun z_52 => ex z_52 (fun (_ : Unit) => lt ((t.1 1) - (1 : Int32)) (fun x_20 => Option.bind (vLoop (m_X10_keyOf_L71 x2 r_18) FUEL ((7 : Int32), x_20)) (fun (j_23 : Int32) => Option.bind (if ((x2 >>> (y_7 &&& 31)) &&& (1 : Int32)) = (1 : Int32) then some (1 : Int32) else some (0 : Int32)) (fun (j_25 : Int32) => if j_25 = 0 then lt (((16 : Int32) * y_6) + (15 : Int32)) (fun x_27 => lt (y_7 + 1) (fun x_28 => some (.inl (x_27, x_28)))) else if (r_18 &&& r_2) = 0 then lt (((16 : Int32) * y_6) + (((2 : Int32) * j_23) + (0 : Int32))) (fun x_30 => lt (y_7 + 1) (fun x_31 => some (.inl (x_30, x_31)))) else lt (((16 : Int32) * y_6) + (((2 : Int32) * j_23) + (1 : Int32))) (fun x_32 => lt (y_7 + 1) (fun x_33 => some (.inl (x_32, x_33)))))))) (fun r => some r))))) σ
def m_X10_keyOf (t : ST) (x1 : Int32) (x2 : Int32) : Option (Int32) := Option.bind (m_X10_wanted t) (fun (r_2 : Int32) => Option.bind (m_X10_reaches t x1 r_2) (fun (r_4 : Int32) => if r_4 = 0 then Option.bind (vLoop (m_X10_keyOf_L22 x1 x2 r_2 t) FUEL ((0 : Int32), (0 : Int32))) (fun z => ex z (fun (j_8 : Int32) => some j_8) (fun r_55 => some r_55)) else some (-1 : Int32)))
theorem yo_X10_keyOf : yX10_keyOf.cls = RX10 ∧ yX10_keyOf.cls ≠ "java/lang/invoke/MethodHandle" ∧ yX10_keyOf.cls ≠ "java/lang/invoke/VarHandle" ∧ (parseMethodDescriptor yX10_keyOf.desc).map (fun d => d.parameters.length) = some 2 := by decide +kernel
set_option maxHeartbeats 4000000 in
set_option maxRecDepth 100000 in
theorem c_X10_keyOf {l : Launch} {g : gT} {h : Nat → Nat} {t : ST} {x1 : Int32} {x2 : Int32} {r : Int32} (hm : m_X10_keyOf t x1 x2 = some r) : MetI l g yX10_keyOf cX10_keyOf 9 (some .int) 2 48 20 h (cM g h t) (cM g h t) [.ref (h 0), .int x1, .int x2] r := by
  refine MetI.ofX (by decide +kernel) (Nat.le_of_ble_eq_true rfl) ?_
  intro p e s m below meth c AV Q X hret ls hw hl
  replace X : Cx g p s m AV c cX10_keyOf RX10 9 := X
  replace hl : lv_has ls 9 [(0, .ref (h 0)), (1, .int x1), (2, .int x2)] := hl
  unfold m_X10_keyOf at hm
  refine lv_aload_n X.1 X.2.1 dX10_keyOf_0 rfl (lv_at hl 0 rfl) ?_
  replace hm := ob_e hm
  obtain ⟨r_2, h_1, hm⟩ := hm
  refine k_Vi (k := 0) (As := []) X hl.1 hw (c_X10_wanted h_1) (by decide) (he_X10 g h _) rfl ⟨wq_18_8, wq_18_9, wq_18_10, wq_1_5, wq_18_11⟩ yo_X10_wanted rfl ⟨Nat.le_of_ble_eq_true rfl, Nat.le_of_ble_eq_true rfl⟩ (Nat.le_of_ble_eq_true rfl) dX10_keyOf_1 (fun H locs hw => ?_)
  refine lv_istore_n (lv' := [(3, .int r_2), (0, .ref (h 0)), (1, .int x1), (2, .int x2)]) X.1 X.2.1 dX10_keyOf_4 rfl hl (by decide) rfl (fun ls hl => ?_)
  refine lv_aload_n X.1 X.2.1 dX10_keyOf_5 rfl (lv_at hl 1 rfl) ?_
  refine lv_iload_n X.1 X.2.1 dX10_keyOf_6 rfl (lv_at hl 2 rfl) ?_
  refine lv_iload_n X.1 X.2.1 dX10_keyOf_7 rfl (lv_at hl 0 rfl) ?_
  replace hm := ob_e hm
  obtain ⟨r_4, h_3, hm⟩ := hm
  refine k_Vi (k := 0) (As := [.int x1, .int r_2]) X hl.1 hw (c_X10_reaches h_3) (by decide) (he_X10 g h _) rfl ⟨wq_31_2, wq_31_3, wq_31_4, wq_1_5, wq_31_5⟩ yo_X10_reaches rfl ⟨Nat.le_of_ble_eq_true rfl, Nat.le_of_ble_eq_true rfl⟩ (Nat.le_of_ble_eq_true rfl) dX10_keyOf_8 (fun H locs hw => ?_)
  refine lv_if_eq (tgt := 16) X.1 X.2.1 dX10_keyOf_11 (by decide) (fun c_5 => ?_) (fun c_5 => ?_)
  · replace hm := it_p hm c_5
    refine lv_iconst (v := 0) X.1 X.2.1 dX10_keyOf_16 (by decide) ?_
    refine lv_istore (lv' := [(4, .int (0 : Int32)), (3, .int r_2), (0, .ref (h 0)), (1, .int x1), (2, .int x2)]) X.1 X.2.1 dX10_keyOf_17 hl (by decide) rfl (fun ls hl => ?_)
    refine lv_iconst (v := 0) X.1 X.2.1 dX10_keyOf_19 (by decide) ?_
    refine lv_istore (lv' := [(5, .int (0 : Int32)), (4, .int (0 : Int32)), (3, .int r_2), (0, .ref (h 0)), (1, .int x1), (2, .int x2)]) X.1 X.2.1 dX10_keyOf_20 hl (by decide) rfl (fun ls hl => ?_)
    replace hm := ob_e hm
    obtain ⟨z_54, hL_14, hm⟩ := hm
    have J_13 : ∀ (j_8 : Int32), z_54 = .inl j_8 → ∀ (H : Heap) (locs : List Loc) (ls : Array Slot), Wd g 20 h (cM g h t) s H locs → lv_has ls 9 [(4, .int j_8)] → W p l e (rW 2 48) s m AV below meth c H locs 0 0 Q (F0 m 162 ls []) := by
      intro j_8 hj
      subst hj
      replace hm := ex_l hm
      intro H locs ls hw hl
      refine lv_iload X.1 X.2.1 dX10_keyOf_162 (lv_at hl 0 rfl) ?_
      obtain rfl := Option.some.inj hm
      exact hret _ _ _ _ hw dX10_keyOf_164
    refine vLoop_ind (B := (m_X10_keyOf_L22 x1 x2 r_2 t)) (fun σ => ∀ (H : Heap) (locs : List Loc) (ls : Array Slot), Wd g 20 h (cM g h t) s H locs → lv_has ls 9 [(0, .ref (h 0)), (1, .int x1), (2, .int x2), (3, .int r_2), (4, .int σ.1), (5, .int σ.2)] → W p l e (rW 2 48) s m AV below meth c H locs 0 0 Q (F0 m 22 ls [])) (fun z' => z' = z_54) ?_ FUEL _ _ hL_14 rfl _ _ _ hw (lv_sub hl [3, 4, 5, 2, 1, 0] rfl)
    intro σ z_12 hz_9 hn_10 hx_11
    obtain ⟨y_6, y_7⟩ := σ
    intro H locs ls hw hl
    replace hw : Wd g 20 h (cM g h t) s H locs := hw
    replace hl : lv_has ls 9 [(0, .ref (h 0)), (1, .int x1), (2, .int x2), (3, .int r_2), (4, .int y_6), (5, .int y_7)] := hl
    unfold m_X10_keyOf_L22 at hz_9
    replace hz_9 := un_e hz_9
    refine lv_iload X.1 X.2.1 dX10_keyOf_22 (lv_at hl 5 rfl) ?_
    refine lv_aload_n X.1 X.2.1 dX10_keyOf_24 rfl (lv_at hl 0 rfl) ?_
    refine gX10_stations X hw wq_6_4 dX10_keyOf_25 ?_
    refine lv_icmp_ge (tgt := 162) X.1 X.2.1 dX10_keyOf_28 (by decide) (fun c_16 => ?_) (fun c_16 => ?_)
    · replace hz_9 := it_p hz_9 c_16
      have he_15 := hx_11 _ (Option.some.inj hz_9).symm
      exact J_13 _ he_15.symm _ _ _ hw (lv_sub hl [4] rfl)
    · replace hz_9 := it_n hz_9 c_16
      refine lv_aload_n X.1 X.2.1 dX10_keyOf_31 rfl (lv_at hl 0 rfl) ?_
      refine lv_iload_n X.1 X.2.1 dX10_keyOf_32 rfl (lv_at hl 1 rfl) ?_
      refine lv_iload X.1 X.2.1 dX10_keyOf_33 (lv_at hl 5 rfl) ?_
      replace hz_9 := ob_e hz_9
      obtain ⟨r_18, h_17, hz_9⟩ := hz_9
      refine k_Vi (k := 0) (As := [.int x1, .int y_7]) X hl.1 hw (c_X10_joinedWith h_17) (by decide) (he_X10 g h _) rfl ⟨wq_18_20, wq_18_21, wq_18_22, wq_1_5, wq_18_23⟩ yo_X10_joinedWith rfl ⟨Nat.le_of_ble_eq_true rfl, Nat.le_of_ble_eq_true rfl⟩ (Nat.le_of_ble_eq_true rfl) dX10_keyOf_35 (fun H locs hw => ?_)
      refine lv_istore (lv' := [(6, .int r_18), (0, .ref (h 0)), (1, .int x1), (2, .int x2), (3, .int r_2), (4, .int y_6), (5, .int y_7)]) X.1 X.2.1 dX10_keyOf_38 hl (by decide) rfl (fun ls hl => ?_)
      refine lv_iload_n X.1 X.2.1 dX10_keyOf_40 rfl (lv_at hl 4 rfl) ?_
      refine lv_iload X.1 X.2.1 dX10_keyOf_41 (lv_at hl 6 rfl) ?_
      refine lv_ishr X.1 X.2.1 dX10_keyOf_43 ?_
      refine lv_iconst (v := 1) X.1 X.2.1 dX10_keyOf_44 (by decide) ?_
      refine lv_iand X.1 X.2.1 dX10_keyOf_45 ?_
      refine lv_iconst (v := 1) X.1 X.2.1 dX10_keyOf_46 (by decide) ?_
      replace hz_9 := ob_e hz_9
      obtain ⟨z_52, hg_49, hz_9⟩ := hz_9
      have J_50 : z_52 = .inl () → ∀ (H : Heap) (locs : List Loc) (ls : Array Slot), Wd g 20 h (cM g h t) s H locs → lv_has ls 9 [(0, .ref (h 0)), (1, .int x1), (2, .int x2), (3, .int r_2), (4, .int y_6), (5, .int y_7), (6, .int r_18)] → W p l e (rW 2 48) s m AV below meth c H locs 0 0 Q (F0 m 59 ls []) := by
        intro hj
        subst hj
        replace hz_9 := ex_l hz_9
        intro H locs ls hw hl
        refine lv_bipush (v := 7) X.1 X.2.1 dX10_keyOf_59 (by decide) ?_
        refine lv_istore (lv' := [(7, .int (7 : Int32)), (0, .ref (h 0)), (1, .int x1), (2, .int x2), (3, .int r_2), (4, .int y_6), (5, .int y_7), (6, .int r_18)]) X.1 X.2.1 dX10_keyOf_61 hl (by decide) rfl (fun ls hl => ?_)
        refine lv_aload_n X.1 X.2.1 dX10_keyOf_63 rfl (lv_at hl 1 rfl) ?_
        refine gX10_stations X hw wq_6_4 dX10_keyOf_64 ?_
        refine lv_iconst (v := 1) X.1 X.2.1 dX10_keyOf_67 (by decide) ?_
        refine lv_isub X.1 X.2.1 dX10_keyOf_68 ?_
        refine lv_topi (fun x_20 ex_20 => ?_)
        replace hz_9 := lt_e hz_9 ex_20
        refine lv_istore (lv' := [(8, .int x_20), (7, .int (7 : Int32)), (0, .ref (h 0)), (1, .int x1), (2, .int x2), (3, .int r_2), (4, .int y_6), (5, .int y_7), (6, .int r_18)]) X.1 X.2.1 dX10_keyOf_69 hl (by decide) rfl (fun ls hl => ?_)
        replace hz_9 := ob_e hz_9
        obtain ⟨j_23, hL_41, hz_9⟩ := hz_9
        have J_40 : ∀ (H : Heap) (locs : List Loc) (ls : Array Slot), Wd g 20 h (cM g h t) s H locs → lv_has ls 9 [(0, .ref (h 0)), (1, .int x1), (2, .int x2), (3, .int r_2), (4, .int y_6), (5, .int y_7), (6, .int r_18), (7, .int j_23)] → W p l e (rW 2 48) s m AV below meth c H locs 0 0 Q (F0 m 104 ls []) := by
          intro H locs ls hw hl
          refine lv_iload_n X.1 X.2.1 dX10_keyOf_104 rfl (lv_at hl 2 rfl) ?_
          refine lv_iload X.1 X.2.1 dX10_keyOf_105 (lv_at hl 5 rfl) ?_
          refine lv_ishr X.1 X.2.1 dX10_keyOf_107 ?_
          refine lv_iconst (v := 1) X.1 X.2.1 dX10_keyOf_108 (by decide) ?_
          refine lv_iand X.1 X.2.1 dX10_keyOf_109 ?_
          refine lv_iconst (v := 1) X.1 X.2.1 dX10_keyOf_110 (by decide) ?_
          replace hz_9 := ob_e hz_9
          obtain ⟨j_25, hg_34, hz_9⟩ := hz_9
          have J_35 : ∀ (H : Heap) (locs : List Loc) (ls : Array Slot), Wd g 20 h (cM g h t) s H locs → lv_has ls 9 [(0, .ref (h 0)), (1, .int x1), (2, .int x2), (3, .int r_2), (4, .int y_6), (5, .int y_7), (6, .int r_18), (7, .int j_23)] → W p l e (rW 2 48) s m AV below meth c H locs 0 0 Q (F0 m 119 ls [.int j_25]) := by
            intro H locs ls hw hl
            refine lv_istore (lv' := [(8, .int j_25), (0, .ref (h 0)), (1, .int x1), (2, .int x2), (3, .int r_2), (4, .int y_6), (5, .int y_7), (6, .int r_18), (7, .int j_23)]) X.1 X.2.1 dX10_keyOf_119 hl (by decide) rfl (fun ls hl => ?_)
            refine lv_bipush (v := 16) X.1 X.2.1 dX10_keyOf_121 (by decide) ?_
            refine lv_iload X.1 X.2.1 dX10_keyOf_123 (lv_at hl 5 rfl) ?_
            refine lv_imul X.1 X.2.1 dX10_keyOf_125 ?_
            refine lv_iload X.1 X.2.1 dX10_keyOf_126 (lv_at hl 0 rfl) ?_
            refine lv_if_eq (tgt := 151) X.1 X.2.1 dX10_keyOf_128 (by decide) (fun c_26 => ?_) (fun c_26 => ?_)
            · replace hz_9 := it_p hz_9 c_26
              refine lv_bipush (v := 15) X.1 X.2.1 dX10_keyOf_151 (by decide) ?_
              refine lv_iadd X.1 X.2.1 dX10_keyOf_153 ?_
              refine lv_topi (fun x_27 ex_27 => ?_)
              replace hz_9 := lt_e hz_9 ex_27
              refine lv_istore (lv' := [(4, .int x_27), (8, .int j_25), (0, .ref (h 0)), (1, .int x1), (2, .int x2), (3, .int r_2), (5, .int y_7), (6, .int r_18), (7, .int j_23)]) X.1 X.2.1 dX10_keyOf_154 hl (by decide) rfl (fun ls hl => ?_)
              obtain ⟨x_28, ex_28⟩ : ∃ y : Int32, y = y_7 + 1 := ⟨_, rfl⟩
              replace hz_9 := lt_e hz_9 ex_28
              refine lv_iinc (v := x_28) (lv' := [(5, .int x_28), (4, .int x_27), (8, .int j_25), (0, .ref (h 0)), (1, .int x1), (2, .int x2), (3, .int r_2), (6, .int r_18), (7, .int j_23)]) X.1 X.2.1 dX10_keyOf_156 hl (k := 6) rfl (by rw [ex_28]; rfl) (by decide) rfl (fun ls hl => ?_)
              refine lv_goto (tgt := 22) X.1 X.2.1 dX10_keyOf_159 (by decide) ?_
              exact hn_10 _ (Option.some.inj hz_9).symm _ _ _ hw (lv_sub hl [3, 4, 5, 6, 1, 0] rfl)
            · replace hz_9 := it_n hz_9 c_26
              refine lv_iconst (v := 2) X.1 X.2.1 dX10_keyOf_131 (by decide) ?_
              refine lv_iload X.1 X.2.1 dX10_keyOf_132 (lv_at hl 8 rfl) ?_
              refine lv_imul X.1 X.2.1 dX10_keyOf_134 ?_
              refine lv_iload X.1 X.2.1 dX10_keyOf_135 (lv_at hl 7 rfl) ?_
              refine lv_iload_n X.1 X.2.1 dX10_keyOf_137 rfl (lv_at hl 4 rfl) ?_
              refine lv_iand X.1 X.2.1 dX10_keyOf_138 ?_
              refine lv_if_eq (tgt := 146) X.1 X.2.1 dX10_keyOf_139 (by decide) (fun c_29 => ?_) (fun c_29 => ?_)
              · replace hz_9 := it_p hz_9 c_29
                refine lv_iconst (v := 0) X.1 X.2.1 dX10_keyOf_146 (by decide) ?_
                refine lv_iadd X.1 X.2.1 dX10_keyOf_147 ?_
                refine lv_goto (tgt := 153) X.1 X.2.1 dX10_keyOf_148 (by decide) ?_
                refine lv_iadd X.1 X.2.1 dX10_keyOf_153 ?_
                refine lv_topi (fun x_30 ex_30 => ?_)
                replace hz_9 := lt_e hz_9 ex_30
                refine lv_istore (lv' := [(4, .int x_30), (8, .int j_25), (0, .ref (h 0)), (1, .int x1), (2, .int x2), (3, .int r_2), (5, .int y_7), (6, .int r_18), (7, .int j_23)]) X.1 X.2.1 dX10_keyOf_154 hl (by decide) rfl (fun ls hl => ?_)
                obtain ⟨x_31, ex_31⟩ : ∃ y : Int32, y = y_7 + 1 := ⟨_, rfl⟩
                replace hz_9 := lt_e hz_9 ex_31
                refine lv_iinc (v := x_31) (lv' := [(5, .int x_31), (4, .int x_30), (8, .int j_25), (0, .ref (h 0)), (1, .int x1), (2, .int x2), (3, .int r_2), (6, .int r_18), (7, .int j_23)]) X.1 X.2.1 dX10_keyOf_156 hl (k := 6) rfl (by rw [ex_31]; rfl) (by decide) rfl (fun ls hl => ?_)
                refine lv_goto (tgt := 22) X.1 X.2.1 dX10_keyOf_159 (by decide) ?_
                exact hn_10 _ (Option.some.inj hz_9).symm _ _ _ hw (lv_sub hl [3, 4, 5, 6, 1, 0] rfl)
              · replace hz_9 := it_n hz_9 c_29
                refine lv_iconst (v := 1) X.1 X.2.1 dX10_keyOf_142 (by decide) ?_
                refine lv_goto (tgt := 147) X.1 X.2.1 dX10_keyOf_143 (by decide) ?_
                refine lv_iadd X.1 X.2.1 dX10_keyOf_147 ?_
                refine lv_goto (tgt := 153) X.1 X.2.1 dX10_keyOf_148 (by decide) ?_
                refine lv_iadd X.1 X.2.1 dX10_keyOf_153 ?_
                refine lv_topi (fun x_32 ex_32 => ?_)
                replace hz_9 := lt_e hz_9 ex_32
                refine lv_istore (lv' := [(4, .int x_32), (8, .int j_25), (0, .ref (h 0)), (1, .int x1), (2, .int x2), (3, .int r_2), (5, .int y_7), (6, .int r_18), (7, .int j_23)]) X.1 X.2.1 dX10_keyOf_154 hl (by decide) rfl (fun ls hl => ?_)
                obtain ⟨x_33, ex_33⟩ : ∃ y : Int32, y = y_7 + 1 := ⟨_, rfl⟩
                replace hz_9 := lt_e hz_9 ex_33
                refine lv_iinc (v := x_33) (lv' := [(5, .int x_33), (4, .int x_32), (8, .int j_25), (0, .ref (h 0)), (1, .int x1), (2, .int x2), (3, .int r_2), (6, .int r_18), (7, .int j_23)]) X.1 X.2.1 dX10_keyOf_156 hl (k := 6) rfl (by rw [ex_33]; rfl) (by decide) rfl (fun ls hl => ?_)
                refine lv_goto (tgt := 22) X.1 X.2.1 dX10_keyOf_159 (by decide) ?_
                exact hn_10 _ (Option.some.inj hz_9).symm _ _ _ hw (lv_sub hl [3, 4, 5, 6, 1, 0] rfl)
          refine lv_icmp_ne (tgt := 118) X.1 X.2.1 dX10_keyOf_111 (by decide) (fun c_24 => ?_) (fun c_24 => ?_)
          · replace hg_34 := it_n hg_34 c_24
            refine lv_iconst (v := 0) X.1 X.2.1 dX10_keyOf_118 (by decide) ?_
            obtain rfl := Option.some.inj hg_34
            exact J_35 _ _ _ hw (lv_sub hl [0, 1, 2, 3, 4, 5, 6, 7] rfl)
          · replace hg_34 := it_p hg_34 c_24
            refine lv_iconst (v := 1) X.1 X.2.1 dX10_keyOf_114 (by decide) ?_
            refine lv_goto (tgt := 119) X.1 X.2.1 dX10_keyOf_115 (by decide) ?_
            obtain rfl := Option.some.inj hg_34
            exact J_35 _ _ _ hw (lv_sub hl [0, 1, 2, 3, 4, 5, 6, 7] rfl)
        refine vLoop_ind (B := (m_X10_keyOf_L71 x2 r_18)) (fun σ => ∀ (H : Heap) (locs : List Loc) (ls : Array Slot), Wd g 20 h (cM g h t) s H locs → lv_has ls 9 [(0, .ref (h 0)), (1, .int x1), (2, .int x2), (3, .int r_2), (4, .int y_6), (5, .int y_7), (6, .int r_18), (7, .int σ.1), (8, .int σ.2)] → W p l e (rW 2 48) s m AV below meth c H locs 0 0 Q (F0 m 71 ls [])) (fun z' => z' = j_23) ?_ FUEL _ _ hL_41 rfl _ _ _ hw (lv_sub hl [2, 3, 4, 5, 6, 7, 8, 1, 0] rfl)
        intro σ z_39 hz_36 hn_37 hx_38
        obtain ⟨y_21, y_22⟩ := σ
        intro H locs ls hw hl
        replace hw : Wd g 20 h (cM g h t) s H locs := hw
        replace hl : lv_has ls 9 [(0, .ref (h 0)), (1, .int x1), (2, .int x2), (3, .int r_2), (4, .int y_6), (5, .int y_7), (6, .int r_18), (7, .int y_21), (8, .int y_22)] := hl
        unfold m_X10_keyOf_L71 at hz_36
        replace hz_36 := un_e hz_36
        refine lv_iload X.1 X.2.1 dX10_keyOf_71 (lv_at hl 8 rfl) ?_
        refine lv_if_lt (tgt := 104) X.1 X.2.1 dX10_keyOf_73 (by decide) (fun c_43 => ?_) (fun c_43 => ?_)
        · replace hz_36 := it_p hz_36 c_43
          obtain rfl := hx_38 _ (Option.some.inj hz_36).symm
          exact J_40 _ _ _ hw (lv_sub hl [0, 1, 2, 3, 4, 5, 6, 7] rfl)
        · replace hz_36 := it_n hz_36 c_43
          refine lv_iload X.1 X.2.1 dX10_keyOf_76 (lv_at hl 6 rfl) ?_
          refine lv_iload_n X.1 X.2.1 dX10_keyOf_78 rfl (lv_at hl 2 rfl) ?_
          refine lv_iand X.1 X.2.1 dX10_keyOf_79 ?_
          refine lv_iload X.1 X.2.1 dX10_keyOf_80 (lv_at hl 8 rfl) ?_
          refine lv_ishr X.1 X.2.1 dX10_keyOf_82 ?_
          refine lv_iconst (v := 1) X.1 X.2.1 dX10_keyOf_83 (by decide) ?_
          refine lv_iand X.1 X.2.1 dX10_keyOf_84 ?_
          refine lv_topi (fun x_44 ex_44 => ?_)
          replace hz_36 := lt_e hz_36 ex_44
          refine lv_iconst (v := 1) X.1 X.2.1 dX10_keyOf_85 (by decide) ?_
          refine lv_icmp_ne (tgt := 94) X.1 X.2.1 dX10_keyOf_86 (by decide) (fun c_45 => ?_) (fun c_45 => ?_)
          · replace hz_36 := it_n hz_36 c_45
            refine lv_iload X.1 X.2.1 dX10_keyOf_94 (lv_at hl 7 rfl) ?_
            refine lv_istore (lv' := [(7, .int y_21), (0, .ref (h 0)), (1, .int x1), (2, .int x2), (3, .int r_2), (4, .int y_6), (5, .int y_7), (6, .int r_18), (8, .int y_22)]) X.1 X.2.1 dX10_keyOf_96 hl (by decide) rfl (fun ls hl => ?_)
            obtain ⟨x_46, ex_46⟩ : ∃ y : Int32, y = y_22 + (-1) := ⟨_, rfl⟩
            replace hz_36 := lt_e hz_36 ex_46
            refine lv_iinc (v := x_46) (lv' := [(8, .int x_46), (7, .int y_21), (0, .ref (h 0)), (1, .int x1), (2, .int x2), (3, .int r_2), (4, .int y_6), (5, .int y_7), (6, .int r_18)]) X.1 X.2.1 dX10_keyOf_98 hl (k := 8) rfl (by rw [ex_46]; rfl) (by decide) rfl (fun ls hl => ?_)
            refine lv_goto (tgt := 71) X.1 X.2.1 dX10_keyOf_101 (by decide) ?_
            exact hn_37 _ (Option.some.inj hz_36).symm _ _ _ hw (lv_sub hl [2, 3, 4, 5, 6, 7, 8, 1, 0] rfl)
          · replace hz_36 := it_p hz_36 c_45
            refine lv_iload X.1 X.2.1 dX10_keyOf_89 (lv_at hl 8 rfl) ?_
            refine lv_goto (tgt := 96) X.1 X.2.1 dX10_keyOf_91 (by decide) ?_
            refine lv_istore (lv' := [(7, .int y_22), (0, .ref (h 0)), (1, .int x1), (2, .int x2), (3, .int r_2), (4, .int y_6), (5, .int y_7), (6, .int r_18), (8, .int y_22)]) X.1 X.2.1 dX10_keyOf_96 hl (by decide) rfl (fun ls hl => ?_)
            obtain ⟨x_47, ex_47⟩ : ∃ y : Int32, y = y_22 + (-1) := ⟨_, rfl⟩
            replace hz_36 := lt_e hz_36 ex_47
            refine lv_iinc (v := x_47) (lv' := [(8, .int x_47), (7, .int y_22), (0, .ref (h 0)), (1, .int x1), (2, .int x2), (3, .int r_2), (4, .int y_6), (5, .int y_7), (6, .int r_18)]) X.1 X.2.1 dX10_keyOf_98 hl (k := 8) rfl (by rw [ex_47]; rfl) (by decide) rfl (fun ls hl => ?_)
            refine lv_goto (tgt := 71) X.1 X.2.1 dX10_keyOf_101 (by decide) ?_
            exact hn_37 _ (Option.some.inj hz_36).symm _ _ _ hw (lv_sub hl [2, 3, 4, 5, 6, 7, 8, 1, 0] rfl)
      refine lv_icmp_ne (tgt := 59) X.1 X.2.1 dX10_keyOf_47 (by decide) (fun c_19 => ?_) (fun c_19 => ?_)
      · replace hg_49 := it_n hg_49 c_19
        exact J_50 (Option.some.inj hg_49).symm _ _ _ hw (lv_sub hl [1, 2, 3, 4, 5, 6, 0] rfl)
      · replace hg_49 := it_p hg_49 c_19
        refine lv_iload X.1 X.2.1 dX10_keyOf_50 (lv_at hl 0 rfl) ?_
        refine lv_iload_n X.1 X.2.1 dX10_keyOf_52 rfl (lv_at hl 3 rfl) ?_
        refine lv_iand X.1 X.2.1 dX10_keyOf_53 ?_
        refine lv_if_ne (tgt := 59) X.1 X.2.1 dX10_keyOf_54 (by decide) (fun c_51 => ?_) (fun c_51 => ?_)
        · replace hg_49 := it_n hg_49 c_51
          exact J_50 (Option.some.inj hg_49).symm _ _ _ hw (lv_sub hl [1, 2, 3, 4, 5, 6, 0] rfl)
        · replace hg_49 := it_p hg_49 c_51
          refine lv_iconst (v := -1) X.1 X.2.1 dX10_keyOf_57 (by decide) ?_
          obtain rfl := Option.some.inj hg_49
          replace hz_9 := ex_r hz_9
          have he_15 := hx_11 _ (Option.some.inj hz_9).symm
          subst he_15
          replace hm := ex_r hm
          obtain rfl := Option.some.inj hm
          exact hret _ _ _ _ hw dX10_keyOf_58
  · replace hm := it_n hm c_5
    refine lv_iconst (v := -1) X.1 X.2.1 dX10_keyOf_14 (by decide) ?_
    obtain rfl := Option.some.inj hm
    exact hret _ _ _ _ hw dX10_keyOf_15
def m_X10_isPossible_L5 (x1 : Int32) (x2 : Int32) (t : ST) (σ : Int32 × Int32) : Option ((Int32 × Int32) ⊕ (Int32)) := (fun (q_34 : Int32 × Int32) => un q_34 (fun y_1 y_2 => if x2 < y_2 then some (.inr y_1) else lt ((x1 >>> (y_2 &&& 31)) &&& (1 : Int32)) (fun x_13 => if y_1 = 0 then lt (y_2 + 1) (fun x_15 => some (.inl ((0 : Int32), x_15))) else gd (¬ (y_2 < 0 ∨ 10 ≤ y_2.toNatClampNeg)) (if 0 < (t.2.2.1 6 y_2.toNatClampNeg) then gd (¬ (y_2 < 0 ∨ 10 ≤ y_2.toNatClampNeg)) (gd (¬ (y_2 < 0 ∨ 10 ≤ y_2.toNatClampNeg)) (if (t.2.2.1 6 y_2.toNatClampNeg) < (t.2.2.1 7 y_2.toNatClampNeg) then lt (y_2 + 1) (fun x_21 => some (.inl ((1 : Int32), x_21))) else if x_13 = (1 : Int32) then lt (y_2 + 1) (fun x_24 => some (.inl ((1 : Int32), x_24))) else lt (y_2 + 1) (fun x_23 => some (.inl ((0 : Int32), x_23))))) else if x_13 = 0 then gd (¬ (y_2 < 0 ∨ 10 ≤ y_2.toNatClampNeg)) (gd (¬ (y_2 < 0 ∨ 10 ≤ y_2.toNatClampNeg)) (if (t.2.2.1 6 y_2.toNatClampNeg) < (t.2.2.1 7 y_2.toNatClampNeg) then lt (y_2 + 1) (fun x_30 => some (.inl ((1 : Int32), x_30))) else if x_13 = (1 : Int32) then lt (y_2 + 1) (fun x_33 => some (.inl ((1 : Int32), x_33))) else lt (y_2 + 1) (fun x_32 => some (.inl ((0 : Int32), x_32))))) else lt (y_2 + 1) (fun x_26 => some (.inl ((0 : Int32), x_26))))))) σ
def m_X10_isPossible (t : ST) (x1 : Int32) (x2 : Int32) : Option (Int32) := Option.bind (vLoop (m_X10_isPossible_L5 x1 x2 t) FUEL ((1 : Int32), (0 : Int32))) (fun (j_3 : Int32) => gd (j_3 = 0 ∨ j_3 = 1) (some j_3))
theorem yo_X10_isPossible : yX10_isPossible.cls = RX10 ∧ yX10_isPossible.cls ≠ "java/lang/invoke/MethodHandle" ∧ yX10_isPossible.cls ≠ "java/lang/invoke/VarHandle" ∧ (parseMethodDescriptor yX10_isPossible.desc).map (fun d => d.parameters.length) = some 2 := by decide +kernel
set_option maxHeartbeats 4000000 in
set_option maxRecDepth 100000 in
theorem c_X10_isPossible {l : Launch} {g : gT} {h : Nat → Nat} {t : ST} {x1 : Int32} {x2 : Int32} {r : Int32} (hm : m_X10_isPossible t x1 x2 = some r) : MetI l g yX10_isPossible cX10_isPossible 6 (some .boolean) 0 0 20 h (cM g h t) (cM g h t) [.ref (h 0), .int x1, .int x2] r := by
  refine MetZ.ofX (by decide +kernel) (Nat.le_of_ble_eq_true rfl) ?_
  intro p e s m below meth c AV Q X hret ls hw hl
  replace X : Cx g p s m AV c cX10_isPossible RX10 6 := X
  replace hl : lv_has ls 6 [(0, .ref (h 0)), (1, .int x1), (2, .int x2)] := hl
  unfold m_X10_isPossible at hm
  refine lv_iconst (v := 1) X.1 X.2.1 dX10_isPossible_0 (by decide) ?_
  refine lv_istore_n (lv' := [(3, .int (1 : Int32)), (0, .ref (h 0)), (1, .int x1), (2, .int x2)]) X.1 X.2.1 dX10_isPossible_1 rfl hl (by decide) rfl (fun ls hl => ?_)
  refine lv_iconst (v := 0) X.1 X.2.1 dX10_isPossible_2 (by decide) ?_
  refine lv_istore (lv' := [(4, .int (0 : Int32)), (3, .int (1 : Int32)), (0, .ref (h 0)), (1, .int x1), (2, .int x2)]) X.1 X.2.1 dX10_isPossible_3 hl (by decide) rfl (fun ls hl => ?_)
  replace hm := ob_e hm
  obtain ⟨j_3, hL_10, hm⟩ := hm
  have J_9 : ∀ (H : Heap) (locs : List Loc) (ls : Array Slot), Wd g 20 h (cM g h t) s H locs → lv_has ls 6 [(3, .int j_3)] → W p l e (rW 0 0) s m AV below meth c H locs 0 0 Q (F0 m 73 ls []) := by
    intro H locs ls hw hl
    refine lv_iload_n X.1 X.2.1 dX10_isPossible_73 rfl (lv_at hl 0 rfl) ?_
    replace hm := gd_e hm
    obtain ⟨g_4, hm⟩ := hm
    obtain rfl := Option.some.inj hm
    exact hret _ _ _ _ hw dX10_isPossible_74 g_4
  refine vLoop_ind (B := (m_X10_isPossible_L5 x1 x2 t)) (fun σ => ∀ (H : Heap) (locs : List Loc) (ls : Array Slot), Wd g 20 h (cM g h t) s H locs → lv_has ls 6 [(0, .ref (h 0)), (1, .int x1), (2, .int x2), (3, .int σ.1), (4, .int σ.2)] → W p l e (rW 0 0) s m AV below meth c H locs 0 0 Q (F0 m 5 ls [])) (fun z' => z' = j_3) ?_ FUEL _ _ hL_10 rfl _ _ _ hw (lv_sub hl [2, 3, 4, 1, 0] rfl)
  intro σ z_8 hz_5 hn_6 hx_7
  obtain ⟨y_1, y_2⟩ := σ
  intro H locs ls hw hl
  replace hw : Wd g 20 h (cM g h t) s H locs := hw
  replace hl : lv_has ls 6 [(0, .ref (h 0)), (1, .int x1), (2, .int x2), (3, .int y_1), (4, .int y_2)] := hl
  unfold m_X10_isPossible_L5 at hz_5
  replace hz_5 := un_e hz_5
  refine lv_iload X.1 X.2.1 dX10_isPossible_5 (lv_at hl 4 rfl) ?_
  refine lv_iload_n X.1 X.2.1 dX10_isPossible_7 rfl (lv_at hl 2 rfl) ?_
  refine lv_icmp_gt (tgt := 73) X.1 X.2.1 dX10_isPossible_8 (by decide) (fun c_12 => ?_) (fun c_12 => ?_)
  · replace hz_5 := it_p hz_5 c_12
    obtain rfl := hx_7 _ (Option.some.inj hz_5).symm
    exact J_9 _ _ _ hw (lv_sub hl [3] rfl)
  · replace hz_5 := it_n hz_5 c_12
    refine lv_iload_n X.1 X.2.1 dX10_isPossible_11 rfl (lv_at hl 1 rfl) ?_
    refine lv_iload X.1 X.2.1 dX10_isPossible_12 (lv_at hl 4 rfl) ?_
    refine lv_ishr X.1 X.2.1 dX10_isPossible_14 ?_
    refine lv_iconst (v := 1) X.1 X.2.1 dX10_isPossible_15 (by decide) ?_
    refine lv_iand X.1 X.2.1 dX10_isPossible_16 ?_
    refine lv_topi (fun x_13 ex_13 => ?_)
    replace hz_5 := lt_e hz_5 ex_13
    refine lv_istore (lv' := [(5, .int x_13), (0, .ref (h 0)), (1, .int x1), (2, .int x2), (3, .int y_1), (4, .int y_2)]) X.1 X.2.1 dX10_isPossible_17 hl (by decide) rfl (fun ls hl => ?_)
    refine lv_iload_n X.1 X.2.1 dX10_isPossible_19 rfl (lv_at hl 4 rfl) ?_
    refine lv_if_eq (tgt := 65) X.1 X.2.1 dX10_isPossible_20 (by decide) (fun c_14 => ?_) (fun c_14 => ?_)
    · replace hz_5 := it_p hz_5 c_14
      refine lv_iconst (v := 0) X.1 X.2.1 dX10_isPossible_65 (by decide) ?_
      refine lv_istore_n (lv' := [(3, .int (0 : Int32)), (5, .int x_13), (0, .ref (h 0)), (1, .int x1), (2, .int x2), (4, .int y_2)]) X.1 X.2.1 dX10_isPossible_66 rfl hl (by decide) rfl (fun ls hl => ?_)
      obtain ⟨x_15, ex_15⟩ : ∃ y : Int32, y = y_2 + 1 := ⟨_, rfl⟩
      replace hz_5 := lt_e hz_5 ex_15
      refine lv_iinc (v := x_15) (lv' := [(4, .int x_15), (3, .int (0 : Int32)), (5, .int x_13), (0, .ref (h 0)), (1, .int x1), (2, .int x2)]) X.1 X.2.1 dX10_isPossible_67 hl (k := 5) rfl (by rw [ex_15]; rfl) (by decide) rfl (fun ls hl => ?_)
      refine lv_goto (tgt := 5) X.1 X.2.1 dX10_isPossible_70 (by decide) ?_
      exact hn_6 _ (Option.some.inj hz_5).symm _ _ _ hw (lv_sub hl [3, 4, 5, 1, 0] rfl)
    · replace hz_5 := it_n hz_5 c_14
      refine lv_aload_n X.1 X.2.1 dX10_isPossible_23 rfl (lv_at hl 1 rfl) ?_
      refine gX10_tops X hw wq_5_17 dX10_isPossible_24 ?_
      refine lv_iload X.1 X.2.1 dX10_isPossible_27 (lv_at hl 5 rfl) ?_
      replace hz_5 := gd_e hz_5
      obtain ⟨g_16, hz_5⟩ := hz_5
      refine lMA6 X hw g_16 dX10_isPossible_29 ?_
      refine lv_if_gt (tgt := 38) X.1 X.2.1 dX10_isPossible_30 (by decide) (fun c_17 => ?_) (fun c_17 => ?_)
      · replace hz_5 := it_p hz_5 c_17
        refine lv_aload_n X.1 X.2.1 dX10_isPossible_38 rfl (lv_at hl 1 rfl) ?_
        refine gX10_tops X hw wq_5_17 dX10_isPossible_39 ?_
        refine lv_iload X.1 X.2.1 dX10_isPossible_42 (lv_at hl 5 rfl) ?_
        replace hz_5 := gd_e hz_5
        obtain ⟨g_18, hz_5⟩ := hz_5
        refine lMA6 X hw g_18 dX10_isPossible_44 ?_
        refine lv_aload_n X.1 X.2.1 dX10_isPossible_45 rfl (lv_at hl 1 rfl) ?_
        refine gX10_bottoms X hw wq_5_18 dX10_isPossible_46 ?_
        refine lv_iload X.1 X.2.1 dX10_isPossible_49 (lv_at hl 5 rfl) ?_
        replace hz_5 := gd_e hz_5
        obtain ⟨g_19, hz_5⟩ := hz_5
        refine lMA7 X hw g_19 dX10_isPossible_51 ?_
        refine lv_icmp_lt (tgt := 61) X.1 X.2.1 dX10_isPossible_52 (by decide) (fun c_20 => ?_) (fun c_20 => ?_)
        · replace hz_5 := it_p hz_5 c_20
          refine lv_iconst (v := 1) X.1 X.2.1 dX10_isPossible_61 (by decide) ?_
          refine lv_goto (tgt := 66) X.1 X.2.1 dX10_isPossible_62 (by decide) ?_
          refine lv_istore_n (lv' := [(3, .int (1 : Int32)), (5, .int x_13), (0, .ref (h 0)), (1, .int x1), (2, .int x2), (4, .int y_2)]) X.1 X.2.1 dX10_isPossible_66 rfl hl (by decide) rfl (fun ls hl => ?_)
          obtain ⟨x_21, ex_21⟩ : ∃ y : Int32, y = y_2 + 1 := ⟨_, rfl⟩
          replace hz_5 := lt_e hz_5 ex_21
          refine lv_iinc (v := x_21) (lv' := [(4, .int x_21), (3, .int (1 : Int32)), (5, .int x_13), (0, .ref (h 0)), (1, .int x1), (2, .int x2)]) X.1 X.2.1 dX10_isPossible_67 hl (k := 5) rfl (by rw [ex_21]; rfl) (by decide) rfl (fun ls hl => ?_)
          refine lv_goto (tgt := 5) X.1 X.2.1 dX10_isPossible_70 (by decide) ?_
          exact hn_6 _ (Option.some.inj hz_5).symm _ _ _ hw (lv_sub hl [3, 4, 5, 1, 0] rfl)
        · replace hz_5 := it_n hz_5 c_20
          refine lv_iload X.1 X.2.1 dX10_isPossible_55 (lv_at hl 0 rfl) ?_
          refine lv_iconst (v := 1) X.1 X.2.1 dX10_isPossible_57 (by decide) ?_
          refine lv_icmp_ne (tgt := 65) X.1 X.2.1 dX10_isPossible_58 (by decide) (fun c_22 => ?_) (fun c_22 => ?_)
          · replace hz_5 := it_n hz_5 c_22
            refine lv_iconst (v := 0) X.1 X.2.1 dX10_isPossible_65 (by decide) ?_
            refine lv_istore_n (lv' := [(3, .int (0 : Int32)), (5, .int x_13), (0, .ref (h 0)), (1, .int x1), (2, .int x2), (4, .int y_2)]) X.1 X.2.1 dX10_isPossible_66 rfl hl (by decide) rfl (fun ls hl => ?_)
            obtain ⟨x_23, ex_23⟩ : ∃ y : Int32, y = y_2 + 1 := ⟨_, rfl⟩
            replace hz_5 := lt_e hz_5 ex_23
            refine lv_iinc (v := x_23) (lv' := [(4, .int x_23), (3, .int (0 : Int32)), (5, .int x_13), (0, .ref (h 0)), (1, .int x1), (2, .int x2)]) X.1 X.2.1 dX10_isPossible_67 hl (k := 5) rfl (by rw [ex_23]; rfl) (by decide) rfl (fun ls hl => ?_)
            refine lv_goto (tgt := 5) X.1 X.2.1 dX10_isPossible_70 (by decide) ?_
            exact hn_6 _ (Option.some.inj hz_5).symm _ _ _ hw (lv_sub hl [3, 4, 5, 1, 0] rfl)
          · replace hz_5 := it_p hz_5 c_22
            refine lv_iconst (v := 1) X.1 X.2.1 dX10_isPossible_61 (by decide) ?_
            refine lv_goto (tgt := 66) X.1 X.2.1 dX10_isPossible_62 (by decide) ?_
            refine lv_istore_n (lv' := [(3, .int (1 : Int32)), (5, .int x_13), (0, .ref (h 0)), (1, .int x1), (2, .int x2), (4, .int y_2)]) X.1 X.2.1 dX10_isPossible_66 rfl hl (by decide) rfl (fun ls hl => ?_)
            obtain ⟨x_24, ex_24⟩ : ∃ y : Int32, y = y_2 + 1 := ⟨_, rfl⟩
            replace hz_5 := lt_e hz_5 ex_24
            refine lv_iinc (v := x_24) (lv' := [(4, .int x_24), (3, .int (1 : Int32)), (5, .int x_13), (0, .ref (h 0)), (1, .int x1), (2, .int x2)]) X.1 X.2.1 dX10_isPossible_67 hl (k := 5) rfl (by rw [ex_24]; rfl) (by decide) rfl (fun ls hl => ?_)
            refine lv_goto (tgt := 5) X.1 X.2.1 dX10_isPossible_70 (by decide) ?_
            exact hn_6 _ (Option.some.inj hz_5).symm _ _ _ hw (lv_sub hl [3, 4, 5, 1, 0] rfl)
      · replace hz_5 := it_n hz_5 c_17
        refine lv_iload X.1 X.2.1 dX10_isPossible_33 (lv_at hl 0 rfl) ?_
        refine lv_if_ne (tgt := 65) X.1 X.2.1 dX10_isPossible_35 (by decide) (fun c_25 => ?_) (fun c_25 => ?_)
        · replace hz_5 := it_n hz_5 c_25
          refine lv_iconst (v := 0) X.1 X.2.1 dX10_isPossible_65 (by decide) ?_
          refine lv_istore_n (lv' := [(3, .int (0 : Int32)), (5, .int x_13), (0, .ref (h 0)), (1, .int x1), (2, .int x2), (4, .int y_2)]) X.1 X.2.1 dX10_isPossible_66 rfl hl (by decide) rfl (fun ls hl => ?_)
          obtain ⟨x_26, ex_26⟩ : ∃ y : Int32, y = y_2 + 1 := ⟨_, rfl⟩
          replace hz_5 := lt_e hz_5 ex_26
          refine lv_iinc (v := x_26) (lv' := [(4, .int x_26), (3, .int (0 : Int32)), (5, .int x_13), (0, .ref (h 0)), (1, .int x1), (2, .int x2)]) X.1 X.2.1 dX10_isPossible_67 hl (k := 5) rfl (by rw [ex_26]; rfl) (by decide) rfl (fun ls hl => ?_)
          refine lv_goto (tgt := 5) X.1 X.2.1 dX10_isPossible_70 (by decide) ?_
          exact hn_6 _ (Option.some.inj hz_5).symm _ _ _ hw (lv_sub hl [3, 4, 5, 1, 0] rfl)
        · replace hz_5 := it_p hz_5 c_25
          refine lv_aload_n X.1 X.2.1 dX10_isPossible_38 rfl (lv_at hl 1 rfl) ?_
          refine gX10_tops X hw wq_5_17 dX10_isPossible_39 ?_
          refine lv_iload X.1 X.2.1 dX10_isPossible_42 (lv_at hl 5 rfl) ?_
          replace hz_5 := gd_e hz_5
          obtain ⟨g_27, hz_5⟩ := hz_5
          refine lMA6 X hw g_27 dX10_isPossible_44 ?_
          refine lv_aload_n X.1 X.2.1 dX10_isPossible_45 rfl (lv_at hl 1 rfl) ?_
          refine gX10_bottoms X hw wq_5_18 dX10_isPossible_46 ?_
          refine lv_iload X.1 X.2.1 dX10_isPossible_49 (lv_at hl 5 rfl) ?_
          replace hz_5 := gd_e hz_5
          obtain ⟨g_28, hz_5⟩ := hz_5
          refine lMA7 X hw g_28 dX10_isPossible_51 ?_
          refine lv_icmp_lt (tgt := 61) X.1 X.2.1 dX10_isPossible_52 (by decide) (fun c_29 => ?_) (fun c_29 => ?_)
          · replace hz_5 := it_p hz_5 c_29
            refine lv_iconst (v := 1) X.1 X.2.1 dX10_isPossible_61 (by decide) ?_
            refine lv_goto (tgt := 66) X.1 X.2.1 dX10_isPossible_62 (by decide) ?_
            refine lv_istore_n (lv' := [(3, .int (1 : Int32)), (5, .int x_13), (0, .ref (h 0)), (1, .int x1), (2, .int x2), (4, .int y_2)]) X.1 X.2.1 dX10_isPossible_66 rfl hl (by decide) rfl (fun ls hl => ?_)
            obtain ⟨x_30, ex_30⟩ : ∃ y : Int32, y = y_2 + 1 := ⟨_, rfl⟩
            replace hz_5 := lt_e hz_5 ex_30
            refine lv_iinc (v := x_30) (lv' := [(4, .int x_30), (3, .int (1 : Int32)), (5, .int x_13), (0, .ref (h 0)), (1, .int x1), (2, .int x2)]) X.1 X.2.1 dX10_isPossible_67 hl (k := 5) rfl (by rw [ex_30]; rfl) (by decide) rfl (fun ls hl => ?_)
            refine lv_goto (tgt := 5) X.1 X.2.1 dX10_isPossible_70 (by decide) ?_
            exact hn_6 _ (Option.some.inj hz_5).symm _ _ _ hw (lv_sub hl [3, 4, 5, 1, 0] rfl)
          · replace hz_5 := it_n hz_5 c_29
            refine lv_iload X.1 X.2.1 dX10_isPossible_55 (lv_at hl 0 rfl) ?_
            refine lv_iconst (v := 1) X.1 X.2.1 dX10_isPossible_57 (by decide) ?_
            refine lv_icmp_ne (tgt := 65) X.1 X.2.1 dX10_isPossible_58 (by decide) (fun c_31 => ?_) (fun c_31 => ?_)
            · replace hz_5 := it_n hz_5 c_31
              refine lv_iconst (v := 0) X.1 X.2.1 dX10_isPossible_65 (by decide) ?_
              refine lv_istore_n (lv' := [(3, .int (0 : Int32)), (5, .int x_13), (0, .ref (h 0)), (1, .int x1), (2, .int x2), (4, .int y_2)]) X.1 X.2.1 dX10_isPossible_66 rfl hl (by decide) rfl (fun ls hl => ?_)
              obtain ⟨x_32, ex_32⟩ : ∃ y : Int32, y = y_2 + 1 := ⟨_, rfl⟩
              replace hz_5 := lt_e hz_5 ex_32
              refine lv_iinc (v := x_32) (lv' := [(4, .int x_32), (3, .int (0 : Int32)), (5, .int x_13), (0, .ref (h 0)), (1, .int x1), (2, .int x2)]) X.1 X.2.1 dX10_isPossible_67 hl (k := 5) rfl (by rw [ex_32]; rfl) (by decide) rfl (fun ls hl => ?_)
              refine lv_goto (tgt := 5) X.1 X.2.1 dX10_isPossible_70 (by decide) ?_
              exact hn_6 _ (Option.some.inj hz_5).symm _ _ _ hw (lv_sub hl [3, 4, 5, 1, 0] rfl)
            · replace hz_5 := it_p hz_5 c_31
              refine lv_iconst (v := 1) X.1 X.2.1 dX10_isPossible_61 (by decide) ?_
              refine lv_goto (tgt := 66) X.1 X.2.1 dX10_isPossible_62 (by decide) ?_
              refine lv_istore_n (lv' := [(3, .int (1 : Int32)), (5, .int x_13), (0, .ref (h 0)), (1, .int x1), (2, .int x2), (4, .int y_2)]) X.1 X.2.1 dX10_isPossible_66 rfl hl (by decide) rfl (fun ls hl => ?_)
              obtain ⟨x_33, ex_33⟩ : ∃ y : Int32, y = y_2 + 1 := ⟨_, rfl⟩
              replace hz_5 := lt_e hz_5 ex_33
              refine lv_iinc (v := x_33) (lv' := [(4, .int x_33), (3, .int (1 : Int32)), (5, .int x_13), (0, .ref (h 0)), (1, .int x1), (2, .int x2)]) X.1 X.2.1 dX10_isPossible_67 hl (k := 5) rfl (by rw [ex_33]; rfl) (by decide) rfl (fun ls hl => ?_)
              refine lv_goto (tgt := 5) X.1 X.2.1 dX10_isPossible_70 (by decide) ?_
              exact hn_6 _ (Option.some.inj hz_5).symm _ _ _ hw (lv_sub hl [3, 4, 5, 1, 0] rfl)
def m_X10_wideBy_L95 (y_6 : Int32) (j_24 : Int32) (t_8 : ST) (σ : Int32 × Int32) : Option ((Int32 × Int32) ⊕ (Int32)) := (fun (q_49 : Int32 × Int32) => un q_49 (fun y_27 y_28 => if y_6 ≤ y_28 then some (.inr y_27) else if y_27 = 0 then some (.inr y_27) else gd (¬ (y_28 < 0 ∨ 1024 ≤ y_28.toNatClampNeg)) (if (t_8.2.2.1 8 y_28.toNatClampNeg) = j_24 then lt (y_28 + 1) (fun x_47 => some (.inl ((0 : Int32), x_47))) else lt (y_28 + 1) (fun x_48 => some (.inl ((1 : Int32), x_48)))))) σ
def m_X10_wideBy_L46 (x1 : Int32) (j_5 : Int32) (σ : Int32 × Int32 × ST) : Option ((Int32 × Int32 × ST) ⊕ (Int32 × ST)) := (fun (q_56 : Int32 × Int32 × ST) => un q_56 (fun y_6 q_56 => un q_56 (fun y_7 t_8 => if ((1 : Int32) <<< ((x1 + (1 : Int32)) &&& 31)) ≤ y_7 then some (.inr (y_6, t_8)) else Option.bind (m_X10_isPossible t_8 y_7 x1) (fun (r_22 : Int32) => Option.bind (if r_22 = 0 then some (-1 : Int32) else Option.bind (m_X10_keyOf t_8 y_7 j_5) (fun (r_55 : Int32) => some r_55)) (fun (j_24 : Int32) => Option.bind (if j_24 = (-1 : Int32) then some (0 : Int32) else some (1 : Int32)) (fun (j_26 : Int32) => Option.bind (vLoop (m_X10_wideBy_L95 y_6 j_24 t_8) FUEL (j_26, (0 : Int32))) (fun (j_29 : Int32) => if j_29 = 0 then lt (y_7 + 1) (fun x_31 => some (.inl (y_6, x_31, t_8))) else gd (¬ (y_6 < 0 ∨ 1024 ≤ y_6.toNatClampNeg)) (lt (wA t_8 8 y_6.toNatClampNeg j_24) (fun t_33 => lt (y_6 + 1) (fun x_34 => lt (y_7 + 1) (fun x_35 => some (.inl (x_34, x_35, t_33))))))))))))) σ
def m_X10_wideBy_L8 (x1 : Int32) (t_2 : ST) (σ : Int32 × Int32) : Option ((Int32 × Int32) ⊕ (Int32)) := (fun (q_73 : Int32 × Int32) => un q_73 (fun y_3 y_4 => if (t_2.1 1) ≤ y_4 then some (.inr y_3) else Option.bind (m_X10_isOpen t_2 y_4 x1) (fun (r_67 : Int32) => if r_67 = 0 then lt (y_3 ||| (0 : Int32)) (fun x_69 => lt (y_4 + 1) (fun x_70 => some (.inl (x_69, x_70)))) else lt (y_3 ||| ((1 : Int32) <<< (y_4 &&& 31))) (fun x_71 => lt (y_4 + 1) (fun x_72 => some (.inl (x_71, x_72))))))) σ
def m_X10_wideBy (t : ST) (x1 : Int32) : Option (Int32 × ST) := Option.bind (m_X10_asItIs t) (fun (t_2 : ST) => Option.bind (vLoop (m_X10_wideBy_L8 x1 t_2) FUEL ((0 : Int32), (0 : Int32))) (fun (j_5 : Int32) => Option.bind (vLoop (m_X10_wideBy_L46 x1 j_5) FUEL ((0 : Int32), (0 : Int32), t_2)) (fun (q_57 : Int32 × ST) => un q_57 (fun j_9 t_10 => some (j_9, t_10)))))
theorem yo_X10_wideBy : yX10_wideBy.cls = RX10 ∧ yX10_wideBy.cls ≠ "java/lang/invoke/MethodHandle" ∧ yX10_wideBy.cls ≠ "java/lang/invoke/VarHandle" ∧ (parseMethodDescriptor yX10_wideBy.desc).map (fun d => d.parameters.length) = some 1 := by decide +kernel
set_option maxHeartbeats 4000000 in
set_option maxRecDepth 100000 in
theorem c_X10_wideBy {l : Launch} {g : gT} {h : Nat → Nat} {t : ST} {x1 : Int32} {r : Int32} {t' : ST} (hm : m_X10_wideBy t x1 = some (r, t')) : MetI l g yX10_wideBy cX10_wideBy 8 (some .int) 3 76 20 h (cM g h t) (cM g h t') [.ref (h 0), .int x1] r := by
  refine MetI.ofX (by decide +kernel) (Nat.le_of_ble_eq_true rfl) ?_
  intro p e s m below meth c AV Q X hret ls hw hl
  replace X : Cx g p s m AV c cX10_wideBy RX10 8 := X
  replace hl : lv_has ls 8 [(0, .ref (h 0)), (1, .int x1)] := hl
  unfold m_X10_wideBy at hm
  refine lv_aload_n X.1 X.2.1 dX10_wideBy_0 rfl (lv_at hl 0 rfl) ?_
  replace hm := ob_e hm
  obtain ⟨t_2, h_1, hm⟩ := hm
  refine k_Vv (k := 0) (As := []) X hl.1 hw (c_X10_asItIs h_1) (by decide) (he_X10 g h _) rfl ⟨wq_18_4, wq_18_5, wq_18_6, wq_1_5, wq_18_7⟩ yo_X10_asItIs rfl ⟨Nat.le_of_ble_eq_true rfl, Nat.le_of_ble_eq_true rfl⟩ (Nat.le_of_ble_eq_true rfl) dX10_wideBy_1 (fun H locs hw => ?_)
  refine lv_iconst (v := 0) X.1 X.2.1 dX10_wideBy_4 (by decide) ?_
  refine lv_istore_n (lv' := [(2, .int (0 : Int32)), (0, .ref (h 0)), (1, .int x1)]) X.1 X.2.1 dX10_wideBy_5 rfl hl (by decide) rfl (fun ls hl => ?_)
  refine lv_iconst (v := 0) X.1 X.2.1 dX10_wideBy_6 (by decide) ?_
  refine lv_istore_n (lv' := [(3, .int (0 : Int32)), (2, .int (0 : Int32)), (0, .ref (h 0)), (1, .int x1)]) X.1 X.2.1 dX10_wideBy_7 rfl hl (by decide) rfl (fun ls hl => ?_)
  replace hm := ob_e hm
  obtain ⟨j_5, hL_63, hm⟩ := hm
  have J_62 : ∀ (H : Heap) (locs : List Loc) (ls : Array Slot), Wd g 20 h (cM g h t_2) s H locs → lv_has ls 8 [(0, .ref (h 0)), (1, .int x1), (2, .int j_5)] → W p l e (rW 3 76) s m AV below meth c H locs 0 0 Q (F0 m 41 ls []) := by
    intro H locs ls hw hl
    refine lv_iconst (v := 0) X.1 X.2.1 dX10_wideBy_41 (by decide) ?_
    refine lv_istore_n (lv' := [(3, .int (0 : Int32)), (0, .ref (h 0)), (1, .int x1), (2, .int j_5)]) X.1 X.2.1 dX10_wideBy_42 rfl hl (by decide) rfl (fun ls hl => ?_)
    refine lv_iconst (v := 0) X.1 X.2.1 dX10_wideBy_43 (by decide) ?_
    refine lv_istore (lv' := [(4, .int (0 : Int32)), (3, .int (0 : Int32)), (0, .ref (h 0)), (1, .int x1), (2, .int j_5)]) X.1 X.2.1 dX10_wideBy_44 hl (by decide) rfl (fun ls hl => ?_)
    replace hm := ob_e hm
    obtain ⟨⟨j_9, t_10⟩, hL_17, hm⟩ := hm
    replace hm := un_e hm
    have J_16 : ∀ (H : Heap) (locs : List Loc) (ls : Array Slot), Wd g 20 h (cM g h t_10) s H locs → lv_has ls 8 [(3, .int j_9)] → W p l e (rW 3 76) s m AV below meth c H locs 0 0 Q (F0 m 153 ls []) := by
      intro H locs ls hw hl
      refine lv_iload_n X.1 X.2.1 dX10_wideBy_153 rfl (lv_at hl 0 rfl) ?_
      obtain ⟨rfl, rfl⟩ := Prod.mk.inj (Option.some.inj hm)
      exact hret _ _ _ _ hw dX10_wideBy_154
    refine vLoop_ind (B := (m_X10_wideBy_L46 x1 j_5)) (fun σ => ∀ (H : Heap) (locs : List Loc) (ls : Array Slot), Wd g 20 h (cM g h σ.2.2) s H locs → lv_has ls 8 [(0, .ref (h 0)), (1, .int x1), (2, .int j_5), (3, .int σ.1), (4, .int σ.2.1)] → W p l e (rW 3 76) s m AV below meth c H locs 0 0 Q (F0 m 46 ls [])) (fun z' => z' = (j_9, t_10)) ?_ FUEL _ _ hL_17 rfl _ _ _ hw (lv_sub hl [2, 3, 4, 1, 0] rfl)
    intro σ z_15 hz_12 hn_13 hx_14
    obtain ⟨y_6, y_7, t_8⟩ := σ
    intro H locs ls hw hl
    replace hw : Wd g 20 h (cM g h t_8) s H locs := hw
    replace hl : lv_has ls 8 [(0, .ref (h 0)), (1, .int x1), (2, .int j_5), (3, .int y_6), (4, .int y_7)] := hl
    unfold m_X10_wideBy_L46 at hz_12
    replace hz_12 := un_e hz_12
    replace hz_12 := un_e hz_12
    refine lv_iload X.1 X.2.1 dX10_wideBy_46 (lv_at hl 4 rfl) ?_
    refine lv_iconst (v := 1) X.1 X.2.1 dX10_wideBy_48 (by decide) ?_
    refine lv_iload_n X.1 X.2.1 dX10_wideBy_49 rfl (lv_at hl 1 rfl) ?_
    refine lv_iconst (v := 1) X.1 X.2.1 dX10_wideBy_50 (by decide) ?_
    refine lv_iadd X.1 X.2.1 dX10_wideBy_51 ?_
    refine lv_ishl X.1 X.2.1 dX10_wideBy_52 ?_
    refine lv_icmp_ge (tgt := 153) X.1 X.2.1 dX10_wideBy_53 (by decide) (fun c_19 => ?_) (fun c_19 => ?_)
    · replace hz_12 := it_p hz_12 c_19
      obtain ⟨rfl, rfl⟩ := Prod.mk.inj (hx_14 _ (Option.some.inj hz_12).symm)
      exact J_16 _ _ _ hw (lv_sub hl [3] rfl)
    · replace hz_12 := it_n hz_12 c_19
      refine lv_aload_n X.1 X.2.1 dX10_wideBy_56 rfl (lv_at hl 0 rfl) ?_
      refine lv_iload X.1 X.2.1 dX10_wideBy_57 (lv_at hl 4 rfl) ?_
      refine lv_iload_n X.1 X.2.1 dX10_wideBy_59 rfl (lv_at hl 1 rfl) ?_
      replace hz_12 := ob_e hz_12
      obtain ⟨r_22, h_21, hz_12⟩ := hz_12
      refine k_Vi (k := 0) (As := [.int y_7, .int x1]) X hl.1 hw (c_X10_isPossible h_21) (by decide) (he_X10 g h _) rfl ⟨wq_30_18, wq_30_19, wq_30_20, wq_1_5, wq_30_21⟩ yo_X10_isPossible rfl ⟨Nat.le_of_ble_eq_true rfl, Nat.le_of_ble_eq_true rfl⟩ (Nat.le_of_ble_eq_true rfl) dX10_wideBy_60 (fun H locs hw => ?_)
      replace hz_12 := ob_e hz_12
      obtain ⟨j_24, hg_52, hz_12⟩ := hz_12
      have J_53 : ∀ (H : Heap) (locs : List Loc) (ls : Array Slot), Wd g 20 h (cM g h t_8) s H locs → lv_has ls 8 [(0, .ref (h 0)), (1, .int x1), (2, .int j_5), (3, .int y_6), (4, .int y_7)] → W p l e (rW 3 76) s m AV below meth c H locs 0 0 Q (F0 m 77 ls [.int j_24]) := by
        intro H locs ls hw hl
        refine lv_istore (lv' := [(5, .int j_24), (0, .ref (h 0)), (1, .int x1), (2, .int j_5), (3, .int y_6), (4, .int y_7)]) X.1 X.2.1 dX10_wideBy_77 hl (by decide) rfl (fun ls hl => ?_)
        refine lv_iload X.1 X.2.1 dX10_wideBy_79 (lv_at hl 0 rfl) ?_
        refine lv_iconst (v := -1) X.1 X.2.1 dX10_wideBy_81 (by decide) ?_
        replace hz_12 := ob_e hz_12
        obtain ⟨j_26, hg_50, hz_12⟩ := hz_12
        have J_51 : ∀ (H : Heap) (locs : List Loc) (ls : Array Slot), Wd g 20 h (cM g h t_8) s H locs → lv_has ls 8 [(0, .ref (h 0)), (1, .int x1), (2, .int j_5), (3, .int y_6), (4, .int y_7), (5, .int j_24)] → W p l e (rW 3 76) s m AV below meth c H locs 0 0 Q (F0 m 90 ls [.int j_26]) := by
          intro H locs ls hw hl
          refine lv_istore (lv' := [(6, .int j_26), (0, .ref (h 0)), (1, .int x1), (2, .int j_5), (3, .int y_6), (4, .int y_7), (5, .int j_24)]) X.1 X.2.1 dX10_wideBy_90 hl (by decide) rfl (fun ls hl => ?_)
          refine lv_iconst (v := 0) X.1 X.2.1 dX10_wideBy_92 (by decide) ?_
          refine lv_istore (lv' := [(7, .int (0 : Int32)), (6, .int j_26), (0, .ref (h 0)), (1, .int x1), (2, .int j_5), (3, .int y_6), (4, .int y_7), (5, .int j_24)]) X.1 X.2.1 dX10_wideBy_93 hl (by decide) rfl (fun ls hl => ?_)
          replace hz_12 := ob_e hz_12
          obtain ⟨j_29, hL_41, hz_12⟩ := hz_12
          have J_40 : ∀ (H : Heap) (locs : List Loc) (ls : Array Slot), Wd g 20 h (cM g h t_8) s H locs → lv_has ls 8 [(0, .ref (h 0)), (1, .int x1), (2, .int j_5), (3, .int y_6), (4, .int y_7), (5, .int j_24), (6, .int j_29)] → W p l e (rW 3 76) s m AV below meth c H locs 0 0 Q (F0 m 131 ls []) := by
            intro H locs ls hw hl
            refine lv_iload X.1 X.2.1 dX10_wideBy_131 (lv_at hl 6 rfl) ?_
            refine lv_if_eq (tgt := 147) X.1 X.2.1 dX10_wideBy_133 (by decide) (fun c_30 => ?_) (fun c_30 => ?_)
            · replace hz_12 := it_p hz_12 c_30
              obtain ⟨x_31, ex_31⟩ : ∃ y : Int32, y = y_7 + 1 := ⟨_, rfl⟩
              replace hz_12 := lt_e hz_12 ex_31
              refine lv_iinc (v := x_31) (lv' := [(4, .int x_31), (0, .ref (h 0)), (1, .int x1), (2, .int j_5), (3, .int y_6), (5, .int j_24), (6, .int j_29)]) X.1 X.2.1 dX10_wideBy_147 hl (k := 4) rfl (by rw [ex_31]; rfl) (by decide) rfl (fun ls hl => ?_)
              refine lv_goto (tgt := 46) X.1 X.2.1 dX10_wideBy_150 (by decide) ?_
              exact hn_13 _ (Option.some.inj hz_12).symm _ _ _ hw (lv_sub hl [1, 2, 3, 4, 0] rfl)
            · replace hz_12 := it_n hz_12 c_30
              refine lv_aload_n X.1 X.2.1 dX10_wideBy_136 rfl (lv_at hl 0 rfl) ?_
              refine gX10_keys X hw wq_5_19 dX10_wideBy_137 ?_
              refine lv_iload_n X.1 X.2.1 dX10_wideBy_140 rfl (lv_at hl 3 rfl) ?_
              refine lv_iload X.1 X.2.1 dX10_wideBy_141 (lv_at hl 5 rfl) ?_
              replace hz_12 := gd_e hz_12
              obtain ⟨g_32, hz_12⟩ := hz_12
              refine sMA8 X hw g_32 dX10_wideBy_143 (fun H locs hw => ?_)
              obtain ⟨t_33, et_33⟩ : ∃ y, y = wA t_8 8 y_6.toNatClampNeg j_24 := ⟨_, rfl⟩
              rw [← et_33] at hw
              replace hz_12 := lt_e hz_12 et_33
              obtain ⟨x_34, ex_34⟩ : ∃ y : Int32, y = y_6 + 1 := ⟨_, rfl⟩
              replace hz_12 := lt_e hz_12 ex_34
              refine lv_iinc (v := x_34) (lv' := [(3, .int x_34), (0, .ref (h 0)), (1, .int x1), (2, .int j_5), (4, .int y_7), (5, .int j_24), (6, .int j_29)]) X.1 X.2.1 dX10_wideBy_144 hl (k := 3) rfl (by rw [ex_34]; rfl) (by decide) rfl (fun ls hl => ?_)
              obtain ⟨x_35, ex_35⟩ : ∃ y : Int32, y = y_7 + 1 := ⟨_, rfl⟩
              replace hz_12 := lt_e hz_12 ex_35
              refine lv_iinc (v := x_35) (lv' := [(4, .int x_35), (3, .int x_34), (0, .ref (h 0)), (1, .int x1), (2, .int j_5), (5, .int j_24), (6, .int j_29)]) X.1 X.2.1 dX10_wideBy_147 hl (k := 4) rfl (by rw [ex_35]; rfl) (by decide) rfl (fun ls hl => ?_)
              refine lv_goto (tgt := 46) X.1 X.2.1 dX10_wideBy_150 (by decide) ?_
              exact hn_13 _ (Option.some.inj hz_12).symm _ _ _ hw (lv_sub hl [2, 3, 4, 1, 0] rfl)
          refine vLoop_ind (B := (m_X10_wideBy_L95 y_6 j_24 t_8)) (fun σ => ∀ (H : Heap) (locs : List Loc) (ls : Array Slot), Wd g 20 h (cM g h t_8) s H locs → lv_has ls 8 [(0, .ref (h 0)), (1, .int x1), (2, .int j_5), (3, .int y_6), (4, .int y_7), (5, .int j_24), (6, .int σ.1), (7, .int σ.2)] → W p l e (rW 3 76) s m AV below meth c H locs 0 0 Q (F0 m 95 ls [])) (fun z' => z' = j_29) ?_ FUEL _ _ hL_41 rfl _ _ _ hw (lv_sub hl [2, 3, 4, 5, 6, 7, 1, 0] rfl)
          intro σ z_39 hz_36 hn_37 hx_38
          obtain ⟨y_27, y_28⟩ := σ
          intro H locs ls hw hl
          replace hw : Wd g 20 h (cM g h t_8) s H locs := hw
          replace hl : lv_has ls 8 [(0, .ref (h 0)), (1, .int x1), (2, .int j_5), (3, .int y_6), (4, .int y_7), (5, .int j_24), (6, .int y_27), (7, .int y_28)] := hl
          unfold m_X10_wideBy_L95 at hz_36
          replace hz_36 := un_e hz_36
          refine lv_iload X.1 X.2.1 dX10_wideBy_95 (lv_at hl 7 rfl) ?_
          refine lv_iload_n X.1 X.2.1 dX10_wideBy_97 rfl (lv_at hl 3 rfl) ?_
          refine lv_icmp_ge (tgt := 131) X.1 X.2.1 dX10_wideBy_98 (by decide) (fun c_43 => ?_) (fun c_43 => ?_)
          · replace hz_36 := it_p hz_36 c_43
            obtain rfl := hx_38 _ (Option.some.inj hz_36).symm
            exact J_40 _ _ _ hw (lv_sub hl [0, 1, 2, 3, 4, 5, 6] rfl)
          · replace hz_36 := it_n hz_36 c_43
            refine lv_iload X.1 X.2.1 dX10_wideBy_101 (lv_at hl 6 rfl) ?_
            refine lv_if_eq (tgt := 131) X.1 X.2.1 dX10_wideBy_103 (by decide) (fun c_44 => ?_) (fun c_44 => ?_)
            · replace hz_36 := it_p hz_36 c_44
              obtain rfl := hx_38 _ (Option.some.inj hz_36).symm
              exact J_40 _ _ _ hw (lv_sub hl [0, 1, 2, 3, 4, 5, 6] rfl)
            · replace hz_36 := it_n hz_36 c_44
              refine lv_aload_n X.1 X.2.1 dX10_wideBy_106 rfl (lv_at hl 0 rfl) ?_
              refine gX10_keys X hw wq_5_19 dX10_wideBy_107 ?_
              refine lv_iload X.1 X.2.1 dX10_wideBy_110 (lv_at hl 7 rfl) ?_
              replace hz_36 := gd_e hz_36
              obtain ⟨g_45, hz_36⟩ := hz_36
              refine lMA8 X hw g_45 dX10_wideBy_112 ?_
              refine lv_iload X.1 X.2.1 dX10_wideBy_113 (lv_at hl 5 rfl) ?_
              refine lv_icmp_eq (tgt := 122) X.1 X.2.1 dX10_wideBy_115 (by decide) (fun c_46 => ?_) (fun c_46 => ?_)
              · replace hz_36 := it_p hz_36 c_46
                refine lv_iconst (v := 0) X.1 X.2.1 dX10_wideBy_122 (by decide) ?_
                refine lv_istore (lv' := [(6, .int (0 : Int32)), (0, .ref (h 0)), (1, .int x1), (2, .int j_5), (3, .int y_6), (4, .int y_7), (5, .int j_24), (7, .int y_28)]) X.1 X.2.1 dX10_wideBy_123 hl (by decide) rfl (fun ls hl => ?_)
                obtain ⟨x_47, ex_47⟩ : ∃ y : Int32, y = y_28 + 1 := ⟨_, rfl⟩
                replace hz_36 := lt_e hz_36 ex_47
                refine lv_iinc (v := x_47) (lv' := [(7, .int x_47), (6, .int (0 : Int32)), (0, .ref (h 0)), (1, .int x1), (2, .int j_5), (3, .int y_6), (4, .int y_7), (5, .int j_24)]) X.1 X.2.1 dX10_wideBy_125 hl (k := 7) rfl (by rw [ex_47]; rfl) (by decide) rfl (fun ls hl => ?_)
                refine lv_goto (tgt := 95) X.1 X.2.1 dX10_wideBy_128 (by decide) ?_
                exact hn_37 _ (Option.some.inj hz_36).symm _ _ _ hw (lv_sub hl [2, 3, 4, 5, 6, 7, 1, 0] rfl)
              · replace hz_36 := it_n hz_36 c_46
                refine lv_iconst (v := 1) X.1 X.2.1 dX10_wideBy_118 (by decide) ?_
                refine lv_goto (tgt := 123) X.1 X.2.1 dX10_wideBy_119 (by decide) ?_
                refine lv_istore (lv' := [(6, .int (1 : Int32)), (0, .ref (h 0)), (1, .int x1), (2, .int j_5), (3, .int y_6), (4, .int y_7), (5, .int j_24), (7, .int y_28)]) X.1 X.2.1 dX10_wideBy_123 hl (by decide) rfl (fun ls hl => ?_)
                obtain ⟨x_48, ex_48⟩ : ∃ y : Int32, y = y_28 + 1 := ⟨_, rfl⟩
                replace hz_36 := lt_e hz_36 ex_48
                refine lv_iinc (v := x_48) (lv' := [(7, .int x_48), (6, .int (1 : Int32)), (0, .ref (h 0)), (1, .int x1), (2, .int j_5), (3, .int y_6), (4, .int y_7), (5, .int j_24)]) X.1 X.2.1 dX10_wideBy_125 hl (k := 7) rfl (by rw [ex_48]; rfl) (by decide) rfl (fun ls hl => ?_)
                refine lv_goto (tgt := 95) X.1 X.2.1 dX10_wideBy_128 (by decide) ?_
                exact hn_37 _ (Option.some.inj hz_36).symm _ _ _ hw (lv_sub hl [2, 3, 4, 5, 6, 7, 1, 0] rfl)
        refine lv_icmp_eq (tgt := 89) X.1 X.2.1 dX10_wideBy_82 (by decide) (fun c_25 => ?_) (fun c_25 => ?_)
        · replace hg_50 := it_p hg_50 c_25
          refine lv_iconst (v := 0) X.1 X.2.1 dX10_wideBy_89 (by decide) ?_
          obtain rfl := Option.some.inj hg_50
          exact J_51 _ _ _ hw (lv_sub hl [1, 2, 3, 4, 5, 0] rfl)
        · replace hg_50 := it_n hg_50 c_25
          refine lv_iconst (v := 1) X.1 X.2.1 dX10_wideBy_85 (by decide) ?_
          refine lv_goto (tgt := 90) X.1 X.2.1 dX10_wideBy_86 (by decide) ?_
          obtain rfl := Option.some.inj hg_50
          exact J_51 _ _ _ hw (lv_sub hl [1, 2, 3, 4, 5, 0] rfl)
      refine lv_if_eq (tgt := 76) X.1 X.2.1 dX10_wideBy_63 (by decide) (fun c_23 => ?_) (fun c_23 => ?_)
      · replace hg_52 := it_p hg_52 c_23
        refine lv_iconst (v := -1) X.1 X.2.1 dX10_wideBy_76 (by decide) ?_
        obtain rfl := Option.some.inj hg_52
        exact J_53 _ _ _ hw (lv_sub hl [0, 1, 2, 3, 4] rfl)
      · replace hg_52 := it_n hg_52 c_23
        refine lv_aload_n X.1 X.2.1 dX10_wideBy_66 rfl (lv_at hl 0 rfl) ?_
        refine lv_iload X.1 X.2.1 dX10_wideBy_67 (lv_at hl 4 rfl) ?_
        refine lv_iload_n X.1 X.2.1 dX10_wideBy_69 rfl (lv_at hl 2 rfl) ?_
        replace hg_52 := ob_e hg_52
        obtain ⟨r_55, h_54, hg_52⟩ := hg_52
        refine k_Vi (k := 0) (As := [.int y_7, .int j_5]) X hl.1 hw (c_X10_keyOf h_54) (by decide) (he_X10 g h _) rfl ⟨wq_30_22, wq_30_23, wq_31_0, wq_1_5, wq_31_1⟩ yo_X10_keyOf rfl ⟨Nat.le_of_ble_eq_true rfl, Nat.le_of_ble_eq_true rfl⟩ (Nat.le_of_ble_eq_true rfl) dX10_wideBy_70 (fun H locs hw => ?_)
        refine lv_goto (tgt := 77) X.1 X.2.1 dX10_wideBy_73 (by decide) ?_
        obtain rfl := Option.some.inj hg_52
        exact J_53 _ _ _ hw (lv_sub hl [0, 1, 2, 3, 4] rfl)
  refine vLoop_ind (B := (m_X10_wideBy_L8 x1 t_2)) (fun σ => ∀ (H : Heap) (locs : List Loc) (ls : Array Slot), Wd g 20 h (cM g h t_2) s H locs → lv_has ls 8 [(0, .ref (h 0)), (1, .int x1), (2, .int σ.1), (3, .int σ.2)] → W p l e (rW 3 76) s m AV below meth c H locs 0 0 Q (F0 m 8 ls [])) (fun z' => z' = j_5) ?_ FUEL _ _ hL_63 rfl _ _ _ hw (lv_sub hl [2, 3, 1, 0] rfl)
  intro σ z_61 hz_58 hn_59 hx_60
  obtain ⟨y_3, y_4⟩ := σ
  intro H locs ls hw hl
  replace hw : Wd g 20 h (cM g h t_2) s H locs := hw
  replace hl : lv_has ls 8 [(0, .ref (h 0)), (1, .int x1), (2, .int y_3), (3, .int y_4)] := hl
  unfold m_X10_wideBy_L8 at hz_58
  replace hz_58 := un_e hz_58
  refine lv_iload_n X.1 X.2.1 dX10_wideBy_8 rfl (lv_at hl 3 rfl) ?_
  refine lv_aload_n X.1 X.2.1 dX10_wideBy_9 rfl (lv_at hl 0 rfl) ?_
  refine gX10_stations X hw wq_6_4 dX10_wideBy_10 ?_
  refine lv_icmp_ge (tgt := 41) X.1 X.2.1 dX10_wideBy_13 (by decide) (fun c_65 => ?_) (fun c_65 => ?_)
  · replace hz_58 := it_p hz_58 c_65
    obtain rfl := hx_60 _ (Option.some.inj hz_58).symm
    exact J_62 _ _ _ hw (lv_sub hl [0, 1, 2] rfl)
  · replace hz_58 := it_n hz_58 c_65
    refine lv_iload_n X.1 X.2.1 dX10_wideBy_16 rfl (lv_at hl 2 rfl) ?_
    refine lv_aload_n X.1 X.2.1 dX10_wideBy_17 rfl (lv_at hl 0 rfl) ?_
    refine lv_iload_n X.1 X.2.1 dX10_wideBy_18 rfl (lv_at hl 3 rfl) ?_
    refine lv_iload_n X.1 X.2.1 dX10_wideBy_19 rfl (lv_at hl 1 rfl) ?_
    replace hz_58 := ob_e hz_58
    obtain ⟨r_67, h_66, hz_58⟩ := hz_58
    refine k_Vi (k := 0) (As := [.int y_4, .int x1]) X hl.1 hw (c_X10_isOpen h_66) (by decide) (he_X10 g h _) rfl ⟨wq_30_14, wq_30_15, wq_30_16, wq_1_5, wq_30_17⟩ yo_X10_isOpen rfl ⟨Nat.le_of_ble_eq_true rfl, Nat.le_of_ble_eq_true rfl⟩ (Nat.le_of_ble_eq_true rfl) dX10_wideBy_20 (fun H locs hw => ?_)
    refine lv_if_eq (tgt := 32) X.1 X.2.1 dX10_wideBy_23 (by decide) (fun c_68 => ?_) (fun c_68 => ?_)
    · replace hz_58 := it_p hz_58 c_68
      refine lv_iconst (v := 0) X.1 X.2.1 dX10_wideBy_32 (by decide) ?_
      refine lv_ior X.1 X.2.1 dX10_wideBy_33 ?_
      refine lv_topi (fun x_69 ex_69 => ?_)
      replace hz_58 := lt_e hz_58 ex_69
      refine lv_istore_n (lv' := [(2, .int x_69), (0, .ref (h 0)), (1, .int x1), (3, .int y_4)]) X.1 X.2.1 dX10_wideBy_34 rfl hl (by decide) rfl (fun ls hl => ?_)
      obtain ⟨x_70, ex_70⟩ : ∃ y : Int32, y = y_4 + 1 := ⟨_, rfl⟩
      replace hz_58 := lt_e hz_58 ex_70
      refine lv_iinc (v := x_70) (lv' := [(3, .int x_70), (2, .int x_69), (0, .ref (h 0)), (1, .int x1)]) X.1 X.2.1 dX10_wideBy_35 hl (k := 3) rfl (by rw [ex_70]; rfl) (by decide) rfl (fun ls hl => ?_)
      refine lv_goto (tgt := 8) X.1 X.2.1 dX10_wideBy_38 (by decide) ?_
      exact hn_59 _ (Option.some.inj hz_58).symm _ _ _ hw (lv_sub hl [2, 3, 1, 0] rfl)
    · replace hz_58 := it_n hz_58 c_68
      refine lv_iconst (v := 1) X.1 X.2.1 dX10_wideBy_26 (by decide) ?_
      refine lv_iload_n X.1 X.2.1 dX10_wideBy_27 rfl (lv_at hl 3 rfl) ?_
      refine lv_ishl X.1 X.2.1 dX10_wideBy_28 ?_
      refine lv_goto (tgt := 33) X.1 X.2.1 dX10_wideBy_29 (by decide) ?_
      refine lv_ior X.1 X.2.1 dX10_wideBy_33 ?_
      refine lv_topi (fun x_71 ex_71 => ?_)
      replace hz_58 := lt_e hz_58 ex_71
      refine lv_istore_n (lv' := [(2, .int x_71), (0, .ref (h 0)), (1, .int x1), (3, .int y_4)]) X.1 X.2.1 dX10_wideBy_34 rfl hl (by decide) rfl (fun ls hl => ?_)
      obtain ⟨x_72, ex_72⟩ : ∃ y : Int32, y = y_4 + 1 := ⟨_, rfl⟩
      replace hz_58 := lt_e hz_58 ex_72
      refine lv_iinc (v := x_72) (lv' := [(3, .int x_72), (2, .int x_71), (0, .ref (h 0)), (1, .int x1)]) X.1 X.2.1 dX10_wideBy_35 hl (k := 3) rfl (by rw [ex_72]; rfl) (by decide) rfl (fun ls hl => ?_)
      refine lv_goto (tgt := 8) X.1 X.2.1 dX10_wideBy_38 (by decide) ?_
      exact hn_59 _ (Option.some.inj hz_58).symm _ _ _ hw (lv_sub hl [2, 3, 1, 0] rfl)
def m_X10_wide (t : ST) (x1 : Int32) : Option (Int32 × ST) := Option.bind (m_X10_isLink t x1) (fun (r_2 : Int32) => if r_2 = 0 then some ((-2 : Int32), t) else Option.bind (m_X10_wideBy t x1) (fun (q_8 : Int32 × ST) => un q_8 (fun r_6 t_7 => some (r_6, t_7))))
theorem yo_X10_wide : yX10_wide.cls = RX10 ∧ yX10_wide.cls ≠ "java/lang/invoke/MethodHandle" ∧ yX10_wide.cls ≠ "java/lang/invoke/VarHandle" ∧ (parseMethodDescriptor yX10_wide.desc).map (fun d => d.parameters.length) = some 1 := by decide +kernel
set_option maxHeartbeats 4000000 in
set_option maxRecDepth 100000 in
theorem c_X10_wide {l : Launch} {g : gT} {h : Nat → Nat} {t : ST} {x1 : Int32} {r : Int32} {t' : ST} (hm : m_X10_wide t x1 = some (r, t')) : MetI l g yX10_wide cX10_wide 2 (some .int) 4 103 20 h (cM g h t) (cM g h t') [.ref (h 0), .int x1] r := by
  refine MetI.ofX (by decide +kernel) (Nat.le_of_ble_eq_true rfl) ?_
  intro p e s m below meth c AV Q X hret ls hw hl
  replace X : Cx g p s m AV c cX10_wide RX10 2 := X
  replace hl : lv_has ls 2 [(0, .ref (h 0)), (1, .int x1)] := hl
  unfold m_X10_wide at hm
  refine lv_aload_n X.1 X.2.1 dX10_wide_0 rfl (lv_at hl 0 rfl) ?_
  refine lv_iload_n X.1 X.2.1 dX10_wide_1 rfl (lv_at hl 1 rfl) ?_
  replace hm := ob_e hm
  obtain ⟨r_2, h_1, hm⟩ := hm
  refine k_Vi (k := 0) (As := [.int x1]) X hl.1 hw (c_X10_isLink h_1) (by decide) (he_X10 g h _) rfl ⟨wq_12_0, wq_12_1, wq_12_2, wq_1_5, wq_12_3⟩ yo_X10_isLink rfl ⟨Nat.le_of_ble_eq_true rfl, Nat.le_of_ble_eq_true rfl⟩ (Nat.le_of_ble_eq_true rfl) dX10_wide_2 (fun H locs hw => ?_)
  refine lv_if_eq (tgt := 16) X.1 X.2.1 dX10_wide_5 (by decide) (fun c_3 => ?_) (fun c_3 => ?_)
  · replace hm := it_p hm c_3
    refine lv_bipush (v := -2) X.1 X.2.1 dX10_wide_16 (by decide) ?_
    obtain ⟨rfl, rfl⟩ := Prod.mk.inj (Option.some.inj hm)
    exact hret _ _ _ _ hw dX10_wide_18
  · replace hm := it_n hm c_3
    refine lv_aload_n X.1 X.2.1 dX10_wide_8 rfl (lv_at hl 0 rfl) ?_
    refine lv_iload_n X.1 X.2.1 dX10_wide_9 rfl (lv_at hl 1 rfl) ?_
    replace hm := ob_e hm
    obtain ⟨⟨r_6, t_7⟩, h_5, hm⟩ := hm
    replace hm := un_e hm
    refine k_Vi (k := 0) (As := [.int x1]) X hl.1 hw (c_X10_wideBy h_5) (by decide) (he_X10 g h _) rfl ⟨wq_30_10, wq_30_11, wq_30_12, wq_1_5, wq_30_13⟩ yo_X10_wideBy rfl ⟨Nat.le_of_ble_eq_true rfl, Nat.le_of_ble_eq_true rfl⟩ (Nat.le_of_ble_eq_true rfl) dX10_wide_10 (fun H locs hw => ?_)
    refine lv_goto (tgt := 18) X.1 X.2.1 dX10_wide_13 (by decide) ?_
    obtain ⟨rfl, rfl⟩ := Prod.mk.inj (Option.some.inj hm)
    exact hret _ _ _ _ hw dX10_wide_18
def m_X10_widestNow_L4 (σ : Int32 × Int32 × ST) : Option ((Int32 × Int32 × ST) ⊕ (Int32 × ST)) := (fun (q_23 : Int32 × Int32 × ST) => un q_23 (fun y_1 q_23 => un q_23 (fun y_2 t_3 => if (t_3.1 4) ≤ y_2 then some (.inr (y_1, t_3)) else Option.bind (m_X10_wideBy t_3 y_2) (fun (q_19 : Int32 × ST) => un q_19 (fun r_17 t_18 => if r_17 ≤ y_1 then lt (y_2 + 1) (fun x_21 => some (.inl (y_1, x_21, t_18))) else lt (y_2 + 1) (fun x_22 => some (.inl (r_17, x_22, t_18)))))))) σ
def m_X10_widestNow (t : ST) : Option (Int32 × ST) := Option.bind (vLoop (m_X10_widestNow_L4) FUEL ((0 : Int32), (0 : Int32), t)) (fun (q_24 : Int32 × ST) => un q_24 (fun j_4 t_5 => some (j_4, t_5)))
theorem yo_X10_widestNow : yX10_widestNow.cls = RX10 ∧ yX10_widestNow.cls ≠ "java/lang/invoke/MethodHandle" ∧ yX10_widestNow.cls ≠ "java/lang/invoke/VarHandle" ∧ (parseMethodDescriptor yX10_widestNow.desc).map (fun d => d.parameters.length) = some 0 := by decide +kernel
set_option maxHeartbeats 4000000 in
set_option maxRecDepth 100000 in
theorem c_X10_widestNow {l : Launch} {g : gT} {h : Nat → Nat} {t : ST} {r : Int32} {t' : ST} (hm : m_X10_widestNow t = some (r, t')) : MetI l g yX10_widestNow cX10_widestNow 4 (some .int) 4 103 20 h (cM g h t) (cM g h t') [.ref (h 0)] r := by
  refine MetI.ofX (by decide +kernel) (Nat.le_of_ble_eq_true rfl) ?_
  intro p e s m below meth c AV Q X hret ls hw hl
  replace X : Cx g p s m AV c cX10_widestNow RX10 4 := X
  replace hl : lv_has ls 4 [(0, .ref (h 0))] := hl
  unfold m_X10_widestNow at hm
  refine lv_iconst (v := 0) X.1 X.2.1 dX10_widestNow_0 (by decide) ?_
  refine lv_istore_n (lv' := [(1, .int (0 : Int32)), (0, .ref (h 0))]) X.1 X.2.1 dX10_widestNow_1 rfl hl (by decide) rfl (fun ls hl => ?_)
  refine lv_iconst (v := 0) X.1 X.2.1 dX10_widestNow_2 (by decide) ?_
  refine lv_istore_n (lv' := [(2, .int (0 : Int32)), (1, .int (0 : Int32)), (0, .ref (h 0))]) X.1 X.2.1 dX10_widestNow_3 rfl hl (by decide) rfl (fun ls hl => ?_)
  replace hm := ob_e hm
  obtain ⟨⟨j_4, t_5⟩, hL_12, hm⟩ := hm
  replace hm := un_e hm
  have J_11 : ∀ (H : Heap) (locs : List Loc) (ls : Array Slot), Wd g 20 h (cM g h t_5) s H locs → lv_has ls 4 [(1, .int j_4)] → W p l e (rW 4 103) s m AV below meth c H locs 0 0 Q (F0 m 35 ls []) := by
    intro H locs ls hw hl
    refine lv_iload_n X.1 X.2.1 dX10_widestNow_35 rfl (lv_at hl 0 rfl) ?_
    obtain ⟨rfl, rfl⟩ := Prod.mk.inj (Option.some.inj hm)
    exact hret _ _ _ _ hw dX10_widestNow_36
  refine vLoop_ind (B := (m_X10_widestNow_L4)) (fun σ => ∀ (H : Heap) (locs : List Loc) (ls : Array Slot), Wd g 20 h (cM g h σ.2.2) s H locs → lv_has ls 4 [(0, .ref (h 0)), (1, .int σ.1), (2, .int σ.2.1)] → W p l e (rW 4 103) s m AV below meth c H locs 0 0 Q (F0 m 4 ls [])) (fun z' => z' = (j_4, t_5)) ?_ FUEL _ _ hL_12 rfl _ _ _ hw (lv_sub hl [2, 1, 0] rfl)
  intro σ z_10 hz_7 hn_8 hx_9
  obtain ⟨y_1, y_2, t_3⟩ := σ
  intro H locs ls hw hl
  replace hw : Wd g 20 h (cM g h t_3) s H locs := hw
  replace hl : lv_has ls 4 [(0, .ref (h 0)), (1, .int y_1), (2, .int y_2)] := hl
  unfold m_X10_widestNow_L4 at hz_7
  replace hz_7 := un_e hz_7
  replace hz_7 := un_e hz_7
  refine lv_iload_n X.1 X.2.1 dX10_widestNow_4 rfl (lv_at hl 2 rfl) ?_
  refine lv_aload_n X.1 X.2.1 dX10_widestNow_5 rfl (lv_at hl 0 rfl) ?_
  refine gX10_links X hw wq_7_2 dX10_widestNow_6 ?_
  refine lv_icmp_ge (tgt := 35) X.1 X.2.1 dX10_widestNow_9 (by decide) (fun c_14 => ?_) (fun c_14 => ?_)
  · replace hz_7 := it_p hz_7 c_14
    obtain ⟨rfl, rfl⟩ := Prod.mk.inj (hx_9 _ (Option.some.inj hz_7).symm)
    exact J_11 _ _ _ hw (lv_sub hl [1] rfl)
  · replace hz_7 := it_n hz_7 c_14
    refine lv_aload_n X.1 X.2.1 dX10_widestNow_12 rfl (lv_at hl 0 rfl) ?_
    refine lv_iload_n X.1 X.2.1 dX10_widestNow_13 rfl (lv_at hl 2 rfl) ?_
    replace hz_7 := ob_e hz_7
    obtain ⟨⟨r_17, t_18⟩, h_16, hz_7⟩ := hz_7
    replace hz_7 := un_e hz_7
    refine k_Vi (k := 0) (As := [.int y_2]) X hl.1 hw (c_X10_wideBy h_16) (by decide) (he_X10 g h _) rfl ⟨wq_30_10, wq_30_11, wq_30_12, wq_1_5, wq_30_13⟩ yo_X10_wideBy rfl ⟨Nat.le_of_ble_eq_true rfl, Nat.le_of_ble_eq_true rfl⟩ (Nat.le_of_ble_eq_true rfl) dX10_widestNow_14 (fun H locs hw => ?_)
    refine lv_istore_n (lv' := [(3, .int r_17), (0, .ref (h 0)), (1, .int y_1), (2, .int y_2)]) X.1 X.2.1 dX10_widestNow_17 rfl hl (by decide) rfl (fun ls hl => ?_)
    refine lv_iload_n X.1 X.2.1 dX10_widestNow_18 rfl (lv_at hl 0 rfl) ?_
    refine lv_iload_n X.1 X.2.1 dX10_widestNow_19 rfl (lv_at hl 2 rfl) ?_
    refine lv_icmp_le (tgt := 27) X.1 X.2.1 dX10_widestNow_20 (by decide) (fun c_20 => ?_) (fun c_20 => ?_)
    · replace hz_7 := it_p hz_7 c_20
      refine lv_iload_n X.1 X.2.1 dX10_widestNow_27 rfl (lv_at hl 2 rfl) ?_
      refine lv_istore_n (lv' := [(1, .int y_1), (3, .int r_17), (0, .ref (h 0)), (2, .int y_2)]) X.1 X.2.1 dX10_widestNow_28 rfl hl (by decide) rfl (fun ls hl => ?_)
      obtain ⟨x_21, ex_21⟩ : ∃ y : Int32, y = y_2 + 1 := ⟨_, rfl⟩
      replace hz_7 := lt_e hz_7 ex_21
      refine lv_iinc (v := x_21) (lv' := [(2, .int x_21), (1, .int y_1), (3, .int r_17), (0, .ref (h 0))]) X.1 X.2.1 dX10_widestNow_29 hl (k := 3) rfl (by rw [ex_21]; rfl) (by decide) rfl (fun ls hl => ?_)
      refine lv_goto (tgt := 4) X.1 X.2.1 dX10_widestNow_32 (by decide) ?_
      exact hn_8 _ (Option.some.inj hz_7).symm _ _ _ hw (lv_sub hl [3, 1, 0] rfl)
    · replace hz_7 := it_n hz_7 c_20
      refine lv_iload_n X.1 X.2.1 dX10_widestNow_23 rfl (lv_at hl 0 rfl) ?_
      refine lv_goto (tgt := 28) X.1 X.2.1 dX10_widestNow_24 (by decide) ?_
      refine lv_istore_n (lv' := [(1, .int r_17), (3, .int r_17), (0, .ref (h 0)), (2, .int y_2)]) X.1 X.2.1 dX10_widestNow_28 rfl hl (by decide) rfl (fun ls hl => ?_)
      obtain ⟨x_22, ex_22⟩ : ∃ y : Int32, y = y_2 + 1 := ⟨_, rfl⟩
      replace hz_7 := lt_e hz_7 ex_22
      refine lv_iinc (v := x_22) (lv' := [(2, .int x_22), (1, .int r_17), (3, .int r_17), (0, .ref (h 0))]) X.1 X.2.1 dX10_widestNow_29 hl (k := 3) rfl (by rw [ex_22]; rfl) (by decide) rfl (fun ls hl => ?_)
      refine lv_goto (tgt := 4) X.1 X.2.1 dX10_widestNow_32 (by decide) ?_
      exact hn_8 _ (Option.some.inj hz_7).symm _ _ _ hw (lv_sub hl [3, 1, 0] rfl)
def m_X10_widest (t : ST) : Option (Int32 × ST) := Option.bind (m_X10_widestNow t) (fun (q_4 : Int32 × ST) => un q_4 (fun r_2 t_3 => some (r_2, t_3)))
theorem yo_X10_widest : yX10_widest.cls = RX10 ∧ yX10_widest.cls ≠ "java/lang/invoke/MethodHandle" ∧ yX10_widest.cls ≠ "java/lang/invoke/VarHandle" ∧ (parseMethodDescriptor yX10_widest.desc).map (fun d => d.parameters.length) = some 0 := by decide +kernel
set_option maxHeartbeats 4000000 in
set_option maxRecDepth 100000 in
theorem c_X10_widest {l : Launch} {g : gT} {h : Nat → Nat} {t : ST} {r : Int32} {t' : ST} (hm : m_X10_widest t = some (r, t')) : MetI l g yX10_widest cX10_widest 1 (some .int) 5 126 20 h (cM g h t) (cM g h t') [.ref (h 0)] r := by
  refine MetI.ofX (by decide +kernel) (Nat.le_of_ble_eq_true rfl) ?_
  intro p e s m below meth c AV Q X hret ls hw hl
  replace X : Cx g p s m AV c cX10_widest RX10 1 := X
  replace hl : lv_has ls 1 [(0, .ref (h 0))] := hl
  unfold m_X10_widest at hm
  refine lv_aload_n X.1 X.2.1 dX10_widest_0 rfl (lv_at hl 0 rfl) ?_
  replace hm := ob_e hm
  obtain ⟨⟨r_2, t_3⟩, h_1, hm⟩ := hm
  replace hm := un_e hm
  refine k_Vi (k := 0) (As := []) X hl.1 hw (c_X10_widestNow h_1) (by decide) (he_X10 g h _) rfl ⟨wq_31_20, wq_31_21, wq_31_22, wq_1_5, wq_31_23⟩ yo_X10_widestNow rfl ⟨Nat.le_of_ble_eq_true rfl, Nat.le_of_ble_eq_true rfl⟩ (Nat.le_of_ble_eq_true rfl) dX10_widest_1 (fun H locs hw => ?_)
  obtain ⟨rfl, rfl⟩ := Prod.mk.inj (Option.some.inj hm)
  exact hret _ _ _ _ hw dX10_widest_4
def m_X10_has (t : ST) (x1 : Int32) (x2 : Int32) : Option (Int32) := gd (¬ (x1 < 0 ∨ 12 ≤ x1.toNatClampNeg)) (lt (((t.2.2.1 12 x1.toNatClampNeg) >>> (x2 &&& 31)) &&& (1 : Int32)) (fun x_2 => if x_2 = (1 : Int32) then some (1 : Int32) else some (0 : Int32)))
theorem yo_X10_has : yX10_has.cls = RX10 ∧ yX10_has.cls ≠ "java/lang/invoke/MethodHandle" ∧ yX10_has.cls ≠ "java/lang/invoke/VarHandle" ∧ (parseMethodDescriptor yX10_has.desc).map (fun d => d.parameters.length) = some 2 := by decide +kernel
set_option maxHeartbeats 4000000 in
set_option maxRecDepth 100000 in
theorem c_X10_has {l : Launch} {g : gT} {h : Nat → Nat} {t : ST} {x1 : Int32} {x2 : Int32} {r : Int32} (hm : m_X10_has t x1 x2 = some r) : MetI l g yX10_has cX10_has 3 (some .boolean) 0 0 20 h (cM g h t) (cM g h t) [.ref (h 0), .int x1, .int x2] r := by
  refine MetZ.ofX (by decide +kernel) (Nat.le_of_ble_eq_true rfl) ?_
  intro p e s m below meth c AV Q X hret ls hw hl
  replace X : Cx g p s m AV c cX10_has RX10 3 := X
  replace hl : lv_has ls 3 [(0, .ref (h 0)), (1, .int x1), (2, .int x2)] := hl
  unfold m_X10_has at hm
  refine lv_aload_n X.1 X.2.1 dX10_has_0 rfl (lv_at hl 0 rfl) ?_
  refine gX10_present X hw wq_5_23 dX10_has_1 ?_
  refine lv_iload_n X.1 X.2.1 dX10_has_4 rfl (lv_at hl 1 rfl) ?_
  replace hm := gd_e hm
  obtain ⟨g_1, hm⟩ := hm
  refine lMA12 X hw g_1 dX10_has_5 ?_
  refine lv_iload_n X.1 X.2.1 dX10_has_6 rfl (lv_at hl 2 rfl) ?_
  refine lv_ishr X.1 X.2.1 dX10_has_7 ?_
  refine lv_iconst (v := 1) X.1 X.2.1 dX10_has_8 (by decide) ?_
  refine lv_iand X.1 X.2.1 dX10_has_9 ?_
  refine lv_topi (fun x_2 ex_2 => ?_)
  replace hm := lt_e hm ex_2
  refine lv_iconst (v := 1) X.1 X.2.1 dX10_has_10 (by decide) ?_
  refine lv_icmp_ne (tgt := 18) X.1 X.2.1 dX10_has_11 (by decide) (fun c_3 => ?_) (fun c_3 => ?_)
  · replace hm := it_n hm c_3
    refine lv_iconst (v := 0) X.1 X.2.1 dX10_has_18 (by decide) ?_
    obtain rfl := Option.some.inj hm
    exact hret _ _ _ _ hw dX10_has_19 (Or.inl rfl)
  · replace hm := it_p hm c_3
    refine lv_iconst (v := 1) X.1 X.2.1 dX10_has_14 (by decide) ?_
    refine lv_goto (tgt := 19) X.1 X.2.1 dX10_has_15 (by decide) ?_
    obtain rfl := Option.some.inj hm
    exact hret _ _ _ _ hw dX10_has_19 (Or.inr rfl)
def m_X10_drops (t : ST) (x1 : Int32) (x2 : Int32) : Option (ST) := gd (¬ (x1 < 0 ∨ 12 ≤ x1.toNatClampNeg)) (lt ((t.2.2.1 12 x1.toNatClampNeg) &&& (((1 : Int32) <<< (x2 &&& 31)) ^^^ (-1 : Int32))) (fun x_2 => gd (¬ (x1 < 0 ∨ 12 ≤ x1.toNatClampNeg)) (lt (wA t 12 x1.toNatClampNeg x_2) (fun t_4 => lt (wI t_4 8 (((t_4.1 8) + (1 : Int32)))) (fun t_5 => some t_5)))))
theorem yo_X10_drops : yX10_drops.cls = RX10 ∧ yX10_drops.cls ≠ "java/lang/invoke/MethodHandle" ∧ yX10_drops.cls ≠ "java/lang/invoke/VarHandle" ∧ (parseMethodDescriptor yX10_drops.desc).map (fun d => d.parameters.length) = some 2 := by decide +kernel
set_option maxHeartbeats 4000000 in
set_option maxRecDepth 100000 in
theorem c_X10_drops {l : Launch} {g : gT} {h : Nat → Nat} {t : ST} {x1 : Int32} {x2 : Int32} {t' : ST} (hm : m_X10_drops t x1 x2 = some (t')) : MetV l g yX10_drops cX10_drops 3 none 0 0 20 h (cM g h t) (cM g h t') [.ref (h 0), .int x1, .int x2] := by
  refine MetV.ofX (by decide +kernel) (Nat.le_of_ble_eq_true rfl) ?_
  intro p e s m below meth c AV Q X hret ls hw hl
  replace X : Cx g p s m AV c cX10_drops RX10 3 := X
  replace hl : lv_has ls 3 [(0, .ref (h 0)), (1, .int x1), (2, .int x2)] := hl
  unfold m_X10_drops at hm
  refine lv_aload_n X.1 X.2.1 dX10_drops_0 rfl (lv_at hl 0 rfl) ?_
  refine gX10_present X hw wq_5_23 dX10_drops_1 ?_
  refine lv_iload_n X.1 X.2.1 dX10_drops_4 rfl (lv_at hl 1 rfl) ?_
  refine lv_dup2_11 X.1 X.2.1 dX10_drops_5 rfl rfl ?_
  replace hm := gd_e hm
  obtain ⟨g_1, hm⟩ := hm
  refine lMA12 X hw g_1 dX10_drops_6 ?_
  refine lv_iconst (v := 1) X.1 X.2.1 dX10_drops_7 (by decide) ?_
  refine lv_iload_n X.1 X.2.1 dX10_drops_8 rfl (lv_at hl 2 rfl) ?_
  refine lv_ishl X.1 X.2.1 dX10_drops_9 ?_
  refine lv_iconst (v := -1) X.1 X.2.1 dX10_drops_10 (by decide) ?_
  refine lv_ixor X.1 X.2.1 dX10_drops_11 ?_
  refine lv_iand X.1 X.2.1 dX10_drops_12 ?_
  refine lv_topi (fun x_2 ex_2 => ?_)
  replace hm := lt_e hm ex_2
  replace hm := gd_e hm
  obtain ⟨g_3, hm⟩ := hm
  refine sMA12 X hw g_3 dX10_drops_13 (fun H locs hw => ?_)
  obtain ⟨t_4, et_4⟩ : ∃ y, y = wA t 12 x1.toNatClampNeg x_2 := ⟨_, rfl⟩
  rw [← et_4] at hw
  replace hm := lt_e hm et_4
  refine lv_aload_n X.1 X.2.1 dX10_drops_14 rfl (lv_at hl 0 rfl) ?_
  refine lv_dup X.1 X.2.1 dX10_drops_15 rfl ?_
  refine gX10_tidy X hw wq_25_18 dX10_drops_16 ?_
  refine lv_iconst (v := 1) X.1 X.2.1 dX10_drops_19 (by decide) ?_
  refine lv_iadd X.1 X.2.1 dX10_drops_20 ?_
  refine pX10_tidy X hw wq_25_18 dX10_drops_21 (fun H locs hw => ?_)
  obtain ⟨t_5, et_5⟩ : ∃ y, y = wI t_4 8 (((t_4.1 8) + (1 : Int32))) := ⟨_, rfl⟩
  rw [← et_5] at hw
  replace hm := lt_e hm et_5
  obtain rfl := Option.some.inj hm
  exact hret _ _ _ _ hw dX10_drops_24
def m_X10_isAt (t : ST) (x1 : Int32) (x2 : Int32) (x3 : Int32) : Option (Int32) := lt (((10 : Int32) * x1) + x2) (fun x_1 => gd (¬ (x_1 < 0 ∨ 120 ≤ x_1.toNatClampNeg)) (if (t.2.2.1 9 x_1.toNatClampNeg) = x3 then some (1 : Int32) else lt (((10 : Int32) * x1) + x2) (fun x_4 => gd (¬ (x_4 < 0 ∨ 120 ≤ x_4.toNatClampNeg)) (if (t.2.2.1 10 x_4.toNatClampNeg) = x3 then some (1 : Int32) else some (0 : Int32)))))
theorem yo_X10_isAt : yX10_isAt.cls = RX10 ∧ yX10_isAt.cls ≠ "java/lang/invoke/MethodHandle" ∧ yX10_isAt.cls ≠ "java/lang/invoke/VarHandle" ∧ (parseMethodDescriptor yX10_isAt.desc).map (fun d => d.parameters.length) = some 3 := by decide +kernel
set_option maxHeartbeats 4000000 in
set_option maxRecDepth 100000 in
theorem c_X10_isAt {l : Launch} {g : gT} {h : Nat → Nat} {t : ST} {x1 : Int32} {x2 : Int32} {x3 : Int32} {r : Int32} (hm : m_X10_isAt t x1 x2 x3 = some r) : MetI l g yX10_isAt cX10_isAt 4 (some .boolean) 0 0 20 h (cM g h t) (cM g h t) [.ref (h 0), .int x1, .int x2, .int x3] r := by
  refine MetZ.ofX (by decide +kernel) (Nat.le_of_ble_eq_true rfl) ?_
  intro p e s m below meth c AV Q X hret ls hw hl
  replace X : Cx g p s m AV c cX10_isAt RX10 4 := X
  replace hl : lv_has ls 4 [(0, .ref (h 0)), (1, .int x1), (2, .int x2), (3, .int x3)] := hl
  unfold m_X10_isAt at hm
  refine lv_aload_n X.1 X.2.1 dX10_isAt_0 rfl (lv_at hl 0 rfl) ?_
  refine gX10_netOnes X hw wq_5_20 dX10_isAt_1 ?_
  refine lv_bipush (v := 10) X.1 X.2.1 dX10_isAt_4 (by decide) ?_
  refine lv_iload_n X.1 X.2.1 dX10_isAt_6 rfl (lv_at hl 1 rfl) ?_
  refine lv_imul X.1 X.2.1 dX10_isAt_7 ?_
  refine lv_iload_n X.1 X.2.1 dX10_isAt_8 rfl (lv_at hl 2 rfl) ?_
  refine lv_iadd X.1 X.2.1 dX10_isAt_9 ?_
  refine lv_topi (fun x_1 ex_1 => ?_)
  replace hm := lt_e hm ex_1
  replace hm := gd_e hm
  obtain ⟨g_2, hm⟩ := hm
  refine lMA9 X hw g_2 dX10_isAt_10 ?_
  refine lv_iload_n X.1 X.2.1 dX10_isAt_11 rfl (lv_at hl 3 rfl) ?_
  refine lv_icmp_eq (tgt := 30) X.1 X.2.1 dX10_isAt_12 (by decide) (fun c_3 => ?_) (fun c_3 => ?_)
  · replace hm := it_p hm c_3
    refine lv_iconst (v := 1) X.1 X.2.1 dX10_isAt_30 (by decide) ?_
    refine lv_goto (tgt := 35) X.1 X.2.1 dX10_isAt_31 (by decide) ?_
    obtain rfl := Option.some.inj hm
    exact hret _ _ _ _ hw dX10_isAt_35 (Or.inr rfl)
  · replace hm := it_n hm c_3
    refine lv_aload_n X.1 X.2.1 dX10_isAt_15 rfl (lv_at hl 0 rfl) ?_
    refine gX10_netOthers X hw wq_5_21 dX10_isAt_16 ?_
    refine lv_bipush (v := 10) X.1 X.2.1 dX10_isAt_19 (by decide) ?_
    refine lv_iload_n X.1 X.2.1 dX10_isAt_21 rfl (lv_at hl 1 rfl) ?_
    refine lv_imul X.1 X.2.1 dX10_isAt_22 ?_
    refine lv_iload_n X.1 X.2.1 dX10_isAt_23 rfl (lv_at hl 2 rfl) ?_
    refine lv_iadd X.1 X.2.1 dX10_isAt_24 ?_
    refine lv_topi (fun x_4 ex_4 => ?_)
    replace hm := lt_e hm ex_4
    replace hm := gd_e hm
    obtain ⟨g_5, hm⟩ := hm
    refine lMA10 X hw g_5 dX10_isAt_25 ?_
    refine lv_iload_n X.1 X.2.1 dX10_isAt_26 rfl (lv_at hl 3 rfl) ?_
    refine lv_icmp_ne (tgt := 34) X.1 X.2.1 dX10_isAt_27 (by decide) (fun c_6 => ?_) (fun c_6 => ?_)
    · replace hm := it_n hm c_6
      refine lv_iconst (v := 0) X.1 X.2.1 dX10_isAt_34 (by decide) ?_
      obtain rfl := Option.some.inj hm
      exact hret _ _ _ _ hw dX10_isAt_35 (Or.inl rfl)
    · replace hm := it_p hm c_6
      refine lv_iconst (v := 1) X.1 X.2.1 dX10_isAt_30 (by decide) ?_
      refine lv_goto (tgt := 35) X.1 X.2.1 dX10_isAt_31 (by decide) ?_
      obtain rfl := Option.some.inj hm
      exact hret _ _ _ _ hw dX10_isAt_35 (Or.inr rfl)
def m_X10_linksAt_L5 (x1 : Int32) (x2 : Int32) (t : ST) (σ : Int32 × Int32) : Option ((Int32 × Int32) ⊕ (Int32)) := (fun (q_24 : Int32 × Int32) => un q_24 (fun y_1 y_2 => if (t.1 4) ≤ y_2 then some (.inr y_1) else Option.bind (m_X10_has t x1 y_2) (fun (r_13 : Int32) => if r_13 = 0 then lt (y_1 + (0 : Int32)) (fun x_15 => lt (y_2 + 1) (fun x_16 => some (.inl (x_15, x_16)))) else Option.bind (m_X10_isAt t x1 y_2 x2) (fun (r_18 : Int32) => if r_18 = 0 then lt (y_1 + (0 : Int32)) (fun x_20 => lt (y_2 + 1) (fun x_21 => some (.inl (x_20, x_21)))) else lt (y_1 + (1 : Int32)) (fun x_22 => lt (y_2 + 1) (fun x_23 => some (.inl (x_22, x_23)))))))) σ
def m_X10_linksAt (t : ST) (x1 : Int32) (x2 : Int32) : Option (Int32) := Option.bind (vLoop (m_X10_linksAt_L5 x1 x2 t) FUEL ((0 : Int32), (0 : Int32))) (fun (j_3 : Int32) => some j_3)
theorem yo_X10_linksAt : yX10_linksAt.cls = RX10 ∧ yX10_linksAt.cls ≠ "java/lang/invoke/MethodHandle" ∧ yX10_linksAt.cls ≠ "java/lang/invoke/VarHandle" ∧ (parseMethodDescriptor yX10_linksAt.desc).map (fun d => d.parameters.length) = some 2 := by decide +kernel
set_option maxHeartbeats 4000000 in
set_option maxRecDepth 100000 in
theorem c_X10_linksAt {l : Launch} {g : gT} {h : Nat → Nat} {t : ST} {x1 : Int32} {x2 : Int32} {r : Int32} (hm : m_X10_linksAt t x1 x2 = some r) : MetI l g yX10_linksAt cX10_linksAt 5 (some .int) 1 23 20 h (cM g h t) (cM g h t) [.ref (h 0), .int x1, .int x2] r := by
  refine MetI.ofX (by decide +kernel) (Nat.le_of_ble_eq_true rfl) ?_
  intro p e s m below meth c AV Q X hret ls hw hl
  replace X : Cx g p s m AV c cX10_linksAt RX10 5 := X
  replace hl : lv_has ls 5 [(0, .ref (h 0)), (1, .int x1), (2, .int x2)] := hl
  unfold m_X10_linksAt at hm
  refine lv_iconst (v := 0) X.1 X.2.1 dX10_linksAt_0 (by decide) ?_
  refine lv_istore_n (lv' := [(3, .int (0 : Int32)), (0, .ref (h 0)), (1, .int x1), (2, .int x2)]) X.1 X.2.1 dX10_linksAt_1 rfl hl (by decide) rfl (fun ls hl => ?_)
  refine lv_iconst (v := 0) X.1 X.2.1 dX10_linksAt_2 (by decide) ?_
  refine lv_istore (lv' := [(4, .int (0 : Int32)), (3, .int (0 : Int32)), (0, .ref (h 0)), (1, .int x1), (2, .int x2)]) X.1 X.2.1 dX10_linksAt_3 hl (by decide) rfl (fun ls hl => ?_)
  replace hm := ob_e hm
  obtain ⟨j_3, hL_9, hm⟩ := hm
  have J_8 : ∀ (H : Heap) (locs : List Loc) (ls : Array Slot), Wd g 20 h (cM g h t) s H locs → lv_has ls 5 [(3, .int j_3)] → W p l e (rW 1 23) s m AV below meth c H locs 0 0 Q (F0 m 49 ls []) := by
    intro H locs ls hw hl
    refine lv_iload_n X.1 X.2.1 dX10_linksAt_49 rfl (lv_at hl 0 rfl) ?_
    obtain rfl := Option.some.inj hm
    exact hret _ _ _ _ hw dX10_linksAt_50
  refine vLoop_ind (B := (m_X10_linksAt_L5 x1 x2 t)) (fun σ => ∀ (H : Heap) (locs : List Loc) (ls : Array Slot), Wd g 20 h (cM g h t) s H locs → lv_has ls 5 [(0, .ref (h 0)), (1, .int x1), (2, .int x2), (3, .int σ.1), (4, .int σ.2)] → W p l e (rW 1 23) s m AV below meth c H locs 0 0 Q (F0 m 5 ls [])) (fun z' => z' = j_3) ?_ FUEL _ _ hL_9 rfl _ _ _ hw (lv_sub hl [2, 3, 4, 1, 0] rfl)
  intro σ z_7 hz_4 hn_5 hx_6
  obtain ⟨y_1, y_2⟩ := σ
  intro H locs ls hw hl
  replace hw : Wd g 20 h (cM g h t) s H locs := hw
  replace hl : lv_has ls 5 [(0, .ref (h 0)), (1, .int x1), (2, .int x2), (3, .int y_1), (4, .int y_2)] := hl
  unfold m_X10_linksAt_L5 at hz_4
  replace hz_4 := un_e hz_4
  refine lv_iload X.1 X.2.1 dX10_linksAt_5 (lv_at hl 4 rfl) ?_
  refine lv_aload_n X.1 X.2.1 dX10_linksAt_7 rfl (lv_at hl 0 rfl) ?_
  refine gX10_links X hw wq_7_2 dX10_linksAt_8 ?_
  refine lv_icmp_ge (tgt := 49) X.1 X.2.1 dX10_linksAt_11 (by decide) (fun c_11 => ?_) (fun c_11 => ?_)
  · replace hz_4 := it_p hz_4 c_11
    obtain rfl := hx_6 _ (Option.some.inj hz_4).symm
    exact J_8 _ _ _ hw (lv_sub hl [3] rfl)
  · replace hz_4 := it_n hz_4 c_11
    refine lv_iload_n X.1 X.2.1 dX10_linksAt_14 rfl (lv_at hl 3 rfl) ?_
    refine lv_aload_n X.1 X.2.1 dX10_linksAt_15 rfl (lv_at hl 0 rfl) ?_
    refine lv_iload_n X.1 X.2.1 dX10_linksAt_16 rfl (lv_at hl 1 rfl) ?_
    refine lv_iload X.1 X.2.1 dX10_linksAt_17 (lv_at hl 4 rfl) ?_
    replace hz_4 := ob_e hz_4
    obtain ⟨r_13, h_12, hz_4⟩ := hz_4
    refine k_Vi (k := 0) (As := [.int x1, .int y_2]) X hl.1 hw (c_X10_has h_12) (by decide) (he_X10 g h _) rfl ⟨wq_26_3, wq_26_4, wq_26_5, wq_1_5, wq_26_6⟩ yo_X10_has rfl ⟨Nat.le_of_ble_eq_true rfl, Nat.le_of_ble_eq_true rfl⟩ (Nat.le_of_ble_eq_true rfl) dX10_linksAt_19 (fun H locs hw => ?_)
    refine lv_if_eq (tgt := 40) X.1 X.2.1 dX10_linksAt_22 (by decide) (fun c_14 => ?_) (fun c_14 => ?_)
    · replace hz_4 := it_p hz_4 c_14
      refine lv_iconst (v := 0) X.1 X.2.1 dX10_linksAt_40 (by decide) ?_
      refine lv_iadd X.1 X.2.1 dX10_linksAt_41 ?_
      refine lv_topi (fun x_15 ex_15 => ?_)
      replace hz_4 := lt_e hz_4 ex_15
      refine lv_istore_n (lv' := [(3, .int x_15), (0, .ref (h 0)), (1, .int x1), (2, .int x2), (4, .int y_2)]) X.1 X.2.1 dX10_linksAt_42 rfl hl (by decide) rfl (fun ls hl => ?_)
      obtain ⟨x_16, ex_16⟩ : ∃ y : Int32, y = y_2 + 1 := ⟨_, rfl⟩
      replace hz_4 := lt_e hz_4 ex_16
      refine lv_iinc (v := x_16) (lv' := [(4, .int x_16), (3, .int x_15), (0, .ref (h 0)), (1, .int x1), (2, .int x2)]) X.1 X.2.1 dX10_linksAt_43 hl (k := 4) rfl (by rw [ex_16]; rfl) (by decide) rfl (fun ls hl => ?_)
      refine lv_goto (tgt := 5) X.1 X.2.1 dX10_linksAt_46 (by decide) ?_
      exact hn_5 _ (Option.some.inj hz_4).symm _ _ _ hw (lv_sub hl [2, 3, 4, 1, 0] rfl)
    · replace hz_4 := it_n hz_4 c_14
      refine lv_aload_n X.1 X.2.1 dX10_linksAt_25 rfl (lv_at hl 0 rfl) ?_
      refine lv_iload_n X.1 X.2.1 dX10_linksAt_26 rfl (lv_at hl 1 rfl) ?_
      refine lv_iload X.1 X.2.1 dX10_linksAt_27 (lv_at hl 4 rfl) ?_
      refine lv_iload_n X.1 X.2.1 dX10_linksAt_29 rfl (lv_at hl 2 rfl) ?_
      replace hz_4 := ob_e hz_4
      obtain ⟨r_18, h_17, hz_4⟩ := hz_4
      refine k_Vi (k := 0) (As := [.int x1, .int y_2, .int x2]) X hl.1 hw (c_X10_isAt h_17) (by decide) (he_X10 g h _) rfl ⟨wq_26_19, wq_26_20, wq_26_21, wq_1_5, wq_26_22⟩ yo_X10_isAt rfl ⟨Nat.le_of_ble_eq_true rfl, Nat.le_of_ble_eq_true rfl⟩ (Nat.le_of_ble_eq_true rfl) dX10_linksAt_30 (fun H locs hw => ?_)
      refine lv_if_eq (tgt := 40) X.1 X.2.1 dX10_linksAt_33 (by decide) (fun c_19 => ?_) (fun c_19 => ?_)
      · replace hz_4 := it_p hz_4 c_19
        refine lv_iconst (v := 0) X.1 X.2.1 dX10_linksAt_40 (by decide) ?_
        refine lv_iadd X.1 X.2.1 dX10_linksAt_41 ?_
        refine lv_topi (fun x_20 ex_20 => ?_)
        replace hz_4 := lt_e hz_4 ex_20
        refine lv_istore_n (lv' := [(3, .int x_20), (0, .ref (h 0)), (1, .int x1), (2, .int x2), (4, .int y_2)]) X.1 X.2.1 dX10_linksAt_42 rfl hl (by decide) rfl (fun ls hl => ?_)
        obtain ⟨x_21, ex_21⟩ : ∃ y : Int32, y = y_2 + 1 := ⟨_, rfl⟩
        replace hz_4 := lt_e hz_4 ex_21
        refine lv_iinc (v := x_21) (lv' := [(4, .int x_21), (3, .int x_20), (0, .ref (h 0)), (1, .int x1), (2, .int x2)]) X.1 X.2.1 dX10_linksAt_43 hl (k := 4) rfl (by rw [ex_21]; rfl) (by decide) rfl (fun ls hl => ?_)
        refine lv_goto (tgt := 5) X.1 X.2.1 dX10_linksAt_46 (by decide) ?_
        exact hn_5 _ (Option.some.inj hz_4).symm _ _ _ hw (lv_sub hl [2, 3, 4, 1, 0] rfl)
      · replace hz_4 := it_n hz_4 c_19
        refine lv_iconst (v := 1) X.1 X.2.1 dX10_linksAt_36 (by decide) ?_
        refine lv_goto (tgt := 41) X.1 X.2.1 dX10_linksAt_37 (by decide) ?_
        refine lv_iadd X.1 X.2.1 dX10_linksAt_41 ?_
        refine lv_topi (fun x_22 ex_22 => ?_)
        replace hz_4 := lt_e hz_4 ex_22
        refine lv_istore_n (lv' := [(3, .int x_22), (0, .ref (h 0)), (1, .int x1), (2, .int x2), (4, .int y_2)]) X.1 X.2.1 dX10_linksAt_42 rfl hl (by decide) rfl (fun ls hl => ?_)
        obtain ⟨x_23, ex_23⟩ : ∃ y : Int32, y = y_2 + 1 := ⟨_, rfl⟩
        replace hz_4 := lt_e hz_4 ex_23
        refine lv_iinc (v := x_23) (lv' := [(4, .int x_23), (3, .int x_22), (0, .ref (h 0)), (1, .int x1), (2, .int x2)]) X.1 X.2.1 dX10_linksAt_43 hl (k := 4) rfl (by rw [ex_23]; rfl) (by decide) rfl (fun ls hl => ?_)
        refine lv_goto (tgt := 5) X.1 X.2.1 dX10_linksAt_46 (by decide) ?_
        exact hn_5 _ (Option.some.inj hz_4).symm _ _ _ hw (lv_sub hl [2, 3, 4, 1, 0] rfl)
def m_X10_dropsOwn_L2 (x1 : Int32) (σ : Int32 × ST) : Option ((Int32 × ST) ⊕ ((ST) ⊕ (Int32 × ST))) := (fun (q_26 : Int32 × ST) => un q_26 (fun y_1 t_2 => if (t_2.1 4) ≤ y_1 then some (.inr (.inl t_2)) else Option.bind (m_X10_has t_2 x1 y_1) (fun (r_14 : Int32) => if r_14 = 0 then lt (y_1 + 1) (fun x_16 => some (.inl (x_16, t_2))) else lt (((10 : Int32) * x1) + y_1) (fun x_17 => gd (¬ (x_17 < 0 ∨ 120 ≤ x_17.toNatClampNeg)) (lt (((10 : Int32) * x1) + y_1) (fun x_19 => gd (¬ (x_19 < 0 ∨ 120 ≤ x_19.toNatClampNeg)) (if (t_2.2.2.1 9 x_17.toNatClampNeg) = (t_2.2.2.1 10 x_19.toNatClampNeg) then Option.bind (m_X10_drops t_2 x1 y_1) (fun (t_24 : ST) => some (.inr (.inr ((1 : Int32), t_24)))) else lt (y_1 + 1) (fun x_22 => some (.inl (x_22, t_2)))))))))) σ
def m_X10_dropsOwn (t : ST) (x1 : Int32) : Option (Int32 × ST) := Option.bind (vLoop (m_X10_dropsOwn_L2 x1) FUEL ((0 : Int32), t)) (fun z => ex z (fun (t_3 : ST) => some ((0 : Int32), t_3)) (fun r_28 => some r_28))
theorem yo_X10_dropsOwn : yX10_dropsOwn.cls = RX10 ∧ yX10_dropsOwn.cls ≠ "java/lang/invoke/MethodHandle" ∧ yX10_dropsOwn.cls ≠ "java/lang/invoke/VarHandle" ∧ (parseMethodDescriptor yX10_dropsOwn.desc).map (fun d => d.parameters.length) = some 1 := by decide +kernel
set_option maxHeartbeats 4000000 in
set_option maxRecDepth 100000 in
theorem c_X10_dropsOwn {l : Launch} {g : gT} {h : Nat → Nat} {t : ST} {x1 : Int32} {r : Int32} {t' : ST} (hm : m_X10_dropsOwn t x1 = some (r, t')) : MetI l g yX10_dropsOwn cX10_dropsOwn 3 (some .boolean) 1 22 20 h (cM g h t) (cM g h t') [.ref (h 0), .int x1] r := by
  refine MetZ.ofX (by decide +kernel) (Nat.le_of_ble_eq_true rfl) ?_
  intro p e s m below meth c AV Q X hret ls hw hl
  replace X : Cx g p s m AV c cX10_dropsOwn RX10 3 := X
  replace hl : lv_has ls 3 [(0, .ref (h 0)), (1, .int x1)] := hl
  unfold m_X10_dropsOwn at hm
  refine lv_iconst (v := 0) X.1 X.2.1 dX10_dropsOwn_0 (by decide) ?_
  refine lv_istore_n (lv' := [(2, .int (0 : Int32)), (0, .ref (h 0)), (1, .int x1)]) X.1 X.2.1 dX10_dropsOwn_1 rfl hl (by decide) rfl (fun ls hl => ?_)
  replace hm := ob_e hm
  obtain ⟨z_27, hL_10, hm⟩ := hm
  have J_9 : ∀ (t_3 : ST), z_27 = .inl t_3 → ∀ (H : Heap) (locs : List Loc) (ls : Array Slot), Wd g 20 h (cM g h t_3) s H locs → lv_has ls 3 [] → W p l e (rW 1 22) s m AV below meth c H locs 0 0 Q (F0 m 58 ls []) := by
    intro t_3 hj
    subst hj
    replace hm := ex_l hm
    intro H locs ls hw hl
    refine lv_iconst (v := 0) X.1 X.2.1 dX10_dropsOwn_58 (by decide) ?_
    obtain ⟨rfl, rfl⟩ := Prod.mk.inj (Option.some.inj hm)
    exact hret _ _ _ _ hw dX10_dropsOwn_59 (Or.inl rfl)
  refine vLoop_ind (B := (m_X10_dropsOwn_L2 x1)) (fun σ => ∀ (H : Heap) (locs : List Loc) (ls : Array Slot), Wd g 20 h (cM g h σ.2) s H locs → lv_has ls 3 [(0, .ref (h 0)), (1, .int x1), (2, .int σ.1)] → W p l e (rW 1 22) s m AV below meth c H locs 0 0 Q (F0 m 2 ls [])) (fun z' => z' = z_27) ?_ FUEL _ _ hL_10 rfl _ _ _ hw (lv_sub hl [1, 2, 0] rfl)
  intro σ z_8 hz_5 hn_6 hx_7
  obtain ⟨y_1, t_2⟩ := σ
  intro H locs ls hw hl
  replace hw : Wd g 20 h (cM g h t_2) s H locs := hw
  replace hl : lv_has ls 3 [(0, .ref (h 0)), (1, .int x1), (2, .int y_1)] := hl
  unfold m_X10_dropsOwn_L2 at hz_5
  replace hz_5 := un_e hz_5
  refine lv_iload_n X.1 X.2.1 dX10_dropsOwn_2 rfl (lv_at hl 2 rfl) ?_
  refine lv_aload_n X.1 X.2.1 dX10_dropsOwn_3 rfl (lv_at hl 0 rfl) ?_
  refine gX10_links X hw wq_7_2 dX10_dropsOwn_4 ?_
  refine lv_icmp_ge (tgt := 58) X.1 X.2.1 dX10_dropsOwn_7 (by decide) (fun c_12 => ?_) (fun c_12 => ?_)
  · replace hz_5 := it_p hz_5 c_12
    have he_11 := hx_7 _ (Option.some.inj hz_5).symm
    exact J_9 _ he_11.symm _ _ _ hw (lv_sub hl [] rfl)
  · replace hz_5 := it_n hz_5 c_12
    refine lv_aload_n X.1 X.2.1 dX10_dropsOwn_10 rfl (lv_at hl 0 rfl) ?_
    refine lv_iload_n X.1 X.2.1 dX10_dropsOwn_11 rfl (lv_at hl 1 rfl) ?_
    refine lv_iload_n X.1 X.2.1 dX10_dropsOwn_12 rfl (lv_at hl 2 rfl) ?_
    replace hz_5 := ob_e hz_5
    obtain ⟨r_14, h_13, hz_5⟩ := hz_5
    refine k_Vi (k := 0) (As := [.int x1, .int y_1]) X hl.1 hw (c_X10_has h_13) (by decide) (he_X10 g h _) rfl ⟨wq_26_3, wq_26_4, wq_26_5, wq_1_5, wq_26_6⟩ yo_X10_has rfl ⟨Nat.le_of_ble_eq_true rfl, Nat.le_of_ble_eq_true rfl⟩ (Nat.le_of_ble_eq_true rfl) dX10_dropsOwn_13 (fun H locs hw => ?_)
    refine lv_if_eq (tgt := 52) X.1 X.2.1 dX10_dropsOwn_16 (by decide) (fun c_15 => ?_) (fun c_15 => ?_)
    · replace hz_5 := it_p hz_5 c_15
      obtain ⟨x_16, ex_16⟩ : ∃ y : Int32, y = y_1 + 1 := ⟨_, rfl⟩
      replace hz_5 := lt_e hz_5 ex_16
      refine lv_iinc (v := x_16) (lv' := [(2, .int x_16), (0, .ref (h 0)), (1, .int x1)]) X.1 X.2.1 dX10_dropsOwn_52 hl (k := 2) rfl (by rw [ex_16]; rfl) (by decide) rfl (fun ls hl => ?_)
      refine lv_goto (tgt := 2) X.1 X.2.1 dX10_dropsOwn_55 (by decide) ?_
      exact hn_6 _ (Option.some.inj hz_5).symm _ _ _ hw (lv_sub hl [1, 2, 0] rfl)
    · replace hz_5 := it_n hz_5 c_15
      refine lv_aload_n X.1 X.2.1 dX10_dropsOwn_19 rfl (lv_at hl 0 rfl) ?_
      refine gX10_netOnes X hw wq_5_20 dX10_dropsOwn_20 ?_
      refine lv_bipush (v := 10) X.1 X.2.1 dX10_dropsOwn_23 (by decide) ?_
      refine lv_iload_n X.1 X.2.1 dX10_dropsOwn_25 rfl (lv_at hl 1 rfl) ?_
      refine lv_imul X.1 X.2.1 dX10_dropsOwn_26 ?_
      refine lv_iload_n X.1 X.2.1 dX10_dropsOwn_27 rfl (lv_at hl 2 rfl) ?_
      refine lv_iadd X.1 X.2.1 dX10_dropsOwn_28 ?_
      refine lv_topi (fun x_17 ex_17 => ?_)
      replace hz_5 := lt_e hz_5 ex_17
      replace hz_5 := gd_e hz_5
      obtain ⟨g_18, hz_5⟩ := hz_5
      refine lMA9 X hw g_18 dX10_dropsOwn_29 ?_
      refine lv_aload_n X.1 X.2.1 dX10_dropsOwn_30 rfl (lv_at hl 0 rfl) ?_
      refine gX10_netOthers X hw wq_5_21 dX10_dropsOwn_31 ?_
      refine lv_bipush (v := 10) X.1 X.2.1 dX10_dropsOwn_34 (by decide) ?_
      refine lv_iload_n X.1 X.2.1 dX10_dropsOwn_36 rfl (lv_at hl 1 rfl) ?_
      refine lv_imul X.1 X.2.1 dX10_dropsOwn_37 ?_
      refine lv_iload_n X.1 X.2.1 dX10_dropsOwn_38 rfl (lv_at hl 2 rfl) ?_
      refine lv_iadd X.1 X.2.1 dX10_dropsOwn_39 ?_
      refine lv_topi (fun x_19 ex_19 => ?_)
      replace hz_5 := lt_e hz_5 ex_19
      replace hz_5 := gd_e hz_5
      obtain ⟨g_20, hz_5⟩ := hz_5
      refine lMA10 X hw g_20 dX10_dropsOwn_40 ?_
      refine lv_icmp_ne (tgt := 52) X.1 X.2.1 dX10_dropsOwn_41 (by decide) (fun c_21 => ?_) (fun c_21 => ?_)
      · replace hz_5 := it_n hz_5 c_21
        obtain ⟨x_22, ex_22⟩ : ∃ y : Int32, y = y_1 + 1 := ⟨_, rfl⟩
        replace hz_5 := lt_e hz_5 ex_22
        refine lv_iinc (v := x_22) (lv' := [(2, .int x_22), (0, .ref (h 0)), (1, .int x1)]) X.1 X.2.1 dX10_dropsOwn_52 hl (k := 2) rfl (by rw [ex_22]; rfl) (by decide) rfl (fun ls hl => ?_)
        refine lv_goto (tgt := 2) X.1 X.2.1 dX10_dropsOwn_55 (by decide) ?_
        exact hn_6 _ (Option.some.inj hz_5).symm _ _ _ hw (lv_sub hl [1, 2, 0] rfl)
      · replace hz_5 := it_p hz_5 c_21
        refine lv_aload_n X.1 X.2.1 dX10_dropsOwn_44 rfl (lv_at hl 0 rfl) ?_
        refine lv_iload_n X.1 X.2.1 dX10_dropsOwn_45 rfl (lv_at hl 1 rfl) ?_
        refine lv_iload_n X.1 X.2.1 dX10_dropsOwn_46 rfl (lv_at hl 2 rfl) ?_
        replace hz_5 := ob_e hz_5
        obtain ⟨t_24, h_23, hz_5⟩ := hz_5
        refine k_Vv (k := 0) (As := [.int x1, .int y_1]) X hl.1 hw (c_X10_drops h_23) (by decide) (he_X10 g h _) rfl ⟨wq_26_7, wq_26_8, wq_26_9, wq_1_5, wq_26_10⟩ yo_X10_drops rfl ⟨Nat.le_of_ble_eq_true rfl, Nat.le_of_ble_eq_true rfl⟩ (Nat.le_of_ble_eq_true rfl) dX10_dropsOwn_47 (fun H locs hw => ?_)
        refine lv_iconst (v := 1) X.1 X.2.1 dX10_dropsOwn_50 (by decide) ?_
        have he_11 := hx_7 _ (Option.some.inj hz_5).symm
        subst he_11
        replace hm := ex_r hm
        obtain ⟨rfl, rfl⟩ := Prod.mk.inj (Option.some.inj hm)
        exact hret _ _ _ _ hw dX10_dropsOwn_51 (Or.inr rfl)
def m_X10_isBeside (t : ST) (x1 : Int32) (x2 : Int32) (x3 : Int32) : Option (Int32) := lt (((10 : Int32) * x1) + x3) (fun x_1 => gd (¬ (x_1 < 0 ∨ 120 ≤ x_1.toNatClampNeg)) (Option.bind (m_X10_isAt t x1 x2 (t.2.2.1 9 x_1.toNatClampNeg)) (fun (r_4 : Int32) => if r_4 = 0 then some (0 : Int32) else lt (((10 : Int32) * x1) + x3) (fun x_6 => gd (¬ (x_6 < 0 ∨ 120 ≤ x_6.toNatClampNeg)) (Option.bind (m_X10_isAt t x1 x2 (t.2.2.1 10 x_6.toNatClampNeg)) (fun (r_9 : Int32) => if r_9 = 0 then some (0 : Int32) else some (1 : Int32)))))))
theorem yo_X10_isBeside : yX10_isBeside.cls = RX10 ∧ yX10_isBeside.cls ≠ "java/lang/invoke/MethodHandle" ∧ yX10_isBeside.cls ≠ "java/lang/invoke/VarHandle" ∧ (parseMethodDescriptor yX10_isBeside.desc).map (fun d => d.parameters.length) = some 3 := by decide +kernel
set_option maxHeartbeats 4000000 in
set_option maxRecDepth 100000 in
theorem c_X10_isBeside {l : Launch} {g : gT} {h : Nat → Nat} {t : ST} {x1 : Int32} {x2 : Int32} {x3 : Int32} {r : Int32} (hm : m_X10_isBeside t x1 x2 x3 = some r) : MetI l g yX10_isBeside cX10_isBeside 4 (some .boolean) 1 23 20 h (cM g h t) (cM g h t) [.ref (h 0), .int x1, .int x2, .int x3] r := by
  refine MetZ.ofX (by decide +kernel) (Nat.le_of_ble_eq_true rfl) ?_
  intro p e s m below meth c AV Q X hret ls hw hl
  replace X : Cx g p s m AV c cX10_isBeside RX10 4 := X
  replace hl : lv_has ls 4 [(0, .ref (h 0)), (1, .int x1), (2, .int x2), (3, .int x3)] := hl
  unfold m_X10_isBeside at hm
  refine lv_aload_n X.1 X.2.1 dX10_isBeside_0 rfl (lv_at hl 0 rfl) ?_
  refine lv_iload_n X.1 X.2.1 dX10_isBeside_1 rfl (lv_at hl 1 rfl) ?_
  refine lv_iload_n X.1 X.2.1 dX10_isBeside_2 rfl (lv_at hl 2 rfl) ?_
  refine lv_aload_n X.1 X.2.1 dX10_isBeside_3 rfl (lv_at hl 0 rfl) ?_
  refine gX10_netOnes X hw wq_5_20 dX10_isBeside_4 ?_
  refine lv_bipush (v := 10) X.1 X.2.1 dX10_isBeside_7 (by decide) ?_
  refine lv_iload_n X.1 X.2.1 dX10_isBeside_9 rfl (lv_at hl 1 rfl) ?_
  refine lv_imul X.1 X.2.1 dX10_isBeside_10 ?_
  refine lv_iload_n X.1 X.2.1 dX10_isBeside_11 rfl (lv_at hl 3 rfl) ?_
  refine lv_iadd X.1 X.2.1 dX10_isBeside_12 ?_
  refine lv_topi (fun x_1 ex_1 => ?_)
  replace hm := lt_e hm ex_1
  replace hm := gd_e hm
  obtain ⟨g_2, hm⟩ := hm
  refine lMA9 X hw g_2 dX10_isBeside_13 ?_
  replace hm := ob_e hm
  obtain ⟨r_4, h_3, hm⟩ := hm
  refine k_Vi (k := 0) (As := [.int x1, .int x2, .int (t.2.2.1 9 x_1.toNatClampNeg)]) X hl.1 hw (c_X10_isAt h_3) (by decide) (he_X10 g h _) rfl ⟨wq_26_19, wq_26_20, wq_26_21, wq_1_5, wq_26_22⟩ yo_X10_isAt rfl ⟨Nat.le_of_ble_eq_true rfl, Nat.le_of_ble_eq_true rfl⟩ (Nat.le_of_ble_eq_true rfl) dX10_isBeside_14 (fun H locs hw => ?_)
  refine lv_if_eq (tgt := 44) X.1 X.2.1 dX10_isBeside_17 (by decide) (fun c_5 => ?_) (fun c_5 => ?_)
  · replace hm := it_p hm c_5
    refine lv_iconst (v := 0) X.1 X.2.1 dX10_isBeside_44 (by decide) ?_
    obtain rfl := Option.some.inj hm
    exact hret _ _ _ _ hw dX10_isBeside_45 (Or.inl rfl)
  · replace hm := it_n hm c_5
    refine lv_aload_n X.1 X.2.1 dX10_isBeside_20 rfl (lv_at hl 0 rfl) ?_
    refine lv_iload_n X.1 X.2.1 dX10_isBeside_21 rfl (lv_at hl 1 rfl) ?_
    refine lv_iload_n X.1 X.2.1 dX10_isBeside_22 rfl (lv_at hl 2 rfl) ?_
    refine lv_aload_n X.1 X.2.1 dX10_isBeside_23 rfl (lv_at hl 0 rfl) ?_
    refine gX10_netOthers X hw wq_5_21 dX10_isBeside_24 ?_
    refine lv_bipush (v := 10) X.1 X.2.1 dX10_isBeside_27 (by decide) ?_
    refine lv_iload_n X.1 X.2.1 dX10_isBeside_29 rfl (lv_at hl 1 rfl) ?_
    refine lv_imul X.1 X.2.1 dX10_isBeside_30 ?_
    refine lv_iload_n X.1 X.2.1 dX10_isBeside_31 rfl (lv_at hl 3 rfl) ?_
    refine lv_iadd X.1 X.2.1 dX10_isBeside_32 ?_
    refine lv_topi (fun x_6 ex_6 => ?_)
    replace hm := lt_e hm ex_6
    replace hm := gd_e hm
    obtain ⟨g_7, hm⟩ := hm
    refine lMA10 X hw g_7 dX10_isBeside_33 ?_
    replace hm := ob_e hm
    obtain ⟨r_9, h_8, hm⟩ := hm
    refine k_Vi (k := 0) (As := [.int x1, .int x2, .int (t.2.2.1 10 x_6.toNatClampNeg)]) X hl.1 hw (c_X10_isAt h_8) (by decide) (he_X10 g h _) rfl ⟨wq_26_19, wq_26_20, wq_26_21, wq_1_5, wq_26_22⟩ yo_X10_isAt rfl ⟨Nat.le_of_ble_eq_true rfl, Nat.le_of_ble_eq_true rfl⟩ (Nat.le_of_ble_eq_true rfl) dX10_isBeside_34 (fun H locs hw => ?_)
    refine lv_if_eq (tgt := 44) X.1 X.2.1 dX10_isBeside_37 (by decide) (fun c_10 => ?_) (fun c_10 => ?_)
    · replace hm := it_p hm c_10
      refine lv_iconst (v := 0) X.1 X.2.1 dX10_isBeside_44 (by decide) ?_
      obtain rfl := Option.some.inj hm
      exact hret _ _ _ _ hw dX10_isBeside_45 (Or.inl rfl)
    · replace hm := it_n hm c_10
      refine lv_iconst (v := 1) X.1 X.2.1 dX10_isBeside_40 (by decide) ?_
      refine lv_goto (tgt := 45) X.1 X.2.1 dX10_isBeside_41 (by decide) ?_
      obtain rfl := Option.some.inj hm
      exact hret _ _ _ _ hw dX10_isBeside_45 (Or.inr rfl)
def m_X10_joinsBeside_L14 (x1 : Int32) (y_1 : Int32) (σ : Int32 × ST) : Option ((Int32 × ST) ⊕ ((ST) ⊕ (Int32 × ST))) := (fun (q_56 : Int32 × ST) => un q_56 (fun y_14 t_15 => if (t_15.1 4) ≤ y_14 then some (.inr (.inl t_15)) else Option.bind (m_X10_has t_15 x1 y_1) (fun (r_27 : Int32) => if r_27 = 0 then lt (y_14 + 1) (fun x_29 => some (.inl (x_29, t_15))) else Option.bind (m_X10_has t_15 x1 y_14) (fun (r_31 : Int32) => if r_31 = 0 then lt (y_14 + 1) (fun x_33 => some (.inl (x_33, t_15))) else Option.bind (m_X10_isBeside t_15 x1 y_1 y_14) (fun (r_35 : Int32) => if r_35 = 0 then lt (y_14 + 1) (fun x_37 => some (.inl (x_37, t_15))) else lt (((10 : Int32) * x1) + y_1) (fun x_38 => gd (¬ (x_38 < 0 ∨ 120 ≤ x_38.toNatClampNeg)) (lt (t_15.2.2.1 11 x_38.toNatClampNeg) (fun x_40 => lt (((10 : Int32) * x1) + y_14) (fun x_41 => gd (¬ (x_41 < 0 ∨ 120 ≤ x_41.toNatClampNeg)) (lt (t_15.2.2.1 11 x_41.toNatClampNeg) (fun x_43 => Option.bind (if x_40 = (1 : Int32) then some (1 : Int32) else if x_43 = (1 : Int32) then some (1 : Int32) else if x_40 = 0 then if x_43 = 0 then some (0 : Int32) else some (2 : Int32) else some (2 : Int32)) (fun (j_45 : Int32) => gd (¬ ((((10 : Int32) * x1) + y_1) < 0 ∨ 120 ≤ (((10 : Int32) * x1) + y_1).toNatClampNeg)) (lt (wA t_15 11 (((10 : Int32) * x1) + y_1).toNatClampNeg j_45) (fun t_47 => Option.bind (m_X10_drops t_47 x1 y_14) (fun (t_49 : ST) => some (.inr (.inr ((1 : Int32), t_49)))))))))))))))))) σ
def m_X10_joinsBeside_L2 (x1 : Int32) (σ : Int32 × ST) : Option ((Int32 × ST) ⊕ ((ST) ⊕ (Int32 × ST))) := (fun (q_60 : Int32 × ST) => un q_60 (fun y_1 t_2 => if (t_2.1 4) ≤ y_1 then some (.inr (.inl t_2)) else lt (y_1 + (1 : Int32)) (fun x_13 => Option.bind (vLoop (m_X10_joinsBeside_L14 x1 y_1) FUEL (x_13, t_2)) (fun z => ex z (fun (t_16 : ST) => lt (y_1 + 1) (fun x_17 => some (.inl (x_17, t_16)))) (fun r_58 => some (.inr (.inr r_58))))))) σ
def m_X10_joinsBeside (t : ST) (x1 : Int32) : Option (Int32 × ST) := Option.bind (vLoop (m_X10_joinsBeside_L2 x1) FUEL ((0 : Int32), t)) (fun z => ex z (fun (t_3 : ST) => some ((0 : Int32), t_3)) (fun r_62 => some r_62))
theorem yo_X10_joinsBeside : yX10_joinsBeside.cls = RX10 ∧ yX10_joinsBeside.cls ≠ "java/lang/invoke/MethodHandle" ∧ yX10_joinsBeside.cls ≠ "java/lang/invoke/VarHandle" ∧ (parseMethodDescriptor yX10_joinsBeside.desc).map (fun d => d.parameters.length) = some 1 := by decide +kernel
set_option maxHeartbeats 4000000 in
set_option maxRecDepth 100000 in
theorem c_X10_joinsBeside {l : Launch} {g : gT} {h : Nat → Nat} {t : ST} {x1 : Int32} {r : Int32} {t' : ST} (hm : m_X10_joinsBeside t x1 = some (r, t')) : MetI l g yX10_joinsBeside cX10_joinsBeside 6 (some .boolean) 2 46 20 h (cM g h t) (cM g h t') [.ref (h 0), .int x1] r := by
  refine MetZ.ofX (by decide +kernel) (Nat.le_of_ble_eq_true rfl) ?_
  intro p e s m below meth c AV Q X hret ls hw hl
  replace X : Cx g p s m AV c cX10_joinsBeside RX10 6 := X
  replace hl : lv_has ls 6 [(0, .ref (h 0)), (1, .int x1)] := hl
  unfold m_X10_joinsBeside at hm
  refine lv_iconst (v := 0) X.1 X.2.1 dX10_joinsBeside_0 (by decide) ?_
  refine lv_istore_n (lv' := [(2, .int (0 : Int32)), (0, .ref (h 0)), (1, .int x1)]) X.1 X.2.1 dX10_joinsBeside_1 rfl hl (by decide) rfl (fun ls hl => ?_)
  replace hm := ob_e hm
  obtain ⟨z_61, hL_10, hm⟩ := hm
  have J_9 : ∀ (t_3 : ST), z_61 = .inl t_3 → ∀ (H : Heap) (locs : List Loc) (ls : Array Slot), Wd g 20 h (cM g h t_3) s H locs → lv_has ls 6 [] → W p l e (rW 2 46) s m AV below meth c H locs 0 0 Q (F0 m 138 ls []) := by
    intro t_3 hj
    subst hj
    replace hm := ex_l hm
    intro H locs ls hw hl
    refine lv_iconst (v := 0) X.1 X.2.1 dX10_joinsBeside_138 (by decide) ?_
    obtain ⟨rfl, rfl⟩ := Prod.mk.inj (Option.some.inj hm)
    exact hret _ _ _ _ hw dX10_joinsBeside_139 (Or.inl rfl)
  refine vLoop_ind (B := (m_X10_joinsBeside_L2 x1)) (fun σ => ∀ (H : Heap) (locs : List Loc) (ls : Array Slot), Wd g 20 h (cM g h σ.2) s H locs → lv_has ls 6 [(0, .ref (h 0)), (1, .int x1), (2, .int σ.1)] → W p l e (rW 2 46) s m AV below meth c H locs 0 0 Q (F0 m 2 ls [])) (fun z' => z' = z_61) ?_ FUEL _ _ hL_10 rfl _ _ _ hw (lv_sub hl [1, 2, 0] rfl)
  intro σ z_8 hz_5 hn_6 hx_7
  obtain ⟨y_1, t_2⟩ := σ
  intro H locs ls hw hl
  replace hw : Wd g 20 h (cM g h t_2) s H locs := hw
  replace hl : lv_has ls 6 [(0, .ref (h 0)), (1, .int x1), (2, .int y_1)] := hl
  unfold m_X10_joinsBeside_L2 at hz_5
  replace hz_5 := un_e hz_5
  refine lv_iload_n X.1 X.2.1 dX10_joinsBeside_2 rfl (lv_at hl 2 rfl) ?_
  refine lv_aload_n X.1 X.2.1 dX10_joinsBeside_3 rfl (lv_at hl 0 rfl) ?_
  refine gX10_links X hw wq_7_2 dX10_joinsBeside_4 ?_
  refine lv_icmp_ge (tgt := 138) X.1 X.2.1 dX10_joinsBeside_7 (by decide) (fun c_12 => ?_) (fun c_12 => ?_)
  · replace hz_5 := it_p hz_5 c_12
    have he_11 := hx_7 _ (Option.some.inj hz_5).symm
    exact J_9 _ he_11.symm _ _ _ hw (lv_sub hl [] rfl)
  · replace hz_5 := it_n hz_5 c_12
    refine lv_iload_n X.1 X.2.1 dX10_joinsBeside_10 rfl (lv_at hl 2 rfl) ?_
    refine lv_iconst (v := 1) X.1 X.2.1 dX10_joinsBeside_11 (by decide) ?_
    refine lv_iadd X.1 X.2.1 dX10_joinsBeside_12 ?_
    refine lv_topi (fun x_13 ex_13 => ?_)
    replace hz_5 := lt_e hz_5 ex_13
    refine lv_istore_n (lv' := [(3, .int x_13), (0, .ref (h 0)), (1, .int x1), (2, .int y_1)]) X.1 X.2.1 dX10_joinsBeside_13 rfl hl (by decide) rfl (fun ls hl => ?_)
    replace hz_5 := ob_e hz_5
    obtain ⟨z_57, hL_23, hz_5⟩ := hz_5
    have J_22 : ∀ (t_16 : ST), z_57 = .inl t_16 → ∀ (H : Heap) (locs : List Loc) (ls : Array Slot), Wd g 20 h (cM g h t_16) s H locs → lv_has ls 6 [(0, .ref (h 0)), (1, .int x1), (2, .int y_1)] → W p l e (rW 2 46) s m AV below meth c H locs 0 0 Q (F0 m 132 ls []) := by
      intro t_16 hj
      subst hj
      replace hz_5 := ex_l hz_5
      intro H locs ls hw hl
      obtain ⟨x_17, ex_17⟩ : ∃ y : Int32, y = y_1 + 1 := ⟨_, rfl⟩
      replace hz_5 := lt_e hz_5 ex_17
      refine lv_iinc (v := x_17) (lv' := [(2, .int x_17), (0, .ref (h 0)), (1, .int x1)]) X.1 X.2.1 dX10_joinsBeside_132 hl (k := 2) rfl (by rw [ex_17]; rfl) (by decide) rfl (fun ls hl => ?_)
      refine lv_goto (tgt := 2) X.1 X.2.1 dX10_joinsBeside_135 (by decide) ?_
      exact hn_6 _ (Option.some.inj hz_5).symm _ _ _ hw (lv_sub hl [1, 2, 0] rfl)
    refine vLoop_ind (B := (m_X10_joinsBeside_L14 x1 y_1)) (fun σ => ∀ (H : Heap) (locs : List Loc) (ls : Array Slot), Wd g 20 h (cM g h σ.2) s H locs → lv_has ls 6 [(0, .ref (h 0)), (1, .int x1), (2, .int y_1), (3, .int σ.1)] → W p l e (rW 2 46) s m AV below meth c H locs 0 0 Q (F0 m 14 ls [])) (fun z' => z' = z_57) ?_ FUEL _ _ hL_23 rfl _ _ _ hw (lv_sub hl [1, 2, 3, 0] rfl)
    intro σ z_21 hz_18 hn_19 hx_20
    obtain ⟨y_14, t_15⟩ := σ
    intro H locs ls hw hl
    replace hw : Wd g 20 h (cM g h t_15) s H locs := hw
    replace hl : lv_has ls 6 [(0, .ref (h 0)), (1, .int x1), (2, .int y_1), (3, .int y_14)] := hl
    unfold m_X10_joinsBeside_L14 at hz_18
    replace hz_18 := un_e hz_18
    refine lv_iload_n X.1 X.2.1 dX10_joinsBeside_14 rfl (lv_at hl 3 rfl) ?_
    refine lv_aload_n X.1 X.2.1 dX10_joinsBeside_15 rfl (lv_at hl 0 rfl) ?_
    refine gX10_links X hw wq_7_2 dX10_joinsBeside_16 ?_
    refine lv_icmp_ge (tgt := 132) X.1 X.2.1 dX10_joinsBeside_19 (by decide) (fun c_25 => ?_) (fun c_25 => ?_)
    · replace hz_18 := it_p hz_18 c_25
      have he_24 := hx_20 _ (Option.some.inj hz_18).symm
      exact J_22 _ he_24.symm _ _ _ hw (lv_sub hl [0, 1, 2] rfl)
    · replace hz_18 := it_n hz_18 c_25
      refine lv_aload_n X.1 X.2.1 dX10_joinsBeside_22 rfl (lv_at hl 0 rfl) ?_
      refine lv_iload_n X.1 X.2.1 dX10_joinsBeside_23 rfl (lv_at hl 1 rfl) ?_
      refine lv_iload_n X.1 X.2.1 dX10_joinsBeside_24 rfl (lv_at hl 2 rfl) ?_
      replace hz_18 := ob_e hz_18
      obtain ⟨r_27, h_26, hz_18⟩ := hz_18
      refine k_Vi (k := 0) (As := [.int x1, .int y_1]) X hl.1 hw (c_X10_has h_26) (by decide) (he_X10 g h _) rfl ⟨wq_26_3, wq_26_4, wq_26_5, wq_1_5, wq_26_6⟩ yo_X10_has rfl ⟨Nat.le_of_ble_eq_true rfl, Nat.le_of_ble_eq_true rfl⟩ (Nat.le_of_ble_eq_true rfl) dX10_joinsBeside_25 (fun H locs hw => ?_)
      refine lv_if_eq (tgt := 126) X.1 X.2.1 dX10_joinsBeside_28 (by decide) (fun c_28 => ?_) (fun c_28 => ?_)
      · replace hz_18 := it_p hz_18 c_28
        obtain ⟨x_29, ex_29⟩ : ∃ y : Int32, y = y_14 + 1 := ⟨_, rfl⟩
        replace hz_18 := lt_e hz_18 ex_29
        refine lv_iinc (v := x_29) (lv' := [(3, .int x_29), (0, .ref (h 0)), (1, .int x1), (2, .int y_1)]) X.1 X.2.1 dX10_joinsBeside_126 hl (k := 3) rfl (by rw [ex_29]; rfl) (by decide) rfl (fun ls hl => ?_)
        refine lv_goto (tgt := 14) X.1 X.2.1 dX10_joinsBeside_129 (by decide) ?_
        exact hn_19 _ (Option.some.inj hz_18).symm _ _ _ hw (lv_sub hl [1, 2, 3, 0] rfl)
      · replace hz_18 := it_n hz_18 c_28
        refine lv_aload_n X.1 X.2.1 dX10_joinsBeside_31 rfl (lv_at hl 0 rfl) ?_
        refine lv_iload_n X.1 X.2.1 dX10_joinsBeside_32 rfl (lv_at hl 1 rfl) ?_
        refine lv_iload_n X.1 X.2.1 dX10_joinsBeside_33 rfl (lv_at hl 3 rfl) ?_
        replace hz_18 := ob_e hz_18
        obtain ⟨r_31, h_30, hz_18⟩ := hz_18
        refine k_Vi (k := 0) (As := [.int x1, .int y_14]) X hl.1 hw (c_X10_has h_30) (by decide) (he_X10 g h _) rfl ⟨wq_26_3, wq_26_4, wq_26_5, wq_1_5, wq_26_6⟩ yo_X10_has rfl ⟨Nat.le_of_ble_eq_true rfl, Nat.le_of_ble_eq_true rfl⟩ (Nat.le_of_ble_eq_true rfl) dX10_joinsBeside_34 (fun H locs hw => ?_)
        refine lv_if_eq (tgt := 126) X.1 X.2.1 dX10_joinsBeside_37 (by decide) (fun c_32 => ?_) (fun c_32 => ?_)
        · replace hz_18 := it_p hz_18 c_32
          obtain ⟨x_33, ex_33⟩ : ∃ y : Int32, y = y_14 + 1 := ⟨_, rfl⟩
          replace hz_18 := lt_e hz_18 ex_33
          refine lv_iinc (v := x_33) (lv' := [(3, .int x_33), (0, .ref (h 0)), (1, .int x1), (2, .int y_1)]) X.1 X.2.1 dX10_joinsBeside_126 hl (k := 3) rfl (by rw [ex_33]; rfl) (by decide) rfl (fun ls hl => ?_)
          refine lv_goto (tgt := 14) X.1 X.2.1 dX10_joinsBeside_129 (by decide) ?_
          exact hn_19 _ (Option.some.inj hz_18).symm _ _ _ hw (lv_sub hl [1, 2, 3, 0] rfl)
        · replace hz_18 := it_n hz_18 c_32
          refine lv_aload_n X.1 X.2.1 dX10_joinsBeside_40 rfl (lv_at hl 0 rfl) ?_
          refine lv_iload_n X.1 X.2.1 dX10_joinsBeside_41 rfl (lv_at hl 1 rfl) ?_
          refine lv_iload_n X.1 X.2.1 dX10_joinsBeside_42 rfl (lv_at hl 2 rfl) ?_
          refine lv_iload_n X.1 X.2.1 dX10_joinsBeside_43 rfl (lv_at hl 3 rfl) ?_
          replace hz_18 := ob_e hz_18
          obtain ⟨r_35, h_34, hz_18⟩ := hz_18
          refine k_Vi (k := 0) (As := [.int x1, .int y_1, .int y_14]) X hl.1 hw (c_X10_isBeside h_34) (by decide) (he_X10 g h _) rfl ⟨wq_26_15, wq_26_16, wq_26_17, wq_1_5, wq_26_18⟩ yo_X10_isBeside rfl ⟨Nat.le_of_ble_eq_true rfl, Nat.le_of_ble_eq_true rfl⟩ (Nat.le_of_ble_eq_true rfl) dX10_joinsBeside_44 (fun H locs hw => ?_)
          refine lv_if_eq (tgt := 126) X.1 X.2.1 dX10_joinsBeside_47 (by decide) (fun c_36 => ?_) (fun c_36 => ?_)
          · replace hz_18 := it_p hz_18 c_36
            obtain ⟨x_37, ex_37⟩ : ∃ y : Int32, y = y_14 + 1 := ⟨_, rfl⟩
            replace hz_18 := lt_e hz_18 ex_37
            refine lv_iinc (v := x_37) (lv' := [(3, .int x_37), (0, .ref (h 0)), (1, .int x1), (2, .int y_1)]) X.1 X.2.1 dX10_joinsBeside_126 hl (k := 3) rfl (by rw [ex_37]; rfl) (by decide) rfl (fun ls hl => ?_)
            refine lv_goto (tgt := 14) X.1 X.2.1 dX10_joinsBeside_129 (by decide) ?_
            exact hn_19 _ (Option.some.inj hz_18).symm _ _ _ hw (lv_sub hl [1, 2, 3, 0] rfl)
          · replace hz_18 := it_n hz_18 c_36
            refine lv_aload_n X.1 X.2.1 dX10_joinsBeside_50 rfl (lv_at hl 0 rfl) ?_
            refine gX10_netChances X hw wq_5_22 dX10_joinsBeside_51 ?_
            refine lv_bipush (v := 10) X.1 X.2.1 dX10_joinsBeside_54 (by decide) ?_
            refine lv_iload_n X.1 X.2.1 dX10_joinsBeside_56 rfl (lv_at hl 1 rfl) ?_
            refine lv_imul X.1 X.2.1 dX10_joinsBeside_57 ?_
            refine lv_iload_n X.1 X.2.1 dX10_joinsBeside_58 rfl (lv_at hl 2 rfl) ?_
            refine lv_iadd X.1 X.2.1 dX10_joinsBeside_59 ?_
            refine lv_topi (fun x_38 ex_38 => ?_)
            replace hz_18 := lt_e hz_18 ex_38
            replace hz_18 := gd_e hz_18
            obtain ⟨g_39, hz_18⟩ := hz_18
            refine lMA11 X hw g_39 dX10_joinsBeside_60 ?_
            refine lv_topi (fun x_40 ex_40 => ?_)
            replace hz_18 := lt_e hz_18 ex_40
            refine lv_istore (lv' := [(4, .int x_40), (0, .ref (h 0)), (1, .int x1), (2, .int y_1), (3, .int y_14)]) X.1 X.2.1 dX10_joinsBeside_61 hl (by decide) rfl (fun ls hl => ?_)
            refine lv_aload_n X.1 X.2.1 dX10_joinsBeside_63 rfl (lv_at hl 1 rfl) ?_
            refine gX10_netChances X hw wq_5_22 dX10_joinsBeside_64 ?_
            refine lv_bipush (v := 10) X.1 X.2.1 dX10_joinsBeside_67 (by decide) ?_
            refine lv_iload_n X.1 X.2.1 dX10_joinsBeside_69 rfl (lv_at hl 2 rfl) ?_
            refine lv_imul X.1 X.2.1 dX10_joinsBeside_70 ?_
            refine lv_iload_n X.1 X.2.1 dX10_joinsBeside_71 rfl (lv_at hl 4 rfl) ?_
            refine lv_iadd X.1 X.2.1 dX10_joinsBeside_72 ?_
            refine lv_topi (fun x_41 ex_41 => ?_)
            replace hz_18 := lt_e hz_18 ex_41
            replace hz_18 := gd_e hz_18
            obtain ⟨g_42, hz_18⟩ := hz_18
            refine lMA11 X hw g_42 dX10_joinsBeside_73 ?_
            refine lv_topi (fun x_43 ex_43 => ?_)
            replace hz_18 := lt_e hz_18 ex_43
            refine lv_istore (lv' := [(5, .int x_43), (4, .int x_40), (0, .ref (h 0)), (1, .int x1), (2, .int y_1), (3, .int y_14)]) X.1 X.2.1 dX10_joinsBeside_74 hl (by decide) rfl (fun ls hl => ?_)
            refine lv_aload_n X.1 X.2.1 dX10_joinsBeside_76 rfl (lv_at hl 2 rfl) ?_
            refine gX10_netChances X hw wq_5_22 dX10_joinsBeside_77 ?_
            refine lv_bipush (v := 10) X.1 X.2.1 dX10_joinsBeside_80 (by decide) ?_
            refine lv_iload_n X.1 X.2.1 dX10_joinsBeside_82 rfl (lv_at hl 3 rfl) ?_
            refine lv_imul X.1 X.2.1 dX10_joinsBeside_83 ?_
            refine lv_iload_n X.1 X.2.1 dX10_joinsBeside_84 rfl (lv_at hl 4 rfl) ?_
            refine lv_iadd X.1 X.2.1 dX10_joinsBeside_85 ?_
            refine lv_iload X.1 X.2.1 dX10_joinsBeside_86 (lv_at hl 1 rfl) ?_
            refine lv_iconst (v := 1) X.1 X.2.1 dX10_joinsBeside_88 (by decide) ?_
            replace hz_18 := ob_e hz_18
            obtain ⟨j_45, hg_51, hz_18⟩ := hz_18
            have J_52 : ∀ (H : Heap) (locs : List Loc) (ls : Array Slot), Wd g 20 h (cM g h t_15) s H locs → lv_has ls 6 [(0, .ref (h 0)), (1, .int x1), (3, .int y_14)] → W p l e (rW 2 46) s m AV below meth c H locs 0 0 Q (F0 m 117 ls [.int j_45, .int (((10 : Int32) * x1) + y_1), .ref (h 14)]) := by
              intro H locs ls hw hl
              replace hz_18 := gd_e hz_18
              obtain ⟨g_46, hz_18⟩ := hz_18
              refine sMA11 X hw g_46 dX10_joinsBeside_117 (fun H locs hw => ?_)
              obtain ⟨t_47, et_47⟩ : ∃ y, y = wA t_15 11 (((10 : Int32) * x1) + y_1).toNatClampNeg j_45 := ⟨_, rfl⟩
              rw [← et_47] at hw
              replace hz_18 := lt_e hz_18 et_47
              refine lv_aload_n X.1 X.2.1 dX10_joinsBeside_118 rfl (lv_at hl 0 rfl) ?_
              refine lv_iload_n X.1 X.2.1 dX10_joinsBeside_119 rfl (lv_at hl 1 rfl) ?_
              refine lv_iload_n X.1 X.2.1 dX10_joinsBeside_120 rfl (lv_at hl 2 rfl) ?_
              replace hz_18 := ob_e hz_18
              obtain ⟨t_49, h_48, hz_18⟩ := hz_18
              refine k_Vv (k := 0) (As := [.int x1, .int y_14]) X hl.1 hw (c_X10_drops h_48) (by decide) (he_X10 g h _) rfl ⟨wq_26_7, wq_26_8, wq_26_9, wq_1_5, wq_26_10⟩ yo_X10_drops rfl ⟨Nat.le_of_ble_eq_true rfl, Nat.le_of_ble_eq_true rfl⟩ (Nat.le_of_ble_eq_true rfl) dX10_joinsBeside_121 (fun H locs hw => ?_)
              refine lv_iconst (v := 1) X.1 X.2.1 dX10_joinsBeside_124 (by decide) ?_
              have he_24 := hx_20 _ (Option.some.inj hz_18).symm
              subst he_24
              replace hz_5 := ex_r hz_5
              have he_11 := hx_7 _ (Option.some.inj hz_5).symm
              subst he_11
              replace hm := ex_r hm
              obtain ⟨rfl, rfl⟩ := Prod.mk.inj (Option.some.inj hm)
              exact hret _ _ _ _ hw dX10_joinsBeside_125 (Or.inr rfl)
            refine lv_icmp_eq (tgt := 98) X.1 X.2.1 dX10_joinsBeside_89 (by decide) (fun c_44 => ?_) (fun c_44 => ?_)
            · replace hg_51 := it_p hg_51 c_44
              refine lv_iconst (v := 1) X.1 X.2.1 dX10_joinsBeside_98 (by decide) ?_
              refine lv_goto (tgt := 117) X.1 X.2.1 dX10_joinsBeside_99 (by decide) ?_
              obtain rfl := Option.some.inj hg_51
              exact J_52 _ _ _ hw (lv_sub hl [2, 3, 5] rfl)
            · replace hg_51 := it_n hg_51 c_44
              refine lv_iload X.1 X.2.1 dX10_joinsBeside_92 (lv_at hl 0 rfl) ?_
              refine lv_iconst (v := 1) X.1 X.2.1 dX10_joinsBeside_94 (by decide) ?_
              refine lv_icmp_ne (tgt := 102) X.1 X.2.1 dX10_joinsBeside_95 (by decide) (fun c_53 => ?_) (fun c_53 => ?_)
              · replace hg_51 := it_n hg_51 c_53
                refine lv_iload X.1 X.2.1 dX10_joinsBeside_102 (lv_at hl 1 rfl) ?_
                refine lv_if_ne (tgt := 116) X.1 X.2.1 dX10_joinsBeside_104 (by decide) (fun c_54 => ?_) (fun c_54 => ?_)
                · replace hg_51 := it_n hg_51 c_54
                  refine lv_iconst (v := 2) X.1 X.2.1 dX10_joinsBeside_116 (by decide) ?_
                  obtain rfl := Option.some.inj hg_51
                  exact J_52 _ _ _ hw (lv_sub hl [2, 3, 5] rfl)
                · replace hg_51 := it_p hg_51 c_54
                  refine lv_iload X.1 X.2.1 dX10_joinsBeside_107 (lv_at hl 0 rfl) ?_
                  refine lv_if_ne (tgt := 116) X.1 X.2.1 dX10_joinsBeside_109 (by decide) (fun c_55 => ?_) (fun c_55 => ?_)
                  · replace hg_51 := it_n hg_51 c_55
                    refine lv_iconst (v := 2) X.1 X.2.1 dX10_joinsBeside_116 (by decide) ?_
                    obtain rfl := Option.some.inj hg_51
                    exact J_52 _ _ _ hw (lv_sub hl [2, 3, 5] rfl)
                  · replace hg_51 := it_p hg_51 c_55
                    refine lv_iconst (v := 0) X.1 X.2.1 dX10_joinsBeside_112 (by decide) ?_
                    refine lv_goto (tgt := 117) X.1 X.2.1 dX10_joinsBeside_113 (by decide) ?_
                    obtain rfl := Option.some.inj hg_51
                    exact J_52 _ _ _ hw (lv_sub hl [2, 3, 5] rfl)
              · replace hg_51 := it_p hg_51 c_53
                refine lv_iconst (v := 1) X.1 X.2.1 dX10_joinsBeside_98 (by decide) ?_
                refine lv_goto (tgt := 117) X.1 X.2.1 dX10_joinsBeside_99 (by decide) ?_
                obtain rfl := Option.some.inj hg_51
                exact J_52 _ _ _ hw (lv_sub hl [2, 3, 5] rfl)
def m_X10_isFree (t : ST) (x1 : Int32) (x2 : Int32) (x3 : Int32) : Option (Int32) := gd (¬ (x1 < 0 ∨ 12 ≤ x1.toNatClampNeg)) (lt (((t.2.2.1 13 x1.toNatClampNeg) >>> (x2 &&& 31)) &&& (1 : Int32)) (fun x_2 => if x_2 = 0 then Option.bind (m_X10_linksAt t x1 x2) (fun (r_5 : Int32) => if r_5 = x3 then some (1 : Int32) else some (0 : Int32)) else some (0 : Int32)))
theorem yo_X10_isFree : yX10_isFree.cls = RX10 ∧ yX10_isFree.cls ≠ "java/lang/invoke/MethodHandle" ∧ yX10_isFree.cls ≠ "java/lang/invoke/VarHandle" ∧ (parseMethodDescriptor yX10_isFree.desc).map (fun d => d.parameters.length) = some 3 := by decide +kernel
set_option maxHeartbeats 4000000 in
set_option maxRecDepth 100000 in
theorem c_X10_isFree {l : Launch} {g : gT} {h : Nat → Nat} {t : ST} {x1 : Int32} {x2 : Int32} {x3 : Int32} {r : Int32} (hm : m_X10_isFree t x1 x2 x3 = some r) : MetI l g yX10_isFree cX10_isFree 4 (some .boolean) 2 47 20 h (cM g h t) (cM g h t) [.ref (h 0), .int x1, .int x2, .int x3] r := by
  refine MetZ.ofX (by decide +kernel) (Nat.le_of_ble_eq_true rfl) ?_
  intro p e s m below meth c AV Q X hret ls hw hl
  replace X : Cx g p s m AV c cX10_isFree RX10 4 := X
  replace hl : lv_has ls 4 [(0, .ref (h 0)), (1, .int x1), (2, .int x2), (3, .int x3)] := hl
  unfold m_X10_isFree at hm
  refine lv_aload_n X.1 X.2.1 dX10_isFree_0 rfl (lv_at hl 0 rfl) ?_
  refine gX10_netWanted X hw wq_6_0 dX10_isFree_1 ?_
  refine lv_iload_n X.1 X.2.1 dX10_isFree_4 rfl (lv_at hl 1 rfl) ?_
  replace hm := gd_e hm
  obtain ⟨g_1, hm⟩ := hm
  refine lMA13 X hw g_1 dX10_isFree_5 ?_
  refine lv_iload_n X.1 X.2.1 dX10_isFree_6 rfl (lv_at hl 2 rfl) ?_
  refine lv_ishr X.1 X.2.1 dX10_isFree_7 ?_
  refine lv_iconst (v := 1) X.1 X.2.1 dX10_isFree_8 (by decide) ?_
  refine lv_iand X.1 X.2.1 dX10_isFree_9 ?_
  refine lv_topi (fun x_2 ex_2 => ?_)
  replace hm := lt_e hm ex_2
  refine lv_if_ne (tgt := 27) X.1 X.2.1 dX10_isFree_10 (by decide) (fun c_3 => ?_) (fun c_3 => ?_)
  · replace hm := it_n hm c_3
    refine lv_iconst (v := 0) X.1 X.2.1 dX10_isFree_27 (by decide) ?_
    obtain rfl := Option.some.inj hm
    exact hret _ _ _ _ hw dX10_isFree_28 (Or.inl rfl)
  · replace hm := it_p hm c_3
    refine lv_aload_n X.1 X.2.1 dX10_isFree_13 rfl (lv_at hl 0 rfl) ?_
    refine lv_iload_n X.1 X.2.1 dX10_isFree_14 rfl (lv_at hl 1 rfl) ?_
    refine lv_iload_n X.1 X.2.1 dX10_isFree_15 rfl (lv_at hl 2 rfl) ?_
    replace hm := ob_e hm
    obtain ⟨r_5, h_4, hm⟩ := hm
    refine k_Vi (k := 0) (As := [.int x1, .int x2]) X hl.1 hw (c_X10_linksAt h_4) (by decide) (he_X10 g h _) rfl ⟨wq_27_7, wq_27_8, wq_27_9, wq_1_5, wq_27_10⟩ yo_X10_linksAt rfl ⟨Nat.le_of_ble_eq_true rfl, Nat.le_of_ble_eq_true rfl⟩ (Nat.le_of_ble_eq_true rfl) dX10_isFree_16 (fun H locs hw => ?_)
    refine lv_iload_n X.1 X.2.1 dX10_isFree_19 rfl (lv_at hl 3 rfl) ?_
    refine lv_icmp_ne (tgt := 27) X.1 X.2.1 dX10_isFree_20 (by decide) (fun c_6 => ?_) (fun c_6 => ?_)
    · replace hm := it_n hm c_6
      refine lv_iconst (v := 0) X.1 X.2.1 dX10_isFree_27 (by decide) ?_
      obtain rfl := Option.some.inj hm
      exact hret _ _ _ _ hw dX10_isFree_28 (Or.inl rfl)
    · replace hm := it_p hm c_6
      refine lv_iconst (v := 1) X.1 X.2.1 dX10_isFree_23 (by decide) ?_
      refine lv_goto (tgt := 28) X.1 X.2.1 dX10_isFree_24 (by decide) ?_
      obtain rfl := Option.some.inj hm
      exact hret _ _ _ _ hw dX10_isFree_28 (Or.inr rfl)
def m_X10_dropsEnds_L2 (x1 : Int32) (σ : Int32 × ST) : Option ((Int32 × ST) ⊕ ((ST) ⊕ (Int32 × ST))) := (fun (q_34 : Int32 × ST) => un q_34 (fun y_1 t_2 => if (t_2.1 4) ≤ y_1 then some (.inr (.inl t_2)) else Option.bind (m_X10_has t_2 x1 y_1) (fun (r_14 : Int32) => if r_14 = 0 then lt (y_1 + 1) (fun x_16 => some (.inl (x_16, t_2))) else lt (((10 : Int32) * x1) + y_1) (fun x_17 => gd (¬ (x_17 < 0 ∨ 120 ≤ x_17.toNatClampNeg)) (Option.bind (m_X10_isFree t_2 x1 (t_2.2.2.1 9 x_17.toNatClampNeg) (1 : Int32)) (fun (r_20 : Int32) => Option.bind ((if r_20 = 0 then lt (((10 : Int32) * x1) + y_1) (fun x_27 => gd (¬ (x_27 < 0 ∨ 120 ≤ x_27.toNatClampNeg)) (Option.bind (m_X10_isFree t_2 x1 (t_2.2.2.1 10 x_27.toNatClampNeg) (1 : Int32)) (fun (r_30 : Int32) => if r_30 = 0 then lt (y_1 + 1) (fun x_32 => some (.inr (.inl (x_32, t_2)))) else some (.inl ())))) else some (.inl ())) : Option ((Unit) ⊕ ((Int32 × ST) ⊕ ((ST) ⊕ (Int32 × ST))))) (fun z_33 => ex z_33 (fun (_ : Unit) => Option.bind (m_X10_drops t_2 x1 y_1) (fun (t_23 : ST) => some (.inr (.inr ((1 : Int32), t_23))))) (fun r => some r)))))))) σ
def m_X10_dropsEnds (t : ST) (x1 : Int32) : Option (Int32 × ST) := Option.bind (vLoop (m_X10_dropsEnds_L2 x1) FUEL ((0 : Int32), t)) (fun z => ex z (fun (t_3 : ST) => some ((0 : Int32), t_3)) (fun r_36 => some r_36))
theorem yo_X10_dropsEnds : yX10_dropsEnds.cls = RX10 ∧ yX10_dropsEnds.cls ≠ "java/lang/invoke/MethodHandle" ∧ yX10_dropsEnds.cls ≠ "java/lang/invoke/VarHandle" ∧ (parseMethodDescriptor yX10_dropsEnds.desc).map (fun d => d.parameters.length) = some 1 := by decide +kernel
set_option maxHeartbeats 4000000 in
set_option maxRecDepth 100000 in
theorem c_X10_dropsEnds {l : Launch} {g : gT} {h : Nat → Nat} {t : ST} {x1 : Int32} {r : Int32} {t' : ST} (hm : m_X10_dropsEnds t x1 = some (r, t')) : MetI l g yX10_dropsEnds cX10_dropsEnds 3 (some .boolean) 3 70 20 h (cM g h t) (cM g h t') [.ref (h 0), .int x1] r := by
  refine MetZ.ofX (by decide +kernel) (Nat.le_of_ble_eq_true rfl) ?_
  intro p e s m below meth c AV Q X hret ls hw hl
  replace X : Cx g p s m AV c cX10_dropsEnds RX10 3 := X
  replace hl : lv_has ls 3 [(0, .ref (h 0)), (1, .int x1)] := hl
  unfold m_X10_dropsEnds at hm
  refine lv_iconst (v := 0) X.1 X.2.1 dX10_dropsEnds_0 (by decide) ?_
  refine lv_istore_n (lv' := [(2, .int (0 : Int32)), (0, .ref (h 0)), (1, .int x1)]) X.1 X.2.1 dX10_dropsEnds_1 rfl hl (by decide) rfl (fun ls hl => ?_)
  replace hm := ob_e hm
  obtain ⟨z_35, hL_10, hm⟩ := hm
  have J_9 : ∀ (t_3 : ST), z_35 = .inl t_3 → ∀ (H : Heap) (locs : List Loc) (ls : Array Slot), Wd g 20 h (cM g h t_3) s H locs → lv_has ls 3 [] → W p l e (rW 3 70) s m AV below meth c H locs 0 0 Q (F0 m 73 ls []) := by
    intro t_3 hj
    subst hj
    replace hm := ex_l hm
    intro H locs ls hw hl
    refine lv_iconst (v := 0) X.1 X.2.1 dX10_dropsEnds_73 (by decide) ?_
    obtain ⟨rfl, rfl⟩ := Prod.mk.inj (Option.some.inj hm)
    exact hret _ _ _ _ hw dX10_dropsEnds_74 (Or.inl rfl)
  refine vLoop_ind (B := (m_X10_dropsEnds_L2 x1)) (fun σ => ∀ (H : Heap) (locs : List Loc) (ls : Array Slot), Wd g 20 h (cM g h σ.2) s H locs → lv_has ls 3 [(0, .ref (h 0)), (1, .int x1), (2, .int σ.1)] → W p l e (rW 3 70) s m AV below meth c H locs 0 0 Q (F0 m 2 ls [])) (fun z' => z' = z_35) ?_ FUEL _ _ hL_10 rfl _ _ _ hw (lv_sub hl [1, 2, 0] rfl)
  intro σ z_8 hz_5 hn_6 hx_7
  obtain ⟨y_1, t_2⟩ := σ
  intro H locs ls hw hl
  replace hw : Wd g 20 h (cM g h t_2) s H locs := hw
  replace hl : lv_has ls 3 [(0, .ref (h 0)), (1, .int x1), (2, .int y_1)] := hl
  unfold m_X10_dropsEnds_L2 at hz_5
  replace hz_5 := un_e hz_5
  refine lv_iload_n X.1 X.2.1 dX10_dropsEnds_2 rfl (lv_at hl 2 rfl) ?_
  refine lv_aload_n X.1 X.2.1 dX10_dropsEnds_3 rfl (lv_at hl 0 rfl) ?_
  refine gX10_links X hw wq_7_2 dX10_dropsEnds_4 ?_
  refine lv_icmp_ge (tgt := 73) X.1 X.2.1 dX10_dropsEnds_7 (by decide) (fun c_12 => ?_) (fun c_12 => ?_)
  · replace hz_5 := it_p hz_5 c_12
    have he_11 := hx_7 _ (Option.some.inj hz_5).symm
    exact J_9 _ he_11.symm _ _ _ hw (lv_sub hl [] rfl)
  · replace hz_5 := it_n hz_5 c_12
    refine lv_aload_n X.1 X.2.1 dX10_dropsEnds_10 rfl (lv_at hl 0 rfl) ?_
    refine lv_iload_n X.1 X.2.1 dX10_dropsEnds_11 rfl (lv_at hl 1 rfl) ?_
    refine lv_iload_n X.1 X.2.1 dX10_dropsEnds_12 rfl (lv_at hl 2 rfl) ?_
    replace hz_5 := ob_e hz_5
    obtain ⟨r_14, h_13, hz_5⟩ := hz_5
    refine k_Vi (k := 0) (As := [.int x1, .int y_1]) X hl.1 hw (c_X10_has h_13) (by decide) (he_X10 g h _) rfl ⟨wq_26_3, wq_26_4, wq_26_5, wq_1_5, wq_26_6⟩ yo_X10_has rfl ⟨Nat.le_of_ble_eq_true rfl, Nat.le_of_ble_eq_true rfl⟩ (Nat.le_of_ble_eq_true rfl) dX10_dropsEnds_13 (fun H locs hw => ?_)
    refine lv_if_eq (tgt := 67) X.1 X.2.1 dX10_dropsEnds_16 (by decide) (fun c_15 => ?_) (fun c_15 => ?_)
    · replace hz_5 := it_p hz_5 c_15
      obtain ⟨x_16, ex_16⟩ : ∃ y : Int32, y = y_1 + 1 := ⟨_, rfl⟩
      replace hz_5 := lt_e hz_5 ex_16
      refine lv_iinc (v := x_16) (lv' := [(2, .int x_16), (0, .ref (h 0)), (1, .int x1)]) X.1 X.2.1 dX10_dropsEnds_67 hl (k := 2) rfl (by rw [ex_16]; rfl) (by decide) rfl (fun ls hl => ?_)
      refine lv_goto (tgt := 2) X.1 X.2.1 dX10_dropsEnds_70 (by decide) ?_
      exact hn_6 _ (Option.some.inj hz_5).symm _ _ _ hw (lv_sub hl [1, 2, 0] rfl)
    · replace hz_5 := it_n hz_5 c_15
      refine lv_aload_n X.1 X.2.1 dX10_dropsEnds_19 rfl (lv_at hl 0 rfl) ?_
      refine lv_iload_n X.1 X.2.1 dX10_dropsEnds_20 rfl (lv_at hl 1 rfl) ?_
      refine lv_aload_n X.1 X.2.1 dX10_dropsEnds_21 rfl (lv_at hl 0 rfl) ?_
      refine gX10_netOnes X hw wq_5_20 dX10_dropsEnds_22 ?_
      refine lv_bipush (v := 10) X.1 X.2.1 dX10_dropsEnds_25 (by decide) ?_
      refine lv_iload_n X.1 X.2.1 dX10_dropsEnds_27 rfl (lv_at hl 1 rfl) ?_
      refine lv_imul X.1 X.2.1 dX10_dropsEnds_28 ?_
      refine lv_iload_n X.1 X.2.1 dX10_dropsEnds_29 rfl (lv_at hl 2 rfl) ?_
      refine lv_iadd X.1 X.2.1 dX10_dropsEnds_30 ?_
      refine lv_topi (fun x_17 ex_17 => ?_)
      replace hz_5 := lt_e hz_5 ex_17
      replace hz_5 := gd_e hz_5
      obtain ⟨g_18, hz_5⟩ := hz_5
      refine lMA9 X hw g_18 dX10_dropsEnds_31 ?_
      refine lv_iconst (v := 1) X.1 X.2.1 dX10_dropsEnds_32 (by decide) ?_
      replace hz_5 := ob_e hz_5
      obtain ⟨r_20, h_19, hz_5⟩ := hz_5
      refine k_Vi (k := 0) (As := [.int x1, .int (t_2.2.2.1 9 x_17.toNatClampNeg), .int (1 : Int32)]) X hl.1 hw (c_X10_isFree h_19) (by decide) (he_X10 g h _) rfl ⟨wq_27_3, wq_27_4, wq_27_5, wq_1_5, wq_27_6⟩ yo_X10_isFree rfl ⟨Nat.le_of_ble_eq_true rfl, Nat.le_of_ble_eq_true rfl⟩ (Nat.le_of_ble_eq_true rfl) dX10_dropsEnds_33 (fun H locs hw => ?_)
      replace hz_5 := ob_e hz_5
      obtain ⟨z_33, hg_25, hz_5⟩ := hz_5
      have J_26 : z_33 = .inl () → ∀ (H : Heap) (locs : List Loc) (ls : Array Slot), Wd g 20 h (cM g h t_2) s H locs → lv_has ls 3 [(0, .ref (h 0)), (1, .int x1), (2, .int y_1)] → W p l e (rW 3 70) s m AV below meth c H locs 0 0 Q (F0 m 59 ls []) := by
        intro hj
        subst hj
        replace hz_5 := ex_l hz_5
        intro H locs ls hw hl
        refine lv_aload_n X.1 X.2.1 dX10_dropsEnds_59 rfl (lv_at hl 0 rfl) ?_
        refine lv_iload_n X.1 X.2.1 dX10_dropsEnds_60 rfl (lv_at hl 1 rfl) ?_
        refine lv_iload_n X.1 X.2.1 dX10_dropsEnds_61 rfl (lv_at hl 2 rfl) ?_
        replace hz_5 := ob_e hz_5
        obtain ⟨t_23, h_22, hz_5⟩ := hz_5
        refine k_Vv (k := 0) (As := [.int x1, .int y_1]) X hl.1 hw (c_X10_drops h_22) (by decide) (he_X10 g h _) rfl ⟨wq_26_7, wq_26_8, wq_26_9, wq_1_5, wq_26_10⟩ yo_X10_drops rfl ⟨Nat.le_of_ble_eq_true rfl, Nat.le_of_ble_eq_true rfl⟩ (Nat.le_of_ble_eq_true rfl) dX10_dropsEnds_62 (fun H locs hw => ?_)
        refine lv_iconst (v := 1) X.1 X.2.1 dX10_dropsEnds_65 (by decide) ?_
        have he_11 := hx_7 _ (Option.some.inj hz_5).symm
        subst he_11
        replace hm := ex_r hm
        obtain ⟨rfl, rfl⟩ := Prod.mk.inj (Option.some.inj hm)
        exact hret _ _ _ _ hw dX10_dropsEnds_66 (Or.inr rfl)
      refine lv_if_ne (tgt := 59) X.1 X.2.1 dX10_dropsEnds_36 (by decide) (fun c_21 => ?_) (fun c_21 => ?_)
      · replace hg_25 := it_n hg_25 c_21
        exact J_26 (Option.some.inj hg_25).symm _ _ _ hw (lv_sub hl [0, 1, 2] rfl)
      · replace hg_25 := it_p hg_25 c_21
        refine lv_aload_n X.1 X.2.1 dX10_dropsEnds_39 rfl (lv_at hl 0 rfl) ?_
        refine lv_iload_n X.1 X.2.1 dX10_dropsEnds_40 rfl (lv_at hl 1 rfl) ?_
        refine lv_aload_n X.1 X.2.1 dX10_dropsEnds_41 rfl (lv_at hl 0 rfl) ?_
        refine gX10_netOthers X hw wq_5_21 dX10_dropsEnds_42 ?_
        refine lv_bipush (v := 10) X.1 X.2.1 dX10_dropsEnds_45 (by decide) ?_
        refine lv_iload_n X.1 X.2.1 dX10_dropsEnds_47 rfl (lv_at hl 1 rfl) ?_
        refine lv_imul X.1 X.2.1 dX10_dropsEnds_48 ?_
        refine lv_iload_n X.1 X.2.1 dX10_dropsEnds_49 rfl (lv_at hl 2 rfl) ?_
        refine lv_iadd X.1 X.2.1 dX10_dropsEnds_50 ?_
        refine lv_topi (fun x_27 ex_27 => ?_)
        replace hg_25 := lt_e hg_25 ex_27
        replace hg_25 := gd_e hg_25
        obtain ⟨g_28, hg_25⟩ := hg_25
        refine lMA10 X hw g_28 dX10_dropsEnds_51 ?_
        refine lv_iconst (v := 1) X.1 X.2.1 dX10_dropsEnds_52 (by decide) ?_
        replace hg_25 := ob_e hg_25
        obtain ⟨r_30, h_29, hg_25⟩ := hg_25
        refine k_Vi (k := 0) (As := [.int x1, .int (t_2.2.2.1 10 x_27.toNatClampNeg), .int (1 : Int32)]) X hl.1 hw (c_X10_isFree h_29) (by decide) (he_X10 g h _) rfl ⟨wq_27_3, wq_27_4, wq_27_5, wq_1_5, wq_27_6⟩ yo_X10_isFree rfl ⟨Nat.le_of_ble_eq_true rfl, Nat.le_of_ble_eq_true rfl⟩ (Nat.le_of_ble_eq_true rfl) dX10_dropsEnds_53 (fun H locs hw => ?_)
        refine lv_if_eq (tgt := 67) X.1 X.2.1 dX10_dropsEnds_56 (by decide) (fun c_31 => ?_) (fun c_31 => ?_)
        · replace hg_25 := it_p hg_25 c_31
          obtain ⟨x_32, ex_32⟩ : ∃ y : Int32, y = y_1 + 1 := ⟨_, rfl⟩
          replace hg_25 := lt_e hg_25 ex_32
          refine lv_iinc (v := x_32) (lv' := [(2, .int x_32), (0, .ref (h 0)), (1, .int x1)]) X.1 X.2.1 dX10_dropsEnds_67 hl (k := 2) rfl (by rw [ex_32]; rfl) (by decide) rfl (fun ls hl => ?_)
          refine lv_goto (tgt := 2) X.1 X.2.1 dX10_dropsEnds_70 (by decide) ?_
          obtain rfl := Option.some.inj hg_25
          replace hz_5 := ex_r hz_5
          exact hn_6 _ (Option.some.inj hz_5).symm _ _ _ hw (lv_sub hl [1, 2, 0] rfl)
        · replace hg_25 := it_n hg_25 c_31
          exact J_26 (Option.some.inj hg_25).symm _ _ _ hw (lv_sub hl [0, 1, 2] rfl)
