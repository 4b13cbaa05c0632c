def m_X8_answer (t : ST) (x1 : Int64) (x3 : Int64) : Option (ST) := lt (wL t 0 x1) (fun t_1 => lt (wL t_1 1 x3) (fun t_2 => some t_2))
theorem yo_X8_answer : yX8_answer.cls = RX8 ∧ yX8_answer.cls ≠ "java/lang/invoke/MethodHandle" ∧ yX8_answer.cls ≠ "java/lang/invoke/VarHandle" ∧ (parseMethodDescriptor yX8_answer.desc).map (fun d => d.parameters.length) = some 2 := by decide +kernel
set_option maxHeartbeats 4000000 in
set_option maxRecDepth 100000 in
theorem c_X8_answer {l : Launch} {g : gT} {h : Nat → Nat} {b : ST} {w : Nat → ST} {d : Nat} {t : ST} {x1 : Int64} {x3 : Int64} {t' : ST} (hd : d < 11) (hm : m_X8_answer t x1 x3 = some (t')) : MetV l g yX8_answer cX8_answer 5 none 0 0 79 h (cC g h (b, va_up w d t)) (cC g h (b, va_up w d t')) [.ref (h (24 + 5 * d)), .long x1, .long x3] := by
  refine MetV.ofX (by decide +kernel) (Nat.le_of_ble_eq_true rfl) ?_
  intro p e s m below meth c AV Q X hret ls hw hl
  replace X : Cx g p s m AV c cX8_answer RX8 5 := X
  replace hl : lv_has ls 5 [(0, .ref (h (24 + 5 * d))), (1, .long x1), (3, .long x3)] := hl
  unfold m_X8_answer at hm
  refine lv_aload_n X.1 X.2.1 dX8_answer_0 rfl (lv_at hl 0 rfl) ?_
  refine lv_lload_n X.1 X.2.1 dX8_answer_1 rfl (lv_at hl 1 rfl) ?_
  refine pX8_answerAbove hd X hw wq_15_20 dX8_answer_2 (fun H locs hw => ?_)
  obtain ⟨t_1, et_1⟩ : ∃ y, y = wL t 0 x1 := ⟨_, rfl⟩
  rw [← et_1] at hw
  replace hm := lt_e hm et_1
  refine lv_aload_n X.1 X.2.1 dX8_answer_5 rfl (lv_at hl 0 rfl) ?_
  refine lv_lload_n X.1 X.2.1 dX8_answer_6 rfl (lv_at hl 2 rfl) ?_
  refine pX8_answerBelow hd X hw wq_15_21 dX8_answer_7 (fun H locs hw => ?_)
  obtain ⟨t_2, et_2⟩ : ∃ y, y = wL t_1 1 x3 := ⟨_, rfl⟩
  rw [← et_2] at hw
  replace hm := lt_e hm et_2
  obtain rfl := Option.some.inj hm
  exact hret _ _ _ _ hw dX8_answer_10
theorem c_X8_answer_c {l : Launch} {g : gT} {h : Nat → Nat} {b : ST} {w : Nat → ST} {d : Nat} {x1 : Int64} {x3 : Int64} {t' : ST} (hd : d < 11) (hm : m_X8_answer (w d) x1 x3 = some (t')) : MetV l g yX8_answer cX8_answer 5 none 0 0 79 h (cC g h (b, w)) (cC g h (b, va_up w d t')) [.ref (h (24 + 5 * d)), .long x1, .long x3] := by
  have hc := c_X8_answer (l := l) (g := g) (h := h) (b := b) (w := w) hd hm
  rw [up_self] at hc
  exact hc
def m_X8_takeAll_L18 (b : ST) (σ : Int32 × ST) : Option ((Int32 × ST) ⊕ (ST)) := (fun (q_40 : Int32 × ST) => un q_40 (fun y_7 t_8 => Option.bind (m_X2_linkCount b) (fun (r_20 : Int32) => if r_20 ≤ y_7 then some (.inr t_8) else if (10 : Int32) ≤ y_7 then some (.inr t_8) else Option.bind (m_X2_lesserOf b y_7) (fun (r_24 : Int32) => gd (¬ (y_7 < 0 ∨ 10 ≤ y_7.toNatClampNeg)) (lt (wA t_8 0 y_7.toNatClampNeg r_24) (fun t_26 => Option.bind (m_X2_greaterOf b y_7) (fun (r_28 : Int32) => gd (¬ (y_7 < 0 ∨ 10 ≤ y_7.toNatClampNeg)) (lt (wA t_26 1 y_7.toNatClampNeg r_28) (fun t_30 => Option.bind (m_X2_upParts b y_7) (fun (r_32 : Int32) => gd (¬ (y_7 < 0 ∨ 10 ≤ y_7.toNatClampNeg)) (lt (wB t_30 0 y_7.toNatClampNeg (r_32.toInt64)) (fun t_34 => Option.bind (m_X2_wholeParts b y_7) (fun (r_36 : Int32) => gd (¬ (y_7 < 0 ∨ 10 ≤ y_7.toNatClampNeg)) (lt (wB t_34 1 y_7.toNatClampNeg (r_36.toInt64)) (fun t_38 => lt (y_7 + 1) (fun x_39 => some (.inl (x_39, t_38)))))))))))))))))) σ
def m_X8_takeAll (t : ST) (b : ST) : Option (ST) := Option.bind (m_X2_allLinks b) (fun (r_2 : Int32) => lt (wI t 0 r_2) (fun t_3 => Option.bind (m_X2_wantedStations b) (fun (r_5 : Int32) => lt (wI t_3 1 r_5) (fun t_6 => Option.bind (vLoop (m_X8_takeAll_L18 b) FUEL ((0 : Int32), t_6)) (fun (t_9 : ST) => Option.bind (m_X8_answer t_9 (0 : Int64) (1 : Int64)) (fun (t_11 : ST) => some t_11))))))
theorem yo_X8_takeAll : yX8_takeAll.cls = RX8 ∧ yX8_takeAll.cls ≠ "java/lang/invoke/MethodHandle" ∧ yX8_takeAll.cls ≠ "java/lang/invoke/VarHandle" ∧ (parseMethodDescriptor yX8_takeAll.desc).map (fun d => d.parameters.length) = some 1 := by decide +kernel
set_option maxHeartbeats 4000000 in
set_option maxRecDepth 100000 in
theorem c_X8_takeAll {l : Launch} {g : gT} {h : Nat → Nat} {b : ST} {w : Nat → ST} {d : Nat} {t : ST} {t' : ST} (hd : d < 11) (hm : m_X8_takeAll t b = some (t')) : MetV l g yX8_takeAll cX8_takeAll 3 none 3 64 79 h (cC g h (b, va_up w d t)) (cC g h (b, va_up w d t')) [.ref (h (24 + 5 * d)), .ref (h 1)] := by
  refine MetV.ofX (by decide +kernel) (Nat.le_of_ble_eq_true rfl) ?_
  intro p e s m below meth c AV Q X hret ls hw hl
  replace X : Cx g p s m AV c cX8_takeAll RX8 3 := X
  replace hl : lv_has ls 3 [(0, .ref (h (24 + 5 * d))), (1, .ref (h 1))] := hl
  unfold m_X8_takeAll at hm
  refine lv_aload_n X.1 X.2.1 dX8_takeAll_0 rfl (lv_at hl 0 rfl) ?_
  refine lv_aload_n X.1 X.2.1 dX8_takeAll_1 rfl (lv_at hl 1 rfl) ?_
  replace hm := ob_e hm
  obtain ⟨r_2, h_1, hm⟩ := hm
  refine k_Vi (k := 1) (As := []) X hl.1 hw (c_X2_allLinks h_1) (by decide) (he_X2 g h _ _) rfl ⟨wq_15_9, wq_11_7, wq_11_8, wq_1_13, wq_11_9⟩ yo_X2_allLinks rfl ⟨Nat.le_of_ble_eq_true rfl, Nat.le_of_ble_eq_true rfl⟩ (Nat.le_of_ble_eq_true rfl) dX8_takeAll_2 (fun H locs hw => ?_)
  refine pX8_links hd X hw wq_15_7 dX8_takeAll_5 (fun H locs hw => ?_)
  obtain ⟨t_3, et_3⟩ : ∃ y, y = wI t 0 r_2 := ⟨_, rfl⟩
  rw [← et_3] at hw
  replace hm := lt_e hm et_3
  refine lv_aload_n X.1 X.2.1 dX8_takeAll_8 rfl (lv_at hl 0 rfl) ?_
  refine lv_aload_n X.1 X.2.1 dX8_takeAll_9 rfl (lv_at hl 1 rfl) ?_
  replace hm := ob_e hm
  obtain ⟨r_5, h_4, hm⟩ := hm
  refine k_Vi (k := 1) (As := []) X hl.1 hw (c_X2_wantedStations h_4) (by decide) (he_X2 g h _ _) rfl ⟨wq_15_10, wq_10_15, wq_10_16, wq_1_13, wq_10_17⟩ yo_X2_wantedStations rfl ⟨Nat.le_of_ble_eq_true rfl, Nat.le_of_ble_eq_true rfl⟩ (Nat.le_of_ble_eq_true rfl) dX8_takeAll_10 (fun H locs hw => ?_)
  refine pX8_wanted hd X hw wq_15_8 dX8_takeAll_13 (fun H locs hw => ?_)
  obtain ⟨t_6, et_6⟩ : ∃ y, y = wI t_3 1 r_5 := ⟨_, rfl⟩
  rw [← et_6] at hw
  replace hm := lt_e hm et_6
  refine lv_iconst (v := 0) X.1 X.2.1 dX8_takeAll_16 (by decide) ?_
  refine lv_istore_n (lv' := [(2, .int (0 : Int32)), (0, .ref (h (24 + 5 * d))), (1, .ref (h 1))]) X.1 X.2.1 dX8_takeAll_17 rfl hl (by decide) rfl (fun ls hl => ?_)
  replace hm := ob_e hm
  obtain ⟨t_9, hL_17, hm⟩ := hm
  have J_16 : ∀ (H : Heap) (locs : List Loc) (ls : Array Slot), Wd g 79 h (cC g h (b, va_up w d t_9)) s H locs → lv_has ls 3 [(0, .ref (h (24 + 5 * d)))] → W p l e (rW 3 64) s m AV below meth c H locs 0 0 Q (F0 m 84 ls []) := by
    intro H locs ls hw hl
    refine lv_aload_n X.1 X.2.1 dX8_takeAll_84 rfl (lv_at hl 0 rfl) ?_
    refine lv_lconst (v := 0) X.1 X.2.1 dX8_takeAll_85 (by decide) ?_
    refine lv_lconst (v := 1) X.1 X.2.1 dX8_takeAll_86 (by decide) ?_
    replace hm := ob_e hm
    obtain ⟨t_11, h_10, hm⟩ := hm
    refine k_Vv (k := (24 + 5 * d)) (As := [.long (0 : Int64), .long (1 : Int64)]) X hl.1 hw (c_X8_answer hd h_10) (by omega) (he_X8 g h _ _ _) rfl ⟨wq_15_16, wq_15_17, wq_15_18, wq_4_6, wq_15_19⟩ yo_X8_answer rfl ⟨Nat.le_of_ble_eq_true rfl, Nat.le_of_ble_eq_true rfl⟩ (Nat.le_of_ble_eq_true rfl) dX8_takeAll_87 (fun H locs hw => ?_)
    obtain rfl := Option.some.inj hm
    exact hret _ _ _ _ hw dX8_takeAll_90
  refine vLoop_ind (B := (m_X8_takeAll_L18 b)) (fun σ => ∀ (H : Heap) (locs : List Loc) (ls : Array Slot), Wd g 79 h (cC g h (b, va_up w d σ.2)) s H locs → lv_has ls 3 [(0, .ref (h (24 + 5 * d))), (1, .ref (h 1)), (2, .int σ.1)] → W p l e (rW 3 64) s m AV below meth c H locs 0 0 Q (F0 m 18 ls [])) (fun z' => z' = t_9) ?_ FUEL _ _ hL_17 rfl _ _ _ hw (lv_sub hl [1, 2, 0] rfl)
  intro σ z_15 hz_12 hn_13 hx_14
  obtain ⟨y_7, t_8⟩ := σ
  intro H locs ls hw hl
  replace hw : Wd g 79 h (cC g h (b, va_up w d t_8)) s H locs := hw
  replace hl : lv_has ls 3 [(0, .ref (h (24 + 5 * d))), (1, .ref (h 1)), (2, .int y_7)] := hl
  unfold m_X8_takeAll_L18 at hz_12
  replace hz_12 := un_e hz_12
  refine lv_iload_n X.1 X.2.1 dX8_takeAll_18 rfl (lv_at hl 2 rfl) ?_
  refine lv_aload_n X.1 X.2.1 dX8_takeAll_19 rfl (lv_at hl 1 rfl) ?_
  replace hz_12 := ob_e hz_12
  obtain ⟨r_20, h_19, hz_12⟩ := hz_12
  refine k_Vi (k := 1) (As := []) X hl.1 hw (c_X2_linkCount h_19) (by decide) (he_X2 g h _ _) rfl ⟨wq_15_11, wq_10_11, wq_10_12, wq_1_13, wq_10_13⟩ yo_X2_linkCount rfl ⟨Nat.le_of_ble_eq_true rfl, Nat.le_of_ble_eq_true rfl⟩ (Nat.le_of_ble_eq_true rfl) dX8_takeAll_20 (fun H locs hw => ?_)
  refine lv_icmp_ge (tgt := 84) X.1 X.2.1 dX8_takeAll_23 (by decide) (fun c_21 => ?_) (fun c_21 => ?_)
  · replace hz_12 := it_p hz_12 c_21
    obtain rfl := hx_14 _ (Option.some.inj hz_12).symm
    exact J_16 _ _ _ hw (lv_sub hl [0] rfl)
  · replace hz_12 := it_n hz_12 c_21
    refine lv_iload_n X.1 X.2.1 dX8_takeAll_26 rfl (lv_at hl 2 rfl) ?_
    refine lv_bipush (v := 10) X.1 X.2.1 dX8_takeAll_27 (by decide) ?_
    refine lv_icmp_ge (tgt := 84) X.1 X.2.1 dX8_takeAll_29 (by decide) (fun c_22 => ?_) (fun c_22 => ?_)
    · replace hz_12 := it_p hz_12 c_22
      obtain rfl := hx_14 _ (Option.some.inj hz_12).symm
      exact J_16 _ _ _ hw (lv_sub hl [0] rfl)
    · replace hz_12 := it_n hz_12 c_22
      refine lv_aload_n X.1 X.2.1 dX8_takeAll_32 rfl (lv_at hl 0 rfl) ?_
      refine gX8_nears hd X hw wq_4_10 dX8_takeAll_33 ?_
      refine lv_iload_n X.1 X.2.1 dX8_takeAll_36 rfl (lv_at hl 2 rfl) ?_
      refine lv_aload_n X.1 X.2.1 dX8_takeAll_37 rfl (lv_at hl 1 rfl) ?_
      refine lv_iload_n X.1 X.2.1 dX8_takeAll_38 rfl (lv_at hl 2 rfl) ?_
      replace hz_12 := ob_e hz_12
      obtain ⟨r_24, h_23, hz_12⟩ := hz_12
      refine k_Vi (k := 1) (As := [.int y_7]) X hl.1 hw (c_X2_lesserOf h_23) (by decide) (he_X2 g h _ _) rfl ⟨wq_15_12, wq_7_19, wq_7_20, wq_1_13, wq_7_21⟩ yo_X2_lesserOf rfl ⟨Nat.le_of_ble_eq_true rfl, Nat.le_of_ble_eq_true rfl⟩ (Nat.le_of_ble_eq_true rfl) dX8_takeAll_39 (fun H locs hw => ?_)
      replace hz_12 := gd_e hz_12
      obtain ⟨g_25, hz_12⟩ := hz_12
      refine sTA0 hd X hw g_25 dX8_takeAll_42 (fun H locs hw => ?_)
      obtain ⟨t_26, et_26⟩ : ∃ y, y = wA t_8 0 y_7.toNatClampNeg r_24 := ⟨_, rfl⟩
      rw [← et_26] at hw
      replace hz_12 := lt_e hz_12 et_26
      refine lv_aload_n X.1 X.2.1 dX8_takeAll_43 rfl (lv_at hl 0 rfl) ?_
      refine gX8_fars hd X hw wq_4_11 dX8_takeAll_44 ?_
      refine lv_iload_n X.1 X.2.1 dX8_takeAll_47 rfl (lv_at hl 2 rfl) ?_
      refine lv_aload_n X.1 X.2.1 dX8_takeAll_48 rfl (lv_at hl 1 rfl) ?_
      refine lv_iload_n X.1 X.2.1 dX8_takeAll_49 rfl (lv_at hl 2 rfl) ?_
      replace hz_12 := ob_e hz_12
      obtain ⟨r_28, h_27, hz_12⟩ := hz_12
      refine k_Vi (k := 1) (As := [.int y_7]) X hl.1 hw (c_X2_greaterOf h_27) (by decide) (he_X2 g h _ _) rfl ⟨wq_15_13, wq_8_3, wq_8_4, wq_1_13, wq_8_5⟩ yo_X2_greaterOf rfl ⟨Nat.le_of_ble_eq_true rfl, Nat.le_of_ble_eq_true rfl⟩ (Nat.le_of_ble_eq_true rfl) dX8_takeAll_50 (fun H locs hw => ?_)
      replace hz_12 := gd_e hz_12
      obtain ⟨g_29, hz_12⟩ := hz_12
      refine sTA1 hd X hw g_29 dX8_takeAll_53 (fun H locs hw => ?_)
      obtain ⟨t_30, et_30⟩ : ∃ y, y = wA t_26 1 y_7.toNatClampNeg r_28 := ⟨_, rfl⟩
      rw [← et_30] at hw
      replace hz_12 := lt_e hz_12 et_30
      refine lv_aload_n X.1 X.2.1 dX8_takeAll_54 rfl (lv_at hl 0 rfl) ?_
      refine gX8_aboves hd X hw wq_4_12 dX8_takeAll_55 ?_
      refine lv_iload_n X.1 X.2.1 dX8_takeAll_58 rfl (lv_at hl 2 rfl) ?_
      refine lv_aload_n X.1 X.2.1 dX8_takeAll_59 rfl (lv_at hl 1 rfl) ?_
      refine lv_iload_n X.1 X.2.1 dX8_takeAll_60 rfl (lv_at hl 2 rfl) ?_
      replace hz_12 := ob_e hz_12
      obtain ⟨r_32, h_31, hz_12⟩ := hz_12
      refine k_Vi (k := 1) (As := [.int y_7]) X hl.1 hw (c_X2_upParts h_31) (by decide) (he_X2 g h _ _) rfl ⟨wq_15_14, wq_13_6, wq_13_7, wq_1_13, wq_13_8⟩ yo_X2_upParts rfl ⟨Nat.le_of_ble_eq_true rfl, Nat.le_of_ble_eq_true rfl⟩ (Nat.le_of_ble_eq_true rfl) dX8_takeAll_61 (fun H locs hw => ?_)
      refine lv_i2l X.1 X.2.1 dX8_takeAll_64 rfl ?_
      replace hz_12 := gd_e hz_12
      obtain ⟨g_33, hz_12⟩ := hz_12
      refine sTB0 hd X hw g_33 dX8_takeAll_65 (fun H locs hw => ?_)
      obtain ⟨t_34, et_34⟩ : ∃ y, y = wB t_30 0 y_7.toNatClampNeg (r_32.toInt64) := ⟨_, rfl⟩
      rw [← et_34] at hw
      replace hz_12 := lt_e hz_12 et_34
      refine lv_aload_n X.1 X.2.1 dX8_takeAll_66 rfl (lv_at hl 0 rfl) ?_
      refine gX8_belows hd X hw wq_4_13 dX8_takeAll_67 ?_
      refine lv_iload_n X.1 X.2.1 dX8_takeAll_70 rfl (lv_at hl 2 rfl) ?_
      refine lv_aload_n X.1 X.2.1 dX8_takeAll_71 rfl (lv_at hl 1 rfl) ?_
      refine lv_iload_n X.1 X.2.1 dX8_takeAll_72 rfl (lv_at hl 2 rfl) ?_
      replace hz_12 := ob_e hz_12
      obtain ⟨r_36, h_35, hz_12⟩ := hz_12
      refine k_Vi (k := 1) (As := [.int y_7]) X hl.1 hw (c_X2_wholeParts h_35) (by decide) (he_X2 g h _ _) rfl ⟨wq_15_15, wq_13_14, wq_13_15, wq_1_13, wq_13_16⟩ yo_X2_wholeParts rfl ⟨Nat.le_of_ble_eq_true rfl, Nat.le_of_ble_eq_true rfl⟩ (Nat.le_of_ble_eq_true rfl) dX8_takeAll_73 (fun H locs hw => ?_)
      refine lv_i2l X.1 X.2.1 dX8_takeAll_76 rfl ?_
      replace hz_12 := gd_e hz_12
      obtain ⟨g_37, hz_12⟩ := hz_12
      refine sTB1 hd X hw g_37 dX8_takeAll_77 (fun H locs hw => ?_)
      obtain ⟨t_38, et_38⟩ : ∃ y, y = wB t_34 1 y_7.toNatClampNeg (r_36.toInt64) := ⟨_, rfl⟩
      rw [← et_38] at hw
      replace hz_12 := lt_e hz_12 et_38
      obtain ⟨x_39, ex_39⟩ : ∃ y : Int32, y = y_7 + 1 := ⟨_, rfl⟩
      replace hz_12 := lt_e hz_12 ex_39
      refine lv_iinc (v := x_39) (lv' := [(2, .int x_39), (0, .ref (h (24 + 5 * d))), (1, .ref (h 1))]) X.1 X.2.1 dX8_takeAll_78 hl (k := 2) rfl (by rw [ex_39]; rfl) (by decide) rfl (fun ls hl => ?_)
      refine lv_goto (tgt := 18) X.1 X.2.1 dX8_takeAll_81 (by decide) ?_
      exact hn_13 _ (Option.some.inj hz_12).symm _ _ _ hw (lv_sub hl [1, 2, 0] rfl)
theorem c_X8_takeAll_c {l : Launch} {g : gT} {h : Nat → Nat} {b : ST} {w : Nat → ST} {d : Nat} {t' : ST} (hd : d < 11) (hm : m_X8_takeAll (w d) b = some (t')) : MetV l g yX8_takeAll cX8_takeAll 3 none 3 64 79 h (cC g h (b, w)) (cC g h (b, va_up w d t')) [.ref (h (24 + 5 * d)), .ref (h 1)] := by
  have hc := c_X8_takeAll (l := l) (g := g) (h := h) (b := b) (w := w) hd hm
  rw [up_self] at hc
  exact hc
def m_X8_takeCut_L24 (o : ST) (σ : Int32 × ST) : Option ((Int32 × ST) ⊕ (ST)) := (fun (q_30 : Int32 × ST) => un q_30 (fun y_4 t_5 => if (10 : Int32) ≤ y_4 then some (.inr t_5) else gd (¬ (y_4 < 0 ∨ 10 ≤ y_4.toNatClampNeg)) (gd (¬ (y_4 < 0 ∨ 10 ≤ y_4.toNatClampNeg)) (lt (wA t_5 0 y_4.toNatClampNeg (o.2.2.1 0 y_4.toNatClampNeg)) (fun t_19 => gd (¬ (y_4 < 0 ∨ 10 ≤ y_4.toNatClampNeg)) (gd (¬ (y_4 < 0 ∨ 10 ≤ y_4.toNatClampNeg)) (lt (wA t_19 1 y_4.toNatClampNeg (o.2.2.1 1 y_4.toNatClampNeg)) (fun t_22 => gd (¬ (y_4 < 0 ∨ 10 ≤ y_4.toNatClampNeg)) (gd (¬ (y_4 < 0 ∨ 10 ≤ y_4.toNatClampNeg)) (lt (wB t_22 0 y_4.toNatClampNeg (o.2.2.2 0 y_4.toNatClampNeg)) (fun t_25 => gd (¬ (y_4 < 0 ∨ 10 ≤ y_4.toNatClampNeg)) (gd (¬ (y_4 < 0 ∨ 10 ≤ y_4.toNatClampNeg)) (lt (wB t_25 1 y_4.toNatClampNeg (o.2.2.2 1 y_4.toNatClampNeg)) (fun t_28 => lt (y_4 + 1) (fun x_29 => some (.inl (x_29, t_28))))))))))))))))) σ
def m_X8_takeCut (t : ST) (o : ST) (x2 : Int32) : Option (ST) := lt ((o.1 0) &&& (((1 : Int32) <<< (x2 &&& 31)) ^^^ (-1 : Int32))) (fun x_1 => lt (wI t 0 x_1) (fun t_2 => lt (wI t_2 1 (o.1 1)) (fun t_3 => Option.bind (vLoop (m_X8_takeCut_L24 o) FUEL ((0 : Int32), t_3)) (fun (t_6 : ST) => Option.bind (m_X8_answer t_6 (0 : Int64) (1 : Int64)) (fun (t_8 : ST) => some t_8)))))
theorem yo_X8_takeCut : yX8_takeCut.cls = RX8 ∧ yX8_takeCut.cls ≠ "java/lang/invoke/MethodHandle" ∧ yX8_takeCut.cls ≠ "java/lang/invoke/VarHandle" ∧ (parseMethodDescriptor yX8_takeCut.desc).map (fun d => d.parameters.length) = some 2 := by decide +kernel
set_option maxHeartbeats 4000000 in
set_option maxRecDepth 100000 in
theorem c_X8_takeCut {l : Launch} {g : gT} {h : Nat → Nat} {b : ST} {w : Nat → ST} {d : Nat} {t : ST} {k : Nat} {o : ST} {x2 : Int32} {t' : ST} (hd : d < 11) (hk : k ≠ d) (hk11 : k < 11) (ho : w k = o) (hm : m_X8_takeCut t o x2 = some (t')) : MetV l g yX8_takeCut cX8_takeCut 4 none 1 24 79 h (cC g h (b, va_up w d t)) (cC g h (b, va_up w d t')) [.ref (h (24 + 5 * d)), .ref (h (24 + 5 * k)), .int x2] := by
  refine MetV.ofX (by decide +kernel) (Nat.le_of_ble_eq_true rfl) ?_
  intro p e s m below meth c AV Q X hret ls hw hl
  replace X : Cx g p s m AV c cX8_takeCut RX8 4 := X
  replace hl : lv_has ls 4 [(0, .ref (h (24 + 5 * d))), (1, .ref (h (24 + 5 * k))), (2, .int x2)] := hl
  unfold m_X8_takeCut at hm
  refine lv_aload_n X.1 X.2.1 dX8_takeCut_0 rfl (lv_at hl 0 rfl) ?_
  refine lv_aload_n X.1 X.2.1 dX8_takeCut_1 rfl (lv_at hl 1 rfl) ?_
  refine oX8_links hd hk hk11 ho X hw wq_15_7 dX8_takeCut_2 ?_
  refine lv_iconst (v := 1) X.1 X.2.1 dX8_takeCut_5 (by decide) ?_
  refine lv_iload_n X.1 X.2.1 dX8_takeCut_6 rfl (lv_at hl 2 rfl) ?_
  refine lv_ishl X.1 X.2.1 dX8_takeCut_7 ?_
  refine lv_iconst (v := -1) X.1 X.2.1 dX8_takeCut_8 (by decide) ?_
  refine lv_ixor X.1 X.2.1 dX8_takeCut_9 ?_
  refine lv_iand X.1 X.2.1 dX8_takeCut_10 ?_
  refine lv_topi (fun x_1 ex_1 => ?_)
  replace hm := lt_e hm ex_1
  refine pX8_links hd X hw wq_15_7 dX8_takeCut_11 (fun H locs hw => ?_)
  obtain ⟨t_2, et_2⟩ : ∃ y, y = wI t 0 x_1 := ⟨_, rfl⟩
  rw [← et_2] at hw
  replace hm := lt_e hm et_2
  refine lv_aload_n X.1 X.2.1 dX8_takeCut_14 rfl (lv_at hl 0 rfl) ?_
  refine lv_aload_n X.1 X.2.1 dX8_takeCut_15 rfl (lv_at hl 1 rfl) ?_
  refine oX8_wanted hd hk hk11 ho X hw wq_15_8 dX8_takeCut_16 ?_
  refine pX8_wanted hd X hw wq_15_8 dX8_takeCut_19 (fun H locs hw => ?_)
  obtain ⟨t_3, et_3⟩ : ∃ y, y = wI t_2 1 (o.1 1) := ⟨_, rfl⟩
  rw [← et_3] at hw
  replace hm := lt_e hm et_3
  refine lv_iconst (v := 0) X.1 X.2.1 dX8_takeCut_22 (by decide) ?_
  refine lv_istore_n (lv' := [(3, .int (0 : Int32)), (0, .ref (h (24 + 5 * d))), (1, .ref (h (24 + 5 * k))), (2, .int x2)]) X.1 X.2.1 dX8_takeCut_23 rfl hl (by decide) rfl (fun ls hl => ?_)
  replace hm := ob_e hm
  obtain ⟨t_6, hL_14, hm⟩ := hm
  have J_13 : ∀ (H : Heap) (locs : List Loc) (ls : Array Slot), Wd g 79 h (cC g h (b, va_up w d t_6)) s H locs → lv_has ls 4 [(0, .ref (h (24 + 5 * d)))] → W p l e (rW 1 24) s m AV below meth c H locs 0 0 Q (F0 m 84 ls []) := by
    intro H locs ls hw hl
    refine lv_aload_n X.1 X.2.1 dX8_takeCut_84 rfl (lv_at hl 0 rfl) ?_
    refine lv_lconst (v := 0) X.1 X.2.1 dX8_takeCut_85 (by decide) ?_
    refine lv_lconst (v := 1) X.1 X.2.1 dX8_takeCut_86 (by decide) ?_
    replace hm := ob_e hm
    obtain ⟨t_8, h_7, hm⟩ := hm
    refine k_Vv (k := (24 + 5 * d)) (As := [.long (0 : Int64), .long (1 : Int64)]) X hl.1 hw (c_X8_answer hd h_7) (by omega) (he_X8 g h _ _ _) rfl ⟨wq_15_16, wq_15_17, wq_15_18, wq_4_6, wq_15_19⟩ yo_X8_answer rfl ⟨Nat.le_of_ble_eq_true rfl, Nat.le_of_ble_eq_true rfl⟩ (Nat.le_of_ble_eq_true rfl) dX8_takeCut_87 (fun H locs hw => ?_)
    obtain rfl := Option.some.inj hm
    exact hret _ _ _ _ hw dX8_takeCut_90
  refine vLoop_ind (B := (m_X8_takeCut_L24 o)) (fun σ => ∀ (H : Heap) (locs : List Loc) (ls : Array Slot), Wd g 79 h (cC g h (b, va_up w d σ.2)) s H locs → lv_has ls 4 [(0, .ref (h (24 + 5 * d))), (1, .ref (h (24 + 5 * k))), (3, .int σ.1)] → W p l e (rW 1 24) s m AV below meth c H locs 0 0 Q (F0 m 24 ls [])) (fun z' => z' = t_6) ?_ FUEL _ _ hL_14 rfl _ _ _ hw (lv_sub hl [1, 2, 0] rfl)
  intro σ z_12 hz_9 hn_10 hx_11
  obtain ⟨y_4, t_5⟩ := σ
  intro H locs ls hw hl
  replace hw : Wd g 79 h (cC g h (b, va_up w d t_5)) s H locs := hw
  replace hl : lv_has ls 4 [(0, .ref (h (24 + 5 * d))), (1, .ref (h (24 + 5 * k))), (3, .int y_4)] := hl
  unfold m_X8_takeCut_L24 at hz_9
  replace hz_9 := un_e hz_9
  refine lv_iload_n X.1 X.2.1 dX8_takeCut_24 rfl (lv_at hl 2 rfl) ?_
  refine lv_bipush (v := 10) X.1 X.2.1 dX8_takeCut_25 (by decide) ?_
  refine lv_icmp_ge (tgt := 84) X.1 X.2.1 dX8_takeCut_27 (by decide) (fun c_16 => ?_) (fun c_16 => ?_)
  · replace hz_9 := it_p hz_9 c_16
    obtain rfl := hx_11 _ (Option.some.inj hz_9).symm
    exact J_13 _ _ _ hw (lv_sub hl [0] rfl)
  · replace hz_9 := it_n hz_9 c_16
    refine lv_aload_n X.1 X.2.1 dX8_takeCut_30 rfl (lv_at hl 0 rfl) ?_
    refine gX8_nears hd X hw wq_4_10 dX8_takeCut_31 ?_
    refine lv_iload_n X.1 X.2.1 dX8_takeCut_34 rfl (lv_at hl 2 rfl) ?_
    refine lv_aload_n X.1 X.2.1 dX8_takeCut_35 rfl (lv_at hl 1 rfl) ?_
    refine oX8_nears hd hk hk11 ho X hw wq_4_10 dX8_takeCut_36 ?_
    refine lv_iload_n X.1 X.2.1 dX8_takeCut_39 rfl (lv_at hl 2 rfl) ?_
    replace hz_9 := gd_e hz_9
    obtain ⟨g_17, hz_9⟩ := hz_9
    refine lOA0 hd hk hk11 ho X hw g_17 dX8_takeCut_40 ?_
    replace hz_9 := gd_e hz_9
    obtain ⟨g_18, hz_9⟩ := hz_9
    refine sTA0 hd X hw g_18 dX8_takeCut_41 (fun H locs hw => ?_)
    obtain ⟨t_19, et_19⟩ : ∃ y, y = wA t_5 0 y_4.toNatClampNeg (o.2.2.1 0 y_4.toNatClampNeg) := ⟨_, rfl⟩
    rw [← et_19] at hw
    replace hz_9 := lt_e hz_9 et_19
    refine lv_aload_n X.1 X.2.1 dX8_takeCut_42 rfl (lv_at hl 0 rfl) ?_
    refine gX8_fars hd X hw wq_4_11 dX8_takeCut_43 ?_
    refine lv_iload_n X.1 X.2.1 dX8_takeCut_46 rfl (lv_at hl 2 rfl) ?_
    refine lv_aload_n X.1 X.2.1 dX8_takeCut_47 rfl (lv_at hl 1 rfl) ?_
    refine oX8_fars hd hk hk11 ho X hw wq_4_11 dX8_takeCut_48 ?_
    refine lv_iload_n X.1 X.2.1 dX8_takeCut_51 rfl (lv_at hl 2 rfl) ?_
    replace hz_9 := gd_e hz_9
    obtain ⟨g_20, hz_9⟩ := hz_9
    refine lOA1 hd hk hk11 ho X hw g_20 dX8_takeCut_52 ?_
    replace hz_9 := gd_e hz_9
    obtain ⟨g_21, hz_9⟩ := hz_9
    refine sTA1 hd X hw g_21 dX8_takeCut_53 (fun H locs hw => ?_)
    obtain ⟨t_22, et_22⟩ : ∃ y, y = wA t_19 1 y_4.toNatClampNeg (o.2.2.1 1 y_4.toNatClampNeg) := ⟨_, rfl⟩
    rw [← et_22] at hw
    replace hz_9 := lt_e hz_9 et_22
    refine lv_aload_n X.1 X.2.1 dX8_takeCut_54 rfl (lv_at hl 0 rfl) ?_
    refine gX8_aboves hd X hw wq_4_12 dX8_takeCut_55 ?_
    refine lv_iload_n X.1 X.2.1 dX8_takeCut_58 rfl (lv_at hl 2 rfl) ?_
    refine lv_aload_n X.1 X.2.1 dX8_takeCut_59 rfl (lv_at hl 1 rfl) ?_
    refine oX8_aboves hd hk hk11 ho X hw wq_4_12 dX8_takeCut_60 ?_
    refine lv_iload_n X.1 X.2.1 dX8_takeCut_63 rfl (lv_at hl 2 rfl) ?_
    replace hz_9 := gd_e hz_9
    obtain ⟨g_23, hz_9⟩ := hz_9
    refine lOB0 hd hk hk11 ho X hw g_23 dX8_takeCut_64 ?_
    replace hz_9 := gd_e hz_9
    obtain ⟨g_24, hz_9⟩ := hz_9
    refine sTB0 hd X hw g_24 dX8_takeCut_65 (fun H locs hw => ?_)
    obtain ⟨t_25, et_25⟩ : ∃ y, y = wB t_22 0 y_4.toNatClampNeg (o.2.2.2 0 y_4.toNatClampNeg) := ⟨_, rfl⟩
    rw [← et_25] at hw
    replace hz_9 := lt_e hz_9 et_25
    refine lv_aload_n X.1 X.2.1 dX8_takeCut_66 rfl (lv_at hl 0 rfl) ?_
    refine gX8_belows hd X hw wq_4_13 dX8_takeCut_67 ?_
    refine lv_iload_n X.1 X.2.1 dX8_takeCut_70 rfl (lv_at hl 2 rfl) ?_
    refine lv_aload_n X.1 X.2.1 dX8_takeCut_71 rfl (lv_at hl 1 rfl) ?_
    refine oX8_belows hd hk hk11 ho X hw wq_4_13 dX8_takeCut_72 ?_
    refine lv_iload_n X.1 X.2.1 dX8_takeCut_75 rfl (lv_at hl 2 rfl) ?_
    replace hz_9 := gd_e hz_9
    obtain ⟨g_26, hz_9⟩ := hz_9
    refine lOB1 hd hk hk11 ho X hw g_26 dX8_takeCut_76 ?_
    replace hz_9 := gd_e hz_9
    obtain ⟨g_27, hz_9⟩ := hz_9
    refine sTB1 hd X hw g_27 dX8_takeCut_77 (fun H locs hw => ?_)
    obtain ⟨t_28, et_28⟩ : ∃ y, y = wB t_25 1 y_4.toNatClampNeg (o.2.2.2 1 y_4.toNatClampNeg) := ⟨_, rfl⟩
    rw [← et_28] at hw
    replace hz_9 := lt_e hz_9 et_28
    obtain ⟨x_29, ex_29⟩ : ∃ y : Int32, y = y_4 + 1 := ⟨_, rfl⟩
    replace hz_9 := lt_e hz_9 ex_29
    refine lv_iinc (v := x_29) (lv' := [(3, .int x_29), (0, .ref (h (24 + 5 * d))), (1, .ref (h (24 + 5 * k)))]) X.1 X.2.1 dX8_takeCut_78 hl (k := 2) rfl (by rw [ex_29]; rfl) (by decide) rfl (fun ls hl => ?_)
    refine lv_goto (tgt := 24) X.1 X.2.1 dX8_takeCut_81 (by decide) ?_
    exact hn_10 _ (Option.some.inj hz_9).symm _ _ _ hw (lv_sub hl [1, 2, 0] rfl)
theorem c_X8_takeCut_c {l : Launch} {g : gT} {h : Nat → Nat} {b : ST} {w : Nat → ST} {d : Nat} {k : Nat} {x2 : Int32} {t' : ST} (hd : d < 11) (hk : k ≠ d) (hk11 : k < 11) (hm : m_X8_takeCut (w d) (w k) x2 = some (t')) : MetV l g yX8_takeCut cX8_takeCut 4 none 1 24 79 h (cC g h (b, w)) (cC g h (b, va_up w d t')) [.ref (h (24 + 5 * d)), .ref (h (24 + 5 * k)), .int x2] := by
  have hc := c_X8_takeCut (l := l) (g := g) (h := h) (b := b) (w := w) hd hk hk11 rfl hm
  rw [up_self] at hc
  exact hc
def m_X8_isWanted (t : ST) (x1 : Int32) : Option (Int32) := lt (((t.1 1).toUInt32 >>> (x1.toUInt32 &&& Int32.toUInt32 31)).toInt32 &&& (1 : Int32)) (fun x_1 => if x_1 = 0 then some (0 : Int32) else some (1 : Int32))
theorem yo_X8_isWanted : yX8_isWanted.cls = RX8 ∧ yX8_isWanted.cls ≠ "java/lang/invoke/MethodHandle" ∧ yX8_isWanted.cls ≠ "java/lang/invoke/VarHandle" ∧ (parseMethodDescriptor yX8_isWanted.desc).map (fun d => d.parameters.length) = some 1 := by decide +kernel
set_option maxHeartbeats 4000000 in
set_option maxRecDepth 100000 in
theorem c_X8_isWanted {l : Launch} {g : gT} {h : Nat → Nat} {b : ST} {w : Nat → ST} {d : Nat} {t : ST} {x1 : Int32} {r : Int32} (hd : d < 11) (hm : m_X8_isWanted t x1 = some r) : MetI l g yX8_isWanted cX8_isWanted 2 (some .boolean) 0 0 79 h (cC g h (b, va_up w d t)) (cC g h (b, va_up w d t)) [.ref (h (24 + 5 * d)), .int x1] r := by
  refine MetZ.ofX (by decide +kernel) (Nat.le_of_ble_eq_true rfl) ?_
  intro p e s m below meth c AV Q X hret ls hw hl
  replace X : Cx g p s m AV c cX8_isWanted RX8 2 := X
  replace hl : lv_has ls 2 [(0, .ref (h (24 + 5 * d))), (1, .int x1)] := hl
  unfold m_X8_isWanted at hm
  refine lv_aload_n X.1 X.2.1 dX8_isWanted_0 rfl (lv_at hl 0 rfl) ?_
  refine gX8_wanted hd X hw wq_15_8 dX8_isWanted_1 ?_
  refine lv_iload_n X.1 X.2.1 dX8_isWanted_4 rfl (lv_at hl 1 rfl) ?_
  refine lv_iushr X.1 X.2.1 dX8_isWanted_5 rfl ?_
  refine lv_iconst (v := 1) X.1 X.2.1 dX8_isWanted_6 (by decide) ?_
  refine lv_iand X.1 X.2.1 dX8_isWanted_7 ?_
  refine lv_topi (fun x_1 ex_1 => ?_)
  replace hm := lt_e hm ex_1
  refine lv_if_eq (tgt := 15) X.1 X.2.1 dX8_isWanted_8 (by decide) (fun c_2 => ?_) (fun c_2 => ?_)
  · replace hm := it_p hm c_2
    refine lv_iconst (v := 0) X.1 X.2.1 dX8_isWanted_15 (by decide) ?_
    obtain rfl := Option.some.inj hm
    exact hret _ _ _ _ hw dX8_isWanted_16 (Or.inl rfl)
  · replace hm := it_n hm c_2
    refine lv_iconst (v := 1) X.1 X.2.1 dX8_isWanted_11 (by decide) ?_
    refine lv_goto (tgt := 16) X.1 X.2.1 dX8_isWanted_12 (by decide) ?_
    obtain rfl := Option.some.inj hm
    exact hret _ _ _ _ hw dX8_isWanted_16 (Or.inr rfl)
theorem c_X8_isWanted_c {l : Launch} {g : gT} {h : Nat → Nat} {b : ST} {w : Nat → ST} {d : Nat} {x1 : Int32} {r : Int32} (hd : d < 11) (hm : m_X8_isWanted (w d) x1 = some r) : MetI l g yX8_isWanted cX8_isWanted 2 (some .boolean) 0 0 79 h (cC g h (b, w)) (cC g h (b, w)) [.ref (h (24 + 5 * d)), .int x1] r := by
  have hc := c_X8_isWanted (l := l) (g := g) (h := h) (b := b) (w := w) hd hm
  rw [up_self] at hc
  exact hc
theorem c_X8_isWanted_o {l : Launch} {g : gT} {h : Nat → Nat} {b : ST} {w : Nat → ST} {d k : Nat} {t o : ST} {x1 : Int32} {r : Int32} (hd : d < 11) (hk : k ≠ d) (hk11 : k < 11) (ho : w k = o) (hm : m_X8_isWanted o x1 = some r) : MetI l g yX8_isWanted cX8_isWanted 2 (some .boolean) 0 0 79 h (cC g h (b, va_up w d t)) (cC g h (b, va_up w d t)) [.ref (h (24 + 5 * k)), .int x1] r := by
  subst ho
  have hc := c_X8_isWanted (l := l) (g := g) (h := h) (b := b) (w := va_up w d t) hk11 hm
  rw [up_other _ _ _ _ hk] at hc
  exact hc
def m_X8_takeJoined_L53 (x_7 : Int32) (x_10 : Int32) (σ : Int32 × ST) : Option ((Int32 × ST) ⊕ (ST)) := (fun (q_40 : Int32 × ST) => un q_40 (fun y_11 t_12 => if (10 : Int32) ≤ y_11 then some (.inr t_12) else gd (¬ (y_11 < 0 ∨ 10 ≤ y_11.toNatClampNeg)) (Option.bind (if (t_12.2.2.1 0 y_11.toNatClampNeg) = x_10 then gd (¬ (y_11 < 0 ∨ 10 ≤ y_11.toNatClampNeg)) (lt (wA t_12 0 y_11.toNatClampNeg x_7) (fun t_39 => some t_39)) else some t_12) (fun (t_29 : ST) => gd (¬ (y_11 < 0 ∨ 10 ≤ y_11.toNatClampNeg)) (if (t_29.2.2.1 1 y_11.toNatClampNeg) = x_10 then gd (¬ (y_11 < 0 ∨ 10 ≤ y_11.toNatClampNeg)) (lt (wA t_29 1 y_11.toNatClampNeg x_7) (fun t_34 => lt (y_11 + 1) (fun x_35 => some (.inl (x_35, t_34))))) else lt (y_11 + 1) (fun x_32 => some (.inl (x_32, t_29)))))))) σ
def m_X8_takeJoined (t : ST) (o : ST) (x2 : Int32) : Option (ST) := Option.bind (m_X8_takeCut t o x2) (fun (t_2 : ST) => if x2 < 0 then some t_2 else if x2 < (10 : Int32) then gd (¬ (x2 < 0 ∨ 10 ≤ x2.toNatClampNeg)) (gd (¬ (x2 < 0 ∨ 10 ≤ x2.toNatClampNeg)) (lt (if (t_2.2.2.1 1 x2.toNatClampNeg) < (t_2.2.2.1 0 x2.toNatClampNeg) then (t_2.2.2.1 1 x2.toNatClampNeg) else (t_2.2.2.1 0 x2.toNatClampNeg)) (fun x_7 => gd (¬ (x2 < 0 ∨ 10 ≤ x2.toNatClampNeg)) (gd (¬ (x2 < 0 ∨ 10 ≤ x2.toNatClampNeg)) (lt (if (t_2.2.2.1 0 x2.toNatClampNeg) < (t_2.2.2.1 1 x2.toNatClampNeg) then (t_2.2.2.1 1 x2.toNatClampNeg) else (t_2.2.2.1 0 x2.toNatClampNeg)) (fun x_10 => Option.bind (vLoop (m_X8_takeJoined_L53 x_7 x_10) FUEL ((0 : Int32), t_2)) (fun (t_13 : ST) => Option.bind (m_X8_isWanted t_13 x_10) (fun (r_15 : Int32) => if r_15 = 0 then some t_13 else lt ((t_13.1 1) &&& (((1 : Int32) <<< (x_10 &&& 31)) ^^^ (-1 : Int32))) (fun x_17 => lt (wI t_13 1 ((x_17 ||| ((1 : Int32) <<< (x_7 &&& 31))))) (fun t_18 => some t_18)))))))))) else some t_2)
theorem yo_X8_takeJoined : yX8_takeJoined.cls = RX8 ∧ yX8_takeJoined.cls ≠ "java/lang/invoke/MethodHandle" ∧ yX8_takeJoined.cls ≠ "java/lang/invoke/VarHandle" ∧ (parseMethodDescriptor yX8_takeJoined.desc).map (fun d => d.parameters.length) = some 2 := by decide +kernel
set_option maxHeartbeats 4000000 in
set_option maxRecDepth 100000 in
theorem c_X8_takeJoined {l : Launch} {g : gT} {h : Nat → Nat} {b : ST} {w : Nat → ST} {d : Nat} {t : ST} {k : Nat} {o : ST} {x2 : Int32} {t' : ST} (hd : d < 11) (hk : k ≠ d) (hk11 : k < 11) (ho : w k = o) (hm : m_X8_takeJoined t o x2 = some (t')) : MetV l g yX8_takeJoined cX8_takeJoined 6 none 2 47 79 h (cC g h (b, va_up w d t)) (cC g h (b, va_up w d t')) [.ref (h (24 + 5 * d)), .ref (h (24 + 5 * k)), .int x2] := by
  refine MetV.ofX (by decide +kernel) (Nat.le_of_ble_eq_true rfl) ?_
  intro p e s m below meth c AV Q X hret ls hw hl
  replace X : Cx g p s m AV c cX8_takeJoined RX8 6 := X
  replace hl : lv_has ls 6 [(0, .ref (h (24 + 5 * d))), (1, .ref (h (24 + 5 * k))), (2, .int x2)] := hl
  unfold m_X8_takeJoined at hm
  refine lv_aload_n X.1 X.2.1 dX8_takeJoined_0 rfl (lv_at hl 0 rfl) ?_
  refine lv_aload_n X.1 X.2.1 dX8_takeJoined_1 rfl (lv_at hl 1 rfl) ?_
  refine lv_iload_n X.1 X.2.1 dX8_takeJoined_2 rfl (lv_at hl 2 rfl) ?_
  replace hm := ob_e hm
  obtain ⟨t_2, h_1, hm⟩ := hm
  refine k_Vv (k := (24 + 5 * d)) (As := [.ref (h (24 + 5 * k)), .int x2]) X hl.1 hw (c_X8_takeCut hd hk hk11 ho h_1) (by omega) (he_X8 g h _ _ _) rfl ⟨wq_18_17, wq_18_18, wq_18_19, wq_4_6, wq_18_20⟩ yo_X8_takeCut rfl ⟨Nat.le_of_ble_eq_true rfl, Nat.le_of_ble_eq_true rfl⟩ (Nat.le_of_ble_eq_true rfl) dX8_takeJoined_3 (fun H locs hw => ?_)
  refine lv_iload_n X.1 X.2.1 dX8_takeJoined_6 rfl (lv_at hl 2 rfl) ?_
  refine lv_if_lt (tgt := 16) X.1 X.2.1 dX8_takeJoined_7 (by decide) (fun c_3 => ?_) (fun c_3 => ?_)
  · replace hm := it_p hm c_3
    obtain rfl := Option.some.inj hm
    exact hret _ _ _ _ hw dX8_takeJoined_16
  · replace hm := it_n hm c_3
    refine lv_iload_n X.1 X.2.1 dX8_takeJoined_10 rfl (lv_at hl 2 rfl) ?_
    refine lv_bipush (v := 10) X.1 X.2.1 dX8_takeJoined_11 (by decide) ?_
    refine lv_icmp_lt (tgt := 17) X.1 X.2.1 dX8_takeJoined_13 (by decide) (fun c_4 => ?_) (fun c_4 => ?_)
    · replace hm := it_p hm c_4
      refine lv_aload_n X.1 X.2.1 dX8_takeJoined_17 rfl (lv_at hl 0 rfl) ?_
      refine gX8_nears hd X hw wq_4_10 dX8_takeJoined_18 ?_
      refine lv_iload_n X.1 X.2.1 dX8_takeJoined_21 rfl (lv_at hl 2 rfl) ?_
      replace hm := gd_e hm
      obtain ⟨g_5, hm⟩ := hm
      refine lTA0 hd X hw g_5 dX8_takeJoined_22 ?_
      refine lv_aload_n X.1 X.2.1 dX8_takeJoined_23 rfl (lv_at hl 0 rfl) ?_
      refine gX8_fars hd X hw wq_4_11 dX8_takeJoined_24 ?_
      refine lv_iload_n X.1 X.2.1 dX8_takeJoined_27 rfl (lv_at hl 2 rfl) ?_
      replace hm := gd_e hm
      obtain ⟨g_6, hm⟩ := hm
      refine lTA1 hd X hw g_6 dX8_takeJoined_28 ?_
      refine x_min (ws' := []) X hl.1 wq_17_2 (Nat.le_of_ble_eq_true rfl) (Nat.le_of_ble_eq_true rfl) dX8_takeJoined_29 wq_7_8 wq_7_9 wq_7_10 ?_
      refine lv_topi (fun x_7 ex_7 => ?_)
      replace hm := lt_e hm ex_7
      refine lv_istore_n (lv' := [(3, .int x_7), (0, .ref (h (24 + 5 * d))), (1, .ref (h (24 + 5 * k))), (2, .int x2)]) X.1 X.2.1 dX8_takeJoined_32 rfl hl (by decide) rfl (fun ls hl => ?_)
      refine lv_aload_n X.1 X.2.1 dX8_takeJoined_33 rfl (lv_at hl 1 rfl) ?_
      refine gX8_nears hd X hw wq_4_10 dX8_takeJoined_34 ?_
      refine lv_iload_n X.1 X.2.1 dX8_takeJoined_37 rfl (lv_at hl 3 rfl) ?_
      replace hm := gd_e hm
      obtain ⟨g_8, hm⟩ := hm
      refine lTA0 hd X hw g_8 dX8_takeJoined_38 ?_
      refine lv_aload_n X.1 X.2.1 dX8_takeJoined_39 rfl (lv_at hl 1 rfl) ?_
      refine gX8_fars hd X hw wq_4_11 dX8_takeJoined_40 ?_
      refine lv_iload_n X.1 X.2.1 dX8_takeJoined_43 rfl (lv_at hl 3 rfl) ?_
      replace hm := gd_e hm
      obtain ⟨g_9, hm⟩ := hm
      refine lTA1 hd X hw g_9 dX8_takeJoined_44 ?_
      refine x_max (ws' := []) X hl.1 wq_18_16 (Nat.le_of_ble_eq_true rfl) (Nat.le_of_ble_eq_true rfl) dX8_takeJoined_45 wq_7_12 wq_7_9 wq_7_13 ?_
      refine lv_topi (fun x_10 ex_10 => ?_)
      replace hm := lt_e hm ex_10
      refine lv_istore (lv' := [(4, .int x_10), (3, .int x_7), (0, .ref (h (24 + 5 * d))), (1, .ref (h (24 + 5 * k))), (2, .int x2)]) X.1 X.2.1 dX8_takeJoined_48 hl (by decide) rfl (fun ls hl => ?_)
      refine lv_iconst (v := 0) X.1 X.2.1 dX8_takeJoined_50 (by decide) ?_
      refine lv_istore (lv' := [(5, .int (0 : Int32)), (4, .int x_10), (3, .int x_7), (0, .ref (h (24 + 5 * d))), (1, .ref (h (24 + 5 * k))), (2, .int x2)]) X.1 X.2.1 dX8_takeJoined_51 hl (by decide) rfl (fun ls hl => ?_)
      replace hm := ob_e hm
      obtain ⟨t_13, hL_24, hm⟩ := hm
      have J_23 : ∀ (H : Heap) (locs : List Loc) (ls : Array Slot), Wd g 79 h (cC g h (b, va_up w d t_13)) s H locs → lv_has ls 6 [(0, .ref (h (24 + 5 * d))), (3, .int x_7), (4, .int x_10)] → W p l e (rW 2 47) s m AV below meth c H locs 0 0 Q (F0 m 106 ls []) := by
        intro H locs ls hw hl
        refine lv_aload_n X.1 X.2.1 dX8_takeJoined_106 rfl (lv_at hl 0 rfl) ?_
        refine lv_iload X.1 X.2.1 dX8_takeJoined_107 (lv_at hl 2 rfl) ?_
        replace hm := ob_e hm
        obtain ⟨r_15, h_14, hm⟩ := hm
        refine k_Vi (k := (24 + 5 * d)) (As := [.int x_10]) X hl.1 hw (c_X8_isWanted hd h_14) (by omega) (he_X8 g h _ _ _) rfl ⟨wq_17_7, wq_17_8, wq_17_9, wq_4_6, wq_17_10⟩ yo_X8_isWanted rfl ⟨Nat.le_of_ble_eq_true rfl, Nat.le_of_ble_eq_true rfl⟩ (Nat.le_of_ble_eq_true rfl) dX8_takeJoined_109 (fun H locs hw => ?_)
        refine lv_if_eq (tgt := 134) X.1 X.2.1 dX8_takeJoined_112 (by decide) (fun c_16 => ?_) (fun c_16 => ?_)
        · replace hm := it_p hm c_16
          obtain rfl := Option.some.inj hm
          exact hret _ _ _ _ hw dX8_takeJoined_134
        · replace hm := it_n hm c_16
          refine lv_aload_n X.1 X.2.1 dX8_takeJoined_115 rfl (lv_at hl 0 rfl) ?_
          refine lv_aload_n X.1 X.2.1 dX8_takeJoined_116 rfl (lv_at hl 0 rfl) ?_
          refine gX8_wanted hd X hw wq_15_8 dX8_takeJoined_117 ?_
          refine lv_iconst (v := 1) X.1 X.2.1 dX8_takeJoined_120 (by decide) ?_
          refine lv_iload X.1 X.2.1 dX8_takeJoined_121 (lv_at hl 2 rfl) ?_
          refine lv_ishl X.1 X.2.1 dX8_takeJoined_123 ?_
          refine lv_iconst (v := -1) X.1 X.2.1 dX8_takeJoined_124 (by decide) ?_
          refine lv_ixor X.1 X.2.1 dX8_takeJoined_125 ?_
          refine lv_iand X.1 X.2.1 dX8_takeJoined_126 ?_
          refine lv_topi (fun x_17 ex_17 => ?_)
          replace hm := lt_e hm ex_17
          refine lv_iconst (v := 1) X.1 X.2.1 dX8_takeJoined_127 (by decide) ?_
          refine lv_iload_n X.1 X.2.1 dX8_takeJoined_128 rfl (lv_at hl 1 rfl) ?_
          refine lv_ishl X.1 X.2.1 dX8_takeJoined_129 ?_
          refine lv_ior X.1 X.2.1 dX8_takeJoined_130 ?_
          refine pX8_wanted hd X hw wq_15_8 dX8_takeJoined_131 (fun H locs hw => ?_)
          obtain ⟨t_18, et_18⟩ : ∃ y, y = wI t_13 1 ((x_17 ||| ((1 : Int32) <<< (x_7 &&& 31)))) := ⟨_, rfl⟩
          rw [← et_18] at hw
          replace hm := lt_e hm et_18
          obtain rfl := Option.some.inj hm
          exact hret _ _ _ _ hw dX8_takeJoined_134
      refine vLoop_ind (B := (m_X8_takeJoined_L53 x_7 x_10)) (fun σ => ∀ (H : Heap) (locs : List Loc) (ls : Array Slot), Wd g 79 h (cC g h (b, va_up w d σ.2)) s H locs → lv_has ls 6 [(0, .ref (h (24 + 5 * d))), (3, .int x_7), (4, .int x_10), (5, .int σ.1)] → W p l e (rW 2 47) s m AV below meth c H locs 0 0 Q (F0 m 53 ls [])) (fun z' => z' = t_13) ?_ FUEL _ _ hL_24 rfl _ _ _ hw (lv_sub hl [3, 2, 1, 0] rfl)
      intro σ z_22 hz_19 hn_20 hx_21
      obtain ⟨y_11, t_12⟩ := σ
      intro H locs ls hw hl
      replace hw : Wd g 79 h (cC g h (b, va_up w d t_12)) s H locs := hw
      replace hl : lv_has ls 6 [(0, .ref (h (24 + 5 * d))), (3, .int x_7), (4, .int x_10), (5, .int y_11)] := hl
      unfold m_X8_takeJoined_L53 at hz_19
      replace hz_19 := un_e hz_19
      refine lv_iload X.1 X.2.1 dX8_takeJoined_53 (lv_at hl 3 rfl) ?_
      refine lv_bipush (v := 10) X.1 X.2.1 dX8_takeJoined_55 (by decide) ?_
      refine lv_icmp_ge (tgt := 106) X.1 X.2.1 dX8_takeJoined_57 (by decide) (fun c_26 => ?_) (fun c_26 => ?_)
      · replace hz_19 := it_p hz_19 c_26
        obtain rfl := hx_21 _ (Option.some.inj hz_19).symm
        exact J_23 _ _ _ hw (lv_sub hl [0, 1, 2] rfl)
      · replace hz_19 := it_n hz_19 c_26
        refine lv_aload_n X.1 X.2.1 dX8_takeJoined_60 rfl (lv_at hl 0 rfl) ?_
        refine gX8_nears hd X hw wq_4_10 dX8_takeJoined_61 ?_
        refine lv_iload X.1 X.2.1 dX8_takeJoined_64 (lv_at hl 3 rfl) ?_
        replace hz_19 := gd_e hz_19
        obtain ⟨g_27, hz_19⟩ := hz_19
        refine lTA0 hd X hw g_27 dX8_takeJoined_66 ?_
        refine lv_iload X.1 X.2.1 dX8_takeJoined_67 (lv_at hl 2 rfl) ?_
        replace hz_19 := ob_e hz_19
        obtain ⟨t_29, hg_36, hz_19⟩ := hz_19
        have J_37 : ∀ (H : Heap) (locs : List Loc) (ls : Array Slot), Wd g 79 h (cC g h (b, va_up w d t_29)) s H locs → lv_has ls 6 [(0, .ref (h (24 + 5 * d))), (3, .int x_7), (4, .int x_10), (5, .int y_11)] → W p l e (rW 2 47) s m AV below meth c H locs 0 0 Q (F0 m 80 ls []) := by
          intro H locs ls hw hl
          refine lv_aload_n X.1 X.2.1 dX8_takeJoined_80 rfl (lv_at hl 0 rfl) ?_
          refine gX8_fars hd X hw wq_4_11 dX8_takeJoined_81 ?_
          refine lv_iload X.1 X.2.1 dX8_takeJoined_84 (lv_at hl 3 rfl) ?_
          replace hz_19 := gd_e hz_19
          obtain ⟨g_30, hz_19⟩ := hz_19
          refine lTA1 hd X hw g_30 dX8_takeJoined_86 ?_
          refine lv_iload X.1 X.2.1 dX8_takeJoined_87 (lv_at hl 2 rfl) ?_
          refine lv_icmp_ne (tgt := 100) X.1 X.2.1 dX8_takeJoined_89 (by decide) (fun c_31 => ?_) (fun c_31 => ?_)
          · replace hz_19 := it_n hz_19 c_31
            obtain ⟨x_32, ex_32⟩ : ∃ y : Int32, y = y_11 + 1 := ⟨_, rfl⟩
            replace hz_19 := lt_e hz_19 ex_32
            refine lv_iinc (v := x_32) (lv' := [(5, .int x_32), (0, .ref (h (24 + 5 * d))), (3, .int x_7), (4, .int x_10)]) X.1 X.2.1 dX8_takeJoined_100 hl (k := 3) rfl (by rw [ex_32]; rfl) (by decide) rfl (fun ls hl => ?_)
            refine lv_goto (tgt := 53) X.1 X.2.1 dX8_takeJoined_103 (by decide) ?_
            exact hn_20 _ (Option.some.inj hz_19).symm _ _ _ hw (lv_sub hl [1, 2, 3, 0] rfl)
          · replace hz_19 := it_p hz_19 c_31
            refine lv_aload_n X.1 X.2.1 dX8_takeJoined_92 rfl (lv_at hl 0 rfl) ?_
            refine gX8_fars hd X hw wq_4_11 dX8_takeJoined_93 ?_
            refine lv_iload X.1 X.2.1 dX8_takeJoined_96 (lv_at hl 3 rfl) ?_
            refine lv_iload_n X.1 X.2.1 dX8_takeJoined_98 rfl (lv_at hl 1 rfl) ?_
            replace hz_19 := gd_e hz_19
            obtain ⟨g_33, hz_19⟩ := hz_19
            refine sTA1 hd X hw g_33 dX8_takeJoined_99 (fun H locs hw => ?_)
            obtain ⟨t_34, et_34⟩ : ∃ y, y = wA t_29 1 y_11.toNatClampNeg x_7 := ⟨_, rfl⟩
            rw [← et_34] at hw
            replace hz_19 := lt_e hz_19 et_34
            obtain ⟨x_35, ex_35⟩ : ∃ y : Int32, y = y_11 + 1 := ⟨_, rfl⟩
            replace hz_19 := lt_e hz_19 ex_35
            refine lv_iinc (v := x_35) (lv' := [(5, .int x_35), (0, .ref (h (24 + 5 * d))), (3, .int x_7), (4, .int x_10)]) X.1 X.2.1 dX8_takeJoined_100 hl (k := 3) rfl (by rw [ex_35]; rfl) (by decide) rfl (fun ls hl => ?_)
            refine lv_goto (tgt := 53) X.1 X.2.1 dX8_takeJoined_103 (by decide) ?_
            exact hn_20 _ (Option.some.inj hz_19).symm _ _ _ hw (lv_sub hl [1, 2, 3, 0] rfl)
        refine lv_icmp_ne (tgt := 80) X.1 X.2.1 dX8_takeJoined_69 (by decide) (fun c_28 => ?_) (fun c_28 => ?_)
        · replace hg_36 := it_n hg_36 c_28
          obtain rfl := Option.some.inj hg_36
          exact J_37 _ _ _ hw (lv_sub hl [0, 1, 2, 3] rfl)
        · replace hg_36 := it_p hg_36 c_28
          refine lv_aload_n X.1 X.2.1 dX8_takeJoined_72 rfl (lv_at hl 0 rfl) ?_
          refine gX8_nears hd X hw wq_4_10 dX8_takeJoined_73 ?_
          refine lv_iload X.1 X.2.1 dX8_takeJoined_76 (lv_at hl 3 rfl) ?_
          refine lv_iload_n X.1 X.2.1 dX8_takeJoined_78 rfl (lv_at hl 1 rfl) ?_
          replace hg_36 := gd_e hg_36
          obtain ⟨g_38, hg_36⟩ := hg_36
          refine sTA0 hd X hw g_38 dX8_takeJoined_79 (fun H locs hw => ?_)
          obtain ⟨t_39, et_39⟩ : ∃ y, y = wA t_12 0 y_11.toNatClampNeg x_7 := ⟨_, rfl⟩
          rw [← et_39] at hw
          replace hg_36 := lt_e hg_36 et_39
          obtain rfl := Option.some.inj hg_36
          exact J_37 _ _ _ hw (lv_sub hl [0, 1, 2, 3] rfl)
    · replace hm := it_n hm c_4
      obtain rfl := Option.some.inj hm
      exact hret _ _ _ _ hw dX8_takeJoined_16
theorem c_X8_takeJoined_c {l : Launch} {g : gT} {h : Nat → Nat} {b : ST} {w : Nat → ST} {d : Nat} {k : Nat} {x2 : Int32} {t' : ST} (hd : d < 11) (hk : k ≠ d) (hk11 : k < 11) (hm : m_X8_takeJoined (w d) (w k) x2 = some (t')) : MetV l g yX8_takeJoined cX8_takeJoined 6 none 2 47 79 h (cC g h (b, w)) (cC g h (b, va_up w d t')) [.ref (h (24 + 5 * d)), .ref (h (24 + 5 * k)), .int x2] := by
  have hc := c_X8_takeJoined (l := l) (g := g) (h := h) (b := b) (w := w) hd hk hk11 rfl hm
  rw [up_self] at hc
  exact hc
def m_X8_isThere (t : ST) (x1 : Int32) : Option (Int32) := if x1 < 0 then some (0 : Int32) else if (10 : Int32) ≤ x1 then some (0 : Int32) else lt (((t.1 0).toUInt32 >>> (x1.toUInt32 &&& Int32.toUInt32 31)).toInt32 &&& (1 : Int32)) (fun x_3 => if x_3 = 0 then some (0 : Int32) else some (1 : Int32))
theorem yo_X8_isThere : yX8_isThere.cls = RX8 ∧ yX8_isThere.cls ≠ "java/lang/invoke/MethodHandle" ∧ yX8_isThere.cls ≠ "java/lang/invoke/VarHandle" ∧ (parseMethodDescriptor yX8_isThere.desc).map (fun d => d.parameters.length) = some 1 := by decide +kernel
set_option maxHeartbeats 4000000 in
set_option maxRecDepth 100000 in
theorem c_X8_isThere {l : Launch} {g : gT} {h : Nat → Nat} {b : ST} {w : Nat → ST} {d : Nat} {t : ST} {x1 : Int32} {r : Int32} (hd : d < 11) (hm : m_X8_isThere t x1 = some r) : MetI l g yX8_isThere cX8_isThere 2 (some .boolean) 0 0 79 h (cC g h (b, va_up w d t)) (cC g h (b, va_up w d t)) [.ref (h (24 + 5 * d)), .int x1] r := by
  refine MetZ.ofX (by decide +kernel) (Nat.le_of_ble_eq_true rfl) ?_
  intro p e s m below meth c AV Q X hret ls hw hl
  replace X : Cx g p s m AV c cX8_isThere RX8 2 := X
  replace hl : lv_has ls 2 [(0, .ref (h (24 + 5 * d))), (1, .int x1)] := hl
  unfold m_X8_isThere at hm
  refine lv_iload_n X.1 X.2.1 dX8_isThere_0 rfl (lv_at hl 1 rfl) ?_
  refine lv_if_lt (tgt := 25) X.1 X.2.1 dX8_isThere_1 (by decide) (fun c_1 => ?_) (fun c_1 => ?_)
  · replace hm := it_p hm c_1
    refine lv_iconst (v := 0) X.1 X.2.1 dX8_isThere_25 (by decide) ?_
    obtain rfl := Option.some.inj hm
    exact hret _ _ _ _ hw dX8_isThere_26 (Or.inl rfl)
  · replace hm := it_n hm c_1
    refine lv_iload_n X.1 X.2.1 dX8_isThere_4 rfl (lv_at hl 1 rfl) ?_
    refine lv_bipush (v := 10) X.1 X.2.1 dX8_isThere_5 (by decide) ?_
    refine lv_icmp_ge (tgt := 25) X.1 X.2.1 dX8_isThere_7 (by decide) (fun c_2 => ?_) (fun c_2 => ?_)
    · replace hm := it_p hm c_2
      refine lv_iconst (v := 0) X.1 X.2.1 dX8_isThere_25 (by decide) ?_
      obtain rfl := Option.some.inj hm
      exact hret _ _ _ _ hw dX8_isThere_26 (Or.inl rfl)
    · replace hm := it_n hm c_2
      refine lv_aload_n X.1 X.2.1 dX8_isThere_10 rfl (lv_at hl 0 rfl) ?_
      refine gX8_links hd X hw wq_15_7 dX8_isThere_11 ?_
      refine lv_iload_n X.1 X.2.1 dX8_isThere_14 rfl (lv_at hl 1 rfl) ?_
      refine lv_iushr X.1 X.2.1 dX8_isThere_15 rfl ?_
      refine lv_iconst (v := 1) X.1 X.2.1 dX8_isThere_16 (by decide) ?_
      refine lv_iand X.1 X.2.1 dX8_isThere_17 ?_
      refine lv_topi (fun x_3 ex_3 => ?_)
      replace hm := lt_e hm ex_3
      refine lv_if_eq (tgt := 25) X.1 X.2.1 dX8_isThere_18 (by decide) (fun c_4 => ?_) (fun c_4 => ?_)
      · replace hm := it_p hm c_4
        refine lv_iconst (v := 0) X.1 X.2.1 dX8_isThere_25 (by decide) ?_
        obtain rfl := Option.some.inj hm
        exact hret _ _ _ _ hw dX8_isThere_26 (Or.inl rfl)
      · replace hm := it_n hm c_4
        refine lv_iconst (v := 1) X.1 X.2.1 dX8_isThere_21 (by decide) ?_
        refine lv_goto (tgt := 26) X.1 X.2.1 dX8_isThere_22 (by decide) ?_
        obtain rfl := Option.some.inj hm
        exact hret _ _ _ _ hw dX8_isThere_26 (Or.inr rfl)
theorem c_X8_isThere_c {l : Launch} {g : gT} {h : Nat → Nat} {b : ST} {w : Nat → ST} {d : Nat} {x1 : Int32} {r : Int32} (hd : d < 11) (hm : m_X8_isThere (w d) x1 = some r) : MetI l g yX8_isThere cX8_isThere 2 (some .boolean) 0 0 79 h (cC g h (b, w)) (cC g h (b, w)) [.ref (h (24 + 5 * d)), .int x1] r := by
  have hc := c_X8_isThere (l := l) (g := g) (h := h) (b := b) (w := w) hd hm
  rw [up_self] at hc
  exact hc
theorem c_X8_isThere_o {l : Launch} {g : gT} {h : Nat → Nat} {b : ST} {w : Nat → ST} {d k : Nat} {t o : ST} {x1 : Int32} {r : Int32} (hd : d < 11) (hk : k ≠ d) (hk11 : k < 11) (ho : w k = o) (hm : m_X8_isThere o x1 = some r) : MetI l g yX8_isThere cX8_isThere 2 (some .boolean) 0 0 79 h (cC g h (b, va_up w d t)) (cC g h (b, va_up w d t)) [.ref (h (24 + 5 * k)), .int x1] r := by
  subst ho
  have hc := c_X8_isThere (l := l) (g := g) (h := h) (b := b) (w := va_up w d t) hk11 hm
  rw [up_other _ _ _ _ hk] at hc
  exact hc
def m_X8_dropRound_L2 (σ : Int32 × ST) : Option ((Int32 × ST) ⊕ ((ST) ⊕ (Int32 × ST))) := (fun (q_24 : Int32 × ST) => un q_24 (fun y_1 t_2 => if (10 : Int32) ≤ y_1 then some (.inr (.inl t_2)) else Option.bind (m_X8_isThere t_2 y_1) (fun (r_14 : Int32) => if r_14 = 0 then lt (y_1 + 1) (fun x_16 => some (.inl (x_16, t_2))) else gd (¬ (y_1 < 0 ∨ 10 ≤ y_1.toNatClampNeg)) (gd (¬ (y_1 < 0 ∨ 10 ≤ y_1.toNatClampNeg)) (if (t_2.2.2.1 0 y_1.toNatClampNeg) = (t_2.2.2.1 1 y_1.toNatClampNeg) then lt ((t_2.1 0) &&& (((1 : Int32) <<< (y_1 &&& 31)) ^^^ (-1 : Int32))) (fun x_20 => lt (wI t_2 0 x_20) (fun t_21 => some (.inr (.inr ((1 : Int32), t_21))))) else lt (y_1 + 1) (fun x_23 => some (.inl (x_23, t_2)))))))) σ
def m_X8_dropRound (t : ST) : Option (Int32 × ST) := Option.bind (vLoop (m_X8_dropRound_L2) FUEL ((0 : Int32), t)) (fun z => ex z (fun (t_3 : ST) => some ((0 : Int32), t_3)) (fun r_26 => some r_26))
theorem yo_X8_dropRound : yX8_dropRound.cls = RX8 ∧ yX8_dropRound.cls ≠ "java/lang/invoke/MethodHandle" ∧ yX8_dropRound.cls ≠ "java/lang/invoke/VarHandle" ∧ (parseMethodDescriptor yX8_dropRound.desc).map (fun d => d.parameters.length) = some 0 := by decide +kernel
set_option maxHeartbeats 4000000 in
set_option maxRecDepth 100000 in
theorem c_X8_dropRound {l : Launch} {g : gT} {h : Nat → Nat} {b : ST} {w : Nat → ST} {d : Nat} {t : ST} {r : Int32} {t' : ST} (hd : d < 11) (hm : m_X8_dropRound t = some (r, t')) : MetI l g yX8_dropRound cX8_dropRound 2 (some .boolean) 1 21 79 h (cC g h (b, va_up w d t)) (cC g h (b, va_up w d t')) [.ref (h (24 + 5 * d))] r := by
  refine MetZ.ofX (by decide +kernel) (Nat.le_of_ble_eq_true rfl) ?_
  intro p e s m below meth c AV Q X hret ls hw hl
  replace X : Cx g p s m AV c cX8_dropRound RX8 2 := X
  replace hl : lv_has ls 2 [(0, .ref (h (24 + 5 * d)))] := hl
  unfold m_X8_dropRound at hm
  refine lv_iconst (v := 0) X.1 X.2.1 dX8_dropRound_0 (by decide) ?_
  refine lv_istore_n (lv' := [(1, .int (0 : Int32)), (0, .ref (h (24 + 5 * d)))]) X.1 X.2.1 dX8_dropRound_1 rfl hl (by decide) rfl (fun ls hl => ?_)
  replace hm := ob_e hm
  obtain ⟨z_25, hL_10, hm⟩ := hm
  have J_9 : ∀ (t_3 : ST), z_25 = .inl t_3 → ∀ (H : Heap) (locs : List Loc) (ls : Array Slot), Wd g 79 h (cC g h (b, va_up w d t_3)) s H locs → lv_has ls 2 [] → W p l e (rW 1 21) s m AV below meth c H locs 0 0 Q (F0 m 56 ls []) := by
    intro t_3 hj
    subst hj
    replace hm := ex_l hm
    intro H locs ls hw hl
    refine lv_iconst (v := 0) X.1 X.2.1 dX8_dropRound_56 (by decide) ?_
    obtain ⟨rfl, rfl⟩ := Prod.mk.inj (Option.some.inj hm)
    exact hret _ _ _ _ hw dX8_dropRound_57 (Or.inl rfl)
  refine vLoop_ind (B := (m_X8_dropRound_L2)) (fun σ => ∀ (H : Heap) (locs : List Loc) (ls : Array Slot), Wd g 79 h (cC g h (b, va_up w d σ.2)) s H locs → lv_has ls 2 [(0, .ref (h (24 + 5 * d))), (1, .int σ.1)] → W p l e (rW 1 21) s m AV below meth c H locs 0 0 Q (F0 m 2 ls [])) (fun z' => z' = z_25) ?_ FUEL _ _ hL_10 rfl _ _ _ hw (lv_sub hl [1, 0] rfl)
  intro σ z_8 hz_5 hn_6 hx_7
  obtain ⟨y_1, t_2⟩ := σ
  intro H locs ls hw hl
  replace hw : Wd g 79 h (cC g h (b, va_up w d t_2)) s H locs := hw
  replace hl : lv_has ls 2 [(0, .ref (h (24 + 5 * d))), (1, .int y_1)] := hl
  unfold m_X8_dropRound_L2 at hz_5
  replace hz_5 := un_e hz_5
  refine lv_iload_n X.1 X.2.1 dX8_dropRound_2 rfl (lv_at hl 1 rfl) ?_
  refine lv_bipush (v := 10) X.1 X.2.1 dX8_dropRound_3 (by decide) ?_
  refine lv_icmp_ge (tgt := 56) X.1 X.2.1 dX8_dropRound_5 (by decide) (fun c_12 => ?_) (fun c_12 => ?_)
  · replace hz_5 := it_p hz_5 c_12
    have he_11 := hx_7 _ (Option.some.inj hz_5).symm
    exact J_9 _ he_11.symm _ _ _ hw (lv_sub hl [] rfl)
  · replace hz_5 := it_n hz_5 c_12
    refine lv_aload_n X.1 X.2.1 dX8_dropRound_8 rfl (lv_at hl 0 rfl) ?_
    refine lv_iload_n X.1 X.2.1 dX8_dropRound_9 rfl (lv_at hl 1 rfl) ?_
    replace hz_5 := ob_e hz_5
    obtain ⟨r_14, h_13, hz_5⟩ := hz_5
    refine k_Vi (k := (24 + 5 * d)) (As := [.int y_1]) X hl.1 hw (c_X8_isThere hd h_13) (by omega) (he_X8 g h _ _ _) rfl ⟨wq_16_10, wq_16_11, wq_16_12, wq_4_6, wq_16_13⟩ yo_X8_isThere rfl ⟨Nat.le_of_ble_eq_true rfl, Nat.le_of_ble_eq_true rfl⟩ (Nat.le_of_ble_eq_true rfl) dX8_dropRound_10 (fun H locs hw => ?_)
    refine lv_if_eq (tgt := 50) X.1 X.2.1 dX8_dropRound_13 (by decide) (fun c_15 => ?_) (fun c_15 => ?_)
    · replace hz_5 := it_p hz_5 c_15
      obtain ⟨x_16, ex_16⟩ : ∃ y : Int32, y = y_1 + 1 := ⟨_, rfl⟩
      replace hz_5 := lt_e hz_5 ex_16
      refine lv_iinc (v := x_16) (lv' := [(1, .int x_16), (0, .ref (h (24 + 5 * d)))]) X.1 X.2.1 dX8_dropRound_50 hl (k := 1) rfl (by rw [ex_16]; rfl) (by decide) rfl (fun ls hl => ?_)
      refine lv_goto (tgt := 2) X.1 X.2.1 dX8_dropRound_53 (by decide) ?_
      exact hn_6 _ (Option.some.inj hz_5).symm _ _ _ hw (lv_sub hl [1, 0] rfl)
    · replace hz_5 := it_n hz_5 c_15
      refine lv_aload_n X.1 X.2.1 dX8_dropRound_16 rfl (lv_at hl 0 rfl) ?_
      refine gX8_nears hd X hw wq_4_10 dX8_dropRound_17 ?_
      refine lv_iload_n X.1 X.2.1 dX8_dropRound_20 rfl (lv_at hl 1 rfl) ?_
      replace hz_5 := gd_e hz_5
      obtain ⟨g_17, hz_5⟩ := hz_5
      refine lTA0 hd X hw g_17 dX8_dropRound_21 ?_
      refine lv_aload_n X.1 X.2.1 dX8_dropRound_22 rfl (lv_at hl 0 rfl) ?_
      refine gX8_fars hd X hw wq_4_11 dX8_dropRound_23 ?_
      refine lv_iload_n X.1 X.2.1 dX8_dropRound_26 rfl (lv_at hl 1 rfl) ?_
      replace hz_5 := gd_e hz_5
      obtain ⟨g_18, hz_5⟩ := hz_5
      refine lTA1 hd X hw g_18 dX8_dropRound_27 ?_
      refine lv_icmp_eq (tgt := 34) X.1 X.2.1 dX8_dropRound_28 (by decide) (fun c_19 => ?_) (fun c_19 => ?_)
      · replace hz_5 := it_p hz_5 c_19
        refine lv_aload_n X.1 X.2.1 dX8_dropRound_34 rfl (lv_at hl 0 rfl) ?_
        refine lv_dup X.1 X.2.1 dX8_dropRound_35 rfl ?_
        refine gX8_links hd X hw wq_15_7 dX8_dropRound_36 ?_
        refine lv_iconst (v := 1) X.1 X.2.1 dX8_dropRound_39 (by decide) ?_
        refine lv_iload_n X.1 X.2.1 dX8_dropRound_40 rfl (lv_at hl 1 rfl) ?_
        refine lv_ishl X.1 X.2.1 dX8_dropRound_41 ?_
        refine lv_iconst (v := -1) X.1 X.2.1 dX8_dropRound_42 (by decide) ?_
        refine lv_ixor X.1 X.2.1 dX8_dropRound_43 ?_
        refine lv_iand X.1 X.2.1 dX8_dropRound_44 ?_
        refine lv_topi (fun x_20 ex_20 => ?_)
        replace hz_5 := lt_e hz_5 ex_20
        refine pX8_links hd X hw wq_15_7 dX8_dropRound_45 (fun H locs hw => ?_)
        obtain ⟨t_21, et_21⟩ : ∃ y, y = wI t_2 0 x_20 := ⟨_, rfl⟩
        rw [← et_21] at hw
        replace hz_5 := lt_e hz_5 et_21
        refine lv_iconst (v := 1) X.1 X.2.1 dX8_dropRound_48 (by decide) ?_
        have he_11 := hx_7 _ (Option.some.inj hz_5).symm
        subst he_11
        replace hm := ex_r hm
        obtain ⟨rfl, rfl⟩ := Prod.mk.inj (Option.some.inj hm)
        exact hret _ _ _ _ hw dX8_dropRound_49 (Or.inr rfl)
      · replace hz_5 := it_n hz_5 c_19
        refine lv_goto (tgt := 50) X.1 X.2.1 dX8_dropRound_31 (by decide) ?_
        obtain ⟨x_23, ex_23⟩ : ∃ y : Int32, y = y_1 + 1 := ⟨_, rfl⟩
        replace hz_5 := lt_e hz_5 ex_23
        refine lv_iinc (v := x_23) (lv' := [(1, .int x_23), (0, .ref (h (24 + 5 * d)))]) X.1 X.2.1 dX8_dropRound_50 hl (k := 1) rfl (by rw [ex_23]; rfl) (by decide) rfl (fun ls hl => ?_)
        refine lv_goto (tgt := 2) X.1 X.2.1 dX8_dropRound_53 (by decide) ?_
        exact hn_6 _ (Option.some.inj hz_5).symm _ _ _ hw (lv_sub hl [1, 0] rfl)
theorem c_X8_dropRound_c {l : Launch} {g : gT} {h : Nat → Nat} {b : ST} {w : Nat → ST} {d : Nat} {r : Int32} {t' : ST} (hd : d < 11) (hm : m_X8_dropRound (w d) = some (r, t')) : MetI l g yX8_dropRound cX8_dropRound 2 (some .boolean) 1 21 79 h (cC g h (b, w)) (cC g h (b, va_up w d t')) [.ref (h (24 + 5 * d))] r := by
  have hc := c_X8_dropRound (l := l) (g := g) (h := h) (b := b) (w := w) hd hm
  rw [up_self] at hc
  exact hc
def m_X8_areTwins (t : ST) (x1 : Int32) (x2 : Int32) : Option (Int32) := Option.bind (m_X8_isThere t x1) (fun (r_2 : Int32) => if r_2 = 0 then some (0 : Int32) else Option.bind (m_X8_isThere t x2) (fun (r_5 : Int32) => if r_5 = 0 then some (0 : Int32) else gd (¬ (x1 < 0 ∨ 10 ≤ x1.toNatClampNeg)) (gd (¬ (x2 < 0 ∨ 10 ≤ x2.toNatClampNeg)) (if (t.2.2.1 0 x1.toNatClampNeg) = (t.2.2.1 0 x2.toNatClampNeg) then gd (¬ (x1 < 0 ∨ 10 ≤ x1.toNatClampNeg)) (gd (¬ (x2 < 0 ∨ 10 ≤ x2.toNatClampNeg)) (if (t.2.2.1 1 x1.toNatClampNeg) = (t.2.2.1 1 x2.toNatClampNeg) then some (1 : Int32) else some (0 : Int32))) else gd (¬ (x1 < 0 ∨ 10 ≤ x1.toNatClampNeg)) (gd (¬ (x2 < 0 ∨ 10 ≤ x2.toNatClampNeg)) (if (t.2.2.1 0 x1.toNatClampNeg) = (t.2.2.1 1 x2.toNatClampNeg) then gd (¬ (x1 < 0 ∨ 10 ≤ x1.toNatClampNeg)) (gd (¬ (x2 < 0 ∨ 10 ≤ x2.toNatClampNeg)) (if (t.2.2.1 1 x1.toNatClampNeg) = (t.2.2.1 0 x2.toNatClampNeg) then some (1 : Int32) else some (0 : Int32))) else some (0 : Int32)))))))
theorem yo_X8_areTwins : yX8_areTwins.cls = RX8 ∧ yX8_areTwins.cls ≠ "java/lang/invoke/MethodHandle" ∧ yX8_areTwins.cls ≠ "java/lang/invoke/VarHandle" ∧ (parseMethodDescriptor yX8_areTwins.desc).map (fun d => d.parameters.length) = some 2 := by decide +kernel
set_option maxHeartbeats 4000000 in
set_option maxRecDepth 100000 in
theorem c_X8_areTwins {l : Launch} {g : gT} {h : Nat → Nat} {b : ST} {w : Nat → ST} {d : Nat} {t : ST} {x1 : Int32} {x2 : Int32} {r : Int32} (hd : d < 11) (hm : m_X8_areTwins t x1 x2 = some r) : MetI l g yX8_areTwins cX8_areTwins 3 (some .boolean) 1 21 79 h (cC g h (b, va_up w d t)) (cC g h (b, va_up w d t)) [.ref (h (24 + 5 * d)), .int x1, .int x2] r := by
  refine MetZ.ofX (by decide +kernel) (Nat.le_of_ble_eq_true rfl) ?_
  intro p e s m below meth c AV Q X hret ls hw hl
  replace X : Cx g p s m AV c cX8_areTwins RX8 3 := X
  replace hl : lv_has ls 3 [(0, .ref (h (24 + 5 * d))), (1, .int x1), (2, .int x2)] := hl
  unfold m_X8_areTwins at hm
  refine lv_aload_n X.1 X.2.1 dX8_areTwins_0 rfl (lv_at hl 0 rfl) ?_
  refine lv_iload_n X.1 X.2.1 dX8_areTwins_1 rfl (lv_at hl 1 rfl) ?_
  replace hm := ob_e hm
  obtain ⟨r_2, h_1, hm⟩ := hm
  refine k_Vi (k := (24 + 5 * d)) (As := [.int x1]) X hl.1 hw (c_X8_isThere hd h_1) (by omega) (he_X8 g h _ _ _) rfl ⟨wq_16_10, wq_16_11, wq_16_12, wq_4_6, wq_16_13⟩ yo_X8_isThere rfl ⟨Nat.le_of_ble_eq_true rfl, Nat.le_of_ble_eq_true rfl⟩ (Nat.le_of_ble_eq_true rfl) dX8_areTwins_2 (fun H locs hw => ?_)
  refine lv_if_eq (tgt := 16) X.1 X.2.1 dX8_areTwins_5 (by decide) (fun c_3 => ?_) (fun c_3 => ?_)
  · replace hm := it_p hm c_3
    refine lv_iconst (v := 0) X.1 X.2.1 dX8_areTwins_16 (by decide) ?_
    obtain rfl := Option.some.inj hm
    exact hret _ _ _ _ hw dX8_areTwins_17 (Or.inl rfl)
  · replace hm := it_n hm c_3
    refine lv_aload_n X.1 X.2.1 dX8_areTwins_8 rfl (lv_at hl 0 rfl) ?_
    refine lv_iload_n X.1 X.2.1 dX8_areTwins_9 rfl (lv_at hl 2 rfl) ?_
    replace hm := ob_e hm
    obtain ⟨r_5, h_4, hm⟩ := hm
    refine k_Vi (k := (24 + 5 * d)) (As := [.int x2]) X hl.1 hw (c_X8_isThere hd h_4) (by omega) (he_X8 g h _ _ _) rfl ⟨wq_16_10, wq_16_11, wq_16_12, wq_4_6, wq_16_13⟩ yo_X8_isThere rfl ⟨Nat.le_of_ble_eq_true rfl, Nat.le_of_ble_eq_true rfl⟩ (Nat.le_of_ble_eq_true rfl) dX8_areTwins_10 (fun H locs hw => ?_)
    refine lv_if_ne (tgt := 18) X.1 X.2.1 dX8_areTwins_13 (by decide) (fun c_6 => ?_) (fun c_6 => ?_)
    · replace hm := it_n hm c_6
      refine lv_aload_n X.1 X.2.1 dX8_areTwins_18 rfl (lv_at hl 0 rfl) ?_
      refine gX8_nears hd X hw wq_4_10 dX8_areTwins_19 ?_
      refine lv_iload_n X.1 X.2.1 dX8_areTwins_22 rfl (lv_at hl 1 rfl) ?_
      replace hm := gd_e hm
      obtain ⟨g_7, hm⟩ := hm
      refine lTA0 hd X hw g_7 dX8_areTwins_23 ?_
      refine lv_aload_n X.1 X.2.1 dX8_areTwins_24 rfl (lv_at hl 0 rfl) ?_
      refine gX8_nears hd X hw wq_4_10 dX8_areTwins_25 ?_
      refine lv_iload_n X.1 X.2.1 dX8_areTwins_28 rfl (lv_at hl 2 rfl) ?_
      replace hm := gd_e hm
      obtain ⟨g_8, hm⟩ := hm
      refine lTA0 hd X hw g_8 dX8_areTwins_29 ?_
      refine lv_icmp_ne (tgt := 54) X.1 X.2.1 dX8_areTwins_30 (by decide) (fun c_9 => ?_) (fun c_9 => ?_)
      · replace hm := it_n hm c_9
        refine lv_aload_n X.1 X.2.1 dX8_areTwins_54 rfl (lv_at hl 0 rfl) ?_
        refine gX8_nears hd X hw wq_4_10 dX8_areTwins_55 ?_
        refine lv_iload_n X.1 X.2.1 dX8_areTwins_58 rfl (lv_at hl 1 rfl) ?_
        replace hm := gd_e hm
        obtain ⟨g_10, hm⟩ := hm
        refine lTA0 hd X hw g_10 dX8_areTwins_59 ?_
        refine lv_aload_n X.1 X.2.1 dX8_areTwins_60 rfl (lv_at hl 0 rfl) ?_
        refine gX8_fars hd X hw wq_4_11 dX8_areTwins_61 ?_
        refine lv_iload_n X.1 X.2.1 dX8_areTwins_64 rfl (lv_at hl 2 rfl) ?_
        replace hm := gd_e hm
        obtain ⟨g_11, hm⟩ := hm
        refine lTA1 hd X hw g_11 dX8_areTwins_65 ?_
        refine lv_icmp_ne (tgt := 88) X.1 X.2.1 dX8_areTwins_66 (by decide) (fun c_12 => ?_) (fun c_12 => ?_)
        · replace hm := it_n hm c_12
          refine lv_iconst (v := 0) X.1 X.2.1 dX8_areTwins_88 (by decide) ?_
          obtain rfl := Option.some.inj hm
          exact hret _ _ _ _ hw dX8_areTwins_89 (Or.inl rfl)
        · replace hm := it_p hm c_12
          refine lv_aload_n X.1 X.2.1 dX8_areTwins_69 rfl (lv_at hl 0 rfl) ?_
          refine gX8_fars hd X hw wq_4_11 dX8_areTwins_70 ?_
          refine lv_iload_n X.1 X.2.1 dX8_areTwins_73 rfl (lv_at hl 1 rfl) ?_
          replace hm := gd_e hm
          obtain ⟨g_13, hm⟩ := hm
          refine lTA1 hd X hw g_13 dX8_areTwins_74 ?_
          refine lv_aload_n X.1 X.2.1 dX8_areTwins_75 rfl (lv_at hl 0 rfl) ?_
          refine gX8_nears hd X hw wq_4_10 dX8_areTwins_76 ?_
          refine lv_iload_n X.1 X.2.1 dX8_areTwins_79 rfl (lv_at hl 2 rfl) ?_
          replace hm := gd_e hm
          obtain ⟨g_14, hm⟩ := hm
          refine lTA0 hd X hw g_14 dX8_areTwins_80 ?_
          refine lv_icmp_ne (tgt := 88) X.1 X.2.1 dX8_areTwins_81 (by decide) (fun c_15 => ?_) (fun c_15 => ?_)
          · replace hm := it_n hm c_15
            refine lv_iconst (v := 0) X.1 X.2.1 dX8_areTwins_88 (by decide) ?_
            obtain rfl := Option.some.inj hm
            exact hret _ _ _ _ hw dX8_areTwins_89 (Or.inl rfl)
          · replace hm := it_p hm c_15
            refine lv_iconst (v := 1) X.1 X.2.1 dX8_areTwins_84 (by decide) ?_
            refine lv_goto (tgt := 89) X.1 X.2.1 dX8_areTwins_85 (by decide) ?_
            obtain rfl := Option.some.inj hm
            exact hret _ _ _ _ hw dX8_areTwins_89 (Or.inr rfl)
      · replace hm := it_p hm c_9
        refine lv_aload_n X.1 X.2.1 dX8_areTwins_33 rfl (lv_at hl 0 rfl) ?_
        refine gX8_fars hd X hw wq_4_11 dX8_areTwins_34 ?_
        refine lv_iload_n X.1 X.2.1 dX8_areTwins_37 rfl (lv_at hl 1 rfl) ?_
        replace hm := gd_e hm
        obtain ⟨g_16, hm⟩ := hm
        refine lTA1 hd X hw g_16 dX8_areTwins_38 ?_
        refine lv_aload_n X.1 X.2.1 dX8_areTwins_39 rfl (lv_at hl 0 rfl) ?_
        refine gX8_fars hd X hw wq_4_11 dX8_areTwins_40 ?_
        refine lv_iload_n X.1 X.2.1 dX8_areTwins_43 rfl (lv_at hl 2 rfl) ?_
        replace hm := gd_e hm
        obtain ⟨g_17, hm⟩ := hm
        refine lTA1 hd X hw g_17 dX8_areTwins_44 ?_
        refine lv_icmp_ne (tgt := 52) X.1 X.2.1 dX8_areTwins_45 (by decide) (fun c_18 => ?_) (fun c_18 => ?_)
        · replace hm := it_n hm c_18
          refine lv_iconst (v := 0) X.1 X.2.1 dX8_areTwins_52 (by decide) ?_
          obtain rfl := Option.some.inj hm
          exact hret _ _ _ _ hw dX8_areTwins_53 (Or.inl rfl)
        · replace hm := it_p hm c_18
          refine lv_iconst (v := 1) X.1 X.2.1 dX8_areTwins_48 (by decide) ?_
          refine lv_goto (tgt := 53) X.1 X.2.1 dX8_areTwins_49 (by decide) ?_
          obtain rfl := Option.some.inj hm
          exact hret _ _ _ _ hw dX8_areTwins_53 (Or.inr rfl)
    · replace hm := it_p hm c_6
      refine lv_iconst (v := 0) X.1 X.2.1 dX8_areTwins_16 (by decide) ?_
      obtain rfl := Option.some.inj hm
      exact hret _ _ _ _ hw dX8_areTwins_17 (Or.inl rfl)
theorem c_X8_areTwins_c {l : Launch} {g : gT} {h : Nat → Nat} {b : ST} {w : Nat → ST} {d : Nat} {x1 : Int32} {x2 : Int32} {r : Int32} (hd : d < 11) (hm : m_X8_areTwins (w d) x1 x2 = some r) : MetI l g yX8_areTwins cX8_areTwins 3 (some .boolean) 1 21 79 h (cC g h (b, w)) (cC g h (b, w)) [.ref (h (24 + 5 * d)), .int x1, .int x2] r := by
  have hc := c_X8_areTwins (l := l) (g := g) (h := h) (b := b) (w := w) hd hm
  rw [up_self] at hc
  exact hc
theorem c_X8_areTwins_o {l : Launch} {g : gT} {h : Nat → Nat} {b : ST} {w : Nat → ST} {d k : Nat} {t o : ST} {x1 : Int32} {x2 : Int32} {r : Int32} (hd : d < 11) (hk : k ≠ d) (hk11 : k < 11) (ho : w k = o) (hm : m_X8_areTwins o x1 x2 = some r) : MetI l g yX8_areTwins cX8_areTwins 3 (some .boolean) 1 21 79 h (cC g h (b, va_up w d t)) (cC g h (b, va_up w d t)) [.ref (h (24 + 5 * k)), .int x1, .int x2] r := by
  subst ho
  have hc := c_X8_areTwins (l := l) (g := g) (h := h) (b := b) (w := va_up w d t) hk11 hm
  rw [up_other _ _ _ _ hk] at hc
  exact hc
def m_X8_joinTwins_L12 (y_1 : Int32) (σ : Int32 × ST) : Option ((Int32 × ST) ⊕ ((ST) ⊕ (Int32 × ST))) := (fun (q_45 : Int32 × ST) => un q_45 (fun y_14 t_15 => if (10 : Int32) ≤ y_14 then some (.inr (.inl t_15)) else Option.bind (m_X8_areTwins t_15 y_1 y_14) (fun (r_27 : Int32) => if r_27 = 0 then lt (y_14 + 1) (fun x_44 => some (.inl (x_44, t_15))) else gd (¬ (y_1 < 0 ∨ 10 ≤ y_1.toNatClampNeg)) (gd (¬ (y_14 < 0 ∨ 10 ≤ y_14.toNatClampNeg)) (lt ((t_15.2.2.2 1 y_1.toNatClampNeg) * (t_15.2.2.2 1 y_14.toNatClampNeg)) (fun x_31 => gd (¬ (y_1 < 0 ∨ 10 ≤ y_1.toNatClampNeg)) (gd (¬ (y_1 < 0 ∨ 10 ≤ y_1.toNatClampNeg)) (gd (¬ (y_14 < 0 ∨ 10 ≤ y_14.toNatClampNeg)) (gd (¬ (y_14 < 0 ∨ 10 ≤ y_14.toNatClampNeg)) (lt (((t_15.2.2.2 1 y_1.toNatClampNeg) - (t_15.2.2.2 0 y_1.toNatClampNeg)) * ((t_15.2.2.2 1 y_14.toNatClampNeg) - (t_15.2.2.2 0 y_14.toNatClampNeg))) (fun x_36 => gd (¬ (y_1 < 0 ∨ 10 ≤ y_1.toNatClampNeg)) (lt (wB t_15 0 y_1.toNatClampNeg (x_31 - x_36)) (fun t_38 => gd (¬ (y_1 < 0 ∨ 10 ≤ y_1.toNatClampNeg)) (lt (wB t_38 1 y_1.toNatClampNeg x_31) (fun t_40 => lt ((t_40.1 0) &&& (((1 : Int32) <<< (y_14 &&& 31)) ^^^ (-1 : Int32))) (fun x_41 => lt (wI t_40 0 x_41) (fun t_42 => some (.inr (.inr ((1 : Int32), t_42)))))))))))))))))))) σ
def m_X8_joinTwins_L2 (σ : Int32 × ST) : Option ((Int32 × ST) ⊕ ((ST) ⊕ (Int32 × ST))) := (fun (q_49 : Int32 × ST) => un q_49 (fun y_1 t_2 => if (10 : Int32) ≤ y_1 then some (.inr (.inl t_2)) else lt (y_1 + (1 : Int32)) (fun x_13 => Option.bind (vLoop (m_X8_joinTwins_L12 y_1) FUEL (x_13, t_2)) (fun z => ex z (fun (t_16 : ST) => lt (y_1 + 1) (fun x_17 => some (.inl (x_17, t_16)))) (fun r_47 => some (.inr (.inr r_47))))))) σ
def m_X8_joinTwins (t : ST) : Option (Int32 × ST) := Option.bind (vLoop (m_X8_joinTwins_L2) FUEL ((0 : Int32), t)) (fun z => ex z (fun (t_3 : ST) => some ((0 : Int32), t_3)) (fun r_51 => some r_51))
theorem yo_X8_joinTwins : yX8_joinTwins.cls = RX8 ∧ yX8_joinTwins.cls ≠ "java/lang/invoke/MethodHandle" ∧ yX8_joinTwins.cls ≠ "java/lang/invoke/VarHandle" ∧ (parseMethodDescriptor yX8_joinTwins.desc).map (fun d => d.parameters.length) = some 0 := by decide +kernel
set_option maxHeartbeats 4000000 in
set_option maxRecDepth 100000 in
theorem c_X8_joinTwins {l : Launch} {g : gT} {h : Nat → Nat} {b : ST} {w : Nat → ST} {d : Nat} {t : ST} {r : Int32} {t' : ST} (hd : d < 11) (hm : m_X8_joinTwins t = some (r, t')) : MetI l g yX8_joinTwins cX8_joinTwins 5 (some .boolean) 2 43 79 h (cC g h (b, va_up w d t)) (cC g h (b, va_up w d t')) [.ref (h (24 + 5 * d))] r := by
  refine MetZ.ofX (by decide +kernel) (Nat.le_of_ble_eq_true rfl) ?_
  intro p e s m below meth c AV Q X hret ls hw hl
  replace X : Cx g p s m AV c cX8_joinTwins RX8 5 := X
  replace hl : lv_has ls 5 [(0, .ref (h (24 + 5 * d)))] := hl
  unfold m_X8_joinTwins at hm
  refine lv_iconst (v := 0) X.1 X.2.1 dX8_joinTwins_0 (by decide) ?_
  refine lv_istore_n (lv' := [(1, .int (0 : Int32)), (0, .ref (h (24 + 5 * d)))]) X.1 X.2.1 dX8_joinTwins_1 rfl hl (by decide) rfl (fun ls hl => ?_)
  replace hm := ob_e hm
  obtain ⟨z_50, hL_10, hm⟩ := hm
  have J_9 : ∀ (t_3 : ST), z_50 = .inl t_3 → ∀ (H : Heap) (locs : List Loc) (ls : Array Slot), Wd g 79 h (cC g h (b, va_up w d t_3)) s H locs → lv_has ls 5 [] → W p l e (rW 2 43) s m AV below meth c H locs 0 0 Q (F0 m 114 ls []) := by
    intro t_3 hj
    subst hj
    replace hm := ex_l hm
    intro H locs ls hw hl
    refine lv_iconst (v := 0) X.1 X.2.1 dX8_joinTwins_114 (by decide) ?_
    obtain ⟨rfl, rfl⟩ := Prod.mk.inj (Option.some.inj hm)
    exact hret _ _ _ _ hw dX8_joinTwins_115 (Or.inl rfl)
  refine vLoop_ind (B := (m_X8_joinTwins_L2)) (fun σ => ∀ (H : Heap) (locs : List Loc) (ls : Array Slot), Wd g 79 h (cC g h (b, va_up w d σ.2)) s H locs → lv_has ls 5 [(0, .ref (h (24 + 5 * d))), (1, .int σ.1)] → W p l e (rW 2 43) s m AV below meth c H locs 0 0 Q (F0 m 2 ls [])) (fun z' => z' = z_50) ?_ FUEL _ _ hL_10 rfl _ _ _ hw (lv_sub hl [1, 0] rfl)
  intro σ z_8 hz_5 hn_6 hx_7
  obtain ⟨y_1, t_2⟩ := σ
  intro H locs ls hw hl
  replace hw : Wd g 79 h (cC g h (b, va_up w d t_2)) s H locs := hw
  replace hl : lv_has ls 5 [(0, .ref (h (24 + 5 * d))), (1, .int y_1)] := hl
  unfold m_X8_joinTwins_L2 at hz_5
  replace hz_5 := un_e hz_5
  refine lv_iload_n X.1 X.2.1 dX8_joinTwins_2 rfl (lv_at hl 1 rfl) ?_
  refine lv_bipush (v := 10) X.1 X.2.1 dX8_joinTwins_3 (by decide) ?_
  refine lv_icmp_ge (tgt := 114) X.1 X.2.1 dX8_joinTwins_5 (by decide) (fun c_12 => ?_) (fun c_12 => ?_)
  · replace hz_5 := it_p hz_5 c_12
    have he_11 := hx_7 _ (Option.some.inj hz_5).symm
    exact J_9 _ he_11.symm _ _ _ hw (lv_sub hl [] rfl)
  · replace hz_5 := it_n hz_5 c_12
    refine lv_iload_n X.1 X.2.1 dX8_joinTwins_8 rfl (lv_at hl 1 rfl) ?_
    refine lv_iconst (v := 1) X.1 X.2.1 dX8_joinTwins_9 (by decide) ?_
    refine lv_iadd X.1 X.2.1 dX8_joinTwins_10 ?_
    refine lv_topi (fun x_13 ex_13 => ?_)
    replace hz_5 := lt_e hz_5 ex_13
    refine lv_istore_n (lv' := [(2, .int x_13), (0, .ref (h (24 + 5 * d))), (1, .int y_1)]) X.1 X.2.1 dX8_joinTwins_11 rfl hl (by decide) rfl (fun ls hl => ?_)
    replace hz_5 := ob_e hz_5
    obtain ⟨z_46, hL_23, hz_5⟩ := hz_5
    have J_22 : ∀ (t_16 : ST), z_46 = .inl t_16 → ∀ (H : Heap) (locs : List Loc) (ls : Array Slot), Wd g 79 h (cC g h (b, va_up w d t_16)) s H locs → lv_has ls 5 [(0, .ref (h (24 + 5 * d))), (1, .int y_1)] → W p l e (rW 2 43) s m AV below meth c H locs 0 0 Q (F0 m 108 ls []) := by
      intro t_16 hj
      subst hj
      replace hz_5 := ex_l hz_5
      intro H locs ls hw hl
      obtain ⟨x_17, ex_17⟩ : ∃ y : Int32, y = y_1 + 1 := ⟨_, rfl⟩
      replace hz_5 := lt_e hz_5 ex_17
      refine lv_iinc (v := x_17) (lv' := [(1, .int x_17), (0, .ref (h (24 + 5 * d)))]) X.1 X.2.1 dX8_joinTwins_108 hl (k := 1) rfl (by rw [ex_17]; rfl) (by decide) rfl (fun ls hl => ?_)
      refine lv_goto (tgt := 2) X.1 X.2.1 dX8_joinTwins_111 (by decide) ?_
      exact hn_6 _ (Option.some.inj hz_5).symm _ _ _ hw (lv_sub hl [1, 0] rfl)
    refine vLoop_ind (B := (m_X8_joinTwins_L12 y_1)) (fun σ => ∀ (H : Heap) (locs : List Loc) (ls : Array Slot), Wd g 79 h (cC g h (b, va_up w d σ.2)) s H locs → lv_has ls 5 [(0, .ref (h (24 + 5 * d))), (1, .int y_1), (2, .int σ.1)] → W p l e (rW 2 43) s m AV below meth c H locs 0 0 Q (F0 m 12 ls [])) (fun z' => z' = z_46) ?_ FUEL _ _ hL_23 rfl _ _ _ hw (lv_sub hl [1, 2, 0] rfl)
    intro σ z_21 hz_18 hn_19 hx_20
    obtain ⟨y_14, t_15⟩ := σ
    intro H locs ls hw hl
    replace hw : Wd g 79 h (cC g h (b, va_up w d t_15)) s H locs := hw
    replace hl : lv_has ls 5 [(0, .ref (h (24 + 5 * d))), (1, .int y_1), (2, .int y_14)] := hl
    unfold m_X8_joinTwins_L12 at hz_18
    replace hz_18 := un_e hz_18
    refine lv_iload_n X.1 X.2.1 dX8_joinTwins_12 rfl (lv_at hl 2 rfl) ?_
    refine lv_bipush (v := 10) X.1 X.2.1 dX8_joinTwins_13 (by decide) ?_
    refine lv_icmp_ge (tgt := 108) X.1 X.2.1 dX8_joinTwins_15 (by decide) (fun c_25 => ?_) (fun c_25 => ?_)
    · replace hz_18 := it_p hz_18 c_25
      have he_24 := hx_20 _ (Option.some.inj hz_18).symm
      exact J_22 _ he_24.symm _ _ _ hw (lv_sub hl [0, 1] rfl)
    · replace hz_18 := it_n hz_18 c_25
      refine lv_aload_n X.1 X.2.1 dX8_joinTwins_18 rfl (lv_at hl 0 rfl) ?_
      refine lv_iload_n X.1 X.2.1 dX8_joinTwins_19 rfl (lv_at hl 1 rfl) ?_
      refine lv_iload_n X.1 X.2.1 dX8_joinTwins_20 rfl (lv_at hl 2 rfl) ?_
      replace hz_18 := ob_e hz_18
      obtain ⟨r_27, h_26, hz_18⟩ := hz_18
      refine k_Vi (k := (24 + 5 * d)) (As := [.int y_1, .int y_14]) X hl.1 hw (c_X8_areTwins hd h_26) (by omega) (he_X8 g h _ _ _) rfl ⟨wq_16_18, wq_16_19, wq_16_20, wq_4_6, wq_16_21⟩ yo_X8_areTwins rfl ⟨Nat.le_of_ble_eq_true rfl, Nat.le_of_ble_eq_true rfl⟩ (Nat.le_of_ble_eq_true rfl) dX8_joinTwins_21 (fun H locs hw => ?_)
      refine lv_if_ne (tgt := 30) X.1 X.2.1 dX8_joinTwins_24 (by decide) (fun c_28 => ?_) (fun c_28 => ?_)
      · replace hz_18 := it_n hz_18 c_28
        refine lv_aload_n X.1 X.2.1 dX8_joinTwins_30 rfl (lv_at hl 0 rfl) ?_
        refine gX8_belows hd X hw wq_4_13 dX8_joinTwins_31 ?_
        refine lv_iload_n X.1 X.2.1 dX8_joinTwins_34 rfl (lv_at hl 1 rfl) ?_
        replace hz_18 := gd_e hz_18
        obtain ⟨g_29, hz_18⟩ := hz_18
        refine lTB1 hd X hw g_29 dX8_joinTwins_35 ?_
        refine lv_aload_n X.1 X.2.1 dX8_joinTwins_36 rfl (lv_at hl 0 rfl) ?_
        refine gX8_belows hd X hw wq_4_13 dX8_joinTwins_37 ?_
        refine lv_iload_n X.1 X.2.1 dX8_joinTwins_40 rfl (lv_at hl 2 rfl) ?_
        replace hz_18 := gd_e hz_18
        obtain ⟨g_30, hz_18⟩ := hz_18
        refine lTB1 hd X hw g_30 dX8_joinTwins_41 ?_
        refine lv_lmul X.1 X.2.1 dX8_joinTwins_42 ?_
        refine lv_topl (fun x_31 ex_31 => ?_)
        replace hz_18 := lt_e hz_18 ex_31
        refine lv_lstore_n (lv' := [(3, .long x_31), (0, .ref (h (24 + 5 * d))), (1, .int y_1), (2, .int y_14)]) X.1 X.2.1 dX8_joinTwins_43 rfl hl (by decide) rfl (fun ls hl => ?_)
        refine lv_aload_n X.1 X.2.1 dX8_joinTwins_44 rfl (lv_at hl 1 rfl) ?_
        refine gX8_aboves hd X hw wq_4_12 dX8_joinTwins_45 ?_
        refine lv_iload_n X.1 X.2.1 dX8_joinTwins_48 rfl (lv_at hl 2 rfl) ?_
        refine lv_lload_n X.1 X.2.1 dX8_joinTwins_49 rfl (lv_at hl 0 rfl) ?_
        refine lv_aload_n X.1 X.2.1 dX8_joinTwins_50 rfl (lv_at hl 1 rfl) ?_
        refine gX8_belows hd X hw wq_4_13 dX8_joinTwins_51 ?_
        refine lv_iload_n X.1 X.2.1 dX8_joinTwins_54 rfl (lv_at hl 2 rfl) ?_
        replace hz_18 := gd_e hz_18
        obtain ⟨g_32, hz_18⟩ := hz_18
        refine lTB1 hd X hw g_32 dX8_joinTwins_55 ?_
        refine lv_aload_n X.1 X.2.1 dX8_joinTwins_56 rfl (lv_at hl 1 rfl) ?_
        refine gX8_aboves hd X hw wq_4_12 dX8_joinTwins_57 ?_
        refine lv_iload_n X.1 X.2.1 dX8_joinTwins_60 rfl (lv_at hl 2 rfl) ?_
        replace hz_18 := gd_e hz_18
        obtain ⟨g_33, hz_18⟩ := hz_18
        refine lTB0 hd X hw g_33 dX8_joinTwins_61 ?_
        refine lv_lsub X.1 X.2.1 dX8_joinTwins_62 ?_
        refine lv_aload_n X.1 X.2.1 dX8_joinTwins_63 rfl (lv_at hl 1 rfl) ?_
        refine gX8_belows hd X hw wq_4_13 dX8_joinTwins_64 ?_
        refine lv_iload_n X.1 X.2.1 dX8_joinTwins_67 rfl (lv_at hl 3 rfl) ?_
        replace hz_18 := gd_e hz_18
        obtain ⟨g_34, hz_18⟩ := hz_18
        refine lTB1 hd X hw g_34 dX8_joinTwins_68 ?_
        refine lv_aload_n X.1 X.2.1 dX8_joinTwins_69 rfl (lv_at hl 1 rfl) ?_
        refine gX8_aboves hd X hw wq_4_12 dX8_joinTwins_70 ?_
        refine lv_iload_n X.1 X.2.1 dX8_joinTwins_73 rfl (lv_at hl 3 rfl) ?_
        replace hz_18 := gd_e hz_18
        obtain ⟨g_35, hz_18⟩ := hz_18
        refine lTB0 hd X hw g_35 dX8_joinTwins_74 ?_
        refine lv_lsub X.1 X.2.1 dX8_joinTwins_75 ?_
        refine lv_lmul X.1 X.2.1 dX8_joinTwins_76 ?_
        refine lv_topl (fun x_36 ex_36 => ?_)
        replace hz_18 := lt_e hz_18 ex_36
        refine lv_lsub X.1 X.2.1 dX8_joinTwins_77 ?_
        replace hz_18 := gd_e hz_18
        obtain ⟨g_37, hz_18⟩ := hz_18
        refine sTB0 hd X hw g_37 dX8_joinTwins_78 (fun H locs hw => ?_)
        obtain ⟨t_38, et_38⟩ : ∃ y, y = wB t_15 0 y_1.toNatClampNeg (x_31 - x_36) := ⟨_, rfl⟩
        rw [← et_38] at hw
        replace hz_18 := lt_e hz_18 et_38
        refine lv_aload_n X.1 X.2.1 dX8_joinTwins_79 rfl (lv_at hl 1 rfl) ?_
        refine gX8_belows hd X hw wq_4_13 dX8_joinTwins_80 ?_
        refine lv_iload_n X.1 X.2.1 dX8_joinTwins_83 rfl (lv_at hl 2 rfl) ?_
        refine lv_lload_n X.1 X.2.1 dX8_joinTwins_84 rfl (lv_at hl 0 rfl) ?_
        replace hz_18 := gd_e hz_18
        obtain ⟨g_39, hz_18⟩ := hz_18
        refine sTB1 hd X hw g_39 dX8_joinTwins_85 (fun H locs hw => ?_)
        obtain ⟨t_40, et_40⟩ : ∃ y, y = wB t_38 1 y_1.toNatClampNeg x_31 := ⟨_, rfl⟩
        rw [← et_40] at hw
        replace hz_18 := lt_e hz_18 et_40
        refine lv_aload_n X.1 X.2.1 dX8_joinTwins_86 rfl (lv_at hl 1 rfl) ?_
        refine lv_dup X.1 X.2.1 dX8_joinTwins_87 rfl ?_
        refine gX8_links hd X hw wq_15_7 dX8_joinTwins_88 ?_
        refine lv_iconst (v := 1) X.1 X.2.1 dX8_joinTwins_91 (by decide) ?_
        refine lv_iload_n X.1 X.2.1 dX8_joinTwins_92 rfl (lv_at hl 3 rfl) ?_
        refine lv_ishl X.1 X.2.1 dX8_joinTwins_93 ?_
        refine lv_iconst (v := -1) X.1 X.2.1 dX8_joinTwins_94 (by decide) ?_
        refine lv_ixor X.1 X.2.1 dX8_joinTwins_95 ?_
        refine lv_iand X.1 X.2.1 dX8_joinTwins_96 ?_
        refine lv_topi (fun x_41 ex_41 => ?_)
        replace hz_18 := lt_e hz_18 ex_41
        refine pX8_links hd X hw wq_15_7 dX8_joinTwins_97 (fun H locs hw => ?_)
        obtain ⟨t_42, et_42⟩ : ∃ y, y = wI t_40 0 x_41 := ⟨_, rfl⟩
        rw [← et_42] at hw
        replace hz_18 := lt_e hz_18 et_42
        refine lv_iconst (v := 1) X.1 X.2.1 dX8_joinTwins_100 (by decide) ?_
        have he_24 := hx_20 _ (Option.some.inj hz_18).symm
        subst he_24
        replace hz_5 := ex_r hz_5
        have he_11 := hx_7 _ (Option.some.inj hz_5).symm
        subst he_11
        replace hm := ex_r hm
        obtain ⟨rfl, rfl⟩ := Prod.mk.inj (Option.some.inj hm)
        exact hret _ _ _ _ hw dX8_joinTwins_101 (Or.inr rfl)
      · replace hz_18 := it_p hz_18 c_28
        refine lv_goto (tgt := 102) X.1 X.2.1 dX8_joinTwins_27 (by decide) ?_
        obtain ⟨x_44, ex_44⟩ : ∃ y : Int32, y = y_14 + 1 := ⟨_, rfl⟩
        replace hz_18 := lt_e hz_18 ex_44
        refine lv_iinc (v := x_44) (lv' := [(2, .int x_44), (0, .ref (h (24 + 5 * d))), (1, .int y_1)]) X.1 X.2.1 dX8_joinTwins_102 hl (k := 2) rfl (by rw [ex_44]; rfl) (by decide) rfl (fun ls hl => ?_)
        refine lv_goto (tgt := 12) X.1 X.2.1 dX8_joinTwins_105 (by decide) ?_
        exact hn_19 _ (Option.some.inj hz_18).symm _ _ _ hw (lv_sub hl [1, 2, 0] rfl)
theorem c_X8_joinTwins_c {l : Launch} {g : gT} {h : Nat → Nat} {b : ST} {w : Nat → ST} {d : Nat} {r : Int32} {t' : ST} (hd : d < 11) (hm : m_X8_joinTwins (w d) = some (r, t')) : MetI l g yX8_joinTwins cX8_joinTwins 5 (some .boolean) 2 43 79 h (cC g h (b, w)) (cC g h (b, va_up w d t')) [.ref (h (24 + 5 * d))] r := by
  have hc := c_X8_joinTwins (l := l) (g := g) (h := h) (b := b) (w := w) hd hm
  rw [up_self] at hc
  exact hc
def m_X8_linksAt_L4 (x1 : Int32) (t : ST) (σ : Int32 × Int32) : Option ((Int32 × Int32) ⊕ (Int32)) := (fun (q_25 : Int32 × Int32) => un q_25 (fun y_1 y_2 => if (10 : Int32) ≤ y_2 then some (.inr y_1) else Option.bind (m_X8_isThere t y_2) (fun (r_13 : Int32) => if r_13 = 0 then lt (y_2 + 1) (fun x_15 => some (.inl (y_1, x_15))) else gd (¬ (y_2 < 0 ∨ 10 ≤ y_2.toNatClampNeg)) (if (t.2.2.1 0 y_2.toNatClampNeg) = x1 then lt (y_1 ||| ((1 : Int32) <<< (y_2 &&& 31))) (fun x_18 => lt (y_2 + 1) (fun x_19 => some (.inl (x_18, x_19)))) else gd (¬ (y_2 < 0 ∨ 10 ≤ y_2.toNatClampNeg)) (if (t.2.2.1 1 y_2.toNatClampNeg) = x1 then lt (y_1 ||| ((1 : Int32) <<< (y_2 &&& 31))) (fun x_23 => lt (y_2 + 1) (fun x_24 => some (.inl (x_23, x_24)))) else lt (y_2 + 1) (fun x_22 => some (.inl (y_1, x_22)))))))) σ
def m_X8_linksAt (t : ST) (x1 : Int32) : Option (Int32) := Option.bind (vLoop (m_X8_linksAt_L4 x1 t) FUEL ((0 : Int32), (0 : Int32))) (fun (j_3 : Int32) => some j_3)
theorem yo_X8_linksAt : yX8_linksAt.cls = RX8 ∧ yX8_linksAt.cls ≠ "java/lang/invoke/MethodHandle" ∧ yX8_linksAt.cls ≠ "java/lang/invoke/VarHandle" ∧ (parseMethodDescriptor yX8_linksAt.desc).map (fun d => d.parameters.length) = some 1 := by decide +kernel
set_option maxHeartbeats 4000000 in
set_option maxRecDepth 100000 in
theorem c_X8_linksAt {l : Launch} {g : gT} {h : Nat → Nat} {b : ST} {w : Nat → ST} {d : Nat} {t : ST} {x1 : Int32} {r : Int32} (hd : d < 11) (hm : m_X8_linksAt t x1 = some r) : MetI l g yX8_linksAt cX8_linksAt 4 (some .int) 1 21 79 h (cC g h (b, va_up w d t)) (cC g h (b, va_up w d t)) [.ref (h (24 + 5 * d)), .int x1] r := by
  refine MetI.ofX (by decide +kernel) (Nat.le_of_ble_eq_true rfl) ?_
  intro p e s m below meth c AV Q X hret ls hw hl
  replace X : Cx g p s m AV c cX8_linksAt RX8 4 := X
  replace hl : lv_has ls 4 [(0, .ref (h (24 + 5 * d))), (1, .int x1)] := hl
  unfold m_X8_linksAt at hm
  refine lv_iconst (v := 0) X.1 X.2.1 dX8_linksAt_0 (by decide) ?_
  refine lv_istore_n (lv' := [(2, .int (0 : Int32)), (0, .ref (h (24 + 5 * d))), (1, .int x1)]) X.1 X.2.1 dX8_linksAt_1 rfl hl (by decide) rfl (fun ls hl => ?_)
  refine lv_iconst (v := 0) X.1 X.2.1 dX8_linksAt_2 (by decide) ?_
  refine lv_istore_n (lv' := [(3, .int (0 : Int32)), (2, .int (0 : Int32)), (0, .ref (h (24 + 5 * d))), (1, .int x1)]) X.1 X.2.1 dX8_linksAt_3 rfl hl (by decide) rfl (fun ls hl => ?_)
  replace hm := ob_e hm
  obtain ⟨j_3, hL_9, hm⟩ := hm
  have J_8 : ∀ (H : Heap) (locs : List Loc) (ls : Array Slot), Wd g 79 h (cC g h (b, va_up w d t)) s H locs → lv_has ls 4 [(2, .int j_3)] → W p l e (rW 1 21) s m AV below meth c H locs 0 0 Q (F0 m 50 ls []) := by
    intro H locs ls hw hl
    refine lv_iload_n X.1 X.2.1 dX8_linksAt_50 rfl (lv_at hl 0 rfl) ?_
    obtain rfl := Option.some.inj hm
    exact hret _ _ _ _ hw dX8_linksAt_51
  refine vLoop_ind (B := (m_X8_linksAt_L4 x1 t)) (fun σ => ∀ (H : Heap) (locs : List Loc) (ls : Array Slot), Wd g 79 h (cC g h (b, va_up w d t)) s H locs → lv_has ls 4 [(0, .ref (h (24 + 5 * d))), (1, .int x1), (2, .int σ.1), (3, .int σ.2)] → W p l e (rW 1 21) s m AV below meth c H locs 0 0 Q (F0 m 4 ls [])) (fun z' => z' = j_3) ?_ FUEL _ _ hL_9 rfl _ _ _ hw (lv_sub hl [2, 3, 1, 0] rfl)
  intro σ z_7 hz_4 hn_5 hx_6
  obtain ⟨y_1, y_2⟩ := σ
  intro H locs ls hw hl
  replace hw : Wd g 79 h (cC g h (b, va_up w d t)) s H locs := hw
  replace hl : lv_has ls 4 [(0, .ref (h (24 + 5 * d))), (1, .int x1), (2, .int y_1), (3, .int y_2)] := hl
  unfold m_X8_linksAt_L4 at hz_4
  replace hz_4 := un_e hz_4
  refine lv_iload_n X.1 X.2.1 dX8_linksAt_4 rfl (lv_at hl 3 rfl) ?_
  refine lv_bipush (v := 10) X.1 X.2.1 dX8_linksAt_5 (by decide) ?_
  refine lv_icmp_ge (tgt := 50) X.1 X.2.1 dX8_linksAt_7 (by decide) (fun c_11 => ?_) (fun c_11 => ?_)
  · replace hz_4 := it_p hz_4 c_11
    obtain rfl := hx_6 _ (Option.some.inj hz_4).symm
    exact J_8 _ _ _ hw (lv_sub hl [2] rfl)
  · replace hz_4 := it_n hz_4 c_11
    refine lv_aload_n X.1 X.2.1 dX8_linksAt_10 rfl (lv_at hl 0 rfl) ?_
    refine lv_iload_n X.1 X.2.1 dX8_linksAt_11 rfl (lv_at hl 3 rfl) ?_
    replace hz_4 := ob_e hz_4
    obtain ⟨r_13, h_12, hz_4⟩ := hz_4
    refine k_Vi (k := (24 + 5 * d)) (As := [.int y_2]) X hl.1 hw (c_X8_isThere hd h_12) (by omega) (he_X8 g h _ _ _) rfl ⟨wq_16_10, wq_16_11, wq_16_12, wq_4_6, wq_16_13⟩ yo_X8_isThere rfl ⟨Nat.le_of_ble_eq_true rfl, Nat.le_of_ble_eq_true rfl⟩ (Nat.le_of_ble_eq_true rfl) dX8_linksAt_12 (fun H locs hw => ?_)
    refine lv_if_eq (tgt := 44) X.1 X.2.1 dX8_linksAt_15 (by decide) (fun c_14 => ?_) (fun c_14 => ?_)
    · replace hz_4 := it_p hz_4 c_14
      obtain ⟨x_15, ex_15⟩ : ∃ y : Int32, y = y_2 + 1 := ⟨_, rfl⟩
      replace hz_4 := lt_e hz_4 ex_15
      refine lv_iinc (v := x_15) (lv' := [(3, .int x_15), (0, .ref (h (24 + 5 * d))), (1, .int x1), (2, .int y_1)]) X.1 X.2.1 dX8_linksAt_44 hl (k := 3) rfl (by rw [ex_15]; rfl) (by decide) rfl (fun ls hl => ?_)
      refine lv_goto (tgt := 4) X.1 X.2.1 dX8_linksAt_47 (by decide) ?_
      exact hn_5 _ (Option.some.inj hz_4).symm _ _ _ hw (lv_sub hl [1, 2, 3, 0] rfl)
    · replace hz_4 := it_n hz_4 c_14
      refine lv_aload_n X.1 X.2.1 dX8_linksAt_18 rfl (lv_at hl 0 rfl) ?_
      refine gX8_nears hd X hw wq_4_10 dX8_linksAt_19 ?_
      refine lv_iload_n X.1 X.2.1 dX8_linksAt_22 rfl (lv_at hl 3 rfl) ?_
      replace hz_4 := gd_e hz_4
      obtain ⟨g_16, hz_4⟩ := hz_4
      refine lTA0 hd X hw g_16 dX8_linksAt_23 ?_
      refine lv_iload_n X.1 X.2.1 dX8_linksAt_24 rfl (lv_at hl 1 rfl) ?_
      refine lv_icmp_eq (tgt := 38) X.1 X.2.1 dX8_linksAt_25 (by decide) (fun c_17 => ?_) (fun c_17 => ?_)
      · replace hz_4 := it_p hz_4 c_17
        refine lv_iload_n X.1 X.2.1 dX8_linksAt_38 rfl (lv_at hl 2 rfl) ?_
        refine lv_iconst (v := 1) X.1 X.2.1 dX8_linksAt_39 (by decide) ?_
        refine lv_iload_n X.1 X.2.1 dX8_linksAt_40 rfl (lv_at hl 3 rfl) ?_
        refine lv_ishl X.1 X.2.1 dX8_linksAt_41 ?_
        refine lv_ior X.1 X.2.1 dX8_linksAt_42 ?_
        refine lv_topi (fun x_18 ex_18 => ?_)
        replace hz_4 := lt_e hz_4 ex_18
        refine lv_istore_n (lv' := [(2, .int x_18), (0, .ref (h (24 + 5 * d))), (1, .int x1), (3, .int y_2)]) X.1 X.2.1 dX8_linksAt_43 rfl hl (by decide) rfl (fun ls hl => ?_)
        obtain ⟨x_19, ex_19⟩ : ∃ y : Int32, y = y_2 + 1 := ⟨_, rfl⟩
        replace hz_4 := lt_e hz_4 ex_19
        refine lv_iinc (v := x_19) (lv' := [(3, .int x_19), (2, .int x_18), (0, .ref (h (24 + 5 * d))), (1, .int x1)]) X.1 X.2.1 dX8_linksAt_44 hl (k := 3) rfl (by rw [ex_19]; rfl) (by decide) rfl (fun ls hl => ?_)
        refine lv_goto (tgt := 4) X.1 X.2.1 dX8_linksAt_47 (by decide) ?_
        exact hn_5 _ (Option.some.inj hz_4).symm _ _ _ hw (lv_sub hl [2, 3, 1, 0] rfl)
      · replace hz_4 := it_n hz_4 c_17
        refine lv_aload_n X.1 X.2.1 dX8_linksAt_28 rfl (lv_at hl 0 rfl) ?_
        refine gX8_fars hd X hw wq_4_11 dX8_linksAt_29 ?_
        refine lv_iload_n X.1 X.2.1 dX8_linksAt_32 rfl (lv_at hl 3 rfl) ?_
        replace hz_4 := gd_e hz_4
        obtain ⟨g_20, hz_4⟩ := hz_4
        refine lTA1 hd X hw g_20 dX8_linksAt_33 ?_
        refine lv_iload_n X.1 X.2.1 dX8_linksAt_34 rfl (lv_at hl 1 rfl) ?_
        refine lv_icmp_ne (tgt := 44) X.1 X.2.1 dX8_linksAt_35 (by decide) (fun c_21 => ?_) (fun c_21 => ?_)
        · replace hz_4 := it_n hz_4 c_21
          obtain ⟨x_22, ex_22⟩ : ∃ y : Int32, y = y_2 + 1 := ⟨_, rfl⟩
          replace hz_4 := lt_e hz_4 ex_22
          refine lv_iinc (v := x_22) (lv' := [(3, .int x_22), (0, .ref (h (24 + 5 * d))), (1, .int x1), (2, .int y_1)]) X.1 X.2.1 dX8_linksAt_44 hl (k := 3) rfl (by rw [ex_22]; rfl) (by decide) rfl (fun ls hl => ?_)
          refine lv_goto (tgt := 4) X.1 X.2.1 dX8_linksAt_47 (by decide) ?_
          exact hn_5 _ (Option.some.inj hz_4).symm _ _ _ hw (lv_sub hl [1, 2, 3, 0] rfl)
        · replace hz_4 := it_p hz_4 c_21
          refine lv_iload_n X.1 X.2.1 dX8_linksAt_38 rfl (lv_at hl 2 rfl) ?_
          refine lv_iconst (v := 1) X.1 X.2.1 dX8_linksAt_39 (by decide) ?_
          refine lv_iload_n X.1 X.2.1 dX8_linksAt_40 rfl (lv_at hl 3 rfl) ?_
          refine lv_ishl X.1 X.2.1 dX8_linksAt_41 ?_
          refine lv_ior X.1 X.2.1 dX8_linksAt_42 ?_
          refine lv_topi (fun x_23 ex_23 => ?_)
          replace hz_4 := lt_e hz_4 ex_23
          refine lv_istore_n (lv' := [(2, .int x_23), (0, .ref (h (24 + 5 * d))), (1, .int x1), (3, .int y_2)]) X.1 X.2.1 dX8_linksAt_43 rfl hl (by decide) rfl (fun ls hl => ?_)
          obtain ⟨x_24, ex_24⟩ : ∃ y : Int32, y = y_2 + 1 := ⟨_, rfl⟩
          replace hz_4 := lt_e hz_4 ex_24
          refine lv_iinc (v := x_24) (lv' := [(3, .int x_24), (2, .int x_23), (0, .ref (h (24 + 5 * d))), (1, .int x1)]) X.1 X.2.1 dX8_linksAt_44 hl (k := 3) rfl (by rw [ex_24]; rfl) (by decide) rfl (fun ls hl => ?_)
          refine lv_goto (tgt := 4) X.1 X.2.1 dX8_linksAt_47 (by decide) ?_
          exact hn_5 _ (Option.some.inj hz_4).symm _ _ _ hw (lv_sub hl [2, 3, 1, 0] rfl)
theorem c_X8_linksAt_c {l : Launch} {g : gT} {h : Nat → Nat} {b : ST} {w : Nat → ST} {d : Nat} {x1 : Int32} {r : Int32} (hd : d < 11) (hm : m_X8_linksAt (w d) x1 = some r) : MetI l g yX8_linksAt cX8_linksAt 4 (some .int) 1 21 79 h (cC g h (b, w)) (cC g h (b, w)) [.ref (h (24 + 5 * d)), .int x1] r := by
  have hc := c_X8_linksAt (l := l) (g := g) (h := h) (b := b) (w := w) hd hm
  rw [up_self] at hc
  exact hc
theorem c_X8_linksAt_o {l : Launch} {g : gT} {h : Nat → Nat} {b : ST} {w : Nat → ST} {d k : Nat} {t o : ST} {x1 : Int32} {r : Int32} (hd : d < 11) (hk : k ≠ d) (hk11 : k < 11) (ho : w k = o) (hm : m_X8_linksAt o x1 = some r) : MetI l g yX8_linksAt cX8_linksAt 4 (some .int) 1 21 79 h (cC g h (b, va_up w d t)) (cC g h (b, va_up w d t)) [.ref (h (24 + 5 * k)), .int x1] r := by
  subst ho
  have hc := c_X8_linksAt (l := l) (g := g) (h := h) (b := b) (w := va_up w d t) hk11 hm
  rw [up_other _ _ _ _ hk] at hc
  exact hc
def m_X8_dropEnd_L5 (t : ST) (σ : Int32 × Int32) : Option ((Int32 × Int32) ⊕ (Int32)) := (fun (q_31 : Int32 × Int32) => un q_31 (fun y_1 y_2 => if (7 : Int32) ≤ y_2 then some (.inr y_1) else Option.bind (m_X8_linksAt t y_2) (fun (r_18 : Int32) => Option.bind (m_X8_isWanted t y_2) (fun (r_20 : Int32) => if r_20 = 0 then Option.bind (m_J6_bitCount_0f7a4 r_18) (fun (r_24 : Int32) => if r_24 = (1 : Int32) then Option.bind (m_J6_numberOfTrailingZeros_0f7a4 r_18) (fun (r_27 : Int32) => lt (if r_27 < y_1 then r_27 else y_1) (fun x_28 => lt (y_2 + 1) (fun x_29 => some (.inl (x_28, x_29))))) else lt (y_2 + 1) (fun x_30 => some (.inl (y_1, x_30)))) else lt (y_2 + 1) (fun x_22 => some (.inl (y_1, x_22))))))) σ
def m_X8_dropEnd (t : ST) : Option (Int32 × ST) := Option.bind (vLoop (m_X8_dropEnd_L5 t) FUEL ((10 : Int32), (0 : Int32))) (fun (j_3 : Int32) => if j_3 < (10 : Int32) then lt ((t.1 0) &&& (((1 : Int32) <<< (j_3 &&& 31)) ^^^ (-1 : Int32))) (fun x_5 => lt (wI t 0 x_5) (fun t_6 => some ((1 : Int32), t_6))) else some ((0 : Int32), t))
theorem yo_X8_dropEnd : yX8_dropEnd.cls = RX8 ∧ yX8_dropEnd.cls ≠ "java/lang/invoke/MethodHandle" ∧ yX8_dropEnd.cls ≠ "java/lang/invoke/VarHandle" ∧ (parseMethodDescriptor yX8_dropEnd.desc).map (fun d => d.parameters.length) = some 0 := by decide +kernel
set_option maxHeartbeats 4000000 in
set_option maxRecDepth 100000 in
theorem c_X8_dropEnd {l : Launch} {g : gT} {h : Nat → Nat} {b : ST} {w : Nat → ST} {d : Nat} {t : ST} {r : Int32} {t' : ST} (hd : d < 11) (hm : m_X8_dropEnd t = some (r, t')) : MetI l g yX8_dropEnd cX8_dropEnd 4 (some .boolean) 2 44 79 h (cC g h (b, va_up w d t)) (cC g h (b, va_up w d t')) [.ref (h (24 + 5 * d))] r := by
  refine MetZ.ofX (by decide +kernel) (Nat.le_of_ble_eq_true rfl) ?_
  intro p e s m below meth c AV Q X hret ls hw hl
  replace X : Cx g p s m AV c cX8_dropEnd RX8 4 := X
  replace hl : lv_has ls 4 [(0, .ref (h (24 + 5 * d)))] := hl
  unfold m_X8_dropEnd at hm
  refine lv_bipush (v := 10) X.1 X.2.1 dX8_dropEnd_0 (by decide) ?_
  refine lv_istore_n (lv' := [(1, .int (10 : Int32)), (0, .ref (h (24 + 5 * d)))]) X.1 X.2.1 dX8_dropEnd_2 rfl hl (by decide) rfl (fun ls hl => ?_)
  refine lv_iconst (v := 0) X.1 X.2.1 dX8_dropEnd_3 (by decide) ?_
  refine lv_istore_n (lv' := [(2, .int (0 : Int32)), (1, .int (10 : Int32)), (0, .ref (h (24 + 5 * d)))]) X.1 X.2.1 dX8_dropEnd_4 rfl hl (by decide) rfl (fun ls hl => ?_)
  replace hm := ob_e hm
  obtain ⟨j_3, hL_14, hm⟩ := hm
  have J_13 : ∀ (H : Heap) (locs : List Loc) (ls : Array Slot), Wd g 79 h (cC g h (b, va_up w d t)) s H locs → lv_has ls 4 [(0, .ref (h (24 + 5 * d))), (1, .int j_3)] → W p l e (rW 2 44) s m AV below meth c H locs 0 0 Q (F0 m 51 ls []) := by
    intro H locs ls hw hl
    refine lv_iload_n X.1 X.2.1 dX8_dropEnd_51 rfl (lv_at hl 1 rfl) ?_
    refine lv_bipush (v := 10) X.1 X.2.1 dX8_dropEnd_52 (by decide) ?_
    refine lv_icmp_lt (tgt := 59) X.1 X.2.1 dX8_dropEnd_54 (by decide) (fun c_4 => ?_) (fun c_4 => ?_)
    · replace hm := it_p hm c_4
      refine lv_aload_n X.1 X.2.1 dX8_dropEnd_59 rfl (lv_at hl 0 rfl) ?_
      refine lv_dup X.1 X.2.1 dX8_dropEnd_60 rfl ?_
      refine gX8_links hd X hw wq_15_7 dX8_dropEnd_61 ?_
      refine lv_iconst (v := 1) X.1 X.2.1 dX8_dropEnd_64 (by decide) ?_
      refine lv_iload_n X.1 X.2.1 dX8_dropEnd_65 rfl (lv_at hl 1 rfl) ?_
      refine lv_ishl X.1 X.2.1 dX8_dropEnd_66 ?_
      refine lv_iconst (v := -1) X.1 X.2.1 dX8_dropEnd_67 (by decide) ?_
      refine lv_ixor X.1 X.2.1 dX8_dropEnd_68 ?_
      refine lv_iand X.1 X.2.1 dX8_dropEnd_69 ?_
      refine lv_topi (fun x_5 ex_5 => ?_)
      replace hm := lt_e hm ex_5
      refine pX8_links hd X hw wq_15_7 dX8_dropEnd_70 (fun H locs hw => ?_)
      obtain ⟨t_6, et_6⟩ : ∃ y, y = wI t 0 x_5 := ⟨_, rfl⟩
      rw [← et_6] at hw
      replace hm := lt_e hm et_6
      refine lv_iconst (v := 1) X.1 X.2.1 dX8_dropEnd_73 (by decide) ?_
      obtain ⟨rfl, rfl⟩ := Prod.mk.inj (Option.some.inj hm)
      exact hret _ _ _ _ hw dX8_dropEnd_74 (Or.inr rfl)
    · replace hm := it_n hm c_4
      refine lv_iconst (v := 0) X.1 X.2.1 dX8_dropEnd_57 (by decide) ?_
      obtain ⟨rfl, rfl⟩ := Prod.mk.inj (Option.some.inj hm)
      exact hret _ _ _ _ hw dX8_dropEnd_58 (Or.inl rfl)
  refine vLoop_ind (B := (m_X8_dropEnd_L5 t)) (fun σ => ∀ (H : Heap) (locs : List Loc) (ls : Array Slot), Wd g 79 h (cC g h (b, va_up w d t)) s H locs → lv_has ls 4 [(0, .ref (h (24 + 5 * d))), (1, .int σ.1), (2, .int σ.2)] → W p l e (rW 2 44) s m AV below meth c H locs 0 0 Q (F0 m 5 ls [])) (fun z' => z' = j_3) ?_ FUEL _ _ hL_14 rfl _ _ _ hw (lv_sub hl [2, 1, 0] rfl)
  intro σ z_12 hz_9 hn_10 hx_11
  obtain ⟨y_1, y_2⟩ := σ
  intro H locs ls hw hl
  replace hw : Wd g 79 h (cC g h (b, va_up w d t)) s H locs := hw
  replace hl : lv_has ls 4 [(0, .ref (h (24 + 5 * d))), (1, .int y_1), (2, .int y_2)] := hl
  unfold m_X8_dropEnd_L5 at hz_9
  replace hz_9 := un_e hz_9
  refine lv_iload_n X.1 X.2.1 dX8_dropEnd_5 rfl (lv_at hl 2 rfl) ?_
  refine lv_bipush (v := 7) X.1 X.2.1 dX8_dropEnd_6 (by decide) ?_
  refine lv_icmp_ge (tgt := 51) X.1 X.2.1 dX8_dropEnd_8 (by decide) (fun c_16 => ?_) (fun c_16 => ?_)
  · replace hz_9 := it_p hz_9 c_16
    obtain rfl := hx_11 _ (Option.some.inj hz_9).symm
    exact J_13 _ _ _ hw (lv_sub hl [0, 1] rfl)
  · replace hz_9 := it_n hz_9 c_16
    refine lv_aload_n X.1 X.2.1 dX8_dropEnd_11 rfl (lv_at hl 0 rfl) ?_
    refine lv_iload_n X.1 X.2.1 dX8_dropEnd_12 rfl (lv_at hl 2 rfl) ?_
    replace hz_9 := ob_e hz_9
    obtain ⟨r_18, h_17, hz_9⟩ := hz_9
    refine k_Vi (k := (24 + 5 * d)) (As := [.int y_2]) X hl.1 hw (c_X8_linksAt hd h_17) (by omega) (he_X8 g h _ _ _) rfl ⟨wq_17_3, wq_17_4, wq_17_5, wq_4_6, wq_17_6⟩ yo_X8_linksAt rfl ⟨Nat.le_of_ble_eq_true rfl, Nat.le_of_ble_eq_true rfl⟩ (Nat.le_of_ble_eq_true rfl) dX8_dropEnd_13 (fun H locs hw => ?_)
    refine lv_istore_n (lv' := [(3, .int r_18), (0, .ref (h (24 + 5 * d))), (1, .int y_1), (2, .int y_2)]) X.1 X.2.1 dX8_dropEnd_16 rfl hl (by decide) rfl (fun ls hl => ?_)
    refine lv_aload_n X.1 X.2.1 dX8_dropEnd_17 rfl (lv_at hl 1 rfl) ?_
    refine lv_iload_n X.1 X.2.1 dX8_dropEnd_18 rfl (lv_at hl 3 rfl) ?_
    replace hz_9 := ob_e hz_9
    obtain ⟨r_20, h_19, hz_9⟩ := hz_9
    refine k_Vi (k := (24 + 5 * d)) (As := [.int y_2]) X hl.1 hw (c_X8_isWanted hd h_19) (by omega) (he_X8 g h _ _ _) rfl ⟨wq_17_7, wq_17_8, wq_17_9, wq_4_6, wq_17_10⟩ yo_X8_isWanted rfl ⟨Nat.le_of_ble_eq_true rfl, Nat.le_of_ble_eq_true rfl⟩ (Nat.le_of_ble_eq_true rfl) dX8_dropEnd_19 (fun H locs hw => ?_)
    refine lv_if_ne (tgt := 45) X.1 X.2.1 dX8_dropEnd_22 (by decide) (fun c_21 => ?_) (fun c_21 => ?_)
    · replace hz_9 := it_n hz_9 c_21
      obtain ⟨x_22, ex_22⟩ : ∃ y : Int32, y = y_2 + 1 := ⟨_, rfl⟩
      replace hz_9 := lt_e hz_9 ex_22
      refine lv_iinc (v := x_22) (lv' := [(2, .int x_22), (3, .int r_18), (0, .ref (h (24 + 5 * d))), (1, .int y_1)]) X.1 X.2.1 dX8_dropEnd_45 hl (k := 3) rfl (by rw [ex_22]; rfl) (by decide) rfl (fun ls hl => ?_)
      refine lv_goto (tgt := 5) X.1 X.2.1 dX8_dropEnd_48 (by decide) ?_
      exact hn_10 _ (Option.some.inj hz_9).symm _ _ _ hw (lv_sub hl [2, 3, 0] rfl)
    · replace hz_9 := it_p hz_9 c_21
      refine lv_iload_n X.1 X.2.1 dX8_dropEnd_25 rfl (lv_at hl 0 rfl) ?_
      replace hz_9 := ob_e hz_9
      obtain ⟨r_24, h_23, hz_9⟩ := hz_9
      refine k_Si (As := [.int r_18]) X hl.1 hw (c_J6_bitCount_0f7a4 h_23) ⟨wq_17_11, wq_10_19, wq_10_20, wq_10_21⟩ yo_J6_bitCount_0f7a4 rfl ⟨Nat.le_of_ble_eq_true rfl, Nat.le_of_ble_eq_true rfl⟩ (Nat.le_of_ble_eq_true rfl) dX8_dropEnd_26 (fun H locs hw => ?_)
      refine lv_iconst (v := 1) X.1 X.2.1 dX8_dropEnd_29 (by decide) ?_
      refine lv_icmp_eq (tgt := 36) X.1 X.2.1 dX8_dropEnd_30 (by decide) (fun c_25 => ?_) (fun c_25 => ?_)
      · replace hz_9 := it_p hz_9 c_25
        refine lv_iload_n X.1 X.2.1 dX8_dropEnd_36 rfl (lv_at hl 2 rfl) ?_
        refine lv_iload_n X.1 X.2.1 dX8_dropEnd_37 rfl (lv_at hl 0 rfl) ?_
        replace hz_9 := ob_e hz_9
        obtain ⟨r_27, h_26, hz_9⟩ := hz_9
        refine k_Si (As := [.int r_18]) X hl.1 hw (c_J6_numberOfTrailingZeros_0f7a4 h_26) ⟨wq_17_12, wq_17_13, wq_10_20, wq_17_14⟩ yo_J6_numberOfTrailingZeros_0f7a4 rfl ⟨Nat.le_of_ble_eq_true rfl, Nat.le_of_ble_eq_true rfl⟩ (Nat.le_of_ble_eq_true rfl) dX8_dropEnd_38 (fun H locs hw => ?_)
        refine x_min (ws' := []) X hl.1 wq_17_2 (Nat.le_of_ble_eq_true rfl) (Nat.le_of_ble_eq_true rfl) dX8_dropEnd_41 wq_7_8 wq_7_9 wq_7_10 ?_
        refine lv_topi (fun x_28 ex_28 => ?_)
        replace hz_9 := lt_e hz_9 ex_28
        refine lv_istore_n (lv' := [(1, .int x_28), (3, .int r_18), (0, .ref (h (24 + 5 * d))), (2, .int y_2)]) X.1 X.2.1 dX8_dropEnd_44 rfl hl (by decide) rfl (fun ls hl => ?_)
        obtain ⟨x_29, ex_29⟩ : ∃ y : Int32, y = y_2 + 1 := ⟨_, rfl⟩
        replace hz_9 := lt_e hz_9 ex_29
        refine lv_iinc (v := x_29) (lv' := [(2, .int x_29), (1, .int x_28), (3, .int r_18), (0, .ref (h (24 + 5 * d)))]) X.1 X.2.1 dX8_dropEnd_45 hl (k := 3) rfl (by rw [ex_29]; rfl) (by decide) rfl (fun ls hl => ?_)
        refine lv_goto (tgt := 5) X.1 X.2.1 dX8_dropEnd_48 (by decide) ?_
        exact hn_10 _ (Option.some.inj hz_9).symm _ _ _ hw (lv_sub hl [3, 1, 0] rfl)
      · replace hz_9 := it_n hz_9 c_25
        refine lv_goto (tgt := 45) X.1 X.2.1 dX8_dropEnd_33 (by decide) ?_
        obtain ⟨x_30, ex_30⟩ : ∃ y : Int32, y = y_2 + 1 := ⟨_, rfl⟩
        replace hz_9 := lt_e hz_9 ex_30
        refine lv_iinc (v := x_30) (lv' := [(2, .int x_30), (3, .int r_18), (0, .ref (h (24 + 5 * d))), (1, .int y_1)]) X.1 X.2.1 dX8_dropEnd_45 hl (k := 3) rfl (by rw [ex_30]; rfl) (by decide) rfl (fun ls hl => ?_)
        refine lv_goto (tgt := 5) X.1 X.2.1 dX8_dropEnd_48 (by decide) ?_
        exact hn_10 _ (Option.some.inj hz_9).symm _ _ _ hw (lv_sub hl [2, 3, 0] rfl)
theorem c_X8_dropEnd_c {l : Launch} {g : gT} {h : Nat → Nat} {b : ST} {w : Nat → ST} {d : Nat} {r : Int32} {t' : ST} (hd : d < 11) (hm : m_X8_dropEnd (w d) = some (r, t')) : MetI l g yX8_dropEnd cX8_dropEnd 4 (some .boolean) 2 44 79 h (cC g h (b, w)) (cC g h (b, va_up w d t')) [.ref (h (24 + 5 * d))] r := by
  have hc := c_X8_dropEnd (l := l) (g := g) (h := h) (b := b) (w := w) hd hm
  rw [up_self] at hc
  exact hc
def m_X8_otherEnd (t : ST) (x1 : Int32) (x2 : Int32) : Option (Int32) := Option.bind (m_X8_isThere t x1) (fun (r_2 : Int32) => if r_2 = 0 then some x2 else gd (¬ (x1 < 0 ∨ 10 ≤ x1.toNatClampNeg)) (if (t.2.2.1 0 x1.toNatClampNeg) = x2 then gd (¬ (x1 < 0 ∨ 10 ≤ x1.toNatClampNeg)) (some (t.2.2.1 1 x1.toNatClampNeg)) else gd (¬ (x1 < 0 ∨ 10 ≤ x1.toNatClampNeg)) (some (t.2.2.1 0 x1.toNatClampNeg))))
theorem yo_X8_otherEnd : yX8_otherEnd.cls = RX8 ∧ yX8_otherEnd.cls ≠ "java/lang/invoke/MethodHandle" ∧ yX8_otherEnd.cls ≠ "java/lang/invoke/VarHandle" ∧ (parseMethodDescriptor yX8_otherEnd.desc).map (fun d => d.parameters.length) = some 2 := by decide +kernel
set_option maxHeartbeats 4000000 in
set_option maxRecDepth 100000 in
theorem c_X8_otherEnd {l : Launch} {g : gT} {h : Nat → Nat} {b : ST} {w : Nat → ST} {d : Nat} {t : ST} {x1 : Int32} {x2 : Int32} {r : Int32} (hd : d < 11) (hm : m_X8_otherEnd t x1 x2 = some r) : MetI l g yX8_otherEnd cX8_otherEnd 3 (some .int) 1 21 79 h (cC g h (b, va_up w d t)) (cC g h (b, va_up w d t)) [.ref (h (24 + 5 * d)), .int x1, .int x2] r := by
  refine MetI.ofX (by decide +kernel) (Nat.le_of_ble_eq_true rfl) ?_
  intro p e s m below meth c AV Q X hret ls hw hl
  replace X : Cx g p s m AV c cX8_otherEnd RX8 3 := X
  replace hl : lv_has ls 3 [(0, .ref (h (24 + 5 * d))), (1, .int x1), (2, .int x2)] := hl
  unfold m_X8_otherEnd at hm
  refine lv_aload_n X.1 X.2.1 dX8_otherEnd_0 rfl (lv_at hl 0 rfl) ?_
  refine lv_iload_n X.1 X.2.1 dX8_otherEnd_1 rfl (lv_at hl 1 rfl) ?_
  replace hm := ob_e hm
  obtain ⟨r_2, h_1, hm⟩ := hm
  refine k_Vi (k := (24 + 5 * d)) (As := [.int x1]) X hl.1 hw (c_X8_isThere hd h_1) (by omega) (he_X8 g h _ _ _) rfl ⟨wq_16_10, wq_16_11, wq_16_12, wq_4_6, wq_16_13⟩ yo_X8_isThere rfl ⟨Nat.le_of_ble_eq_true rfl, Nat.le_of_ble_eq_true rfl⟩ (Nat.le_of_ble_eq_true rfl) dX8_otherEnd_2 (fun H locs hw => ?_)
  refine lv_if_ne (tgt := 10) X.1 X.2.1 dX8_otherEnd_5 (by decide) (fun c_3 => ?_) (fun c_3 => ?_)
  · replace hm := it_n hm c_3
    refine lv_aload_n X.1 X.2.1 dX8_otherEnd_10 rfl (lv_at hl 0 rfl) ?_
    refine gX8_nears hd X hw wq_4_10 dX8_otherEnd_11 ?_
    refine lv_iload_n X.1 X.2.1 dX8_otherEnd_14 rfl (lv_at hl 1 rfl) ?_
    replace hm := gd_e hm
    obtain ⟨g_4, hm⟩ := hm
    refine lTA0 hd X hw g_4 dX8_otherEnd_15 ?_
    refine lv_iload_n X.1 X.2.1 dX8_otherEnd_16 rfl (lv_at hl 2 rfl) ?_
    refine lv_icmp_ne (tgt := 29) X.1 X.2.1 dX8_otherEnd_17 (by decide) (fun c_5 => ?_) (fun c_5 => ?_)
    · replace hm := it_n hm c_5
      refine lv_aload_n X.1 X.2.1 dX8_otherEnd_29 rfl (lv_at hl 0 rfl) ?_
      refine gX8_nears hd X hw wq_4_10 dX8_otherEnd_30 ?_
      refine lv_iload_n X.1 X.2.1 dX8_otherEnd_33 rfl (lv_at hl 1 rfl) ?_
      replace hm := gd_e hm
      obtain ⟨g_6, hm⟩ := hm
      refine lTA0 hd X hw g_6 dX8_otherEnd_34 ?_
      obtain rfl := Option.some.inj hm
      exact hret _ _ _ _ hw dX8_otherEnd_35
    · replace hm := it_p hm c_5
      refine lv_aload_n X.1 X.2.1 dX8_otherEnd_20 rfl (lv_at hl 0 rfl) ?_
      refine gX8_fars hd X hw wq_4_11 dX8_otherEnd_21 ?_
      refine lv_iload_n X.1 X.2.1 dX8_otherEnd_24 rfl (lv_at hl 1 rfl) ?_
      replace hm := gd_e hm
      obtain ⟨g_7, hm⟩ := hm
      refine lTA1 hd X hw g_7 dX8_otherEnd_25 ?_
      refine lv_goto (tgt := 35) X.1 X.2.1 dX8_otherEnd_26 (by decide) ?_
      obtain rfl := Option.some.inj hm
      exact hret _ _ _ _ hw dX8_otherEnd_35
  · replace hm := it_p hm c_3
    refine lv_iload_n X.1 X.2.1 dX8_otherEnd_8 rfl (lv_at hl 2 rfl) ?_
    obtain rfl := Option.some.inj hm
    exact hret _ _ _ _ hw dX8_otherEnd_9
theorem c_X8_otherEnd_c {l : Launch} {g : gT} {h : Nat → Nat} {b : ST} {w : Nat → ST} {d : Nat} {x1 : Int32} {x2 : Int32} {r : Int32} (hd : d < 11) (hm : m_X8_otherEnd (w d) x1 x2 = some r) : MetI l g yX8_otherEnd cX8_otherEnd 3 (some .int) 1 21 79 h (cC g h (b, w)) (cC g h (b, w)) [.ref (h (24 + 5 * d)), .int x1, .int x2] r := by
  have hc := c_X8_otherEnd (l := l) (g := g) (h := h) (b := b) (w := w) hd hm
  rw [up_self] at hc
  exact hc
theorem c_X8_otherEnd_o {l : Launch} {g : gT} {h : Nat → Nat} {b : ST} {w : Nat → ST} {d k : Nat} {t o : ST} {x1 : Int32} {x2 : Int32} {r : Int32} (hd : d < 11) (hk : k ≠ d) (hk11 : k < 11) (ho : w k = o) (hm : m_X8_otherEnd o x1 x2 = some r) : MetI l g yX8_otherEnd cX8_otherEnd 3 (some .int) 1 21 79 h (cC g h (b, va_up w d t)) (cC g h (b, va_up w d t)) [.ref (h (24 + 5 * k)), .int x1, .int x2] r := by
  subst ho
  have hc := c_X8_otherEnd (l := l) (g := g) (h := h) (b := b) (w := va_up w d t) hk11 hm
  rw [up_other _ _ _ _ hk] at hc
  exact hc
def m_X8_joinChain_L11 (t : ST) (σ : Int32 × Int32 × Int32 × Int32) : Option ((Int32 × Int32 × Int32 × Int32) ⊕ (Int32 × Int32 × Int32)) := (fun (q_62 : Int32 × Int32 × Int32 × Int32) => un q_62 (fun y_1 q_62 => un q_62 (fun y_2 q_62 => un q_62 (fun y_3 y_4 => if (7 : Int32) ≤ y_4 then some (.inr (y_1, y_2, y_3)) else Option.bind (m_X8_linksAt t y_4) (fun (r_41 : Int32) => Option.bind (m_X8_isWanted t y_4) (fun (r_43 : Int32) => if r_43 = 0 then Option.bind (m_J6_bitCount_0f7a4 r_41) (fun (r_47 : Int32) => if r_47 = (2 : Int32) then Option.bind (m_J6_numberOfTrailingZeros_0f7a4 r_41) (fun (r_50 : Int32) => lt (r_41 &&& (((1 : Int32) <<< (r_50 &&& 31)) ^^^ (-1 : Int32))) (fun x_51 => Option.bind (m_J6_numberOfTrailingZeros_0f7a4 x_51) (fun (r_53 : Int32) => if y_1 < r_50 then lt (y_4 + 1) (fun x_55 => some (.inl (y_1, y_2, y_3, x_55))) else if r_50 = y_1 then if r_53 < y_2 then lt (y_4 + 1) (fun x_59 => some (.inl (r_50, r_53, y_4, x_59))) else lt (y_4 + 1) (fun x_60 => some (.inl (y_1, y_2, y_3, x_60))) else lt (y_4 + 1) (fun x_57 => some (.inl (r_50, r_53, y_4, x_57)))))) else lt (y_4 + 1) (fun x_61 => some (.inl (y_1, y_2, y_3, x_61)))) else lt (y_4 + 1) (fun x_45 => some (.inl (y_1, y_2, y_3, x_45))))))))) σ
def m_X8_joinChain (t : ST) : Option (Int32 × ST) := Option.bind (vLoop (m_X8_joinChain_L11 t) FUEL ((10 : Int32), (10 : Int32), (0 : Int32), (0 : Int32))) (fun (q_63 : Int32 × Int32 × Int32) => un q_63 (fun j_5 q_63 => un q_63 (fun j_6 j_7 => if (10 : Int32) ≤ j_5 then some ((0 : Int32), t) else if j_6 < (10 : Int32) then Option.bind (m_X8_otherEnd t j_5 j_7) (fun (r_12 : Int32) => Option.bind (m_X8_otherEnd t j_6 j_7) (fun (r_14 : Int32) => gd (¬ (j_5 < 0 ∨ 10 ≤ j_5.toNatClampNeg)) (lt (wA t 0 j_5.toNatClampNeg r_12) (fun t_16 => gd (¬ (j_5 < 0 ∨ 10 ≤ j_5.toNatClampNeg)) (lt (wA t_16 1 j_5.toNatClampNeg r_14) (fun t_18 => gd (¬ (j_5 < 0 ∨ 10 ≤ j_5.toNatClampNeg)) (gd (¬ (j_6 < 0 ∨ 10 ≤ j_6.toNatClampNeg)) (gd (¬ (j_5 < 0 ∨ 10 ≤ j_5.toNatClampNeg)) (lt (wB t_18 0 j_5.toNatClampNeg (((t_18.2.2.2 0 j_5.toNatClampNeg) * (t_18.2.2.2 0 j_6.toNatClampNeg)))) (fun t_22 => gd (¬ (j_5 < 0 ∨ 10 ≤ j_5.toNatClampNeg)) (gd (¬ (j_6 < 0 ∨ 10 ≤ j_6.toNatClampNeg)) (gd (¬ (j_5 < 0 ∨ 10 ≤ j_5.toNatClampNeg)) (lt (wB t_22 1 j_5.toNatClampNeg (((t_22.2.2.2 1 j_5.toNatClampNeg) * (t_22.2.2.2 1 j_6.toNatClampNeg)))) (fun t_26 => lt ((t_26.1 0) &&& (((1 : Int32) <<< (j_6 &&& 31)) ^^^ (-1 : Int32))) (fun x_27 => lt (wI t_26 0 x_27) (fun t_28 => some ((1 : Int32), t_28))))))))))))))))) else some ((0 : Int32), t))))
theorem yo_X8_joinChain : yX8_joinChain.cls = RX8 ∧ yX8_joinChain.cls ≠ "java/lang/invoke/MethodHandle" ∧ yX8_joinChain.cls ≠ "java/lang/invoke/VarHandle" ∧ (parseMethodDescriptor yX8_joinChain.desc).map (fun d => d.parameters.length) = some 0 := by decide +kernel
set_option maxHeartbeats 4000000 in
set_option maxRecDepth 100000 in
theorem c_X8_joinChain {l : Launch} {g : gT} {h : Nat → Nat} {b : ST} {w : Nat → ST} {d : Nat} {t : ST} {r : Int32} {t' : ST} (hd : d < 11) (hm : m_X8_joinChain t = some (r, t')) : MetI l g yX8_joinChain cX8_joinChain 8 (some .boolean) 2 44 79 h (cC g h (b, va_up w d t)) (cC g h (b, va_up w d t')) [.ref (h (24 + 5 * d))] r := by
  refine MetZ.ofX (by decide +kernel) (Nat.le_of_ble_eq_true rfl) ?_
  intro p e s m below meth c AV Q X hret ls hw hl
  replace X : Cx g p s m AV c cX8_joinChain RX8 8 := X
  replace hl : lv_has ls 8 [(0, .ref (h (24 + 5 * d)))] := hl
  unfold m_X8_joinChain at hm
  refine lv_bipush (v := 10) X.1 X.2.1 dX8_joinChain_0 (by decide) ?_
  refine lv_istore_n (lv' := [(1, .int (10 : Int32)), (0, .ref (h (24 + 5 * d)))]) X.1 X.2.1 dX8_joinChain_2 rfl hl (by decide) rfl (fun ls hl => ?_)
  refine lv_bipush (v := 10) X.1 X.2.1 dX8_joinChain_3 (by decide) ?_
  refine lv_istore_n (lv' := [(2, .int (10 : Int32)), (1, .int (10 : Int32)), (0, .ref (h (24 + 5 * d)))]) X.1 X.2.1 dX8_joinChain_5 rfl hl (by decide) rfl (fun ls hl => ?_)
  refine lv_iconst (v := 0) X.1 X.2.1 dX8_joinChain_6 (by decide) ?_
  refine lv_istore_n (lv' := [(3, .int (0 : Int32)), (2, .int (10 : Int32)), (1, .int (10 : Int32)), (0, .ref (h (24 + 5 * d)))]) X.1 X.2.1 dX8_joinChain_7 rfl hl (by decide) rfl (fun ls hl => ?_)
  refine lv_iconst (v := 0) X.1 X.2.1 dX8_joinChain_8 (by decide) ?_
  refine lv_istore (lv' := [(4, .int (0 : Int32)), (3, .int (0 : Int32)), (2, .int (10 : Int32)), (1, .int (10 : Int32)), (0, .ref (h (24 + 5 * d)))]) X.1 X.2.1 dX8_joinChain_9 hl (by decide) rfl (fun ls hl => ?_)
  replace hm := ob_e hm
  obtain ⟨⟨j_5, j_6, j_7⟩, hL_36, hm⟩ := hm
  replace hm := un_e hm
  replace hm := un_e hm
  have J_35 : ∀ (H : Heap) (locs : List Loc) (ls : Array Slot), Wd g 79 h (cC g h (b, va_up w d t)) s H locs → lv_has ls 8 [(0, .ref (h (24 + 5 * d))), (1, .int j_5), (2, .int j_6), (3, .int j_7)] → W p l e (rW 2 44) s m AV below meth c H locs 0 0 Q (F0 m 104 ls []) := by
    intro H locs ls hw hl
    refine lv_iload_n X.1 X.2.1 dX8_joinChain_104 rfl (lv_at hl 1 rfl) ?_
    refine lv_bipush (v := 10) X.1 X.2.1 dX8_joinChain_105 (by decide) ?_
    refine lv_icmp_ge (tgt := 116) X.1 X.2.1 dX8_joinChain_107 (by decide) (fun c_8 => ?_) (fun c_8 => ?_)
    · replace hm := it_p hm c_8
      refine lv_iconst (v := 0) X.1 X.2.1 dX8_joinChain_116 (by decide) ?_
      obtain ⟨rfl, rfl⟩ := Prod.mk.inj (Option.some.inj hm)
      exact hret _ _ _ _ hw dX8_joinChain_117 (Or.inl rfl)
    · replace hm := it_n hm c_8
      refine lv_iload_n X.1 X.2.1 dX8_joinChain_110 rfl (lv_at hl 2 rfl) ?_
      refine lv_bipush (v := 10) X.1 X.2.1 dX8_joinChain_111 (by decide) ?_
      refine lv_icmp_lt (tgt := 118) X.1 X.2.1 dX8_joinChain_113 (by decide) (fun c_10 => ?_) (fun c_10 => ?_)
      · replace hm := it_p hm c_10
        refine lv_aload_n X.1 X.2.1 dX8_joinChain_118 rfl (lv_at hl 0 rfl) ?_
        refine lv_iload_n X.1 X.2.1 dX8_joinChain_119 rfl (lv_at hl 1 rfl) ?_
        refine lv_iload_n X.1 X.2.1 dX8_joinChain_120 rfl (lv_at hl 3 rfl) ?_
        replace hm := ob_e hm
        obtain ⟨r_12, h_11, hm⟩ := hm
        refine k_Vi (k := (24 + 5 * d)) (As := [.int j_5, .int j_7]) X hl.1 hw (c_X8_otherEnd hd h_11) (by omega) (he_X8 g h _ _ _) rfl ⟨wq_17_20, wq_17_21, wq_17_22, wq_4_6, wq_17_23⟩ yo_X8_otherEnd rfl ⟨Nat.le_of_ble_eq_true rfl, Nat.le_of_ble_eq_true rfl⟩ (Nat.le_of_ble_eq_true rfl) dX8_joinChain_121 (fun H locs hw => ?_)
        refine lv_istore (lv' := [(4, .int r_12), (0, .ref (h (24 + 5 * d))), (1, .int j_5), (2, .int j_6), (3, .int j_7)]) X.1 X.2.1 dX8_joinChain_124 hl (by decide) rfl (fun ls hl => ?_)
        refine lv_aload_n X.1 X.2.1 dX8_joinChain_126 rfl (lv_at hl 1 rfl) ?_
        refine lv_iload_n X.1 X.2.1 dX8_joinChain_127 rfl (lv_at hl 3 rfl) ?_
        refine lv_iload_n X.1 X.2.1 dX8_joinChain_128 rfl (lv_at hl 4 rfl) ?_
        replace hm := ob_e hm
        obtain ⟨r_14, h_13, hm⟩ := hm
        refine k_Vi (k := (24 + 5 * d)) (As := [.int j_6, .int j_7]) X hl.1 hw (c_X8_otherEnd hd h_13) (by omega) (he_X8 g h _ _ _) rfl ⟨wq_17_20, wq_17_21, wq_17_22, wq_4_6, wq_17_23⟩ yo_X8_otherEnd rfl ⟨Nat.le_of_ble_eq_true rfl, Nat.le_of_ble_eq_true rfl⟩ (Nat.le_of_ble_eq_true rfl) dX8_joinChain_129 (fun H locs hw => ?_)
        refine lv_istore (lv' := [(5, .int r_14), (4, .int r_12), (0, .ref (h (24 + 5 * d))), (1, .int j_5), (2, .int j_6), (3, .int j_7)]) X.1 X.2.1 dX8_joinChain_132 hl (by decide) rfl (fun ls hl => ?_)
        refine lv_aload_n X.1 X.2.1 dX8_joinChain_134 rfl (lv_at hl 2 rfl) ?_
        refine gX8_nears hd X hw wq_4_10 dX8_joinChain_135 ?_
        refine lv_iload_n X.1 X.2.1 dX8_joinChain_138 rfl (lv_at hl 3 rfl) ?_
        refine lv_iload X.1 X.2.1 dX8_joinChain_139 (lv_at hl 1 rfl) ?_
        replace hm := gd_e hm
        obtain ⟨g_15, hm⟩ := hm
        refine sTA0 hd X hw g_15 dX8_joinChain_141 (fun H locs hw => ?_)
        obtain ⟨t_16, et_16⟩ : ∃ y, y = wA t 0 j_5.toNatClampNeg r_12 := ⟨_, rfl⟩
        rw [← et_16] at hw
        replace hm := lt_e hm et_16
        refine lv_aload_n X.1 X.2.1 dX8_joinChain_142 rfl (lv_at hl 2 rfl) ?_
        refine gX8_fars hd X hw wq_4_11 dX8_joinChain_143 ?_
        refine lv_iload_n X.1 X.2.1 dX8_joinChain_146 rfl (lv_at hl 3 rfl) ?_
        refine lv_iload X.1 X.2.1 dX8_joinChain_147 (lv_at hl 0 rfl) ?_
        replace hm := gd_e hm
        obtain ⟨g_17, hm⟩ := hm
        refine sTA1 hd X hw g_17 dX8_joinChain_149 (fun H locs hw => ?_)
        obtain ⟨t_18, et_18⟩ : ∃ y, y = wA t_16 1 j_5.toNatClampNeg r_14 := ⟨_, rfl⟩
        rw [← et_18] at hw
        replace hm := lt_e hm et_18
        refine lv_aload_n X.1 X.2.1 dX8_joinChain_150 rfl (lv_at hl 2 rfl) ?_
        refine gX8_aboves hd X hw wq_4_12 dX8_joinChain_151 ?_
        refine lv_iload_n X.1 X.2.1 dX8_joinChain_154 rfl (lv_at hl 3 rfl) ?_
        refine lv_dup2_11 X.1 X.2.1 dX8_joinChain_155 rfl rfl ?_
        replace hm := gd_e hm
        obtain ⟨g_19, hm⟩ := hm
        refine lTB0 hd X hw g_19 dX8_joinChain_156 ?_
        refine lv_aload_n X.1 X.2.1 dX8_joinChain_157 rfl (lv_at hl 2 rfl) ?_
        refine gX8_aboves hd X hw wq_4_12 dX8_joinChain_158 ?_
        refine lv_iload_n X.1 X.2.1 dX8_joinChain_161 rfl (lv_at hl 4 rfl) ?_
        replace hm := gd_e hm
        obtain ⟨g_20, hm⟩ := hm
        refine lTB0 hd X hw g_20 dX8_joinChain_162 ?_
        refine lv_lmul X.1 X.2.1 dX8_joinChain_163 ?_
        replace hm := gd_e hm
        obtain ⟨g_21, hm⟩ := hm
        refine sTB0 hd X hw g_21 dX8_joinChain_164 (fun H locs hw => ?_)
        obtain ⟨t_22, et_22⟩ : ∃ y, y = wB t_18 0 j_5.toNatClampNeg (((t_18.2.2.2 0 j_5.toNatClampNeg) * (t_18.2.2.2 0 j_6.toNatClampNeg))) := ⟨_, rfl⟩
        rw [← et_22] at hw
        replace hm := lt_e hm et_22
        refine lv_aload_n X.1 X.2.1 dX8_joinChain_165 rfl (lv_at hl 2 rfl) ?_
        refine gX8_belows hd X hw wq_4_13 dX8_joinChain_166 ?_
        refine lv_iload_n X.1 X.2.1 dX8_joinChain_169 rfl (lv_at hl 3 rfl) ?_
        refine lv_dup2_11 X.1 X.2.1 dX8_joinChain_170 rfl rfl ?_
        replace hm := gd_e hm
        obtain ⟨g_23, hm⟩ := hm
        refine lTB1 hd X hw g_23 dX8_joinChain_171 ?_
        refine lv_aload_n X.1 X.2.1 dX8_joinChain_172 rfl (lv_at hl 2 rfl) ?_
        refine gX8_belows hd X hw wq_4_13 dX8_joinChain_173 ?_
        refine lv_iload_n X.1 X.2.1 dX8_joinChain_176 rfl (lv_at hl 4 rfl) ?_
        replace hm := gd_e hm
        obtain ⟨g_24, hm⟩ := hm
        refine lTB1 hd X hw g_24 dX8_joinChain_177 ?_
        refine lv_lmul X.1 X.2.1 dX8_joinChain_178 ?_
        replace hm := gd_e hm
        obtain ⟨g_25, hm⟩ := hm
        refine sTB1 hd X hw g_25 dX8_joinChain_179 (fun H locs hw => ?_)
        obtain ⟨t_26, et_26⟩ : ∃ y, y = wB t_22 1 j_5.toNatClampNeg (((t_22.2.2.2 1 j_5.toNatClampNeg) * (t_22.2.2.2 1 j_6.toNatClampNeg))) := ⟨_, rfl⟩
        rw [← et_26] at hw
        replace hm := lt_e hm et_26
        refine lv_aload_n X.1 X.2.1 dX8_joinChain_180 rfl (lv_at hl 2 rfl) ?_
        refine lv_dup X.1 X.2.1 dX8_joinChain_181 rfl ?_
        refine gX8_links hd X hw wq_15_7 dX8_joinChain_182 ?_
        refine lv_iconst (v := 1) X.1 X.2.1 dX8_joinChain_185 (by decide) ?_
        refine lv_iload_n X.1 X.2.1 dX8_joinChain_186 rfl (lv_at hl 4 rfl) ?_
        refine lv_ishl X.1 X.2.1 dX8_joinChain_187 ?_
        refine lv_iconst (v := -1) X.1 X.2.1 dX8_joinChain_188 (by decide) ?_
        refine lv_ixor X.1 X.2.1 dX8_joinChain_189 ?_
        refine lv_iand X.1 X.2.1 dX8_joinChain_190 ?_
        refine lv_topi (fun x_27 ex_27 => ?_)
        replace hm := lt_e hm ex_27
        refine pX8_links hd X hw wq_15_7 dX8_joinChain_191 (fun H locs hw => ?_)
        obtain ⟨t_28, et_28⟩ : ∃ y, y = wI t_26 0 x_27 := ⟨_, rfl⟩
        rw [← et_28] at hw
        replace hm := lt_e hm et_28
        refine lv_iconst (v := 1) X.1 X.2.1 dX8_joinChain_194 (by decide) ?_
        obtain ⟨rfl, rfl⟩ := Prod.mk.inj (Option.some.inj hm)
        exact hret _ _ _ _ hw dX8_joinChain_195 (Or.inr rfl)
      · replace hm := it_n hm c_10
        refine lv_iconst (v := 0) X.1 X.2.1 dX8_joinChain_116 (by decide) ?_
        obtain ⟨rfl, rfl⟩ := Prod.mk.inj (Option.some.inj hm)
        exact hret _ _ _ _ hw dX8_joinChain_117 (Or.inl rfl)
  refine vLoop_ind (B := (m_X8_joinChain_L11 t)) (fun σ => ∀ (H : Heap) (locs : List Loc) (ls : Array Slot), Wd g 79 h (cC g h (b, va_up w d t)) s H locs → lv_has ls 8 [(0, .ref (h (24 + 5 * d))), (1, .int σ.1), (2, .int σ.2.1), (3, .int σ.2.2.1), (4, .int σ.2.2.2)] → W p l e (rW 2 44) s m AV below meth c H locs 0 0 Q (F0 m 11 ls [])) (fun z' => z' = (j_5, j_6, j_7)) ?_ FUEL _ _ hL_36 rfl _ _ _ hw (lv_sub hl [4, 3, 2, 1, 0] rfl)
  intro σ z_34 hz_31 hn_32 hx_33
  obtain ⟨y_1, y_2, y_3, y_4⟩ := σ
  intro H locs ls hw hl
  replace hw : Wd g 79 h (cC g h (b, va_up w d t)) s H locs := hw
  replace hl : lv_has ls 8 [(0, .ref (h (24 + 5 * d))), (1, .int y_1), (2, .int y_2), (3, .int y_3), (4, .int y_4)] := hl
  unfold m_X8_joinChain_L11 at hz_31
  replace hz_31 := un_e hz_31
  replace hz_31 := un_e hz_31
  replace hz_31 := un_e hz_31
  refine lv_iload X.1 X.2.1 dX8_joinChain_11 (lv_at hl 4 rfl) ?_
  refine lv_bipush (v := 7) X.1 X.2.1 dX8_joinChain_13 (by decide) ?_
  refine lv_icmp_ge (tgt := 104) X.1 X.2.1 dX8_joinChain_15 (by decide) (fun c_38 => ?_) (fun c_38 => ?_)
  · replace hz_31 := it_p hz_31 c_38
    obtain ⟨rfl, q_39⟩ := Prod.mk.inj (hx_33 _ (Option.some.inj hz_31).symm)
    obtain ⟨rfl, rfl⟩ := Prod.mk.inj q_39
    exact J_35 _ _ _ hw (lv_sub hl [0, 1, 2, 3] rfl)
  · replace hz_31 := it_n hz_31 c_38
    refine lv_aload_n X.1 X.2.1 dX8_joinChain_18 rfl (lv_at hl 0 rfl) ?_
    refine lv_iload X.1 X.2.1 dX8_joinChain_19 (lv_at hl 4 rfl) ?_
    replace hz_31 := ob_e hz_31
    obtain ⟨r_41, h_40, hz_31⟩ := hz_31
    refine k_Vi (k := (24 + 5 * d)) (As := [.int y_4]) X hl.1 hw (c_X8_linksAt hd h_40) (by omega) (he_X8 g h _ _ _) rfl ⟨wq_17_3, wq_17_4, wq_17_5, wq_4_6, wq_17_6⟩ yo_X8_linksAt rfl ⟨Nat.le_of_ble_eq_true rfl, Nat.le_of_ble_eq_true rfl⟩ (Nat.le_of_ble_eq_true rfl) dX8_joinChain_21 (fun H locs hw => ?_)
    refine lv_istore (lv' := [(5, .int r_41), (0, .ref (h (24 + 5 * d))), (1, .int y_1), (2, .int y_2), (3, .int y_3), (4, .int y_4)]) X.1 X.2.1 dX8_joinChain_24 hl (by decide) rfl (fun ls hl => ?_)
    refine lv_aload_n X.1 X.2.1 dX8_joinChain_26 rfl (lv_at hl 1 rfl) ?_
    refine lv_iload X.1 X.2.1 dX8_joinChain_27 (lv_at hl 5 rfl) ?_
    replace hz_31 := ob_e hz_31
    obtain ⟨r_43, h_42, hz_31⟩ := hz_31
    refine k_Vi (k := (24 + 5 * d)) (As := [.int y_4]) X hl.1 hw (c_X8_isWanted hd h_42) (by omega) (he_X8 g h _ _ _) rfl ⟨wq_17_7, wq_17_8, wq_17_9, wq_4_6, wq_17_10⟩ yo_X8_isWanted rfl ⟨Nat.le_of_ble_eq_true rfl, Nat.le_of_ble_eq_true rfl⟩ (Nat.le_of_ble_eq_true rfl) dX8_joinChain_29 (fun H locs hw => ?_)
    refine lv_if_ne (tgt := 98) X.1 X.2.1 dX8_joinChain_32 (by decide) (fun c_44 => ?_) (fun c_44 => ?_)
    · replace hz_31 := it_n hz_31 c_44
      obtain ⟨x_45, ex_45⟩ : ∃ y : Int32, y = y_4 + 1 := ⟨_, rfl⟩
      replace hz_31 := lt_e hz_31 ex_45
      refine lv_iinc (v := x_45) (lv' := [(4, .int x_45), (5, .int r_41), (0, .ref (h (24 + 5 * d))), (1, .int y_1), (2, .int y_2), (3, .int y_3)]) X.1 X.2.1 dX8_joinChain_98 hl (k := 5) rfl (by rw [ex_45]; rfl) (by decide) rfl (fun ls hl => ?_)
      refine lv_goto (tgt := 11) X.1 X.2.1 dX8_joinChain_101 (by decide) ?_
      exact hn_32 _ (Option.some.inj hz_31).symm _ _ _ hw (lv_sub hl [2, 3, 4, 5, 0] rfl)
    · replace hz_31 := it_p hz_31 c_44
      refine lv_iload X.1 X.2.1 dX8_joinChain_35 (lv_at hl 0 rfl) ?_
      replace hz_31 := ob_e hz_31
      obtain ⟨r_47, h_46, hz_31⟩ := hz_31
      refine k_Si (As := [.int r_41]) X hl.1 hw (c_J6_bitCount_0f7a4 h_46) ⟨wq_17_11, wq_10_19, wq_10_20, wq_10_21⟩ yo_J6_bitCount_0f7a4 rfl ⟨Nat.le_of_ble_eq_true rfl, Nat.le_of_ble_eq_true rfl⟩ (Nat.le_of_ble_eq_true rfl) dX8_joinChain_37 (fun H locs hw => ?_)
      refine lv_iconst (v := 2) X.1 X.2.1 dX8_joinChain_40 (by decide) ?_
      refine lv_icmp_eq (tgt := 47) X.1 X.2.1 dX8_joinChain_41 (by decide) (fun c_48 => ?_) (fun c_48 => ?_)
      · replace hz_31 := it_p hz_31 c_48
        refine lv_iload X.1 X.2.1 dX8_joinChain_47 (lv_at hl 0 rfl) ?_
        replace hz_31 := ob_e hz_31
        obtain ⟨r_50, h_49, hz_31⟩ := hz_31
        refine k_Si (As := [.int r_41]) X hl.1 hw (c_J6_numberOfTrailingZeros_0f7a4 h_49) ⟨wq_17_12, wq_17_13, wq_10_20, wq_17_14⟩ yo_J6_numberOfTrailingZeros_0f7a4 rfl ⟨Nat.le_of_ble_eq_true rfl, Nat.le_of_ble_eq_true rfl⟩ (Nat.le_of_ble_eq_true rfl) dX8_joinChain_49 (fun H locs hw => ?_)
        refine lv_istore (lv' := [(6, .int r_50), (5, .int r_41), (0, .ref (h (24 + 5 * d))), (1, .int y_1), (2, .int y_2), (3, .int y_3), (4, .int y_4)]) X.1 X.2.1 dX8_joinChain_52 hl (by decide) rfl (fun ls hl => ?_)
        refine lv_iload X.1 X.2.1 dX8_joinChain_54 (lv_at hl 1 rfl) ?_
        refine lv_iconst (v := 1) X.1 X.2.1 dX8_joinChain_56 (by decide) ?_
        refine lv_iload X.1 X.2.1 dX8_joinChain_57 (lv_at hl 0 rfl) ?_
        refine lv_ishl X.1 X.2.1 dX8_joinChain_59 ?_
        refine lv_iconst (v := -1) X.1 X.2.1 dX8_joinChain_60 (by decide) ?_
        refine lv_ixor X.1 X.2.1 dX8_joinChain_61 ?_
        refine lv_iand X.1 X.2.1 dX8_joinChain_62 ?_
        refine lv_topi (fun x_51 ex_51 => ?_)
        replace hz_31 := lt_e hz_31 ex_51
        replace hz_31 := ob_e hz_31
        obtain ⟨r_53, h_52, hz_31⟩ := hz_31
        refine k_Si (As := [.int x_51]) X hl.1 hw (c_J6_numberOfTrailingZeros_0f7a4 h_52) ⟨wq_17_12, wq_17_13, wq_10_20, wq_17_14⟩ yo_J6_numberOfTrailingZeros_0f7a4 rfl ⟨Nat.le_of_ble_eq_true rfl, Nat.le_of_ble_eq_true rfl⟩ (Nat.le_of_ble_eq_true rfl) dX8_joinChain_63 (fun H locs hw => ?_)
        refine lv_istore (lv' := [(7, .int r_53), (6, .int r_50), (5, .int r_41), (0, .ref (h (24 + 5 * d))), (1, .int y_1), (2, .int y_2), (3, .int y_3), (4, .int y_4)]) X.1 X.2.1 dX8_joinChain_66 hl (by decide) rfl (fun ls hl => ?_)
        refine lv_iload X.1 X.2.1 dX8_joinChain_68 (lv_at hl 1 rfl) ?_
        refine lv_iload_n X.1 X.2.1 dX8_joinChain_70 rfl (lv_at hl 4 rfl) ?_
        refine lv_icmp_gt (tgt := 98) X.1 X.2.1 dX8_joinChain_71 (by decide) (fun c_54 => ?_) (fun c_54 => ?_)
        · replace hz_31 := it_p hz_31 c_54
          obtain ⟨x_55, ex_55⟩ : ∃ y : Int32, y = y_4 + 1 := ⟨_, rfl⟩
          replace hz_31 := lt_e hz_31 ex_55
          refine lv_iinc (v := x_55) (lv' := [(4, .int x_55), (7, .int r_53), (6, .int r_50), (5, .int r_41), (0, .ref (h (24 + 5 * d))), (1, .int y_1), (2, .int y_2), (3, .int y_3)]) X.1 X.2.1 dX8_joinChain_98 hl (k := 7) rfl (by rw [ex_55]; rfl) (by decide) rfl (fun ls hl => ?_)
          refine lv_goto (tgt := 11) X.1 X.2.1 dX8_joinChain_101 (by decide) ?_
          exact hn_32 _ (Option.some.inj hz_31).symm _ _ _ hw (lv_sub hl [4, 5, 6, 7, 0] rfl)
        · replace hz_31 := it_n hz_31 c_54
          refine lv_iload X.1 X.2.1 dX8_joinChain_74 (lv_at hl 1 rfl) ?_
          refine lv_iload_n X.1 X.2.1 dX8_joinChain_76 rfl (lv_at hl 4 rfl) ?_
          refine lv_icmp_ne (tgt := 89) X.1 X.2.1 dX8_joinChain_77 (by decide) (fun c_56 => ?_) (fun c_56 => ?_)
          · replace hz_31 := it_n hz_31 c_56
            refine lv_iload X.1 X.2.1 dX8_joinChain_89 (lv_at hl 1 rfl) ?_
            refine lv_istore_n (lv' := [(1, .int r_50), (7, .int r_53), (6, .int r_50), (5, .int r_41), (0, .ref (h (24 + 5 * d))), (2, .int y_2), (3, .int y_3), (4, .int y_4)]) X.1 X.2.1 dX8_joinChain_91 rfl hl (by decide) rfl (fun ls hl => ?_)
            refine lv_iload X.1 X.2.1 dX8_joinChain_92 (lv_at hl 1 rfl) ?_
            refine lv_istore_n (lv' := [(2, .int r_53), (1, .int r_50), (7, .int r_53), (6, .int r_50), (5, .int r_41), (0, .ref (h (24 + 5 * d))), (3, .int y_3), (4, .int y_4)]) X.1 X.2.1 dX8_joinChain_94 rfl hl (by decide) rfl (fun ls hl => ?_)
            refine lv_iload X.1 X.2.1 dX8_joinChain_95 (lv_at hl 7 rfl) ?_
            refine lv_istore_n (lv' := [(3, .int y_4), (2, .int r_53), (1, .int r_50), (7, .int r_53), (6, .int r_50), (5, .int r_41), (0, .ref (h (24 + 5 * d))), (4, .int y_4)]) X.1 X.2.1 dX8_joinChain_97 rfl hl (by decide) rfl (fun ls hl => ?_)
            obtain ⟨x_57, ex_57⟩ : ∃ y : Int32, y = y_4 + 1 := ⟨_, rfl⟩
            replace hz_31 := lt_e hz_31 ex_57
            refine lv_iinc (v := x_57) (lv' := [(4, .int x_57), (3, .int y_4), (2, .int r_53), (1, .int r_50), (7, .int r_53), (6, .int r_50), (5, .int r_41), (0, .ref (h (24 + 5 * d)))]) X.1 X.2.1 dX8_joinChain_98 hl (k := 7) rfl (by rw [ex_57]; rfl) (by decide) rfl (fun ls hl => ?_)
            refine lv_goto (tgt := 11) X.1 X.2.1 dX8_joinChain_101 (by decide) ?_
            exact hn_32 _ (Option.some.inj hz_31).symm _ _ _ hw (lv_sub hl [7, 3, 2, 1, 0] rfl)
          · replace hz_31 := it_p hz_31 c_56
            refine lv_iload X.1 X.2.1 dX8_joinChain_80 (lv_at hl 0 rfl) ?_
            refine lv_iload_n X.1 X.2.1 dX8_joinChain_82 rfl (lv_at hl 5 rfl) ?_
            refine lv_icmp_lt (tgt := 89) X.1 X.2.1 dX8_joinChain_83 (by decide) (fun c_58 => ?_) (fun c_58 => ?_)
            · replace hz_31 := it_p hz_31 c_58
              refine lv_iload X.1 X.2.1 dX8_joinChain_89 (lv_at hl 1 rfl) ?_
              refine lv_istore_n (lv' := [(1, .int r_50), (7, .int r_53), (6, .int r_50), (5, .int r_41), (0, .ref (h (24 + 5 * d))), (2, .int y_2), (3, .int y_3), (4, .int y_4)]) X.1 X.2.1 dX8_joinChain_91 rfl hl (by decide) rfl (fun ls hl => ?_)
              refine lv_iload X.1 X.2.1 dX8_joinChain_92 (lv_at hl 1 rfl) ?_
              refine lv_istore_n (lv' := [(2, .int r_53), (1, .int r_50), (7, .int r_53), (6, .int r_50), (5, .int r_41), (0, .ref (h (24 + 5 * d))), (3, .int y_3), (4, .int y_4)]) X.1 X.2.1 dX8_joinChain_94 rfl hl (by decide) rfl (fun ls hl => ?_)
              refine lv_iload X.1 X.2.1 dX8_joinChain_95 (lv_at hl 7 rfl) ?_
              refine lv_istore_n (lv' := [(3, .int y_4), (2, .int r_53), (1, .int r_50), (7, .int r_53), (6, .int r_50), (5, .int r_41), (0, .ref (h (24 + 5 * d))), (4, .int y_4)]) X.1 X.2.1 dX8_joinChain_97 rfl hl (by decide) rfl (fun ls hl => ?_)
              obtain ⟨x_59, ex_59⟩ : ∃ y : Int32, y = y_4 + 1 := ⟨_, rfl⟩
              replace hz_31 := lt_e hz_31 ex_59
              refine lv_iinc (v := x_59) (lv' := [(4, .int x_59), (3, .int y_4), (2, .int r_53), (1, .int r_50), (7, .int r_53), (6, .int r_50), (5, .int r_41), (0, .ref (h (24 + 5 * d)))]) X.1 X.2.1 dX8_joinChain_98 hl (k := 7) rfl (by rw [ex_59]; rfl) (by decide) rfl (fun ls hl => ?_)
              refine lv_goto (tgt := 11) X.1 X.2.1 dX8_joinChain_101 (by decide) ?_
              exact hn_32 _ (Option.some.inj hz_31).symm _ _ _ hw (lv_sub hl [7, 3, 2, 1, 0] rfl)
            · replace hz_31 := it_n hz_31 c_58
              refine lv_goto (tgt := 98) X.1 X.2.1 dX8_joinChain_86 (by decide) ?_
              obtain ⟨x_60, ex_60⟩ : ∃ y : Int32, y = y_4 + 1 := ⟨_, rfl⟩
              replace hz_31 := lt_e hz_31 ex_60
              refine lv_iinc (v := x_60) (lv' := [(4, .int x_60), (7, .int r_53), (6, .int r_50), (5, .int r_41), (0, .ref (h (24 + 5 * d))), (1, .int y_1), (2, .int y_2), (3, .int y_3)]) X.1 X.2.1 dX8_joinChain_98 hl (k := 7) rfl (by rw [ex_60]; rfl) (by decide) rfl (fun ls hl => ?_)
              refine lv_goto (tgt := 11) X.1 X.2.1 dX8_joinChain_101 (by decide) ?_
              exact hn_32 _ (Option.some.inj hz_31).symm _ _ _ hw (lv_sub hl [4, 5, 6, 7, 0] rfl)
      · replace hz_31 := it_n hz_31 c_48
        refine lv_goto (tgt := 98) X.1 X.2.1 dX8_joinChain_44 (by decide) ?_
        obtain ⟨x_61, ex_61⟩ : ∃ y : Int32, y = y_4 + 1 := ⟨_, rfl⟩
        replace hz_31 := lt_e hz_31 ex_61
        refine lv_iinc (v := x_61) (lv' := [(4, .int x_61), (5, .int r_41), (0, .ref (h (24 + 5 * d))), (1, .int y_1), (2, .int y_2), (3, .int y_3)]) X.1 X.2.1 dX8_joinChain_98 hl (k := 5) rfl (by rw [ex_61]; rfl) (by decide) rfl (fun ls hl => ?_)
        refine lv_goto (tgt := 11) X.1 X.2.1 dX8_joinChain_101 (by decide) ?_
        exact hn_32 _ (Option.some.inj hz_31).symm _ _ _ hw (lv_sub hl [2, 3, 4, 5, 0] rfl)
theorem c_X8_joinChain_c {l : Launch} {g : gT} {h : Nat → Nat} {b : ST} {w : Nat → ST} {d : Nat} {r : Int32} {t' : ST} (hd : d < 11) (hm : m_X8_joinChain (w d) = some (r, t')) : MetI l g yX8_joinChain cX8_joinChain 8 (some .boolean) 2 44 79 h (cC g h (b, w)) (cC g h (b, va_up w d t')) [.ref (h (24 + 5 * d))] r := by
  have hc := c_X8_joinChain (l := l) (g := g) (h := h) (b := b) (w := w) hd hm
  rw [up_self] at hc
  exact hc
def m_X8_tidy_L2 (σ : Int32 × ST) : Option ((Int32 × ST) ⊕ (Int32 × ST)) := (fun (q_40 : Int32 × ST) => un q_40 (fun y_1 t_2 => if (10 : Int32) ≤ y_1 then some (.inr (y_1, t_2)) else Option.bind (m_X8_dropRound t_2) (fun (q_18 : Int32 × ST) => un q_18 (fun r_16 t_17 => if r_16 = 0 then Option.bind (m_X8_joinTwins t_17) (fun (q_24 : Int32 × ST) => un q_24 (fun r_22 t_23 => if r_22 = 0 then Option.bind (m_X8_dropEnd t_23) (fun (q_30 : Int32 × ST) => un q_30 (fun r_28 t_29 => if r_28 = 0 then Option.bind (m_X8_joinChain t_29) (fun (q_36 : Int32 × ST) => un q_36 (fun r_34 t_35 => if r_34 = 0 then some (.inr (y_1, t_35)) else lt (y_1 + 1) (fun x_39 => some (.inl (x_39, t_35))))) else lt (y_1 + 1) (fun x_32 => some (.inl (x_32, t_29))))) else lt (y_1 + 1) (fun x_26 => some (.inl (x_26, t_23))))) else lt (y_1 + 1) (fun x_20 => some (.inl (x_20, t_17))))))) σ
def m_X8_tidy (t : ST) : Option (Int32 × ST) := Option.bind (vLoop (m_X8_tidy_L2) FUEL ((0 : Int32), t)) (fun (q_41 : Int32 × ST) => un q_41 (fun j_3 t_4 => some (j_3, t_4)))
theorem yo_X8_tidy : yX8_tidy.cls = RX8 ∧ yX8_tidy.cls ≠ "java/lang/invoke/MethodHandle" ∧ yX8_tidy.cls ≠ "java/lang/invoke/VarHandle" ∧ (parseMethodDescriptor yX8_tidy.desc).map (fun d => d.parameters.length) = some 0 := by decide +kernel
set_option maxHeartbeats 4000000 in
set_option maxRecDepth 100000 in
theorem c_X8_tidy {l : Launch} {g : gT} {h : Nat → Nat} {b : ST} {w : Nat → ST} {d : Nat} {t : ST} {r : Int32} {t' : ST} (hd : d < 11) (hm : m_X8_tidy t = some (r, t')) : MetI l g yX8_tidy cX8_tidy 2 (some .int) 3 71 79 h (cC g h (b, va_up w d t)) (cC g h (b, va_up w d t')) [.ref (h (24 + 5 * d))] r := by
  refine MetI.ofX (by decide +kernel) (Nat.le_of_ble_eq_true rfl) ?_
  intro p e s m below meth c AV Q X hret ls hw hl
  replace X : Cx g p s m AV c cX8_tidy RX8 2 := X
  replace hl : lv_has ls 2 [(0, .ref (h (24 + 5 * d)))] := hl
  unfold m_X8_tidy at hm
  refine lv_iconst (v := 0) X.1 X.2.1 dX8_tidy_0 (by decide) ?_
  refine lv_istore_n (lv' := [(1, .int (0 : Int32)), (0, .ref (h (24 + 5 * d)))]) X.1 X.2.1 dX8_tidy_1 rfl hl (by decide) rfl (fun ls hl => ?_)
  replace hm := ob_e hm
  obtain ⟨⟨j_3, t_4⟩, hL_11, hm⟩ := hm
  replace hm := un_e hm
  have J_10 : ∀ (H : Heap) (locs : List Loc) (ls : Array Slot), Wd g 79 h (cC g h (b, va_up w d t_4)) s H locs → lv_has ls 2 [(1, .int j_3)] → W p l e (rW 3 71) s m AV below meth c H locs 0 0 Q (F0 m 42 ls []) := by
    intro H locs ls hw hl
    refine lv_iload_n X.1 X.2.1 dX8_tidy_42 rfl (lv_at hl 0 rfl) ?_
    obtain ⟨rfl, rfl⟩ := Prod.mk.inj (Option.some.inj hm)
    exact hret _ _ _ _ hw dX8_tidy_43
  refine vLoop_ind (B := (m_X8_tidy_L2)) (fun σ => ∀ (H : Heap) (locs : List Loc) (ls : Array Slot), Wd g 79 h (cC g h (b, va_up w d σ.2)) s H locs → lv_has ls 2 [(0, .ref (h (24 + 5 * d))), (1, .int σ.1)] → W p l e (rW 3 71) s m AV below meth c H locs 0 0 Q (F0 m 2 ls [])) (fun z' => z' = (j_3, t_4)) ?_ FUEL _ _ hL_11 rfl _ _ _ hw (lv_sub hl [1, 0] rfl)
  intro σ z_9 hz_6 hn_7 hx_8
  obtain ⟨y_1, t_2⟩ := σ
  intro H locs ls hw hl
  replace hw : Wd g 79 h (cC g h (b, va_up w d t_2)) s H locs := hw
  replace hl : lv_has ls 2 [(0, .ref (h (24 + 5 * d))), (1, .int y_1)] := hl
  unfold m_X8_tidy_L2 at hz_6
  replace hz_6 := un_e hz_6
  refine lv_iload_n X.1 X.2.1 dX8_tidy_2 rfl (lv_at hl 1 rfl) ?_
  refine lv_bipush (v := 10) X.1 X.2.1 dX8_tidy_3 (by decide) ?_
  refine lv_icmp_ge (tgt := 42) X.1 X.2.1 dX8_tidy_5 (by decide) (fun c_13 => ?_) (fun c_13 => ?_)
  · replace hz_6 := it_p hz_6 c_13
    obtain ⟨rfl, rfl⟩ := Prod.mk.inj (hx_8 _ (Option.some.inj hz_6).symm)
    exact J_10 _ _ _ hw (lv_sub hl [1] rfl)
  · replace hz_6 := it_n hz_6 c_13
    refine lv_aload_n X.1 X.2.1 dX8_tidy_8 rfl (lv_at hl 0 rfl) ?_
    replace hz_6 := ob_e hz_6
    obtain ⟨⟨r_16, t_17⟩, h_15, hz_6⟩ := hz_6
    replace hz_6 := un_e hz_6
    refine k_Vi (k := (24 + 5 * d)) (As := []) X hl.1 hw (c_X8_dropRound hd h_15) (by omega) (he_X8 g h _ _ _) rfl ⟨wq_16_6, wq_16_7, wq_16_8, wq_4_6, wq_16_9⟩ yo_X8_dropRound rfl ⟨Nat.le_of_ble_eq_true rfl, Nat.le_of_ble_eq_true rfl⟩ (Nat.le_of_ble_eq_true rfl) dX8_tidy_9 (fun H locs hw => ?_)
    refine lv_if_ne (tgt := 36) X.1 X.2.1 dX8_tidy_12 (by decide) (fun c_19 => ?_) (fun c_19 => ?_)
    · replace hz_6 := it_n hz_6 c_19
      obtain ⟨x_20, ex_20⟩ : ∃ y : Int32, y = y_1 + 1 := ⟨_, rfl⟩
      replace hz_6 := lt_e hz_6 ex_20
      refine lv_iinc (v := x_20) (lv' := [(1, .int x_20), (0, .ref (h (24 + 5 * d)))]) X.1 X.2.1 dX8_tidy_36 hl (k := 1) rfl (by rw [ex_20]; rfl) (by decide) rfl (fun ls hl => ?_)
      refine lv_goto (tgt := 2) X.1 X.2.1 dX8_tidy_39 (by decide) ?_
      exact hn_7 _ (Option.some.inj hz_6).symm _ _ _ hw (lv_sub hl [1, 0] rfl)
    · replace hz_6 := it_p hz_6 c_19
      refine lv_aload_n X.1 X.2.1 dX8_tidy_15 rfl (lv_at hl 0 rfl) ?_
      replace hz_6 := ob_e hz_6
      obtain ⟨⟨r_22, t_23⟩, h_21, hz_6⟩ := hz_6
      replace hz_6 := un_e hz_6
      refine k_Vi (k := (24 + 5 * d)) (As := []) X hl.1 hw (c_X8_joinTwins hd h_21) (by omega) (he_X8 g h _ _ _) rfl ⟨wq_16_14, wq_16_15, wq_16_16, wq_4_6, wq_16_17⟩ yo_X8_joinTwins rfl ⟨Nat.le_of_ble_eq_true rfl, Nat.le_of_ble_eq_true rfl⟩ (Nat.le_of_ble_eq_true rfl) dX8_tidy_16 (fun H locs hw => ?_)
      refine lv_if_ne (tgt := 36) X.1 X.2.1 dX8_tidy_19 (by decide) (fun c_25 => ?_) (fun c_25 => ?_)
      · replace hz_6 := it_n hz_6 c_25
        obtain ⟨x_26, ex_26⟩ : ∃ y : Int32, y = y_1 + 1 := ⟨_, rfl⟩
        replace hz_6 := lt_e hz_6 ex_26
        refine lv_iinc (v := x_26) (lv' := [(1, .int x_26), (0, .ref (h (24 + 5 * d)))]) X.1 X.2.1 dX8_tidy_36 hl (k := 1) rfl (by rw [ex_26]; rfl) (by decide) rfl (fun ls hl => ?_)
        refine lv_goto (tgt := 2) X.1 X.2.1 dX8_tidy_39 (by decide) ?_
        exact hn_7 _ (Option.some.inj hz_6).symm _ _ _ hw (lv_sub hl [1, 0] rfl)
      · replace hz_6 := it_p hz_6 c_25
        refine lv_aload_n X.1 X.2.1 dX8_tidy_22 rfl (lv_at hl 0 rfl) ?_
        replace hz_6 := ob_e hz_6
        obtain ⟨⟨r_28, t_29⟩, h_27, hz_6⟩ := hz_6
        replace hz_6 := un_e hz_6
        refine k_Vi (k := (24 + 5 * d)) (As := []) X hl.1 hw (c_X8_dropEnd hd h_27) (by omega) (he_X8 g h _ _ _) rfl ⟨wq_16_22, wq_16_23, wq_17_0, wq_4_6, wq_17_1⟩ yo_X8_dropEnd rfl ⟨Nat.le_of_ble_eq_true rfl, Nat.le_of_ble_eq_true rfl⟩ (Nat.le_of_ble_eq_true rfl) dX8_tidy_23 (fun H locs hw => ?_)
        refine lv_if_ne (tgt := 36) X.1 X.2.1 dX8_tidy_26 (by decide) (fun c_31 => ?_) (fun c_31 => ?_)
        · replace hz_6 := it_n hz_6 c_31
          obtain ⟨x_32, ex_32⟩ : ∃ y : Int32, y = y_1 + 1 := ⟨_, rfl⟩
          replace hz_6 := lt_e hz_6 ex_32
          refine lv_iinc (v := x_32) (lv' := [(1, .int x_32), (0, .ref (h (24 + 5 * d)))]) X.1 X.2.1 dX8_tidy_36 hl (k := 1) rfl (by rw [ex_32]; rfl) (by decide) rfl (fun ls hl => ?_)
          refine lv_goto (tgt := 2) X.1 X.2.1 dX8_tidy_39 (by decide) ?_
          exact hn_7 _ (Option.some.inj hz_6).symm _ _ _ hw (lv_sub hl [1, 0] rfl)
        · replace hz_6 := it_p hz_6 c_31
          refine lv_aload_n X.1 X.2.1 dX8_tidy_29 rfl (lv_at hl 0 rfl) ?_
          replace hz_6 := ob_e hz_6
          obtain ⟨⟨r_34, t_35⟩, h_33, hz_6⟩ := hz_6
          replace hz_6 := un_e hz_6
          refine k_Vi (k := (24 + 5 * d)) (As := []) X hl.1 hw (c_X8_joinChain hd h_33) (by omega) (he_X8 g h _ _ _) rfl ⟨wq_17_16, wq_17_17, wq_17_18, wq_4_6, wq_17_19⟩ yo_X8_joinChain rfl ⟨Nat.le_of_ble_eq_true rfl, Nat.le_of_ble_eq_true rfl⟩ (Nat.le_of_ble_eq_true rfl) dX8_tidy_30 (fun H locs hw => ?_)
          refine lv_if_eq (tgt := 42) X.1 X.2.1 dX8_tidy_33 (by decide) (fun c_37 => ?_) (fun c_37 => ?_)
          · replace hz_6 := it_p hz_6 c_37
            obtain ⟨rfl, rfl⟩ := Prod.mk.inj (hx_8 _ (Option.some.inj hz_6).symm)
            exact J_10 _ _ _ hw (lv_sub hl [1] rfl)
          · replace hz_6 := it_n hz_6 c_37
            obtain ⟨x_39, ex_39⟩ : ∃ y : Int32, y = y_1 + 1 := ⟨_, rfl⟩
            replace hz_6 := lt_e hz_6 ex_39
            refine lv_iinc (v := x_39) (lv' := [(1, .int x_39), (0, .ref (h (24 + 5 * d)))]) X.1 X.2.1 dX8_tidy_36 hl (k := 1) rfl (by rw [ex_39]; rfl) (by decide) rfl (fun ls hl => ?_)
            refine lv_goto (tgt := 2) X.1 X.2.1 dX8_tidy_39 (by decide) ?_
            exact hn_7 _ (Option.some.inj hz_6).symm _ _ _ hw (lv_sub hl [1, 0] rfl)
theorem c_X8_tidy_c {l : Launch} {g : gT} {h : Nat → Nat} {b : ST} {w : Nat → ST} {d : Nat} {r : Int32} {t' : ST} (hd : d < 11) (hm : m_X8_tidy (w d) = some (r, t')) : MetI l g yX8_tidy cX8_tidy 2 (some .int) 3 71 79 h (cC g h (b, w)) (cC g h (b, va_up w d t')) [.ref (h (24 + 5 * d))] r := by
  have hc := c_X8_tidy (l := l) (g := g) (h := h) (b := b) (w := w) hd hm
  rw [up_self] at hc
  exact hc
def m_X8_isSettled_L21 (t : ST) (σ : Int32) : Option ((Int32) ⊕ ((Unit) ⊕ (Int32 × ST))) := (fun (y_4 : Int32) => if (7 : Int32) ≤ y_4 then some (.inr (.inl ())) else Option.bind (m_X8_isWanted t y_4) (fun (r_17 : Int32) => if r_17 = 0 then lt (y_4 + 1) (fun x_19 => some (.inl x_19)) else Option.bind (m_X8_linksAt t y_4) (fun (r_21 : Int32) => if r_21 = 0 then some (.inr (.inr ((1 : Int32), t))) else lt (y_4 + 1) (fun x_23 => some (.inl x_23))))) σ
def m_X8_isSettled (t : ST) : Option (Int32 × ST) := Option.bind (m_J6_bitCount_0f7a4 (t.1 1)) (fun (r_2 : Int32) => if r_2 = (1 : Int32) then Option.bind (m_X8_answer t (1 : Int64) (1 : Int64)) (fun (t_29 : ST) => some ((1 : Int32), t_29)) else Option.bind (vLoop (m_X8_isSettled_L21 t) FUEL (0 : Int32)) (fun z => ex z (fun (_ : Unit) => if (t.1 0) = 0 then some ((1 : Int32), t) else some ((0 : Int32), t)) (fun r_26 => some r_26)))
theorem yo_X8_isSettled : yX8_isSettled.cls = RX8 ∧ yX8_isSettled.cls ≠ "java/lang/invoke/MethodHandle" ∧ yX8_isSettled.cls ≠ "java/lang/invoke/VarHandle" ∧ (parseMethodDescriptor yX8_isSettled.desc).map (fun d => d.parameters.length) = some 0 := by decide +kernel
set_option maxHeartbeats 4000000 in
set_option maxRecDepth 100000 in
theorem c_X8_isSettled {l : Launch} {g : gT} {h : Nat → Nat} {b : ST} {w : Nat → ST} {d : Nat} {t : ST} {r : Int32} {t' : ST} (hd : d < 11) (hm : m_X8_isSettled t = some (r, t')) : MetI l g yX8_isSettled cX8_isSettled 2 (some .boolean) 2 44 79 h (cC g h (b, va_up w d t)) (cC g h (b, va_up w d t')) [.ref (h (24 + 5 * d))] r := by
  refine MetZ.ofX (by decide +kernel) (Nat.le_of_ble_eq_true rfl) ?_
  intro p e s m below meth c AV Q X hret ls hw hl
  replace X : Cx g p s m AV c cX8_isSettled RX8 2 := X
  replace hl : lv_has ls 2 [(0, .ref (h (24 + 5 * d)))] := hl
  unfold m_X8_isSettled at hm
  refine lv_aload_n X.1 X.2.1 dX8_isSettled_0 rfl (lv_at hl 0 rfl) ?_
  refine gX8_wanted hd X hw wq_15_8 dX8_isSettled_1 ?_
  replace hm := ob_e hm
  obtain ⟨r_2, h_1, hm⟩ := hm
  refine k_Si (As := [.int (t.1 1)]) X hl.1 hw (c_J6_bitCount_0f7a4 h_1) ⟨wq_17_11, wq_10_19, wq_10_20, wq_10_21⟩ yo_J6_bitCount_0f7a4 rfl ⟨Nat.le_of_ble_eq_true rfl, Nat.le_of_ble_eq_true rfl⟩ (Nat.le_of_ble_eq_true rfl) dX8_isSettled_4 (fun H locs hw => ?_)
  refine lv_iconst (v := 1) X.1 X.2.1 dX8_isSettled_7 (by decide) ?_
  refine lv_icmp_ne (tgt := 19) X.1 X.2.1 dX8_isSettled_8 (by decide) (fun c_3 => ?_) (fun c_3 => ?_)
  · replace hm := it_n hm c_3
    refine lv_iconst (v := 0) X.1 X.2.1 dX8_isSettled_19 (by decide) ?_
    refine lv_istore_n (lv' := [(1, .int (0 : Int32)), (0, .ref (h (24 + 5 * d)))]) X.1 X.2.1 dX8_isSettled_20 rfl hl (by decide) rfl (fun ls hl => ?_)
    replace hm := ob_e hm
    obtain ⟨z_25, hL_13, hm⟩ := hm
    have J_12 : z_25 = .inl () → ∀ (H : Heap) (locs : List Loc) (ls : Array Slot), Wd g 79 h (cC g h (b, va_up w d t)) s H locs → lv_has ls 2 [(0, .ref (h (24 + 5 * d)))] → W p l e (rW 2 44) s m AV below meth c H locs 0 0 Q (F0 m 51 ls []) := by
      intro hj
      subst hj
      replace hm := ex_l hm
      intro H locs ls hw hl
      refine lv_aload_n X.1 X.2.1 dX8_isSettled_51 rfl (lv_at hl 0 rfl) ?_
      refine gX8_links hd X hw wq_15_7 dX8_isSettled_52 ?_
      refine lv_if_ne (tgt := 62) X.1 X.2.1 dX8_isSettled_55 (by decide) (fun c_5 => ?_) (fun c_5 => ?_)
      · replace hm := it_n hm c_5
        refine lv_iconst (v := 0) X.1 X.2.1 dX8_isSettled_62 (by decide) ?_
        obtain ⟨rfl, rfl⟩ := Prod.mk.inj (Option.some.inj hm)
        exact hret _ _ _ _ hw dX8_isSettled_63 (Or.inl rfl)
      · replace hm := it_p hm c_5
        refine lv_iconst (v := 1) X.1 X.2.1 dX8_isSettled_58 (by decide) ?_
        refine lv_goto (tgt := 63) X.1 X.2.1 dX8_isSettled_59 (by decide) ?_
        obtain ⟨rfl, rfl⟩ := Prod.mk.inj (Option.some.inj hm)
        exact hret _ _ _ _ hw dX8_isSettled_63 (Or.inr rfl)
    refine vLoop_ind (B := (m_X8_isSettled_L21 t)) (fun σ => ∀ (H : Heap) (locs : List Loc) (ls : Array Slot), Wd g 79 h (cC g h (b, va_up w d t)) s H locs → lv_has ls 2 [(0, .ref (h (24 + 5 * d))), (1, .int σ)] → W p l e (rW 2 44) s m AV below meth c H locs 0 0 Q (F0 m 21 ls [])) (fun z' => z' = z_25) ?_ FUEL _ _ hL_13 rfl _ _ _ hw (lv_sub hl [1, 0] rfl)
    intro σ z_11 hz_8 hn_9 hx_10
    obtain ⟨y_4, rfl⟩ : ∃ q, q = σ := ⟨_, rfl⟩
    intro H locs ls hw hl
    replace hw : Wd g 79 h (cC g h (b, va_up w d t)) s H locs := hw
    replace hl : lv_has ls 2 [(0, .ref (h (24 + 5 * d))), (1, .int y_4)] := hl
    unfold m_X8_isSettled_L21 at hz_8
    refine lv_iload_n X.1 X.2.1 dX8_isSettled_21 rfl (lv_at hl 1 rfl) ?_
    refine lv_bipush (v := 7) X.1 X.2.1 dX8_isSettled_22 (by decide) ?_
    refine lv_icmp_ge (tgt := 51) X.1 X.2.1 dX8_isSettled_24 (by decide) (fun c_15 => ?_) (fun c_15 => ?_)
    · replace hz_8 := it_p hz_8 c_15
      have he_14 := hx_10 _ (Option.some.inj hz_8).symm
      exact J_12 he_14.symm _ _ _ hw (lv_sub hl [0] rfl)
    · replace hz_8 := it_n hz_8 c_15
      refine lv_aload_n X.1 X.2.1 dX8_isSettled_27 rfl (lv_at hl 0 rfl) ?_
      refine lv_iload_n X.1 X.2.1 dX8_isSettled_28 rfl (lv_at hl 1 rfl) ?_
      replace hz_8 := ob_e hz_8
      obtain ⟨r_17, h_16, hz_8⟩ := hz_8
      refine k_Vi (k := (24 + 5 * d)) (As := [.int y_4]) X hl.1 hw (c_X8_isWanted hd h_16) (by omega) (he_X8 g h _ _ _) rfl ⟨wq_17_7, wq_17_8, wq_17_9, wq_4_6, wq_17_10⟩ yo_X8_isWanted rfl ⟨Nat.le_of_ble_eq_true rfl, Nat.le_of_ble_eq_true rfl⟩ (Nat.le_of_ble_eq_true rfl) dX8_isSettled_29 (fun H locs hw => ?_)
      refine lv_if_eq (tgt := 45) X.1 X.2.1 dX8_isSettled_32 (by decide) (fun c_18 => ?_) (fun c_18 => ?_)
      · replace hz_8 := it_p hz_8 c_18
        obtain ⟨x_19, ex_19⟩ : ∃ y : Int32, y = y_4 + 1 := ⟨_, rfl⟩
        replace hz_8 := lt_e hz_8 ex_19
        refine lv_iinc (v := x_19) (lv' := [(1, .int x_19), (0, .ref (h (24 + 5 * d)))]) X.1 X.2.1 dX8_isSettled_45 hl (k := 1) rfl (by rw [ex_19]; rfl) (by decide) rfl (fun ls hl => ?_)
        refine lv_goto (tgt := 21) X.1 X.2.1 dX8_isSettled_48 (by decide) ?_
        exact hn_9 _ (Option.some.inj hz_8).symm _ _ _ hw (lv_sub hl [1, 0] rfl)
      · replace hz_8 := it_n hz_8 c_18
        refine lv_aload_n X.1 X.2.1 dX8_isSettled_35 rfl (lv_at hl 0 rfl) ?_
        refine lv_iload_n X.1 X.2.1 dX8_isSettled_36 rfl (lv_at hl 1 rfl) ?_
        replace hz_8 := ob_e hz_8
        obtain ⟨r_21, h_20, hz_8⟩ := hz_8
        refine k_Vi (k := (24 + 5 * d)) (As := [.int y_4]) X hl.1 hw (c_X8_linksAt hd h_20) (by omega) (he_X8 g h _ _ _) rfl ⟨wq_17_3, wq_17_4, wq_17_5, wq_4_6, wq_17_6⟩ yo_X8_linksAt rfl ⟨Nat.le_of_ble_eq_true rfl, Nat.le_of_ble_eq_true rfl⟩ (Nat.le_of_ble_eq_true rfl) dX8_isSettled_37 (fun H locs hw => ?_)
        refine lv_if_ne (tgt := 45) X.1 X.2.1 dX8_isSettled_40 (by decide) (fun c_22 => ?_) (fun c_22 => ?_)
        · replace hz_8 := it_n hz_8 c_22
          obtain ⟨x_23, ex_23⟩ : ∃ y : Int32, y = y_4 + 1 := ⟨_, rfl⟩
          replace hz_8 := lt_e hz_8 ex_23
          refine lv_iinc (v := x_23) (lv' := [(1, .int x_23), (0, .ref (h (24 + 5 * d)))]) X.1 X.2.1 dX8_isSettled_45 hl (k := 1) rfl (by rw [ex_23]; rfl) (by decide) rfl (fun ls hl => ?_)
          refine lv_goto (tgt := 21) X.1 X.2.1 dX8_isSettled_48 (by decide) ?_
          exact hn_9 _ (Option.some.inj hz_8).symm _ _ _ hw (lv_sub hl [1, 0] rfl)
        · replace hz_8 := it_p hz_8 c_22
          refine lv_iconst (v := 1) X.1 X.2.1 dX8_isSettled_43 (by decide) ?_
          have he_14 := hx_10 _ (Option.some.inj hz_8).symm
          subst he_14
          replace hm := ex_r hm
          obtain ⟨rfl, rfl⟩ := Prod.mk.inj (Option.some.inj hm)
          exact hret _ _ _ _ hw dX8_isSettled_44 (Or.inr rfl)
  · replace hm := it_p hm c_3
    refine lv_aload_n X.1 X.2.1 dX8_isSettled_11 rfl (lv_at hl 0 rfl) ?_
    refine lv_lconst (v := 1) X.1 X.2.1 dX8_isSettled_12 (by decide) ?_
    refine lv_lconst (v := 1) X.1 X.2.1 dX8_isSettled_13 (by decide) ?_
    replace hm := ob_e hm
    obtain ⟨t_29, h_28, hm⟩ := hm
    refine k_Vv (k := (24 + 5 * d)) (As := [.long (1 : Int64), .long (1 : Int64)]) X hl.1 hw (c_X8_answer hd h_28) (by omega) (he_X8 g h _ _ _) rfl ⟨wq_15_16, wq_15_17, wq_15_18, wq_4_6, wq_15_19⟩ yo_X8_answer rfl ⟨Nat.le_of_ble_eq_true rfl, Nat.le_of_ble_eq_true rfl⟩ (Nat.le_of_ble_eq_true rfl) dX8_isSettled_14 (fun H locs hw => ?_)
    refine lv_iconst (v := 1) X.1 X.2.1 dX8_isSettled_17 (by decide) ?_
    obtain ⟨rfl, rfl⟩ := Prod.mk.inj (Option.some.inj hm)
    exact hret _ _ _ _ hw dX8_isSettled_18 (Or.inr rfl)
theorem c_X8_isSettled_c {l : Launch} {g : gT} {h : Nat → Nat} {b : ST} {w : Nat → ST} {d : Nat} {r : Int32} {t' : ST} (hd : d < 11) (hm : m_X8_isSettled (w d) = some (r, t')) : MetI l g yX8_isSettled cX8_isSettled 2 (some .boolean) 2 44 79 h (cC g h (b, w)) (cC g h (b, va_up w d t')) [.ref (h (24 + 5 * d))] r := by
  have hc := c_X8_isSettled (l := l) (g := g) (h := h) (b := b) (w := w) hd hm
  rw [up_self] at hc
  exact hc
def m_X8_leastLink (t : ST) : Option (Int32) := Option.bind (m_J6_numberOfTrailingZeros_0f7a4 (t.1 0)) (fun (r_2 : Int32) => some r_2)
theorem yo_X8_leastLink : yX8_leastLink.cls = RX8 ∧ yX8_leastLink.cls ≠ "java/lang/invoke/MethodHandle" ∧ yX8_leastLink.cls ≠ "java/lang/invoke/VarHandle" ∧ (parseMethodDescriptor yX8_leastLink.desc).map (fun d => d.parameters.length) = some 0 := by decide +kernel
set_option maxHeartbeats 4000000 in
set_option maxRecDepth 100000 in
theorem c_X8_leastLink {l : Launch} {g : gT} {h : Nat → Nat} {b : ST} {w : Nat → ST} {d : Nat} {t : ST} {r : Int32} (hd : d < 11) (hm : m_X8_leastLink t = some r) : MetI l g yX8_leastLink cX8_leastLink 1 (some .int) 1 21 79 h (cC g h (b, va_up w d t)) (cC g h (b, va_up w d t)) [.ref (h (24 + 5 * d))] r := by
  refine MetI.ofX (by decide +kernel) (Nat.le_of_ble_eq_true rfl) ?_
  intro p e s m below meth c AV Q X hret ls hw hl
  replace X : Cx g p s m AV c cX8_leastLink RX8 1 := X
  replace hl : lv_has ls 1 [(0, .ref (h (24 + 5 * d)))] := hl
  unfold m_X8_leastLink at hm
  refine lv_aload_n X.1 X.2.1 dX8_leastLink_0 rfl (lv_at hl 0 rfl) ?_
  refine gX8_links hd X hw wq_15_7 dX8_leastLink_1 ?_
  replace hm := ob_e hm
  obtain ⟨r_2, h_1, hm⟩ := hm
  refine k_Si (As := [.int (t.1 0)]) X hl.1 hw (c_J6_numberOfTrailingZeros_0f7a4 h_1) ⟨wq_17_12, wq_17_13, wq_10_20, wq_17_14⟩ yo_J6_numberOfTrailingZeros_0f7a4 rfl ⟨Nat.le_of_ble_eq_true rfl, Nat.le_of_ble_eq_true rfl⟩ (Nat.le_of_ble_eq_true rfl) dX8_leastLink_4 (fun H locs hw => ?_)
  obtain rfl := Option.some.inj hm
  exact hret _ _ _ _ hw dX8_leastLink_7
theorem c_X8_leastLink_c {l : Launch} {g : gT} {h : Nat → Nat} {b : ST} {w : Nat → ST} {d : Nat} {r : Int32} (hd : d < 11) (hm : m_X8_leastLink (w d) = some r) : MetI l g yX8_leastLink cX8_leastLink 1 (some .int) 1 21 79 h (cC g h (b, w)) (cC g h (b, w)) [.ref (h (24 + 5 * d))] r := by
  have hc := c_X8_leastLink (l := l) (g := g) (h := h) (b := b) (w := w) hd hm
  rw [up_self] at hc
  exact hc
theorem c_X8_leastLink_o {l : Launch} {g : gT} {h : Nat → Nat} {b : ST} {w : Nat → ST} {d k : Nat} {t o : ST} {r : Int32} (hd : d < 11) (hk : k ≠ d) (hk11 : k < 11) (ho : w k = o) (hm : m_X8_leastLink o = some r) : MetI l g yX8_leastLink cX8_leastLink 1 (some .int) 1 21 79 h (cC g h (b, va_up w d t)) (cC g h (b, va_up w d t)) [.ref (h (24 + 5 * k))] r := by
  subst ho
  have hc := c_X8_leastLink (l := l) (g := g) (h := h) (b := b) (w := va_up w d t) hk11 hm
  rw [up_other _ _ _ _ hk] at hc
  exact hc
def m_X8_canBeUp (t : ST) (x1 : Int32) : Option (Int32) := Option.bind (m_X8_isThere t x1) (fun (r_2 : Int32) => if r_2 = 0 then some (0 : Int32) else gd (¬ (x1 < 0 ∨ 10 ≤ x1.toNatClampNeg)) (if (lg_cmp (t.2.2.2 0 x1.toNatClampNeg) (0 : Int64)) = 0 then some (0 : Int32) else some (1 : Int32)))
theorem yo_X8_canBeUp : yX8_canBeUp.cls = RX8 ∧ yX8_canBeUp.cls ≠ "java/lang/invoke/MethodHandle" ∧ yX8_canBeUp.cls ≠ "java/lang/invoke/VarHandle" ∧ (parseMethodDescriptor yX8_canBeUp.desc).map (fun d => d.parameters.length) = some 1 := by decide +kernel
set_option maxHeartbeats 4000000 in
set_option maxRecDepth 100000 in
theorem c_X8_canBeUp {l : Launch} {g : gT} {h : Nat → Nat} {b : ST} {w : Nat → ST} {d : Nat} {t : ST} {x1 : Int32} {r : Int32} (hd : d < 11) (hm : m_X8_canBeUp t x1 = some r) : MetI l g yX8_canBeUp cX8_canBeUp 2 (some .boolean) 1 21 79 h (cC g h (b, va_up w d t)) (cC g h (b, va_up w d t)) [.ref (h (24 + 5 * d)), .int x1] r := by
  refine MetZ.ofX (by decide +kernel) (Nat.le_of_ble_eq_true rfl) ?_
  intro p e s m below meth c AV Q X hret ls hw hl
  replace X : Cx g p s m AV c cX8_canBeUp RX8 2 := X
  replace hl : lv_has ls 2 [(0, .ref (h (24 + 5 * d))), (1, .int x1)] := hl
  unfold m_X8_canBeUp at hm
  refine lv_aload_n X.1 X.2.1 dX8_canBeUp_0 rfl (lv_at hl 0 rfl) ?_
  refine lv_iload_n X.1 X.2.1 dX8_canBeUp_1 rfl (lv_at hl 1 rfl) ?_
  replace hm := ob_e hm
  obtain ⟨r_2, h_1, hm⟩ := hm
  refine k_Vi (k := (24 + 5 * d)) (As := [.int x1]) X hl.1 hw (c_X8_isThere hd h_1) (by omega) (he_X8 g h _ _ _) rfl ⟨wq_16_10, wq_16_11, wq_16_12, wq_4_6, wq_16_13⟩ yo_X8_isThere rfl ⟨Nat.le_of_ble_eq_true rfl, Nat.le_of_ble_eq_true rfl⟩ (Nat.le_of_ble_eq_true rfl) dX8_canBeUp_2 (fun H locs hw => ?_)
  refine lv_if_eq (tgt := 23) X.1 X.2.1 dX8_canBeUp_5 (by decide) (fun c_3 => ?_) (fun c_3 => ?_)
  · replace hm := it_p hm c_3
    refine lv_iconst (v := 0) X.1 X.2.1 dX8_canBeUp_23 (by decide) ?_
    obtain rfl := Option.some.inj hm
    exact hret _ _ _ _ hw dX8_canBeUp_24 (Or.inl rfl)
  · replace hm := it_n hm c_3
    refine lv_aload_n X.1 X.2.1 dX8_canBeUp_8 rfl (lv_at hl 0 rfl) ?_
    refine gX8_aboves hd X hw wq_4_12 dX8_canBeUp_9 ?_
    refine lv_iload_n X.1 X.2.1 dX8_canBeUp_12 rfl (lv_at hl 1 rfl) ?_
    replace hm := gd_e hm
    obtain ⟨g_4, hm⟩ := hm
    refine lTB0 hd X hw g_4 dX8_canBeUp_13 ?_
    refine lv_lconst (v := 0) X.1 X.2.1 dX8_canBeUp_14 (by decide) ?_
    refine W.lcmp X.1 X.2.1 dX8_canBeUp_15 ?_
    refine lv_if_eq (tgt := 23) X.1 X.2.1 dX8_canBeUp_16 (by decide) (fun c_5 => ?_) (fun c_5 => ?_)
    · replace hm := it_p hm c_5
      refine lv_iconst (v := 0) X.1 X.2.1 dX8_canBeUp_23 (by decide) ?_
      obtain rfl := Option.some.inj hm
      exact hret _ _ _ _ hw dX8_canBeUp_24 (Or.inl rfl)
    · replace hm := it_n hm c_5
      refine lv_iconst (v := 1) X.1 X.2.1 dX8_canBeUp_19 (by decide) ?_
      refine lv_goto (tgt := 24) X.1 X.2.1 dX8_canBeUp_20 (by decide) ?_
      obtain rfl := Option.some.inj hm
      exact hret _ _ _ _ hw dX8_canBeUp_24 (Or.inr rfl)
theorem c_X8_canBeUp_c {l : Launch} {g : gT} {h : Nat → Nat} {b : ST} {w : Nat → ST} {d : Nat} {x1 : Int32} {r : Int32} (hd : d < 11) (hm : m_X8_canBeUp (w d) x1 = some r) : MetI l g yX8_canBeUp cX8_canBeUp 2 (some .boolean) 1 21 79 h (cC g h (b, w)) (cC g h (b, w)) [.ref (h (24 + 5 * d)), .int x1] r := by
  have hc := c_X8_canBeUp (l := l) (g := g) (h := h) (b := b) (w := w) hd hm
  rw [up_self] at hc
  exact hc
theorem c_X8_canBeUp_o {l : Launch} {g : gT} {h : Nat → Nat} {b : ST} {w : Nat → ST} {d k : Nat} {t o : ST} {x1 : Int32} {r : Int32} (hd : d < 11) (hk : k ≠ d) (hk11 : k < 11) (ho : w k = o) (hm : m_X8_canBeUp o x1 = some r) : MetI l g yX8_canBeUp cX8_canBeUp 2 (some .boolean) 1 21 79 h (cC g h (b, va_up w d t)) (cC g h (b, va_up w d t)) [.ref (h (24 + 5 * k)), .int x1] r := by
  subst ho
  have hc := c_X8_canBeUp (l := l) (g := g) (h := h) (b := b) (w := va_up w d t) hk11 hm
  rw [up_other _ _ _ _ hk] at hc
  exact hc
def m_X8_canBeDown (t : ST) (x1 : Int32) : Option (Int32) := Option.bind (m_X8_isThere t x1) (fun (r_2 : Int32) => if r_2 = 0 then some (0 : Int32) else gd (¬ (x1 < 0 ∨ 10 ≤ x1.toNatClampNeg)) (gd (¬ (x1 < 0 ∨ 10 ≤ x1.toNatClampNeg)) (if (lg_cmp (t.2.2.2 0 x1.toNatClampNeg) (t.2.2.2 1 x1.toNatClampNeg)) = 0 then some (0 : Int32) else some (1 : Int32))))
theorem yo_X8_canBeDown : yX8_canBeDown.cls = RX8 ∧ yX8_canBeDown.cls ≠ "java/lang/invoke/MethodHandle" ∧ yX8_canBeDown.cls ≠ "java/lang/invoke/VarHandle" ∧ (parseMethodDescriptor yX8_canBeDown.desc).map (fun d => d.parameters.length) = some 1 := by decide +kernel
set_option maxHeartbeats 4000000 in
set_option maxRecDepth 100000 in
theorem c_X8_canBeDown {l : Launch} {g : gT} {h : Nat → Nat} {b : ST} {w : Nat → ST} {d : Nat} {t : ST} {x1 : Int32} {r : Int32} (hd : d < 11) (hm : m_X8_canBeDown t x1 = some r) : MetI l g yX8_canBeDown cX8_canBeDown 2 (some .boolean) 1 21 79 h (cC g h (b, va_up w d t)) (cC g h (b, va_up w d t)) [.ref (h (24 + 5 * d)), .int x1] r := by
  refine MetZ.ofX (by decide +kernel) (Nat.le_of_ble_eq_true rfl) ?_
  intro p e s m below meth c AV Q X hret ls hw hl
  replace X : Cx g p s m AV c cX8_canBeDown RX8 2 := X
  replace hl : lv_has ls 2 [(0, .ref (h (24 + 5 * d))), (1, .int x1)] := hl
  unfold m_X8_canBeDown at hm
  refine lv_aload_n X.1 X.2.1 dX8_canBeDown_0 rfl (lv_at hl 0 rfl) ?_
  refine lv_iload_n X.1 X.2.1 dX8_canBeDown_1 rfl (lv_at hl 1 rfl) ?_
  replace hm := ob_e hm
  obtain ⟨r_2, h_1, hm⟩ := hm
  refine k_Vi (k := (24 + 5 * d)) (As := [.int x1]) X hl.1 hw (c_X8_isThere hd h_1) (by omega) (he_X8 g h _ _ _) rfl ⟨wq_16_10, wq_16_11, wq_16_12, wq_4_6, wq_16_13⟩ yo_X8_isThere rfl ⟨Nat.le_of_ble_eq_true rfl, Nat.le_of_ble_eq_true rfl⟩ (Nat.le_of_ble_eq_true rfl) dX8_canBeDown_2 (fun H locs hw => ?_)
  refine lv_if_eq (tgt := 28) X.1 X.2.1 dX8_canBeDown_5 (by decide) (fun c_3 => ?_) (fun c_3 => ?_)
  · replace hm := it_p hm c_3
    refine lv_iconst (v := 0) X.1 X.2.1 dX8_canBeDown_28 (by decide) ?_
    obtain rfl := Option.some.inj hm
    exact hret _ _ _ _ hw dX8_canBeDown_29 (Or.inl rfl)
  · replace hm := it_n hm c_3
    refine lv_aload_n X.1 X.2.1 dX8_canBeDown_8 rfl (lv_at hl 0 rfl) ?_
    refine gX8_aboves hd X hw wq_4_12 dX8_canBeDown_9 ?_
    refine lv_iload_n X.1 X.2.1 dX8_canBeDown_12 rfl (lv_at hl 1 rfl) ?_
    replace hm := gd_e hm
    obtain ⟨g_4, hm⟩ := hm
    refine lTB0 hd X hw g_4 dX8_canBeDown_13 ?_
    refine lv_aload_n X.1 X.2.1 dX8_canBeDown_14 rfl (lv_at hl 0 rfl) ?_
    refine gX8_belows hd X hw wq_4_13 dX8_canBeDown_15 ?_
    refine lv_iload_n X.1 X.2.1 dX8_canBeDown_18 rfl (lv_at hl 1 rfl) ?_
    replace hm := gd_e hm
    obtain ⟨g_5, hm⟩ := hm
    refine lTB1 hd X hw g_5 dX8_canBeDown_19 ?_
    refine W.lcmp X.1 X.2.1 dX8_canBeDown_20 ?_
    refine lv_if_eq (tgt := 28) X.1 X.2.1 dX8_canBeDown_21 (by decide) (fun c_6 => ?_) (fun c_6 => ?_)
    · replace hm := it_p hm c_6
      refine lv_iconst (v := 0) X.1 X.2.1 dX8_canBeDown_28 (by decide) ?_
      obtain rfl := Option.some.inj hm
      exact hret _ _ _ _ hw dX8_canBeDown_29 (Or.inl rfl)
    · replace hm := it_n hm c_6
      refine lv_iconst (v := 1) X.1 X.2.1 dX8_canBeDown_24 (by decide) ?_
      refine lv_goto (tgt := 29) X.1 X.2.1 dX8_canBeDown_25 (by decide) ?_
      obtain rfl := Option.some.inj hm
      exact hret _ _ _ _ hw dX8_canBeDown_29 (Or.inr rfl)
theorem c_X8_canBeDown_c {l : Launch} {g : gT} {h : Nat → Nat} {b : ST} {w : Nat → ST} {d : Nat} {x1 : Int32} {r : Int32} (hd : d < 11) (hm : m_X8_canBeDown (w d) x1 = some r) : MetI l g yX8_canBeDown cX8_canBeDown 2 (some .boolean) 1 21 79 h (cC g h (b, w)) (cC g h (b, w)) [.ref (h (24 + 5 * d)), .int x1] r := by
  have hc := c_X8_canBeDown (l := l) (g := g) (h := h) (b := b) (w := w) hd hm
  rw [up_self] at hc
  exact hc
theorem c_X8_canBeDown_o {l : Launch} {g : gT} {h : Nat → Nat} {b : ST} {w : Nat → ST} {d k : Nat} {t o : ST} {x1 : Int32} {r : Int32} (hd : d < 11) (hk : k ≠ d) (hk11 : k < 11) (ho : w k = o) (hm : m_X8_canBeDown o x1 = some r) : MetI l g yX8_canBeDown cX8_canBeDown 2 (some .boolean) 1 21 79 h (cC g h (b, va_up w d t)) (cC g h (b, va_up w d t)) [.ref (h (24 + 5 * k)), .int x1] r := by
  subst ho
  have hc := c_X8_canBeDown (l := l) (g := g) (h := h) (b := b) (w := va_up w d t) hk11 hm
  rw [up_other _ _ _ _ hk] at hc
  exact hc
def m_X8_add (t : ST) (x1 : Int64) (x3 : Int64) : Option (ST) := Option.bind (m_X1_commonDivisor (t.2.1 1) x3) (fun (r_2 : Int64) => if (lg_cmp r_2 (0 : Int64)) = 0 then some t else gd (¬ r_2 = 0) (gd (¬ r_2 = 0) (lt (x1 * ((t.2.1 1) / r_2)) (fun x_6 => lt (((t.2.1 0) * (x3 / r_2)) + x_6) (fun x_7 => gd (¬ r_2 = 0) (lt (((t.2.1 1) / r_2) * x3) (fun x_9 => Option.bind (m_X1_told x_7 x_9 (0 : Int32)) (fun (r_11 : Int64) => Option.bind (m_X1_told x_7 x_9 (1 : Int32)) (fun (r_13 : Int64) => Option.bind (m_X8_answer t r_11 r_13) (fun (t_15 : ST) => some t_15))))))))))
theorem yo_X8_add : yX8_add.cls = RX8 ∧ yX8_add.cls ≠ "java/lang/invoke/MethodHandle" ∧ yX8_add.cls ≠ "java/lang/invoke/VarHandle" ∧ (parseMethodDescriptor yX8_add.desc).map (fun d => d.parameters.length) = some 2 := by decide +kernel
set_option maxHeartbeats 4000000 in
set_option maxRecDepth 100000 in
theorem c_X8_add {l : Launch} {g : gT} {h : Nat → Nat} {b : ST} {w : Nat → ST} {d : Nat} {t : ST} {x1 : Int64} {x3 : Int64} {t' : ST} (hd : d < 11) (hm : m_X8_add t x1 x3 = some (t')) : MetV l g yX8_add cX8_add 11 none 2 52 79 h (cC g h (b, va_up w d t)) (cC g h (b, va_up w d t')) [.ref (h (24 + 5 * d)), .long x1, .long x3] := by
  refine MetV.ofX (by decide +kernel) (Nat.le_of_ble_eq_true rfl) ?_
  intro p e s m below meth c AV Q X hret ls hw hl
  replace X : Cx g p s m AV c cX8_add RX8 11 := X
  replace hl : lv_has ls 11 [(0, .ref (h (24 + 5 * d))), (1, .long x1), (3, .long x3)] := hl
  unfold m_X8_add at hm
  refine lv_aload_n X.1 X.2.1 dX8_add_0 rfl (lv_at hl 0 rfl) ?_
  refine gX8_answerBelow hd X hw wq_15_21 dX8_add_1 ?_
  refine lv_lload_n X.1 X.2.1 dX8_add_4 rfl (lv_at hl 2 rfl) ?_
  replace hm := ob_e hm
  obtain ⟨r_2, h_1, hm⟩ := hm
  refine k_Sl (As := [.long (t.2.1 1), .long x3]) X hl.1 hw (c_X1_commonDivisor h_1) ⟨wq_19_5, wq_14_11, wq_6_20, wq_14_12⟩ yo_X1_commonDivisor rfl ⟨Nat.le_of_ble_eq_true rfl, Nat.le_of_ble_eq_true rfl⟩ (Nat.le_of_ble_eq_true rfl) dX8_add_5 (fun H locs hw => ?_)
  refine lv_lstore (lv' := [(5, .long r_2), (0, .ref (h (24 + 5 * d))), (1, .long x1), (3, .long x3)]) X.1 X.2.1 dX8_add_8 hl (by decide) rfl (fun ls hl => ?_)
  refine lv_lload X.1 X.2.1 dX8_add_10 (lv_at hl 0 rfl) ?_
  refine lv_lconst (v := 0) X.1 X.2.1 dX8_add_12 (by decide) ?_
  refine W.lcmp X.1 X.2.1 dX8_add_13 ?_
  refine lv_if_ne (tgt := 18) X.1 X.2.1 dX8_add_14 (by decide) (fun c_3 => ?_) (fun c_3 => ?_)
  · replace hm := it_n hm c_3
    refine lv_aload_n X.1 X.2.1 dX8_add_18 rfl (lv_at hl 1 rfl) ?_
    refine gX8_answerAbove hd X hw wq_15_20 dX8_add_19 ?_
    refine lv_lload_n X.1 X.2.1 dX8_add_22 rfl (lv_at hl 3 rfl) ?_
    refine lv_lload X.1 X.2.1 dX8_add_23 (lv_at hl 0 rfl) ?_
    replace hm := gd_e hm
    obtain ⟨g_4, hm⟩ := hm
    refine lv_ldiv X.1 X.2.1 dX8_add_25 g_4 ?_
    refine lv_lmul X.1 X.2.1 dX8_add_26 ?_
    refine lv_lload_n X.1 X.2.1 dX8_add_27 rfl (lv_at hl 2 rfl) ?_
    refine lv_aload_n X.1 X.2.1 dX8_add_28 rfl (lv_at hl 1 rfl) ?_
    refine gX8_answerBelow hd X hw wq_15_21 dX8_add_29 ?_
    refine lv_lload X.1 X.2.1 dX8_add_32 (lv_at hl 0 rfl) ?_
    replace hm := gd_e hm
    obtain ⟨g_5, hm⟩ := hm
    refine lv_ldiv X.1 X.2.1 dX8_add_34 g_5 ?_
    refine lv_lmul X.1 X.2.1 dX8_add_35 ?_
    refine lv_topl (fun x_6 ex_6 => ?_)
    replace hm := lt_e hm ex_6
    refine lv_ladd X.1 X.2.1 dX8_add_36 ?_
    refine lv_topl (fun x_7 ex_7 => ?_)
    replace hm := lt_e hm ex_7
    refine lv_lstore (lv' := [(7, .long x_7), (5, .long r_2), (0, .ref (h (24 + 5 * d))), (1, .long x1), (3, .long x3)]) X.1 X.2.1 dX8_add_37 hl (by decide) rfl (fun ls hl => ?_)
    refine lv_aload_n X.1 X.2.1 dX8_add_39 rfl (lv_at hl 2 rfl) ?_
    refine gX8_answerBelow hd X hw wq_15_21 dX8_add_40 ?_
    refine lv_lload X.1 X.2.1 dX8_add_43 (lv_at hl 1 rfl) ?_
    replace hm := gd_e hm
    obtain ⟨g_8, hm⟩ := hm
    refine lv_ldiv X.1 X.2.1 dX8_add_45 g_8 ?_
    refine lv_lload_n X.1 X.2.1 dX8_add_46 rfl (lv_at hl 4 rfl) ?_
    refine lv_lmul X.1 X.2.1 dX8_add_47 ?_
    refine lv_topl (fun x_9 ex_9 => ?_)
    replace hm := lt_e hm ex_9
    refine lv_lstore (lv' := [(9, .long x_9), (7, .long x_7), (5, .long r_2), (0, .ref (h (24 + 5 * d))), (1, .long x1), (3, .long x3)]) X.1 X.2.1 dX8_add_48 hl (by decide) rfl (fun ls hl => ?_)
    refine lv_aload_n X.1 X.2.1 dX8_add_50 rfl (lv_at hl 3 rfl) ?_
    refine lv_lload X.1 X.2.1 dX8_add_51 (lv_at hl 1 rfl) ?_
    refine lv_lload X.1 X.2.1 dX8_add_53 (lv_at hl 0 rfl) ?_
    refine lv_iconst (v := 0) X.1 X.2.1 dX8_add_55 (by decide) ?_
    replace hm := ob_e hm
    obtain ⟨r_11, h_10, hm⟩ := hm
    refine k_Sl (As := [.long x_7, .long x_9, .int (0 : Int32)]) X hl.1 hw (c_X1_told h_10) ⟨wq_19_6, wq_14_8, wq_6_20, wq_14_9⟩ yo_X1_told rfl ⟨Nat.le_of_ble_eq_true rfl, Nat.le_of_ble_eq_true rfl⟩ (Nat.le_of_ble_eq_true rfl) dX8_add_56 (fun H locs hw => ?_)
    refine lv_lload X.1 X.2.1 dX8_add_59 (lv_at hl 1 rfl) ?_
    refine lv_lload X.1 X.2.1 dX8_add_61 (lv_at hl 0 rfl) ?_
    refine lv_iconst (v := 1) X.1 X.2.1 dX8_add_63 (by decide) ?_
    replace hm := ob_e hm
    obtain ⟨r_13, h_12, hm⟩ := hm
    refine k_Sl (As := [.long x_7, .long x_9, .int (1 : Int32)]) X hl.1 hw (c_X1_told h_12) ⟨wq_19_6, wq_14_8, wq_6_20, wq_14_9⟩ yo_X1_told rfl ⟨Nat.le_of_ble_eq_true rfl, Nat.le_of_ble_eq_true rfl⟩ (Nat.le_of_ble_eq_true rfl) dX8_add_64 (fun H locs hw => ?_)
    replace hm := ob_e hm
    obtain ⟨t_15, h_14, hm⟩ := hm
    refine k_Vv (k := (24 + 5 * d)) (As := [.long r_11, .long r_13]) X hl.1 hw (c_X8_answer hd h_14) (by omega) (he_X8 g h _ _ _) rfl ⟨wq_15_16, wq_15_17, wq_15_18, wq_4_6, wq_15_19⟩ yo_X8_answer rfl ⟨Nat.le_of_ble_eq_true rfl, Nat.le_of_ble_eq_true rfl⟩ (Nat.le_of_ble_eq_true rfl) dX8_add_67 (fun H locs hw => ?_)
    obtain rfl := Option.some.inj hm
    exact hret _ _ _ _ hw dX8_add_70
  · replace hm := it_p hm c_3
    obtain rfl := Option.some.inj hm
    exact hret _ _ _ _ hw dX8_add_17
theorem c_X8_add_c {l : Launch} {g : gT} {h : Nat → Nat} {b : ST} {w : Nat → ST} {d : Nat} {x1 : Int64} {x3 : Int64} {t' : ST} (hd : d < 11) (hm : m_X8_add (w d) x1 x3 = some (t')) : MetV l g yX8_add cX8_add 11 none 2 52 79 h (cC g h (b, w)) (cC g h (b, va_up w d t')) [.ref (h (24 + 5 * d)), .long x1, .long x3] := by
  have hc := c_X8_add (l := l) (g := g) (h := h) (b := b) (w := w) hd hm
  rw [up_self] at hc
  exact hc
def m_X8_addUp (t : ST) (o : ST) (x1 : Int32) : Option (ST) := Option.bind (m_X8_isThere t x1) (fun (r_2 : Int32) => if r_2 = 0 then some t else gd (¬ (x1 < 0 ∨ 10 ≤ x1.toNatClampNeg)) (gd (¬ (x1 < 0 ∨ 10 ≤ x1.toNatClampNeg)) (Option.bind (m_X8_add t (((t.2.2.2 0 x1.toNatClampNeg) * (o.2.1 0))) (((t.2.2.2 1 x1.toNatClampNeg) * (o.2.1 1)))) (fun (t_7 : ST) => some t_7))))
theorem yo_X8_addUp : yX8_addUp.cls = RX8 ∧ yX8_addUp.cls ≠ "java/lang/invoke/MethodHandle" ∧ yX8_addUp.cls ≠ "java/lang/invoke/VarHandle" ∧ (parseMethodDescriptor yX8_addUp.desc).map (fun d => d.parameters.length) = some 2 := by decide +kernel
set_option maxHeartbeats 4000000 in
set_option maxRecDepth 100000 in
theorem c_X8_addUp {l : Launch} {g : gT} {h : Nat → Nat} {b : ST} {w : Nat → ST} {d : Nat} {t : ST} {k : Nat} {o : ST} {x1 : Int32} {t' : ST} (hd : d < 11) (hk : k ≠ d) (hk11 : k < 11) (ho : w k = o) (hm : m_X8_addUp t o x1 = some (t')) : MetV l g yX8_addUp cX8_addUp 3 none 3 82 79 h (cC g h (b, va_up w d t)) (cC g h (b, va_up w d t')) [.ref (h (24 + 5 * d)), .int x1, .ref (h (24 + 5 * k))] := by
  refine MetV.ofX (by decide +kernel) (Nat.le_of_ble_eq_true rfl) ?_
  intro p e s m below meth c AV Q X hret ls hw hl
  replace X : Cx g p s m AV c cX8_addUp RX8 3 := X
  replace hl : lv_has ls 3 [(0, .ref (h (24 + 5 * d))), (1, .int x1), (2, .ref (h (24 + 5 * k)))] := hl
  unfold m_X8_addUp at hm
  refine lv_aload_n X.1 X.2.1 dX8_addUp_0 rfl (lv_at hl 0 rfl) ?_
  refine lv_iload_n X.1 X.2.1 dX8_addUp_1 rfl (lv_at hl 1 rfl) ?_
  replace hm := ob_e hm
  obtain ⟨r_2, h_1, hm⟩ := hm
  refine k_Vi (k := (24 + 5 * d)) (As := [.int x1]) X hl.1 hw (c_X8_isThere hd h_1) (by omega) (he_X8 g h _ _ _) rfl ⟨wq_16_10, wq_16_11, wq_16_12, wq_4_6, wq_16_13⟩ yo_X8_isThere rfl ⟨Nat.le_of_ble_eq_true rfl, Nat.le_of_ble_eq_true rfl⟩ (Nat.le_of_ble_eq_true rfl) dX8_addUp_2 (fun H locs hw => ?_)
  refine lv_if_eq (tgt := 34) X.1 X.2.1 dX8_addUp_5 (by decide) (fun c_3 => ?_) (fun c_3 => ?_)
  · replace hm := it_p hm c_3
    obtain rfl := Option.some.inj hm
    exact hret _ _ _ _ hw dX8_addUp_34
  · replace hm := it_n hm c_3
    refine lv_aload_n X.1 X.2.1 dX8_addUp_8 rfl (lv_at hl 0 rfl) ?_
    refine lv_aload_n X.1 X.2.1 dX8_addUp_9 rfl (lv_at hl 0 rfl) ?_
    refine gX8_aboves hd X hw wq_4_12 dX8_addUp_10 ?_
    refine lv_iload_n X.1 X.2.1 dX8_addUp_13 rfl (lv_at hl 1 rfl) ?_
    replace hm := gd_e hm
    obtain ⟨g_4, hm⟩ := hm
    refine lTB0 hd X hw g_4 dX8_addUp_14 ?_
    refine lv_aload_n X.1 X.2.1 dX8_addUp_15 rfl (lv_at hl 2 rfl) ?_
    refine oX8_answerAbove hd hk hk11 ho X hw wq_15_20 dX8_addUp_16 ?_
    refine lv_lmul X.1 X.2.1 dX8_addUp_19 ?_
    refine lv_aload_n X.1 X.2.1 dX8_addUp_20 rfl (lv_at hl 0 rfl) ?_
    refine gX8_belows hd X hw wq_4_13 dX8_addUp_21 ?_
    refine lv_iload_n X.1 X.2.1 dX8_addUp_24 rfl (lv_at hl 1 rfl) ?_
    replace hm := gd_e hm
    obtain ⟨g_5, hm⟩ := hm
    refine lTB1 hd X hw g_5 dX8_addUp_25 ?_
    refine lv_aload_n X.1 X.2.1 dX8_addUp_26 rfl (lv_at hl 2 rfl) ?_
    refine oX8_answerBelow hd hk hk11 ho X hw wq_15_21 dX8_addUp_27 ?_
    refine lv_lmul X.1 X.2.1 dX8_addUp_30 ?_
    replace hm := ob_e hm
    obtain ⟨t_7, h_6, hm⟩ := hm
    refine k_Vv (k := (24 + 5 * d)) (As := [.long ((t.2.2.2 0 x1.toNatClampNeg) * (o.2.1 0)), .long ((t.2.2.2 1 x1.toNatClampNeg) * (o.2.1 1))]) X hl.1 hw (c_X8_add hd h_6) (by omega) (he_X8 g h _ _ _) rfl ⟨wq_19_1, wq_19_2, wq_19_3, wq_4_6, wq_19_4⟩ yo_X8_add rfl ⟨Nat.le_of_ble_eq_true rfl, Nat.le_of_ble_eq_true rfl⟩ (Nat.le_of_ble_eq_true rfl) dX8_addUp_31 (fun H locs hw => ?_)
    obtain rfl := Option.some.inj hm
    exact hret _ _ _ _ hw dX8_addUp_34
theorem c_X8_addUp_c {l : Launch} {g : gT} {h : Nat → Nat} {b : ST} {w : Nat → ST} {d : Nat} {k : Nat} {x1 : Int32} {t' : ST} (hd : d < 11) (hk : k ≠ d) (hk11 : k < 11) (hm : m_X8_addUp (w d) (w k) x1 = some (t')) : MetV l g yX8_addUp cX8_addUp 3 none 3 82 79 h (cC g h (b, w)) (cC g h (b, va_up w d t')) [.ref (h (24 + 5 * d)), .int x1, .ref (h (24 + 5 * k))] := by
  have hc := c_X8_addUp (l := l) (g := g) (h := h) (b := b) (w := w) hd hk hk11 rfl hm
  rw [up_self] at hc
  exact hc
def m_X8_addDown (t : ST) (o : ST) (x1 : Int32) : Option (ST) := Option.bind (m_X8_isThere t x1) (fun (r_2 : Int32) => if r_2 = 0 then some t else gd (¬ (x1 < 0 ∨ 10 ≤ x1.toNatClampNeg)) (gd (¬ (x1 < 0 ∨ 10 ≤ x1.toNatClampNeg)) (lt (((t.2.2.2 1 x1.toNatClampNeg) - (t.2.2.2 0 x1.toNatClampNeg)) * (o.2.1 0)) (fun x_6 => gd (¬ (x1 < 0 ∨ 10 ≤ x1.toNatClampNeg)) (Option.bind (m_X8_add t x_6 (((t.2.2.2 1 x1.toNatClampNeg) * (o.2.1 1)))) (fun (t_9 : ST) => some t_9))))))
theorem yo_X8_addDown : yX8_addDown.cls = RX8 ∧ yX8_addDown.cls ≠ "java/lang/invoke/MethodHandle" ∧ yX8_addDown.cls ≠ "java/lang/invoke/VarHandle" ∧ (parseMethodDescriptor yX8_addDown.desc).map (fun d => d.parameters.length) = some 2 := by decide +kernel
set_option maxHeartbeats 4000000 in
set_option maxRecDepth 100000 in
theorem c_X8_addDown {l : Launch} {g : gT} {h : Nat → Nat} {b : ST} {w : Nat → ST} {d : Nat} {t : ST} {k : Nat} {o : ST} {x1 : Int32} {t' : ST} (hd : d < 11) (hk : k ≠ d) (hk11 : k < 11) (ho : w k = o) (hm : m_X8_addDown t o x1 = some (t')) : MetV l g yX8_addDown cX8_addDown 3 none 3 82 79 h (cC g h (b, va_up w d t)) (cC g h (b, va_up w d t')) [.ref (h (24 + 5 * d)), .int x1, .ref (h (24 + 5 * k))] := by
  refine MetV.ofX (by decide +kernel) (Nat.le_of_ble_eq_true rfl) ?_
  intro p e s m below meth c AV Q X hret ls hw hl
  replace X : Cx g p s m AV c cX8_addDown RX8 3 := X
  replace hl : lv_has ls 3 [(0, .ref (h (24 + 5 * d))), (1, .int x1), (2, .ref (h (24 + 5 * k)))] := hl
  unfold m_X8_addDown at hm
  refine lv_aload_n X.1 X.2.1 dX8_addDown_0 rfl (lv_at hl 0 rfl) ?_
  refine lv_iload_n X.1 X.2.1 dX8_addDown_1 rfl (lv_at hl 1 rfl) ?_
  replace hm := ob_e hm
  obtain ⟨r_2, h_1, hm⟩ := hm
  refine k_Vi (k := (24 + 5 * d)) (As := [.int x1]) X hl.1 hw (c_X8_isThere hd h_1) (by omega) (he_X8 g h _ _ _) rfl ⟨wq_16_10, wq_16_11, wq_16_12, wq_4_6, wq_16_13⟩ yo_X8_isThere rfl ⟨Nat.le_of_ble_eq_true rfl, Nat.le_of_ble_eq_true rfl⟩ (Nat.le_of_ble_eq_true rfl) dX8_addDown_2 (fun H locs hw => ?_)
  refine lv_if_eq (tgt := 41) X.1 X.2.1 dX8_addDown_5 (by decide) (fun c_3 => ?_) (fun c_3 => ?_)
  · replace hm := it_p hm c_3
    obtain rfl := Option.some.inj hm
    exact hret _ _ _ _ hw dX8_addDown_41
  · replace hm := it_n hm c_3
    refine lv_aload_n X.1 X.2.1 dX8_addDown_8 rfl (lv_at hl 0 rfl) ?_
    refine lv_aload_n X.1 X.2.1 dX8_addDown_9 rfl (lv_at hl 0 rfl) ?_
    refine gX8_belows hd X hw wq_4_13 dX8_addDown_10 ?_
    refine lv_iload_n X.1 X.2.1 dX8_addDown_13 rfl (lv_at hl 1 rfl) ?_
    replace hm := gd_e hm
    obtain ⟨g_4, hm⟩ := hm
    refine lTB1 hd X hw g_4 dX8_addDown_14 ?_
    refine lv_aload_n X.1 X.2.1 dX8_addDown_15 rfl (lv_at hl 0 rfl) ?_
    refine gX8_aboves hd X hw wq_4_12 dX8_addDown_16 ?_
    refine lv_iload_n X.1 X.2.1 dX8_addDown_19 rfl (lv_at hl 1 rfl) ?_
    replace hm := gd_e hm
    obtain ⟨g_5, hm⟩ := hm
    refine lTB0 hd X hw g_5 dX8_addDown_20 ?_
    refine lv_lsub X.1 X.2.1 dX8_addDown_21 ?_
    refine lv_aload_n X.1 X.2.1 dX8_addDown_22 rfl (lv_at hl 2 rfl) ?_
    refine oX8_answerAbove hd hk hk11 ho X hw wq_15_20 dX8_addDown_23 ?_
    refine lv_lmul X.1 X.2.1 dX8_addDown_26 ?_
    refine lv_topl (fun x_6 ex_6 => ?_)
    replace hm := lt_e hm ex_6
    refine lv_aload_n X.1 X.2.1 dX8_addDown_27 rfl (lv_at hl 0 rfl) ?_
    refine gX8_belows hd X hw wq_4_13 dX8_addDown_28 ?_
    refine lv_iload_n X.1 X.2.1 dX8_addDown_31 rfl (lv_at hl 1 rfl) ?_
    replace hm := gd_e hm
    obtain ⟨g_7, hm⟩ := hm
    refine lTB1 hd X hw g_7 dX8_addDown_32 ?_
    refine lv_aload_n X.1 X.2.1 dX8_addDown_33 rfl (lv_at hl 2 rfl) ?_
    refine oX8_answerBelow hd hk hk11 ho X hw wq_15_21 dX8_addDown_34 ?_
    refine lv_lmul X.1 X.2.1 dX8_addDown_37 ?_
    replace hm := ob_e hm
    obtain ⟨t_9, h_8, hm⟩ := hm
    refine k_Vv (k := (24 + 5 * d)) (As := [.long x_6, .long ((t.2.2.2 1 x1.toNatClampNeg) * (o.2.1 1))]) X hl.1 hw (c_X8_add hd h_8) (by omega) (he_X8 g h _ _ _) rfl ⟨wq_19_1, wq_19_2, wq_19_3, wq_4_6, wq_19_4⟩ yo_X8_add rfl ⟨Nat.le_of_ble_eq_true rfl, Nat.le_of_ble_eq_true rfl⟩ (Nat.le_of_ble_eq_true rfl) dX8_addDown_38 (fun H locs hw => ?_)
    obtain rfl := Option.some.inj hm
    exact hret _ _ _ _ hw dX8_addDown_41
theorem c_X8_addDown_c {l : Launch} {g : gT} {h : Nat → Nat} {b : ST} {w : Nat → ST} {d : Nat} {k : Nat} {x1 : Int32} {t' : ST} (hd : d < 11) (hk : k ≠ d) (hk11 : k < 11) (hm : m_X8_addDown (w d) (w k) x1 = some (t')) : MetV l g yX8_addDown cX8_addDown 3 none 3 82 79 h (cC g h (b, w)) (cC g h (b, va_up w d t')) [.ref (h (24 + 5 * d)), .int x1, .ref (h (24 + 5 * k))] := by
  have hc := c_X8_addDown (l := l) (g := g) (h := h) (b := b) (w := w) hd hk hk11 rfl hm
  rw [up_self] at hc
  exact hc
def m_X8_answerAbove (t : ST) : Option (Int64) := some (t.2.1 0)
theorem yo_X8_answerAbove : yX8_answerAbove.cls = RX8 ∧ yX8_answerAbove.cls ≠ "java/lang/invoke/MethodHandle" ∧ yX8_answerAbove.cls ≠ "java/lang/invoke/VarHandle" ∧ (parseMethodDescriptor yX8_answerAbove.desc).map (fun d => d.parameters.length) = some 0 := by decide +kernel
set_option maxHeartbeats 4000000 in
set_option maxRecDepth 100000 in
theorem c_X8_answerAbove {l : Launch} {g : gT} {h : Nat → Nat} {b : ST} {w : Nat → ST} {d : Nat} {t : ST} {r : Int64} (hd : d < 11) (hm : m_X8_answerAbove t = some r) : MetL l g yX8_answerAbove cX8_answerAbove 1 (some .long) 0 0 79 h (cC g h (b, va_up w d t)) (cC g h (b, va_up w d t)) [.ref (h (24 + 5 * d))] r := by
  refine MetL.ofX (by decide +kernel) (Nat.le_of_ble_eq_true rfl) ?_
  intro p e s m below meth c AV Q X hret ls hw hl
  replace X : Cx g p s m AV c cX8_answerAbove RX8 1 := X
  replace hl : lv_has ls 1 [(0, .ref (h (24 + 5 * d)))] := hl
  unfold m_X8_answerAbove at hm
  refine lv_aload_n X.1 X.2.1 dX8_answerAbove_0 rfl (lv_at hl 0 rfl) ?_
  refine gX8_answerAbove hd X hw wq_15_20 dX8_answerAbove_1 ?_
  obtain rfl := Option.some.inj hm
  exact hret _ _ _ _ hw dX8_answerAbove_4
theorem c_X8_answerAbove_c {l : Launch} {g : gT} {h : Nat → Nat} {b : ST} {w : Nat → ST} {d : Nat} {r : Int64} (hd : d < 11) (hm : m_X8_answerAbove (w d) = some r) : MetL l g yX8_answerAbove cX8_answerAbove 1 (some .long) 0 0 79 h (cC g h (b, w)) (cC g h (b, w)) [.ref (h (24 + 5 * d))] r := by
  have hc := c_X8_answerAbove (l := l) (g := g) (h := h) (b := b) (w := w) hd hm
  rw [up_self] at hc
  exact hc
theorem c_X8_answerAbove_o {l : Launch} {g : gT} {h : Nat → Nat} {b : ST} {w : Nat → ST} {d k : Nat} {t o : ST} {r : Int64} (hd : d < 11) (hk : k ≠ d) (hk11 : k < 11) (ho : w k = o) (hm : m_X8_answerAbove o = some r) : MetL l g yX8_answerAbove cX8_answerAbove 1 (some .long) 0 0 79 h (cC g h (b, va_up w d t)) (cC g h (b, va_up w d t)) [.ref (h (24 + 5 * k))] r := by
  subst ho
  have hc := c_X8_answerAbove (l := l) (g := g) (h := h) (b := b) (w := va_up w d t) hk11 hm
  rw [up_other _ _ _ _ hk] at hc
  exact hc
def m_X8_answerBelow (t : ST) : Option (Int64) := some (t.2.1 1)
theorem yo_X8_answerBelow : yX8_answerBelow.cls = RX8 ∧ yX8_answerBelow.cls ≠ "java/lang/invoke/MethodHandle" ∧ yX8_answerBelow.cls ≠ "java/lang/invoke/VarHandle" ∧ (parseMethodDescriptor yX8_answerBelow.desc).map (fun d => d.parameters.length) = some 0 := by decide +kernel
set_option maxHeartbeats 4000000 in
set_option maxRecDepth 100000 in
theorem c_X8_answerBelow {l : Launch} {g : gT} {h : Nat → Nat} {b : ST} {w : Nat → ST} {d : Nat} {t : ST} {r : Int64} (hd : d < 11) (hm : m_X8_answerBelow t = some r) : MetL l g yX8_answerBelow cX8_answerBelow 1 (some .long) 0 0 79 h (cC g h (b, va_up w d t)) (cC g h (b, va_up w d t)) [.ref (h (24 + 5 * d))] r := by
  refine MetL.ofX (by decide +kernel) (Nat.le_of_ble_eq_true rfl) ?_
  intro p e s m below meth c AV Q X hret ls hw hl
  replace X : Cx g p s m AV c cX8_answerBelow RX8 1 := X
  replace hl : lv_has ls 1 [(0, .ref (h (24 + 5 * d)))] := hl
  unfold m_X8_answerBelow at hm
  refine lv_aload_n X.1 X.2.1 dX8_answerBelow_0 rfl (lv_at hl 0 rfl) ?_
  refine gX8_answerBelow hd X hw wq_15_21 dX8_answerBelow_1 ?_
  obtain rfl := Option.some.inj hm
  exact hret _ _ _ _ hw dX8_answerBelow_4
theorem c_X8_answerBelow_c {l : Launch} {g : gT} {h : Nat → Nat} {b : ST} {w : Nat → ST} {d : Nat} {r : Int64} (hd : d < 11) (hm : m_X8_answerBelow (w d) = some r) : MetL l g yX8_answerBelow cX8_answerBelow 1 (some .long) 0 0 79 h (cC g h (b, w)) (cC g h (b, w)) [.ref (h (24 + 5 * d))] r := by
  have hc := c_X8_answerBelow (l := l) (g := g) (h := h) (b := b) (w := w) hd hm
  rw [up_self] at hc
  exact hc
theorem c_X8_answerBelow_o {l : Launch} {g : gT} {h : Nat → Nat} {b : ST} {w : Nat → ST} {d k : Nat} {t o : ST} {r : Int64} (hd : d < 11) (hk : k ≠ d) (hk11 : k < 11) (ho : w k = o) (hm : m_X8_answerBelow o = some r) : MetL l g yX8_answerBelow cX8_answerBelow 1 (some .long) 0 0 79 h (cC g h (b, va_up w d t)) (cC g h (b, va_up w d t)) [.ref (h (24 + 5 * k))] r := by
  subst ho
  have hc := c_X8_answerBelow (l := l) (g := g) (h := h) (b := b) (w := va_up w d t) hk11 hm
  rw [up_other _ _ _ _ hk] at hc
  exact hc
