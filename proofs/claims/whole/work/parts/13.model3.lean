def m_X10_obey_L115 (σ : Int32 × ST) : Option ((Int32 × ST) ⊕ (ST)) := (fun (q_50 : Int32 × ST) => un q_50 (fun y_32 t_33 => if (10 : Int32) ≤ y_32 then some (.inr t_33) else gd (¬ (y_32 < 0 ∨ 10 ≤ y_32.toNatClampNeg)) (gd (¬ (y_32 < 0 ∨ 10 ≤ y_32.toNatClampNeg)) (lt (wA t_33 5 y_32.toNatClampNeg (t_33.2.2.1 16 y_32.toNatClampNeg)) (fun t_48 => lt (y_32 + 1) (fun x_49 => some (.inl (x_49, t_48)))))))) σ
def m_X10_obey_L66 (t_9 : ST) (σ : Int32) : Option ((Int32) ⊕ (Int32)) := (fun (y_22 : Int32) => if (t_9.1 9) ≤ y_22 then some (.inr y_22) else gd (¬ (y_22 < 0 ∨ 60 ≤ y_22.toNatClampNeg)) (if (t_9.2.2.1 15 y_22.toNatClampNeg) = (59 : Int32) then some (.inr y_22) else lt (y_22 + 1) (fun x_61 => some (.inl x_61)))) σ
def m_X10_obey_L46 (x_4 : Int32) (x_5 : Int32) (σ : Int32 × Int32 × ST) : Option ((Int32 × Int32 × ST) ⊕ ((Int32 × ST) ⊕ (Int32 × ST))) := (fun (q_62 : Int32 × Int32 × ST) => un q_62 (fun y_7 q_62 => un q_62 (fun y_8 t_9 => if (t_9.1 9) ≤ 0 then some (.inr (.inl (y_7, t_9))) else if (t_9.1 9) < y_8 then some (.inr (.inl (y_7, t_9))) else Option.bind (vLoop (m_X10_obey_L66 t_9) FUEL y_8) (fun (j_23 : Int32) => Option.bind (m_X10_does t_9 y_8 j_23) (fun (q_27 : Int32 × ST) => un q_27 (fun r_25 t_26 => lt (wI t_26 10 r_25) (fun t_28 => if (t_28.1 10) = 0 then lt (y_7 + 1) (fun x_30 => lt (j_23 + (1 : Int32)) (fun x_31 => some (.inl (x_30, x_31, t_28)))) else Option.bind (vLoop (m_X10_obey_L115) FUEL ((0 : Int32), t_28)) (fun (t_34 : ST) => lt (wI t_34 3 x_4) (fun t_35 => lt (wI t_35 2 x_5) (fun t_36 => some (.inr (.inr (((-100 : Int32) - y_7), t_36))))))))))))) σ
def m_X10_obey_L2 (σ : Int32 × ST) : Option ((Int32 × ST) ⊕ (ST)) := (fun (q_79 : Int32 × ST) => un q_79 (fun y_1 t_2 => if (10 : Int32) ≤ y_1 then some (.inr t_2) else gd (¬ (y_1 < 0 ∨ 10 ≤ y_1.toNatClampNeg)) (gd (¬ (y_1 < 0 ∨ 10 ≤ y_1.toNatClampNeg)) (lt (wA t_2 16 y_1.toNatClampNeg (t_2.2.2.1 5 y_1.toNatClampNeg)) (fun t_77 => lt (y_1 + 1) (fun x_78 => some (.inl (x_78, t_77)))))))) σ
def m_X10_obey (t : ST) : Option (Int32 × ST) := Option.bind (vLoop (m_X10_obey_L2) FUEL ((0 : Int32), t)) (fun (t_3 : ST) => lt (t_3.1 3) (fun x_4 => lt (t_3.1 2) (fun x_5 => lt (wI t_3 10 (0 : Int32)) (fun t_6 => Option.bind (vLoop (m_X10_obey_L46 x_4 x_5) FUEL ((0 : Int32), (0 : Int32), t_6)) (fun z => ex z (fun (q_64 : Int32 × ST) => un q_64 (fun j_10 t_11 => some (j_10, t_11))) (fun r_65 => some r_65))))))
theorem yo_X10_obey : yX10_obey.cls = RX10 ∧ yX10_obey.cls ≠ "java/lang/invoke/MethodHandle" ∧ yX10_obey.cls ≠ "java/lang/invoke/VarHandle" ∧ (parseMethodDescriptor yX10_obey.desc).map (fun d => d.parameters.length) = some 0 := by decide +kernel
set_option maxHeartbeats 4000000 in
set_option maxRecDepth 100000 in
theorem c_X10_obey {l : Launch} {g : gT} {h : Nat → Nat} {t : ST} {r : Int32} {t' : ST} (hm : m_X10_obey t = some (r, t')) : MetI l g yX10_obey cX10_obey 7 (some .int) 4 98 20 h (cM g h t) (cM g h t') [.ref (h 0)] r := by
  refine MetI.ofX (by decide +kernel) (Nat.le_of_ble_eq_true rfl) ?_
  intro p e s m below meth c AV Q X hret ls hw hl
  replace X : Cx g p s m AV c cX10_obey RX10 7 := X
  replace hl : lv_has ls 7 [(0, .ref (h 0))] := hl
  unfold m_X10_obey at hm
  refine lv_iconst (v := 0) X.1 X.2.1 dX10_obey_0 (by decide) ?_
  refine lv_istore_n (lv' := [(1, .int (0 : Int32)), (0, .ref (h 0))]) X.1 X.2.1 dX10_obey_1 rfl hl (by decide) rfl (fun ls hl => ?_)
  replace hm := ob_e hm
  obtain ⟨t_3, hL_72, hm⟩ := hm
  have J_71 : ∀ (H : Heap) (locs : List Loc) (ls : Array Slot), Wd g 20 h (cM g h t_3) s H locs → lv_has ls 7 [(0, .ref (h 0))] → W p l e (rW 4 98) s m AV below meth c H locs 0 0 Q (F0 m 26 ls []) := by
    intro H locs ls hw hl
    refine lv_aload_n X.1 X.2.1 dX10_obey_26 rfl (lv_at hl 0 rfl) ?_
    refine gX10_goals X hw wq_7_3 dX10_obey_27 ?_
    refine lv_topi (fun x_4 ex_4 => ?_)
    replace hm := lt_e hm ex_4
    refine lv_istore_n (lv' := [(1, .int x_4), (0, .ref (h 0))]) X.1 X.2.1 dX10_obey_30 rfl hl (by decide) rfl (fun ls hl => ?_)
    refine lv_aload_n X.1 X.2.1 dX10_obey_31 rfl (lv_at hl 1 rfl) ?_
    refine gX10_source X hw wq_7_4 dX10_obey_32 ?_
    refine lv_topi (fun x_5 ex_5 => ?_)
    replace hm := lt_e hm ex_5
    refine lv_istore_n (lv' := [(2, .int x_5), (1, .int x_4), (0, .ref (h 0))]) X.1 X.2.1 dX10_obey_35 rfl hl (by decide) rfl (fun ls hl => ?_)
    refine lv_aload_n X.1 X.2.1 dX10_obey_36 rfl (lv_at hl 2 rfl) ?_
    refine lv_iconst (v := 0) X.1 X.2.1 dX10_obey_37 (by decide) ?_
    refine pX10_wrongBy X hw wq_45_6 dX10_obey_38 (fun H locs hw => ?_)
    obtain ⟨t_6, et_6⟩ : ∃ y, y = wI t_3 10 (0 : Int32) := ⟨_, rfl⟩
    rw [← et_6] at hw
    replace hm := lt_e hm et_6
    refine lv_iconst (v := 0) X.1 X.2.1 dX10_obey_41 (by decide) ?_
    refine lv_istore_n (lv' := [(3, .int (0 : Int32)), (2, .int x_5), (1, .int x_4), (0, .ref (h 0))]) X.1 X.2.1 dX10_obey_42 rfl hl (by decide) rfl (fun ls hl => ?_)
    refine lv_iconst (v := 0) X.1 X.2.1 dX10_obey_43 (by decide) ?_
    refine lv_istore (lv' := [(4, .int (0 : Int32)), (3, .int (0 : Int32)), (2, .int x_5), (1, .int x_4), (0, .ref (h 0))]) X.1 X.2.1 dX10_obey_44 hl (by decide) rfl (fun ls hl => ?_)
    replace hm := ob_e hm
    obtain ⟨z_63, hL_18, hm⟩ := hm
    have J_17 : ∀ (j_10 : Int32) (t_11 : ST), z_63 = .inl (j_10, t_11) → ∀ (H : Heap) (locs : List Loc) (ls : Array Slot), Wd g 20 h (cM g h t_11) s H locs → lv_has ls 7 [(3, .int j_10)] → W p l e (rW 4 98) s m AV below meth c H locs 0 0 Q (F0 m 169 ls []) := by
      intro j_10 t_11 hj
      subst hj
      replace hm := ex_l hm
      replace hm := un_e hm
      intro H locs ls hw hl
      refine lv_iload_n X.1 X.2.1 dX10_obey_169 rfl (lv_at hl 0 rfl) ?_
      obtain ⟨rfl, rfl⟩ := Prod.mk.inj (Option.some.inj hm)
      exact hret _ _ _ _ hw dX10_obey_170
    refine vLoop_ind (B := (m_X10_obey_L46 x_4 x_5)) (fun σ => ∀ (H : Heap) (locs : List Loc) (ls : Array Slot), Wd g 20 h (cM g h σ.2.2) s H locs → lv_has ls 7 [(0, .ref (h 0)), (1, .int x_4), (2, .int x_5), (3, .int σ.1), (4, .int σ.2.1)] → W p l e (rW 4 98) s m AV below meth c H locs 0 0 Q (F0 m 46 ls [])) (fun z' => z' = z_63) ?_ FUEL _ _ hL_18 rfl _ _ _ hw (lv_sub hl [4, 3, 2, 1, 0] rfl)
    intro σ z_16 hz_13 hn_14 hx_15
    obtain ⟨y_7, y_8, t_9⟩ := σ
    intro H locs ls hw hl
    replace hw : Wd g 20 h (cM g h t_9) s H locs := hw
    replace hl : lv_has ls 7 [(0, .ref (h 0)), (1, .int x_4), (2, .int x_5), (3, .int y_7), (4, .int y_8)] := hl
    unfold m_X10_obey_L46 at hz_13
    replace hz_13 := un_e hz_13
    replace hz_13 := un_e hz_13
    refine lv_aload_n X.1 X.2.1 dX10_obey_46 rfl (lv_at hl 0 rfl) ?_
    refine gX10_bytes X hw wq_40_9 dX10_obey_47 ?_
    refine lv_if_le (tgt := 169) X.1 X.2.1 dX10_obey_50 (by decide) (fun c_20 => ?_) (fun c_20 => ?_)
    · replace hz_13 := it_p hz_13 c_20
      have he_19 := hx_15 _ (Option.some.inj hz_13).symm
      exact J_17 _ _ he_19.symm _ _ _ hw (lv_sub hl [3] rfl)
    · replace hz_13 := it_n hz_13 c_20
      refine lv_iload X.1 X.2.1 dX10_obey_53 (lv_at hl 4 rfl) ?_
      refine lv_aload_n X.1 X.2.1 dX10_obey_55 rfl (lv_at hl 0 rfl) ?_
      refine gX10_bytes X hw wq_40_9 dX10_obey_56 ?_
      refine lv_icmp_gt (tgt := 169) X.1 X.2.1 dX10_obey_59 (by decide) (fun c_21 => ?_) (fun c_21 => ?_)
      · replace hz_13 := it_p hz_13 c_21
        have he_19 := hx_15 _ (Option.some.inj hz_13).symm
        exact J_17 _ _ he_19.symm _ _ _ hw (lv_sub hl [3] rfl)
      · replace hz_13 := it_n hz_13 c_21
        refine lv_iload X.1 X.2.1 dX10_obey_62 (lv_at hl 4 rfl) ?_
        refine lv_istore (lv' := [(5, .int y_8), (0, .ref (h 0)), (1, .int x_4), (2, .int x_5), (3, .int y_7), (4, .int y_8)]) X.1 X.2.1 dX10_obey_64 hl (by decide) rfl (fun ls hl => ?_)
        replace hz_13 := ob_e hz_13
        obtain ⟨j_23, hL_56, hz_13⟩ := hz_13
        have J_55 : ∀ (H : Heap) (locs : List Loc) (ls : Array Slot), Wd g 20 h (cM g h t_9) s H locs → lv_has ls 7 [(0, .ref (h 0)), (1, .int x_4), (2, .int x_5), (3, .int y_7), (4, .int y_8), (5, .int j_23)] → W p l e (rW 4 98) s m AV below meth c H locs 0 0 Q (F0 m 93 ls []) := by
          intro H locs ls hw hl
          refine lv_aload_n X.1 X.2.1 dX10_obey_93 rfl (lv_at hl 0 rfl) ?_
          refine lv_aload_n X.1 X.2.1 dX10_obey_94 rfl (lv_at hl 0 rfl) ?_
          refine lv_iload X.1 X.2.1 dX10_obey_95 (lv_at hl 4 rfl) ?_
          refine lv_iload X.1 X.2.1 dX10_obey_97 (lv_at hl 5 rfl) ?_
          replace hz_13 := ob_e hz_13
          obtain ⟨⟨r_25, t_26⟩, h_24, hz_13⟩ := hz_13
          replace hz_13 := un_e hz_13
          refine k_Vi (k := 0) (As := [.int y_8, .int j_23]) X hl.1 hw (c_X10_does h_24) (by decide) (he_X10 g h _) rfl ⟨wq_45_7, wq_45_8, wq_45_9, wq_1_5, wq_45_10⟩ yo_X10_does rfl ⟨Nat.le_of_ble_eq_true rfl, Nat.le_of_ble_eq_true rfl⟩ (Nat.le_of_ble_eq_true rfl) dX10_obey_99 (fun H locs hw => ?_)
          refine pX10_wrongBy X hw wq_45_6 dX10_obey_102 (fun H locs hw => ?_)
          obtain ⟨t_28, et_28⟩ : ∃ y, y = wI t_26 10 r_25 := ⟨_, rfl⟩
          rw [← et_28] at hw
          replace hz_13 := lt_e hz_13 et_28
          refine lv_aload_n X.1 X.2.1 dX10_obey_105 rfl (lv_at hl 0 rfl) ?_
          refine gX10_wrongBy X hw wq_45_6 dX10_obey_106 ?_
          refine lv_if_eq (tgt := 157) X.1 X.2.1 dX10_obey_109 (by decide) (fun c_29 => ?_) (fun c_29 => ?_)
          · replace hz_13 := it_p hz_13 c_29
            obtain ⟨x_30, ex_30⟩ : ∃ y : Int32, y = y_7 + 1 := ⟨_, rfl⟩
            replace hz_13 := lt_e hz_13 ex_30
            refine lv_iinc (v := x_30) (lv' := [(3, .int x_30), (0, .ref (h 0)), (1, .int x_4), (2, .int x_5), (4, .int y_8), (5, .int j_23)]) X.1 X.2.1 dX10_obey_157 hl (k := 3) rfl (by rw [ex_30]; rfl) (by decide) rfl (fun ls hl => ?_)
            refine lv_iload X.1 X.2.1 dX10_obey_160 (lv_at hl 5 rfl) ?_
            refine lv_iconst (v := 1) X.1 X.2.1 dX10_obey_162 (by decide) ?_
            refine lv_iadd X.1 X.2.1 dX10_obey_163 ?_
            refine lv_topi (fun x_31 ex_31 => ?_)
            replace hz_13 := lt_e hz_13 ex_31
            refine lv_istore (lv' := [(4, .int x_31), (3, .int x_30), (0, .ref (h 0)), (1, .int x_4), (2, .int x_5), (5, .int j_23)]) X.1 X.2.1 dX10_obey_164 hl (by decide) rfl (fun ls hl => ?_)
            refine lv_goto (tgt := 46) X.1 X.2.1 dX10_obey_166 (by decide) ?_
            exact hn_14 _ (Option.some.inj hz_13).symm _ _ _ hw (lv_sub hl [2, 3, 4, 1, 0] rfl)
          · replace hz_13 := it_n hz_13 c_29
            refine lv_iconst (v := 0) X.1 X.2.1 dX10_obey_112 (by decide) ?_
            refine lv_istore (lv' := [(6, .int (0 : Int32)), (0, .ref (h 0)), (1, .int x_4), (2, .int x_5), (3, .int y_7), (4, .int y_8), (5, .int j_23)]) X.1 X.2.1 dX10_obey_113 hl (by decide) rfl (fun ls hl => ?_)
            replace hz_13 := ob_e hz_13
            obtain ⟨t_34, hL_43, hz_13⟩ := hz_13
            have J_42 : ∀ (H : Heap) (locs : List Loc) (ls : Array Slot), Wd g 20 h (cM g h t_34) s H locs → lv_has ls 7 [(0, .ref (h 0)), (1, .int x_4), (2, .int x_5), (3, .int y_7)] → W p l e (rW 4 98) s m AV below meth c H locs 0 0 Q (F0 m 142 ls []) := by
              intro H locs ls hw hl
              refine lv_aload_n X.1 X.2.1 dX10_obey_142 rfl (lv_at hl 0 rfl) ?_
              refine lv_iload_n X.1 X.2.1 dX10_obey_143 rfl (lv_at hl 1 rfl) ?_
              refine pX10_goals X hw wq_7_3 dX10_obey_144 (fun H locs hw => ?_)
              obtain ⟨t_35, et_35⟩ : ∃ y, y = wI t_34 3 x_4 := ⟨_, rfl⟩
              rw [← et_35] at hw
              replace hz_13 := lt_e hz_13 et_35
              refine lv_aload_n X.1 X.2.1 dX10_obey_147 rfl (lv_at hl 0 rfl) ?_
              refine lv_iload_n X.1 X.2.1 dX10_obey_148 rfl (lv_at hl 2 rfl) ?_
              refine pX10_source X hw wq_7_4 dX10_obey_149 (fun H locs hw => ?_)
              obtain ⟨t_36, et_36⟩ : ∃ y, y = wI t_35 2 x_5 := ⟨_, rfl⟩
              rw [← et_36] at hw
              replace hz_13 := lt_e hz_13 et_36
              refine lv_bipush (v := -100) X.1 X.2.1 dX10_obey_152 (by decide) ?_
              refine lv_iload_n X.1 X.2.1 dX10_obey_154 rfl (lv_at hl 3 rfl) ?_
              refine lv_isub X.1 X.2.1 dX10_obey_155 ?_
              have he_19 := hx_15 _ (Option.some.inj hz_13).symm
              subst he_19
              replace hm := ex_r hm
              obtain ⟨rfl, rfl⟩ := Prod.mk.inj (Option.some.inj hm)
              exact hret _ _ _ _ hw dX10_obey_156
            refine vLoop_ind (B := (m_X10_obey_L115)) (fun σ => ∀ (H : Heap) (locs : List Loc) (ls : Array Slot), Wd g 20 h (cM g h σ.2) s H locs → lv_has ls 7 [(0, .ref (h 0)), (1, .int x_4), (2, .int x_5), (3, .int y_7), (6, .int σ.1)] → W p l e (rW 4 98) s m AV below meth c H locs 0 0 Q (F0 m 115 ls [])) (fun z' => z' = t_34) ?_ FUEL _ _ hL_43 rfl _ _ _ hw (lv_sub hl [1, 2, 3, 4, 0] rfl)
            intro σ z_41 hz_38 hn_39 hx_40
            obtain ⟨y_32, t_33⟩ := σ
            intro H locs ls hw hl
            replace hw : Wd g 20 h (cM g h t_33) s H locs := hw
            replace hl : lv_has ls 7 [(0, .ref (h 0)), (1, .int x_4), (2, .int x_5), (3, .int y_7), (6, .int y_32)] := hl
            unfold m_X10_obey_L115 at hz_38
            replace hz_38 := un_e hz_38
            refine lv_iload X.1 X.2.1 dX10_obey_115 (lv_at hl 4 rfl) ?_
            refine lv_bipush (v := 10) X.1 X.2.1 dX10_obey_117 (by decide) ?_
            refine lv_icmp_ge (tgt := 142) X.1 X.2.1 dX10_obey_119 (by decide) (fun c_45 => ?_) (fun c_45 => ?_)
            · replace hz_38 := it_p hz_38 c_45
              obtain rfl := hx_40 _ (Option.some.inj hz_38).symm
              exact J_42 _ _ _ hw (lv_sub hl [0, 1, 2, 3] rfl)
            · replace hz_38 := it_n hz_38 c_45
              refine lv_aload_n X.1 X.2.1 dX10_obey_122 rfl (lv_at hl 0 rfl) ?_
              refine gX10_seens X hw wq_5_16 dX10_obey_123 ?_
              refine lv_iload X.1 X.2.1 dX10_obey_126 (lv_at hl 4 rfl) ?_
              refine lv_aload_n X.1 X.2.1 dX10_obey_128 rfl (lv_at hl 0 rfl) ?_
              refine gX10_before X hw wq_6_3 dX10_obey_129 ?_
              refine lv_iload X.1 X.2.1 dX10_obey_132 (lv_at hl 4 rfl) ?_
              replace hz_38 := gd_e hz_38
              obtain ⟨g_46, hz_38⟩ := hz_38
              refine lMA16 X hw g_46 dX10_obey_134 ?_
              replace hz_38 := gd_e hz_38
              obtain ⟨g_47, hz_38⟩ := hz_38
              refine sMA5 X hw g_47 dX10_obey_135 (fun H locs hw => ?_)
              obtain ⟨t_48, et_48⟩ : ∃ y, y = wA t_33 5 y_32.toNatClampNeg (t_33.2.2.1 16 y_32.toNatClampNeg) := ⟨_, rfl⟩
              rw [← et_48] at hw
              replace hz_38 := lt_e hz_38 et_48
              obtain ⟨x_49, ex_49⟩ : ∃ y : Int32, y = y_32 + 1 := ⟨_, rfl⟩
              replace hz_38 := lt_e hz_38 ex_49
              refine lv_iinc (v := x_49) (lv' := [(6, .int x_49), (0, .ref (h 0)), (1, .int x_4), (2, .int x_5), (3, .int y_7)]) X.1 X.2.1 dX10_obey_136 hl (k := 4) rfl (by rw [ex_49]; rfl) (by decide) rfl (fun ls hl => ?_)
              refine lv_goto (tgt := 115) X.1 X.2.1 dX10_obey_139 (by decide) ?_
              exact hn_39 _ (Option.some.inj hz_38).symm _ _ _ hw (lv_sub hl [1, 2, 3, 4, 0] rfl)
        refine vLoop_ind (B := (m_X10_obey_L66 t_9)) (fun σ => ∀ (H : Heap) (locs : List Loc) (ls : Array Slot), Wd g 20 h (cM g h t_9) s H locs → lv_has ls 7 [(0, .ref (h 0)), (1, .int x_4), (2, .int x_5), (3, .int y_7), (4, .int y_8), (5, .int σ)] → W p l e (rW 4 98) s m AV below meth c H locs 0 0 Q (F0 m 66 ls [])) (fun z' => z' = j_23) ?_ FUEL _ _ hL_56 rfl _ _ _ hw (lv_sub hl [1, 2, 3, 4, 5, 0] rfl)
        intro σ z_54 hz_51 hn_52 hx_53
        obtain ⟨y_22, rfl⟩ : ∃ q, q = σ := ⟨_, rfl⟩
        intro H locs ls hw hl
        replace hw : Wd g 20 h (cM g h t_9) s H locs := hw
        replace hl : lv_has ls 7 [(0, .ref (h 0)), (1, .int x_4), (2, .int x_5), (3, .int y_7), (4, .int y_8), (5, .int y_22)] := hl
        unfold m_X10_obey_L66 at hz_51
        refine lv_iload X.1 X.2.1 dX10_obey_66 (lv_at hl 5 rfl) ?_
        refine lv_aload_n X.1 X.2.1 dX10_obey_68 rfl (lv_at hl 0 rfl) ?_
        refine gX10_bytes X hw wq_40_9 dX10_obey_69 ?_
        refine lv_icmp_ge (tgt := 93) X.1 X.2.1 dX10_obey_72 (by decide) (fun c_58 => ?_) (fun c_58 => ?_)
        · replace hz_51 := it_p hz_51 c_58
          obtain rfl := hx_53 _ (Option.some.inj hz_51).symm
          exact J_55 _ _ _ hw (lv_sub hl [0, 1, 2, 3, 4, 5] rfl)
        · replace hz_51 := it_n hz_51 c_58
          refine lv_aload_n X.1 X.2.1 dX10_obey_75 rfl (lv_at hl 0 rfl) ?_
          refine gX10_orders X hw wq_6_2 dX10_obey_76 ?_
          refine lv_iload X.1 X.2.1 dX10_obey_79 (lv_at hl 5 rfl) ?_
          replace hz_51 := gd_e hz_51
          obtain ⟨g_59, hz_51⟩ := hz_51
          refine lMA15 X hw g_59 dX10_obey_81 ?_
          refine lv_bipush (v := 59) X.1 X.2.1 dX10_obey_82 (by decide) ?_
          refine lv_icmp_eq (tgt := 93) X.1 X.2.1 dX10_obey_84 (by decide) (fun c_60 => ?_) (fun c_60 => ?_)
          · replace hz_51 := it_p hz_51 c_60
            obtain rfl := hx_53 _ (Option.some.inj hz_51).symm
            exact J_55 _ _ _ hw (lv_sub hl [0, 1, 2, 3, 4, 5] rfl)
          · replace hz_51 := it_n hz_51 c_60
            obtain ⟨x_61, ex_61⟩ : ∃ y : Int32, y = y_22 + 1 := ⟨_, rfl⟩
            replace hz_51 := lt_e hz_51 ex_61
            refine lv_iinc (v := x_61) (lv' := [(5, .int x_61), (0, .ref (h 0)), (1, .int x_4), (2, .int x_5), (3, .int y_7), (4, .int y_8)]) X.1 X.2.1 dX10_obey_87 hl (k := 5) rfl (by rw [ex_61]; rfl) (by decide) rfl (fun ls hl => ?_)
            refine lv_goto (tgt := 66) X.1 X.2.1 dX10_obey_90 (by decide) ?_
            exact hn_52 _ (Option.some.inj hz_51).symm _ _ _ hw (lv_sub hl [1, 2, 3, 4, 5, 0] rfl)
  refine vLoop_ind (B := (m_X10_obey_L2)) (fun σ => ∀ (H : Heap) (locs : List Loc) (ls : Array Slot), Wd g 20 h (cM g h σ.2) s H locs → lv_has ls 7 [(0, .ref (h 0)), (1, .int σ.1)] → W p l e (rW 4 98) s m AV below meth c H locs 0 0 Q (F0 m 2 ls [])) (fun z' => z' = t_3) ?_ FUEL _ _ hL_72 rfl _ _ _ hw (lv_sub hl [1, 0] rfl)
  intro σ z_70 hz_67 hn_68 hx_69
  obtain ⟨y_1, t_2⟩ := σ
  intro H locs ls hw hl
  replace hw : Wd g 20 h (cM g h t_2) s H locs := hw
  replace hl : lv_has ls 7 [(0, .ref (h 0)), (1, .int y_1)] := hl
  unfold m_X10_obey_L2 at hz_67
  replace hz_67 := un_e hz_67
  refine lv_iload_n X.1 X.2.1 dX10_obey_2 rfl (lv_at hl 1 rfl) ?_
  refine lv_bipush (v := 10) X.1 X.2.1 dX10_obey_3 (by decide) ?_
  refine lv_icmp_ge (tgt := 26) X.1 X.2.1 dX10_obey_5 (by decide) (fun c_74 => ?_) (fun c_74 => ?_)
  · replace hz_67 := it_p hz_67 c_74
    obtain rfl := hx_69 _ (Option.some.inj hz_67).symm
    exact J_71 _ _ _ hw (lv_sub hl [0] rfl)
  · replace hz_67 := it_n hz_67 c_74
    refine lv_aload_n X.1 X.2.1 dX10_obey_8 rfl (lv_at hl 0 rfl) ?_
    refine gX10_before X hw wq_6_3 dX10_obey_9 ?_
    refine lv_iload_n X.1 X.2.1 dX10_obey_12 rfl (lv_at hl 1 rfl) ?_
    refine lv_aload_n X.1 X.2.1 dX10_obey_13 rfl (lv_at hl 0 rfl) ?_
    refine gX10_seens X hw wq_5_16 dX10_obey_14 ?_
    refine lv_iload_n X.1 X.2.1 dX10_obey_17 rfl (lv_at hl 1 rfl) ?_
    replace hz_67 := gd_e hz_67
    obtain ⟨g_75, hz_67⟩ := hz_67
    refine lMA5 X hw g_75 dX10_obey_18 ?_
    replace hz_67 := gd_e hz_67
    obtain ⟨g_76, hz_67⟩ := hz_67
    refine sMA16 X hw g_76 dX10_obey_19 (fun H locs hw => ?_)
    obtain ⟨t_77, et_77⟩ : ∃ y, y = wA t_2 16 y_1.toNatClampNeg (t_2.2.2.1 5 y_1.toNatClampNeg) := ⟨_, rfl⟩
    rw [← et_77] at hw
    replace hz_67 := lt_e hz_67 et_77
    obtain ⟨x_78, ex_78⟩ : ∃ y : Int32, y = y_1 + 1 := ⟨_, rfl⟩
    replace hz_67 := lt_e hz_67 ex_78
    refine lv_iinc (v := x_78) (lv' := [(1, .int x_78), (0, .ref (h 0))]) X.1 X.2.1 dX10_obey_20 hl (k := 1) rfl (by rw [ex_78]; rfl) (by decide) rfl (fun ls hl => ?_)
    refine lv_goto (tgt := 2) X.1 X.2.1 dX10_obey_23 (by decide) ?_
    exact hn_68 _ (Option.some.inj hz_67).symm _ _ _ hw (lv_sub hl [1, 0] rfl)
def m_X10_wrong (t : ST) : Option (Int32) := some (t.1 10)
theorem yo_X10_wrong : yX10_wrong.cls = RX10 ∧ yX10_wrong.cls ≠ "java/lang/invoke/MethodHandle" ∧ yX10_wrong.cls ≠ "java/lang/invoke/VarHandle" ∧ (parseMethodDescriptor yX10_wrong.desc).map (fun d => d.parameters.length) = some 0 := by decide +kernel
set_option maxHeartbeats 4000000 in
set_option maxRecDepth 100000 in
theorem c_X10_wrong {l : Launch} {g : gT} {h : Nat → Nat} {t : ST} {r : Int32} (hm : m_X10_wrong t = some r) : MetI l g yX10_wrong cX10_wrong 1 (some .int) 0 0 20 h (cM g h t) (cM g h t) [.ref (h 0)] r := by
  refine MetI.ofX (by decide +kernel) (Nat.le_of_ble_eq_true rfl) ?_
  intro p e s m below meth c AV Q X hret ls hw hl
  replace X : Cx g p s m AV c cX10_wrong RX10 1 := X
  replace hl : lv_has ls 1 [(0, .ref (h 0))] := hl
  unfold m_X10_wrong at hm
  refine lv_aload_n X.1 X.2.1 dX10_wrong_0 rfl (lv_at hl 0 rfl) ?_
  refine gX10_wrongBy X hw wq_45_6 dX10_wrong_1 ?_
  obtain rfl := Option.some.inj hm
  exact hret _ _ _ _ hw dX10_wrong_4
def m_X10_write_L59 (x1 : Int32) (j_8 : Int32) (σ : Int32 × ST) : Option ((Int32 × ST) ⊕ (ST)) := (fun (q_30 : Int32 × ST) => un q_30 (fun y_9 t_10 => if j_8 ≤ y_9 then some (.inr t_10) else gd (¬ (2 : Int32) = 0) (gd (¬ (2 : Int32) = 0) (Option.bind (m_X10_worthBy t_10 ((y_9 / (2 : Int32))) ((y_9 - y_9 / (2 : Int32) * (2 : Int32)))) (fun (q_26 : Int64 × ST) => un q_26 (fun r_24 t_25 => gd (¬ ((((40 : Int32) * x1) + y_9) < 0 ∨ 120 ≤ (((40 : Int32) * x1) + y_9).toNatClampNeg)) (lt (wB t_25 0 (((40 : Int32) * x1) + y_9).toNatClampNeg r_24) (fun t_28 => lt (y_9 + 1) (fun x_29 => some (.inl (x_29, t_28))))))))))) σ
def m_X10_write (t : ST) (x1 : Int32) : Option (Int32 × ST) := Option.bind (m_X10_isSheet x1) (fun (r_2 : Int32) => if r_2 = 0 then some ((-2 : Int32), t) else gd (¬ (x1 < 0 ∨ 3 ≤ x1.toNatClampNeg)) (if (t.2.2.1 0 x1.toNatClampNeg) = (-1 : Int32) then Option.bind (m_X10_finds t (1 : Int32)) (fun (q_37 : Int32 × ST) => un q_37 (fun r_35 t_36 => some (r_35, t_36))) else gd (¬ (x1 < 0 ∨ 3 ≤ x1.toNatClampNeg)) (Option.bind (if ((2 : Int32) * (t.1 4)) ≤ (t.2.2.1 0 x1.toNatClampNeg) then some ((2 : Int32) * (t.1 4)) else gd (¬ (x1 < 0 ∨ 3 ≤ x1.toNatClampNeg)) (some (t.2.2.1 0 x1.toNatClampNeg))) (fun (j_8 : Int32) => Option.bind (vLoop (m_X10_write_L59 x1 j_8) FUEL ((0 : Int32), t)) (fun (t_11 : ST) => some (j_8, t_11))))))
theorem yo_X10_write : yX10_write.cls = RX10 ∧ yX10_write.cls ≠ "java/lang/invoke/MethodHandle" ∧ yX10_write.cls ≠ "java/lang/invoke/VarHandle" ∧ (parseMethodDescriptor yX10_write.desc).map (fun d => d.parameters.length) = some 1 := by decide +kernel
set_option maxHeartbeats 4000000 in
set_option maxRecDepth 100000 in
theorem c_X10_write {l : Launch} {g : gT} {h : Nat → Nat} {t : ST} {x1 : Int32} {r : Int32} {t' : ST} (hm : m_X10_write t x1 = some (r, t')) : MetI l g yX10_write cX10_write 4 (some .int) 4 100 20 h (cM g h t) (cM g h t') [.ref (h 0), .int x1] r := by
  refine MetI.ofX (by decide +kernel) (Nat.le_of_ble_eq_true rfl) ?_
  intro p e s m below meth c AV Q X hret ls hw hl
  replace X : Cx g p s m AV c cX10_write RX10 4 := X
  replace hl : lv_has ls 4 [(0, .ref (h 0)), (1, .int x1)] := hl
  unfold m_X10_write at hm
  refine lv_iload_n X.1 X.2.1 dX10_write_0 rfl (lv_at hl 1 rfl) ?_
  replace hm := ob_e hm
  obtain ⟨r_2, h_1, hm⟩ := hm
  refine k_Si (As := [.int x1]) X hl.1 hw (c_X10_isSheet h_1) ⟨wq_47_13, wq_47_14, wq_1_5, wq_47_15⟩ yo_X10_isSheet rfl ⟨Nat.le_of_ble_eq_true rfl, Nat.le_of_ble_eq_true rfl⟩ (Nat.le_of_ble_eq_true rfl) dX10_write_1 (fun H locs hw => ?_)
  refine lv_if_ne (tgt := 10) X.1 X.2.1 dX10_write_4 (by decide) (fun c_3 => ?_) (fun c_3 => ?_)
  · replace hm := it_n hm c_3
    refine lv_aload_n X.1 X.2.1 dX10_write_10 rfl (lv_at hl 0 rfl) ?_
    refine gX10_sizes X hw wq_5_9 dX10_write_11 ?_
    refine lv_iload_n X.1 X.2.1 dX10_write_14 rfl (lv_at hl 1 rfl) ?_
    replace hm := gd_e hm
    obtain ⟨g_4, hm⟩ := hm
    refine lMA0 X hw g_4 dX10_write_15 ?_
    refine lv_iconst (v := -1) X.1 X.2.1 dX10_write_16 (by decide) ?_
    refine lv_icmp_ne (tgt := 26) X.1 X.2.1 dX10_write_17 (by decide) (fun c_5 => ?_) (fun c_5 => ?_)
    · replace hm := it_n hm c_5
      refine lv_aload_n X.1 X.2.1 dX10_write_26 rfl (lv_at hl 0 rfl) ?_
      refine gX10_sizes X hw wq_5_9 dX10_write_27 ?_
      refine lv_iload_n X.1 X.2.1 dX10_write_30 rfl (lv_at hl 1 rfl) ?_
      replace hm := gd_e hm
      obtain ⟨g_6, hm⟩ := hm
      refine lMA0 X hw g_6 dX10_write_31 ?_
      refine lv_iconst (v := 2) X.1 X.2.1 dX10_write_32 (by decide) ?_
      refine lv_aload_n X.1 X.2.1 dX10_write_33 rfl (lv_at hl 0 rfl) ?_
      refine gX10_links X hw wq_7_2 dX10_write_34 ?_
      refine lv_imul X.1 X.2.1 dX10_write_37 ?_
      replace hm := ob_e hm
      obtain ⟨j_8, hg_31, hm⟩ := hm
      have J_32 : ∀ (H : Heap) (locs : List Loc) (ls : Array Slot), Wd g 20 h (cM g h t) s H locs → lv_has ls 4 [(0, .ref (h 0)), (1, .int x1)] → W p l e (rW 4 100) s m AV below meth c H locs 0 0 Q (F0 m 56 ls [.int j_8]) := by
        intro H locs ls hw hl
        refine lv_istore_n (lv' := [(2, .int j_8), (0, .ref (h 0)), (1, .int x1)]) X.1 X.2.1 dX10_write_56 rfl hl (by decide) rfl (fun ls hl => ?_)
        refine lv_iconst (v := 0) X.1 X.2.1 dX10_write_57 (by decide) ?_
        refine lv_istore_n (lv' := [(3, .int (0 : Int32)), (2, .int j_8), (0, .ref (h 0)), (1, .int x1)]) X.1 X.2.1 dX10_write_58 rfl hl (by decide) rfl (fun ls hl => ?_)
        replace hm := ob_e hm
        obtain ⟨t_11, hL_18, hm⟩ := hm
        have J_17 : ∀ (H : Heap) (locs : List Loc) (ls : Array Slot), Wd g 20 h (cM g h t_11) s H locs → lv_has ls 4 [(2, .int j_8)] → W p l e (rW 4 100) s m AV below meth c H locs 0 0 Q (F0 m 91 ls []) := by
          intro H locs ls hw hl
          refine lv_iload_n X.1 X.2.1 dX10_write_91 rfl (lv_at hl 0 rfl) ?_
          obtain ⟨rfl, rfl⟩ := Prod.mk.inj (Option.some.inj hm)
          exact hret _ _ _ _ hw dX10_write_92
        refine vLoop_ind (B := (m_X10_write_L59 x1 j_8)) (fun σ => ∀ (H : Heap) (locs : List Loc) (ls : Array Slot), Wd g 20 h (cM g h σ.2) s H locs → lv_has ls 4 [(0, .ref (h 0)), (1, .int x1), (2, .int j_8), (3, .int σ.1)] → W p l e (rW 4 100) s m AV below meth c H locs 0 0 Q (F0 m 59 ls [])) (fun z' => z' = t_11) ?_ FUEL _ _ hL_18 rfl _ _ _ hw (lv_sub hl [2, 3, 1, 0] rfl)
        intro σ z_16 hz_13 hn_14 hx_15
        obtain ⟨y_9, t_10⟩ := σ
        intro H locs ls hw hl
        replace hw : Wd g 20 h (cM g h t_10) s H locs := hw
        replace hl : lv_has ls 4 [(0, .ref (h 0)), (1, .int x1), (2, .int j_8), (3, .int y_9)] := hl
        unfold m_X10_write_L59 at hz_13
        replace hz_13 := un_e hz_13
        refine lv_iload_n X.1 X.2.1 dX10_write_59 rfl (lv_at hl 3 rfl) ?_
        refine lv_iload_n X.1 X.2.1 dX10_write_60 rfl (lv_at hl 2 rfl) ?_
        refine lv_icmp_ge (tgt := 91) X.1 X.2.1 dX10_write_61 (by decide) (fun c_20 => ?_) (fun c_20 => ?_)
        · replace hz_13 := it_p hz_13 c_20
          obtain rfl := hx_15 _ (Option.some.inj hz_13).symm
          exact J_17 _ _ _ hw (lv_sub hl [2] rfl)
        · replace hz_13 := it_n hz_13 c_20
          refine lv_aload_n X.1 X.2.1 dX10_write_64 rfl (lv_at hl 0 rfl) ?_
          refine gX10_items X hw wq_5_10 dX10_write_65 ?_
          refine lv_bipush (v := 40) X.1 X.2.1 dX10_write_68 (by decide) ?_
          refine lv_iload_n X.1 X.2.1 dX10_write_70 rfl (lv_at hl 1 rfl) ?_
          refine lv_imul X.1 X.2.1 dX10_write_71 ?_
          refine lv_iload_n X.1 X.2.1 dX10_write_72 rfl (lv_at hl 3 rfl) ?_
          refine lv_iadd X.1 X.2.1 dX10_write_73 ?_
          refine lv_aload_n X.1 X.2.1 dX10_write_74 rfl (lv_at hl 0 rfl) ?_
          refine lv_iload_n X.1 X.2.1 dX10_write_75 rfl (lv_at hl 3 rfl) ?_
          refine lv_iconst (v := 2) X.1 X.2.1 dX10_write_76 (by decide) ?_
          replace hz_13 := gd_e hz_13
          obtain ⟨g_21, hz_13⟩ := hz_13
          refine lv_idiv X.1 X.2.1 dX10_write_77 g_21 ?_
          refine lv_iload_n X.1 X.2.1 dX10_write_78 rfl (lv_at hl 3 rfl) ?_
          refine lv_iconst (v := 2) X.1 X.2.1 dX10_write_79 (by decide) ?_
          replace hz_13 := gd_e hz_13
          obtain ⟨g_22, hz_13⟩ := hz_13
          refine lv_irem X.1 X.2.1 dX10_write_80 g_22 ?_
          replace hz_13 := ob_e hz_13
          obtain ⟨⟨r_24, t_25⟩, h_23, hz_13⟩ := hz_13
          replace hz_13 := un_e hz_13
          refine k_Vl (k := 0) (As := [.int (y_9 / (2 : Int32)), .int (y_9 - y_9 / (2 : Int32) * (2 : Int32))]) X hl.1 hw (c_X10_worthBy h_23) (by decide) (he_X10 g h _) rfl ⟨wq_37_23, wq_38_0, wq_38_1, wq_1_5, wq_38_2⟩ yo_X10_worthBy rfl ⟨Nat.le_of_ble_eq_true rfl, Nat.le_of_ble_eq_true rfl⟩ (Nat.le_of_ble_eq_true rfl) dX10_write_81 (fun H locs hw => ?_)
          replace hz_13 := gd_e hz_13
          obtain ⟨g_27, hz_13⟩ := hz_13
          refine sMB0 X hw g_27 dX10_write_84 (fun H locs hw => ?_)
          obtain ⟨t_28, et_28⟩ : ∃ y, y = wB t_25 0 (((40 : Int32) * x1) + y_9).toNatClampNeg r_24 := ⟨_, rfl⟩
          rw [← et_28] at hw
          replace hz_13 := lt_e hz_13 et_28
          obtain ⟨x_29, ex_29⟩ : ∃ y : Int32, y = y_9 + 1 := ⟨_, rfl⟩
          replace hz_13 := lt_e hz_13 ex_29
          refine lv_iinc (v := x_29) (lv' := [(3, .int x_29), (0, .ref (h 0)), (1, .int x1), (2, .int j_8)]) X.1 X.2.1 dX10_write_85 hl (k := 3) rfl (by rw [ex_29]; rfl) (by decide) rfl (fun ls hl => ?_)
          refine lv_goto (tgt := 59) X.1 X.2.1 dX10_write_88 (by decide) ?_
          exact hn_14 _ (Option.some.inj hz_13).symm _ _ _ hw (lv_sub hl [1, 2, 3, 0] rfl)
      refine lv_icmp_ge (tgt := 50) X.1 X.2.1 dX10_write_38 (by decide) (fun c_7 => ?_) (fun c_7 => ?_)
      · replace hg_31 := it_p hg_31 c_7
        refine lv_iconst (v := 2) X.1 X.2.1 dX10_write_50 (by decide) ?_
        refine lv_aload_n X.1 X.2.1 dX10_write_51 rfl (lv_at hl 0 rfl) ?_
        refine gX10_links X hw wq_7_2 dX10_write_52 ?_
        refine lv_imul X.1 X.2.1 dX10_write_55 ?_
        obtain rfl := Option.some.inj hg_31
        exact J_32 _ _ _ hw (lv_sub hl [0, 1] rfl)
      · replace hg_31 := it_n hg_31 c_7
        refine lv_aload_n X.1 X.2.1 dX10_write_41 rfl (lv_at hl 0 rfl) ?_
        refine gX10_sizes X hw wq_5_9 dX10_write_42 ?_
        refine lv_iload_n X.1 X.2.1 dX10_write_45 rfl (lv_at hl 1 rfl) ?_
        replace hg_31 := gd_e hg_31
        obtain ⟨g_33, hg_31⟩ := hg_31
        refine lMA0 X hw g_33 dX10_write_46 ?_
        refine lv_goto (tgt := 56) X.1 X.2.1 dX10_write_47 (by decide) ?_
        obtain rfl := Option.some.inj hg_31
        exact J_32 _ _ _ hw (lv_sub hl [0, 1] rfl)
    · replace hm := it_p hm c_5
      refine lv_aload_n X.1 X.2.1 dX10_write_20 rfl (lv_at hl 0 rfl) ?_
      refine lv_iconst (v := 1) X.1 X.2.1 dX10_write_21 (by decide) ?_
      replace hm := ob_e hm
      obtain ⟨⟨r_35, t_36⟩, h_34, hm⟩ := hm
      replace hm := un_e hm
      refine k_Vi (k := 0) (As := [.int (1 : Int32)]) X hl.1 hw (c_X10_finds h_34) (by decide) (he_X10 g h _) rfl ⟨wq_47_16, wq_47_17, wq_47_18, wq_1_5, wq_47_19⟩ yo_X10_finds rfl ⟨Nat.le_of_ble_eq_true rfl, Nat.le_of_ble_eq_true rfl⟩ (Nat.le_of_ble_eq_true rfl) dX10_write_22 (fun H locs hw => ?_)
      obtain ⟨rfl, rfl⟩ := Prod.mk.inj (Option.some.inj hm)
      exact hret _ _ _ _ hw dX10_write_25
  · replace hm := it_p hm c_3
    refine lv_bipush (v := -2) X.1 X.2.1 dX10_write_7 (by decide) ?_
    obtain ⟨rfl, rfl⟩ := Prod.mk.inj (Option.some.inj hm)
    exact hret _ _ _ _ hw dX10_write_9
def m_X10_unseen_L4 (t : ST) (σ : Int32 × Int32) : Option ((Int32 × Int32) ⊕ (Int32)) := (fun (q_18 : Int32 × Int32) => un q_18 (fun y_1 y_2 => if (t.1 4) ≤ y_2 then some (.inr y_1) else gd (¬ (y_2 < 0 ∨ 10 ≤ y_2.toNatClampNeg)) (if (t.2.2.1 5 y_2.toNatClampNeg) = 0 then lt (y_1 + (1 : Int32)) (fun x_16 => lt (y_2 + 1) (fun x_17 => some (.inl (x_16, x_17)))) else lt (y_1 + (0 : Int32)) (fun x_14 => lt (y_2 + 1) (fun x_15 => some (.inl (x_14, x_15))))))) σ
def m_X10_unseen (t : ST) : Option (Int32) := Option.bind (vLoop (m_X10_unseen_L4 t) FUEL ((0 : Int32), (0 : Int32))) (fun (j_3 : Int32) => some j_3)
theorem yo_X10_unseen : yX10_unseen.cls = RX10 ∧ yX10_unseen.cls ≠ "java/lang/invoke/MethodHandle" ∧ yX10_unseen.cls ≠ "java/lang/invoke/VarHandle" ∧ (parseMethodDescriptor yX10_unseen.desc).map (fun d => d.parameters.length) = some 0 := by decide +kernel
set_option maxHeartbeats 4000000 in
set_option maxRecDepth 100000 in
theorem c_X10_unseen {l : Launch} {g : gT} {h : Nat → Nat} {t : ST} {r : Int32} (hm : m_X10_unseen t = some r) : MetI l g yX10_unseen cX10_unseen 3 (some .int) 0 0 20 h (cM g h t) (cM g h t) [.ref (h 0)] r := by
  refine MetI.ofX (by decide +kernel) (Nat.le_of_ble_eq_true rfl) ?_
  intro p e s m below meth c AV Q X hret ls hw hl
  replace X : Cx g p s m AV c cX10_unseen RX10 3 := X
  replace hl : lv_has ls 3 [(0, .ref (h 0))] := hl
  unfold m_X10_unseen at hm
  refine lv_iconst (v := 0) X.1 X.2.1 dX10_unseen_0 (by decide) ?_
  refine lv_istore_n (lv' := [(1, .int (0 : Int32)), (0, .ref (h 0))]) X.1 X.2.1 dX10_unseen_1 rfl hl (by decide) rfl (fun ls hl => ?_)
  refine lv_iconst (v := 0) X.1 X.2.1 dX10_unseen_2 (by decide) ?_
  refine lv_istore_n (lv' := [(2, .int (0 : Int32)), (1, .int (0 : Int32)), (0, .ref (h 0))]) X.1 X.2.1 dX10_unseen_3 rfl hl (by decide) rfl (fun ls hl => ?_)
  replace hm := ob_e hm
  obtain ⟨j_3, hL_9, hm⟩ := hm
  have J_8 : ∀ (H : Heap) (locs : List Loc) (ls : Array Slot), Wd g 20 h (cM g h t) s H locs → lv_has ls 3 [(1, .int j_3)] → W p l e (rW 0 0) s m AV below meth c H locs 0 0 Q (F0 m 35 ls []) := by
    intro H locs ls hw hl
    refine lv_iload_n X.1 X.2.1 dX10_unseen_35 rfl (lv_at hl 0 rfl) ?_
    obtain rfl := Option.some.inj hm
    exact hret _ _ _ _ hw dX10_unseen_36
  refine vLoop_ind (B := (m_X10_unseen_L4 t)) (fun σ => ∀ (H : Heap) (locs : List Loc) (ls : Array Slot), Wd g 20 h (cM g h t) s H locs → lv_has ls 3 [(0, .ref (h 0)), (1, .int σ.1), (2, .int σ.2)] → W p l e (rW 0 0) s m AV below meth c H locs 0 0 Q (F0 m 4 ls [])) (fun z' => z' = j_3) ?_ FUEL _ _ hL_9 rfl _ _ _ hw (lv_sub hl [2, 1, 0] rfl)
  intro σ z_7 hz_4 hn_5 hx_6
  obtain ⟨y_1, y_2⟩ := σ
  intro H locs ls hw hl
  replace hw : Wd g 20 h (cM g h t) s H locs := hw
  replace hl : lv_has ls 3 [(0, .ref (h 0)), (1, .int y_1), (2, .int y_2)] := hl
  unfold m_X10_unseen_L4 at hz_4
  replace hz_4 := un_e hz_4
  refine lv_iload_n X.1 X.2.1 dX10_unseen_4 rfl (lv_at hl 2 rfl) ?_
  refine lv_aload_n X.1 X.2.1 dX10_unseen_5 rfl (lv_at hl 0 rfl) ?_
  refine gX10_links X hw wq_7_2 dX10_unseen_6 ?_
  refine lv_icmp_ge (tgt := 35) X.1 X.2.1 dX10_unseen_9 (by decide) (fun c_11 => ?_) (fun c_11 => ?_)
  · replace hz_4 := it_p hz_4 c_11
    obtain rfl := hx_6 _ (Option.some.inj hz_4).symm
    exact J_8 _ _ _ hw (lv_sub hl [1] rfl)
  · replace hz_4 := it_n hz_4 c_11
    refine lv_iload_n X.1 X.2.1 dX10_unseen_12 rfl (lv_at hl 1 rfl) ?_
    refine lv_aload_n X.1 X.2.1 dX10_unseen_13 rfl (lv_at hl 0 rfl) ?_
    refine gX10_seens X hw wq_5_16 dX10_unseen_14 ?_
    refine lv_iload_n X.1 X.2.1 dX10_unseen_17 rfl (lv_at hl 2 rfl) ?_
    replace hz_4 := gd_e hz_4
    obtain ⟨g_12, hz_4⟩ := hz_4
    refine lMA5 X hw g_12 dX10_unseen_18 ?_
    refine lv_if_ne (tgt := 26) X.1 X.2.1 dX10_unseen_19 (by decide) (fun c_13 => ?_) (fun c_13 => ?_)
    · replace hz_4 := it_n hz_4 c_13
      refine lv_iconst (v := 0) X.1 X.2.1 dX10_unseen_26 (by decide) ?_
      refine lv_iadd X.1 X.2.1 dX10_unseen_27 ?_
      refine lv_topi (fun x_14 ex_14 => ?_)
      replace hz_4 := lt_e hz_4 ex_14
      refine lv_istore_n (lv' := [(1, .int x_14), (0, .ref (h 0)), (2, .int y_2)]) X.1 X.2.1 dX10_unseen_28 rfl hl (by decide) rfl (fun ls hl => ?_)
      obtain ⟨x_15, ex_15⟩ : ∃ y : Int32, y = y_2 + 1 := ⟨_, rfl⟩
      replace hz_4 := lt_e hz_4 ex_15
      refine lv_iinc (v := x_15) (lv' := [(2, .int x_15), (1, .int x_14), (0, .ref (h 0))]) X.1 X.2.1 dX10_unseen_29 hl (k := 2) rfl (by rw [ex_15]; rfl) (by decide) rfl (fun ls hl => ?_)
      refine lv_goto (tgt := 4) X.1 X.2.1 dX10_unseen_32 (by decide) ?_
      exact hn_5 _ (Option.some.inj hz_4).symm _ _ _ hw (lv_sub hl [2, 1, 0] rfl)
    · replace hz_4 := it_p hz_4 c_13
      refine lv_iconst (v := 1) X.1 X.2.1 dX10_unseen_22 (by decide) ?_
      refine lv_goto (tgt := 27) X.1 X.2.1 dX10_unseen_23 (by decide) ?_
      refine lv_iadd X.1 X.2.1 dX10_unseen_27 ?_
      refine lv_topi (fun x_16 ex_16 => ?_)
      replace hz_4 := lt_e hz_4 ex_16
      refine lv_istore_n (lv' := [(1, .int x_16), (0, .ref (h 0)), (2, .int y_2)]) X.1 X.2.1 dX10_unseen_28 rfl hl (by decide) rfl (fun ls hl => ?_)
      obtain ⟨x_17, ex_17⟩ : ∃ y : Int32, y = y_2 + 1 := ⟨_, rfl⟩
      replace hz_4 := lt_e hz_4 ex_17
      refine lv_iinc (v := x_17) (lv' := [(2, .int x_17), (1, .int x_16), (0, .ref (h 0))]) X.1 X.2.1 dX10_unseen_29 hl (k := 2) rfl (by rw [ex_17]; rfl) (by decide) rfl (fun ls hl => ?_)
      refine lv_goto (tgt := 4) X.1 X.2.1 dX10_unseen_32 (by decide) ?_
      exact hn_5 _ (Option.some.inj hz_4).symm _ _ _ hw (lv_sub hl [2, 1, 0] rfl)
def m_X10_allReach_L4 (t : ST) (σ : Int32 × Int32) : Option ((Int32 × Int32) ⊕ (Int32)) := (fun (q_23 : Int32 × Int32) => un q_23 (fun y_1 y_2 => if (t.1 4) ≤ y_2 then some (.inr y_1) else gd (¬ (y_2 < 0 ∨ 10 ≤ y_2.toNatClampNeg)) (if (t.2.2.1 5 y_2.toNatClampNeg) = (2 : Int32) then lt (y_1 ||| (0 : Int32)) (fun x_21 => lt (y_2 + 1) (fun x_22 => some (.inl (x_21, x_22)))) else lt (y_1 ||| ((1 : Int32) <<< (y_2 &&& 31))) (fun x_19 => lt (y_2 + 1) (fun x_20 => some (.inl (x_19, x_20))))))) σ
def m_X10_allReach (t : ST) : Option (Int32) := Option.bind (vLoop (m_X10_allReach_L4 t) FUEL ((0 : Int32), (0 : Int32))) (fun (j_3 : Int32) => Option.bind (m_X10_wanted t) (fun (r_5 : Int32) => Option.bind (m_X10_reaches t j_3 r_5) (fun (r_7 : Int32) => if r_7 = 0 then some (0 : Int32) else some (1 : Int32))))
theorem yo_X10_allReach : yX10_allReach.cls = RX10 ∧ yX10_allReach.cls ≠ "java/lang/invoke/MethodHandle" ∧ yX10_allReach.cls ≠ "java/lang/invoke/VarHandle" ∧ (parseMethodDescriptor yX10_allReach.desc).map (fun d => d.parameters.length) = some 0 := by decide +kernel
set_option maxHeartbeats 4000000 in
set_option maxRecDepth 100000 in
theorem c_X10_allReach {l : Launch} {g : gT} {h : Nat → Nat} {t : ST} {r : Int32} (hm : m_X10_allReach t = some r) : MetI l g yX10_allReach cX10_allReach 3 (some .int) 2 48 20 h (cM g h t) (cM g h t) [.ref (h 0)] r := by
  refine MetI.ofX (by decide +kernel) (Nat.le_of_ble_eq_true rfl) ?_
  intro p e s m below meth c AV Q X hret ls hw hl
  replace X : Cx g p s m AV c cX10_allReach RX10 3 := X
  replace hl : lv_has ls 3 [(0, .ref (h 0))] := hl
  unfold m_X10_allReach at hm
  refine lv_iconst (v := 0) X.1 X.2.1 dX10_allReach_0 (by decide) ?_
  refine lv_istore_n (lv' := [(1, .int (0 : Int32)), (0, .ref (h 0))]) X.1 X.2.1 dX10_allReach_1 rfl hl (by decide) rfl (fun ls hl => ?_)
  refine lv_iconst (v := 0) X.1 X.2.1 dX10_allReach_2 (by decide) ?_
  refine lv_istore_n (lv' := [(2, .int (0 : Int32)), (1, .int (0 : Int32)), (0, .ref (h 0))]) X.1 X.2.1 dX10_allReach_3 rfl hl (by decide) rfl (fun ls hl => ?_)
  replace hm := ob_e hm
  obtain ⟨j_3, hL_14, hm⟩ := hm
  have J_13 : ∀ (H : Heap) (locs : List Loc) (ls : Array Slot), Wd g 20 h (cM g h t) s H locs → lv_has ls 3 [(0, .ref (h 0)), (1, .int j_3)] → W p l e (rW 2 48) s m AV below meth c H locs 0 0 Q (F0 m 38 ls []) := by
    intro H locs ls hw hl
    refine lv_aload_n X.1 X.2.1 dX10_allReach_38 rfl (lv_at hl 0 rfl) ?_
    refine lv_iload_n X.1 X.2.1 dX10_allReach_39 rfl (lv_at hl 1 rfl) ?_
    refine lv_aload_n X.1 X.2.1 dX10_allReach_40 rfl (lv_at hl 0 rfl) ?_
    replace hm := ob_e hm
    obtain ⟨r_5, h_4, hm⟩ := hm
    refine k_Vi (k := 0) (As := []) X hl.1 hw (c_X10_wanted h_4) (by decide) (he_X10 g h _) rfl ⟨wq_18_8, wq_18_9, wq_18_10, wq_1_5, wq_18_11⟩ yo_X10_wanted rfl ⟨Nat.le_of_ble_eq_true rfl, Nat.le_of_ble_eq_true rfl⟩ (Nat.le_of_ble_eq_true rfl) dX10_allReach_41 (fun H locs hw => ?_)
    replace hm := ob_e hm
    obtain ⟨r_7, h_6, hm⟩ := hm
    refine k_Vi (k := 0) (As := [.int j_3, .int r_5]) X hl.1 hw (c_X10_reaches h_6) (by decide) (he_X10 g h _) rfl ⟨wq_31_2, wq_31_3, wq_31_4, wq_1_5, wq_31_5⟩ yo_X10_reaches rfl ⟨Nat.le_of_ble_eq_true rfl, Nat.le_of_ble_eq_true rfl⟩ (Nat.le_of_ble_eq_true rfl) dX10_allReach_44 (fun H locs hw => ?_)
    refine lv_if_eq (tgt := 54) X.1 X.2.1 dX10_allReach_47 (by decide) (fun c_8 => ?_) (fun c_8 => ?_)
    · replace hm := it_p hm c_8
      refine lv_iconst (v := 0) X.1 X.2.1 dX10_allReach_54 (by decide) ?_
      obtain rfl := Option.some.inj hm
      exact hret _ _ _ _ hw dX10_allReach_55
    · replace hm := it_n hm c_8
      refine lv_iconst (v := 1) X.1 X.2.1 dX10_allReach_50 (by decide) ?_
      refine lv_goto (tgt := 55) X.1 X.2.1 dX10_allReach_51 (by decide) ?_
      obtain rfl := Option.some.inj hm
      exact hret _ _ _ _ hw dX10_allReach_55
  refine vLoop_ind (B := (m_X10_allReach_L4 t)) (fun σ => ∀ (H : Heap) (locs : List Loc) (ls : Array Slot), Wd g 20 h (cM g h t) s H locs → lv_has ls 3 [(0, .ref (h 0)), (1, .int σ.1), (2, .int σ.2)] → W p l e (rW 2 48) s m AV below meth c H locs 0 0 Q (F0 m 4 ls [])) (fun z' => z' = j_3) ?_ FUEL _ _ hL_14 rfl _ _ _ hw (lv_sub hl [2, 1, 0] rfl)
  intro σ z_12 hz_9 hn_10 hx_11
  obtain ⟨y_1, y_2⟩ := σ
  intro H locs ls hw hl
  replace hw : Wd g 20 h (cM g h t) s H locs := hw
  replace hl : lv_has ls 3 [(0, .ref (h 0)), (1, .int y_1), (2, .int y_2)] := hl
  unfold m_X10_allReach_L4 at hz_9
  replace hz_9 := un_e hz_9
  refine lv_iload_n X.1 X.2.1 dX10_allReach_4 rfl (lv_at hl 2 rfl) ?_
  refine lv_aload_n X.1 X.2.1 dX10_allReach_5 rfl (lv_at hl 0 rfl) ?_
  refine gX10_links X hw wq_7_2 dX10_allReach_6 ?_
  refine lv_icmp_ge (tgt := 38) X.1 X.2.1 dX10_allReach_9 (by decide) (fun c_16 => ?_) (fun c_16 => ?_)
  · replace hz_9 := it_p hz_9 c_16
    obtain rfl := hx_11 _ (Option.some.inj hz_9).symm
    exact J_13 _ _ _ hw (lv_sub hl [0, 1] rfl)
  · replace hz_9 := it_n hz_9 c_16
    refine lv_iload_n X.1 X.2.1 dX10_allReach_12 rfl (lv_at hl 1 rfl) ?_
    refine lv_aload_n X.1 X.2.1 dX10_allReach_13 rfl (lv_at hl 0 rfl) ?_
    refine gX10_seens X hw wq_5_16 dX10_allReach_14 ?_
    refine lv_iload_n X.1 X.2.1 dX10_allReach_17 rfl (lv_at hl 2 rfl) ?_
    replace hz_9 := gd_e hz_9
    obtain ⟨g_17, hz_9⟩ := hz_9
    refine lMA5 X hw g_17 dX10_allReach_18 ?_
    refine lv_iconst (v := 2) X.1 X.2.1 dX10_allReach_19 (by decide) ?_
    refine lv_icmp_ne (tgt := 27) X.1 X.2.1 dX10_allReach_20 (by decide) (fun c_18 => ?_) (fun c_18 => ?_)
    · replace hz_9 := it_n hz_9 c_18
      refine lv_iconst (v := 1) X.1 X.2.1 dX10_allReach_27 (by decide) ?_
      refine lv_iload_n X.1 X.2.1 dX10_allReach_28 rfl (lv_at hl 2 rfl) ?_
      refine lv_ishl X.1 X.2.1 dX10_allReach_29 ?_
      refine lv_ior X.1 X.2.1 dX10_allReach_30 ?_
      refine lv_topi (fun x_19 ex_19 => ?_)
      replace hz_9 := lt_e hz_9 ex_19
      refine lv_istore_n (lv' := [(1, .int x_19), (0, .ref (h 0)), (2, .int y_2)]) X.1 X.2.1 dX10_allReach_31 rfl hl (by decide) rfl (fun ls hl => ?_)
      obtain ⟨x_20, ex_20⟩ : ∃ y : Int32, y = y_2 + 1 := ⟨_, rfl⟩
      replace hz_9 := lt_e hz_9 ex_20
      refine lv_iinc (v := x_20) (lv' := [(2, .int x_20), (1, .int x_19), (0, .ref (h 0))]) X.1 X.2.1 dX10_allReach_32 hl (k := 2) rfl (by rw [ex_20]; rfl) (by decide) rfl (fun ls hl => ?_)
      refine lv_goto (tgt := 4) X.1 X.2.1 dX10_allReach_35 (by decide) ?_
      exact hn_10 _ (Option.some.inj hz_9).symm _ _ _ hw (lv_sub hl [2, 1, 0] rfl)
    · replace hz_9 := it_p hz_9 c_18
      refine lv_iconst (v := 0) X.1 X.2.1 dX10_allReach_23 (by decide) ?_
      refine lv_goto (tgt := 30) X.1 X.2.1 dX10_allReach_24 (by decide) ?_
      refine lv_ior X.1 X.2.1 dX10_allReach_30 ?_
      refine lv_topi (fun x_21 ex_21 => ?_)
      replace hz_9 := lt_e hz_9 ex_21
      refine lv_istore_n (lv' := [(1, .int x_21), (0, .ref (h 0)), (2, .int y_2)]) X.1 X.2.1 dX10_allReach_31 rfl hl (by decide) rfl (fun ls hl => ?_)
      obtain ⟨x_22, ex_22⟩ : ∃ y : Int32, y = y_2 + 1 := ⟨_, rfl⟩
      replace hz_9 := lt_e hz_9 ex_22
      refine lv_iinc (v := x_22) (lv' := [(2, .int x_22), (1, .int x_21), (0, .ref (h 0))]) X.1 X.2.1 dX10_allReach_32 hl (k := 2) rfl (by rw [ex_22]; rfl) (by decide) rfl (fun ls hl => ?_)
      refine lv_goto (tgt := 4) X.1 X.2.1 dX10_allReach_35 (by decide) ?_
      exact hn_10 _ (Option.some.inj hz_9).symm _ _ _ hw (lv_sub hl [2, 1, 0] rfl)
def m_X10_count (t : ST) (x1 : Int32) : Option (Int32) := if x1 = 0 then some (t.1 1) else (if x1 = 1 then some (t.1 4) else (if x1 = 2 then some (t.1 2) else (if x1 = 3 then some (t.1 3) else (if x1 = 4 then Option.bind (m_X10_wanted t) (fun (r_7 : Int32) => Option.bind (m_X10_bitsIn r_7) (fun (r_9 : Int32) => some r_9)) else (if x1 = 5 then Option.bind (m_X10_unseen t) (fun (r_12 : Int32) => some r_12) else (if x1 = 6 then Option.bind (m_X10_allReach t) (fun (r_15 : Int32) => some r_15) else (if x1 = 7 then some (t.1 9) else (if x1 = 8 then some (t.1 0) else (some (-2 : Int32))))))))))
theorem yo_X10_count : yX10_count.cls = RX10 ∧ yX10_count.cls ≠ "java/lang/invoke/MethodHandle" ∧ yX10_count.cls ≠ "java/lang/invoke/VarHandle" ∧ (parseMethodDescriptor yX10_count.desc).map (fun d => d.parameters.length) = some 1 := by decide +kernel
set_option maxHeartbeats 4000000 in
set_option maxRecDepth 100000 in
theorem c_X10_count {l : Launch} {g : gT} {h : Nat → Nat} {t : ST} {x1 : Int32} {r : Int32} (hm : m_X10_count t x1 = some r) : MetI l g yX10_count cX10_count 2 (some .int) 3 70 20 h (cM g h t) (cM g h t) [.ref (h 0), .int x1] r := by
  refine MetI.ofX (by decide +kernel) (Nat.le_of_ble_eq_true rfl) ?_
  intro p e s m below meth c AV Q X hret ls hw hl
  replace X : Cx g p s m AV c cX10_count RX10 2 := X
  replace hl : lv_has ls 2 [(0, .ref (h 0)), (1, .int x1)] := hl
  unfold m_X10_count at hm
  refine lv_iload_n X.1 X.2.1 dX10_count_0 rfl (lv_at hl 1 rfl) ?_
  by_cases c_1 : x1 = 0
  · replace hm := it_p hm c_1
    refine x_tab X c_1 dX10_count_1 (off := 51) (tgt := 52) (by decide) (by decide) rfl (by decide) ?_
    refine lv_aload_n X.1 X.2.1 dX10_count_52 rfl (lv_at hl 0 rfl) ?_
    refine gX10_stations X hw wq_6_4 dX10_count_53 ?_
    obtain rfl := Option.some.inj hm
    exact hret _ _ _ _ hw dX10_count_56
  · replace hm := it_n hm c_1
    by_cases c_2 : x1 = 1
    · replace hm := it_p hm c_2
      refine x_tab X c_2 dX10_count_1 (off := 56) (tgt := 57) (by decide) (by decide) rfl (by decide) ?_
      refine lv_aload_n X.1 X.2.1 dX10_count_57 rfl (lv_at hl 0 rfl) ?_
      refine gX10_links X hw wq_7_2 dX10_count_58 ?_
      obtain rfl := Option.some.inj hm
      exact hret _ _ _ _ hw dX10_count_61
    · replace hm := it_n hm c_2
      by_cases c_3 : x1 = 2
      · replace hm := it_p hm c_3
        refine x_tab X c_3 dX10_count_1 (off := 61) (tgt := 62) (by decide) (by decide) rfl (by decide) ?_
        refine lv_aload_n X.1 X.2.1 dX10_count_62 rfl (lv_at hl 0 rfl) ?_
        refine gX10_source X hw wq_7_4 dX10_count_63 ?_
        obtain rfl := Option.some.inj hm
        exact hret _ _ _ _ hw dX10_count_66
      · replace hm := it_n hm c_3
        by_cases c_4 : x1 = 3
        · replace hm := it_p hm c_4
          refine x_tab X c_4 dX10_count_1 (off := 66) (tgt := 67) (by decide) (by decide) rfl (by decide) ?_
          refine lv_aload_n X.1 X.2.1 dX10_count_67 rfl (lv_at hl 0 rfl) ?_
          refine gX10_goals X hw wq_7_3 dX10_count_68 ?_
          obtain rfl := Option.some.inj hm
          exact hret _ _ _ _ hw dX10_count_71
        · replace hm := it_n hm c_4
          by_cases c_5 : x1 = 4
          · replace hm := it_p hm c_5
            refine x_tab X c_5 dX10_count_1 (off := 71) (tgt := 72) (by decide) (by decide) rfl (by decide) ?_
            refine lv_aload_n X.1 X.2.1 dX10_count_72 rfl (lv_at hl 0 rfl) ?_
            replace hm := ob_e hm
            obtain ⟨r_7, h_6, hm⟩ := hm
            refine k_Vi (k := 0) (As := []) X hl.1 hw (c_X10_wanted h_6) (by decide) (he_X10 g h _) rfl ⟨wq_18_8, wq_18_9, wq_18_10, wq_1_5, wq_18_11⟩ yo_X10_wanted rfl ⟨Nat.le_of_ble_eq_true rfl, Nat.le_of_ble_eq_true rfl⟩ (Nat.le_of_ble_eq_true rfl) dX10_count_73 (fun H locs hw => ?_)
            replace hm := ob_e hm
            obtain ⟨r_9, h_8, hm⟩ := hm
            refine k_Si (As := [.int r_7]) X hl.1 hw (c_X10_bitsIn h_8) ⟨wq_27_23, wq_28_0, wq_1_5, wq_28_1⟩ yo_X10_bitsIn rfl ⟨Nat.le_of_ble_eq_true rfl, Nat.le_of_ble_eq_true rfl⟩ (Nat.le_of_ble_eq_true rfl) dX10_count_76 (fun H locs hw => ?_)
            obtain rfl := Option.some.inj hm
            exact hret _ _ _ _ hw dX10_count_79
          · replace hm := it_n hm c_5
            by_cases c_10 : x1 = 5
            · replace hm := it_p hm c_10
              refine x_tab X c_10 dX10_count_1 (off := 79) (tgt := 80) (by decide) (by decide) rfl (by decide) ?_
              refine lv_aload_n X.1 X.2.1 dX10_count_80 rfl (lv_at hl 0 rfl) ?_
              replace hm := ob_e hm
              obtain ⟨r_12, h_11, hm⟩ := hm
              refine k_Vi (k := 0) (As := []) X hl.1 hw (c_X10_unseen h_11) (by decide) (he_X10 g h _) rfl ⟨wq_53_7, wq_53_8, wq_53_9, wq_1_5, wq_53_10⟩ yo_X10_unseen rfl ⟨Nat.le_of_ble_eq_true rfl, Nat.le_of_ble_eq_true rfl⟩ (Nat.le_of_ble_eq_true rfl) dX10_count_81 (fun H locs hw => ?_)
              obtain rfl := Option.some.inj hm
              exact hret _ _ _ _ hw dX10_count_84
            · replace hm := it_n hm c_10
              by_cases c_13 : x1 = 6
              · replace hm := it_p hm c_13
                refine x_tab X c_13 dX10_count_1 (off := 84) (tgt := 85) (by decide) (by decide) rfl (by decide) ?_
                refine lv_aload_n X.1 X.2.1 dX10_count_85 rfl (lv_at hl 0 rfl) ?_
                replace hm := ob_e hm
                obtain ⟨r_15, h_14, hm⟩ := hm
                refine k_Vi (k := 0) (As := []) X hl.1 hw (c_X10_allReach h_14) (by decide) (he_X10 g h _) rfl ⟨wq_53_11, wq_53_12, wq_53_13, wq_1_5, wq_53_14⟩ yo_X10_allReach rfl ⟨Nat.le_of_ble_eq_true rfl, Nat.le_of_ble_eq_true rfl⟩ (Nat.le_of_ble_eq_true rfl) dX10_count_86 (fun H locs hw => ?_)
                obtain rfl := Option.some.inj hm
                exact hret _ _ _ _ hw dX10_count_89
              · replace hm := it_n hm c_13
                by_cases c_16 : x1 = 7
                · replace hm := it_p hm c_16
                  refine x_tab X c_16 dX10_count_1 (off := 89) (tgt := 90) (by decide) (by decide) rfl (by decide) ?_
                  refine lv_aload_n X.1 X.2.1 dX10_count_90 rfl (lv_at hl 0 rfl) ?_
                  refine gX10_bytes X hw wq_40_9 dX10_count_91 ?_
                  obtain rfl := Option.some.inj hm
                  exact hret _ _ _ _ hw dX10_count_94
                · replace hm := it_n hm c_16
                  by_cases c_17 : x1 = 8
                  · replace hm := it_p hm c_17
                    refine x_tab X c_17 dX10_count_1 (off := 94) (tgt := 95) (by decide) (by decide) rfl (by decide) ?_
                    refine lv_aload_n X.1 X.2.1 dX10_count_95 rfl (lv_at hl 0 rfl) ?_
                    refine gX10_latest X hw wq_47_20 dX10_count_96 ?_
                    obtain rfl := Option.some.inj hm
                    exact hret _ _ _ _ hw dX10_count_99
                  · replace hm := it_n hm c_17
                    have tc_1 : ¬ x1.toInt = 0 := lv_neT c_1 (k := 0) (by decide)
                    have tc_2 : ¬ x1.toInt = 1 := lv_neT c_2 (k := 1) (by decide)
                    have tc_3 : ¬ x1.toInt = 2 := lv_neT c_3 (k := 2) (by decide)
                    have tc_4 : ¬ x1.toInt = 3 := lv_neT c_4 (k := 3) (by decide)
                    have tc_5 : ¬ x1.toInt = 4 := lv_neT c_5 (k := 4) (by decide)
                    have tc_10 : ¬ x1.toInt = 5 := lv_neT c_10 (k := 5) (by decide)
                    have tc_13 : ¬ x1.toInt = 6 := lv_neT c_13 (k := 6) (by decide)
                    have tc_16 : ¬ x1.toInt = 7 := lv_neT c_16 (k := 7) (by decide)
                    have tc_17 : ¬ x1.toInt = 8 := lv_neT c_17 (k := 8) (by decide)
                    refine lv_tableOut X.1 X.2.1 (tgt := 100) dX10_count_1 (by omega) (by decide) ?_
                    refine lv_bipush (v := -2) X.1 X.2.1 dX10_count_100 (by decide) ?_
                    obtain rfl := Option.some.inj hm
                    exact hret _ _ _ _ hw dX10_count_102
def m_X10_linkTells_L6 (x3 : Int32) (t : ST) (σ : Int64 × Int32) : Option ((Int64 × Int32) ⊕ (Int64)) := (fun (q_31 : Int64 × Int32) => un q_31 (fun y_1 y_2 => if (5 : Int32) ≤ y_2 then some (.inr y_1) else Option.bind (m_X10_infoBy t x3 y_2) (fun (r_28 : Int32) => lt (((31 : Int64) * y_1) + r_28.toInt64) (fun x_29 => lt (y_2 + 1) (fun x_30 => some (.inl (x_29, x_30))))))) σ
def m_X10_linkTells (t : ST) (x1 : Int64) (x3 : Int32) : Option (Int64 × ST) := Option.bind (vLoop (m_X10_linkTells_L6 x3 t) FUEL (x1, (0 : Int32))) (fun (j_3 : Int64) => Option.bind (m_X10_wideBy t x3) (fun (q_7 : Int32 × ST) => un q_7 (fun r_5 t_6 => lt (((31 : Int64) * j_3) + r_5.toInt64) (fun x_8 => Option.bind (m_X10_worthBy t_6 x3 (0 : Int32)) (fun (q_12 : Int64 × ST) => un q_12 (fun r_10 t_11 => lt (((31 : Int64) * x_8) + r_10) (fun x_13 => Option.bind (m_X10_worthBy t_11 x3 (1 : Int32)) (fun (q_17 : Int64 × ST) => un q_17 (fun r_15 t_16 => some ((((31 : Int64) * x_13) + r_15), t_16))))))))))
theorem yo_X10_linkTells : yX10_linkTells.cls = RX10 ∧ yX10_linkTells.cls ≠ "java/lang/invoke/MethodHandle" ∧ yX10_linkTells.cls ≠ "java/lang/invoke/VarHandle" ∧ (parseMethodDescriptor yX10_linkTells.desc).map (fun d => d.parameters.length) = some 2 := by decide +kernel
set_option maxHeartbeats 4000000 in
set_option maxRecDepth 100000 in
theorem c_X10_linkTells {l : Launch} {g : gT} {h : Nat → Nat} {t : ST} {x1 : Int64} {x3 : Int32} {r : Int64} {t' : ST} (hm : m_X10_linkTells t x1 x3 = some (r, t')) : MetL l g yX10_linkTells cX10_linkTells 7 (some .long) 4 103 20 h (cM g h t) (cM g h t') [.ref (h 0), .long x1, .int x3] r := by
  refine MetL.ofX (by decide +kernel) (Nat.le_of_ble_eq_true rfl) ?_
  intro p e s m below meth c AV Q X hret ls hw hl
  replace X : Cx g p s m AV c cX10_linkTells RX10 7 := X
  replace hl : lv_has ls 7 [(0, .ref (h 0)), (1, .long x1), (3, .int x3)] := hl
  unfold m_X10_linkTells at hm
  refine lv_lload_n X.1 X.2.1 dX10_linkTells_0 rfl (lv_at hl 1 rfl) ?_
  refine lv_lstore (lv' := [(4, .long x1), (0, .ref (h 0)), (1, .long x1), (3, .int x3)]) X.1 X.2.1 dX10_linkTells_1 hl (by decide) rfl (fun ls hl => ?_)
  refine lv_iconst (v := 0) X.1 X.2.1 dX10_linkTells_3 (by decide) ?_
  refine lv_istore (lv' := [(6, .int (0 : Int32)), (4, .long x1), (0, .ref (h 0)), (1, .long x1), (3, .int x3)]) X.1 X.2.1 dX10_linkTells_4 hl (by decide) rfl (fun ls hl => ?_)
  replace hm := ob_e hm
  obtain ⟨j_3, hL_24, hm⟩ := hm
  have J_23 : ∀ (H : Heap) (locs : List Loc) (ls : Array Slot), Wd g 20 h (cM g h t) s H locs → lv_has ls 7 [(0, .ref (h 0)), (3, .int x3), (4, .long j_3)] → W p l e (rW 4 103) s m AV below meth c H locs 0 0 Q (F0 m 35 ls []) := by
    intro H locs ls hw hl
    refine lv_ldc2 (v := 31) X.1 X.2.1 X.2.2.2.1 (X.2.2.2.2.1 _ wq_55_3) dX10_linkTells_35 ?_
    refine lv_lload X.1 X.2.1 dX10_linkTells_38 (lv_at hl 2 rfl) ?_
    refine lv_lmul X.1 X.2.1 dX10_linkTells_40 ?_
    refine lv_aload_n X.1 X.2.1 dX10_linkTells_41 rfl (lv_at hl 0 rfl) ?_
    refine lv_iload_n X.1 X.2.1 dX10_linkTells_42 rfl (lv_at hl 1 rfl) ?_
    replace hm := ob_e hm
    obtain ⟨⟨r_5, t_6⟩, h_4, hm⟩ := hm
    replace hm := un_e hm
    refine k_Vi (k := 0) (As := [.int x3]) X hl.1 hw (c_X10_wideBy h_4) (by decide) (he_X10 g h _) rfl ⟨wq_30_10, wq_30_11, wq_30_12, wq_1_5, wq_30_13⟩ yo_X10_wideBy rfl ⟨Nat.le_of_ble_eq_true rfl, Nat.le_of_ble_eq_true rfl⟩ (Nat.le_of_ble_eq_true rfl) dX10_linkTells_43 (fun H locs hw => ?_)
    refine lv_i2l X.1 X.2.1 dX10_linkTells_46 rfl ?_
    refine lv_ladd X.1 X.2.1 dX10_linkTells_47 ?_
    refine lv_topl (fun x_8 ex_8 => ?_)
    replace hm := lt_e hm ex_8
    refine lv_lstore (lv' := [(4, .long x_8), (0, .ref (h 0)), (3, .int x3)]) X.1 X.2.1 dX10_linkTells_48 hl (by decide) rfl (fun ls hl => ?_)
    refine lv_ldc2 (v := 31) X.1 X.2.1 X.2.2.2.1 (X.2.2.2.2.1 _ wq_55_3) dX10_linkTells_50 ?_
    refine lv_lload X.1 X.2.1 dX10_linkTells_53 (lv_at hl 0 rfl) ?_
    refine lv_lmul X.1 X.2.1 dX10_linkTells_55 ?_
    refine lv_aload_n X.1 X.2.1 dX10_linkTells_56 rfl (lv_at hl 1 rfl) ?_
    refine lv_iload_n X.1 X.2.1 dX10_linkTells_57 rfl (lv_at hl 2 rfl) ?_
    refine lv_iconst (v := 0) X.1 X.2.1 dX10_linkTells_58 (by decide) ?_
    replace hm := ob_e hm
    obtain ⟨⟨r_10, t_11⟩, h_9, hm⟩ := hm
    replace hm := un_e hm
    refine k_Vl (k := 0) (As := [.int x3, .int (0 : Int32)]) X hl.1 hw (c_X10_worthBy h_9) (by decide) (he_X10 g h _) rfl ⟨wq_37_23, wq_38_0, wq_38_1, wq_1_5, wq_38_2⟩ yo_X10_worthBy rfl ⟨Nat.le_of_ble_eq_true rfl, Nat.le_of_ble_eq_true rfl⟩ (Nat.le_of_ble_eq_true rfl) dX10_linkTells_59 (fun H locs hw => ?_)
    refine lv_ladd X.1 X.2.1 dX10_linkTells_62 ?_
    refine lv_topl (fun x_13 ex_13 => ?_)
    replace hm := lt_e hm ex_13
    refine lv_lstore (lv' := [(4, .long x_13), (0, .ref (h 0)), (3, .int x3)]) X.1 X.2.1 dX10_linkTells_63 hl (by decide) rfl (fun ls hl => ?_)
    refine lv_ldc2 (v := 31) X.1 X.2.1 X.2.2.2.1 (X.2.2.2.2.1 _ wq_55_3) dX10_linkTells_65 ?_
    refine lv_lload X.1 X.2.1 dX10_linkTells_68 (lv_at hl 0 rfl) ?_
    refine lv_lmul X.1 X.2.1 dX10_linkTells_70 ?_
    refine lv_aload_n X.1 X.2.1 dX10_linkTells_71 rfl (lv_at hl 1 rfl) ?_
    refine lv_iload_n X.1 X.2.1 dX10_linkTells_72 rfl (lv_at hl 2 rfl) ?_
    refine lv_iconst (v := 1) X.1 X.2.1 dX10_linkTells_73 (by decide) ?_
    replace hm := ob_e hm
    obtain ⟨⟨r_15, t_16⟩, h_14, hm⟩ := hm
    replace hm := un_e hm
    refine k_Vl (k := 0) (As := [.int x3, .int (1 : Int32)]) X hl.1 hw (c_X10_worthBy h_14) (by decide) (he_X10 g h _) rfl ⟨wq_37_23, wq_38_0, wq_38_1, wq_1_5, wq_38_2⟩ yo_X10_worthBy rfl ⟨Nat.le_of_ble_eq_true rfl, Nat.le_of_ble_eq_true rfl⟩ (Nat.le_of_ble_eq_true rfl) dX10_linkTells_74 (fun H locs hw => ?_)
    refine lv_ladd X.1 X.2.1 dX10_linkTells_77 ?_
    obtain ⟨rfl, rfl⟩ := Prod.mk.inj (Option.some.inj hm)
    exact hret _ _ _ _ hw dX10_linkTells_78
  refine vLoop_ind (B := (m_X10_linkTells_L6 x3 t)) (fun σ => ∀ (H : Heap) (locs : List Loc) (ls : Array Slot), Wd g 20 h (cM g h t) s H locs → lv_has ls 7 [(0, .ref (h 0)), (3, .int x3), (4, .long σ.1), (6, .int σ.2)] → W p l e (rW 4 103) s m AV below meth c H locs 0 0 Q (F0 m 6 ls [])) (fun z' => z' = j_3) ?_ FUEL _ _ hL_24 rfl _ _ _ hw (lv_sub hl [2, 4, 1, 0] rfl)
  intro σ z_22 hz_19 hn_20 hx_21
  obtain ⟨y_1, y_2⟩ := σ
  intro H locs ls hw hl
  replace hw : Wd g 20 h (cM g h t) s H locs := hw
  replace hl : lv_has ls 7 [(0, .ref (h 0)), (3, .int x3), (4, .long y_1), (6, .int y_2)] := hl
  unfold m_X10_linkTells_L6 at hz_19
  replace hz_19 := un_e hz_19
  refine lv_iload X.1 X.2.1 dX10_linkTells_6 (lv_at hl 3 rfl) ?_
  refine lv_iconst (v := 5) X.1 X.2.1 dX10_linkTells_8 (by decide) ?_
  refine lv_icmp_ge (tgt := 35) X.1 X.2.1 dX10_linkTells_9 (by decide) (fun c_26 => ?_) (fun c_26 => ?_)
  · replace hz_19 := it_p hz_19 c_26
    obtain rfl := hx_21 _ (Option.some.inj hz_19).symm
    exact J_23 _ _ _ hw (lv_sub hl [0, 1, 2] rfl)
  · replace hz_19 := it_n hz_19 c_26
    refine lv_ldc2 (v := 31) X.1 X.2.1 X.2.2.2.1 (X.2.2.2.2.1 _ wq_55_3) dX10_linkTells_12 ?_
    refine lv_lload X.1 X.2.1 dX10_linkTells_15 (lv_at hl 2 rfl) ?_
    refine lv_lmul X.1 X.2.1 dX10_linkTells_17 ?_
    refine lv_aload_n X.1 X.2.1 dX10_linkTells_18 rfl (lv_at hl 0 rfl) ?_
    refine lv_iload_n X.1 X.2.1 dX10_linkTells_19 rfl (lv_at hl 1 rfl) ?_
    refine lv_iload X.1 X.2.1 dX10_linkTells_20 (lv_at hl 3 rfl) ?_
    replace hz_19 := ob_e hz_19
    obtain ⟨r_28, h_27, hz_19⟩ := hz_19
    refine k_Vi (k := 0) (As := [.int x3, .int y_2]) X hl.1 hw (c_X10_infoBy h_27) (by decide) (he_X10 g h _) rfl ⟨wq_14_20, wq_14_21, wq_14_22, wq_1_5, wq_14_23⟩ yo_X10_infoBy rfl ⟨Nat.le_of_ble_eq_true rfl, Nat.le_of_ble_eq_true rfl⟩ (Nat.le_of_ble_eq_true rfl) dX10_linkTells_22 (fun H locs hw => ?_)
    refine lv_i2l X.1 X.2.1 dX10_linkTells_25 rfl ?_
    refine lv_ladd X.1 X.2.1 dX10_linkTells_26 ?_
    refine lv_topl (fun x_29 ex_29 => ?_)
    replace hz_19 := lt_e hz_19 ex_29
    refine lv_lstore (lv' := [(4, .long x_29), (0, .ref (h 0)), (3, .int x3), (6, .int y_2)]) X.1 X.2.1 dX10_linkTells_27 hl (by decide) rfl (fun ls hl => ?_)
    obtain ⟨x_30, ex_30⟩ : ∃ y : Int32, y = y_2 + 1 := ⟨_, rfl⟩
    replace hz_19 := lt_e hz_19 ex_30
    refine lv_iinc (v := x_30) (lv' := [(6, .int x_30), (4, .long x_29), (0, .ref (h 0)), (3, .int x3)]) X.1 X.2.1 dX10_linkTells_29 hl (k := 3) rfl (by rw [ex_30]; rfl) (by decide) rfl (fun ls hl => ?_)
    refine lv_goto (tgt := 6) X.1 X.2.1 dX10_linkTells_32 (by decide) ?_
    exact hn_20 _ (Option.some.inj hz_19).symm _ _ _ hw (lv_sub hl [2, 3, 1, 0] rfl)
def m_X10_pairTells_L20 (y_2 : Int32) (σ : Int64 × Int32 × ST) : Option ((Int64 × Int32 × ST) ⊕ (Int64 × ST)) := (fun (q_43 : Int64 × Int32 × ST) => un q_43 (fun y_17 q_43 => un q_43 (fun y_18 t_19 => if (t_19.1 1) ≤ y_18 then some (.inr (y_17, t_19)) else Option.bind (m_X10_pairBy t_19 y_2 y_18 (0 : Int32)) (fun (q_35 : Int64 × ST) => un q_35 (fun r_33 t_34 => lt (((31 : Int64) * y_17) + r_33) (fun x_36 => Option.bind (m_X10_pairBy t_34 y_2 y_18 (1 : Int32)) (fun (q_40 : Int64 × ST) => un q_40 (fun r_38 t_39 => lt (((31 : Int64) * x_36) + r_38) (fun x_41 => lt (y_18 + 1) (fun x_42 => some (.inl (x_41, x_42, t_39)))))))))))) σ
def m_X10_pairTells_L5 (σ : Int64 × Int32 × ST) : Option ((Int64 × Int32 × ST) ⊕ (Int64 × ST)) := (fun (q_45 : Int64 × Int32 × ST) => un q_45 (fun y_1 q_45 => un q_45 (fun y_2 t_3 => if (t_3.1 1) ≤ y_2 then some (.inr (y_1, t_3)) else lt (y_2 + (1 : Int32)) (fun x_16 => Option.bind (vLoop (m_X10_pairTells_L20 y_2) FUEL (y_1, x_16, t_3)) (fun (q_44 : Int64 × ST) => un q_44 (fun j_20 t_21 => lt (y_2 + 1) (fun x_22 => some (.inl (j_20, x_22, t_21))))))))) σ
def m_X10_pairTells (t : ST) (x1 : Int64) : Option (Int64 × ST) := Option.bind (vLoop (m_X10_pairTells_L5) FUEL (x1, (0 : Int32), t)) (fun (q_46 : Int64 × ST) => un q_46 (fun j_4 t_5 => some (j_4, t_5)))
theorem yo_X10_pairTells : yX10_pairTells.cls = RX10 ∧ yX10_pairTells.cls ≠ "java/lang/invoke/MethodHandle" ∧ yX10_pairTells.cls ≠ "java/lang/invoke/VarHandle" ∧ (parseMethodDescriptor yX10_pairTells.desc).map (fun d => d.parameters.length) = some 1 := by decide +kernel
set_option maxHeartbeats 4000000 in
set_option maxRecDepth 100000 in
theorem c_X10_pairTells {l : Launch} {g : gT} {h : Nat → Nat} {t : ST} {x1 : Int64} {r : Int64} {t' : ST} (hm : m_X10_pairTells t x1 = some (r, t')) : MetL l g yX10_pairTells cX10_pairTells 7 (some .long) 3 77 20 h (cM g h t) (cM g h t') [.ref (h 0), .long x1] r := by
  refine MetL.ofX (by decide +kernel) (Nat.le_of_ble_eq_true rfl) ?_
  intro p e s m below meth c AV Q X hret ls hw hl
  replace X : Cx g p s m AV c cX10_pairTells RX10 7 := X
  replace hl : lv_has ls 7 [(0, .ref (h 0)), (1, .long x1)] := hl
  unfold m_X10_pairTells at hm
  refine lv_lload_n X.1 X.2.1 dX10_pairTells_0 rfl (lv_at hl 1 rfl) ?_
  refine lv_lstore_n (lv' := [(3, .long x1), (0, .ref (h 0)), (1, .long x1)]) X.1 X.2.1 dX10_pairTells_1 rfl hl (by decide) rfl (fun ls hl => ?_)
  refine lv_iconst (v := 0) X.1 X.2.1 dX10_pairTells_2 (by decide) ?_
  refine lv_istore (lv' := [(5, .int (0 : Int32)), (3, .long x1), (0, .ref (h 0)), (1, .long x1)]) X.1 X.2.1 dX10_pairTells_3 hl (by decide) rfl (fun ls hl => ?_)
  replace hm := ob_e hm
  obtain ⟨⟨j_4, t_5⟩, hL_12, hm⟩ := hm
  replace hm := un_e hm
  have J_11 : ∀ (H : Heap) (locs : List Loc) (ls : Array Slot), Wd g 20 h (cM g h t_5) s H locs → lv_has ls 7 [(3, .long j_4)] → W p l e (rW 3 77) s m AV below meth c H locs 0 0 Q (F0 m 73 ls []) := by
    intro H locs ls hw hl
    refine lv_lload_n X.1 X.2.1 dX10_pairTells_73 rfl (lv_at hl 0 rfl) ?_
    obtain ⟨rfl, rfl⟩ := Prod.mk.inj (Option.some.inj hm)
    exact hret _ _ _ _ hw dX10_pairTells_74
  refine vLoop_ind (B := (m_X10_pairTells_L5)) (fun σ => ∀ (H : Heap) (locs : List Loc) (ls : Array Slot), Wd g 20 h (cM g h σ.2.2) s H locs → lv_has ls 7 [(0, .ref (h 0)), (3, .long σ.1), (5, .int σ.2.1)] → W p l e (rW 3 77) s m AV below meth c H locs 0 0 Q (F0 m 5 ls [])) (fun z' => z' = (j_4, t_5)) ?_ FUEL _ _ hL_12 rfl _ _ _ hw (lv_sub hl [2, 1, 0] rfl)
  intro σ z_10 hz_7 hn_8 hx_9
  obtain ⟨y_1, y_2, t_3⟩ := σ
  intro H locs ls hw hl
  replace hw : Wd g 20 h (cM g h t_3) s H locs := hw
  replace hl : lv_has ls 7 [(0, .ref (h 0)), (3, .long y_1), (5, .int y_2)] := hl
  unfold m_X10_pairTells_L5 at hz_7
  replace hz_7 := un_e hz_7
  replace hz_7 := un_e hz_7
  refine lv_iload X.1 X.2.1 dX10_pairTells_5 (lv_at hl 2 rfl) ?_
  refine lv_aload_n X.1 X.2.1 dX10_pairTells_7 rfl (lv_at hl 0 rfl) ?_
  refine gX10_stations X hw wq_6_4 dX10_pairTells_8 ?_
  refine lv_icmp_ge (tgt := 73) X.1 X.2.1 dX10_pairTells_11 (by decide) (fun c_14 => ?_) (fun c_14 => ?_)
  · replace hz_7 := it_p hz_7 c_14
    obtain ⟨rfl, rfl⟩ := Prod.mk.inj (hx_9 _ (Option.some.inj hz_7).symm)
    exact J_11 _ _ _ hw (lv_sub hl [1] rfl)
  · replace hz_7 := it_n hz_7 c_14
    refine lv_iload X.1 X.2.1 dX10_pairTells_14 (lv_at hl 2 rfl) ?_
    refine lv_iconst (v := 1) X.1 X.2.1 dX10_pairTells_16 (by decide) ?_
    refine lv_iadd X.1 X.2.1 dX10_pairTells_17 ?_
    refine lv_topi (fun x_16 ex_16 => ?_)
    replace hz_7 := lt_e hz_7 ex_16
    refine lv_istore (lv' := [(6, .int x_16), (0, .ref (h 0)), (3, .long y_1), (5, .int y_2)]) X.1 X.2.1 dX10_pairTells_18 hl (by decide) rfl (fun ls hl => ?_)
    replace hz_7 := ob_e hz_7
    obtain ⟨⟨j_20, t_21⟩, hL_28, hz_7⟩ := hz_7
    replace hz_7 := un_e hz_7
    have J_27 : ∀ (H : Heap) (locs : List Loc) (ls : Array Slot), Wd g 20 h (cM g h t_21) s H locs → lv_has ls 7 [(0, .ref (h 0)), (3, .long j_20), (5, .int y_2)] → W p l e (rW 3 77) s m AV below meth c H locs 0 0 Q (F0 m 67 ls []) := by
      intro H locs ls hw hl
      obtain ⟨x_22, ex_22⟩ : ∃ y : Int32, y = y_2 + 1 := ⟨_, rfl⟩
      replace hz_7 := lt_e hz_7 ex_22
      refine lv_iinc (v := x_22) (lv' := [(5, .int x_22), (0, .ref (h 0)), (3, .long j_20)]) X.1 X.2.1 dX10_pairTells_67 hl (k := 2) rfl (by rw [ex_22]; rfl) (by decide) rfl (fun ls hl => ?_)
      refine lv_goto (tgt := 5) X.1 X.2.1 dX10_pairTells_70 (by decide) ?_
      exact hn_8 _ (Option.some.inj hz_7).symm _ _ _ hw (lv_sub hl [1, 2, 0] rfl)
    refine vLoop_ind (B := (m_X10_pairTells_L20 y_2)) (fun σ => ∀ (H : Heap) (locs : List Loc) (ls : Array Slot), Wd g 20 h (cM g h σ.2.2) s H locs → lv_has ls 7 [(0, .ref (h 0)), (3, .long σ.1), (5, .int y_2), (6, .int σ.2.1)] → W p l e (rW 3 77) s m AV below meth c H locs 0 0 Q (F0 m 20 ls [])) (fun z' => z' = (j_20, t_21)) ?_ FUEL _ _ hL_28 rfl _ _ _ hw (lv_sub hl [1, 2, 3, 0] rfl)
    intro σ z_26 hz_23 hn_24 hx_25
    obtain ⟨y_17, y_18, t_19⟩ := σ
    intro H locs ls hw hl
    replace hw : Wd g 20 h (cM g h t_19) s H locs := hw
    replace hl : lv_has ls 7 [(0, .ref (h 0)), (3, .long y_17), (5, .int y_2), (6, .int y_18)] := hl
    unfold m_X10_pairTells_L20 at hz_23
    replace hz_23 := un_e hz_23
    replace hz_23 := un_e hz_23
    refine lv_iload X.1 X.2.1 dX10_pairTells_20 (lv_at hl 3 rfl) ?_
    refine lv_aload_n X.1 X.2.1 dX10_pairTells_22 rfl (lv_at hl 0 rfl) ?_
    refine gX10_stations X hw wq_6_4 dX10_pairTells_23 ?_
    refine lv_icmp_ge (tgt := 67) X.1 X.2.1 dX10_pairTells_26 (by decide) (fun c_30 => ?_) (fun c_30 => ?_)
    · replace hz_23 := it_p hz_23 c_30
      obtain ⟨rfl, rfl⟩ := Prod.mk.inj (hx_25 _ (Option.some.inj hz_23).symm)
      exact J_27 _ _ _ hw (lv_sub hl [0, 1, 2] rfl)
    · replace hz_23 := it_n hz_23 c_30
      refine lv_ldc2 (v := 31) X.1 X.2.1 X.2.2.2.1 (X.2.2.2.2.1 _ wq_55_3) dX10_pairTells_29 ?_
      refine lv_lload_n X.1 X.2.1 dX10_pairTells_32 rfl (lv_at hl 1 rfl) ?_
      refine lv_lmul X.1 X.2.1 dX10_pairTells_33 ?_
      refine lv_aload_n X.1 X.2.1 dX10_pairTells_34 rfl (lv_at hl 0 rfl) ?_
      refine lv_iload X.1 X.2.1 dX10_pairTells_35 (lv_at hl 2 rfl) ?_
      refine lv_iload X.1 X.2.1 dX10_pairTells_37 (lv_at hl 3 rfl) ?_
      refine lv_iconst (v := 0) X.1 X.2.1 dX10_pairTells_39 (by decide) ?_
      replace hz_23 := ob_e hz_23
      obtain ⟨⟨r_33, t_34⟩, h_32, hz_23⟩ := hz_23
      replace hz_23 := un_e hz_23
      refine k_Vl (k := 0) (As := [.int y_2, .int y_18, .int (0 : Int32)]) X hl.1 hw (c_X10_pairBy h_32) (by decide) (he_X10 g h _) rfl ⟨wq_32_13, wq_32_14, wq_32_15, wq_1_5, wq_32_16⟩ yo_X10_pairBy rfl ⟨Nat.le_of_ble_eq_true rfl, Nat.le_of_ble_eq_true rfl⟩ (Nat.le_of_ble_eq_true rfl) dX10_pairTells_40 (fun H locs hw => ?_)
      refine lv_ladd X.1 X.2.1 dX10_pairTells_43 ?_
      refine lv_topl (fun x_36 ex_36 => ?_)
      replace hz_23 := lt_e hz_23 ex_36
      refine lv_lstore_n (lv' := [(3, .long x_36), (0, .ref (h 0)), (5, .int y_2), (6, .int y_18)]) X.1 X.2.1 dX10_pairTells_44 rfl hl (by decide) rfl (fun ls hl => ?_)
      refine lv_ldc2 (v := 31) X.1 X.2.1 X.2.2.2.1 (X.2.2.2.2.1 _ wq_55_3) dX10_pairTells_45 ?_
      refine lv_lload_n X.1 X.2.1 dX10_pairTells_48 rfl (lv_at hl 0 rfl) ?_
      refine lv_lmul X.1 X.2.1 dX10_pairTells_49 ?_
      refine lv_aload_n X.1 X.2.1 dX10_pairTells_50 rfl (lv_at hl 1 rfl) ?_
      refine lv_iload X.1 X.2.1 dX10_pairTells_51 (lv_at hl 2 rfl) ?_
      refine lv_iload X.1 X.2.1 dX10_pairTells_53 (lv_at hl 3 rfl) ?_
      refine lv_iconst (v := 1) X.1 X.2.1 dX10_pairTells_55 (by decide) ?_
      replace hz_23 := ob_e hz_23
      obtain ⟨⟨r_38, t_39⟩, h_37, hz_23⟩ := hz_23
      replace hz_23 := un_e hz_23
      refine k_Vl (k := 0) (As := [.int y_2, .int y_18, .int (1 : Int32)]) X hl.1 hw (c_X10_pairBy h_37) (by decide) (he_X10 g h _) rfl ⟨wq_32_13, wq_32_14, wq_32_15, wq_1_5, wq_32_16⟩ yo_X10_pairBy rfl ⟨Nat.le_of_ble_eq_true rfl, Nat.le_of_ble_eq_true rfl⟩ (Nat.le_of_ble_eq_true rfl) dX10_pairTells_56 (fun H locs hw => ?_)
      refine lv_ladd X.1 X.2.1 dX10_pairTells_59 ?_
      refine lv_topl (fun x_41 ex_41 => ?_)
      replace hz_23 := lt_e hz_23 ex_41
      refine lv_lstore_n (lv' := [(3, .long x_41), (0, .ref (h 0)), (5, .int y_2), (6, .int y_18)]) X.1 X.2.1 dX10_pairTells_60 rfl hl (by decide) rfl (fun ls hl => ?_)
      obtain ⟨x_42, ex_42⟩ : ∃ y : Int32, y = y_18 + 1 := ⟨_, rfl⟩
      replace hz_23 := lt_e hz_23 ex_42
      refine lv_iinc (v := x_42) (lv' := [(6, .int x_42), (3, .long x_41), (0, .ref (h 0)), (5, .int y_2)]) X.1 X.2.1 dX10_pairTells_61 hl (k := 3) rfl (by rw [ex_42]; rfl) (by decide) rfl (fun ls hl => ?_)
      refine lv_goto (tgt := 20) X.1 X.2.1 dX10_pairTells_64 (by decide) ?_
      exact hn_24 _ (Option.some.inj hz_23).symm _ _ _ hw (lv_sub hl [2, 1, 3, 0] rfl)
def m_X10_digest_L145 (t_38 : ST) (σ : Int64 × Int32) : Option ((Int64 × Int32) ⊕ (Int64)) := (fun (q_87 : Int64 × Int32) => un q_87 (fun y_41 y_42 => if (t_38.1 4) < y_42 then some (.inr y_41) else Option.bind (m_X10_setsOf t_38 y_42) (fun (r_84 : Int32) => lt (((31 : Int64) * y_41) + r_84.toInt64) (fun x_85 => lt (y_42 + 1) (fun x_86 => some (.inl (x_85, x_86))))))) σ
def m_X10_digest_L84 (σ : Int64 × Int32 × ST) : Option ((Int64 × Int32 × ST) ⊕ (Int64 × ST)) := (fun (q_103 : Int64 × Int32 × ST) => un q_103 (fun y_21 q_103 => un q_103 (fun y_22 t_23 => if (5 : Int32) ≤ y_22 then some (.inr (y_21, t_23)) else Option.bind (m_X10_joinedBy t_23 y_22) (fun (q_100 : Int64 × ST) => un q_100 (fun r_98 t_99 => lt (((31 : Int64) * y_21) + r_98) (fun x_101 => lt (y_22 + 1) (fun x_102 => some (.inl (x_101, x_102, t_99))))))))) σ
def m_X10_digest_L33 (σ : Int64 × Int32 × ST) : Option ((Int64 × Int32 × ST) ⊕ (Int64 × ST)) := (fun (q_119 : Int64 × Int32 × ST) => un q_119 (fun y_4 q_119 => un q_119 (fun y_5 t_6 => if (t_6.1 4) ≤ y_5 then some (.inr (y_4, t_6)) else Option.bind (m_X10_linkTells t_6 y_4 y_5) (fun (q_117 : Int64 × ST) => un q_117 (fun r_115 t_116 => lt (y_5 + 1) (fun x_118 => some (.inl (r_115, x_118, t_116)))))))) σ
def m_X10_digest_L6 (t : ST) (σ : Int64 × Int32) : Option ((Int64 × Int32) ⊕ (Int64)) := (fun (q_133 : Int64 × Int32) => un q_133 (fun y_1 y_2 => if (8 : Int32) ≤ y_2 then some (.inr y_1) else Option.bind (m_X10_count t y_2) (fun (r_130 : Int32) => lt (((31 : Int64) * y_1) + r_130.toInt64) (fun x_131 => lt (y_2 + 1) (fun x_132 => some (.inl (x_131, x_132))))))) σ
def m_X10_digest (t : ST) : Option (Int64 × ST) := Option.bind (vLoop (m_X10_digest_L6 t) FUEL ((17 : Int64), (0 : Int32))) (fun (j_3 : Int64) => Option.bind (vLoop (m_X10_digest_L33) FUEL (j_3, (0 : Int32), t)) (fun (q_120 : Int64 × ST) => un q_120 (fun j_7 t_8 => Option.bind (m_X10_reachBy t_8 (0 : Int32)) (fun (q_12 : Int64 × ST) => un q_12 (fun r_10 t_11 => lt (((31 : Int64) * j_7) + r_10) (fun x_13 => Option.bind (m_X10_reachBy t_11 (1 : Int32)) (fun (q_17 : Int64 × ST) => un q_17 (fun r_15 t_16 => lt (((31 : Int64) * x_13) + r_15) (fun x_18 => Option.bind (m_X10_asks t_16) (fun (t_20 : ST) => Option.bind (vLoop (m_X10_digest_L84) FUEL (x_18, (0 : Int32), t_20)) (fun (q_104 : Int64 × ST) => un q_104 (fun j_24 t_25 => Option.bind (m_X10_widestNow t_25) (fun (q_29 : Int32 × ST) => un q_29 (fun r_27 t_28 => lt (((31 : Int64) * j_24) + r_27.toInt64) (fun x_30 => Option.bind (m_X10_ruleBy t_28 (0 : Int32)) (fun (q_34 : Int64 × ST) => un q_34 (fun r_32 t_33 => lt (((31 : Int64) * x_30) + r_32) (fun x_35 => Option.bind (m_X10_ruleBy t_33 (1 : Int32)) (fun (q_39 : Int64 × ST) => un q_39 (fun r_37 t_38 => lt (((31 : Int64) * x_35) + r_37) (fun x_40 => Option.bind (vLoop (m_X10_digest_L145 t_38) FUEL (x_40, (0 : Int32))) (fun (j_43 : Int64) => Option.bind (m_X10_likeBy t_38 (1 : Int32) (2 : Int32) (0 : Int32)) (fun (q_47 : Int64 × ST) => un q_47 (fun r_45 t_46 => lt (((31 : Int64) * j_43) + r_45) (fun x_48 => Option.bind (m_X10_likeBy t_46 (1 : Int32) (2 : Int32) (1 : Int32)) (fun (q_52 : Int64 × ST) => un q_52 (fun r_50 t_51 => lt (((31 : Int64) * x_48) + r_50) (fun x_53 => Option.bind (m_X10_likeBy t_51 (9 : Int32) (10 : Int32) (0 : Int32)) (fun (q_57 : Int64 × ST) => un q_57 (fun r_55 t_56 => lt (((31 : Int64) * x_53) + r_55) (fun x_58 => Option.bind (m_X10_leastCut t_56) (fun (r_60 : Int32) => lt (((31 : Int64) * x_58) + r_60.toInt64) (fun x_61 => Option.bind (m_X10_leastWay t_56) (fun (r_63 : Int32) => lt (((31 : Int64) * x_61) + r_63.toInt64) (fun x_64 => Option.bind (m_X10_worthiestNow t_56) (fun (q_68 : Int32 × ST) => un q_68 (fun r_66 t_67 => lt (((31 : Int64) * x_64) + r_66.toInt64) (fun x_69 => Option.bind (m_X10_pairTells t_67 x_69) (fun (q_73 : Int64 × ST) => un q_73 (fun r_71 t_72 => some ((((31 : Int64) * r_71) + (t_72.1 10).toInt64), t_72)))))))))))))))))))))))))))))))))))))))))
theorem yo_X10_digest : yX10_digest.cls = RX10 ∧ yX10_digest.cls ≠ "java/lang/invoke/MethodHandle" ∧ yX10_digest.cls ≠ "java/lang/invoke/VarHandle" ∧ (parseMethodDescriptor yX10_digest.desc).map (fun d => d.parameters.length) = some 0 := by decide +kernel
set_option maxHeartbeats 4000000 in
set_option maxRecDepth 100000 in
theorem c_X10_digest {l : Launch} {g : gT} {h : Nat → Nat} {t : ST} {r : Int64} {t' : ST} (hm : m_X10_digest t = some (r, t')) : MetL l g yX10_digest cX10_digest 4 (some .long) 6 144 20 h (cM g h t) (cM g h t') [.ref (h 0)] r := by
  refine MetL.ofX (by decide +kernel) (Nat.le_of_ble_eq_true rfl) ?_
  intro p e s m below meth c AV Q X hret ls hw hl
  replace X : Cx g p s m AV c cX10_digest RX10 4 := X
  replace hl : lv_has ls 4 [(0, .ref (h 0))] := hl
  unfold m_X10_digest at hm
  refine lv_ldc2 (v := 17) X.1 X.2.1 X.2.2.2.1 (X.2.2.2.2.1 _ wq_55_2) dX10_digest_0 ?_
  refine lv_lstore_n (lv' := [(1, .long (17 : Int64)), (0, .ref (h 0))]) X.1 X.2.1 dX10_digest_3 rfl hl (by decide) rfl (fun ls hl => ?_)
  refine lv_iconst (v := 0) X.1 X.2.1 dX10_digest_4 (by decide) ?_
  refine lv_istore_n (lv' := [(3, .int (0 : Int32)), (1, .long (17 : Int64)), (0, .ref (h 0))]) X.1 X.2.1 dX10_digest_5 rfl hl (by decide) rfl (fun ls hl => ?_)
  replace hm := ob_e hm
  obtain ⟨j_3, hL_126, hm⟩ := hm
  have J_125 : ∀ (H : Heap) (locs : List Loc) (ls : Array Slot), Wd g 20 h (cM g h t) s H locs → lv_has ls 4 [(0, .ref (h 0)), (1, .long j_3)] → W p l e (rW 6 144) s m AV below meth c H locs 0 0 Q (F0 m 31 ls []) := by
    intro H locs ls hw hl
    refine lv_iconst (v := 0) X.1 X.2.1 dX10_digest_31 (by decide) ?_
    refine lv_istore_n (lv' := [(3, .int (0 : Int32)), (0, .ref (h 0)), (1, .long j_3)]) X.1 X.2.1 dX10_digest_32 rfl hl (by decide) rfl (fun ls hl => ?_)
    replace hm := ob_e hm
    obtain ⟨⟨j_7, t_8⟩, hL_110, hm⟩ := hm
    replace hm := un_e hm
    have J_109 : ∀ (H : Heap) (locs : List Loc) (ls : Array Slot), Wd g 20 h (cM g h t_8) s H locs → lv_has ls 4 [(0, .ref (h 0)), (1, .long j_7)] → W p l e (rW 6 144) s m AV below meth c H locs 0 0 Q (F0 m 54 ls []) := by
      intro H locs ls hw hl
      refine lv_ldc2 (v := 31) X.1 X.2.1 X.2.2.2.1 (X.2.2.2.2.1 _ wq_55_3) dX10_digest_54 ?_
      refine lv_lload_n X.1 X.2.1 dX10_digest_57 rfl (lv_at hl 1 rfl) ?_
      refine lv_lmul X.1 X.2.1 dX10_digest_58 ?_
      refine lv_aload_n X.1 X.2.1 dX10_digest_59 rfl (lv_at hl 0 rfl) ?_
      refine lv_iconst (v := 0) X.1 X.2.1 dX10_digest_60 (by decide) ?_
      replace hm := ob_e hm
      obtain ⟨⟨r_10, t_11⟩, h_9, hm⟩ := hm
      replace hm := un_e hm
      refine k_Vl (k := 0) (As := [.int (0 : Int32)]) X hl.1 hw (c_X10_reachBy h_9) (by decide) (he_X10 g h _) rfl ⟨wq_18_0, wq_18_1, wq_18_2, wq_1_5, wq_18_3⟩ yo_X10_reachBy rfl ⟨Nat.le_of_ble_eq_true rfl, Nat.le_of_ble_eq_true rfl⟩ (Nat.le_of_ble_eq_true rfl) dX10_digest_61 (fun H locs hw => ?_)
      refine lv_ladd X.1 X.2.1 dX10_digest_64 ?_
      refine lv_topl (fun x_13 ex_13 => ?_)
      replace hm := lt_e hm ex_13
      refine lv_lstore_n (lv' := [(1, .long x_13), (0, .ref (h 0))]) X.1 X.2.1 dX10_digest_65 rfl hl (by decide) rfl (fun ls hl => ?_)
      refine lv_ldc2 (v := 31) X.1 X.2.1 X.2.2.2.1 (X.2.2.2.2.1 _ wq_55_3) dX10_digest_66 ?_
      refine lv_lload_n X.1 X.2.1 dX10_digest_69 rfl (lv_at hl 0 rfl) ?_
      refine lv_lmul X.1 X.2.1 dX10_digest_70 ?_
      refine lv_aload_n X.1 X.2.1 dX10_digest_71 rfl (lv_at hl 1 rfl) ?_
      refine lv_iconst (v := 1) X.1 X.2.1 dX10_digest_72 (by decide) ?_
      replace hm := ob_e hm
      obtain ⟨⟨r_15, t_16⟩, h_14, hm⟩ := hm
      replace hm := un_e hm
      refine k_Vl (k := 0) (As := [.int (1 : Int32)]) X hl.1 hw (c_X10_reachBy h_14) (by decide) (he_X10 g h _) rfl ⟨wq_18_0, wq_18_1, wq_18_2, wq_1_5, wq_18_3⟩ yo_X10_reachBy rfl ⟨Nat.le_of_ble_eq_true rfl, Nat.le_of_ble_eq_true rfl⟩ (Nat.le_of_ble_eq_true rfl) dX10_digest_73 (fun H locs hw => ?_)
      refine lv_ladd X.1 X.2.1 dX10_digest_76 ?_
      refine lv_topl (fun x_18 ex_18 => ?_)
      replace hm := lt_e hm ex_18
      refine lv_lstore_n (lv' := [(1, .long x_18), (0, .ref (h 0))]) X.1 X.2.1 dX10_digest_77 rfl hl (by decide) rfl (fun ls hl => ?_)
      refine lv_aload_n X.1 X.2.1 dX10_digest_78 rfl (lv_at hl 1 rfl) ?_
      replace hm := ob_e hm
      obtain ⟨t_20, h_19, hm⟩ := hm
      refine k_Vv (k := 0) (As := []) X hl.1 hw (c_X10_asks h_19) (by decide) (he_X10 g h _) rfl ⟨wq_25_12, wq_25_13, wq_25_14, wq_1_5, wq_25_15⟩ yo_X10_asks rfl ⟨Nat.le_of_ble_eq_true rfl, Nat.le_of_ble_eq_true rfl⟩ (Nat.le_of_ble_eq_true rfl) dX10_digest_79 (fun H locs hw => ?_)
      refine lv_iconst (v := 0) X.1 X.2.1 dX10_digest_82 (by decide) ?_
      refine lv_istore_n (lv' := [(3, .int (0 : Int32)), (1, .long x_18), (0, .ref (h 0))]) X.1 X.2.1 dX10_digest_83 rfl hl (by decide) rfl (fun ls hl => ?_)
      replace hm := ob_e hm
      obtain ⟨⟨j_24, t_25⟩, hL_93, hm⟩ := hm
      replace hm := un_e hm
      have J_92 : ∀ (H : Heap) (locs : List Loc) (ls : Array Slot), Wd g 20 h (cM g h t_25) s H locs → lv_has ls 4 [(0, .ref (h 0)), (1, .long j_24)] → W p l e (rW 6 144) s m AV below meth c H locs 0 0 Q (F0 m 107 ls []) := by
        intro H locs ls hw hl
        refine lv_ldc2 (v := 31) X.1 X.2.1 X.2.2.2.1 (X.2.2.2.2.1 _ wq_55_3) dX10_digest_107 ?_
        refine lv_lload_n X.1 X.2.1 dX10_digest_110 rfl (lv_at hl 1 rfl) ?_
        refine lv_lmul X.1 X.2.1 dX10_digest_111 ?_
        refine lv_aload_n X.1 X.2.1 dX10_digest_112 rfl (lv_at hl 0 rfl) ?_
        replace hm := ob_e hm
        obtain ⟨⟨r_27, t_28⟩, h_26, hm⟩ := hm
        replace hm := un_e hm
        refine k_Vi (k := 0) (As := []) X hl.1 hw (c_X10_widestNow h_26) (by decide) (he_X10 g h _) rfl ⟨wq_31_20, wq_31_21, wq_31_22, wq_1_5, wq_31_23⟩ yo_X10_widestNow rfl ⟨Nat.le_of_ble_eq_true rfl, Nat.le_of_ble_eq_true rfl⟩ (Nat.le_of_ble_eq_true rfl) dX10_digest_113 (fun H locs hw => ?_)
        refine lv_i2l X.1 X.2.1 dX10_digest_116 rfl ?_
        refine lv_ladd X.1 X.2.1 dX10_digest_117 ?_
        refine lv_topl (fun x_30 ex_30 => ?_)
        replace hm := lt_e hm ex_30
        refine lv_lstore_n (lv' := [(1, .long x_30), (0, .ref (h 0))]) X.1 X.2.1 dX10_digest_118 rfl hl (by decide) rfl (fun ls hl => ?_)
        refine lv_ldc2 (v := 31) X.1 X.2.1 X.2.2.2.1 (X.2.2.2.2.1 _ wq_55_3) dX10_digest_119 ?_
        refine lv_lload_n X.1 X.2.1 dX10_digest_122 rfl (lv_at hl 0 rfl) ?_
        refine lv_lmul X.1 X.2.1 dX10_digest_123 ?_
        refine lv_aload_n X.1 X.2.1 dX10_digest_124 rfl (lv_at hl 1 rfl) ?_
        refine lv_iconst (v := 0) X.1 X.2.1 dX10_digest_125 (by decide) ?_
        replace hm := ob_e hm
        obtain ⟨⟨r_32, t_33⟩, h_31, hm⟩ := hm
        replace hm := un_e hm
        refine k_Vl (k := 0) (As := [.int (0 : Int32)]) X hl.1 hw (c_X10_ruleBy h_31) (by decide) (he_X10 g h _) rfl ⟨wq_33_7, wq_33_8, wq_33_9, wq_1_5, wq_33_10⟩ yo_X10_ruleBy rfl ⟨Nat.le_of_ble_eq_true rfl, Nat.le_of_ble_eq_true rfl⟩ (Nat.le_of_ble_eq_true rfl) dX10_digest_126 (fun H locs hw => ?_)
        refine lv_ladd X.1 X.2.1 dX10_digest_129 ?_
        refine lv_topl (fun x_35 ex_35 => ?_)
        replace hm := lt_e hm ex_35
        refine lv_lstore_n (lv' := [(1, .long x_35), (0, .ref (h 0))]) X.1 X.2.1 dX10_digest_130 rfl hl (by decide) rfl (fun ls hl => ?_)
        refine lv_ldc2 (v := 31) X.1 X.2.1 X.2.2.2.1 (X.2.2.2.2.1 _ wq_55_3) dX10_digest_131 ?_
        refine lv_lload_n X.1 X.2.1 dX10_digest_134 rfl (lv_at hl 0 rfl) ?_
        refine lv_lmul X.1 X.2.1 dX10_digest_135 ?_
        refine lv_aload_n X.1 X.2.1 dX10_digest_136 rfl (lv_at hl 1 rfl) ?_
        refine lv_iconst (v := 1) X.1 X.2.1 dX10_digest_137 (by decide) ?_
        replace hm := ob_e hm
        obtain ⟨⟨r_37, t_38⟩, h_36, hm⟩ := hm
        replace hm := un_e hm
        refine k_Vl (k := 0) (As := [.int (1 : Int32)]) X hl.1 hw (c_X10_ruleBy h_36) (by decide) (he_X10 g h _) rfl ⟨wq_33_7, wq_33_8, wq_33_9, wq_1_5, wq_33_10⟩ yo_X10_ruleBy rfl ⟨Nat.le_of_ble_eq_true rfl, Nat.le_of_ble_eq_true rfl⟩ (Nat.le_of_ble_eq_true rfl) dX10_digest_138 (fun H locs hw => ?_)
        refine lv_ladd X.1 X.2.1 dX10_digest_141 ?_
        refine lv_topl (fun x_40 ex_40 => ?_)
        replace hm := lt_e hm ex_40
        refine lv_lstore_n (lv' := [(1, .long x_40), (0, .ref (h 0))]) X.1 X.2.1 dX10_digest_142 rfl hl (by decide) rfl (fun ls hl => ?_)
        refine lv_iconst (v := 0) X.1 X.2.1 dX10_digest_143 (by decide) ?_
        refine lv_istore_n (lv' := [(3, .int (0 : Int32)), (1, .long x_40), (0, .ref (h 0))]) X.1 X.2.1 dX10_digest_144 rfl hl (by decide) rfl (fun ls hl => ?_)
        replace hm := ob_e hm
        obtain ⟨j_43, hL_80, hm⟩ := hm
        have J_79 : ∀ (H : Heap) (locs : List Loc) (ls : Array Slot), Wd g 20 h (cM g h t_38) s H locs → lv_has ls 4 [(0, .ref (h 0)), (1, .long j_43)] → W p l e (rW 6 144) s m AV below meth c H locs 0 0 Q (F0 m 172 ls []) := by
          intro H locs ls hw hl
          refine lv_ldc2 (v := 31) X.1 X.2.1 X.2.2.2.1 (X.2.2.2.2.1 _ wq_55_3) dX10_digest_172 ?_
          refine lv_lload_n X.1 X.2.1 dX10_digest_175 rfl (lv_at hl 1 rfl) ?_
          refine lv_lmul X.1 X.2.1 dX10_digest_176 ?_
          refine lv_aload_n X.1 X.2.1 dX10_digest_177 rfl (lv_at hl 0 rfl) ?_
          refine lv_iconst (v := 1) X.1 X.2.1 dX10_digest_178 (by decide) ?_
          refine lv_iconst (v := 2) X.1 X.2.1 dX10_digest_179 (by decide) ?_
          refine lv_iconst (v := 0) X.1 X.2.1 dX10_digest_180 (by decide) ?_
          replace hm := ob_e hm
          obtain ⟨⟨r_45, t_46⟩, h_44, hm⟩ := hm
          replace hm := un_e hm
          refine k_Vl (k := 0) (As := [.int (1 : Int32), .int (2 : Int32), .int (0 : Int32)]) X hl.1 hw (c_X10_likeBy h_44) (by decide) (he_X10 g h _) rfl ⟨wq_35_16, wq_35_17, wq_35_18, wq_1_5, wq_35_19⟩ yo_X10_likeBy rfl ⟨Nat.le_of_ble_eq_true rfl, Nat.le_of_ble_eq_true rfl⟩ (Nat.le_of_ble_eq_true rfl) dX10_digest_181 (fun H locs hw => ?_)
          refine lv_ladd X.1 X.2.1 dX10_digest_184 ?_
          refine lv_topl (fun x_48 ex_48 => ?_)
          replace hm := lt_e hm ex_48
          refine lv_lstore_n (lv' := [(1, .long x_48), (0, .ref (h 0))]) X.1 X.2.1 dX10_digest_185 rfl hl (by decide) rfl (fun ls hl => ?_)
          refine lv_ldc2 (v := 31) X.1 X.2.1 X.2.2.2.1 (X.2.2.2.2.1 _ wq_55_3) dX10_digest_186 ?_
          refine lv_lload_n X.1 X.2.1 dX10_digest_189 rfl (lv_at hl 0 rfl) ?_
          refine lv_lmul X.1 X.2.1 dX10_digest_190 ?_
          refine lv_aload_n X.1 X.2.1 dX10_digest_191 rfl (lv_at hl 1 rfl) ?_
          refine lv_iconst (v := 1) X.1 X.2.1 dX10_digest_192 (by decide) ?_
          refine lv_iconst (v := 2) X.1 X.2.1 dX10_digest_193 (by decide) ?_
          refine lv_iconst (v := 1) X.1 X.2.1 dX10_digest_194 (by decide) ?_
          replace hm := ob_e hm
          obtain ⟨⟨r_50, t_51⟩, h_49, hm⟩ := hm
          replace hm := un_e hm
          refine k_Vl (k := 0) (As := [.int (1 : Int32), .int (2 : Int32), .int (1 : Int32)]) X hl.1 hw (c_X10_likeBy h_49) (by decide) (he_X10 g h _) rfl ⟨wq_35_16, wq_35_17, wq_35_18, wq_1_5, wq_35_19⟩ yo_X10_likeBy rfl ⟨Nat.le_of_ble_eq_true rfl, Nat.le_of_ble_eq_true rfl⟩ (Nat.le_of_ble_eq_true rfl) dX10_digest_195 (fun H locs hw => ?_)
          refine lv_ladd X.1 X.2.1 dX10_digest_198 ?_
          refine lv_topl (fun x_53 ex_53 => ?_)
          replace hm := lt_e hm ex_53
          refine lv_lstore_n (lv' := [(1, .long x_53), (0, .ref (h 0))]) X.1 X.2.1 dX10_digest_199 rfl hl (by decide) rfl (fun ls hl => ?_)
          refine lv_ldc2 (v := 31) X.1 X.2.1 X.2.2.2.1 (X.2.2.2.2.1 _ wq_55_3) dX10_digest_200 ?_
          refine lv_lload_n X.1 X.2.1 dX10_digest_203 rfl (lv_at hl 0 rfl) ?_
          refine lv_lmul X.1 X.2.1 dX10_digest_204 ?_
          refine lv_aload_n X.1 X.2.1 dX10_digest_205 rfl (lv_at hl 1 rfl) ?_
          refine lv_bipush (v := 9) X.1 X.2.1 dX10_digest_206 (by decide) ?_
          refine lv_bipush (v := 10) X.1 X.2.1 dX10_digest_208 (by decide) ?_
          refine lv_iconst (v := 0) X.1 X.2.1 dX10_digest_210 (by decide) ?_
          replace hm := ob_e hm
          obtain ⟨⟨r_55, t_56⟩, h_54, hm⟩ := hm
          replace hm := un_e hm
          refine k_Vl (k := 0) (As := [.int (9 : Int32), .int (10 : Int32), .int (0 : Int32)]) X hl.1 hw (c_X10_likeBy h_54) (by decide) (he_X10 g h _) rfl ⟨wq_35_16, wq_35_17, wq_35_18, wq_1_5, wq_35_19⟩ yo_X10_likeBy rfl ⟨Nat.le_of_ble_eq_true rfl, Nat.le_of_ble_eq_true rfl⟩ (Nat.le_of_ble_eq_true rfl) dX10_digest_211 (fun H locs hw => ?_)
          refine lv_ladd X.1 X.2.1 dX10_digest_214 ?_
          refine lv_topl (fun x_58 ex_58 => ?_)
          replace hm := lt_e hm ex_58
          refine lv_lstore_n (lv' := [(1, .long x_58), (0, .ref (h 0))]) X.1 X.2.1 dX10_digest_215 rfl hl (by decide) rfl (fun ls hl => ?_)
          refine lv_ldc2 (v := 31) X.1 X.2.1 X.2.2.2.1 (X.2.2.2.2.1 _ wq_55_3) dX10_digest_216 ?_
          refine lv_lload_n X.1 X.2.1 dX10_digest_219 rfl (lv_at hl 0 rfl) ?_
          refine lv_lmul X.1 X.2.1 dX10_digest_220 ?_
          refine lv_aload_n X.1 X.2.1 dX10_digest_221 rfl (lv_at hl 1 rfl) ?_
          replace hm := ob_e hm
          obtain ⟨r_60, h_59, hm⟩ := hm
          refine k_Vi (k := 0) (As := []) X hl.1 hw (c_X10_leastCut h_59) (by decide) (he_X10 g h _) rfl ⟨wq_37_2, wq_37_3, wq_37_4, wq_1_5, wq_37_5⟩ yo_X10_leastCut rfl ⟨Nat.le_of_ble_eq_true rfl, Nat.le_of_ble_eq_true rfl⟩ (Nat.le_of_ble_eq_true rfl) dX10_digest_222 (fun H locs hw => ?_)
          refine lv_i2l X.1 X.2.1 dX10_digest_225 rfl ?_
          refine lv_ladd X.1 X.2.1 dX10_digest_226 ?_
          refine lv_topl (fun x_61 ex_61 => ?_)
          replace hm := lt_e hm ex_61
          refine lv_lstore_n (lv' := [(1, .long x_61), (0, .ref (h 0))]) X.1 X.2.1 dX10_digest_227 rfl hl (by decide) rfl (fun ls hl => ?_)
          refine lv_ldc2 (v := 31) X.1 X.2.1 X.2.2.2.1 (X.2.2.2.2.1 _ wq_55_3) dX10_digest_228 ?_
          refine lv_lload_n X.1 X.2.1 dX10_digest_231 rfl (lv_at hl 0 rfl) ?_
          refine lv_lmul X.1 X.2.1 dX10_digest_232 ?_
          refine lv_aload_n X.1 X.2.1 dX10_digest_233 rfl (lv_at hl 1 rfl) ?_
          replace hm := ob_e hm
          obtain ⟨r_63, h_62, hm⟩ := hm
          refine k_Vi (k := 0) (As := []) X hl.1 hw (c_X10_leastWay h_62) (by decide) (he_X10 g h _) rfl ⟨wq_37_6, wq_37_7, wq_37_8, wq_1_5, wq_37_9⟩ yo_X10_leastWay rfl ⟨Nat.le_of_ble_eq_true rfl, Nat.le_of_ble_eq_true rfl⟩ (Nat.le_of_ble_eq_true rfl) dX10_digest_234 (fun H locs hw => ?_)
          refine lv_i2l X.1 X.2.1 dX10_digest_237 rfl ?_
          refine lv_ladd X.1 X.2.1 dX10_digest_238 ?_
          refine lv_topl (fun x_64 ex_64 => ?_)
          replace hm := lt_e hm ex_64
          refine lv_lstore_n (lv' := [(1, .long x_64), (0, .ref (h 0))]) X.1 X.2.1 dX10_digest_239 rfl hl (by decide) rfl (fun ls hl => ?_)
          refine lv_ldc2 (v := 31) X.1 X.2.1 X.2.2.2.1 (X.2.2.2.2.1 _ wq_55_3) dX10_digest_240 ?_
          refine lv_lload_n X.1 X.2.1 dX10_digest_243 rfl (lv_at hl 0 rfl) ?_
          refine lv_lmul X.1 X.2.1 dX10_digest_244 ?_
          refine lv_aload_n X.1 X.2.1 dX10_digest_245 rfl (lv_at hl 1 rfl) ?_
          replace hm := ob_e hm
          obtain ⟨⟨r_66, t_67⟩, h_65, hm⟩ := hm
          replace hm := un_e hm
          refine k_Vi (k := 0) (As := []) X hl.1 hw (c_X10_worthiestNow h_65) (by decide) (he_X10 g h _) rfl ⟨wq_38_22, wq_38_23, wq_39_0, wq_1_5, wq_39_1⟩ yo_X10_worthiestNow rfl ⟨Nat.le_of_ble_eq_true rfl, Nat.le_of_ble_eq_true rfl⟩ (Nat.le_of_ble_eq_true rfl) dX10_digest_246 (fun H locs hw => ?_)
          refine lv_i2l X.1 X.2.1 dX10_digest_249 rfl ?_
          refine lv_ladd X.1 X.2.1 dX10_digest_250 ?_
          refine lv_topl (fun x_69 ex_69 => ?_)
          replace hm := lt_e hm ex_69
          refine lv_lstore_n (lv' := [(1, .long x_69), (0, .ref (h 0))]) X.1 X.2.1 dX10_digest_251 rfl hl (by decide) rfl (fun ls hl => ?_)
          refine lv_aload_n X.1 X.2.1 dX10_digest_252 rfl (lv_at hl 1 rfl) ?_
          refine lv_lload_n X.1 X.2.1 dX10_digest_253 rfl (lv_at hl 0 rfl) ?_
          replace hm := ob_e hm
          obtain ⟨⟨r_71, t_72⟩, h_70, hm⟩ := hm
          replace hm := un_e hm
          refine k_Vl (k := 0) (As := [.long x_69]) X hl.1 hw (c_X10_pairTells h_70) (by decide) (he_X10 g h _) rfl ⟨wq_55_9, wq_55_10, wq_55_11, wq_1_5, wq_55_12⟩ yo_X10_pairTells rfl ⟨Nat.le_of_ble_eq_true rfl, Nat.le_of_ble_eq_true rfl⟩ (Nat.le_of_ble_eq_true rfl) dX10_digest_254 (fun H locs hw => ?_)
          refine lv_lstore_n (lv' := [(1, .long r_71), (0, .ref (h 0))]) X.1 X.2.1 dX10_digest_257 rfl hl (by decide) rfl (fun ls hl => ?_)
          refine lv_ldc2 (v := 31) X.1 X.2.1 X.2.2.2.1 (X.2.2.2.2.1 _ wq_55_3) dX10_digest_258 ?_
          refine lv_lload_n X.1 X.2.1 dX10_digest_261 rfl (lv_at hl 0 rfl) ?_
          refine lv_lmul X.1 X.2.1 dX10_digest_262 ?_
          refine lv_aload_n X.1 X.2.1 dX10_digest_263 rfl (lv_at hl 1 rfl) ?_
          refine gX10_wrongBy X hw wq_45_6 dX10_digest_264 ?_
          refine lv_i2l X.1 X.2.1 dX10_digest_267 rfl ?_
          refine lv_ladd X.1 X.2.1 dX10_digest_268 ?_
          obtain ⟨rfl, rfl⟩ := Prod.mk.inj (Option.some.inj hm)
          exact hret _ _ _ _ hw dX10_digest_269
        refine vLoop_ind (B := (m_X10_digest_L145 t_38)) (fun σ => ∀ (H : Heap) (locs : List Loc) (ls : Array Slot), Wd g 20 h (cM g h t_38) s H locs → lv_has ls 4 [(0, .ref (h 0)), (1, .long σ.1), (3, .int σ.2)] → W p l e (rW 6 144) s m AV below meth c H locs 0 0 Q (F0 m 145 ls [])) (fun z' => z' = j_43) ?_ FUEL _ _ hL_80 rfl _ _ _ hw (lv_sub hl [2, 1, 0] rfl)
        intro σ z_78 hz_75 hn_76 hx_77
        obtain ⟨y_41, y_42⟩ := σ
        intro H locs ls hw hl
        replace hw : Wd g 20 h (cM g h t_38) s H locs := hw
        replace hl : lv_has ls 4 [(0, .ref (h 0)), (1, .long y_41), (3, .int y_42)] := hl
        unfold m_X10_digest_L145 at hz_75
        replace hz_75 := un_e hz_75
        refine lv_iload_n X.1 X.2.1 dX10_digest_145 rfl (lv_at hl 2 rfl) ?_
        refine lv_aload_n X.1 X.2.1 dX10_digest_146 rfl (lv_at hl 0 rfl) ?_
        refine gX10_links X hw wq_7_2 dX10_digest_147 ?_
        refine lv_icmp_gt (tgt := 172) X.1 X.2.1 dX10_digest_150 (by decide) (fun c_82 => ?_) (fun c_82 => ?_)
        · replace hz_75 := it_p hz_75 c_82
          obtain rfl := hx_77 _ (Option.some.inj hz_75).symm
          exact J_79 _ _ _ hw (lv_sub hl [0, 1] rfl)
        · replace hz_75 := it_n hz_75 c_82
          refine lv_ldc2 (v := 31) X.1 X.2.1 X.2.2.2.1 (X.2.2.2.2.1 _ wq_55_3) dX10_digest_153 ?_
          refine lv_lload_n X.1 X.2.1 dX10_digest_156 rfl (lv_at hl 1 rfl) ?_
          refine lv_lmul X.1 X.2.1 dX10_digest_157 ?_
          refine lv_aload_n X.1 X.2.1 dX10_digest_158 rfl (lv_at hl 0 rfl) ?_
          refine lv_iload_n X.1 X.2.1 dX10_digest_159 rfl (lv_at hl 2 rfl) ?_
          replace hz_75 := ob_e hz_75
          obtain ⟨r_84, h_83, hz_75⟩ := hz_75
          refine k_Vi (k := 0) (As := [.int y_42]) X hl.1 hw (c_X10_setsOf h_83) (by decide) (he_X10 g h _) rfl ⟨wq_34_6, wq_34_7, wq_34_8, wq_1_5, wq_34_9⟩ yo_X10_setsOf rfl ⟨Nat.le_of_ble_eq_true rfl, Nat.le_of_ble_eq_true rfl⟩ (Nat.le_of_ble_eq_true rfl) dX10_digest_160 (fun H locs hw => ?_)
          refine lv_i2l X.1 X.2.1 dX10_digest_163 rfl ?_
          refine lv_ladd X.1 X.2.1 dX10_digest_164 ?_
          refine lv_topl (fun x_85 ex_85 => ?_)
          replace hz_75 := lt_e hz_75 ex_85
          refine lv_lstore_n (lv' := [(1, .long x_85), (0, .ref (h 0)), (3, .int y_42)]) X.1 X.2.1 dX10_digest_165 rfl hl (by decide) rfl (fun ls hl => ?_)
          obtain ⟨x_86, ex_86⟩ : ∃ y : Int32, y = y_42 + 1 := ⟨_, rfl⟩
          replace hz_75 := lt_e hz_75 ex_86
          refine lv_iinc (v := x_86) (lv' := [(3, .int x_86), (1, .long x_85), (0, .ref (h 0))]) X.1 X.2.1 dX10_digest_166 hl (k := 2) rfl (by rw [ex_86]; rfl) (by decide) rfl (fun ls hl => ?_)
          refine lv_goto (tgt := 145) X.1 X.2.1 dX10_digest_169 (by decide) ?_
          exact hn_76 _ (Option.some.inj hz_75).symm _ _ _ hw (lv_sub hl [2, 1, 0] rfl)
      refine vLoop_ind (B := (m_X10_digest_L84)) (fun σ => ∀ (H : Heap) (locs : List Loc) (ls : Array Slot), Wd g 20 h (cM g h σ.2.2) s H locs → lv_has ls 4 [(0, .ref (h 0)), (1, .long σ.1), (3, .int σ.2.1)] → W p l e (rW 6 144) s m AV below meth c H locs 0 0 Q (F0 m 84 ls [])) (fun z' => z' = (j_24, t_25)) ?_ FUEL _ _ hL_93 rfl _ _ _ hw (lv_sub hl [2, 1, 0] rfl)
      intro σ z_91 hz_88 hn_89 hx_90
      obtain ⟨y_21, y_22, t_23⟩ := σ
      intro H locs ls hw hl
      replace hw : Wd g 20 h (cM g h t_23) s H locs := hw
      replace hl : lv_has ls 4 [(0, .ref (h 0)), (1, .long y_21), (3, .int y_22)] := hl
      unfold m_X10_digest_L84 at hz_88
      replace hz_88 := un_e hz_88
      replace hz_88 := un_e hz_88
      refine lv_iload_n X.1 X.2.1 dX10_digest_84 rfl (lv_at hl 2 rfl) ?_
      refine lv_iconst (v := 5) X.1 X.2.1 dX10_digest_85 (by decide) ?_
      refine lv_icmp_ge (tgt := 107) X.1 X.2.1 dX10_digest_86 (by decide) (fun c_95 => ?_) (fun c_95 => ?_)
      · replace hz_88 := it_p hz_88 c_95
        obtain ⟨rfl, rfl⟩ := Prod.mk.inj (hx_90 _ (Option.some.inj hz_88).symm)
        exact J_92 _ _ _ hw (lv_sub hl [0, 1] rfl)
      · replace hz_88 := it_n hz_88 c_95
        refine lv_ldc2 (v := 31) X.1 X.2.1 X.2.2.2.1 (X.2.2.2.2.1 _ wq_55_3) dX10_digest_89 ?_
        refine lv_lload_n X.1 X.2.1 dX10_digest_92 rfl (lv_at hl 1 rfl) ?_
        refine lv_lmul X.1 X.2.1 dX10_digest_93 ?_
        refine lv_aload_n X.1 X.2.1 dX10_digest_94 rfl (lv_at hl 0 rfl) ?_
        refine lv_iload_n X.1 X.2.1 dX10_digest_95 rfl (lv_at hl 2 rfl) ?_
        replace hz_88 := ob_e hz_88
        obtain ⟨⟨r_98, t_99⟩, h_97, hz_88⟩ := hz_88
        replace hz_88 := un_e hz_88
        refine k_Vl (k := 0) (As := [.int y_22]) X hl.1 hw (c_X10_joinedBy h_97) (by decide) (he_X10 g h _) rfl ⟨wq_28_10, wq_28_11, wq_28_12, wq_1_5, wq_28_13⟩ yo_X10_joinedBy rfl ⟨Nat.le_of_ble_eq_true rfl, Nat.le_of_ble_eq_true rfl⟩ (Nat.le_of_ble_eq_true rfl) dX10_digest_96 (fun H locs hw => ?_)
        refine lv_ladd X.1 X.2.1 dX10_digest_99 ?_
        refine lv_topl (fun x_101 ex_101 => ?_)
        replace hz_88 := lt_e hz_88 ex_101
        refine lv_lstore_n (lv' := [(1, .long x_101), (0, .ref (h 0)), (3, .int y_22)]) X.1 X.2.1 dX10_digest_100 rfl hl (by decide) rfl (fun ls hl => ?_)
        obtain ⟨x_102, ex_102⟩ : ∃ y : Int32, y = y_22 + 1 := ⟨_, rfl⟩
        replace hz_88 := lt_e hz_88 ex_102
        refine lv_iinc (v := x_102) (lv' := [(3, .int x_102), (1, .long x_101), (0, .ref (h 0))]) X.1 X.2.1 dX10_digest_101 hl (k := 2) rfl (by rw [ex_102]; rfl) (by decide) rfl (fun ls hl => ?_)
        refine lv_goto (tgt := 84) X.1 X.2.1 dX10_digest_104 (by decide) ?_
        exact hn_89 _ (Option.some.inj hz_88).symm _ _ _ hw (lv_sub hl [2, 1, 0] rfl)
    refine vLoop_ind (B := (m_X10_digest_L33)) (fun σ => ∀ (H : Heap) (locs : List Loc) (ls : Array Slot), Wd g 20 h (cM g h σ.2.2) s H locs → lv_has ls 4 [(0, .ref (h 0)), (1, .long σ.1), (3, .int σ.2.1)] → W p l e (rW 6 144) s m AV below meth c H locs 0 0 Q (F0 m 33 ls [])) (fun z' => z' = (j_7, t_8)) ?_ FUEL _ _ hL_110 rfl _ _ _ hw (lv_sub hl [1, 2, 0] rfl)
    intro σ z_108 hz_105 hn_106 hx_107
    obtain ⟨y_4, y_5, t_6⟩ := σ
    intro H locs ls hw hl
    replace hw : Wd g 20 h (cM g h t_6) s H locs := hw
    replace hl : lv_has ls 4 [(0, .ref (h 0)), (1, .long y_4), (3, .int y_5)] := hl
    unfold m_X10_digest_L33 at hz_105
    replace hz_105 := un_e hz_105
    replace hz_105 := un_e hz_105
    refine lv_iload_n X.1 X.2.1 dX10_digest_33 rfl (lv_at hl 2 rfl) ?_
    refine lv_aload_n X.1 X.2.1 dX10_digest_34 rfl (lv_at hl 0 rfl) ?_
    refine gX10_links X hw wq_7_2 dX10_digest_35 ?_
    refine lv_icmp_ge (tgt := 54) X.1 X.2.1 dX10_digest_38 (by decide) (fun c_112 => ?_) (fun c_112 => ?_)
    · replace hz_105 := it_p hz_105 c_112
      obtain ⟨rfl, rfl⟩ := Prod.mk.inj (hx_107 _ (Option.some.inj hz_105).symm)
      exact J_109 _ _ _ hw (lv_sub hl [0, 1] rfl)
    · replace hz_105 := it_n hz_105 c_112
      refine lv_aload_n X.1 X.2.1 dX10_digest_41 rfl (lv_at hl 0 rfl) ?_
      refine lv_lload_n X.1 X.2.1 dX10_digest_42 rfl (lv_at hl 1 rfl) ?_
      refine lv_iload_n X.1 X.2.1 dX10_digest_43 rfl (lv_at hl 2 rfl) ?_
      replace hz_105 := ob_e hz_105
      obtain ⟨⟨r_115, t_116⟩, h_114, hz_105⟩ := hz_105
      replace hz_105 := un_e hz_105
      refine k_Vl (k := 0) (As := [.long y_4, .int y_5]) X hl.1 hw (c_X10_linkTells h_114) (by decide) (he_X10 g h _) rfl ⟨wq_55_5, wq_55_6, wq_55_7, wq_1_5, wq_55_8⟩ yo_X10_linkTells rfl ⟨Nat.le_of_ble_eq_true rfl, Nat.le_of_ble_eq_true rfl⟩ (Nat.le_of_ble_eq_true rfl) dX10_digest_44 (fun H locs hw => ?_)
      refine lv_lstore_n (lv' := [(1, .long r_115), (0, .ref (h 0)), (3, .int y_5)]) X.1 X.2.1 dX10_digest_47 rfl hl (by decide) rfl (fun ls hl => ?_)
      obtain ⟨x_118, ex_118⟩ : ∃ y : Int32, y = y_5 + 1 := ⟨_, rfl⟩
      replace hz_105 := lt_e hz_105 ex_118
      refine lv_iinc (v := x_118) (lv' := [(3, .int x_118), (1, .long r_115), (0, .ref (h 0))]) X.1 X.2.1 dX10_digest_48 hl (k := 2) rfl (by rw [ex_118]; rfl) (by decide) rfl (fun ls hl => ?_)
      refine lv_goto (tgt := 33) X.1 X.2.1 dX10_digest_51 (by decide) ?_
      exact hn_106 _ (Option.some.inj hz_105).symm _ _ _ hw (lv_sub hl [2, 1, 0] rfl)
  refine vLoop_ind (B := (m_X10_digest_L6 t)) (fun σ => ∀ (H : Heap) (locs : List Loc) (ls : Array Slot), Wd g 20 h (cM g h t) s H locs → lv_has ls 4 [(0, .ref (h 0)), (1, .long σ.1), (3, .int σ.2)] → W p l e (rW 6 144) s m AV below meth c H locs 0 0 Q (F0 m 6 ls [])) (fun z' => z' = j_3) ?_ FUEL _ _ hL_126 rfl _ _ _ hw (lv_sub hl [2, 1, 0] rfl)
  intro σ z_124 hz_121 hn_122 hx_123
  obtain ⟨y_1, y_2⟩ := σ
  intro H locs ls hw hl
  replace hw : Wd g 20 h (cM g h t) s H locs := hw
  replace hl : lv_has ls 4 [(0, .ref (h 0)), (1, .long y_1), (3, .int y_2)] := hl
  unfold m_X10_digest_L6 at hz_121
  replace hz_121 := un_e hz_121
  refine lv_iload_n X.1 X.2.1 dX10_digest_6 rfl (lv_at hl 2 rfl) ?_
  refine lv_bipush (v := 8) X.1 X.2.1 dX10_digest_7 (by decide) ?_
  refine lv_icmp_ge (tgt := 31) X.1 X.2.1 dX10_digest_9 (by decide) (fun c_128 => ?_) (fun c_128 => ?_)
  · replace hz_121 := it_p hz_121 c_128
    obtain rfl := hx_123 _ (Option.some.inj hz_121).symm
    exact J_125 _ _ _ hw (lv_sub hl [0, 1] rfl)
  · replace hz_121 := it_n hz_121 c_128
    refine lv_ldc2 (v := 31) X.1 X.2.1 X.2.2.2.1 (X.2.2.2.2.1 _ wq_55_3) dX10_digest_12 ?_
    refine lv_lload_n X.1 X.2.1 dX10_digest_15 rfl (lv_at hl 1 rfl) ?_
    refine lv_lmul X.1 X.2.1 dX10_digest_16 ?_
    refine lv_aload_n X.1 X.2.1 dX10_digest_17 rfl (lv_at hl 0 rfl) ?_
    refine lv_iload_n X.1 X.2.1 dX10_digest_18 rfl (lv_at hl 2 rfl) ?_
    replace hz_121 := ob_e hz_121
    obtain ⟨r_130, h_129, hz_121⟩ := hz_121
    refine k_Vi (k := 0) (As := [.int y_2]) X hl.1 hw (c_X10_count h_129) (by decide) (he_X10 g h _) rfl ⟨wq_55_4, wq_53_4, wq_53_5, wq_1_5, wq_53_6⟩ yo_X10_count rfl ⟨Nat.le_of_ble_eq_true rfl, Nat.le_of_ble_eq_true rfl⟩ (Nat.le_of_ble_eq_true rfl) dX10_digest_19 (fun H locs hw => ?_)
    refine lv_i2l X.1 X.2.1 dX10_digest_22 rfl ?_
    refine lv_ladd X.1 X.2.1 dX10_digest_23 ?_
    refine lv_topl (fun x_131 ex_131 => ?_)
    replace hz_121 := lt_e hz_121 ex_131
    refine lv_lstore_n (lv' := [(1, .long x_131), (0, .ref (h 0)), (3, .int y_2)]) X.1 X.2.1 dX10_digest_24 rfl hl (by decide) rfl (fun ls hl => ?_)
    obtain ⟨x_132, ex_132⟩ : ∃ y : Int32, y = y_2 + 1 := ⟨_, rfl⟩
    replace hz_121 := lt_e hz_121 ex_132
    refine lv_iinc (v := x_132) (lv' := [(3, .int x_132), (1, .long x_131), (0, .ref (h 0))]) X.1 X.2.1 dX10_digest_25 hl (k := 2) rfl (by rw [ex_132]; rfl) (by decide) rfl (fun ls hl => ?_)
    refine lv_goto (tgt := 6) X.1 X.2.1 dX10_digest_28 (by decide) ?_
    exact hn_122 _ (Option.some.inj hz_121).symm _ _ _ hw (lv_sub hl [2, 1, 0] rfl)
