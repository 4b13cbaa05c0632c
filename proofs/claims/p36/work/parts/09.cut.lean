def m_X0_ask : Nat → ST → (Nat → ST) → Int32 → Option (ST × (Nat → ST))
  | 0, _, _, _ => none
  | n_ + 1, b, w, x1 => if x1 < 0 then some (b, w) else if x1 < (11 : Int32) then gd (¬ (x1 < 0 ∨ 11 ≤ x1.toNatClampNeg)) (lt (wI b 4 (((b.1 4) + (1 : Int32)))) (fun b_5 => lt (if (b_5.1 5) < (x1 + (1 : Int32)) then (x1 + (1 : Int32)) else (b_5.1 5)) (fun x_6 => lt (wI b_5 5 x_6) (fun b_7 => Option.bind (m_X8_tidy (w x1.toNatClampNeg)) (fun (q_11 : Int32 × ST) => un q_11 (fun r_9 t_10 => lt (va_up w x1.toNatClampNeg t_10) (fun w_12 => lt (wI b_7 6 (((b_7.1 6) + r_9))) (fun b_13 => Option.bind (m_X8_isSettled (w_12 x1.toNatClampNeg)) (fun (q_17 : Int32 × ST) => un q_17 (fun r_15 t_16 => lt (va_up w_12 x1.toNatClampNeg t_16) (fun w_18 => if r_15 = 0 then if (x1 + (1 : Int32)) < (11 : Int32) then lt (x1 + (1 : Int32)) (fun x_22 => gd (¬ (x_22 < 0 ∨ 11 ≤ x_22.toNatClampNeg)) (Option.bind (m_X8_leastLink (w_18 x1.toNatClampNeg)) (fun (r_25 : Int32) => Option.bind (m_X8_canBeUp (w_18 x1.toNatClampNeg) r_25) (fun (r_27 : Int32) => Option.bind (if r_27 = 0 then some (b_13, w_18) else gd (¬ x1.toNatClampNeg = x_22.toNatClampNeg) (Option.bind (m_X8_takeJoined (w_18 x_22.toNatClampNeg) (w_18 x1.toNatClampNeg) r_25) (fun (t_53 : ST) => lt (va_up w_18 x_22.toNatClampNeg t_53) (fun w_54 => Option.bind (m_X0_ask n_ b_13 w_54 ((x1 + (1 : Int32)))) (fun (q_58 : ST × (Nat → ST)) => un q_58 (fun b_56 w_57 => gd (¬ x_22.toNatClampNeg = x1.toNatClampNeg) (Option.bind (m_X8_addUp (w_57 x1.toNatClampNeg) (w_57 x_22.toNatClampNeg) r_25) (fun (t_61 : ST) => lt (va_up w_57 x1.toNatClampNeg t_61) (fun w_62 => some (b_56, w_62)))))))))) (fun (q_64 : ST × (Nat → ST)) => un q_64 (fun b_29 w_30 => Option.bind (m_X8_canBeDown (w_30 x1.toNatClampNeg) r_25) (fun (r_32 : Int32) => if r_32 = 0 then some (b_29, w_30) else gd (¬ x1.toNatClampNeg = x_22.toNatClampNeg) (Option.bind (m_X8_takeCut (w_30 x_22.toNatClampNeg) (w_30 x1.toNatClampNeg) r_25) (fun (t_37 : ST) => lt (va_up w_30 x_22.toNatClampNeg t_37) (fun w_38 => Option.bind (m_X0_ask n_ b_29 w_38 ((x1 + (1 : Int32)))) (fun (q_42 : ST × (Nat → ST)) => un q_42 (fun b_40 w_41 => gd (¬ x_22.toNatClampNeg = x1.toNatClampNeg) (Option.bind (m_X8_addDown (w_41 x1.toNatClampNeg) (w_41 x_22.toNatClampNeg) r_25) (fun (t_45 : ST) => lt (va_up w_41 x1.toNatClampNeg t_45) (fun w_46 => some (b_40, w_46)))))))))))))))) else some (b_13, w_18) else some (b_13, w_18)))))))))))) else some (b, w)
theorem yo_X0_ask : yX0_ask.cls ≠ "java/lang/invoke/MethodHandle" ∧ yX0_ask.cls ≠ "java/lang/invoke/VarHandle" ∧ (parseMethodDescriptor yX0_ask.desc).map (fun d => d.parameters.length) = some 2 := by decide +kernel
set_option maxHeartbeats 4000000 in
set_option maxRecDepth 100000 in
theorem c_X0_ask {l : Launch} {g : gT} {h : Nat → Nat} : ∀ (n_ : Nat) {b : ST} {w : Nat → ST} {x1 : Int32} {b' : ST} {w' : Nat → ST} (hm : m_X0_ask n_ b w x1 = some (b', w')), MetV l g yX0_ask cX0_ask 5 none (4 + n_) (104 + 24 * n_) 79 h (cC g h (b, w)) (cC g h (b', w')) [.ref (h 14), .int x1] := by
  intro n_
  induction n_ with
  | zero => intro b w x1 b' w' hm; cases hm
  | succ n_ ih =>
    intro b w x1 b' w' hm
    refine MetV.ofX (by decide +kernel) (Nat.le_of_ble_eq_true rfl) ?_
    intro p e s m below meth c AV Q X hret ls hw hl
    replace X : Cx g p s m AV c cX0_ask RX0 5 := X
    replace hl : lv_has ls 5 [(0, .ref (h 14)), (1, .int x1)] := hl
    unfold m_X0_ask at hm
    refine lv_iload_n X.1 X.2.1 dX0_ask_0 rfl (lv_at hl 1 rfl) ?_
    refine lv_if_lt (tgt := 13) X.1 X.2.1 dX0_ask_1 (by decide) (fun c_1 => ?_) (fun c_1 => ?_)
    · replace hm := it_p hm c_1
      obtain ⟨rfl, rfl⟩ := Prod.mk.inj (Option.some.inj hm)
      exact hret _ _ _ _ hw dX0_ask_13
    · replace hm := it_n hm c_1
      refine lv_iload_n X.1 X.2.1 dX0_ask_4 rfl (lv_at hl 1 rfl) ?_
      refine lv_aload_n X.1 X.2.1 dX0_ask_5 rfl (lv_at hl 0 rfl) ?_
      refine gX0_levels X hw wq_4_3 dX0_ask_6 ?_
      refine e_lev X hw (v := 11) rfl dX0_ask_9 ?_
      refine lv_icmp_lt (tgt := 14) X.1 X.2.1 dX0_ask_10 (by decide) (fun c_3 => ?_) (fun c_3 => ?_)
      · replace hm := it_p hm c_3
        refine lv_aload_n X.1 X.2.1 dX0_ask_14 rfl (lv_at hl 0 rfl) ?_
        refine gX0_levels X hw wq_4_3 dX0_ask_15 ?_
        refine lv_iload_n X.1 X.2.1 dX0_ask_18 rfl (lv_at hl 1 rfl) ?_
        replace hm := gd_e hm
        obtain ⟨g_4, hm⟩ := hm
        refine l_lev X hw g_4 dX0_ask_19 ?_
        refine lv_astore_n (lv' := [(2, .ref (h (24 + 5 * x1.toNatClampNeg))), (0, .ref (h 14)), (1, .int x1)]) X.1 X.2.1 dX0_ask_20 rfl hl (by decide) rfl (fun ls hl => ?_)
        refine lv_aload_n X.1 X.2.1 dX0_ask_21 rfl (lv_at hl 1 rfl) ?_
        refine lv_dup X.1 X.2.1 dX0_ask_22 rfl ?_
        refine gX0_steps X hw wq_15_0 dX0_ask_23 ?_
        refine lv_iconst (v := 1) X.1 X.2.1 dX0_ask_26 (by decide) ?_
        refine lv_iadd X.1 X.2.1 dX0_ask_27 ?_
        refine pX0_steps X hw wq_15_0 dX0_ask_28 (fun H locs hw => ?_)
        obtain ⟨b_5, eb_5⟩ : ∃ y, y = wI b 4 (((b.1 4) + (1 : Int32))) := ⟨_, rfl⟩
        rw [← eb_5] at hw
        replace hm := lt_e hm eb_5
        refine lv_aload_n X.1 X.2.1 dX0_ask_31 rfl (lv_at hl 1 rfl) ?_
        refine lv_aload_n X.1 X.2.1 dX0_ask_32 rfl (lv_at hl 1 rfl) ?_
        refine gX0_deep X hw wq_15_1 dX0_ask_33 ?_
        refine lv_iload_n X.1 X.2.1 dX0_ask_36 rfl (lv_at hl 2 rfl) ?_
        refine lv_iconst (v := 1) X.1 X.2.1 dX0_ask_37 (by decide) ?_
        refine lv_iadd X.1 X.2.1 dX0_ask_38 ?_
        refine x_max (ws' := []) X hl.1 wq_16_1 (by show 1 ≤ (4 + (n_ + 1)); omega) (by show 1 + 13 ≤ (104 + 24 * (n_ + 1)); omega) dX0_ask_39 wq_7_12 wq_7_9 wq_7_13 ?_
        refine lv_topi (fun x_6 ex_6 => ?_)
        replace hm := lt_e hm ex_6
        refine pX0_deep X hw wq_15_1 dX0_ask_42 (fun H locs hw => ?_)
        obtain ⟨b_7, eb_7⟩ : ∃ y, y = wI b_5 5 x_6 := ⟨_, rfl⟩
        rw [← eb_7] at hw
        replace hm := lt_e hm eb_7
        refine lv_aload_n X.1 X.2.1 dX0_ask_45 rfl (lv_at hl 1 rfl) ?_
        refine lv_dup X.1 X.2.1 dX0_ask_46 rfl ?_
        refine gX0_tidied X hw wq_15_2 dX0_ask_47 ?_
        refine lv_aload_n X.1 X.2.1 dX0_ask_50 rfl (lv_at hl 0 rfl) ?_
        replace hm := ob_e hm
        obtain ⟨⟨r_9, t_10⟩, h_8, hm⟩ := hm
        replace hm := un_e hm
        refine k_Vi (k := (24 + 5 * x1.toNatClampNeg)) (As := []) X hl.1 hw (c_X8_tidy_c (Nat.not_le.mp (fun q => g_4 (Or.inr q))) h_8) (by have := (Nat.not_le.mp (fun q => g_4 (Or.inr q))); omega) (he_X8 g h _ _ _) rfl ⟨wq_16_2, wq_16_3, wq_16_4, wq_4_6, wq_16_5⟩ yo_X8_tidy rfl ⟨by show 3 + 1 ≤ (4 + (n_ + 1)); omega, by show 8 + (2 + 11) + 71 ≤ (104 + 24 * (n_ + 1)); omega⟩ (Nat.le_of_ble_eq_true rfl) dX0_ask_51 (fun H locs hw => ?_)
        obtain ⟨w_12, ew_12⟩ : ∃ y, y = va_up w x1.toNatClampNeg t_10 := ⟨_, rfl⟩
        rw [← ew_12] at hw
        replace hm := lt_e hm ew_12
        refine lv_iadd X.1 X.2.1 dX0_ask_54 ?_
        refine pX0_tidied X hw wq_15_2 dX0_ask_55 (fun H locs hw => ?_)
        obtain ⟨b_13, eb_13⟩ : ∃ y, y = wI b_7 6 (((b_7.1 6) + r_9)) := ⟨_, rfl⟩
        rw [← eb_13] at hw
        replace hm := lt_e hm eb_13
        refine lv_aload_n X.1 X.2.1 dX0_ask_58 rfl (lv_at hl 0 rfl) ?_
        replace hm := ob_e hm
        obtain ⟨⟨r_15, t_16⟩, h_14, hm⟩ := hm
        replace hm := un_e hm
        refine k_Vi (k := (24 + 5 * x1.toNatClampNeg)) (As := []) X hl.1 hw (c_X8_isSettled_c (Nat.not_le.mp (fun q => g_4 (Or.inr q))) h_14) (by have := (Nat.not_le.mp (fun q => g_4 (Or.inr q))); omega) (he_X8 g h _ _ _) rfl ⟨wq_18_0, wq_18_1, wq_18_2, wq_4_6, wq_18_3⟩ yo_X8_isSettled rfl ⟨by show 2 + 1 ≤ (4 + (n_ + 1)); omega, by show 8 + (2 + 11) + 44 ≤ (104 + 24 * (n_ + 1)); omega⟩ (Nat.le_of_ble_eq_true rfl) dX0_ask_59 (fun H locs hw => ?_)
        obtain ⟨w_18, ew_18⟩ : ∃ y, y = va_up w_12 x1.toNatClampNeg t_16 := ⟨_, rfl⟩
        rw [← ew_18] at hw
        replace hm := lt_e hm ew_18
        refine lv_if_ne (tgt := 76) X.1 X.2.1 dX0_ask_62 (by decide) (fun c_19 => ?_) (fun c_19 => ?_)
        · replace hm := it_n hm c_19
          obtain ⟨rfl, rfl⟩ := Prod.mk.inj (Option.some.inj hm)
          exact hret _ _ _ _ hw dX0_ask_76
        · replace hm := it_p hm c_19
          refine lv_iload_n X.1 X.2.1 dX0_ask_65 rfl (lv_at hl 2 rfl) ?_
          refine lv_iconst (v := 1) X.1 X.2.1 dX0_ask_66 (by decide) ?_
          refine lv_iadd X.1 X.2.1 dX0_ask_67 ?_
          refine lv_aload_n X.1 X.2.1 dX0_ask_68 rfl (lv_at hl 1 rfl) ?_
          refine gX0_levels X hw wq_4_3 dX0_ask_69 ?_
          refine e_lev X hw (v := 11) rfl dX0_ask_72 ?_
          refine lv_icmp_lt (tgt := 77) X.1 X.2.1 dX0_ask_73 (by decide) (fun c_21 => ?_) (fun c_21 => ?_)
          · replace hm := it_p hm c_21
            refine lv_aload_n X.1 X.2.1 dX0_ask_77 rfl (lv_at hl 1 rfl) ?_
            refine gX0_levels X hw wq_4_3 dX0_ask_78 ?_
            refine lv_iload_n X.1 X.2.1 dX0_ask_81 rfl (lv_at hl 2 rfl) ?_
            refine lv_iconst (v := 1) X.1 X.2.1 dX0_ask_82 (by decide) ?_
            refine lv_iadd X.1 X.2.1 dX0_ask_83 ?_
            refine lv_topi (fun x_22 ex_22 => ?_)
            replace hm := lt_e hm ex_22
            replace hm := gd_e hm
            obtain ⟨g_23, hm⟩ := hm
            refine l_lev X hw g_23 dX0_ask_84 ?_
            refine lv_astore_n (lv' := [(3, .ref (h (24 + 5 * x_22.toNatClampNeg))), (2, .ref (h (24 + 5 * x1.toNatClampNeg))), (0, .ref (h 14)), (1, .int x1)]) X.1 X.2.1 dX0_ask_85 rfl hl (by decide) rfl (fun ls hl => ?_)
            refine lv_aload_n X.1 X.2.1 dX0_ask_86 rfl (lv_at hl 1 rfl) ?_
            replace hm := ob_e hm
            obtain ⟨r_25, h_24, hm⟩ := hm
            refine k_Vi (k := (24 + 5 * x1.toNatClampNeg)) (As := []) X hl.1 hw (c_X8_leastLink_c (Nat.not_le.mp (fun q => g_4 (Or.inr q))) h_24) (by have := (Nat.not_le.mp (fun q => g_4 (Or.inr q))); omega) (he_X8 g h _ _ _) rfl ⟨wq_18_4, wq_18_5, wq_18_6, wq_4_6, wq_18_7⟩ yo_X8_leastLink rfl ⟨by show 1 + 1 ≤ (4 + (n_ + 1)); omega, by show 8 + (1 + 11) + 21 ≤ (104 + 24 * (n_ + 1)); omega⟩ (Nat.le_of_ble_eq_true rfl) dX0_ask_87 (fun H locs hw => ?_)
            refine lv_istore (lv' := [(4, .int r_25), (3, .ref (h (24 + 5 * x_22.toNatClampNeg))), (2, .ref (h (24 + 5 * x1.toNatClampNeg))), (0, .ref (h 14)), (1, .int x1)]) X.1 X.2.1 dX0_ask_90 hl (by decide) rfl (fun ls hl => ?_)
            refine lv_aload_n X.1 X.2.1 dX0_ask_92 rfl (lv_at hl 2 rfl) ?_
            refine lv_iload X.1 X.2.1 dX0_ask_93 (lv_at hl 0 rfl) ?_
            replace hm := ob_e hm
            obtain ⟨r_27, h_26, hm⟩ := hm
            refine k_Vi (k := (24 + 5 * x1.toNatClampNeg)) (As := [.int r_25]) X hl.1 hw (c_X8_canBeUp_c (Nat.not_le.mp (fun q => g_4 (Or.inr q))) h_26) (by have := (Nat.not_le.mp (fun q => g_4 (Or.inr q))); omega) (he_X8 g h _ _ _) rfl ⟨wq_18_8, wq_18_9, wq_18_10, wq_4_6, wq_18_11⟩ yo_X8_canBeUp rfl ⟨by show 1 + 1 ≤ (4 + (n_ + 1)); omega, by show 8 + (2 + 11) + 21 ≤ (104 + 24 * (n_ + 1)); omega⟩ (Nat.le_of_ble_eq_true rfl) dX0_ask_95 (fun H locs hw => ?_)
            replace hm := ob_e hm
            obtain ⟨⟨b_29, w_30⟩, hg_48, hm⟩ := hm
            replace hm := un_e hm
            have J_49 : ∀ (H : Heap) (locs : List Loc) (ls : Array Slot), Wd g 79 h (cC g h (b_29, w_30)) s H locs → lv_has ls 5 [(0, .ref (h 14)), (1, .int x1), (2, .ref (h (24 + 5 * x1.toNatClampNeg))), (3, .ref (h (24 + 5 * x_22.toNatClampNeg))), (4, .int r_25)] → W p l e (rW (4 + (n_ + 1)) (104 + 24 * (n_ + 1))) s m AV below meth c H locs 0 0 Q (F0 m 122 ls []) := by
              intro H locs ls hw hl
              refine lv_aload_n X.1 X.2.1 dX0_ask_122 rfl (lv_at hl 2 rfl) ?_
              refine lv_iload X.1 X.2.1 dX0_ask_123 (lv_at hl 4 rfl) ?_
              replace hm := ob_e hm
              obtain ⟨r_32, h_31, hm⟩ := hm
              refine k_Vi (k := (24 + 5 * x1.toNatClampNeg)) (As := [.int r_25]) X hl.1 hw (c_X8_canBeDown_c (Nat.not_le.mp (fun q => g_4 (Or.inr q))) h_31) (by have := (Nat.not_le.mp (fun q => g_4 (Or.inr q))); omega) (he_X8 g h _ _ _) rfl ⟨wq_19_7, wq_19_8, wq_19_9, wq_4_6, wq_19_10⟩ yo_X8_canBeDown rfl ⟨by show 1 + 1 ≤ (4 + (n_ + 1)); omega, by show 8 + (2 + 11) + 21 ≤ (104 + 24 * (n_ + 1)); omega⟩ (Nat.le_of_ble_eq_true rfl) dX0_ask_125 (fun H locs hw => ?_)
              refine lv_if_eq (tgt := 152) X.1 X.2.1 dX0_ask_128 (by decide) (fun c_33 => ?_) (fun c_33 => ?_)
              · replace hm := it_p hm c_33
                obtain ⟨rfl, rfl⟩ := Prod.mk.inj (Option.some.inj hm)
                exact hret _ _ _ _ hw dX0_ask_152
              · replace hm := it_n hm c_33
                refine lv_aload_n X.1 X.2.1 dX0_ask_131 rfl (lv_at hl 3 rfl) ?_
                refine lv_aload_n X.1 X.2.1 dX0_ask_132 rfl (lv_at hl 2 rfl) ?_
                refine lv_iload X.1 X.2.1 dX0_ask_133 (lv_at hl 4 rfl) ?_
                replace hm := gd_e hm
                obtain ⟨g_36, hm⟩ := hm
                replace hm := ob_e hm
                obtain ⟨t_37, h_35, hm⟩ := hm
                refine k_Vv (k := (24 + 5 * x_22.toNatClampNeg)) (As := [.ref (h (24 + 5 * x1.toNatClampNeg)), .int r_25]) X hl.1 hw (c_X8_takeCut_c (Nat.not_le.mp (fun q => g_23 (Or.inr q))) g_36 (Nat.not_le.mp (fun q => g_4 (Or.inr q))) h_35) (by have := (Nat.not_le.mp (fun q => g_23 (Or.inr q))); omega) (he_X8 g h _ _ _) rfl ⟨wq_19_11, wq_18_18, wq_18_19, wq_4_6, wq_18_20⟩ yo_X8_takeCut rfl ⟨by show 1 + 1 ≤ (4 + (n_ + 1)); omega, by show 8 + (4 + 11) + 24 ≤ (104 + 24 * (n_ + 1)); omega⟩ (Nat.le_of_ble_eq_true rfl) dX0_ask_135 (fun H locs hw => ?_)
                obtain ⟨w_38, ew_38⟩ : ∃ y, y = va_up w_30 x_22.toNatClampNeg t_37 := ⟨_, rfl⟩
                rw [← ew_38] at hw
                replace hm := lt_e hm ew_38
                refine lv_aload_n X.1 X.2.1 dX0_ask_138 rfl (lv_at hl 0 rfl) ?_
                refine lv_iload_n X.1 X.2.1 dX0_ask_139 rfl (lv_at hl 1 rfl) ?_
                refine lv_iconst (v := 1) X.1 X.2.1 dX0_ask_140 (by decide) ?_
                refine lv_iadd X.1 X.2.1 dX0_ask_141 ?_
                replace hm := ob_e hm
                obtain ⟨⟨b_40, w_41⟩, h_39, hm⟩ := hm
                replace hm := un_e hm
                refine k_Sv (As := [.ref (h 14), .int (x1 + (1 : Int32))]) X hl.1 hw (ih h_39) ⟨wq_15_22, wq_15_23, wq_2_5, wq_16_0⟩ yo_X0_ask rfl ⟨by show (4 + n_) + 1 ≤ (4 + (n_ + 1)); omega, by show 8 + (5 + 11) + (104 + 24 * n_) ≤ (104 + 24 * (n_ + 1)); omega⟩ (Nat.le_of_ble_eq_true rfl) dX0_ask_142 (fun H locs hw => ?_)
                refine lv_aload_n X.1 X.2.1 dX0_ask_145 rfl (lv_at hl 2 rfl) ?_
                refine lv_iload X.1 X.2.1 dX0_ask_146 (lv_at hl 4 rfl) ?_
                refine lv_aload_n X.1 X.2.1 dX0_ask_148 rfl (lv_at hl 3 rfl) ?_
                replace hm := gd_e hm
                obtain ⟨g_44, hm⟩ := hm
                replace hm := ob_e hm
                obtain ⟨t_45, h_43, hm⟩ := hm
                refine k_Vv (k := (24 + 5 * x1.toNatClampNeg)) (As := [.int r_25, .ref (h (24 + 5 * x_22.toNatClampNeg))]) X hl.1 hw (c_X8_addDown_c (Nat.not_le.mp (fun q => g_4 (Or.inr q))) g_44 (Nat.not_le.mp (fun q => g_23 (Or.inr q))) h_43) (by have := (Nat.not_le.mp (fun q => g_4 (Or.inr q))); omega) (he_X8 g h _ _ _) rfl ⟨wq_19_12, wq_19_13, wq_19_14, wq_4_6, wq_19_15⟩ yo_X8_addDown rfl ⟨by show 3 + 1 ≤ (4 + (n_ + 1)); omega, by show 8 + (3 + 11) + 82 ≤ (104 + 24 * (n_ + 1)); omega⟩ (Nat.le_of_ble_eq_true rfl) dX0_ask_149 (fun H locs hw => ?_)
                obtain ⟨w_46, ew_46⟩ : ∃ y, y = va_up w_41 x1.toNatClampNeg t_45 := ⟨_, rfl⟩
                rw [← ew_46] at hw
                replace hm := lt_e hm ew_46
                obtain ⟨rfl, rfl⟩ := Prod.mk.inj (Option.some.inj hm)
                exact hret _ _ _ _ hw dX0_ask_152
            refine lv_if_eq (tgt := 122) X.1 X.2.1 dX0_ask_98 (by decide) (fun c_28 => ?_) (fun c_28 => ?_)
            · replace hg_48 := it_p hg_48 c_28
              obtain ⟨rfl, rfl⟩ := Prod.mk.inj (Option.some.inj hg_48)
              exact J_49 _ _ _ hw (lv_sub hl [3, 4, 2, 1, 0] rfl)
            · replace hg_48 := it_n hg_48 c_28
              refine lv_aload_n X.1 X.2.1 dX0_ask_101 rfl (lv_at hl 1 rfl) ?_
              refine lv_aload_n X.1 X.2.1 dX0_ask_102 rfl (lv_at hl 2 rfl) ?_
              refine lv_iload X.1 X.2.1 dX0_ask_103 (lv_at hl 0 rfl) ?_
              replace hg_48 := gd_e hg_48
              obtain ⟨g_52, hg_48⟩ := hg_48
              replace hg_48 := ob_e hg_48
              obtain ⟨t_53, h_51, hg_48⟩ := hg_48
              refine k_Vv (k := (24 + 5 * x_22.toNatClampNeg)) (As := [.ref (h (24 + 5 * x1.toNatClampNeg)), .int r_25]) X hl.1 hw (c_X8_takeJoined_c (Nat.not_le.mp (fun q => g_23 (Or.inr q))) g_52 (Nat.not_le.mp (fun q => g_4 (Or.inr q))) h_51) (by have := (Nat.not_le.mp (fun q => g_23 (Or.inr q))); omega) (he_X8 g h _ _ _) rfl ⟨wq_18_12, wq_18_13, wq_18_14, wq_4_6, wq_18_15⟩ yo_X8_takeJoined rfl ⟨by show 2 + 1 ≤ (4 + (n_ + 1)); omega, by show 8 + (6 + 11) + 47 ≤ (104 + 24 * (n_ + 1)); omega⟩ (Nat.le_of_ble_eq_true rfl) dX0_ask_105 (fun H locs hw => ?_)
              obtain ⟨w_54, ew_54⟩ : ∃ y, y = va_up w_18 x_22.toNatClampNeg t_53 := ⟨_, rfl⟩
              rw [← ew_54] at hw
              replace hg_48 := lt_e hg_48 ew_54
              refine lv_aload_n X.1 X.2.1 dX0_ask_108 rfl (lv_at hl 3 rfl) ?_
              refine lv_iload_n X.1 X.2.1 dX0_ask_109 rfl (lv_at hl 4 rfl) ?_
              refine lv_iconst (v := 1) X.1 X.2.1 dX0_ask_110 (by decide) ?_
              refine lv_iadd X.1 X.2.1 dX0_ask_111 ?_
              replace hg_48 := ob_e hg_48
              obtain ⟨⟨b_56, w_57⟩, h_55, hg_48⟩ := hg_48
              replace hg_48 := un_e hg_48
              refine k_Sv (As := [.ref (h 14), .int (x1 + (1 : Int32))]) X hl.1 hw (ih h_55) ⟨wq_15_22, wq_15_23, wq_2_5, wq_16_0⟩ yo_X0_ask rfl ⟨by show (4 + n_) + 1 ≤ (4 + (n_ + 1)); omega, by show 8 + (5 + 11) + (104 + 24 * n_) ≤ (104 + 24 * (n_ + 1)); omega⟩ (Nat.le_of_ble_eq_true rfl) dX0_ask_112 (fun H locs hw => ?_)
              refine lv_aload_n X.1 X.2.1 dX0_ask_115 rfl (lv_at hl 2 rfl) ?_
              refine lv_iload X.1 X.2.1 dX0_ask_116 (lv_at hl 0 rfl) ?_
              refine lv_aload_n X.1 X.2.1 dX0_ask_118 rfl (lv_at hl 1 rfl) ?_
              replace hg_48 := gd_e hg_48
              obtain ⟨g_60, hg_48⟩ := hg_48
              replace hg_48 := ob_e hg_48
              obtain ⟨t_61, h_59, hg_48⟩ := hg_48
              refine k_Vv (k := (24 + 5 * x1.toNatClampNeg)) (As := [.int r_25, .ref (h (24 + 5 * x_22.toNatClampNeg))]) X hl.1 hw (c_X8_addUp_c (Nat.not_le.mp (fun q => g_4 (Or.inr q))) g_60 (Nat.not_le.mp (fun q => g_23 (Or.inr q))) h_59) (by have := (Nat.not_le.mp (fun q => g_4 (Or.inr q))); omega) (he_X8 g h _ _ _) rfl ⟨wq_18_21, wq_18_22, wq_18_23, wq_4_6, wq_19_0⟩ yo_X8_addUp rfl ⟨by show 3 + 1 ≤ (4 + (n_ + 1)); omega, by show 8 + (3 + 11) + 82 ≤ (104 + 24 * (n_ + 1)); omega⟩ (Nat.le_of_ble_eq_true rfl) dX0_ask_119 (fun H locs hw => ?_)
              obtain ⟨w_62, ew_62⟩ : ∃ y, y = va_up w_57 x1.toNatClampNeg t_61 := ⟨_, rfl⟩
              rw [← ew_62] at hw
              replace hg_48 := lt_e hg_48 ew_62
              obtain ⟨rfl, rfl⟩ := Prod.mk.inj (Option.some.inj hg_48)
              exact J_49 _ _ _ hw (lv_sub hl [3, 4, 2, 1, 0] rfl)
          · replace hm := it_n hm c_21
            obtain ⟨rfl, rfl⟩ := Prod.mk.inj (Option.some.inj hm)
            exact hret _ _ _ _ hw dX0_ask_76
      · replace hm := it_n hm c_3
        obtain ⟨rfl, rfl⟩ := Prod.mk.inj (Option.some.inj hm)
        exact hret _ _ _ _ hw dX0_ask_13
def m_X0_askAll (b : ST) (w : Nat → ST) : Option (ST × (Nat → ST)) := lt (wI b 4 (0 : Int32)) (fun b_1 => lt (wI b_1 5 (0 : Int32)) (fun b_2 => lt (wI b_2 6 (0 : Int32)) (fun b_3 => gd (¬ ((0 : Int32) < 0 ∨ 11 ≤ (0 : Int32).toNatClampNeg)) (Option.bind (m_X8_takeAll (w (0 : Int32).toNatClampNeg) b_3) (fun (t_6 : ST) => lt (va_up w (0 : Int32).toNatClampNeg t_6) (fun w_7 => Option.bind (m_X0_ask 12 b_3 w_7 (0 : Int32)) (fun (q_11 : ST × (Nat → ST)) => un q_11 (fun b_9 w_10 => some (b_9, w_10)))))))))
theorem yo_X0_askAll : yX0_askAll.cls = RX0 ∧ yX0_askAll.cls ≠ "java/lang/invoke/MethodHandle" ∧ yX0_askAll.cls ≠ "java/lang/invoke/VarHandle" ∧ (parseMethodDescriptor yX0_askAll.desc).map (fun d => d.parameters.length) = some 0 := by decide +kernel
set_option maxHeartbeats 4000000 in
set_option maxRecDepth 100000 in
theorem c_X0_askAll {l : Launch} {g : gT} {h : Nat → Nat} {b : ST} {w : Nat → ST} {b' : ST} {w' : (Nat → ST)} (hm : m_X0_askAll b w = some (b', w')) : MetV l g yX0_askAll cX0_askAll 1 none 17 416 79 h (cC g h (b, w)) (cC g h (b', w')) [.ref (h 14)] := by
  refine MetV.ofX (by decide +kernel) (Nat.le_of_ble_eq_true rfl) ?_
  intro p e s m below meth c AV Q X hret ls hw hl
  replace X : Cx g p s m AV c cX0_askAll RX0 1 := X
  replace hl : lv_has ls 1 [(0, .ref (h 14))] := hl
  unfold m_X0_askAll at hm
  refine lv_aload_n X.1 X.2.1 dX0_askAll_0 rfl (lv_at hl 0 rfl) ?_
  refine lv_iconst (v := 0) X.1 X.2.1 dX0_askAll_1 (by decide) ?_
  refine pX0_steps X hw wq_15_0 dX0_askAll_2 (fun H locs hw => ?_)
  obtain ⟨b_1, eb_1⟩ : ∃ y, y = wI b 4 (0 : Int32) := ⟨_, rfl⟩
  rw [← eb_1] at hw
  replace hm := lt_e hm eb_1
  refine lv_aload_n X.1 X.2.1 dX0_askAll_5 rfl (lv_at hl 0 rfl) ?_
  refine lv_iconst (v := 0) X.1 X.2.1 dX0_askAll_6 (by decide) ?_
  refine pX0_deep X hw wq_15_1 dX0_askAll_7 (fun H locs hw => ?_)
  obtain ⟨b_2, eb_2⟩ : ∃ y, y = wI b_1 5 (0 : Int32) := ⟨_, rfl⟩
  rw [← eb_2] at hw
  replace hm := lt_e hm eb_2
  refine lv_aload_n X.1 X.2.1 dX0_askAll_10 rfl (lv_at hl 0 rfl) ?_
  refine lv_iconst (v := 0) X.1 X.2.1 dX0_askAll_11 (by decide) ?_
  refine pX0_tidied X hw wq_15_2 dX0_askAll_12 (fun H locs hw => ?_)
  obtain ⟨b_3, eb_3⟩ : ∃ y, y = wI b_2 6 (0 : Int32) := ⟨_, rfl⟩
  rw [← eb_3] at hw
  replace hm := lt_e hm eb_3
  refine lv_aload_n X.1 X.2.1 dX0_askAll_15 rfl (lv_at hl 0 rfl) ?_
  refine gX0_levels X hw wq_4_3 dX0_askAll_16 ?_
  refine lv_iconst (v := 0) X.1 X.2.1 dX0_askAll_19 (by decide) ?_
  replace hm := gd_e hm
  obtain ⟨g_4, hm⟩ := hm
  refine l_lev X hw g_4 dX0_askAll_20 ?_
  refine lv_aload_n X.1 X.2.1 dX0_askAll_21 rfl (lv_at hl 0 rfl) ?_
  refine gX0_net X hw wq_4_4 dX0_askAll_22 ?_
  replace hm := ob_e hm
  obtain ⟨t_6, h_5, hm⟩ := hm
  refine k_Vv (k := (24 + 5 * (0 : Int32).toNatClampNeg)) (As := [.ref (h 1)]) X hl.1 hw (c_X8_takeAll_c (Nat.not_le.mp (fun q => g_4 (Or.inr q))) h_5) (by have := (Nat.not_le.mp (fun q => g_4 (Or.inr q))); omega) (he_X8 g h _ _ _) rfl ⟨wq_15_3, wq_15_4, wq_15_5, wq_4_6, wq_15_6⟩ yo_X8_takeAll rfl ⟨Nat.le_of_ble_eq_true rfl, Nat.le_of_ble_eq_true rfl⟩ (Nat.le_of_ble_eq_true rfl) dX0_askAll_25 (fun H locs hw => ?_)
  obtain ⟨w_7, ew_7⟩ : ∃ y, y = va_up w (0 : Int32).toNatClampNeg t_6 := ⟨_, rfl⟩
  rw [← ew_7] at hw
  replace hm := lt_e hm ew_7
  refine lv_aload_n X.1 X.2.1 dX0_askAll_28 rfl (lv_at hl 0 rfl) ?_
  refine lv_iconst (v := 0) X.1 X.2.1 dX0_askAll_29 (by decide) ?_
  replace hm := ob_e hm
  obtain ⟨⟨b_9, w_10⟩, h_8, hm⟩ := hm
  replace hm := un_e hm
  refine k_Sv (As := [.ref (h 14), .int (0 : Int32)]) X hl.1 hw (c_X0_ask 12 h_8) ⟨wq_15_22, wq_15_23, wq_2_5, wq_16_0⟩ yo_X0_ask rfl ⟨Nat.le_of_ble_eq_true rfl, Nat.le_of_ble_eq_true rfl⟩ (Nat.le_of_ble_eq_true rfl) dX0_askAll_30 (fun H locs hw => ?_)
  obtain ⟨rfl, rfl⟩ := Prod.mk.inj (Option.some.inj hm)
  exact hret _ _ _ _ hw dX0_askAll_33
def m_X0_told (b : ST) (w : Nat → ST) (x1 : Int32) : Option (Int64) := if x1 = 0 then gd (¬ ((0 : Int32) < 0 ∨ 11 ≤ (0 : Int32).toNatClampNeg)) (Option.bind (m_X8_answerAbove (w (0 : Int32).toNatClampNeg)) (fun (r_4 : Int64) => some r_4)) else (if x1 = 1 then gd (¬ ((0 : Int32) < 0 ∨ 11 ≤ (0 : Int32).toNatClampNeg)) (Option.bind (m_X8_answerBelow (w (0 : Int32).toNatClampNeg)) (fun (r_8 : Int64) => some r_8)) else (if x1 = 2 then some (b.1 4).toInt64 else (if x1 = 3 then some (b.1 5).toInt64 else (some (b.1 6).toInt64))))
theorem yo_X0_told : yX0_told.cls = RX0 ∧ yX0_told.cls ≠ "java/lang/invoke/MethodHandle" ∧ yX0_told.cls ≠ "java/lang/invoke/VarHandle" ∧ (parseMethodDescriptor yX0_told.desc).map (fun d => d.parameters.length) = some 1 := by decide +kernel
set_option maxHeartbeats 4000000 in
set_option maxRecDepth 100000 in
theorem c_X0_told {l : Launch} {g : gT} {h : Nat → Nat} {b : ST} {w : Nat → ST} {x1 : Int32} {r : Int64} (hm : m_X0_told b w x1 = some r) : MetL l g yX0_told cX0_told 2 (some .long) 1 20 79 h (cC g h (b, w)) (cC g h (b, w)) [.ref (h 14), .int x1] r := by
  refine MetL.ofX (by decide +kernel) (Nat.le_of_ble_eq_true rfl) ?_
  intro p e s m below meth c AV Q X hret ls hw hl
  replace X : Cx g p s m AV c cX0_told RX0 2 := X
  replace hl : lv_has ls 2 [(0, .ref (h 14)), (1, .int x1)] := hl
  unfold m_X0_told at hm
  refine lv_iload_n X.1 X.2.1 dX0_told_0 rfl (lv_at hl 1 rfl) ?_
  by_cases c_1 : x1 = 0
  · replace hm := it_p hm c_1
    refine x_tab X c_1 dX0_told_1 (off := 31) (tgt := 32) (by decide) (by decide) rfl (by decide) ?_
    refine lv_aload_n X.1 X.2.1 dX0_told_32 rfl (lv_at hl 0 rfl) ?_
    refine gX0_levels X hw wq_4_3 dX0_told_33 ?_
    refine lv_iconst (v := 0) X.1 X.2.1 dX0_told_36 (by decide) ?_
    replace hm := gd_e hm
    obtain ⟨g_2, hm⟩ := hm
    refine l_lev X hw g_2 dX0_told_37 ?_
    replace hm := ob_e hm
    obtain ⟨r_4, h_3, hm⟩ := hm
    refine k_Vl (k := (24 + 5 * (0 : Int32).toNatClampNeg)) (As := []) X hl.1 hw (c_X8_answerAbove_c (Nat.not_le.mp (fun q => g_2 (Or.inr q))) h_3) (by have := (Nat.not_le.mp (fun q => g_2 (Or.inr q))); omega) (he_X8 g h _ _ _) rfl ⟨wq_19_20, wq_19_21, wq_19_22, wq_4_6, wq_19_23⟩ yo_X8_answerAbove rfl ⟨Nat.le_of_ble_eq_true rfl, Nat.le_of_ble_eq_true rfl⟩ (Nat.le_of_ble_eq_true rfl) dX0_told_38 (fun H locs hw => ?_)
    obtain rfl := Option.some.inj hm
    exact hret _ _ _ _ hw dX0_told_41
  · replace hm := it_n hm c_1
    by_cases c_5 : x1 = 1
    · replace hm := it_p hm c_5
      refine x_tab X c_5 dX0_told_1 (off := 41) (tgt := 42) (by decide) (by decide) rfl (by decide) ?_
      refine lv_aload_n X.1 X.2.1 dX0_told_42 rfl (lv_at hl 0 rfl) ?_
      refine gX0_levels X hw wq_4_3 dX0_told_43 ?_
      refine lv_iconst (v := 0) X.1 X.2.1 dX0_told_46 (by decide) ?_
      replace hm := gd_e hm
      obtain ⟨g_6, hm⟩ := hm
      refine l_lev X hw g_6 dX0_told_47 ?_
      replace hm := ob_e hm
      obtain ⟨r_8, h_7, hm⟩ := hm
      refine k_Vl (k := (24 + 5 * (0 : Int32).toNatClampNeg)) (As := []) X hl.1 hw (c_X8_answerBelow_c (Nat.not_le.mp (fun q => g_6 (Or.inr q))) h_7) (by have := (Nat.not_le.mp (fun q => g_6 (Or.inr q))); omega) (he_X8 g h _ _ _) rfl ⟨wq_20_0, wq_20_1, wq_20_2, wq_4_6, wq_20_3⟩ yo_X8_answerBelow rfl ⟨Nat.le_of_ble_eq_true rfl, Nat.le_of_ble_eq_true rfl⟩ (Nat.le_of_ble_eq_true rfl) dX0_told_48 (fun H locs hw => ?_)
      obtain rfl := Option.some.inj hm
      exact hret _ _ _ _ hw dX0_told_51
    · replace hm := it_n hm c_5
      by_cases c_9 : x1 = 2
      · replace hm := it_p hm c_9
        refine x_tab X c_9 dX0_told_1 (off := 51) (tgt := 52) (by decide) (by decide) rfl (by decide) ?_
        refine lv_aload_n X.1 X.2.1 dX0_told_52 rfl (lv_at hl 0 rfl) ?_
        refine gX0_steps X hw wq_15_0 dX0_told_53 ?_
        refine lv_i2l X.1 X.2.1 dX0_told_56 rfl ?_
        obtain rfl := Option.some.inj hm
        exact hret _ _ _ _ hw dX0_told_57
      · replace hm := it_n hm c_9
        by_cases c_10 : x1 = 3
        · replace hm := it_p hm c_10
          refine x_tab X c_10 dX0_told_1 (off := 57) (tgt := 58) (by decide) (by decide) rfl (by decide) ?_
          refine lv_aload_n X.1 X.2.1 dX0_told_58 rfl (lv_at hl 0 rfl) ?_
          refine gX0_deep X hw wq_15_1 dX0_told_59 ?_
          refine lv_i2l X.1 X.2.1 dX0_told_62 rfl ?_
          obtain rfl := Option.some.inj hm
          exact hret _ _ _ _ hw dX0_told_63
        · replace hm := it_n hm c_10
          have tc_1 : ¬ x1.toInt = 0 := lv_neT c_1 (k := 0) (by decide)
          have tc_5 : ¬ x1.toInt = 1 := lv_neT c_5 (k := 1) (by decide)
          have tc_9 : ¬ x1.toInt = 2 := lv_neT c_9 (k := 2) (by decide)
          have tc_10 : ¬ x1.toInt = 3 := lv_neT c_10 (k := 3) (by decide)
          refine lv_tableOut X.1 X.2.1 (tgt := 64) dX0_told_1 (by omega) (by decide) ?_
          refine lv_aload_n X.1 X.2.1 dX0_told_64 rfl (lv_at hl 0 rfl) ?_
          refine gX0_tidied X hw wq_15_2 dX0_told_65 ?_
          refine lv_i2l X.1 X.2.1 dX0_told_68 rfl ?_
          obtain rfl := Option.some.inj hm
          exact hret _ _ _ _ hw dX0_told_69
